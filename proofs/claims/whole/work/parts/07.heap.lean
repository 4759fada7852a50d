/-! ===== fields, arrays ===== -/
def CF (ci : Nat) (C : String) (T : u_T) (N : Nat) : Prop := vwCl[ci]? = some (C, T, N) ∧ cnF ci = N ∧ (∀ w ∈ u_ws C T N, w ∈ TT) ∧ (∀ k, k < N → parseFieldDescriptor (T k).2.2.1 = some (ctF ci k)) ∧ (∀ a, a < N → ∀ b, b < N → a ≠ b → (T a).2.1 ≠ (T b).2.1) ∧ ci < 12
def FL (own : String) (idx ci k : Nat) : Prop := ∃ C T N, CF ci C T N ∧ k < N ∧ Cond.fieldLink own idx (T k).1 (T k).2.1 (T k).2.2.1 ∈ TT
def FW (own : String) (idx ci k : Nat) : Prop := ∃ C T N, CF ci C T N ∧ k < N ∧ Cond.fieldLink own idx (T k).1 (T k).2.1 (T k).2.2.1 ∈ TT ∧ (T k).2.2.2 = false
theorem mb_some {α β : Type} {f : MM α} {k : α → MM β} {d : Dm} {q : β × Dm} (h : mb f k d = some q) : ∃ a d1, f d = some (a, d1) ∧ k a d1 = some q := by
  unfold mb at h
  split at h
  · cases h
  · next x hx => exact ⟨x.1, x.2, hx, h⟩
theorem some_if {α : Type} {c : Prop} [Decidable c] {x y : α} (h : (if c then some x else none) = some y) : c ∧ x = y := by
  by_cases hc : c
  · rw [if_pos hc] at h; exact ⟨hc, Option.some.inj h⟩
  · rw [if_neg hc] at h; cases h
theorem u2_s {α : Type} (f : Nat → Nat → α) (a k : Nat) (x : α) : u2 f a k x a k = x := if_pos ⟨rfl, rfl⟩
theorem u2_a {α : Type} (f : Nat → Nat → α) {a b : Nat} (h : b ≠ a) (k : Nat) (x : α) (j : Nat) : u2 f a k x b j = f b j := if_neg fun q => h q.1
theorem u2_k {α : Type} (f : Nat → Nat → α) (a b : Nat) {k j : Nat} (h : j ≠ k) (x : α) : u2 f a k x b j = f b j := if_neg fun q => h q.2
theorem u2_row {α : Type} (f : Nat → Nat → α) {a b : Nat} (h : b ≠ a) (k : Nat) (x : α) : u2 f a k x b = f b := funext fun j => u2_a f h k x j
section
variable {cy : Nat → ClassId} {ad : Nat → Nat} {Z : Zt} {d d' : Dm} {a ci k : Nat}
theorem wc_obj (h : Z.2.1 a = ci + 1) (hc : ci < 12) : wc cy ad Z d a = .inr (ci, fl ad d a ci) := by
  unfold wc
  rw [if_pos (by omega), h]
  rfl
theorem wc_int {c : Nat} (h : Z.2.1 a = c) (hc : c = 21 ∨ c = 22 ∨ c = 23 ∨ c = 25) : wc cy ad Z d a = .inl (cy c, Z.2.2 a, .inl (d.1 a)) := by
  unfold wc
  rw [if_neg (by omega), if_neg (by omega), if_pos (by omega), h]
theorem wc_long (h : Z.2.1 a = 24) : wc cy ad Z d a = .inl (cy 24, Z.2.2 a, .inr (.inl (d.2.1 a))) := by
  unfold wc
  rw [if_neg (by omega), if_pos h]
theorem wc_ref {c : Nat} (h : Z.2.1 a = c) (hc : c = 26 ∨ c = 27) : wc cy ad Z d a = .inl (cy c, Z.2.2 a, .inr (.inr (.inr (.inr (fun k => ro ad (d.2.2 a k)))))) := by
  unfold wc
  rw [if_neg (by omega), if_neg (by omega), if_neg (by omega), h]
theorem fv_congr (h1 : d'.1 a = d.1 a) (h2 : d'.2.1 a = d.2.1 a) (h3 : d'.2.2 a = d.2.2 a) (ty : FieldType) : fv ad d' a k ty = fv ad d a k ty := by
  unfold fv
  rw [h1, h2, h3]
theorem wc_congr (h1 : d'.1 a = d.1 a) (h2 : d'.2.1 a = d.2.1 a) (h3 : d'.2.2 a = d.2.2 a) : wc cy ad Z d' a = wc cy ad Z d a := by
  have e : ∀ ci, fl ad d' a ci = fl ad d a ci := fun ci => by
    unfold fl
    exact List.map_congr_left (fun k _ => fv_congr h1 h2 h3 _)
  unfold wc
  rw [e, h1, h2, h3]
theorem fl_get (h : k < cnF ci) : (fl ad d a ci)[k]? = some (fv ad d a k (ctF ci k)) := by
  simp [fl, List.getElem?_range h]
theorem fl_len : (fl ad d a ci).length = cnF ci := by simp [fl]
theorem fl_set {v : Value} (hv : fv ad d' a k (ctF ci k) = v) (ho : ∀ j, j ≠ k → fv ad d' a j (ctF ci j) = fv ad d a j (ctF ci j)) : (fl ad d a ci).set k v = fl ad d' a ci := by
  apply List.ext_getElem?
  intro i
  by_cases hl : i < cnF ci
  · rw [List.getElem?_set, fl_get hl, fl_get hl, fl_len]
    by_cases hi : k = i
    · subst hi; rw [if_pos rfl, if_pos hl, hv]
    · rw [if_neg hi, ho i (fun q => hi q.symm)]
  · rw [List.getElem?_eq_none (by rw [List.length_set, fl_len]; omega), List.getElem?_eq_none (by rw [fl_len]; omega)]
end
theorem ib_in {i : Int32} {n : Nat} (h : ib i n) : vp_in i n := fun q => q.elim (fun q => absurd h.1 (Int32.not_le.mpr q)) (fun q => absurd h.2 (Nat.not_lt.mpr q))
theorem ref_st {ad : Nat → Nat} {Z : Zt} {a : Nat} (hk : Vk ad Z) (h : Z.2.1 a ≠ 0) : (1 ≤ a ∧ a ≤ Z.1) ∧ cv ad (.ref a) = .ref (ad a) := ⟨hk.2 a h, rv_n (fun q => by have := (hk.2 a h).1; omega)⟩
theorem chr_nar {x : Int32} (h : 0 ≤ x ∧ x ≤ 65535) : narrow .char (.int x) = .int x := by
  obtain ⟨j, hj, rfl⟩ := nI_of2 (M := 65535) (n := 65535) rfl (Int32.not_lt.mpr h.1) h.2
  exact (pk_charN (show j < 65536 by omega)).1
section
variable {ρ : Type} {G : GT} {R : Room} {ad : Nat → Nat} {Z : Zt} {ck : Nat × Nat} {K : ρ → Dm → Prop} {pc nL : Nat} {cc : ByteArray} {own : String} {L : List (Nat × Value)} {st : List Value} {f : MM ρ}
theorem s_getI (C : Cx G R cc nL own) (hV : Vx G R ad Z ck) {idx ci k : Nat} (hF : FL own idx ci k) (hty : ∀ (ad : Nat → Nat) (d : Dm) (a : Nat), fv ad d a k (ctF ci k) = .int (d.1 a k)) {a : Nat} {kf : Int32 → MM ρ} (hd : decode cc pc = .ok (.getfield idx, 3)) (kk : ∀ x, Sm G R ad Z ck K (pc + 3) L (.int x :: st) (kf x)) : Sm G R ad Z ck K pc L (.ref a :: st) (mb (gI Z (ci + 1) k a) kf) := by
  obtain ⟨p, l, e, s, m, args, below, meth, c, Q, A, cy, D⟩ := G
  obtain ⟨hx, hb, hml, hown, hts, hTy, hWd, hA, hlk⟩ := C
  obtain ⟨hVk, hVA, hVc⟩ := hV
  have hVA : ∀ a, 1 ≤ a → a ≤ Z.1 → A (ad a) := hVA
  intro d r d' hf hK H locs ls hl hP hS
  obtain ⟨x, d1, h1, h2⟩ := mb_some hf
  obtain ⟨hk, he⟩ := some_if h1
  cases he
  obtain ⟨hz, hr⟩ := ref_st hVk (a := a) (by omega)
  obtain ⟨C', T, N, hcf, hkN, hw⟩ := hF
  rw [List.map_cons, hr]
  exact va_get hx hb hts hcf.2.2.1 hown hTy hP (a - 1) ((wd_at hz.1 hz.2).trans (by rw [wc_obj hk hcf.2.2.2.2.2])) hcf.1 k hkN (hts _ hw) (fun _ h => h) ((fl_get (by rw [hcf.2.1]; exact hkN)).trans (by rw [hty]; rfl)) hd (kk _ d r d' h2 hK H locs ls hl hP hS)
theorem s_getL (C : Cx G R cc nL own) (hV : Vx G R ad Z ck) {idx ci k : Nat} (hF : FL own idx ci k) (hty : ∀ (ad : Nat → Nat) (d : Dm) (a : Nat), fv ad d a k (ctF ci k) = .long (d.2.1 a k)) {a : Nat} {kf : Int64 → MM ρ} (hd : decode cc pc = .ok (.getfield idx, 3)) (kk : ∀ x, Sm G R ad Z ck K (pc + 3) L (.long x :: st) (kf x)) : Sm G R ad Z ck K pc L (.ref a :: st) (mb (gL Z (ci + 1) k a) kf) := by
  obtain ⟨p, l, e, s, m, args, below, meth, c, Q, A, cy, D⟩ := G
  obtain ⟨hx, hb, hml, hown, hts, hTy, hWd, hA, hlk⟩ := C
  obtain ⟨hVk, hVA, hVc⟩ := hV
  have hVA : ∀ a, 1 ≤ a → a ≤ Z.1 → A (ad a) := hVA
  intro d r d' hf hK H locs ls hl hP hS
  obtain ⟨x, d1, h1, h2⟩ := mb_some hf
  obtain ⟨hk, he⟩ := some_if h1
  cases he
  obtain ⟨hz, hr⟩ := ref_st hVk (a := a) (by omega)
  obtain ⟨C', T, N, hcf, hkN, hw⟩ := hF
  rw [List.map_cons, hr]
  exact va_get hx hb hts hcf.2.2.1 hown hTy hP (a - 1) ((wd_at hz.1 hz.2).trans (by rw [wc_obj hk hcf.2.2.2.2.2])) hcf.1 k hkN (hts _ hw) (fun _ h => h) ((fl_get (by rw [hcf.2.1]; exact hkN)).trans (by rw [hty]; rfl)) hd (kk _ d r d' h2 hK H locs ls hl hP hS)
theorem s_getR (C : Cx G R cc nL own) (hV : Vx G R ad Z ck) {idx ci k : Nat} (hF : FL own idx ci k) (hty : ∀ (ad : Nat → Nat) (d : Dm) (a : Nat), fv ad d a k (ctF ci k) = rv ad (d.2.2 a k)) {a : Nat} {kf : Nat → MM ρ} (hd : decode cc pc = .ok (.getfield idx, 3)) (kk : ∀ x, Sm G R ad Z ck K (pc + 3) L (.ref x :: st) (kf x)) : Sm G R ad Z ck K pc L (.ref a :: st) (mb (gR Z (ci + 1) k a) kf) := by
  obtain ⟨p, l, e, s, m, args, below, meth, c, Q, A, cy, D⟩ := G
  obtain ⟨hx, hb, hml, hown, hts, hTy, hWd, hA, hlk⟩ := C
  obtain ⟨hVk, hVA, hVc⟩ := hV
  have hVA : ∀ a, 1 ≤ a → a ≤ Z.1 → A (ad a) := hVA
  intro d r d' hf hK H locs ls hl hP hS
  obtain ⟨x, d1, h1, h2⟩ := mb_some hf
  obtain ⟨hk, he⟩ := some_if h1
  cases he
  obtain ⟨hz, hr⟩ := ref_st hVk (a := a) (by omega)
  obtain ⟨C', T, N, hcf, hkN, hw⟩ := hF
  rw [List.map_cons, hr]
  exact va_get hx hb hts hcf.2.2.1 hown hTy hP (a - 1) ((wd_at hz.1 hz.2).trans (by rw [wc_obj hk hcf.2.2.2.2.2])) hcf.1 k hkN (hts _ hw) (fun _ h => h) ((fl_get (by rw [hcf.2.1]; exact hkN)).trans (by rw [hty]; rfl)) hd (kk _ d r d' h2 hK H locs ls hl hP hS)
theorem s_putI (C : Cx G R cc nL own) (hV : Vx G R ad Z ck) {idx ci k : Nat} (hF : FW own idx ci k) (hty : ctF ci k = .int) {a : Nat} {v : Int32} {kf : Unit → MM ρ} (hd : decode cc pc = .ok (.putfield idx, 3)) (kk : Sm G R ad Z ck K (pc + 3) L st (kf ())) : Sm G R ad Z ck K pc L (.int v :: .ref a :: st) (mb (pI Z (ci + 1) k a v) kf) := by
  obtain ⟨p, l, e, s, m, args, below, meth, c, Q, A, cy, D⟩ := G
  obtain ⟨hx, hb, hml, hown, hts, hTy, hWd, hA, hlk⟩ := C
  obtain ⟨hVk, hVA, hVc⟩ := hV
  have hVA : ∀ a, 1 ≤ a → a ≤ Z.1 → A (ad a) := hVA
  intro d r d' hf hK H locs ls hl hP hS
  obtain ⟨x, d1, h1, h2⟩ := mb_some hf
  obtain ⟨hk, he⟩ := some_if h1
  cases he
  have hk1 : Z.2.1 a = ci + 1 := hk
  obtain ⟨hz, hr⟩ := ref_st hVk (a := a) (by omega)
  obtain ⟨C', T, N, hcf, hkN, hw, hfin⟩ := hF
  rw [List.map_cons, List.map_cons, hr]
  refine va_put (v := .int v) hx hb hts hcf.2.2.1 (ctF ci) hcf.2.2.2.1 hcf.2.2.2.2.1 hown hTy hP (vk_D hVk hVA) hS (a - 1) ((wd_at hz.1 hz.2).trans (by rw [wc_obj hk1 hcf.2.2.2.2.2])) hcf.1 k hkN (hts _ hw) (fun _ h => h) hfin ((hcf.2.2.2.1 k hkN).trans (by rw [hty])) rfl rfl (by rw [fl_len, hcf.2.1]; exact hkN) hd (fun H1 locs1 hP1 _ hS1 => ?_)
  refine kk _ r d' h2 hK H1 locs1 ls hl ?_ hS1
  rw [← wd_set hz.1 (wc_obj hk1 hcf.2.2.2.2.2) (fun b hb2 => wc_congr ?_ ?_ ?_), ← fl_set (d := d) (k := k)]
  · exact hP1
  · rw [hty]; show Value.int (u2 _ a k v a k) = Value.int v; rw [u2_s]
  · intro j hj; unfold fv; simp only [u2_k _ _ _ hj]
  · exact u2_row d.1 hb2 k v
  · rfl
  · rfl
theorem s_putZ (C : Cx G R cc nL own) (hV : Vx G R ad Z ck) {idx ci k : Nat} (hF : FW own idx ci k) (hty : ctF ci k = .boolean) {a : Nat} {v : Int32} {kf : Unit → MM ρ} (hd : decode cc pc = .ok (.putfield idx, 3)) (kk : Sm G R ad Z ck K (pc + 3) L st (kf ())) : Sm G R ad Z ck K pc L (.int v :: .ref a :: st) (mb (pZ Z (ci + 1) k a v) kf) := by
  obtain ⟨p, l, e, s, m, args, below, meth, c, Q, A, cy, D⟩ := G
  obtain ⟨hx, hb, hml, hown, hts, hTy, hWd, hA, hlk⟩ := C
  obtain ⟨hVk, hVA, hVc⟩ := hV
  have hVA : ∀ a, 1 ≤ a → a ≤ Z.1 → A (ad a) := hVA
  intro d r d' hf hK H locs ls hl hP hS
  obtain ⟨x, d1, h1, h2⟩ := mb_some hf
  obtain ⟨hk, he⟩ := some_if h1
  cases he
  have hk1 : Z.2.1 a = ci + 1 := hk.1
  obtain ⟨hz, hr⟩ := ref_st hVk (a := a) (by omega)
  obtain ⟨C', T, N, hcf, hkN, hw, hfin⟩ := hF
  rw [List.map_cons, List.map_cons, hr]
  refine va_put (v := .int v) hx hb hts hcf.2.2.1 (ctF ci) hcf.2.2.2.1 hcf.2.2.2.2.1 hown hTy hP (vk_D hVk hVA) hS (a - 1) ((wd_at hz.1 hz.2).trans (by rw [wc_obj hk1 hcf.2.2.2.2.2])) hcf.1 k hkN (hts _ hw) (fun _ h => h) hfin ((hcf.2.2.2.1 k hkN).trans (by rw [hty])) (by rcases hk.2 with e | e <;> rw [e] <;> rfl) (by rcases hk.2 with e | e <;> rw [e] <;> rfl) (by rw [fl_len, hcf.2.1]; exact hkN) hd (fun H1 locs1 hP1 _ hS1 => ?_)
  refine kk _ r d' h2 hK H1 locs1 ls hl ?_ hS1
  rw [← wd_set hz.1 (wc_obj hk1 hcf.2.2.2.2.2) (fun b hb2 => wc_congr ?_ ?_ ?_), ← fl_set (d := d) (k := k)]
  · exact hP1
  · rw [hty]; show Value.int (u2 _ a k v a k) = Value.int v; rw [u2_s]
  · intro j hj; unfold fv; simp only [u2_k _ _ _ hj]
  · exact u2_row d.1 hb2 k v
  · rfl
  · rfl
theorem s_putC (C : Cx G R cc nL own) (hV : Vx G R ad Z ck) {idx ci k : Nat} (hF : FW own idx ci k) (hty : ctF ci k = .char) {a : Nat} {v : Int32} {kf : Unit → MM ρ} (hd : decode cc pc = .ok (.putfield idx, 3)) (kk : Sm G R ad Z ck K (pc + 3) L st (kf ())) : Sm G R ad Z ck K pc L (.int v :: .ref a :: st) (mb (pC Z (ci + 1) k a v) kf) := by
  obtain ⟨p, l, e, s, m, args, below, meth, c, Q, A, cy, D⟩ := G
  obtain ⟨hx, hb, hml, hown, hts, hTy, hWd, hA, hlk⟩ := C
  obtain ⟨hVk, hVA, hVc⟩ := hV
  have hVA : ∀ a, 1 ≤ a → a ≤ Z.1 → A (ad a) := hVA
  intro d r d' hf hK H locs ls hl hP hS
  obtain ⟨x, d1, h1, h2⟩ := mb_some hf
  obtain ⟨hk, he⟩ := some_if h1
  cases he
  have hk1 : Z.2.1 a = ci + 1 := hk.1
  obtain ⟨hz, hr⟩ := ref_st hVk (a := a) (by omega)
  obtain ⟨C', T, N, hcf, hkN, hw, hfin⟩ := hF
  rw [List.map_cons, List.map_cons, hr]
  refine va_put (v := .int v) hx hb hts hcf.2.2.1 (ctF ci) hcf.2.2.2.1 hcf.2.2.2.2.1 hown hTy hP (vk_D hVk hVA) hS (a - 1) ((wd_at hz.1 hz.2).trans (by rw [wc_obj hk1 hcf.2.2.2.2.2])) hcf.1 k hkN (hts _ hw) (fun _ h => h) hfin ((hcf.2.2.2.1 k hkN).trans (by rw [hty])) (chr_nar hk.2) (by simp [fits, hk.2.1, hk.2.2]) (by rw [fl_len, hcf.2.1]; exact hkN) hd (fun H1 locs1 hP1 _ hS1 => ?_)
  refine kk _ r d' h2 hK H1 locs1 ls hl ?_ hS1
  rw [← wd_set hz.1 (wc_obj hk1 hcf.2.2.2.2.2) (fun b hb2 => wc_congr ?_ ?_ ?_), ← fl_set (d := d) (k := k)]
  · exact hP1
  · rw [hty]; show Value.int (u2 _ a k v a k) = Value.int v; rw [u2_s]
  · intro j hj; unfold fv; simp only [u2_k _ _ _ hj]
  · exact u2_row d.1 hb2 k v
  · rfl
  · rfl
theorem s_putL (C : Cx G R cc nL own) (hV : Vx G R ad Z ck) {idx ci k : Nat} (hF : FW own idx ci k) (hty : ctF ci k = .long) {a : Nat} {v : Int64} {kf : Unit → MM ρ} (hd : decode cc pc = .ok (.putfield idx, 3)) (kk : Sm G R ad Z ck K (pc + 3) L st (kf ())) : Sm G R ad Z ck K pc L (.long v :: .ref a :: st) (mb (pL Z (ci + 1) k a v) kf) := by
  obtain ⟨p, l, e, s, m, args, below, meth, c, Q, A, cy, D⟩ := G
  obtain ⟨hx, hb, hml, hown, hts, hTy, hWd, hA, hlk⟩ := C
  obtain ⟨hVk, hVA, hVc⟩ := hV
  have hVA : ∀ a, 1 ≤ a → a ≤ Z.1 → A (ad a) := hVA
  intro d r d' hf hK H locs ls hl hP hS
  obtain ⟨x, d1, h1, h2⟩ := mb_some hf
  obtain ⟨hk, he⟩ := some_if h1
  cases he
  have hk1 : Z.2.1 a = ci + 1 := hk
  obtain ⟨hz, hr⟩ := ref_st hVk (a := a) (by omega)
  obtain ⟨C', T, N, hcf, hkN, hw, hfin⟩ := hF
  rw [List.map_cons, List.map_cons, hr]
  refine va_put (v := .long v) hx hb hts hcf.2.2.1 (ctF ci) hcf.2.2.2.1 hcf.2.2.2.2.1 hown hTy hP (vk_D hVk hVA) hS (a - 1) ((wd_at hz.1 hz.2).trans (by rw [wc_obj hk1 hcf.2.2.2.2.2])) hcf.1 k hkN (hts _ hw) (fun _ h => h) hfin ((hcf.2.2.2.1 k hkN).trans (by rw [hty])) rfl rfl (by rw [fl_len, hcf.2.1]; exact hkN) hd (fun H1 locs1 hP1 _ hS1 => ?_)
  refine kk _ r d' h2 hK H1 locs1 ls hl ?_ hS1
  rw [← wd_set hz.1 (wc_obj hk1 hcf.2.2.2.2.2) (fun b hb2 => wc_congr ?_ ?_ ?_), ← fl_set (d := d) (k := k)]
  · exact hP1
  · rw [hty]; show Value.long (u2 _ a k v a k) = Value.long v; rw [u2_s]
  · intro j hj; unfold fv; simp only [u2_k _ _ _ hj]
  · rfl
  · exact u2_row d.2.1 hb2 k v
  · rfl
theorem s_iaload (C : Cx G R cc nL own) (hV : Vx G R ad Z ck) {a : Nat} {i : Int32} {kf : Int32 → MM ρ} (hd : decode cc pc = .ok (.iaload, 1)) (kk : ∀ x, Sm G R ad Z ck K (pc + 1) L (.int x :: st) (kf x)) : Sm G R ad Z ck K pc L (.int i :: .ref a :: st) (mb (aI Z 23 a i) kf) := by
  obtain ⟨p, l, e, s, m, args, below, meth, c, Q, A, cy, D⟩ := G
  obtain ⟨hx, hb, hml, hown, hts, hTy, hWd, hA, hlk⟩ := C
  obtain ⟨hVk, hVA, hVc⟩ := hV
  have hVA : ∀ a, 1 ≤ a → a ≤ Z.1 → A (ad a) := hVA
  intro d r d' hf hK H locs ls hl hP hS
  obtain ⟨x, d1, h1, h2⟩ := mb_some hf
  obtain ⟨hk, he⟩ := some_if h1
  cases he
  obtain ⟨hz, hr⟩ := ref_st hVk (a := a) (by omega)
  rw [List.map_cons, List.map_cons, hr]
  exact va_iald hx hb hTy hP (a - 1) 2 ((wd_at hz.1 hz.2).trans (by rw [wc_int hk.1 (by omega)])) rfl (ib_in hk.2) hd (kk _ d r d' h2 hK H locs ls hl hP hS)
theorem s_baload (C : Cx G R cc nL own) (hV : Vx G R ad Z ck) {a : Nat} {i : Int32} {kf : Int32 → MM ρ} (hd : decode cc pc = .ok (.baload, 1)) (kk : ∀ x, Sm G R ad Z ck K (pc + 1) L (.int x :: st) (kf x)) : Sm G R ad Z ck K pc L (.int i :: .ref a :: st) (mb (aI Z 21 a i) kf) := by
  obtain ⟨p, l, e, s, m, args, below, meth, c, Q, A, cy, D⟩ := G
  obtain ⟨hx, hb, hml, hown, hts, hTy, hWd, hA, hlk⟩ := C
  obtain ⟨hVk, hVA, hVc⟩ := hV
  have hVA : ∀ a, 1 ≤ a → a ≤ Z.1 → A (ad a) := hVA
  intro d r d' hf hK H locs ls hl hP hS
  obtain ⟨x, d1, h1, h2⟩ := mb_some hf
  obtain ⟨hk, he⟩ := some_if h1
  cases he
  obtain ⟨hz, hr⟩ := ref_st hVk (a := a) (by omega)
  rw [List.map_cons, List.map_cons, hr]
  exact va_bald hx hb hTy hP (a - 1) 0 ((wd_at hz.1 hz.2).trans (by rw [wc_int hk.1 (by omega)])) rfl (ib_in hk.2) hd (kk _ d r d' h2 hK H locs ls hl hP hS)
theorem s_caload (C : Cx G R cc nL own) (hV : Vx G R ad Z ck) {a : Nat} {i : Int32} {kf : Int32 → MM ρ} (hd : decode cc pc = .ok (.caload, 1)) (kk : ∀ x, Sm G R ad Z ck K (pc + 1) L (.int x :: st) (kf x)) : Sm G R ad Z ck K pc L (.int i :: .ref a :: st) (mb (aI Z 22 a i) kf) := by
  obtain ⟨p, l, e, s, m, args, below, meth, c, Q, A, cy, D⟩ := G
  obtain ⟨hx, hb, hml, hown, hts, hTy, hWd, hA, hlk⟩ := C
  obtain ⟨hVk, hVA, hVc⟩ := hV
  have hVA : ∀ a, 1 ≤ a → a ≤ Z.1 → A (ad a) := hVA
  intro d r d' hf hK H locs ls hl hP hS
  obtain ⟨x, d1, h1, h2⟩ := mb_some hf
  obtain ⟨hk, he⟩ := some_if h1
  cases he
  obtain ⟨hz, hr⟩ := ref_st hVk (a := a) (by omega)
  rw [List.map_cons, List.map_cons, hr]
  exact va_cald hx hb hTy hP (a - 1) 1 ((wd_at hz.1 hz.2).trans (by rw [wc_int hk.1 (by omega)])) rfl (ib_in hk.2) hd (kk _ d r d' h2 hK H locs ls hl hP hS)
theorem s_zaload (C : Cx G R cc nL own) (hV : Vx G R ad Z ck) {a : Nat} {i : Int32} {kf : Int32 → MM ρ} (hd : decode cc pc = .ok (.baload, 1)) (kk : ∀ x, Sm G R ad Z ck K (pc + 1) L (.int x :: st) (kf x)) : Sm G R ad Z ck K pc L (.int i :: .ref a :: st) (mb (aI Z 25 a i) kf) := by
  obtain ⟨p, l, e, s, m, args, below, meth, c, Q, A, cy, D⟩ := G
  obtain ⟨hx, hb, hml, hown, hts, hTy, hWd, hA, hlk⟩ := C
  obtain ⟨hVk, hVA, hVc⟩ := hV
  have hVA : ∀ a, 1 ≤ a → a ≤ Z.1 → A (ad a) := hVA
  intro d r d' hf hK H locs ls hl hP hS
  obtain ⟨x, d1, h1, h2⟩ := mb_some hf
  obtain ⟨hk, he⟩ := some_if h1
  cases he
  obtain ⟨hz, hr⟩ := ref_st hVk (a := a) (by omega)
  rw [List.map_cons, List.map_cons, hr]
  exact va_zald hx hb hTy hP (a - 1) 4 ((wd_at hz.1 hz.2).trans (by rw [wc_int hk.1 (by omega)])) rfl (ib_in hk.2) hd (kk _ d r d' h2 hK H locs ls hl hP hS)
theorem s_laload (C : Cx G R cc nL own) (hV : Vx G R ad Z ck) {a : Nat} {i : Int32} {kf : Int64 → MM ρ} (hd : decode cc pc = .ok (.laload, 1)) (kk : ∀ x, Sm G R ad Z ck K (pc + 1) L (.long x :: st) (kf x)) : Sm G R ad Z ck K pc L (.int i :: .ref a :: st) (mb (aL Z a i) kf) := by
  obtain ⟨p, l, e, s, m, args, below, meth, c, Q, A, cy, D⟩ := G
  obtain ⟨hx, hb, hml, hown, hts, hTy, hWd, hA, hlk⟩ := C
  obtain ⟨hVk, hVA, hVc⟩ := hV
  have hVA : ∀ a, 1 ≤ a → a ≤ Z.1 → A (ad a) := hVA
  intro d r d' hf hK H locs ls hl hP hS
  obtain ⟨x, d1, h1, h2⟩ := mb_some hf
  obtain ⟨hk, he⟩ := some_if h1
  cases he
  obtain ⟨hz, hr⟩ := ref_st hVk (a := a) (by omega)
  rw [List.map_cons, List.map_cons, hr]
  exact va_lald hx hb hTy hP (a - 1) 3 ((wd_at hz.1 hz.2).trans (by rw [wc_long hk.1])) rfl (ib_in hk.2) hd (kk _ d r d' h2 hK H locs ls hl hP hS)
theorem s_aaloadA (C : Cx G R cc nL own) (hV : Vx G R ad Z ck) {a : Nat} {i : Int32} {kf : Nat → MM ρ} (hd : decode cc pc = .ok (.aaload, 1)) (kk : ∀ x, Sm G R ad Z ck K (pc + 1) L (.ref x :: st) (kf x)) : Sm G R ad Z ck K pc L (.int i :: .ref a :: st) (mb (aR Z 26 a i) kf) := by
  obtain ⟨p, l, e, s, m, args, below, meth, c, Q, A, cy, D⟩ := G
  obtain ⟨hx, hb, hml, hown, hts, hTy, hWd, hA, hlk⟩ := C
  obtain ⟨hVk, hVA, hVc⟩ := hV
  have hVA : ∀ a, 1 ≤ a → a ≤ Z.1 → A (ad a) := hVA
  intro d r d' hf hK H locs ls hl hP hS
  obtain ⟨x, d1, h1, h2⟩ := mb_some hf
  obtain ⟨hk, he⟩ := some_if h1
  cases he
  obtain ⟨hz, hr⟩ := ref_st hVk (a := a) (by omega)
  rw [List.map_cons, List.map_cons, hr]
  exact va_aldq (f := fun k => ro ad (d.2.2 a k)) hx hb hTy hP (a - 1) 5 ((wd_at hz.1 hz.2).trans (by rw [wc_ref hk.1 (by omega)])) rfl (ib_in hk.2) hd (kk _ d r d' h2 hK H locs ls hl hP hS)
theorem s_aaloadT (C : Cx G R cc nL own) (hV : Vx G R ad Z ck) {a : Nat} {i : Int32} {kf : Nat → MM ρ} (hd : decode cc pc = .ok (.aaload, 1)) (kk : ∀ x, Sm G R ad Z ck K (pc + 1) L (.ref x :: st) (kf x)) : Sm G R ad Z ck K pc L (.int i :: .ref a :: st) (mb (aR Z 27 a i) kf) := by
  obtain ⟨p, l, e, s, m, args, below, meth, c, Q, A, cy, D⟩ := G
  obtain ⟨hx, hb, hml, hown, hts, hTy, hWd, hA, hlk⟩ := C
  obtain ⟨hVk, hVA, hVc⟩ := hV
  have hVA : ∀ a, 1 ≤ a → a ≤ Z.1 → A (ad a) := hVA
  intro d r d' hf hK H locs ls hl hP hS
  obtain ⟨x, d1, h1, h2⟩ := mb_some hf
  obtain ⟨hk, he⟩ := some_if h1
  cases he
  obtain ⟨hz, hr⟩ := ref_st hVk (a := a) (by omega)
  rw [List.map_cons, List.map_cons, hr]
  exact va_aldq (f := fun k => ro ad (d.2.2 a k)) hx hb hTy hP (a - 1) 6 ((wd_at hz.1 hz.2).trans (by rw [wc_ref hk.1 (by omega)])) rfl (ib_in hk.2) hd (kk _ d r d' h2 hK H locs ls hl hP hS)
theorem up_u2 (f : Nat → Nat → Int32) (a k : Nat) (x : Int32) : u2 f a k x a = upd (f a) k x := funext fun j => by
  by_cases h : j = k
  · subst h; rw [u2_s, pk_us]
  · rw [u2_k _ _ _ h, pk_un h]
theorem up_u2L (f : Nat → Nat → Int64) (a k : Nat) (x : Int64) : u2 f a k x a = vp_updL (f a) k x := funext fun j => by
  by_cases h : j = k
  · subst h; rw [u2_s, pk_uLs]
  · rw [u2_k _ _ _ h, pk_uLn h]
theorem nar_z {x : Int32} (h : x = 0 ∨ x = 1) : vp_nar .boolean x = x := by rcases h with e | e <;> rw [e] <;> rfl
theorem s_iastore (C : Cx G R cc nL own) (hV : Vx G R ad Z ck) {a : Nat} {i v : Int32} {kf : Unit → MM ρ} (hd : decode cc pc = .ok (.iastore, 1)) (kk : Sm G R ad Z ck K (pc + 1) L st (kf ())) : Sm G R ad Z ck K pc L (.int v :: .int i :: .ref a :: st) (mb (sI Z a i v) kf) := by
  obtain ⟨p, l, e, s, m, args, below, meth, c, Q, A, cy, D⟩ := G
  obtain ⟨hx, hb, hml, hown, hts, hTy, hWd, hA, hlk⟩ := C
  obtain ⟨hVk, hVA, hVc⟩ := hV
  have hVA : ∀ a, 1 ≤ a → a ≤ Z.1 → A (ad a) := hVA
  intro d r d' hf hK H locs ls hl hP hS
  obtain ⟨x, d1, h1, h2⟩ := mb_some hf
  obtain ⟨hk, he⟩ := some_if h1
  cases he
  have hk1 : Z.2.1 a = 23 ∧ ib i (Z.2.2 a) := hk
  obtain ⟨hz, hr⟩ := ref_st hVk (a := a) (by omega)
  rw [List.map_cons, List.map_cons, List.map_cons, hr]
  refine va_iast hx hb hTy hP (vk_D hVk hVA) hS (a - 1) 2 ((wd_at hz.1 hz.2).trans (by rw [wc_int hk1.1 (by omega)])) rfl (ib_in hk1.2) hd (fun H1 locs1 hP1 _ hS1 => ?_)
  refine kk _ r d' h2 hK H1 locs1 ls hl ?_ hS1
  rw [← wd_set (d := d) (d' := (u2 d.1 a i.toNatClampNeg v, d.2)) hz.1 (wc_int hk1.1 (by omega)) (fun b hb2 => wc_congr (u2_row d.1 hb2 _ _) rfl rfl)]
  dsimp only
  rw [up_u2]
  exact hP1
theorem s_bastore (C : Cx G R cc nL own) (hV : Vx G R ad Z ck) {a : Nat} {i v : Int32} {kf : Unit → MM ρ} (hd : decode cc pc = .ok (.bastore, 1)) (kk : Sm G R ad Z ck K (pc + 1) L st (kf ())) : Sm G R ad Z ck K pc L (.int v :: .int i :: .ref a :: st) (mb (sB Z a i v) kf) := by
  obtain ⟨p, l, e, s, m, args, below, meth, c, Q, A, cy, D⟩ := G
  obtain ⟨hx, hb, hml, hown, hts, hTy, hWd, hA, hlk⟩ := C
  obtain ⟨hVk, hVA, hVc⟩ := hV
  have hVA : ∀ a, 1 ≤ a → a ≤ Z.1 → A (ad a) := hVA
  intro d r d' hf hK H locs ls hl hP hS
  obtain ⟨x, d1, h1, h2⟩ := mb_some hf
  obtain ⟨hk, he⟩ := some_if h1
  cases he
  have hk1 : Z.2.1 a = 21 ∧ ib i (Z.2.2 a) := hk
  obtain ⟨hz, hr⟩ := ref_st hVk (a := a) (by omega)
  rw [List.map_cons, List.map_cons, List.map_cons, hr]
  refine va_bast hx hb hTy hP (vk_D hVk hVA) hS (a - 1) 0 ((wd_at hz.1 hz.2).trans (by rw [wc_int hk1.1 (by omega)])) rfl (ib_in hk1.2) hd (fun H1 locs1 hP1 _ hS1 => ?_)
  rw [vp_nar_byte] at hP1
  refine kk _ r d' h2 hK H1 locs1 ls hl ?_ hS1
  rw [← wd_set (d := d) (d' := (u2 d.1 a i.toNatClampNeg v.toInt8.toInt32, d.2)) hz.1 (wc_int hk1.1 (by omega)) (fun b hb2 => wc_congr (u2_row d.1 hb2 _ _) rfl rfl)]
  dsimp only
  rw [up_u2]
  exact hP1
theorem s_castore (C : Cx G R cc nL own) (hV : Vx G R ad Z ck) {a : Nat} {i v : Int32} {kf : Unit → MM ρ} (hd : decode cc pc = .ok (.castore, 1)) (kk : Sm G R ad Z ck K (pc + 1) L st (kf ())) : Sm G R ad Z ck K pc L (.int v :: .int i :: .ref a :: st) (mb (sC Z a i v) kf) := by
  obtain ⟨p, l, e, s, m, args, below, meth, c, Q, A, cy, D⟩ := G
  obtain ⟨hx, hb, hml, hown, hts, hTy, hWd, hA, hlk⟩ := C
  obtain ⟨hVk, hVA, hVc⟩ := hV
  have hVA : ∀ a, 1 ≤ a → a ≤ Z.1 → A (ad a) := hVA
  intro d r d' hf hK H locs ls hl hP hS
  obtain ⟨x, d1, h1, h2⟩ := mb_some hf
  obtain ⟨hk, he⟩ := some_if h1
  cases he
  have hk1 : Z.2.1 a = 22 ∧ ib i (Z.2.2 a) := hk
  obtain ⟨hz, hr⟩ := ref_st hVk (a := a) (by omega)
  rw [List.map_cons, List.map_cons, List.map_cons, hr]
  refine va_cast hx hb hTy hP (vk_D hVk hVA) hS (a - 1) 1 ((wd_at hz.1 hz.2).trans (by rw [wc_int hk1.1 (by omega)])) rfl (ib_in hk1.2) hd (fun H1 locs1 hP1 _ hS1 => ?_)
  rw [vp_nar_char] at hP1
  refine kk _ r d' h2 hK H1 locs1 ls hl ?_ hS1
  rw [← wd_set (d := d) (d' := (u2 d.1 a i.toNatClampNeg v.toUInt32.toUInt16.toUInt32.toInt32, d.2)) hz.1 (wc_int hk1.1 (by omega)) (fun b hb2 => wc_congr (u2_row d.1 hb2 _ _) rfl rfl)]
  dsimp only
  rw [up_u2]
  exact hP1
theorem s_zastore (C : Cx G R cc nL own) (hV : Vx G R ad Z ck) {a : Nat} {i v : Int32} {kf : Unit → MM ρ} (hd : decode cc pc = .ok (.bastore, 1)) (kk : Sm G R ad Z ck K (pc + 1) L st (kf ())) : Sm G R ad Z ck K pc L (.int v :: .int i :: .ref a :: st) (mb (sZ Z a i v) kf) := by
  obtain ⟨p, l, e, s, m, args, below, meth, c, Q, A, cy, D⟩ := G
  obtain ⟨hx, hb, hml, hown, hts, hTy, hWd, hA, hlk⟩ := C
  obtain ⟨hVk, hVA, hVc⟩ := hV
  have hVA : ∀ a, 1 ≤ a → a ≤ Z.1 → A (ad a) := hVA
  intro d r d' hf hK H locs ls hl hP hS
  obtain ⟨x, d1, h1, h2⟩ := mb_some hf
  obtain ⟨hk, he⟩ := some_if h1
  cases he
  have hk1 : Z.2.1 a = 25 ∧ ib i (Z.2.2 a) := hk.1
  obtain ⟨hz, hr⟩ := ref_st hVk (a := a) (by omega)
  rw [List.map_cons, List.map_cons, List.map_cons, hr]
  refine va_zast hx hb hTy hP (vk_D hVk hVA) hS (a - 1) 4 ((wd_at hz.1 hz.2).trans (by rw [wc_int hk1.1 (by omega)])) rfl (ib_in hk1.2) hd (fun H1 locs1 hP1 _ hS1 => ?_)
  rw [nar_z hk.2] at hP1
  refine kk _ r d' h2 hK H1 locs1 ls hl ?_ hS1
  rw [← wd_set (d := d) (d' := (u2 d.1 a i.toNatClampNeg v, d.2)) hz.1 (wc_int hk1.1 (by omega)) (fun b hb2 => wc_congr (u2_row d.1 hb2 _ _) rfl rfl)]
  dsimp only
  rw [up_u2]
  exact hP1
theorem s_lastore (C : Cx G R cc nL own) (hV : Vx G R ad Z ck) {a : Nat} {i : Int32} {v : Int64} {kf : Unit → MM ρ} (hd : decode cc pc = .ok (.lastore, 1)) (kk : Sm G R ad Z ck K (pc + 1) L st (kf ())) : Sm G R ad Z ck K pc L (.long v :: .int i :: .ref a :: st) (mb (sL Z a i v) kf) := by
  obtain ⟨p, l, e, s, m, args, below, meth, c, Q, A, cy, D⟩ := G
  obtain ⟨hx, hb, hml, hown, hts, hTy, hWd, hA, hlk⟩ := C
  obtain ⟨hVk, hVA, hVc⟩ := hV
  have hVA : ∀ a, 1 ≤ a → a ≤ Z.1 → A (ad a) := hVA
  intro d r d' hf hK H locs ls hl hP hS
  obtain ⟨x, d1, h1, h2⟩ := mb_some hf
  obtain ⟨hk, he⟩ := some_if h1
  cases he
  obtain ⟨hz, hr⟩ := ref_st hVk (a := a) (by omega)
  rw [List.map_cons, List.map_cons, List.map_cons, hr]
  refine va_last hx hb hTy hP (vk_D hVk hVA) hS (a - 1) 3 ((wd_at hz.1 hz.2).trans (by rw [wc_long hk.1])) rfl (ib_in hk.2) hd (fun H1 locs1 hP1 _ hS1 => ?_)
  refine kk _ r d' h2 hK H1 locs1 ls hl ?_ hS1
  rw [← wd_set (d := d) (d' := (d.1, u2 d.2.1 a i.toNatClampNeg v, d.2.2)) hz.1 (wc_long hk.1) (fun b hb2 => wc_congr rfl (u2_row d.2.1 hb2 _ _) rfl)]
  dsimp only
  rw [up_u2L]
  exact hP1
theorem s_aastoreA (C : Cx G R cc nL own) (hV : Vx G R ad Z ck) {a v : Nat} {i : Int32} {kf : Unit → MM ρ} (hd : decode cc pc = .ok (.aastore, 1)) (kk : Sm G R ad Z ck K (pc + 1) L st (kf ())) : Sm G R ad Z ck K pc L (.ref v :: .int i :: .ref a :: st) (mb (sR Z 26 1 a i v) kf) := by
  obtain ⟨p, l, e, s, m, args, below, meth, c, Q, A, cy, D⟩ := G
  obtain ⟨hx, hb, hml, hown, hts, hTy, hWd, hA, hlk⟩ := C
  obtain ⟨hVk, hVA, hVc⟩ := hV
  have hVA : ∀ a, 1 ≤ a → a ≤ Z.1 → A (ad a) := hVA
  intro d r d' hf hK H locs ls hl hP hS
  obtain ⟨x, d1, h1, h2⟩ := mb_some hf
  obtain ⟨hk, he⟩ := some_if h1
  cases he
  obtain ⟨hz, hr⟩ := ref_st hVk (a := a) (by omega)
  obtain ⟨hzv, hrv⟩ := ref_st hVk (a := v) (by omega)
  rw [List.map_cons, List.map_cons, List.map_cons, hr, hrv]
  refine va_astq hx hb hTy hP (vk_D hVk hVA) hS (a - 1) 5 (v - 1) 0 ((wd_at hz.1 hz.2).trans (by rw [wc_ref hk.1.1 (by omega)])) (r := (RX0, TX0, cnF 0)) rfl ((wd_at hzv.1 hzv.2).trans (by rw [wc_obj (ci := 0) hk.2 (by omega)])) rfl (ib_in hk.1.2) hd (fun H1 locs1 hP1 _ hS1 => ?_)
  refine kk _ r d' h2 hK H1 locs1 ls hl ?_ hS1
  rw [← wd_set (d := d) (d' := (d.1, d.2.1, u2 d.2.2 a i.toNatClampNeg v)) hz.1 (wc_ref hk.1.1 (by omega)) (fun b hb2 => wc_congr rfl rfl (u2_row d.2.2 hb2 _ _))]
  have e : (fun k => ro ad (u2 d.2.2 a i.toNatClampNeg v a k)) = va_up (fun k => ro ad (d.2.2 a k)) i.toNatClampNeg (some (ad v)) := funext fun j => by
    by_cases h : j = i.toNatClampNeg
    · subst h; rw [u2_s]; simp [va_up, ro, show v ≠ 0 by omega]
    · rw [u2_k _ _ _ h]; simp [va_up, h]
  show va_P D vwCl ((wd cy ad Z d).set (a - 1) (ad a, .inl (cy 26, Z.2.2 a, .inr (.inr (.inr (.inr (fun k => ro ad (u2 d.2.2 a i.toNatClampNeg v a k)))))))) H1
  rw [e]
  exact hP1
theorem s_aastoreT (C : Cx G R cc nL own) (hV : Vx G R ad Z ck) {a v : Nat} {i : Int32} {kf : Unit → MM ρ} (hd : decode cc pc = .ok (.aastore, 1)) (kk : Sm G R ad Z ck K (pc + 1) L st (kf ())) : Sm G R ad Z ck K pc L (.ref v :: .int i :: .ref a :: st) (mb (sR Z 27 9 a i v) kf) := by
  obtain ⟨p, l, e, s, m, args, below, meth, c, Q, A, cy, D⟩ := G
  obtain ⟨hx, hb, hml, hown, hts, hTy, hWd, hA, hlk⟩ := C
  obtain ⟨hVk, hVA, hVc⟩ := hV
  have hVA : ∀ a, 1 ≤ a → a ≤ Z.1 → A (ad a) := hVA
  intro d r d' hf hK H locs ls hl hP hS
  obtain ⟨x, d1, h1, h2⟩ := mb_some hf
  obtain ⟨hk, he⟩ := some_if h1
  cases he
  obtain ⟨hz, hr⟩ := ref_st hVk (a := a) (by omega)
  obtain ⟨hzv, hrv⟩ := ref_st hVk (a := v) (by omega)
  rw [List.map_cons, List.map_cons, List.map_cons, hr, hrv]
  refine va_astq hx hb hTy hP (vk_D hVk hVA) hS (a - 1) 6 (v - 1) 8 ((wd_at hz.1 hz.2).trans (by rw [wc_ref hk.1.1 (by omega)])) (r := (RX8, TX8, cnF 8)) rfl ((wd_at hzv.1 hzv.2).trans (by rw [wc_obj (ci := 8) hk.2 (by omega)])) rfl (ib_in hk.1.2) hd (fun H1 locs1 hP1 _ hS1 => ?_)
  refine kk _ r d' h2 hK H1 locs1 ls hl ?_ hS1
  rw [← wd_set (d := d) (d' := (d.1, d.2.1, u2 d.2.2 a i.toNatClampNeg v)) hz.1 (wc_ref hk.1.1 (by omega)) (fun b hb2 => wc_congr rfl rfl (u2_row d.2.2 hb2 _ _))]
  have e : (fun k => ro ad (u2 d.2.2 a i.toNatClampNeg v a k)) = va_up (fun k => ro ad (d.2.2 a k)) i.toNatClampNeg (some (ad v)) := funext fun j => by
    by_cases h : j = i.toNatClampNeg
    · subst h; rw [u2_s]; simp [va_up, ro, show v ≠ 0 by omega]
    · rw [u2_k _ _ _ h]; simp [va_up, h]
  show va_P D vwCl ((wd cy ad Z d).set (a - 1) (ad a, .inl (cy 27, Z.2.2 a, .inr (.inr (.inr (.inr (fun k => ro ad (u2 d.2.2 a i.toNatClampNeg v a k)))))))) H1
  rw [e]
  exact hP1
theorem s_alenI (C : Cx G R cc nL own) (hV : Vx G R ad Z ck) {a : Nat} {kf : Int32 → MM ρ} (hd : decode cc pc = .ok (.arraylength, 1)) (kk : ∀ x, Sm G R ad Z ck K (pc + 1) L (.int x :: st) (kf x)) : Sm G R ad Z ck K pc L (.ref a :: st) (mb (al Z 23 a) kf) := by
  obtain ⟨p, l, e, s, m, args, below, meth, c, Q, A, cy, D⟩ := G
  obtain ⟨hx, hb, hml, hown, hts, hTy, hWd, hA, hlk⟩ := C
  obtain ⟨hVk, hVA, hVc⟩ := hV
  have hVA : ∀ a, 1 ≤ a → a ≤ Z.1 → A (ad a) := hVA
  intro d r d' hf hK H locs ls hl hP hS
  obtain ⟨x, d1, h1, h2⟩ := mb_some hf
  obtain ⟨hk, he⟩ := some_if h1
  cases he
  obtain ⟨hz, hr⟩ := ref_st hVk (a := a) (by omega)
  rw [List.map_cons, hr]
  exact va_alen (x := (Z.2.2 a, .inl (d.1 a))) hx hb hTy hP (a - 1) 2 ((wd_at hz.1 hz.2).trans (by rw [wc_int hk (by omega)])) rfl rfl hd (kk _ d r d' h2 hK H locs ls hl hP hS)
theorem s_acopy (C : Cx G R cc nL own) (hV : Vx G R ad Z ck) {idx : Nat} (hw : Cond.methodLink own idx arraycopyName ∈ TT) (hw2 : Cond.native arraycopyName ∈ TT) (hw3 : Cond.static arraycopyName ∈ TT) (hw4 : Cond.initialized "java/lang/System" ∈ TT) (hR : 1 ≤ R.frames ∧ (st.map fun v => v.category).sum + (nativeFrameWords "java/lang/System" "arraycopy" 5 + 11) ≤ R.locals) {a b : Nat} {i j n : Int32} {kf : Unit → MM ρ} (hd : decode cc pc = .ok (.invokestatic idx, 3)) (kk : Sm G R ad Z ck K (pc + 3) L st (kf ())) : Sm G R ad Z ck K pc L (.int n :: .int j :: .ref b :: .int i :: .ref a :: st) (mb (ac Z a i b j n) kf) := by
  obtain ⟨p, l, e, s, m, args, below, meth, c, Q, A, cy, D⟩ := G
  obtain ⟨hx, hb, hml, hown, hts, hTy, hWd, hA, hlk⟩ := C
  obtain ⟨hVk, hVA, hVc⟩ := hV
  have hVA : ∀ a, 1 ≤ a → a ≤ Z.1 → A (ad a) := hVA
  intro d r d' hf hK H locs ls hl hP hS
  obtain ⟨x, d1, h1, h2⟩ := mb_some hf
  obtain ⟨⟨⟨ka, kb⟩, ⟨hi0, hj0, hn0⟩, hia, hjb, hab⟩, he⟩ := some_if h1
  cases he
  obtain ⟨hz, hr⟩ := ref_st hVk (a := a) (by omega)
  obtain ⟨hzb, hrb⟩ := ref_st hVk (a := b) (by omega)
  simp only [List.map_cons]
  rw [hr, hrb]
  refine va_copyi (ty := .int) hx hb hl.1.symm hown (hts _ hw) (hts _ hw2) (hts _ hw3) (hts _ hw4) hTy hP (vk_D hVk hVA) hS (a - 1) (b - 1) 2 2 ((wd_at hz.1 hz.2).trans (by rw [wc_int ka (by omega)])) ((wd_at hzb.1 hzb.2).trans (by rw [wc_int kb (by omega)])) rfl rfl rfl (Int32.not_lt.mpr hi0) (Int32.not_lt.mpr hj0) (Int32.not_lt.mpr hn0) hia hjb (fun _ _ => rfl) hR.1 ?_ hd (fun H1 locs1 hP1 _ hS1 => ?_)
  · refine Nat.le_trans (Nat.le_of_eq ?_) hR.2
    congr 1
    rw [List.map_map]
    congr 1
    exact List.map_congr_left (fun v _ => cv_cat ad v)
  refine kk _ r d' h2 hK H1 locs1 ls hl ?_ hS1
  rw [← wd_set (d := d) (d' := (cpF d.1 a b i.toNatClampNeg j.toNatClampNeg n.toNatClampNeg, d.2)) hzb.1 (wc_int kb (by omega)) (fun x hx2 => wc_congr (funext fun y => if_neg fun q => hx2 q.1) rfl rfl)]
  have e : cpF d.1 a b i.toNatClampNeg j.toNatClampNeg n.toNatClampNeg b = va_cpy (d.1 a) (d.1 b) i.toNatClampNeg j.toNatClampNeg n.toNatClampNeg := funext fun y => by simp [cpF, va_cpy]
  show va_P D vwCl ((wd cy ad Z d).set (b - 1) (ad b, .inl (cy 23, Z.2.2 b, .inl (cpF d.1 a b i.toNatClampNeg j.toNatClampNeg n.toNatClampNeg b)))) H1
  rw [e]
  exact hP1
end
