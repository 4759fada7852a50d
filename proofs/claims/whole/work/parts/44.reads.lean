/-! ===== pure: what is read off the list ===== -/
def frX (d d' : Dm) : Prop := (∀ x, x ≠ 19 → x ≠ 34 → x ≠ 51 → x ≠ 58 → x ≠ 60 → d'.1 x = d.1 x) ∧ (∀ x, x ≠ 59 → d'.2.1 x = d.2.1 x) ∧ d'.2.2 = d.2.2
theorem frX_rf (d : Dm) : frX d d := ⟨fun _ _ _ _ _ _ => rfl, fun _ _ => rfl, rfl⟩
theorem frX_tr {d d' d'' : Dm} (h : frX d d') (h2 : frX d' d'') : frX d d'' := ⟨fun x a b c e g => (h2.1 x a b c e g).trans (h.1 x a b c e g), fun x a => (h2.2.1 x a).trans (h.2.1 x a), h2.2.2.trans h.2.2⟩
theorem frX_V {d d' : Dm} (h : frV d d') : frX d d' := ⟨fun x a b c _ _ => h.1 x a b c, fun x _ => by rw [h.2], by rw [h.2]⟩
theorem frX_F {d d' : Dm} (h : frF d d') : frX d d' := ⟨fun x _ _ _ a b => h.1 x a b, h.2.1, h.2.2⟩
theorem frV_19 (d : Dm) (p : Pl) : frV d (rw8 d.1 19 p, d.2) := ⟨fun x a _ _ => rw8_ne _ _ a, rfl⟩
theorem frV_34 (d : Dm) (p : Pl) : frV d (rw8 d.1 34 p, d.2) := ⟨fun x _ a _ => rw8_ne _ _ a, rfl⟩
theorem CV.congr {V : Nat → Nat} {st : Nat} {d d' : Dm} (h : CV V st d) (h1 : d'.1 2 = d.1 2) (h2 : d'.1 51 = d.1 51) : CV V st d' := ⟨h.1, h.2.1, by rw [h1]; exact h.2.2.1, by rw [h2]; exact h.2.2.2⟩
def CX (r n : Nat) (ac : Nat → Ac) (f : Pl) (ev : Nat → Pl → Bool) (sv : Nat → Pl → Pl) (ns st A : Nat) (d : Dm) : Prop := CE r n ac f ev sv ns st d ∧ (d.1 17 2 = nI A ∧ A < 64) ∧ cFi ac f n d
section
variable {r n ns st A : Nat} {ac : Nat → Ac} {f : Pl} {ev : Nat → Pl → Bool} {sv : Nat → Pl → Pl} {d : Dm}
theorem LsA.mvV {m : Nat} {B : Nat → NP} {d' : Dm} (h : LsA m B d) (hf : frV d d') : LsA m B d' := h.mov (by rw [hf.1 58 (by omega) (by omega) (by omega)]) (by rw [hf.2]) (hf.1 60 (by omega) (by omega) (by omega))
theorem cFi.mvV {d' : Dm} (h : cFi ac f n d) (hf : frV d d') : cFi ac f n d' := by
  unfold cFi
  rw [hf.1 58 (by omega) (by omega) (by omega)]
  exact h.imp id (fun ⟨k, a, b, s, E, c, e⟩ => ⟨k, a, b, s, E, c.mvV hf, e⟩)
theorem CX.mvV {d' : Dm} (h : CX r n ac f ev sv ns st A d) (hf : frV d d') (hc : CE r n ac f ev sv ns st d') : CX r n ac f ev sv ns st A d' := ⟨hc, ⟨by rw [hf.1 17 (by omega) (by omega) (by omega)]; exact h.2.1.1, h.2.1.2⟩, h.2.2.mvV hf⟩
theorem CX.V1 {d' : Dm} (h : CX r n ac f ev sv ns st A d) (hf : frV d d') (h51 : d'.1 51 = d.1 51) : CX r n ac f ev sv ns st A d' := h.mvV hf (h.1.fr hf (h.1.2.2.2.congr (hf.1 2 (by omega) (by omega) (by omega)) h51))
theorem CX.of (h : CX r n ac f ev sv ns st A d) {S : Nat} (hS : sub S (wm ac n)) : wp (Verd_of 2 (nI S)) d (fun x d' => x = nI (vdS ac f n ev r sv ns S) ∧ frV d d' ∧ CX r n ac f ev sv ns st A d') := wp_mono (h.1.of hS) (fun _ _ ⟨a, b, c⟩ => ⟨a, b, h.mvV b c⟩)
theorem CX.fill (h : CX r n ac f ev sv ns st A d) {k : Nat} (hk : k ≤ n) : wp (Found_fill 58 3 (nI k)) d (fun _ d' => frF d d' ∧ CX r n ac f ev sv ns st A d' ∧ ∃ s E, LsA s (lsO ac f n E) d' ∧ fLi ac f n k s E) := by
  refine wp_mono (fill_eq h.1.1 h.2.2 hk) (fun _ d' ⟨a, _, c, e⟩ => ⟨a, ⟨⟨h.1.1.fF a, h.1.2.1.congr (fun x hx => a.1 x (by omega) (by omega)), h.1.2.2.1.congr (fun x hx => a.1 x (by omega) (by omega)), h.1.2.2.2.congr (a.1 2 (by omega) (by omega)) (a.1 51 (by omega) (by omega))⟩, ⟨by rw [a.1 17 (by omega) (by omega)]; exact h.2.1.1, h.2.1.2⟩, c⟩, e⟩)
/-- the plates that may be left behind k acts, in their order -/
def LQ (ac : Nat → Ac) (f : Pl) (n k s : Nat) (Q : Nat → Pl) : Prop := (∀ a b, a < b → b < s → pw (Q a) < pw (Q b)) ∧ (∀ j, j < s → ∃ T, PS ac (wm ac n) k T ∧ Q j = pS ac f T n) ∧ ∀ T, PS ac (wm ac n) k T → ∃ j, j < s ∧ Q j = pS ac f T n
theorem fLi.LQ {k s : Nat} {E : Nat → Nat} (h : fLi ac f n k s E) : LQ ac f n k s (fun j => pS ac f (E j) n) := ⟨h.2.1, fun j hj => ⟨E j, h.2.2.1 j hj, rfl⟩, fun T hT => by
  obtain ⟨j, j1, j2, _⟩ := h.2.2.2 T hT
  exact ⟨j, j1, j2⟩⟩
theorem found_no (h : CX r n ac f ev sv ns st A d) {x : Int32} (hx : ¬ (0 ≤ x ∧ x ≤ nI n)) : Main_found 1 x d = some (-102, d) := by
  apply wp_get
  have hR := h.1.1.2.2.2.2
  unfold Main_found
  simp only [wp_mb, wp_gR, wp_vc, zk, zl, true_and, hR.1, wp_eq (hasB_eq h.1.1 x), if_neg hx, if_true, wp_mp]
theorem found_ok (h : CX r n ac f ev sv ns st A d) {k : Nat} (hk : k ≤ n) : wp (Main_found 1 (nI k)) d (fun x d' => frX d d' ∧ CX r n ac f ev sv ns st A d' ∧ ∃ s Q, x = nI s ∧ LQ ac f n k s Q) := by
  have hR := h.1.1.2.2.2.2
  have hn := h.1.1.1.1
  unfold Main_found
  simp only [wp_mb, wp_gR, wp_vc, zk, zl, true_and, hR.1, wp_eq (hasB_eq h.1.1 (nI k)), if_pos (nI_hasB hk (by omega)), if_neg (show ¬ (1 : Int32) = 0 by decide)]
  refine wp_mono (h.fill hk) (fun _ d' ⟨a, b, s, E, c, e⟩ => ?_)
  have hRd := b.1.1.2.2.2.2
  simp only [wp_mb, wp_gR, wp_gI, zk, zl, true_and, hRd.1, wp_mp]
  exact ⟨frX_F a, b, s, _, c.1, e.LQ⟩
theorem plate_no (h : CX r n ac f ev sv ns st A d) {x y : Int32} (hx : ¬ (0 ≤ x ∧ x ≤ nI n)) : Main_plate 1 x y d = some (-2, d) := by
  apply wp_get
  have hR := h.1.1.2.2.2.2
  unfold Main_plate
  simp only [wp_mb, wp_gR, wp_vc, zk, zl, true_and, hR.1, wp_eq (hasB_eq h.1.1 x), if_neg hx, if_true, wp_mp]
theorem fLi.ok {k s : Nat} {E : Nat → Nat} (hP : CP r n ac f d) (h : fLi ac f n k s E) {j : Nat} (hj : j < s) : okP (pS ac f (E j) n) := okP_pS hP.1.2.1 hP.1.2.2 (PS_sub (h.2.2.1 j hj)) n (Nat.le_refl _)
theorem plate_ok (h : CX r n ac f ev sv ns st A d) {k : Nat} (hk : k ≤ n) (y : Int32) : wp (Main_plate 1 (nI k) y) d (fun x d' => frX d d' ∧ CX r n ac f ev sv ns st A d' ∧ ∃ s Q, s ≤ 4096 ∧ LQ ac f n k s Q ∧ ((¬ (0 ≤ y ∧ y < nI s) ∧ x = -1) ∨ ∃ j, j < s ∧ y = nI j ∧ x = lN (num (Q j)))) := by
  have hR := h.1.1.2.2.2.2
  have hn := h.1.1.1.1
  unfold Main_plate
  simp only [wp_mb, wp_gR, wp_vc, zk, zl, true_and, hR.1, wp_eq (hasB_eq h.1.1 (nI k)), if_pos (nI_hasB hk (by omega)), if_neg (show ¬ (1 : Int32) = 0 by decide)]
  refine wp_mono (h.fill hk) (fun _ d' ⟨a, b, s, E, c, e⟩ => ?_)
  have hRd := b.1.1.2.2.2.2
  have hs := c.2.1
  rcases ix_cases y (n := s) (by omega) with hy | ⟨j, hj, hy⟩
  · have fin : frX d d' ∧ CX r n ac f ev sv ns st A d' ∧ ∃ s Q, s ≤ 4096 ∧ LQ ac f n k s Q ∧ ((¬ (0 ≤ y ∧ y < nI s) ∧ (-1 : Int64) = -1) ∨ ∃ j, j < s ∧ y = nI j ∧ (-1 : Int64) = lN (num (Q j))) := ⟨frX_F a, b, s, _, hs, e.LQ, Or.inl ⟨hy, rfl⟩⟩
    refine wp_if (fun _ => wp_mp.mpr fin) (fun h1 => ?_)
    simp only [wp_mb, wp_gR, wp_gI, zk, zl, true_and, hRd.1, c.1]
    refine wp_if (fun _ => wp_mp.mpr fin) (fun h2 => ?_)
    exact absurd ⟨Int32.not_lt.mp h1, Int32.not_le.mp h2⟩ hy
  · subst hy
    rw [if_neg (Int32.not_lt.mpr (nI_pos' (by omega)))]
    simp only [wp_mb, wp_gR, wp_gI, zk, zl, true_and, hRd.1, c.1]
    rw [if_neg (fun q => by have := (nI_leI (by omega) (by omega)).mp q; omega)]
    simp only [wp_mb, wp_gR, wp_aL, zk, zl, true_and, hRd.1, nI_clamp (show j < 2 ^ 31 by omega), (c.2.2 j hj).1, lsO, wp_eq (num_of (e.ok h.1.1 hj)), wp_mp]
    exact ⟨ib_nI (by omega) (by omega), frX_F a, b, s, _, hs, e.LQ, Or.inr ⟨j, hj, rfl, rfl⟩⟩
theorem has_r (h : CR r ev d) (x : Int32) : Rule_has 17 x d = some (if 0 ≤ x ∧ x < nI r then 1 else 0, d) := by
  apply wp_get
  unfold Rule_has
  simp only [wp_ite, wp_mz, wp_mb, wp_gI, zk, h.2.1, true_and]
  by_cases h1 : x < 0
  · simp [h1, Int32.not_le.mpr h1]
  · by_cases h2 : nI r ≤ x
    · simp [h1, h2, Int32.not_lt.mpr h2]
    · simp [h1, h2, Int32.not_lt.mp h1, Int32.not_le.mp h2]
theorem fb_bit {p : Pl} : ∀ {m j : Nat}, j < m → (fb ev p m).testBit j = !ev j p
  | 0, _, h => by omega
  | m + 1, j, h => by
    simp only [fb]
    have hlt := fb_lt ev p m
    by_cases e : j = m
    · subst e
      cases ev j p with
      | true => simp only [if_true, Nat.add_zero]; rw [Nat.testBit_lt_two_pow hlt]; rfl
      | false =>
        simp only [Bool.false_eq_true, if_false]
        rw [Nat.add_comm, Nat.testBit_two_pow_add_eq, Nat.testBit_lt_two_pow hlt]
    · have ih := fb_bit (p := p) (m := m) (j := j) (by omega)
      split
      · exact ih
      · rw [Nat.add_comm, Nat.testBit_two_pow_add_gt (by omega)]; exact ih
theorem vd_bit (hr : r ≤ 6) {S j : Nat} (hj : j < r) : (vdS ac f n ev r sv ns S).testBit j = !ev j (hl sv 0 ns (pS ac f S n)) := by
  unfold vdS
  rw [← fb_bit hj]
  split
  · rfl
  · rw [Nat.add_comm, show 64 = 2 ^ 6 from rfl, Nat.testBit_two_pow_add_gt (by omega)]
theorem not_bit {S i : Nat} (hS : S < 2 ^ 31) (hi : i < 31) : ((nI S >>> (nI i &&& 31)) &&& (1 : Int32)) ^^^ (1 : Int32) = nI (if S.testBit i then 0 else 1) := by
  rw [bit_eq hS hi]
  cases S.testBit i <;> rfl
theorem kept_loop (h : CX r n ac f ev sv ns st A d) {k s : Nat} {E : Nat → Nat} (hL : LsA s (lsO ac f n E) d) (hE : fLi ac f n k s E) {j : Nat} (hj : j < r) {w : Int32} (hw : w = 0 ∨ w = 1) : wp (Main_kept_55 1 (nI j) w (0, 0)) d (fun x d' => frX d d' ∧ CX r n ac f ev sv ns st A d' ∧ x = nI (fb_ct (fun i => ev j (if w = 1 then hl sv 0 ns (pS ac f (E i) n) else pS ac f (E i) n)) s)) := by
  have hs := hL.2.1
  have hr := h.1.2.1.1
  unfold Main_kept_55
  refine wp_up (fun i c dd => c = (nI (fb_ct (fun i => ev j (if w = 1 then hl sv 0 ns (pS ac f (E i) n) else pS ac f (E i) n)) i), nI i) ∧ frX d dd ∧ CX r n ac f ev sv ns st A dd ∧ LsA s (lsO ac f n E) dd) s ?_ (i := 0) (by omega) ⟨rfl, frX_rf d, h, hL⟩
  intro i c dd hi ⟨e, hf, hd, hl2⟩
  subst e
  have hRd := hd.1.1.2.2.2.2
  have hct := fb_ct_le (fun i => ev j (if w = 1 then hl sv 0 ns (pS ac f (E i) n) else pS ac f (E i) n)) i
  unfold Main_kept_55_b
  simp only [wp_mb, wp_gR, wp_gI, zk, zl, true_and, hRd.1, hl2.1]
  by_cases hsi : s ≤ i
  · rw [if_pos ((nI_leI (by omega) (by omega)).mpr hsi)]
    rw [show i = s by omega]
    exact wp_mr.mpr (wp_mp.mpr ⟨hf, hd, rfl⟩)
  · rw [if_neg (fun q => hsi ((nI_leI (by omega) (by omega)).mp q))]
    obtain ⟨v1, v2, v3, v4⟩ := hl2.2.2 i (by omega)
    simp only [lsO] at v1 v2 v3 v4
    have hok := hE.ok h.1.1 (show i < s by omega)
    unfold Main_kept_109
    by_cases hw1 : w = 1
    · rw [if_pos hw1]
      simp only [wp_mb, wp_ml, wp_mp, wp_gR, wp_aI, wp_vc, zk, zl, true_and, hRd.1, nI_clamp (show i < 2 ^ 31 by omega), v3]
      refine ⟨ib_nI (by omega) (by omega), wp_mono (hd.of (PS_sub (hE.2.2.1 i (by omega)))) (fun x d' ⟨q1, q2, q3⟩ => ?_)⟩
      refine ⟨by omega, ?_, frX_tr hf (frX_V q2), q3, hl2.mvV q2⟩
      have := vd_lt (ac := ac) (f := f) (n := n) (ev := ev) (sv := sv) (ns := ns) (S := E i) hr
      rw [q1, not_bit (by omega) (by omega), vd_bit hr hj, ← nI_add, fb_ct_succ, hw1, if_pos rfl, ← nI_add]
      cases ev j (hl sv 0 ns (pS ac f (E i) n)) <;> rfl
    · rw [if_neg hw1]
      simp only [wp_mb, wp_ml, wp_mp, wp_gR, wp_aL, wp_vc, zk, zl, true_and, hRd.1, nI_clamp (show i < 2 ^ 31 by omega), v1, wp_eq (failing_eq hd.1.2.1 hRd hok)]
      refine ⟨ib_nI (by omega) (by omega), by omega, ?_, frX_tr hf (frX_V (frV_19 dd _)), hd.V1 (frV_19 dd _) (rw8_ne dd.1 (pS ac f (E i) n) (show 51 ≠ 19 by omega)), hl2.mvV (frV_19 dd _)⟩
      have := fb_lt ev (pS ac f (E i) n) r
      have h2 : 2 ^ r ≤ 2 ^ 6 := Nat.pow_le_pow_right (by omega) hr
      rw [not_bit (by omega) (by omega), fb_bit hj, ← nI_add, fb_ct_succ, if_neg hw1, ← nI_add]
      cases ev j (pS ac f (E i) n) <;> rfl
theorem kept_eq (h : CX r n ac f ev sv ns st A d) (x y w : Int32) : wp (Main_kept 1 x y w) d (fun z d' => frX d d' ∧ CX r n ac f ev sv ns st A d' ∧ ((¬ (0 ≤ x ∧ x < nI r) ∧ z = -101) ∨ ∃ j, j < r ∧ x = nI j ∧ (((¬ (0 ≤ y ∧ y ≤ nI n) ∨ (w ≠ 0 ∧ w ≠ 1)) ∧ z = -102) ∨ ∃ k s Q, k ≤ n ∧ y = nI k ∧ LQ ac f n k s Q ∧ (w = 0 ∨ w = 1) ∧ z = nI (fb_ct (fun i => ev j (if w = 1 then hl sv 0 ns (Q i) else Q i)) s)))) := by
  have hR := h.1.1.2.2.2.2
  have hn := h.1.1.1.1
  have hr := h.1.2.1.1
  unfold Main_kept
  simp only [wp_mb, wp_gR, wp_vc, zk, zl, true_and, hR.1, wp_eq (has_r h.1.2.1 x)]
  rcases ix_cases x (n := r) (by omega) with hx | ⟨j, hj, hx⟩
  · simp only [if_neg hx, if_true, wp_mp]
    exact ⟨frX_rf d, h, Or.inl ⟨hx, trivial⟩⟩
  · subst hx
    simp only [if_pos (nI_has hj (show r < 2 ^ 31 by omega)), if_neg (show ¬ (1 : Int32) = 0 by decide), wp_mb, wp_gR, wp_vc, zk, zl, true_and, hR.1, wp_eq (hasB_eq h.1.1 y)]
    rcases ib_cases y (n := n) (by omega) with hy | ⟨k, hk, hy⟩
    · simp only [if_neg hy, if_true, wp_mp]
      exact ⟨frX_rf d, h, Or.inr ⟨j, hj, rfl, Or.inl ⟨Or.inl hy, trivial⟩⟩⟩
    · subst hy
      rw [if_pos (nI_hasB hk (by omega)), if_neg (show ¬ (1 : Int32) = 0 by decide)]
      have go : (w = 0 ∨ w = 1) → wp (Main_kept_37 1 (nI j) (nI k) w) d (fun z d' => frX d d' ∧ CX r n ac f ev sv ns st A d' ∧ ((¬ (0 ≤ nI j ∧ nI j < nI r) ∧ z = -101) ∨ ∃ j', j' < r ∧ nI j = nI j' ∧ (((¬ (0 ≤ nI k ∧ nI k ≤ nI n) ∨ (w ≠ 0 ∧ w ≠ 1)) ∧ z = -102) ∨ ∃ k' s Q, k' ≤ n ∧ nI k = nI k' ∧ LQ ac f n k' s Q ∧ (w = 0 ∨ w = 1) ∧ z = nI (fb_ct (fun i => ev j' (if w = 1 then hl sv 0 ns (Q i) else Q i)) s)))) := by
        intro hw
        unfold Main_kept_37
        simp only [wp_mb, wp_ml, wp_gR, wp_vc, zk, zl, true_and, hR.1]
        refine wp_mono (h.fill hk) (fun _ d' ⟨a, b, s, E, c, e⟩ => ?_)
        refine wp_mono (kept_loop b c e hj hw) (fun z d2 ⟨q1, q2, q3⟩ => ?_)
        exact ⟨frX_tr (frX_F a) q1, q2, Or.inr ⟨j, hj, rfl, Or.inr ⟨k, s, _, hk, rfl, e.LQ, hw, q3⟩⟩⟩
      refine wp_if (fun h1 => go (Or.inl h1)) (fun h1 => ?_)
      refine wp_if (fun h2 => go (Or.inr h2)) (fun h2 => ?_)
      exact wp_mp.mpr ⟨frX_rf d, h, Or.inr ⟨j, hj, rfl, Or.inl ⟨Or.inr ⟨h1, h2⟩, rfl⟩⟩⟩
end
