/-! ===== pure: whether a text holds, by the reference: the loop ===== -/
theorem hB_id (d : Dm) : hB d (d.1 65 26) (d.1 76) (d.1 77) (d.1 78) = d := by
  refine Prod.ext ?_ rfl
  funext i j
  unfold hB
  dsimp only
  by_cases h1 : i = 76
  · rw [if_pos h1, h1]
  · rw [if_neg h1]
    by_cases h2 : i = 77
    · rw [if_pos h2, h2]
    · rw [if_neg h2]
      by_cases h3 : i = 78
      · rw [if_pos h3, h3]
      · rw [if_neg h3]
        by_cases h4 : i = 65 ∧ j = 26
        · rw [if_pos h4, h4.1, h4.2]
        · rw [if_neg h4]
/-- a factor is closed -/
def clsd (q c : Nat) : Prop := q = 7 ∨ ((q = 5 ∨ q = 6) ∧ ¬ (c = 43 ∨ c = 45) ∧ (q = 6 → isD c = false))
theorem cl_nx {sp : Bool} {q o c : Nat} (h : clsd q c) : nx sp q o c = nxC sp o c := by
  rcases h with rfl | ⟨rfl | rfl, h1, h2⟩
  · simp [nx]
  · simp [nx, h1]
  · simp [nx, h1, h2]
theorem cl_vst {p : Pl} {q c : Nat} {s : VS} (h : clsd q c) : vst p q c s = vcl c (clo q s) := by
  obtain ⟨⟨o, a, n⟩, g, T, U, m, x, R, v, tg⟩ := s
  rcases h with rfl | ⟨rfl | rfl, h1, h2⟩
  · simp [vst]
  · simp [vst, h1]
  · simp [vst, h1, h2]
def vC (q n R : Nat) (T : Int) (v : Bool) : Bool := if q = 7 then v else dnv n (cmpV R T)
theorem cl_clo {q o1 : Nat} {oo aa : Option Bool} {n R x tg : Nat} {g : List Gr} {T U : Int} {m v : Bool} (hq : q = 5 ∨ q = 6 ∨ q = 7) (hn : q = 7 → n = 0) : ∃ T', clo q ((oo, aa, n), g, T, U, m, x, R, v, tg) = ((oo, aa, 0), g, T', U, m, x, R, vC q n R T v, tg) := by
  rcases hq with rfl | rfl | rfl
  · exact ⟨0, by simp [clo, vC]⟩
  · exact ⟨0, by simp [clo, vC]⟩
  · refine ⟨T, ?_⟩
    rw [hn rfl]
    simp [clo, vC]
theorem nx_58 {sp : Bool} {o : Nat} : nx sp 0 o 58 = none := by simp [nx, isL, isD]
section
variable {sb sp : Bool} {B m : Nat} {t : Nat → Nat} {d : Dm} {p : Pl}
/-- where the reference stands within a text -/
def HI (sp : Bool) (p : Pl) (t : Nat → Nat) (m : Nat) (d : Dm) (k : Nat) (dd : Dm) : Prop := ∃ q oo aa n g T U mm x R v tg X Y Z, qs sp t k = some (q, g.length) ∧ k ≤ m ∧ vv sp p t k = ((oo, aa, n), g, T, U, mm, x, R, v, tg) ∧ dd = atM (hB d (nI g.length) X Y Z) k ∧ ((q = 0 ∧ GRl ((oo, aa, n) :: g) X Y Z) ∨ (clsd q (sgl t m k) ∧ (q = 7 → n = 0) ∧ ARc oo aa (vC q n R T v) g X Y Z))
def HQ (sp : Bool) (p : Pl) (t : Nat → Nat) (m : Nat) (d : Dm) (z : Int32) (d' : Dm) : Prop := ∃ k q dp X Y Z, k ≤ m ∧ qs sp t k = some (q, 0) ∧ (5 ≤ q ∧ q ≤ 7) ∧ (k = m ∨ (k < m ∧ t k = 58)) ∧ d' = atM (hB d dp X Y Z) k ∧ z = bI (rvV q (vv sp p t k))
theorem clsd_q {q c : Nat} (h : clsd q c) : q = 5 ∨ q = 6 ∨ q = 7 := by unfold clsd at h; omega
theorem h332 (hR : MRf d.2.2) {q k : Nat} {oo aa : Option Bool} {n R x tg : Nat} {T U : Int} {mm v : Bool} {X Y Z : Nat → Int32} {dp : Int32} (hq : q = 5 ∨ q = 6 ∨ q = 7) (hn : q = 7 → n = 0) (hA : ARc oo aa (vC q n R T v) [] X Y Z) : Mod_holdsHere_332 65 (atM (hB d dp X Y Z) k) = some (bI (rvV q ((oo, aa, n), [], T, U, mm, x, R, v, tg)), atM (hB d dp X Y Z) k) := by
  have r23 : (atM (hB d dp X Y Z) k).2.2 65 23 = 76 := hR.2.2.2.2.2.2.2.2.2.2.1
  have r24 : (atM (hB d dp X Y Z) k).2.2 65 24 = 77 := hR.2.2.2.2.2.2.2.2.2.2.2.1
  obtain ⟨T', ec⟩ := cl_clo (o1 := 0) (oo := oo) (aa := aa) (R := R) (x := x) (tg := tg) (g := []) (T := T) (U := U) (m := mm) (v := v) hq hn
  have er : rvV q ((oo, aa, n), [], T, U, mm, x, R, v, tg) = orv oo (anv aa (vC q n R T v)) := by
    unfold rvV
    rw [ec]
  have x0 : X 0 = bI (oo.getD false) := hA.1
  have y0 : Y 0 = bI (anv aa (vC q n R T v)) := hA.2.1
  rw [er, ← or_getD]
  apply wp_get
  unfold Mod_holdsHere_332
  have c0 : (0 : Int32).toNatClampNeg = 0 := by decide
  have i0 : ib (0 : Int32) 61 := ⟨by decide, by decide⟩
  simp only [wp_mb, wp_gR, wp_aI, zk, zl, true_and, r23, c0, hB_76, x0]
  refine ⟨i0, ?_⟩
  cases oo.getD false with
  | true =>
    rw [if_neg (by decide), wp_mz]
    exact ⟨Or.inr rfl, rfl, rfl⟩
  | false =>
    rw [if_pos (by decide)]
    simp only [wp_mb, wp_gR, wp_aI, zk, zl, true_and, r24, c0, hB_77, y0]
    refine ⟨i0, ?_⟩
    cases anv aa (vC q n R T v) with
    | true =>
      rw [if_neg (by decide), wp_mz]
      exact ⟨Or.inr rfl, rfl, rfl⟩
    | false =>
      rw [if_pos (by decide), wp_mz]
      exact ⟨Or.inl rfl, rfl, rfl⟩
/-- a comparison -/
theorem cmp_run (h : TX sb B t m d) (hp75 : ∀ s, s < 8 → d.1 75 s = nI (p s)) (hp : okP p) {qf : Nat} (hf : qs sp t m = some (qf, 0)) (hqf : qEnd qf) {k o : Nat} (hk : k < m) (hq : qs sp t k = some (0, o)) (hc : isL (t k) = true ∨ isD (t k) = true) {Q : Unit ⊕ Int32 → Dm → Prop} (hQ : ∀ k2 q2 R T, k < k2 → k2 ≤ m → qs sp t k2 = some (q2, o) → clsd q2 (sgl t m k2) → q2 ≠ 7 → sT (vv sp p t k2) = T → (∃ n, sRest (vv sp p t k2) = ((sRest (vv sp p t k)).1, (sRest (vv sp p t k)).2.1, R, n)) → wp (Mod_holdsHere_326 65 65 (bI (cmpV R T))) (atM d k2) Q) : wp (mb (vc ZF 12 65 (Mod_sumHere 65)) fun r8 => mb (vc ZF 12 65 (Mod_sign 65)) fun r9 => mb (gI ZF 12 21 65) fun x10 => mb (pI ZF 12 21 65 (x10 + (1 : Int32))) fun _ => mb (vc ZF 12 65 (Mod_sumHere 65)) fun r11 => if r9 = (60 : Int32) then Mod_holdsHere_326 65 65 (if r11 ≤ r8 then (0 : Int32) else (1 : Int32)) else if r9 = (61 : Int32) then Mod_holdsHere_326 65 65 (if r8 = r11 then (1 : Int32) else (0 : Int32)) else Mod_holdsHere_326 65 65 (if r8 ≤ r11 then (0 : Int32) else (1 : Int32))) (atM d k) Q := by
  have hm := h.2.1
  rw [wp_mb, wp_vc]
  refine ⟨rfl, ?_⟩
  refine wp_mono (sum_run h hp75 hf hqf hk hq (Or.inl rfl) hc rfl) (fun z1 d1 ⟨k1, q1, a1, a2, a3, a4, a5, a6, a7, a8⟩ => ?_)
  subst a3
  have hq23 : q1 = 2 ∨ q1 = 3 := by simp [aq] at a5; omega
  have hk1 : k1 < m := by
    by_cases hh : k1 < m
    · exact hh
    · have : k1 = m := by omega
      rw [this, hf] at a4
      have h1 : qf = q1 := congrArg Prod.fst (Option.some.inj a4)
      unfold qEnd at hqf
      omega
  have ek : sgl t m k1 = t k1 := if_pos hk1
  rw [ek] at a5 a6
  obtain ⟨q1', b1, b2⟩ := qs_go hf hk1 a4
  have hM : isM (t k1) = true ∧ q1' = 4 := by
    rcases hq23 with rfl | rfl
    · by_cases hM : isM (t k1) = true
      · simp [nx, a6, hM] at b1; exact ⟨hM, b1.symm⟩
      · simp [nx, a6, hM] at b1
    · have hd : isD (t k1) = false := by
        rcases a5 with e | ⟨-, e⟩
        · simp [aq] at e
        · exact e
      by_cases hM : isM (t k1) = true
      · simp [nx, a6, hM, hd] at b1; exact ⟨hM, b1.symm⟩
      · simp [nx, a6, hM, hd] at b1
  obtain ⟨hM, e4⟩ := hM
  subst e4
  have hM2 := isM_iff.mp hM
  obtain ⟨c1, c2⟩ := qs_step (p := p) a4 b1
  rw [nxO_o (by omega) (by omega)] at c1
  have hd1 : q1 = 3 → isD (t k1) = false := fun e => by
    cases e2 : isD (t k1) with
    | false => rfl
    | true => have := isD_iff.mp e2; omega
  have cv : sT (vv sp p t (k1 + 1)) = sT (vv sp p t k1) ∧ sM (vv sp p t (k1 + 1)) = false ∧ sRest (vv sp p t (k1 + 1)) = ((sRest (vv sp p t k1)).1, (sRest (vv sp p t k1)).2.1, t k1, (sRest (vv sp p t k1)).2.2.2) := by
    rw [c2]
    generalize vv sp p t k1 = s
    obtain ⟨⟨o', a', n'⟩, g, T, U, mm, x, R, v, tg⟩ := s
    rcases hq23 with rfl | rfl
    · simp [vst, a6, sT, sM, sRest]
    · simp [vst, a6, hd1, sT, sM, sRest]
  have hk2 : k1 + 1 < m := by
    by_cases hh : k1 + 1 < m
    · exact hh
    · have : k1 + 1 = m := by omega
      rw [this, hf] at c1
      have h1 : qf = 4 := congrArg Prod.fst (Option.some.inj c1)
      unfold qEnd at hqf
      omega
  obtain ⟨q2', d1', -⟩ := qs_go hf hk2 c1
  rw [wp_mb, wp_vc]
  refine ⟨rfl, ?_⟩
  rw [wp_eq (sign_eq h (by omega)), ek]
  simp only [wp_mb, wp_gI, wp_pI, wp_vc, zk, true_and, atM_at, nI_1, inc_at]
  refine wp_mono (sum_run h hp75 hf hqf hk2 c1 (Or.inr (Or.inr (Or.inl rfl))) (isU_LD (by omega) d1') (by unfold uM; rw [if_neg (by decide)]; exact cv.2.1)) (fun z2 d2 ⟨k2, q2, f1, f2, f3, f4, f5, f6, f7, f8⟩ => ?_)
  subst f3
  have e1 : z1 = Int32.ofInt (sT (vv sp p t k1)) := by
    rw [a8]
    simp [usd, uT, sgn]
  have e2 : z2 = Int32.ofInt (sT (vv sp p t k1) - sT (vv sp p t k2)) := by
    rw [f8]
    have : uT 4 (vv sp p t (k1 + 1)) = sT (vv sp p t k1) := (if_neg (by decide)).trans cv.1
    rw [this]
    congr 1
    simp [usd, sgn]
    omega
  have bd : ∀ j x, qs sp t j = some x → j ≤ m → -6000 ≤ sT (vv sp p t j) ∧ sT (vv sp p t j) ≤ 6000 := fun j x hj hjm => by
    have := vv_sm hp hj
    generalize hs : vv sp p t j = s at this
    obtain ⟨G, g, T, U, mm, y, R, v, tg⟩ := s
    simp only [vsm] at this
    simp only [sT]
    omega
  have bL := bd k1 _ a4 (by omega)
  have bT := bd k2 _ f4 f2
  have cmpv : ∀ {a b : Int}, -12000 ≤ a → a ≤ 12000 → -12000 ≤ b → b ≤ 12000 → ((Int32.ofInt a ≤ Int32.ofInt b ↔ a ≤ b) ∧ (Int32.ofInt a = Int32.ofInt b ↔ a = b)) := fun {a b} h1 h2 h3 h4 => by
    rw [fa_le, fa_eq, fb_ofI (by omega) (by omega), fb_ofI (by omega) (by omega)]
    exact ⟨Iff.rfl, Iff.rfl⟩
  have c21 := cmpv (a := sT (vv sp p t k1) - sT (vv sp p t k2)) (b := sT (vv sp p t k1)) (by omega) (by omega) (by omega) (by omega)
  have c12 := cmpv (a := sT (vv sp p t k1)) (b := sT (vv sp p t k1) - sT (vv sp p t k2)) (by omega) (by omega) (by omega) (by omega)
  have hcl : clsd q2 (sgl t m k2) := Or.inr ⟨by simp [aq] at f5; omega, f6, fun e => by
    rcases f5 with e' | ⟨-, e'⟩
    · simp [aq] at e'; omega
    · exact e'⟩
  have hne : q2 ≠ 7 := by simp [aq] at f5; omega
  have fin := hQ k2 q2 (t k1) (sT (vv sp p t k2)) (by omega) f2 f4 hcl hne rfl ⟨(sRest (vv sp p t k1)).2.2.2, by rw [f7, cv.2.2, a7]⟩
  have hl := rc_lit (show t k1 < 128 by omega)
  rw [e1, e2]
  by_cases h60 : t k1 = 60
  · rw [if_pos (hl.2.2.2.2.2.2.2.1.mpr h60)]
    have : (if Int32.ofInt (sT (vv sp p t k1) - sT (vv sp p t k2)) ≤ Int32.ofInt (sT (vv sp p t k1)) then (0 : Int32) else 1) = bI (cmpV (t k1) (sT (vv sp p t k2))) := by
      unfold cmpV
      rw [if_pos h60]
      by_cases hT : sT (vv sp p t k2) < 0
      · rw [if_neg (fun q => by have := c21.1.mp q; omega)]; simp [hT, bI]
      · rw [if_pos (c21.1.mpr (by omega))]; simp [hT, bI]
    rw [this]
    exact fin
  · rw [if_neg (fun q => h60 (hl.2.2.2.2.2.2.2.1.mp q))]
    by_cases h61 : t k1 = 61
    · rw [if_pos (hl.2.2.2.2.2.2.2.2.1.mpr h61)]
      have : (if Int32.ofInt (sT (vv sp p t k1)) = Int32.ofInt (sT (vv sp p t k1) - sT (vv sp p t k2)) then (1 : Int32) else 0) = bI (cmpV (t k1) (sT (vv sp p t k2))) := by
        unfold cmpV
        rw [if_neg h60, if_pos h61]
        by_cases hT : sT (vv sp p t k2) = 0
        · rw [if_pos (c12.2.mpr (by omega))]; simp [hT, bI]
        · rw [if_neg (fun q => by have := c12.2.mp q; omega)]; simp [hT, bI]
      rw [this]
      exact fin
    · rw [if_neg (fun q => h61 (hl.2.2.2.2.2.2.2.2.1.mp q))]
      have : (if Int32.ofInt (sT (vv sp p t k1)) ≤ Int32.ofInt (sT (vv sp p t k1) - sT (vv sp p t k2)) then (0 : Int32) else 1) = bI (cmpV (t k1) (sT (vv sp p t k2))) := by
        unfold cmpV
        rw [if_neg h60, if_neg h61]
        by_cases hT : 0 < sT (vv sp p t k2)
        · rw [if_neg (fun q => by have := c12.1.mp q; omega)]; simp [hT, bI]
        · rw [if_pos (c12.1.mpr (by omega))]; simp [hT, bI]
      rw [this]
      exact fin
end
