/-! ===== pure: fewest, by the class, whole ===== -/
section
variable {r n ns st A : Nat} {ac : Nat → Ac} {f : Pl} {ev : Nat → Pl → Bool} {sv : Nat → Pl → Pl} {d : Dm} {b e : Nat}
theorem search_eq (h : CX r n ac f ev sv ns st A d) (hW : WKp r n ac f ev sv ns (n + 1) d) (hn : n ≤ 8) (hb : b ≤ 9) (he : e ≤ 99) : wp (Plac_search 61 3 (nI A) (nI b) (nI e)) d (fun _ d' => SJ r n ac f ev sv ns st A b e d (3 ^ (n - 1)) (fwB r n ac f ev sv ns A b e (3 ^ (n - 1))) d') := by
  have e31 := h.1.1.2.1
  have hR : Rf d.2.2 := h.1.1.2.2.2.2
  have hpl : (if (0 : Int32) < (if (8 : Int32) < nI n then (8 : Int32) else nI n) - 1 then (if (8 : Int32) < nI n then (8 : Int32) else nI n) - 1 else 0) = nI (n - 1) := by
    rw [if_neg (show ¬ (8 : Int32) < nI n from nI_nlt (a := 8) (by omega) (by omega))]
    have hc : n = 0 ∨ n = 1 ∨ n = 2 ∨ n = 3 ∨ n = 4 ∨ n = 5 ∨ n = 6 ∨ n = 7 ∨ n = 8 := by omega
    rcases hc with rfl | rfl | rfl | rfl | rfl | rfl | rfl | rfl | rfl <;> rfl
  unfold Plac_search
  simp only [wp_mb, wp_gI, wp_pI, wp_gR, zk, true_and, hR.1, e31, hpl]
  refine wp_mono (fill63 _) (fun _ d1 ⟨⟨g1, g2⟩, g3⟩ => ?_)
  simp only [wp_mb, wp_pI, wp_ml, zk, true_and]
  generalize hD : ((u2 (u2 d1.1 61 4 (-1)) 61 5 (-1), d1.2) : Dm) = d2
  have k6 : ∀ x, x ≠ 61 → x ≠ 63 → d2.1 x = d.1 x := fun x a b' => by
    rw [← hD]
    show u2 (u2 d1.1 61 4 (-1)) 61 5 (-1) x = _
    rw [u2_row _ a, u2_row _ a, g1 x b']
    exact u2_row _ a _ _
  have k2 : d2.2 = d.2 := by rw [← hD]; exact g2
  have hJ : SJ r n ac f ev sv ns st A b e d 0 none d2 := by
    refine ⟨⟨fun x a b' _ => k6 x a b', k2⟩, h.P6 (fun x hx => k6 x (by omega) (by omega)) k2, fun a' k p q s => by rw [k6 62 (by omega) (by omega)]; exact hW a' k p q s, ?_, fun i hi => ?_, ?_, ?_⟩
    · rw [← hD]
      show u2 (u2 d1.1 61 4 (-1)) 61 5 (-1) 61 3 = _
      rw [u2_k _ _ _ (by omega), u2_k _ _ _ (by omega), g1 61 (by omega)]
      exact u2_s d.1 61 3 (nI (n - 1))
    · rw [← hD]
      show u2 (u2 d1.1 61 4 (-1)) 61 5 (-1) 63 i = _
      rw [u2_a _ (by omega), u2_a _ (by omega), g3 i hi]
      unfold pd
      rw [Nat.zero_div, Nat.zero_mod]
      simp
    · rw [← hD]; rfl
    · rw [← hD]; rfl
  unfold Plac_search_43
  refine wp_up (fun i s dd => s = (nI (3 ^ i), nI i) ∧ dd = d2) (n - 1) ?_ (i := 0) (Nat.zero_le _) ⟨rfl, rfl⟩
  intro i s dd hi ⟨e1, e2⟩
  subst e1; subst e2
  unfold Plac_search_43_b
  dsimp only
  simp only [wp_mb, wp_gI, zk, true_and, hJ.2.2.2.1]
  by_cases hc : i = n - 1
  · rw [if_pos (nI_le (by omega) (by omega))]
    simp only [wp_mr, wp_ml]
    rw [hc]
    exact search67 hJ hn hb he
  · rw [if_neg (nI_ge (by omega) (by omega))]
    simp only [wp_ml, wp_mp, nI_1]
    refine ⟨by omega, ?_, trivial⟩
    rw [show (3 : Int32) = nI 3 from rfl, pk_mul, Nat.pow_succ]
theorem fewest_eq (h : CX r n ac f ev sv ns st A d) {fd : Nat} (hc : CK (nI b) (nI e) d) (hF : d.1 1 10 = nI fd) (hb : b ≤ 9) (he : e ≤ 99) (hfd : fd ≤ 12) (x : Int32) : wp (Main_fewest 1 x) d (fun z d' => (¬ vX x ∧ z = -102 ∧ d' = d) ∨ (vX x ∧ (((8 < n ∨ fd = 12) ∧ z = -103 ∧ d' = d) ∨ (n ≤ 8 ∧ fd < 12 ∧ z = fwZ (n - 1) (kN (n - 1) b e) (mN (n - 1)) (fwB r n ac f ev sv ns A b e (3 ^ (n - 1))) x ∧ CX r n ac f ev sv ns st A d' ∧ CK (nI b) (nI e) d' ∧ d'.1 1 10 = nI (fd + 1) ∧ (∀ y, (52 ≤ y ∧ y ≤ 60) ∨ 65 ≤ y → d'.1 y = d.1 y) ∧ d'.2 = d.2)))) := by
  have hR : Rf d.2.2 := h.1.1.2.2.2.2
  have hn := h.1.1.1.1
  have go : ∀ u : Bool, vX x → (u = true ↔ ¬ (x = 0 ∨ x = 1)) → wp (Main_fewest_39 1 x (x - 10) (bI u)) d (fun z d' => (¬ vX x ∧ z = -102 ∧ d' = d) ∨ (vX x ∧ (((8 < n ∨ fd = 12) ∧ z = -103 ∧ d' = d) ∨ (n ≤ 8 ∧ fd < 12 ∧ z = fwZ (n - 1) (kN (n - 1) b e) (mN (n - 1)) (fwB r n ac f ev sv ns A b e (3 ^ (n - 1))) x ∧ CX r n ac f ev sv ns st A d' ∧ CK (nI b) (nI e) d' ∧ d'.1 1 10 = nI (fd + 1) ∧ (∀ y, (52 ≤ y ∧ y ≤ 60) ∨ 65 ≤ y → d'.1 y = d.1 y) ∧ d'.2 = d.2)))) := by
    intro u hx hu
    unfold Main_fewest_39
    simp only [wp_mb, wp_gI, wp_gR, zk, true_and, hR.1, h.1.1.2.1]
    by_cases h8 : 8 < n
    · rw [if_pos (show (8 : Int32) < nI n from nI_lt (a := 8) h8 (by omega)), wp_mp]
      exact Or.inr ⟨hx, Or.inl ⟨Or.inl h8, rfl, rfl⟩⟩
    · rw [if_neg (show ¬ (8 : Int32) < nI n from nI_nlt (a := 8) (by omega) (by omega))]
      simp only [wp_mb, wp_gI, zk, true_and, hF]
      by_cases h12 : fd = 12
      · rw [if_neg (show ¬ nI fd < (12 : Int32) from nI_nlt (b := 12) (by omega) (by omega)), wp_mp]
        exact Or.inr ⟨hx, Or.inl ⟨Or.inr h12, rfl, rfl⟩⟩
      · rw [if_pos (show nI fd < (12 : Int32) from nI_lt (b := 12) (by omega) (by omega))]
        simp only [wp_mb, wp_gI, wp_pI, wp_gR, wp_vc, zk, true_and, hF, hR.1, nI_1]
        have h1 : CX r n ac f ev sv ns st A (u2 d.1 1 10 (nI (fd + 1)), d.2) := h.keep (fun x hx => u2_row _ (show x ≠ 1 by omega) _ _) rfl
        have e8 : u2 d.1 1 10 (nI (fd + 1)) 1 8 = nI b := (u2_k _ _ _ (by omega) _).trans hc.1
        have e9 : u2 d.1 1 10 (nI (fd + 1)) 1 9 = nI e := (u2_k _ _ _ (by omega) _).trans hc.2
        have e10 : u2 d.1 1 10 (nI (fd + 1)) 1 10 = nI (fd + 1) := u2_s _ _ _ _
        have ey : ∀ y, y ≠ 1 → u2 d.1 1 10 (nI (fd + 1)) y = d.1 y := fun y hy => u2_row _ hy _ _
        refine wp_mono (weigh_eq h1 (by omega)) (fun _ d2 ⟨⟨w1, w2⟩, hC2, hW2⟩ => ?_)
        have hR2 : Rf d2.2.2 := hC2.1.1.2.2.2.2
        have r1 := w1 1 (by omega) (by omega) (by omega) (by omega)
        have e8' : d2.1 1 8 = nI b := (congrFun r1 8).trans e8
        have e9' : d2.1 1 9 = nI e := (congrFun r1 9).trans e9
        simp only [wp_gR, wp_gI, wp_vc, wp_mb, zk, true_and, hR2.1, hC2.2.1.1, e8', e9']
        refine wp_mono (search_eq hC2 hW2 (by omega) hb he) (fun _ d3 ⟨⟨f1, f2⟩, hC3, hW3, h3, h63, hB⟩ => ?_)
        have hR3 : Rf d3.2.2 := hC3.1.1.2.2.2.2
        have r3 := f1 1 (by omega) (by omega) (by omega)
        have fin : ∀ z, z = fwZ (n - 1) (kN (n - 1) b e) (mN (n - 1)) (fwB r n ac f ev sv ns A b e (3 ^ (n - 1))) x → (¬ vX x ∧ z = -102 ∧ d3 = d) ∨ (vX x ∧ (((8 < n ∨ fd = 12) ∧ z = -103 ∧ d3 = d) ∨ (n ≤ 8 ∧ fd < 12 ∧ z = fwZ (n - 1) (kN (n - 1) b e) (mN (n - 1)) (fwB r n ac f ev sv ns A b e (3 ^ (n - 1))) x ∧ CX r n ac f ev sv ns st A d3 ∧ CK (nI b) (nI e) d3 ∧ d3.1 1 10 = nI (fd + 1) ∧ (∀ y, (52 ≤ y ∧ y ≤ 60) ∨ 65 ≤ y → d3.1 y = d.1 y) ∧ d3.2 = d.2))) := fun z hz => Or.inr ⟨hx, Or.inr ⟨by omega, by omega, hz, hC3, ⟨(congrFun r3 8).trans e8', (congrFun r3 9).trans e9'⟩, (congrFun r3 10).trans ((congrFun r1 10).trans e10), fun y hy => (f1 y (by omega) (by omega) (by omega)).trans ((w1 y (by omega) (by omega) (by omega) (by omega)).trans (ey y (by omega))), f2.trans w2⟩⟩
        generalize hO : fwB r n ac f ev sv ns A b e (3 ^ (n - 1)) = oo at hB fin
        cases u with
        | false =>
          have hx01 : x = 0 ∨ x = 1 := Classical.byContradiction fun w => by cases hu.mpr w
          rw [if_pos (by decide)]
          refine wp_if (fun q0 => ?_) (fun q0 => ?_)
          · simp only [wp_mb, wp_gR, wp_gI, wp_mp, zk, true_and, hR3.1]
            refine fin _ ?_
            cases oo with
            | none => exact hB.1
            | some q => unfold fwZ; dsimp only; rw [if_pos q0]; exact hB.1
          · have q1 : x = 1 := hx01.resolve_left q0
            simp only [wp_mb, wp_gR, wp_gI, wp_mp, zk, true_and, hR3.1]
            refine fin _ ?_
            cases oo with
            | none => exact hB.2
            | some q => unfold fwZ; dsimp only; rw [if_neg q0, if_pos q1]; exact hB.2.1
        | true =>
          have hx01 := hu.mp rfl
          rw [if_neg (by decide)]
          rcases hx with q | q | ⟨i, hi, q⟩
          · exact absurd (Or.inl q) hx01
          · exact absurd (Or.inr q) hx01
          · have ei : x - (10 : Int32) = nI i := by
              rw [q, show (10 : Int32) = nI 10 from rfl, pk_sub (by omega), show 10 + i - 10 = i by omega]
            rw [ei]
            unfold Plac_behind
            simp only [wp_mb, wp_gR, wp_gI, wp_vc, zk, true_and, hR3.1]
            cases oo with
            | none =>
              rw [if_pos hB.1, wp_mp, wp_mp]
              exact fin _ rfl
            | some q' =>
              have hk := kN_le (c := q') (show n - 1 ≤ 7 by omega) hb he
              have hne : ¬ d3.1 61 4 = (-1 : Int32) := fun w => by
                have : (0 : Int32) ≤ nI (kN (n - 1) b e q') := nI_pos' (by omega)
                rw [← hB.1, w] at this
                exact absurd this (by decide)
              rw [if_neg hne, if_neg (Int32.not_lt.mpr (nI_pos' (by omega)))]
              simp only [wp_mb, wp_gR, wp_gI, zk, true_and, h3]
              have ez : fwZ (n - 1) (kN (n - 1) b e) (mN (n - 1)) (some q') x = if n - 1 ≤ i then -1 else nI (pd (n - 1) q' i) := by
                unfold fwZ
                dsimp only
                rw [if_neg (fun w => hx01 (Or.inl w)), if_neg (fun w => hx01 (Or.inr w)), ei, show cl (nI i) = i from nI_clamp (by omega)]
              by_cases hP : n - 1 ≤ i
              · rw [if_pos (nI_le hP (by omega)), wp_mp, wp_mp]
                exact fin _ (by rw [ez, if_pos hP])
              · rw [if_neg (nI_ge (by omega) (by omega))]
                simp only [wp_mb, wp_gR, wp_aI, wp_mp, zk, zl, true_and, hR3.1, nI_clamp (show i < 2 ^ 31 by omega)]
                exact ⟨ib_nI (by omega) (by omega), fin _ (by rw [ez, if_neg hP]; exact hB.2.2 i (by omega))⟩
  have f21 : ¬ (10 ≤ x ∧ x ≤ 16) → wp (Main_fewest_21 1 x (x - 10)) d (fun z d' => (¬ vX x ∧ z = -102 ∧ d' = d) ∨ (vX x ∧ (((8 < n ∨ fd = 12) ∧ z = -103 ∧ d' = d) ∨ (n ≤ 8 ∧ fd < 12 ∧ z = fwZ (n - 1) (kN (n - 1) b e) (mN (n - 1)) (fwB r n ac f ev sv ns A b e (3 ^ (n - 1))) x ∧ CX r n ac f ev sv ns st A d' ∧ CK (nI b) (nI e) d' ∧ d'.1 1 10 = nI (fd + 1) ∧ (∀ y, (52 ≤ y ∧ y ≤ 60) ∨ 65 ≤ y → d'.1 y = d.1 y) ∧ d'.2 = d.2)))) := by
    intro hno
    unfold Main_fewest_21 Main_fewest_22
    refine wp_if (fun q => go false (Or.inl q) ⟨(fun w => by cases w), fun w => absurd (Or.inl q) w⟩) (fun q0 => wp_if (fun q => go false (Or.inr (Or.inl q)) ⟨(fun w => by cases w), fun w => absurd (Or.inr q) w⟩) (fun q1 => ?_))
    rw [if_pos rfl, wp_mp]
    refine Or.inl ⟨fun w => ?_, rfl, rfl⟩
    rcases (vX_iff x).mp w with w | w
    · exact ((in01 x).mp w).elim q0 q1
    · exact hno w
  unfold Main_fewest
  rw [wp_ml]
  refine wp_if (fun q => f21 (fun w => Int32.not_lt.mpr w.1 q)) (fun q => wp_if (fun q7 => f21 (fun w => ?_)) (fun q7 => ?_))
  · rcases (vX_iff x).mpr (Or.inr w) with w1 | w1 | ⟨i, hi, w1⟩
    · rw [w1] at w; exact absurd w.1 (by decide)
    · rw [w1] at w; exact absurd w.1 (by decide)
    · have ei : x - (10 : Int32) = nI i := by
        rw [w1, show (10 : Int32) = nI 10 from rfl, pk_sub (by omega), show 10 + i - 10 = i by omega]
      rw [ei] at q7
      have := (nI_leI (a := 7) (b := i) (by omega) (by omega)).mp q7
      omega
  · have hx : vX x := by
      have h10 : (10 : Int32) ≤ x := Int32.not_lt.mp q
      have t1 := Int32.toInt_lt x
      have t2 := h10
      rw [fa_le, show (10 : Int32).toInt = 10 from rfl] at t2
      have e1 : (x - 10).toInt = x.toInt - 10 := by
        rw [fb_subI]
        · rfl
        · show _ ≤ x.toInt - 10; omega
        · show x.toInt - 10 < _; omega
      rw [fa_le, e1, show (7 : Int32).toInt = 7 from rfl] at q7
      refine (vX_iff x).mpr (Or.inr ⟨h10, ?_⟩)
      rw [fa_le, show (16 : Int32).toInt = 16 from rfl]
      omega
    have hn01 : ¬ (x = 0 ∨ x = 1) := fun w => q (by rcases w with w | w <;> rw [w] <;> decide)
    unfold Main_fewest_22
    rw [if_neg (fun w => hn01 (Or.inl w)), if_neg (fun w => hn01 (Or.inr w)), if_neg (show ¬ (1 : Int32) = 0 by decide)]
    exact go true hx ⟨fun _ => hn01, fun _ => rfl⟩
end
