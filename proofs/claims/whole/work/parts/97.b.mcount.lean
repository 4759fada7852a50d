/-! ===== pure: always, costs, counts by the reference ===== -/
def coM (x j : Nat) : Prop := (66 ≤ x ∧ x ≤ 68) ∨ (70 ≤ x ∧ x ≤ 74) ∨ (79 ≤ x ∧ x ≤ 84) ∨ (x = 65 ∧ (j = 1 ∨ j = 6 ∨ j = 10 ∨ j = 27 ∨ j = 34))
section
variable {r n ns A : Nat} {ac : Nat → Ac} {f : Pl} {ev : Nat → Pl → Bool} {sv : Nat → Pl → Pl} {t : Nat → Nat} {pn : Nat} {bc fc : Int32} {fd : Nat} {d : Dm}
theorem MX.fco {S : Nat → Nat → Prop} {d' : Dm} (h : MX r n ac f ev sv ns A d) (hf : frc S d d') (hS : ∀ x j, coM x j → ¬ S x j) : MX r n ac f ev sv ns A d' := by
  have hc : ∀ {x j}, ((66 ≤ x ∧ x ≤ 68) ∨ (70 ≤ x ∧ x ≤ 74) ∨ (79 ≤ x ∧ x ≤ 84) ∨ (x = 65 ∧ (j = 1 ∨ j = 6 ∨ j = 10 ∨ j = 27 ∨ j = 34))) → ¬ S x j := fun hx => hS _ _ hx
  refine ⟨⟨MRf_fr h.1.1 hf, h.1.2.1.fr hf (hc (by omega)) (fun j => hc (by omega)) (fun j => hc (by omega)) (fun j => hc (by omega)), h.1.2.2.1.fr hf (hc (by omega)) (fun j => hc (by omega)) (fun j => hc (by omega)) (fun j => hc (by omega)), h.1.2.2.2.1.fr hf (hc (by omega)) (fun j => hc (by omega)) (fun j => hc (by omega)), h.1.2.2.2.2⟩, ?_⟩
  rcases h.2 with h0 | ⟨h1, wa, wn, hT⟩
  · exact Or.inl ((hf.i (hc (by omega))).trans h0)
  · exact Or.inr ⟨(hf.i (hc (by omega))).trans h1, wa, wn, hT.fr hf (fun x j hx => hc (by unfold tbM at hx; omega))⟩
theorem alwaysM (h : MJ r n ac f ev sv ns A t pn bc fc fd d) (x y : Int32) (hy : y = 0 ∨ y = 1) : wp (Mod_always 65 x y) d (fun z d' => (¬ (0 ≤ x ∧ x < nI r) ∧ z = -101 ∧ d' = d) ∨ ∃ j, j < r ∧ x = nI j ∧ z = nI (if A.testBit j then 1 else 0) ∧ frc s65 d d' ∧ MJ r n ac f ev sv ns (if y = 0 then A ^^^ (A &&& 2 ^ j) else A ||| 2 ^ j) t pn bc fc fd d') := by
  have hM := h.1.1.2.2.1
  have hr := hM.1
  have r72 : d.2.2 65 9 = 72 := h.1.1.1.2.2.2.2.2.2.1
  unfold Mod_always
  simp only [wp_mb, wp_gI, zk, true_and, hM.2.1, wp_eq (Mod_in_eq _ _ _ _), le_pred x (show r < 2 ^ 31 by omega)]
  rcases ix_cases x (n := r) (by omega) with hx | ⟨j, hj, hx⟩
  · simp only [if_neg hx, if_true, wp_mp]
    exact Or.inl ⟨hx, trivial, trivial⟩
  subst hx
  have e72 := (hM.2.2 j hj).1
  simp only [if_pos (nI_has hj (show r < 2 ^ 31 by omega)), if_neg (show ¬ (1 : Int32) = 0 by decide), wp_mb, wp_gR, wp_aI, zk, zl, true_and, r72, nI_clamp (show j < 2 ^ 31 by omega), e72]
  refine ⟨ib_nI (by omega) (by omega), ?_⟩
  unfold Mod_always_31
  simp only [wp_mb, wp_gR, wp_sZ, wp_mp, zk, zl, true_and, r72, nI_clamp (show j < 2 ^ 31 by omega)]
  refine ⟨⟨ib_nI (by omega) (by omega), hy⟩, Or.inr ⟨j, hj, rfl, ?_, ?_⟩⟩
  · cases A.testBit j <;> rfl
  have hf : frc (fun x (_ : Nat) => x = 72) d (u2 d.1 72 j y, d.2) := fr_uI d 72 j _ rfl
  have hA := h.1.1.2.2.2.2
  have h2j : 2 ^ j < 2 ^ r := Nat.pow_lt_pow_right (by omega) hj
  have hA2 : (if y = 0 then A ^^^ (A &&& 2 ^ j) else A ||| 2 ^ j) < 2 ^ r := by
    split
    · exact Nat.xor_lt_two_pow hA (Nat.and_lt_two_pow _ h2j)
    · exact Nat.or_lt_two_pow hA h2j
  have hbit : ∀ k, (if y = 0 then A ^^^ (A &&& 2 ^ j) else A ||| 2 ^ j).testBit k = if k = j then decide (y ≠ 0) else A.testBit k := fun k => by
    by_cases hk : k = j
    · subst hk
      rw [if_pos rfl]
      rcases hy with rfl | rfl
      · rw [if_pos rfl, Nat.testBit_xor, Nat.testBit_and, Nat.testBit_two_pow]
        cases A.testBit k <;> simp
      · rw [if_neg (by decide), Nat.testBit_or, Nat.testBit_two_pow]
        simp
    · rw [if_neg hk]
      rcases hy with rfl | rfl
      · rw [if_pos rfl, Nat.testBit_xor, Nat.testBit_and, Nat.testBit_two_pow, decide_eq_false (fun q => hk q.symm)]
        cases A.testBit k <;> simp
      · rw [if_neg (by decide), Nat.testBit_or, Nat.testBit_two_pow, decide_eq_false (fun q => hk q.symm)]
        simp
  have hne : ∀ {x k}, x ≠ 72 → u2 d.1 72 j y x k = d.1 x k := fun hx => u2_a _ hx _ _ _
  have hM2 : MR r ev (if y = 0 then A ^^^ (A &&& 2 ^ j) else A ||| 2 ^ j) (u2 d.1 72 j y, d.2) := by
    refine ⟨hr, (hne (by omega)).trans hM.2.1, fun k hk => ?_⟩
    obtain ⟨b0, t', m', b1, b2, b3, b4⟩ := hM.2.2 k hk
    refine ⟨?_, t', m', b1, (hne (by omega)).trans b2, fun i hi => ⟨(hne (by omega)).trans (b3 i hi).1, (b3 i hi).2⟩, b4⟩
    rw [hbit]
    show u2 d.1 72 j y 72 k = _
    by_cases hkj : k = j
    · rw [hkj, u2_s, if_pos rfl]
      rcases hy with rfl | rfl <;> rfl
    · rw [u2_k _ _ _ hkj, if_neg hkj]; exact b0
  refine ⟨frc_w hf fun x j hx q => hx (by unfold s65; omega), ⟨⟨MRf_fr h.1.1.1 hf, h.1.1.2.1.fr hf (by omega) (fun j => by omega) (fun j => by omega) (fun j => by omega), hM2, h.1.1.2.2.2.1.fr hf (by omega) (fun j => by omega) (fun j => by omega), hA2⟩, ?_⟩, h.2.1.fr hf (by omega) (fun j => by omega), h.2.2.fr hf (fun j a b => by omega)⟩
  rcases h.1.2 with h0 | ⟨h1, wa, wn, hT⟩
  · exact Or.inl ((hne (by omega)).trans h0)
  · exact Or.inr ⟨(hne (by omega)).trans h1, wa, wn, hT.fr hf (fun x j hx q => by unfold tbM at hx; omega)⟩
theorem costM (h : MJ r n ac f ev sv ns A t pn bc fc fd d) (x y : Int32) : wp (Mod_cost 65 x y) d (fun z d' => ((x ≠ 0 ∧ x ≠ 1) ∧ z = -101 ∧ d' = d) ∨ ((x = 0 ∨ x = 1) ∧ ((¬ (1 ≤ y ∧ y ≤ (if x = 0 then 9 else 99)) ∧ z = -102 ∧ d' = d) ∨ ((1 ≤ y ∧ y ≤ (if x = 0 then 9 else 99)) ∧ z = (if x = 0 then bc else fc) ∧ frc s65 d d' ∧ MJ r n ac f ev sv ns A t pn (if x = 0 then y else bc) (if x = 0 then fc else y) fd d')))) := by
  obtain ⟨k1, k2, k3⟩ := h.2.2
  unfold Mod_cost
  simp only [wp_mb, wp_eq (Mod_in_eq _ _ _ _), in01]
  by_cases hx : x = 0 ∨ x = 1
  · rw [if_pos hx, if_neg (by decide)]
    unfold Mod_cost_25
    simp only [wp_mb, wp_eq (Mod_in_eq _ _ _ _)]
    by_cases hy : (1 : Int32) ≤ y ∧ y ≤ (if x = 0 then 9 else 99)
    · rw [if_pos hy, if_neg (by decide)]
      have fin : ∀ b c : Int32, MJ r n ac f ev sv ns A t pn b c fd (u2 (u2 d.1 65 13 b) 65 14 c, d.2) ∧ frc s65 d (u2 (u2 d.1 65 13 b) 65 14 c, d.2) := fun b c => by
        have hf : frc (fun x j => x = 65 ∧ (j = 13 ∨ j = 14)) d (u2 (u2 d.1 65 13 b) 65 14 c, d.2) := frc_I (fr_uI d 65 13 b ⟨rfl, Or.inl rfl⟩) 65 14 c ⟨rfl, Or.inr rfl⟩
        exact ⟨⟨h.1.fco hf (fun x j hx q => by unfold coM at hx; omega), h.2.1.fr hf (by omega) (fun j => by omega), (u2_k (u2 d.1 65 13 b) 65 65 (show (13 : Nat) ≠ 14 by omega) c).trans (u2_s d.1 65 13 b), u2_s (u2 d.1 65 13 b) 65 14 c, (hf.i (by omega)).trans k3⟩, frc_w hf fun x j hx q => hx (by unfold s65; omega)⟩
      rcases hx with rfl | rfl
      · rw [if_pos rfl]
        unfold Mod_cost_49 Mod_cost_63 Mod_cost_80
        have e14 : u2 d.1 65 13 y 65 14 = fc := (u2_k _ _ _ (by omega) _).trans k2
        simp only [wp_mb, wp_gI, wp_pI, wp_mp, zk, true_and, if_true, if_neg (show ¬ (0 : Int32) = 1 by decide), k1, e14]
        exact Or.inr ⟨Or.inl trivial, Or.inr ⟨hy, (fin y fc).2, (fin y fc).1⟩⟩
      · rw [if_neg (by decide)]
        unfold Mod_cost_49 Mod_cost_63 Mod_cost_80
        simp only [wp_mb, wp_gI, wp_pI, wp_mp, zk, true_and, if_true, if_neg (show ¬ (1 : Int32) = 0 by decide), k1, k2]
        exact Or.inr ⟨Or.inr trivial, Or.inr ⟨hy, (fin bc y).2, (fin bc y).1⟩⟩
    · rw [if_neg hy, if_pos rfl, wp_mp]
      exact Or.inr ⟨hx, Or.inl ⟨hy, rfl, rfl⟩⟩
  · rw [if_neg hx, if_pos rfl, wp_mp]
    exact Or.inl ⟨⟨fun q => hx (Or.inl q), fun q => hx (Or.inr q)⟩, rfl, rfl⟩
theorem pcn_top : ∀ (m k x : Nat), x < 2 ^ k → k < m → pcn (x + 2 ^ k) m = pcn x m + 1
  | 0, _, _, _, h => by omega
  | m + 1, 0, x, hx, _ => by
    have : x = 0 := by rw [Nat.pow_zero] at hx; omega
    subst this
    simp only [pcn]
    rw [Nat.pow_zero, show (0 + 1) / 2 = 0 by omega]
    omega
  | m + 1, k + 1, x, hx, hk => by
    have e : 2 ^ (k + 1) = 2 * 2 ^ k := by rw [Nat.pow_succ, Nat.mul_comm]
    simp only [pcn]
    rw [e] at hx ⊢
    have ih := pcn_top m k (x / 2) (by omega) (by omega)
    rw [show (x + 2 * 2 ^ k) / 2 = x / 2 + 2 ^ k by omega, show (x + 2 * 2 ^ k) % 2 = x % 2 by omega, ih]
    omega
theorem pcn_wm (ac : Nat → Ac) : ∀ {k : Nat}, k ≤ 12 → pcn (wm ac k) 12 = fb_ct (fun i => isw (ac i)) k
  | 0, _ => by simp only [wm]; rw [pcn_0]; rfl
  | k + 1, h => by
    rw [fb_ct_succ, ← pcn_wm ac (k := k) (by omega)]
    simp only [wm]
    cases isw (ac k) with
    | true => rw [if_pos rfl, if_pos rfl]; exact pcn_top 12 k _ (wm_lt ac k) (by omega)
    | false => simp
theorem manyM (hR : MRf d.2.2) (h : MP r n ac f d) : Mod_writeMany 65 d = some (nI (pcn (wm ac n) 12), d) := by
  have hn := h.1.1
  apply wp_get
  unfold Mod_writeMany
  simp only [wp_ml]
  unfold Mod_writeMany_4
  refine wp_up (fun i s dd => s = (nI (fb_ct (fun i => isw (ac i)) i), nI i) ∧ dd = d) n ?_ (i := 0) (by omega) ⟨rfl, rfl⟩
  intro i s dd hi ⟨e1, e2⟩
  subst e1; subst e2
  unfold Mod_writeMany_4_b
  dsimp only
  simp only [wp_mb, wp_gI, zk, true_and, h.2.1]
  by_cases hx : i = n
  · subst hx
    rw [if_pos (nI_le (Nat.le_refl _) (by omega)), wp_mr, wp_mp, pcn_wm ac hn]
    exact ⟨rfl, rfl⟩
  · rw [if_neg (nI_ge (by omega) (by omega))]
    simp only [wp_mb, wp_vc, zk, true_and, wp_eq (isWriteM hR h (show i < n by omega))]
    unfold Mod_writeMany_26
    simp only [wp_ml, wp_mp, nI_1, ct_I]
    exact ⟨by omega, by rw [fb_ct_succ], trivial⟩
theorem ewM (hR : MRf d.2.2) (h : MP r n ac f d) : Mod_epochsWithWrites 65 d = some (nI (ew ac n).1, d) := by
  have hn := h.1.1
  have r67 : d.2.2 65 2 = 67 := hR.2.1
  apply wp_get
  unfold Mod_epochsWithWrites
  simp only [wp_ml]
  unfold Mod_epochsWithWrites_6
  refine wp_up (fun i s dd => (∃ c, s = (nI c, bI (ew ac i).2, nI i) ∧ c + (if (ew ac i).2 then 1 else 0) = (ew ac i).1) ∧ dd = d) n ?_ (i := 0) (by omega) ⟨⟨0, rfl, rfl⟩, rfl⟩
  intro i s dd hi ⟨⟨c, e1, hc⟩, e2⟩
  subst e1; subst e2
  unfold Mod_epochsWithWrites_6_b
  dsimp only
  simp only [wp_mb, wp_gI, zk, true_and, h.2.1]
  by_cases hx : i = n
  · subst hx
    rw [if_pos (nI_le (Nat.le_refl _) (by omega)), wp_mr]
    cases hw : (ew ac i).2 with
    | true =>
      rw [if_neg (by decide), wp_mp, nI_1]
      rw [hw, if_pos rfl] at hc
      rw [hc]; exact ⟨rfl, rfl⟩
    | false =>
      rw [if_pos (by decide), wp_mp]
      rw [hw, if_neg (by decide)] at hc
      rw [← hc]; exact ⟨rfl, rfl⟩
  · rw [if_neg (nI_ge (by omega) (by omega))]
    have hin : i < n := by omega
    have a0 := (h.2.2.2 i hin).1
    have fin : ∀ (c' : Nat) (b : Bool), (ew ac (i + 1)).2 = b → c' + (if b then 1 else 0) = (ew ac (i + 1)).1 → wp (Mod_epochsWithWrites_61 65 (nI c') (bI b) (nI i)) dd (fun r' d' => match r' with
        | .inl a' => i < n ∧ (∃ c, a' = (nI c, bI (ew ac (i + 1)).2, nI (i + 1)) ∧ c + (if (ew ac (i + 1)).2 then 1 else 0) = (ew ac (i + 1)).1) ∧ d' = dd
        | .inr z => z = nI (ew ac n).1 ∧ d' = dd) := by
      intro c' b h1 h2
      unfold Mod_epochsWithWrites_61
      simp only [wp_ml, wp_mp, nI_1]
      exact ⟨by omega, ⟨c', by rw [h1], by rw [h1]; exact h2⟩, trivial⟩
    have on : (ew ac i).2 = true ∨ isw (ac i) = true → wp (Mod_epochsWithWrites_26 65 (nI c) (nI i)) dd (fun r' d' => match r' with
        | .inl a' => i < n ∧ (∃ c, a' = (nI c, bI (ew ac (i + 1)).2, nI (i + 1)) ∧ c + (if (ew ac (i + 1)).2 then 1 else 0) = (ew ac (i + 1)).1) ∧ d' = dd
        | .inr z => z = nI (ew ac n).1 ∧ d' = dd) := by
      intro hon
      unfold Mod_epochsWithWrites_26 Mod_epochsWithWrites_31
      rw [if_neg (by decide)]
      simp only [wp_mb, wp_gR, wp_aI, zk, zl, true_and, r67, nI_clamp (show i < 2 ^ 31 by omega), a0]
      refine ⟨ib_nI (by omega) (by omega), ?_⟩
      have brk : ise (ac i) = true → wp (Mod_epochsWithWrites_56 65 (nI c) (nI i)) dd (fun r' d' => match r' with
          | .inl a' => i < n ∧ (∃ c, a' = (nI c, bI (ew ac (i + 1)).2, nI (i + 1)) ∧ c + (if (ew ac (i + 1)).2 then 1 else 0) = (ew ac (i + 1)).1) ∧ d' = dd
          | .inr z => z = nI (ew ac n).1 ∧ d' = dd) := by
        intro hise
        have hw : isw (ac i) = false := by
          cases hw : isw (ac i) with
          | false => rfl
          | true => have := (isw_ise hw).1; rw [hise] at this; cases this
        have h2 : (ew ac i).2 = true := by
          rcases hon with q | q
          · exact q
          · rw [hw] at q; cases q
        unfold Mod_epochsWithWrites_56
        simp only [wp_ml, nI_1]
        refine wp_mono (fin (c + 1) false ?_ ?_) (fun r' d' h => by cases r' <;> exact h)
        · simp [ew, hw, hise]
        · simp [ew, hw, hise]
          rw [h2, if_pos rfl] at hc
          exact hc
      by_cases h2 : ac i 0 = 2
      · rw [if_pos h2]
        exact wp_mono (brk (by simp [ise, h2])) (fun r' d' h => by cases r' <;> exact h)
      · rw [if_neg h2]
        simp only [wp_mb, wp_gR, wp_aI, zk, zl, true_and, r67, nI_clamp (show i < 2 ^ 31 by omega), a0]
        refine ⟨ib_nI (by omega) (by omega), ?_⟩
        by_cases h3 : ac i 0 = 3
        · rw [if_pos h3]
          exact wp_mono (brk (by simp [ise, h3])) (fun r' d' h => by cases r' <;> exact h)
        · rw [if_neg h3]
          have hise : ise (ac i) = false := by simp [ise, h2, h3]
          refine wp_mono (fin c true ?_ ?_) (fun r' d' h => by cases r' <;> exact h)
          · cases hw : isw (ac i) <;> cases hf : (ew ac i).2 <;> simp [ew, hw, hf, hise]
            rw [hw, hf] at hon
            simp at hon
          · cases hw : isw (ac i) <;> cases hf : (ew ac i).2 <;> rw [hf] at hc <;> simp [ew, hw, hf, hise] <;> simp at hc
            · rw [hw, hf] at hon
              simp at hon
            · exact hc
            · omega
            · exact hc
    cases hf : (ew ac i).2 with
    | true =>
      rw [if_neg (by decide)]
      exact wp_mono (on (Or.inl hf)) (fun r' d' h => by cases r' <;> exact h)
    | false =>
      rw [if_pos (by decide)]
      simp only [wp_mb, wp_vc, zk, true_and, wp_eq (isWriteM hR h hin)]
      cases hw : isw (ac i) with
      | true =>
        rw [if_neg (by decide)]
        exact wp_mono (on (Or.inr hw)) (fun r' d' h => by cases r' <;> exact h)
      | false =>
        rw [if_pos (by decide)]
        unfold Mod_epochsWithWrites_31
        rw [if_pos rfl]
        rw [hf, if_neg (by decide)] at hc
        refine wp_mono (fin c false ?_ ?_) (fun r' d' h => by cases r' <;> exact h)
        · cases hise : ise (ac i) <;> simp [ew, hw, hf, hise]
        · cases hise : ise (ac i) <;> simp [ew, hw, hise] <;> exact hc
theorem countOfM (h : MJ r n ac f ev sv ns A t pn bc fc fd d) (x : Int32) : Mod_countOf 65 x d = some (cnS n r ns pn fd ac x, d) := by
  apply wp_get
  unfold Mod_countOf cnS
  simp only [sw, show (0 : Int32) + 1 = 1 from rfl, show (1 : Int32) + 1 = 2 from rfl, show (2 : Int32) + 1 = 3 from rfl, show (3 : Int32) + 1 = 4 from rfl, show (4 : Int32) + 1 = 5 from rfl, show (5 : Int32) + 1 = 6 from rfl]
  refine wp_if (fun h0 => ?_) (fun h0 => ?_)
  · rw [if_pos h0]
    simp only [wp_mb, wp_gI, wp_mp, zk, true_and, h.1.1.2.1.2.1]
  rw [if_neg h0]
  refine wp_if (fun h0 => ?_) (fun h0 => ?_)
  · rw [if_pos h0]
    simp only [wp_mb, wp_gI, wp_mp, zk, true_and, h.1.1.2.2.1.2.1]
  rw [if_neg h0]
  refine wp_if (fun h0 => ?_) (fun h0 => ?_)
  · rw [if_pos h0]
    simp only [wp_mb, wp_gI, wp_mp, zk, true_and, h.1.1.2.2.2.1.2.1]
  rw [if_neg h0]
  refine wp_if (fun h0 => ?_) (fun h0 => ?_)
  · rw [if_pos h0]
    simp only [wp_mb, wp_gI, wp_mp, zk, true_and, h.2.1.2.1]
  rw [if_neg h0]
  refine wp_if (fun h0 => ?_) (fun h0 => ?_)
  · rw [if_pos h0]
    simp only [wp_mb, wp_vc, wp_mp, zk, true_and, wp_eq (ewM h.1.1.1 h.1.1.2.1)]
  rw [if_neg h0]
  refine wp_if (fun h0 => ?_) (fun h0 => ?_)
  · rw [if_pos h0]
    simp only [wp_mb, wp_vc, wp_mp, zk, true_and, wp_eq (manyM h.1.1.1 h.1.1.2.1)]
  rw [if_neg h0]
  refine wp_if (fun h0 => ?_) (fun h0 => ?_)
  · rw [if_pos h0]
    simp only [wp_mb, wp_gI, wp_mp, zk, true_and, h.2.2.2.2]
  rw [if_neg h0]
  exact wp_mp.mpr ⟨rfl, rfl⟩
theorem countM (h : MJ r n ac f ev sv ns A t pn bc fc fd d) (x : Int32) : Mod_count 65 x d = some (cnS n r ns pn fd ac x, d) := by
  apply wp_get
  unfold Mod_count
  simp only [wp_mb, wp_vc, wp_mp, zk, true_and, wp_eq (countOfM h x)]
end
