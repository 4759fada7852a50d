/-! ===== pure: the list gathered ===== -/
theorem pS_hi {ac : Nat → Ac} {f : Pl} {T i : Nat} (h : T < 2 ^ i) : ∀ m, pS ac f T (i + m) = pS ac f T i
  | 0 => rfl
  | m + 1 => by
    rw [← Nat.add_assoc]
    simp only [pS]
    rw [if_neg (by rw [Nat.testBit_lt_two_pow (Nat.lt_of_lt_of_le h (Nat.pow_le_pow_right (by omega) (by omega)))]; decide)]
    exact pS_hi h m
theorem pS_low {ac : Nat → Ac} {f : Pl} {T U : Nat} : ∀ {i : Nat}, (∀ j, j < i → T.testBit j = U.testBit j) → pS ac f T i = pS ac f U i
  | 0, _ => rfl
  | i + 1, h => by
    simp only [pS]
    rw [pS_low (fun j hj => h j (by omega)), h i (by omega)]
theorem bit_or {T i : Nat} (j : Nat) : (T ||| 2 ^ i).testBit j = (T.testBit j || decide (i = j)) := by rw [Nat.testBit_or, Nat.testBit_two_pow]
theorem pS_add {ac : Nat → Ac} {f : Pl} {T i n : Nat} (h : T < 2 ^ i) (hi : i < n) : pS ac f (T ||| 2 ^ i) n = lay (ac i) (pS ac f T n) := by
  have h1 : T ||| 2 ^ i < 2 ^ (i + 1) := Nat.or_lt_two_pow (Nat.lt_of_lt_of_le h (Nat.pow_le_pow_right (by omega) (by omega))) (Nat.pow_lt_pow_right (by omega) (by omega))
  have e1 := pS_hi (ac := ac) (f := f) h1 (n - (i + 1))
  have e2 := pS_hi (ac := ac) (f := f) h (n - i)
  rw [show i + 1 + (n - (i + 1)) = n by omega] at e1
  rw [show i + (n - i) = n by omega] at e2
  rw [e1, e2]
  simp only [pS]
  rw [if_pos (by rw [bit_or]; simp)]
  refine congrArg _ (pS_low (fun j hj => ?_))
  rw [bit_or, decide_eq_false (by omega), Bool.or_false]
theorem PS_lt {ac : Nat → Ac} {W : Nat} : ∀ {k T : Nat}, PS ac W k T → T < 2 ^ k
  | 0, T, h => by rw [show T = 0 from h]; decide
  | k + 1, T, h => by
    obtain ⟨h1, h2, h3, h4⟩ := ah_sub ac W k
    have e : 2 ^ k < 2 ^ (k + 1) := Nat.pow_lt_pow_right (by omega) (by omega)
    simp only [PS] at h
    split at h
    · rcases h with h | ⟨U, hU, rfl⟩
      · have := PS_lt h; omega
      · exact Nat.or_lt_two_pow (Nat.or_lt_two_pow (by omega) e) (Nat.lt_trans (sub_lt hU h4) e)
    · split at h
      · rw [h]; exact Nat.or_lt_two_pow (by omega) (by omega)
      · have := PS_lt h; omega
theorem blf_no {ac : Nat → Ac} : ∀ {k i : Nat}, blf ac k ≤ i → i < k → ac i 0 ≠ 3
  | 0, _, _, h => by omega
  | k + 1, i, h1, h2 => by
    simp only [blf] at h1
    split at h1
    · omega
    · next h3 =>
      by_cases e : i = k
      · subst e; exact h3
      · exact blf_no h1 (by omega)
theorem blf_at (ac : Nat → Ac) : ∀ k, blf ac k = 0 ∨ ∃ b, blf ac k = b + 1 ∧ b < k ∧ ac b 0 = 3
  | 0 => Or.inl rfl
  | k + 1 => by
    simp only [blf]
    by_cases h : ac k 0 = 3
    · rw [if_pos h]; exact Or.inr ⟨k, rfl, by omega, h⟩
    · rw [if_neg h]
      rcases blf_at ac k with h1 | ⟨b, h1, h2, h3⟩
      · exact Or.inl h1
      · exact Or.inr ⟨b, h1, by omega, h3⟩
theorem isw_ise {a : Ac} (h : isw a = true) : ise a = false ∧ a 0 ≠ 3 ∧ a 0 ≠ 2 := by
  unfold isw at h
  unfold ise
  rw [Bool.or_eq_true, decide_eq_true_eq, decide_eq_true_eq] at h
  rcases h with h | h <;> rw [h] <;> decide
theorem ah_all {ac : Nat → Ac} {n : Nat} : ∀ {k : Nat}, k ≤ n → (ah ac (wm ac n) k).1 ||| (ah ac (wm ac n) k).2 = wm ac k
  | 0, _ => by simp [ah, wm]
  | k + 1, h => by
    have ih := ah_all (ac := ac) (n := n) (k := k) (by omega)
    have hb : (wm ac n).testBit k = isw (ac k) := by rw [wm_bit, decide_eq_true (by omega), Bool.true_and]
    simp only [ah, hb, wm]
    cases hw : isw (ac k) with
    | true =>
      simp only [if_true]
      rw [← Nat.or_assoc, ih, Nat.add_comm, Nat.or_comm]
      have := Nat.two_pow_add_eq_or_of_lt (wm_lt ac k) 1
      rw [Nat.mul_one] at this
      exact this.symm
    | false =>
      simp only [Bool.false_eq_true, if_false, Nat.add_zero]
      split
      · rw [Nat.or_zero]; exact ih
      · exact ih
theorem ah_flush {ac : Nat → Ac} {n k : Nat} (hk : k ≤ n) : ah ac (wm ac n) (blf ac k) = (wm ac (blf ac k), 0) ∧ ∀ T, PS ac (wm ac n) (blf ac k) T ↔ T = wm ac (blf ac k) := by
  rcases blf_at ac k with h | ⟨b, h1, h2, h3⟩
  · rw [h]; exact ⟨rfl, fun T => Iff.rfl⟩
  · rw [h1]
    have hw : isw (ac b) = false := by unfold isw; rw [h3]; decide
    have he : ise (ac b) = true := by unfold ise; rw [h3]; decide
    have hb : (wm ac n).testBit b = false := by rw [wm_bit, hw, Bool.and_false]
    have ha := ah_all (ac := ac) (n := n) (k := b) (by omega)
    simp only [ah, PS, hb, he, h3, wm, hw, Bool.false_eq_true, if_false, if_true, ha, Nat.add_zero, true_and]
    exact fun T => trivial
theorem sub_zero {U : Nat} (h : sub U 0) : U = 0 := Nat.eq_of_testBit_eq fun x => by
  rw [Nat.zero_testBit]
  cases hx : U.testBit x with
  | false => rfl
  | true => have := h x hx; rw [Nat.zero_testBit] at this; exact this.symm
def lsO (ac : Nat → Ac) (f : Pl) (n : Nat) (E : Nat → Nat) (j : Nat) : NP := (pw (pS ac f (E j) n), E j)
section
variable {m : Nat} {A : Nat → NP} {d : Dm} {r n : Nat} {ac : Nat → Ac} {f : Pl} {E : Nat → Nat}
theorem ls_push (h : LsA m A d) (hm : m < 4096) (h1 : (A m).1 < 2 ^ 63) (h2 : (A m).2 < 4096) : LsA (m + 1) A (u2 (u2 d.1 60 m (nI (A m).2)) 58 2 (nI (m + 1)), u2 d.2.1 59 m (lN (A m).1), d.2.2) := by
  refine ⟨u2_s (u2 d.1 60 m (nI (A m).2)) 58 2 (nI (m + 1)), by omega, fun j hj => ?_⟩
  have e := congrFun (u2_row (u2 d.1 60 m (nI (A m).2)) (show 60 ≠ 58 by omega) 2 (nI (m + 1))) j
  by_cases ej : j = m
  · subst ej
    exact ⟨u2_s d.2.1 59 j (lN (A j).1), h1, e.trans (u2_s d.1 60 j (nI (A j).2)), h2⟩
  · have := h.2.2 j (by omega)
    exact ⟨(u2_k d.2.1 59 59 ej (lN (A m).1)).trans this.1, this.2.1, e.trans ((u2_k d.1 60 60 ej (nI (A m).2)).trans this.2.2.1), this.2.2.2⟩
theorem frF_push {d' : Dm} (h : frF d d') (i j : Nat) (x : Int32) (y : Int64) (z : Int32) : frF d (u2 (u2 d'.1 60 i x) 58 2 z, u2 d'.2.1 59 j y, d'.2.2) := ⟨fun w a b => (u2_row (u2 d'.1 60 i x) a 2 z).trans ((u2_row d'.1 b i x).trans (h.1 w a b)), fun w a => (u2_row d'.2.1 a j y).trans (h.2.1 w a), h.2.2⟩
theorem CP.fF {d' : Dm} (h : CP r n ac f d) (hf : frF d d') : CP r n ac f d' := h.congr (fun x hx => hf.1 x (by omega) (by omega)) (hf.2.1 3 (by omega)) hf.2.2
theorem reach_eq (h : CP r n ac f d) {s i v : Nat} (hL : LsA s (lsO ac f n E) d) (hi : i < n) (hw : isw (ac i) = true) (hE : ∀ j, j < s → E j < 2 ^ i ∧ sub (E j) (wm ac n)) (hv : v ≤ s) (hs : s + (s - v) ≤ 4096) : wp (Found_addReaching 58 (d.2.2 4 i) (nI i) (nI v)) d (fun _ d' => LsA (s + (s - v)) (lsO ac f n (fun x => if x < s then E x else E (x - s + v) ||| 2 ^ i)) d' ∧ frF d d') := by
  unfold Found_addReaching
  simp only [wp_mb, wp_gI, zk, zl, true_and, hL.1]
  unfold Found_addReaching_9
  refine wp_up (fun j c dd => v ≤ j ∧ c = nI j ∧ LsA (s + (j - v)) (lsO ac f n (fun x => if x < s then E x else E (x - s + v) ||| 2 ^ i)) dd ∧ frF d dd) s ?_ (i := v) hv ⟨Nat.le_refl _, rfl, ?_, frF_rf d⟩
  · intro j c dd hj ⟨hvj, e, hC, hf⟩
    subst e
    have hd := h.fF hf
    have hn := h.1.1
    have h12 : 2 ^ n ≤ 4096 := p31 hn
    have h1i : 2 ^ i < 2 ^ n := Nat.pow_lt_pow_right (by omega) hi
    have hRd : Rf dd.2.2 := hd.2.2.2.2
    obtain ⟨a1, a2, a3, a4, a5⟩ := hd.at hi
    unfold Found_addReaching_9_b
    by_cases hsj : s ≤ j
    · rw [if_pos ((nI_leI (by omega) (by omega)).mpr hsj)]
      have : j = s := by omega
      subst this
      exact wp_mr.mpr (wp_mp.mpr ⟨hC, hf⟩)
    · rw [if_neg (fun q => hsj ((nI_leI (by omega) (by omega)).mp q))]
      simp only [wp_mb, wp_gI, zk, zl, true_and, hC.1]
      rw [if_neg (show ¬ (4096 : Int32) ≤ nI (s + (j - v)) from fun q => by have := (nI_leI (a := 4096) (by omega) (by omega)).mp q; omega)]
      obtain ⟨b1, b2, b3, b4⟩ := hC.2.2 j (by omega)
      obtain ⟨g1, g2⟩ := hE j (by omega)
      simp only [lsO, if_pos (show j < s by omega)] at b1 b2 b3 b4
      have hok : okP (pS ac f (E j) n) := okP_pS h.1.2.1 h.1.2.2 g2 n (Nat.le_refl _)
      have hl := laidOn_eq (d := dd) (a := d.2.2 4 i) (p := pS ac f (E j) n) (by rw [← hf.2.2]; exact a2) (fun k hk => by rw [← hf.2.2]; exact hd.2.2.2.1 i hi k hk) (h.1.2.2 i hi) hw hok
      have hz : ZF.2.1 (d.2.2 4 i) = 1 := by rw [← hf.2.2]; exact a2
      have hA : lsO ac f n (fun x => if x < s then E x else E (x - s + v) ||| 2 ^ i) (s + (j - v)) = (pw (lay (ac i) (pS ac f (E j) n)), E j ||| 2 ^ i) := by
        simp only [lsO, if_neg (show ¬ s + (j - v) < s by omega), show s + (j - v) - s + v = j by omega, pS_add g1 hi]
      have hpu := ls_push hC (by omega) (by
        rw [hA]
        refine pw_lt ?_
        rw [← pS_add g1 hi]
        refine okP_pS h.1.2.1 h.1.2.2 (sub_or g2 (fun k hk => ?_)) n (Nat.le_refl _)
        rw [Nat.testBit_two_pow, decide_eq_true_eq] at hk
        subst hk
        rw [wm_bit, hw, decide_eq_true hi]; rfl) (by
        rw [hA]
        exact Nat.or_lt_two_pow (n := 12) (by show _ < 4096; omega) (by show _ < 4096; omega))
      rw [hA] at hpu
      simp only [wp_mb, wp_ml, wp_mp, wp_gI, wp_gR, wp_aL, wp_aI, wp_sL, wp_sI, wp_pI, wp_vc, zk, zl, true_and, hRd.1, hC.1, hz, nI_clamp (show j < 2 ^ 31 by omega), nI_clamp (show s + (j - v) < 2 ^ 31 by omega), b1, wp_eq hl, b3, sh1 (show i < 31 by omega), fa_or]
      refine ⟨ib_nI (by omega) (by omega), ib_nI (by omega) (by omega), ib_nI (by omega) (by omega), ib_nI (by omega) (by omega), by omega, by omega, nI_add j 1, ?_, ?_⟩
      · rw [show s + (j + 1 - v) = s + (j - v) + 1 by omega]
        refine cast (congrArg _ ?_) hpu
        refine Prod.ext ?_ rfl
        refine congrArg (u2 _ 58 2) ?_
        refine (nI_add _ 1).symm.trans (congrArg (· + nI 1) ?_)
        exact (((congrFun (u2_row dd.1 (show 58 ≠ 60 by omega) (s + (j - v)) (nI (E j ||| 2 ^ i))) 2).trans hC.1)).symm
      · exact frF_push hf _ _ _ _ _
  · refine ⟨?_, by omega, ?_⟩
    · rw [show s + (v - v) = s by omega]; exact hL.1
    · intro j hj
      simp only [lsO, if_pos (show j < s by omega)]
      exact hL.2.2 j (by omega)
theorem gather_eq (h : CP r n ac f d) {k : Nat} (hk : k ≤ n) : wp (Found_gather 58 3 (nI k)) d (fun _ d' => ∃ s E, 1 ≤ s ∧ LsA s (lsO ac f n E) d' ∧ frF d d' ∧ (∀ j, j < s → PS ac (wm ac n) k (E j)) ∧ ∀ T, PS ac (wm ac n) k T → ∃ j, j < s ∧ E j = T) := by
  have hn := h.1.1
  have hR := h.2.2.2.2
  have hbk := blf_le ac k
  have hbl := @blf_no ac k
  have hbf := ah_flush (ac := ac) hk
  have hbe := blf_eq h hk
  generalize blf ac k = b at hbk hbl hbf hbe
  have hwb := wm_lt ac b
  have hw12 : 2 ^ b ≤ 4096 := p31 (by omega)
  have hsb : sub (wm ac b) (wm ac n) := fun i hi => by
    rw [wm_bit, Bool.and_eq_true, decide_eq_true_eq] at hi
    rw [wm_bit, hi.2, decide_eq_true (show i < n by omega)]; rfl
  unfold Found_gather
  have hww := ww_eq h (Nat.zero_le b) (show b ≤ n by omega)
  rw [Nat.sub_zero, wr_0] at hww
  simp only [wp_mb, wp_ml, wp_vc, wp_gR, wp_sL, wp_sI, wp_pI, zk, zl, true_and, wp_eq hbe, show (0 : Int32) = nI 0 from rfl, wp_eq hww, hR.1, wp_eq (plateOf_eq h hsb (by omega)), nI_clamp (show 0 < 2 ^ 31 by omega)]
  refine ⟨ib_nI (by omega) (by omega), ib_nI (by omega) (by omega), ?_⟩
  unfold Found_gather_45
  refine wp_up (fun i c dd => b ≤ i ∧ ∃ s v E, c = (nI v, nI i) ∧ v < s ∧ s ≤ 2 ^ (i - b) ∧ LsA s (lsO ac f n E) dd ∧ frF d dd ∧ (∀ j, j < s → PS ac (wm ac n) i (E j)) ∧ (∀ T, PS ac (wm ac n) i T → ∃ j, j < s ∧ E j = T) ∧ (∀ j, v ≤ j → j < s → ∃ U, sub U (ah ac (wm ac n) i).2 ∧ E j = (ah ac (wm ac n) i).1 ||| U) ∧ (∀ U, sub U (ah ac (wm ac n) i).2 → ∃ j, v ≤ j ∧ j < s ∧ E j = (ah ac (wm ac n) i).1 ||| U) ∧ E (s - 1) = (ah ac (wm ac n) i).1 ||| (ah ac (wm ac n) i).2) k ?_ (i := b) hbk ?_
  · intro i c dd hi ⟨hbi, s, v, E, e, hv, hs, hC, hf, hP1, hP2, hS1, hS2, hla⟩
    subst e
    have hd := h.fF hf
    have hRd : Rf dd.2.2 := hd.2.2.2.2
    unfold Found_gather_45_b
    have hs12 : 2 ^ (i - b) ≤ 4096 := p31 (by omega)
    by_cases hki : k ≤ i
    · rw [if_pos ((nI_leI (by omega) (by omega)).mpr hki)]
      have : i = k := by omega
      subst this
      exact wp_mr.mpr (wp_mp.mpr ⟨s, E, by omega, hC, hf, hP1, hP2⟩)
    · rw [if_neg (fun q => hki ((nI_leI (by omega) (by omega)).mp q))]
      obtain ⟨a1, a2, a3, a4, a5⟩ := hd.at (show i < n by omega)
      have hbit : (wm ac n).testBit i = isw (ac i) := by rw [wm_bit, decide_eq_true (by omega), Bool.true_and]
      have hno3 := hbl hbi (by omega)
      have hpw : 2 ^ (i + 1 - b) = 2 * 2 ^ (i - b) := by rw [show i + 1 - b = i - b + 1 by omega, Nat.pow_succ, Nat.mul_comm]
      have hs13 : 2 ^ (i + 1 - b) ≤ 4096 := p31 (by omega)
      simp only [wp_mb, wp_gR, wp_aR, wp_vc, zk, zl, true_and, hRd.1, a2, nI_clamp (show i < 2 ^ 31 by omega), wp_eq (act_writes a2), a3]
      refine ⟨ib_nI (by omega) (by omega), ?_⟩
      cases hw : isw (ac i) with
      | false =>
        have hPS : ∀ T, PS ac (wm ac n) (i + 1) T ↔ PS ac (wm ac n) i T := fun T => by
          simp only [PS, hbit, hw, Bool.false_eq_true, if_false, hno3]
        simp only [Bool.false_eq_true, if_false, if_true, wp_mb, wp_gI, a2, true_and, a5]
        by_cases h2 : ac i 0 = 2
        · have hah : ah ac (wm ac n) (i + 1) = ((ah ac (wm ac n) i).1 ||| (ah ac (wm ac n) i).2, 0) := by
            simp only [ah, hbit, hw, Bool.false_eq_true, if_false, show ise (ac i) = true by unfold ise; rw [h2]; decide, if_true]
          rw [if_pos h2]
          unfold Found_gather_98
          simp only [wp_mb, wp_gI, wp_ml, wp_mp, zk, zl, true_and, hC.1]
          refine ⟨by omega, by omega, s, s - 1, E, ?_, by omega, by omega, hC, hf, fun j hj => (hPS _).mpr (hP1 j hj), fun T hT => hP2 T ((hPS T).mp hT), fun j h1 h2 => ?_, fun U hU => ?_, ?_⟩
          · rw [← nI_add, show (1 : Int32) = nI 1 from rfl, pk_sub (by omega)]
          · rw [hah]
            exact ⟨0, fun _ q => q, by rw [Nat.or_zero, show j = s - 1 by omega]; exact hla⟩
          · rw [hah] at hU ⊢
            have : U = 0 := sub_zero hU
            subst this
            exact ⟨s - 1, Nat.le_refl _, by omega, by rw [Nat.or_zero]; exact hla⟩
          · rw [hah, Nat.or_zero]; exact hla
        · have hah : ah ac (wm ac n) (i + 1) = ah ac (wm ac n) i := by
            simp only [ah, hbit, hw, Bool.false_eq_true, if_false, show ise (ac i) = false by unfold ise; rw [decide_eq_false h2, decide_eq_false hno3]; rfl]
          rw [if_neg h2]
          unfold Found_gather_98
          simp only [wp_ml, wp_mp]
          refine ⟨by omega, by omega, s, v, E, ?_, by omega, by omega, hC, hf, fun j hj => (hPS _).mpr (hP1 j hj), fun T hT => hP2 T ((hPS T).mp hT), ?_⟩
          · rw [← nI_add]; rfl
          · rw [hah]; exact ⟨hS1, hS2, hla⟩
      | true =>
        have hah : ah ac (wm ac n) (i + 1) = ((ah ac (wm ac n) i).1, (ah ac (wm ac n) i).2 ||| 2 ^ i) := by
          simp only [ah, hbit, hw, if_true]
        have hPS : ∀ T, PS ac (wm ac n) (i + 1) T ↔ PS ac (wm ac n) i T ∨ ∃ U, sub U (ah ac (wm ac n) i).2 ∧ T = (ah ac (wm ac n) i).1 ||| 2 ^ i ||| U := fun T => by
          simp only [PS, hbit, hw, if_true]
        have hlt := (ah_sub ac (wm ac n) i).2.2.2
        rw [if_pos rfl, if_neg (show ¬ (1 : Int32) = 0 by decide)]
        simp only [wp_mb, wp_vc, zk, true_and]
        refine wp_mono (reach_eq hd hC (by omega) hw (fun j hj => ⟨PS_lt (hP1 j hj), PS_sub (hP1 j hj)⟩) (by omega) (by omega)) (fun _ d' ⟨q1, q2⟩ => ?_)
        unfold Found_gather_98
        simp only [wp_ml, wp_mp]
        refine ⟨by omega, by omega, s + (s - v), v, _, ?_, by omega, by omega, q1, frF_tr hf q2, fun j hj => ?_, fun T hT => ?_, fun j h1 h2 => ?_, fun U hU => ?_, ?_⟩
        · rw [← nI_add]; rfl
        · rw [hPS]
          by_cases hj2 : j < s
          · rw [if_pos hj2]; exact Or.inl (hP1 j hj2)
          · rw [if_neg hj2]
            obtain ⟨U, u1, u2⟩ := hS1 (j - s + v) (by omega) (by omega)
            exact Or.inr ⟨U, u1, by rw [u2, Nat.or_assoc, Nat.or_comm U, ← Nat.or_assoc]⟩
        · rcases (hPS T).mp hT with h1 | ⟨U, u1, u2⟩
          · obtain ⟨j, j1, j2⟩ := hP2 T h1
            exact ⟨j, by omega, by rw [if_pos j1]; exact j2⟩
          · obtain ⟨j, j1, j2, j3⟩ := hS2 U u1
            refine ⟨s + (j - v), by omega, ?_⟩
            rw [if_neg (by omega), show s + (j - v) - s + v = j by omega, j3, u2, Nat.or_assoc, Nat.or_comm U, ← Nat.or_assoc]
        · rw [hah]
          by_cases hj2 : j < s
          · rw [if_pos hj2]
            obtain ⟨U, u1, u2⟩ := hS1 j h1 hj2
            exact ⟨U, fun x hx => by rw [Nat.testBit_or, u1 x hx, Bool.true_or], u2⟩
          · rw [if_neg hj2]
            obtain ⟨U, u1, u2⟩ := hS1 (j - s + v) (by omega) (by omega)
            refine ⟨U ||| 2 ^ i, fun x hx => ?_, by rw [u2, Nat.or_assoc]⟩
            rw [Nat.testBit_or, Bool.or_eq_true] at hx ⊢
            exact hx.imp (u1 x) id
        · rw [hah] at hU ⊢
          by_cases hb : U.testBit i = true
          · have hU2 : sub (U % 2 ^ i) (ah ac (wm ac n) i).2 := fun x hx => by
              rw [Nat.testBit_mod_two_pow, Bool.and_eq_true, decide_eq_true_eq] at hx
              have := hU x hx.2
              rw [bit_or, decide_eq_false (by omega), Bool.or_false] at this
              exact this
            obtain ⟨j, j1, j2, j3⟩ := hS2 _ hU2
            refine ⟨s + (j - v), by omega, by omega, ?_⟩
            rw [if_neg (by omega), show s + (j - v) - s + v = j by omega, j3, Nat.or_assoc]
            refine congrArg _ (Nat.eq_of_testBit_eq fun x => ?_)
            rw [bit_or, Nat.testBit_mod_two_pow]
            by_cases hx : x < i
            · rw [decide_eq_true hx, Bool.true_and, decide_eq_false (by omega), Bool.or_false]
            · rw [decide_eq_false hx, Bool.false_and, Bool.false_or]
              by_cases ex : i = x
              · subst ex; rw [hb, decide_eq_true rfl]
              · rw [decide_eq_false ex]
                cases hux : U.testBit x with
                | false => rfl
                | true =>
                  have := hU x hux
                  rw [bit_or, decide_eq_false ex, Bool.or_false, Nat.testBit_lt_two_pow (Nat.lt_of_lt_of_le hlt (Nat.pow_le_pow_right (by omega) (by omega)))] at this
                  exact this
          · obtain ⟨j, j1, j2, j3⟩ := hS2 U (fun x hx => by
              have := hU x hx
              rw [bit_or, decide_eq_false (fun q => hb (by rw [q]; exact hx)), Bool.or_false] at this
              exact this)
            exact ⟨j, j1, by omega, by rw [if_pos j2]; exact j3⟩
        · rw [hah, if_neg (by omega), show s + (s - v) - 1 - s + v = s - 1 by omega, hla, Nat.or_assoc]
  · refine ⟨Nat.le_refl _, 1, 0, fun _ => wm ac b, rfl, by omega, by rw [Nat.sub_self]; exact Nat.le_refl _, ?_, frF_push (frF_rf d) _ _ _ _ _, fun j _ => (hbf.2 _).mpr rfl, fun T hT => ⟨0, by omega, ((hbf.2 T).mp hT).symm⟩, ?_, ?_, ?_⟩
    · refine ⟨u2_s (u2 d.1 60 0 (nI (wm ac b))) 58 2 (nI 1), by omega, fun j hj => ?_⟩
      have : j = 0 := by omega
      subst this
      exact ⟨u2_s d.2.1 59 0 (lN (pw (pS ac f (wm ac b) n))), pw_lt (okP_pS h.1.2.1 h.1.2.2 hsb n (Nat.le_refl _)), (congrFun (u2_row (u2 d.1 60 0 (nI (wm ac b))) (show 60 ≠ 58 by omega) 2 (nI 1)) 0).trans (u2_s d.1 60 0 (nI (wm ac b))), by show wm ac b < 4096; omega⟩
    · intro j _ _
      rw [hbf.1]
      exact ⟨0, fun _ q => q, (Nat.or_zero _).symm⟩
    · intro U hU
      rw [hbf.1] at hU ⊢
      have : U = 0 := sub_zero hU
      subst this
      exact ⟨0, Nat.le_refl _, by omega, (Nat.or_zero _).symm⟩
    · rw [hbf.1]; exact (Nat.or_zero _).symm
end
