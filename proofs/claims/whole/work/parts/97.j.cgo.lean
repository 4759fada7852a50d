/-! ===== pure: the class goes from placement to placement ===== -/
theorem sdiv1 {c M : Nat} (hM : 0 < M) (h : M ∣ c + 1) : (c + 1) / M = c / M + 1 := by
  obtain ⟨q, hq⟩ := h
  have hq0 : 0 < q := by
    rcases Nat.eq_zero_or_pos q with e | e
    · rw [e, Nat.mul_zero] at hq; omega
    · exact e
  obtain ⟨p, rfl⟩ : ∃ p, q = p + 1 := ⟨q - 1, by omega⟩
  rw [hq, Nat.mul_div_cancel_left _ hM]
  have e : c = M * p + (M - 1) := by rw [Nat.mul_add, Nat.mul_one] at hq; omega
  rw [e, Nat.mul_add_div hM, Nat.div_eq_of_lt (show M - 1 < M by omega)]
theorem sdiv0 {c M : Nat} (hM : 0 < M) (h : ¬ M ∣ c + 1) : (c + 1) / M = c / M := by
  have e := Nat.div_add_mod c M
  have hl := Nat.mod_lt c hM
  have hl2 : c % M + 1 < M := by
    rcases Nat.lt_or_ge (c % M + 1) M with q | q
    · exact q
    · exfalso
      refine h ⟨c / M + 1, ?_⟩
      rw [Nat.mul_add, Nat.mul_one]
      omega
  have e2 : c + 1 = M * (c / M) + (c % M + 1) := by omega
  rw [e2, Nat.mul_add_div hM, Nat.div_eq_of_lt hl2]
  rfl
section
variable {r n ns st A : Nat} {ac : Nat → Ac} {f : Pl} {ev : Nat → Pl → Bool} {sv : Nat → Pl → Pl} {d : Dm} {P c : Nat}
theorem pd_up {i : Nat} (hi : i < P) (h : 3 ^ (P - 1 - i) ∣ c + 1) : pd P (c + 1) i = (pd P c i + 1) % 3 := by
  unfold pd
  rw [if_pos hi, if_pos hi, sdiv1 (Nat.pow_pos (by omega)) h, Nat.mod_add_mod]
theorem pd_st {i : Nat} (h : ¬ 3 ^ (P - 1 - i) ∣ c + 1) : pd P (c + 1) i = pd P c i := by
  unfold pd
  rw [sdiv0 (Nat.pow_pos (by omega)) h]
theorem dv_up {j : Nat} (h : 3 ^ j ∣ c + 1) (h2 : c / 3 ^ j % 3 = 2) : 3 ^ (j + 1) ∣ c + 1 := by
  have e := sdiv1 (Nat.pow_pos (show 0 < 3 by omega)) h
  obtain ⟨q, hq⟩ := h
  have hp : 0 < 3 ^ j := Nat.pow_pos (by omega)
  rw [hq, Nat.mul_div_cancel_left _ hp] at e
  have : q % 3 = 0 := by omega
  obtain ⟨p, hp2⟩ := Nat.dvd_of_mod_eq_zero this
  refine ⟨p, ?_⟩
  rw [hq, hp2, Nat.pow_succ, Nat.mul_assoc]
theorem dv_no {j : Nat} (h : 3 ^ j ∣ c + 1) (h2 : c / 3 ^ j % 3 ≠ 2) : ¬ 3 ^ (j + 1) ∣ c + 1 := by
  intro h3
  have e := sdiv1 (Nat.pow_pos (show 0 < 3 by omega)) h
  obtain ⟨q, hq⟩ := h3
  have hp : 0 < 3 ^ j := Nat.pow_pos (by omega)
  rw [hq, Nat.pow_succ, Nat.mul_assoc, Nat.mul_div_cancel_left _ hp] at e
  omega
def fr63 (d d' : Dm) : Prop := (∀ x, x ≠ 63 → d'.1 x = d.1 x) ∧ d'.2 = d.2
theorem goOn_eq (hR : Rf d.2.2) (hP : P ≤ 7) (h3 : d.1 61 3 = nI P) (hp : ∀ i, i < 8 → d.1 63 i = nI (pd P c i)) : wp (Plac_goOn 61) d (fun _ d' => fr63 d d' ∧ ∀ i, i < 8 → d'.1 63 i = nI (pd P (c + 1) i)) := by
  unfold Plac_goOn
  simp only [wp_mb, wp_gI, wp_ml, zk, true_and, h3]
  unfold Plac_goOn_7
  refine wp_up (fun q s dd => s = nI (P - q) - 1 ∧ fr63 d dd ∧ 3 ^ q ∣ c + 1 ∧ ∀ i, i < 8 → dd.1 63 i = nI (if P - q ≤ i then pd P (c + 1) i else pd P c i)) P ?_ (i := 0) (Nat.zero_le _) ⟨by rw [Nat.sub_zero], ⟨fun _ _ => rfl, rfl⟩, ⟨c + 1, by rw [Nat.pow_zero, Nat.one_mul]⟩, fun i hi => ?_⟩
  · intro q s dd hq ⟨e1, hf, hd, hv⟩
    subst e1
    have hRd : Rf dd.2.2 := by rw [hf.2]; exact hR
    unfold Plac_goOn_7_b
    by_cases hx : q = P
    · subst hx
      have e0 : nI (q - q) - 1 < (0 : Int32) := by rw [Nat.sub_self]; decide
      rw [if_pos e0, wp_mr]
      unfold Plac_goOn_34
      rw [if_pos e0, wp_mp]
      refine ⟨hf, fun i hi => ?_⟩
      rw [hv i hi, if_pos (by omega)]
    · obtain ⟨u, hu⟩ : ∃ u, P - q = u + 1 := ⟨P - q - 1, by omega⟩
      have eu : nI (P - q) - 1 = nI u := by rw [hu]; exact nI_pred u
      have hnn : ¬ nI u < (0 : Int32) := Int32.not_lt.mpr (nI_pos' (by omega))
      have hvu := hv u (by omega)
      rw [if_neg (by omega)] at hvu
      have hpu : pd P c u = c / 3 ^ q % 3 := by unfold pd; rw [if_pos (by omega), show P - 1 - u = q by omega]
      have hup : pd P (c + 1) u = (pd P c u + 1) % 3 := pd_up (by omega) (by rw [show P - 1 - u = q by omega]; exact hd)
      have hle := pd_le P c u
      rw [eu, if_neg hnn]
      simp only [wp_mb, wp_gR, wp_aI, zk, zl, true_and, hRd.1, nI_clamp (show u < 2 ^ 31 by omega), hvu]
      refine ⟨ib_nI (by omega) (by omega), ?_⟩
      by_cases h2 : pd P c u = 2
      · rw [if_pos (show nI (pd P c u) = (2 : Int32) by rw [h2]; rfl)]
        have es : nI u + (-1 : Int32) = nI (P - (q + 1)) - 1 := by
          rw [show P - (q + 1) = u by omega, Int32.sub_eq_add_neg]
        simp only [wp_mb, wp_gR, wp_sI, wp_ml, wp_mp, zk, zl, true_and, hRd.1, nI_clamp (show u < 2 ^ 31 by omega), es]
        refine ⟨ib_nI (by omega) (by omega), by omega, ⟨fun x hx2 => (u2_row _ hx2 _ _).trans (hf.1 x hx2), hf.2⟩, dv_up hd (by rw [← hpu]; exact h2), fun i hi => ?_⟩
        by_cases hi2 : i = u
        · subst hi2
          rw [u2_s, if_pos (by omega), hup, h2]; rfl
        · rw [u2_k _ _ _ hi2, hv i hi]
          by_cases hi3 : P - q ≤ i
          · rw [if_pos hi3, if_pos (by omega)]
          · rw [if_neg hi3, if_neg (by omega)]
      · rw [if_neg (show ¬ nI (pd P c u) = (2 : Int32) from fun w => h2 ((nI_c (n := 2) (by omega) (by omega)).mp w)), wp_mr]
        unfold Plac_goOn_34
        rw [if_neg hnn]
        simp only [wp_mb, wp_gR, wp_aI, wp_sI, wp_mp, zk, zl, true_and, hRd.1, nI_clamp (show u < 2 ^ 31 by omega), hvu, nI_1]
        refine ⟨ib_nI (by omega) (by omega), ib_nI (by omega) (by omega), ⟨fun x hx2 => (u2_row _ hx2 _ _).trans (hf.1 x hx2), hf.2⟩, fun i hi => ?_⟩
        by_cases hi2 : i = u
        · subst hi2
          rw [u2_s, hup, Nat.mod_eq_of_lt (by omega)]
        · rw [u2_k _ _ _ hi2, hv i hi]
          by_cases hi3 : P - q ≤ i
          · rw [if_pos hi3]
          · rw [if_neg hi3, pd_st (fun w => ?_)]
            have hno := dv_no hd (by rw [← hpu]; exact h2)
            exact hno (Nat.dvd_trans (Nat.pow_dvd_pow 3 (show q + 1 ≤ P - 1 - i by omega)) w)
  · rw [hp i hi, Nat.sub_zero]
    by_cases hi2 : P ≤ i
    · rw [if_pos hi2]
      unfold pd
      rw [if_neg (by omega), if_neg (by omega)]
    · rw [if_neg hi2]
theorem putOf_eq (hR : Rf d.2.2) (hP : P ≤ 7) (h3 : d.1 61 3 = nI P) (hp : ∀ i, i < 8 → d.1 63 i = nI (pd P c i)) {v : Nat} (hv : v < 128) : Plac_putOf 61 (nI v) d = some (nI (fb_ct (fun i => decide (pd P c i = v)) P), d) := by
  apply wp_get
  unfold Plac_putOf
  simp only [wp_ml]
  unfold Plac_putOf_4
  refine wp_up (fun i s dd => s = (nI (fb_ct (fun i => decide (pd P c i = v)) i), nI i) ∧ dd = d) P ?_ (i := 0) (Nat.zero_le _) ⟨rfl, rfl⟩
  intro i s dd hi ⟨e1, e2⟩
  subst e1; subst e2
  unfold Plac_putOf_4_b
  dsimp only
  simp only [wp_mb, wp_gI, zk, true_and, h3]
  by_cases hx : i = P
  · subst hx
    rw [if_pos (nI_le (Nat.le_refl _) (by omega)), wp_mr, wp_mp]
    exact ⟨rfl, rfl⟩
  · rw [if_neg (nI_ge (by omega) (by omega))]
    have hle := pd_le P c i
    simp only [wp_mb, wp_gR, wp_aI, zk, zl, true_and, hR.1, nI_clamp (show i < 2 ^ 31 by omega), hp i (by omega)]
    refine ⟨ib_nI (by omega) (by omega), ?_⟩
    unfold Plac_putOf_28
    simp only [wp_ml, wp_mp, nI_1]
    refine ⟨by omega, ?_, trivial⟩
    rw [fb_ct_succ]
    by_cases q : pd P c i = v
    · rw [if_pos (show nI (pd P c i) = nI v by rw [q]), nI_1, if_pos (by rw [decide_eq_true q])]
    · rw [if_neg (fun w => q ((nI_c (by omega) hv).mp w)), if_neg (by rw [decide_eq_false q]; decide), Nat.add_zero]
      rw [show nI (fb_ct (fun i => decide (pd P c i = v)) i) + (0 : Int32) = nI (fb_ct (fun i => decide (pd P c i = v)) i + 0) from nI_add _ 0, Nat.add_zero]
theorem fill63 (d : Dm) : wp (JArr_fill 63 0) d (fun _ d' => fr63 d d' ∧ ∀ i, i < 8 → d'.1 63 i = nI 0) := by
  unfold JArr_fill
  simp only [wp_ml, wp_mb, wp_al, zk, zl, true_and]
  unfold JArr_fill_5
  refine wp_up (fun i s dd => s = nI i ∧ fr63 d dd ∧ ∀ j, j < i → dd.1 63 j = nI 0) 8 ?_ (i := 0) (Nat.zero_le _) ⟨rfl, ⟨fun _ _ => rfl, rfl⟩, fun j hj => by omega⟩
  intro i s dd hi ⟨e1, hf, hv⟩
  subst e1
  unfold JArr_fill_5_b
  by_cases hx : i = 8
  · subst hx
    rw [if_pos (show Int32.ofNat 8 ≤ nI 8 from nI_le (a := 8) (Nat.le_refl _) (by omega)), wp_mr, wp_mp]
    exact ⟨hf, hv⟩
  · rw [if_neg (show ¬ Int32.ofNat 8 ≤ nI i from nI_ge (b := 8) (by omega) (by omega))]
    simp only [wp_mb, wp_sI, wp_ml, wp_mp, zk, zl, true_and, nI_clamp (show i < 2 ^ 31 by omega), nI_1]
    refine ⟨ib_nI (by omega) (by omega), by omega, ⟨fun x hx2 => (u2_row _ hx2 _ _).trans (hf.1 x hx2), hf.2⟩, fun j hj => ?_⟩
    by_cases hj2 : j = i
    · rw [hj2, u2_s]; rfl
    · rw [u2_k _ _ _ hj2]; exact hv j (by omega)
end
