/-! ===== pure: safe, by the reference ===== -/
/-- no plate that may be found is broken, with pt put between -/
def SafeG (ac : Nat → Ac) (V : Nat → Nat) (A W : Nat) (pt : Nat → Nat) (n : Nat) : Prop := ∀ k, k ≤ n → ∀ T, (hS ac W pt k).2.1 T → V T &&& due ac A k = 0
section
variable {r n ns A : Nat} {ac : Nat → Ac} {f : Pl} {ev : Nat → Pl → Bool} {sv : Nat → Pl → Pl} {d : Dm} {p : Pl} {wn : Nat} {wa : Nat → Nat}
theorem crM_Fs {x j : Nat} (h : crM x j) : ¬ sFs x j := by unfold crM at h; exact sFs_no (by omega)
theorem tbM_Fs {x j : Nat} (h : tbM x j) : ¬ sFs x j := by unfold tbM at h; exact sFs_no (by omega)
theorem due_or (k : Nat) : A ||| tl ac k ||| 64 = due ac A k := by
  unfold due
  rw [Nat.or_assoc, Nat.or_comm (tl ac k) 64, ← Nat.or_assoc]
theorem isSafeM (h : MCo r n ac f ev sv ns A d) (hT : LT r n ac f ev sv ns wa wn d) {W ab : Nat} (hW : ∀ i, i < n → W.testBit i = (isw (ac i) && !ab.testBit i)) (hab : ab < 2 ^ 31) (habw : ∀ i, i < n → ab.testBit i = true → isw (ac i) = true) {pt : Nat → Nat} (hpt : ∀ i, i < 12 → d.1 85 i = nI (pt i) ∧ pt i ≤ 2) : wp (Mod_isSafe 65 (nI ab)) d (fun z d' => frc sFs d d' ∧ ((z = 1 ∧ SafeG ac (vdS ac f n ev r sv ns) A W pt n) ∨ (z = 0 ∧ ¬ SafeG ac (vdS ac f n ev r sv ns) A W pt n))) := by
  have hn := h.2.1.1.1
  have hr := h.2.2.1.1
  have hwn := hT.1.2.2.le
  have h12 : 2 ^ wn ≤ 4096 := p31 (by omega)
  unfold Mod_isSafe
  simp only [wp_ml]
  unfold Mod_isSafe_2
  refine wp_up (fun k s dd => s = nI k ∧ frc sFs d dd ∧ ∀ j, j < k → ∀ T, (hS ac W pt j).2.1 T → vdS ac f n ev r sv ns T &&& due ac A j = 0) (n + 1) ?_ (i := 0) (by omega) ⟨rfl, frc_rf d, fun j hj => by omega⟩
  intro k s dd hk ⟨e1, hf, hs⟩
  subst e1
  have h2 := h.fr hf (fun x j => crM_Fs)
  have hT2 := hT.fr hf (fun x j => tbM_Fs)
  unfold Mod_isSafe_2_b
  simp only [wp_mb, wp_gI, zk, true_and, h2.2.1.2.1]
  by_cases hx : n < k
  · rw [if_pos (nI_lt hx (by omega)), wp_mr, wp_mz]
    exact ⟨Or.inr rfl, hf, Or.inl ⟨rfl, fun j hj => hs j (by omega)⟩⟩
  · rw [if_neg (nI_nlt (by omega) (by omega))]
    have hkn : k ≤ n := by omega
    simp only [wp_mb, wp_vc, wp_ml, zk, true_and, wp_eq (dueM h2 hkn)]
    refine wp_mono (findSets_eq h2.1 h2.2.1 hT2.1 hW hab habw (pt := pt) (fun i hi => ⟨(hf.i (sFs_no (by omega))).trans (hpt i hi).1, (hpt i hi).2⟩) hkn) (fun _ d1 ⟨hf1, sm, C, c1, c2, c3, c4⟩ => ?_)
    have h3 := h2.fr hf1 (fun x j => crM_Fs)
    have hT3 := hT2.fr hf1 (fun x j => tbM_Fs)
    have hfd := frc_t hf hf1
    have hDl : A ||| tl ac k < 2 ^ r := Nat.or_lt_two_pow h.2.2.2.2 (tl_lt h.2.1.1.2.2 hr k hkn)
    have r87 : d1.2.2 65 39 = 87 := h3.1.2.2.2.2.2.2.2.2.2.2.2.2.2.2.2.2.2.2.2.2.2.1
    unfold Mod_isSafe_25
    refine wp_up (fun i s d2 => s = nI i ∧ d2 = d1 ∧ ∀ j, j < i → vdS ac f n ev r sv ns (aW wa (C j) wn) &&& due ac A k = 0) sm ?_ (i := 0) (by omega) ⟨rfl, rfl, fun j hj => by omega⟩
    intro i s d2 hi ⟨e1, e2, hq⟩
    subst e1; subst e2
    unfold Mod_isSafe_25_b
    simp only [wp_mb, wp_gI, zk, true_and, c1]
    by_cases hxi : i = sm
    · subst hxi
      rw [if_pos (nI_le (Nat.le_refl _) (by omega))]
      simp only [wp_mr, wp_ml, wp_mp, nI_1]
      refine ⟨by omega, trivial, hfd, fun j hj T hTp => ?_⟩
      by_cases hjk : j = k
      · subst hjk
        obtain ⟨i', i1, i2⟩ := c4 T hTp
        rw [← i2]
        exact hq i' i1
      · exact hs j (by omega) T hTp
    · rw [if_neg (nI_ge (by omega) (by omega))]
      obtain ⟨m1, m2, m3⟩ := c3 i (by omega)
      simp only [wp_mb, wp_gR, wp_aI, wp_vc, zk, zl, true_and, r87, nI_clamp (show i < 2 ^ 31 by omega), m1, wp_eq (isBrk_eq h3 (show C i < 4096 by omega) (hT3.2 (C i) m2) hDl)]
      refine ⟨ib_nI (by omega) (by omega), ?_⟩
      rw [due_or]
      have ev1 : vP ev r sv ns (pS ac f (aW wa (C i) wn) n) = vdS ac f n ev r sv ns (aW wa (C i) wn) := rfl
      rw [ev1]
      by_cases hb : vdS ac f n ev r sv ns (aW wa (C i) wn) &&& due ac A k = 0
      · rw [if_pos (show bI (decide (vdS ac f n ev r sv ns (aW wa (C i) wn) &&& due ac A k ≠ 0)) = 0 by simp [hb, bI])]
        simp only [wp_ml, wp_mp, nI_1]
        refine ⟨by omega, trivial, trivial, fun j hj => ?_⟩
        by_cases hji : j = i
        · rw [hji]; exact hb
        · exact hq j (by omega)
      · rw [if_neg (show ¬ bI (decide (vdS ac f n ev r sv ns (aW wa (C i) wn) &&& due ac A k ≠ 0)) = 0 by simp [hb, bI])]
        simp only [wp_mr, wp_mz]
        exact ⟨Or.inl trivial, hfd, Or.inr ⟨trivial, fun hall => hb (hall k hkn _ m3)⟩⟩
end
