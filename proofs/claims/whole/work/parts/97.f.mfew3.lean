/-! ===== pure: fewest by the reference, whole ===== -/
section
variable {r n ns A : Nat} {ac : Nat → Ac} {f : Pl} {ev : Nat → Pl → Bool} {sv : Nat → Pl → Pl} {t : Nat → Nat} {pn : Nat} {b e fd : Nat} {d : Dm} {wa : Nat → Nat} {wn : Nat}
noncomputable def fwB (r n : Nat) (ac : Nat → Ac) (f : Pl) (ev : Nat → Pl → Bool) (sv : Nat → Pl → Pl) (ns A b e : Nat) (c : Nat) : Option Nat := fw (fun c => SafeG ac (vdS ac f n ev r sv ns) A (wm ac n) (pd (n - 1) c) n) (kN (n - 1) b e) (mN (n - 1)) c
theorem few93 {d1 : Dm} (h : FJ r n ac f ev sv ns A b e fd wa wn d d1) (hn : n ≤ 8) (hb : b ≤ 9) (he : e ≤ 99) {x : Int32} (hx : vX x) : wp (Mod_fewest_93 65 x (nI (3 ^ (n - 1))) (-1, 0, 0, 0)) d1 (fun z d' => FJ r n ac f ev sv ns A b e fd wa wn d d' ∧ z = fwZ (n - 1) (kN (n - 1) b e) (mN (n - 1)) (fwB r n ac f ev sv ns A b e (3 ^ (n - 1))) x) := by
  have hT := p3 (show n - 1 ≤ 7 by omega)
  unfold Mod_fewest_93
  refine wp_up (fun c (s : Int32 × Int32 × Int32 × Int32) dd => FJ r n ac f ev sv ns A b e fd wa wn d dd ∧ s.2.2.2 = nI c ∧ BRm (kN (n - 1) b e) (mN (n - 1)) (fwB r n ac f ev sv ns A b e c) s.1 s.2.1 s.2.2.1) (3 ^ (n - 1)) ?_ (i := 0) (Nat.zero_le _) ⟨h, rfl, rfl⟩
  intro c ⟨s1, s2, s3, s4⟩ dd hc ⟨h1, e1, hB⟩
  dsimp only at e1 hB
  subst e1
  unfold Mod_fewest_93_b
  dsimp only
  by_cases hcT : c = 3 ^ (n - 1)
  · rw [if_pos (nI_le (by omega) (by omega)), wp_mr]
    rw [← hcT]
    cases hf : fwB r n ac f ev sv ns A b e c with
    | none =>
      rw [hf] at hB
      rw [if_pos (show s1 = -1 from hB), wp_mp]
      exact ⟨h1, rfl⟩
    | some q =>
      have hq : q < c := fw_lt hf
      rw [hf] at hB
      obtain ⟨g1, g2, g3⟩ := hB
      subst g1; subst g2; subst g3
      have hne : ¬ nI q = (-1 : Int32) := fun w => by
        have : (0 : Int32) ≤ nI q := nI_pos' (by omega)
        rw [w] at this
        exact absurd this (by decide)
      rw [if_neg hne]
      simp only [wp_mb, wp_vc, zk, true_and]
      refine wp_mono (putByM h1.2.1.1 h1.2.1.2.1.2.1 hn (show q < 2 ^ 31 by omega)) (fun _ d2 ⟨a1, a2⟩ => ?_)
      have h2 := h1.p85 a1
      unfold fwZ
      dsimp only
      refine wp_if (fun w0 => ?_) (fun w0 => wp_if (fun w1 => ?_) (fun w1 => ?_))
      · rw [wp_mp, if_pos w0]; exact ⟨h2, rfl⟩
      · rw [wp_mp, if_neg w0, if_pos w1]; exact ⟨h2, rfl⟩
      · rw [if_neg w0, if_neg w1]
        rcases hx with hx | hx | ⟨i, hi, hx⟩
        · exact absurd hx w0
        · exact absurd hx w1
        · subst hx
          have ei : nI (10 + i) - (10 : Int32) = nI i := by
            rw [show (10 : Int32) = nI 10 from rfl, pk_sub (by omega), show 10 + i - 10 = i by omega]
          have r85 : d2.2.2 65 35 = 85 := h2.2.1.1.2.2.2.2.2.2.2.2.2.2.2.2.2.2.2.2.2.2.2.1
          rw [ei, show cl (nI i) = i from nI_clamp (by omega)]
          simp only [wp_mb, wp_gI, zk, true_and, h2.2.1.2.1.2.1]
          by_cases hP : n - 1 ≤ i
          · rw [if_pos ((pred_le (by omega) (by omega)).mpr hP), if_pos hP, wp_mp]
            exact ⟨h2, rfl⟩
          · rw [if_neg (fun w => hP ((pred_le (by omega) (by omega)).mp w)), if_neg hP]
            simp only [wp_mb, wp_gR, wp_aI, wp_mp, zk, zl, true_and, r85, nI_clamp (show i < 2 ^ 31 by omega), a2 i (by omega)]
            exact ⟨ib_nI (by omega) (by omega), h2, trivial⟩
  · rw [if_neg (nI_ge (by omega) (by omega))]
    simp only [wp_mb, wp_vc, wp_ml, zk, true_and]
    refine wp_mono (putByM h1.2.1.1 h1.2.1.2.1.2.1 hn (show c < 2 ^ 31 by omega)) (fun _ d2 ⟨a1, a2⟩ => ?_)
    refine wp_mono (few114 (h1.p85 a1) hn hb he (show c < 2187 by omega) hB a2) (fun z d3 ⟨b1, x', y', w', b2, b3⟩ => ?_)
    subst b2
    exact ⟨by omega, b1, rfl, b3⟩
theorem few62 {d1 : Dm} (h : FJ r n ac f ev sv ns A b e fd wa wn d d1) (hn : n ≤ 8) (hb : b ≤ 9) (he : e ≤ 99) {x : Int32} (hx : vX x) : wp (Mod_fewest_62 65 x (1, 0)) d1 (fun z d' => FJ r n ac f ev sv ns A b e fd wa wn d d' ∧ z = fwZ (n - 1) (kN (n - 1) b e) (mN (n - 1)) (fwB r n ac f ev sv ns A b e (3 ^ (n - 1))) x) := by
  unfold Mod_fewest_62
  refine wp_up (fun i s dd => s = (nI (3 ^ i), nI i) ∧ dd = d1) (n - 1) ?_ (i := 0) (by omega) ⟨rfl, rfl⟩
  intro i s dd hi ⟨e1, e2⟩
  subst e1; subst e2
  unfold Mod_fewest_62_b
  dsimp only
  simp only [wp_mb, wp_gI, zk, true_and, h.2.1.2.1.2.1]
  by_cases hc : i = n - 1
  · rw [if_pos ((pred_le (by omega) (by omega)).mpr (by omega))]
    simp only [wp_mr, wp_ml]
    rw [hc]
    exact few93 h hn hb he hx
  · rw [if_neg (fun w => hc (by have := (pred_le (n := n) (i := i) (by omega) (by omega)).mp w; omega))]
    simp only [wp_ml, wp_mp, nI_1]
    refine ⟨by omega, ?_, trivial⟩
    rw [show (3 : Int32) = nI 3 from rfl, pk_mul, Nat.pow_succ]
theorem fewestM (h : MJ r n ac f ev sv ns A t pn (nI b) (nI e) fd d) (hb : b ≤ 9) (he : e ≤ 99) (hfd : fd ≤ 12) (x : Int32) : wp (Mod_fewest 65 x) d (fun z d' => (¬ vX x ∧ z = -102 ∧ d' = d) ∨ (vX x ∧ (((8 < n ∨ fd = 12) ∧ z = -103 ∧ d' = d) ∨ (n ≤ 8 ∧ fd < 12 ∧ z = fwZ (n - 1) (kN (n - 1) b e) (mN (n - 1)) (fwB r n ac f ev sv ns A b e (3 ^ (n - 1))) x ∧ frc s65 d d' ∧ MJ r n ac f ev sv ns A t pn (nI b) (nI e) (fd + 1) d')))) := by
  have hn := h.1.1.2.1.1.1
  have go : vX x → wp (Mod_fewest_23 65 x) d (fun z d' => (¬ vX x ∧ z = -102 ∧ d' = d) ∨ (vX x ∧ (((8 < n ∨ fd = 12) ∧ z = -103 ∧ d' = d) ∨ (n ≤ 8 ∧ fd < 12 ∧ z = fwZ (n - 1) (kN (n - 1) b e) (mN (n - 1)) (fwB r n ac f ev sv ns A b e (3 ^ (n - 1))) x ∧ frc s65 d d' ∧ MJ r n ac f ev sv ns A t pn (nI b) (nI e) (fd + 1) d')))) := by
    intro hx
    unfold Mod_fewest_23
    simp only [wp_mb, wp_gI, zk, true_and, h.1.1.2.1.2.1]
    by_cases h8 : 8 < n
    · rw [if_pos (show (8 : Int32) < nI n from nI_lt (a := 8) h8 (by omega)), wp_mp]
      exact Or.inr ⟨hx, Or.inl ⟨Or.inl h8, rfl, rfl⟩⟩
    · rw [if_neg (show ¬ (8 : Int32) < nI n from nI_nlt (a := 8) (by omega) (by omega))]
      simp only [wp_mb, wp_gI, zk, true_and, h.2.2.2.2]
      by_cases h12 : fd = 12
      · rw [if_pos (show nI fd = (12 : Int32) by rw [h12]; rfl), wp_mp]
        exact Or.inr ⟨hx, Or.inl ⟨Or.inr h12, rfl, rfl⟩⟩
      · rw [if_neg (show ¬ nI fd = (12 : Int32) from fun w => h12 ((nI_c (n := 12) (by omega) (by omega)).mp w))]
        simp only [wp_mb, wp_gI, wp_pI, wp_vc, wp_ml, zk, true_and, h.2.2.2.2, nI_1]
        have hf : frc (fun x j => x = 65 ∧ j = 15) d (u2 d.1 65 15 (nI (fd + 1)), d.2) := fr_uI d 65 15 _ ⟨rfl, rfl⟩
        have h1 : MJ r n ac f ev sv ns A t pn (nI b) (nI e) (fd + 1) (u2 d.1 65 15 (nI (fd + 1)), d.2) := ⟨h.1.fco hf (fun x j hx q => by unfold coM at hx; omega), h.2.1.fr hf (by omega) (fun j => by omega), (hf.i (by omega)).trans h.2.2.1, (hf.i (by omega)).trans h.2.2.2.1, u2_s d.1 65 15 (nI (fd + 1))⟩
        have f1 : frc s65 d (u2 d.1 65 15 (nI (fd + 1)), d.2) := frc_w hf fun x j hx q => hx (by unfold s65; omega)
        generalize ((u2 d.1 65 15 (nI (fd + 1)), d.2) : Dm) = d1 at h1 f1
        refine wp_mono (layAll_eq h1.1.1.1 h1.1.1.2.1 h1.1.1.2.2.1 h1.1.1.2.2.2.1 h1.1.2) (fun _ d2 ⟨a1, a2, wa, wn, a3⟩ => ?_)
        have cL : ∀ x j, crM x j → ¬ sLd x j := fun x j hx => by unfold crM at hx; exact sL_no (by omega)
        have pL : frc sPl d1 d2 := fP_w a1 fun x j hx => ⟨by unfold sLd sNw sE at hx; omega, fun q => cL x j q hx⟩
        have hJ : FJ r n ac f ev sv ns A b e (fd + 1) wa wn d1 d2 := ⟨pL, h1.1.1.fr a1 cL, a2, a3, h1.2.2.fr pL (fun j a c => ns_P (by unfold crM; omega))⟩
        refine wp_mono (few62 hJ (by omega) hb he hx) (fun z d3 ⟨b1, b2⟩ => ?_)
        exact Or.inr ⟨hx, Or.inr ⟨by omega, by omega, b2, frc_t f1 (f65_P b1.1), h1.P b1.1 (MX.of1 b1.2.1 b1.2.2.1 b1.2.2.2.1)⟩⟩
  unfold Mod_fewest
  simp only [wp_mb, wp_eq (Mod_in_eq _ _ _ _)]
  by_cases h1 : (0 : Int32) ≤ x ∧ x ≤ 1
  · rw [if_pos h1, if_neg (by decide)]
    exact go ((vX_iff x).mpr (Or.inl h1))
  · rw [if_neg h1, if_pos rfl]
    simp only [wp_mb, wp_eq (Mod_in_eq _ _ _ _)]
    by_cases h2 : (10 : Int32) ≤ x ∧ x ≤ 16
    · rw [if_pos h2, if_neg (by decide)]
      exact go ((vX_iff x).mpr (Or.inr h2))
    · rw [if_neg h2, if_pos rfl, wp_mp]
      exact Or.inl ⟨fun w => ((vX_iff x).mp w).elim h1 h2, rfl, rfl⟩
end
