/-! ===== pure: rules and steps come, by the reference ===== -/
def sRu (x j : Nat) : Prop := (70 ≤ x ∧ x ≤ 74) ∨ (x = 65 ∧ (j = 4 ∨ j = 6 ∨ j = 10 ∨ j = 17 ∨ j = 18 ∨ j = 27))
theorem f65_Ru {d d' : Dm} (h : frc sRu d d') : frc s65 d d' := frc_w h fun x j hx q => hx (by unfold sRu at q; unfold s65; omega)
section
variable {r n ns A : Nat} {ac : Nat → Ac} {f : Pl} {ev : Nat → Pl → Bool} {sv : Nat → Pl → Pl} {t : Nat → Nat} {pn : Nat} {bc fc : Int32} {fd : Nat} {d : Dm}
theorem MJ.Ru {d' : Dm} {r' ns' A' pn' : Nat} {ev' : Nat → Pl → Bool} {sv' : Nat → Pl → Pl} (h : MJ r n ac f ev sv ns A t pn bc fc fd d) (hf : frc sRu d d') (h27 : d'.1 65 27 = 0) (hr : r ≤ r') (hM : MR r' ev' A' d') (hS : MS ns' sv' d') (hA : A' < 2 ^ r') (hp : pn' ≤ pn) (h4 : d'.1 65 4 = nI pn') : MJ r' n ac f ev' sv' ns' A' t pn' bc fc fd d' := by
  have hP := h.1.1.2.1
  have hP2 := hP.fr hf (by unfold sRu; omega) (fun j => by unfold sRu; omega) (fun j => by unfold sRu; omega) (fun j => by unfold sRu; omega)
  refine ⟨⟨⟨MRf_fr h.1.1.1 hf, ⟨⟨hP2.1.1, hP2.1.2.1, fun i hi => okA_up (hP2.1.2.2 i hi) hr⟩, hP2.2⟩, hM, hS, hA⟩, Or.inl h27⟩, ⟨by have := h.2.1.1; omega, h4, fun i hi => ⟨(hf.i (by unfold sRu; omega)).trans (h.2.1.2.2 i (by omega)).1, (h.2.1.2.2 i (by omega)).2⟩⟩, h.2.2.fr hf (fun j a b => by unfold sRu; omega)⟩
theorem i60 (n : Nat) : (60 : Int32) * nI n = nI (60 * n) := by rw [show (60 : Int32) = nI 60 from rfl, pk_mul]
theorem ruleM (h : MJ r n ac f ev sv ns A t pn bc fc fd d) : wp (Mod_rule 65) d (fun z d' => frc s65 d d' ∧ ((((¬ WH false t pn ∧ z = -103) ∨ (WH false t pn ∧ 6 ≤ r ∧ z = -104)) ∧ MJ r n ac f ev sv ns A t pn bc fc fd d') ∨ (WH false t pn ∧ r < 6 ∧ z = nI r ∧ MJ (r + 1) n ac f (setA ev r (rvP t pn)) sv ns A t 0 bc fc fd d'))) := by
  have hpn := h.2.1.1
  have hr := h.1.1.2.2.1.1
  unfold Mod_rule
  simp only [wp_mb, wp_vc, zk, true_and]
  have hrt := readTextM (sp := false) h.1.1.1 h.2.1
  refine wp_mono (show wp (Mod_readText 65 0) d _ from hrt) (fun _ d1 ⟨a1, k, a2, a3, a4⟩ => ?_)
  have h1 := h.Rd a1
  have f1 : frc sRu d d1 := frc_w a1 fun x j hx q => hx (by unfold sRd at q; unfold sRu; omega)
  simp only [wp_mb, wp_gI, zk, true_and]
  rcases a4 with ⟨a4, a5⟩ | ⟨a4, a5⟩
  · rw [a4, if_neg (by decide)]
    simp only [wp_mb, wp_gI, zk, true_and, h1.1.1.2.2.1.2.1]
    by_cases h6 : r = 6
    · rw [if_pos (show nI r = (6 : Int32) by rw [h6]; rfl), wp_mp]
      exact ⟨f65_Ru f1, Or.inl ⟨Or.inr ⟨a5, by omega, rfl⟩, h1⟩⟩
    · rw [if_neg (show ¬ nI r = (6 : Int32) from fun q => h6 ((nI_c (n := 6) (by omega) (by omega)).mp q)), wp_ml]
      unfold Mod_rule_29
      have hM := h1.1.1.2.2.1
      refine wp_up (fun m s dd => s = nI m ∧ frc sRu d dd ∧ frc (fun x j => x = 70 ∧ 60 * r ≤ j) d1 dd ∧ ∀ i, i < m → dd.1 70 (60 * r + i) = nI (t i)) pn ?_ (i := 0) (by omega) ⟨rfl, f1, frc_rf d1, fun i hi => by omega⟩
      intro m s dd hm ⟨e1, hf, hf1, g⟩
      subst e1
      have hR := MRf_fr h.1.1.1 hf
      have r69 : dd.2.2 65 5 = 69 := hR.2.2.2.1
      have r70 : dd.2.2 65 7 = 70 := hR.2.2.2.2.1
      have r71 : dd.2.2 65 8 = 71 := hR.2.2.2.2.2.1
      have r72 : dd.2.2 65 9 = 72 := hR.2.2.2.2.2.2.1
      have e4 : dd.1 65 4 = nI pn := (hf1.i (by omega)).trans h1.2.1.2.1
      have e6 : dd.1 65 6 = nI r := (hf1.i (by omega)).trans hM.2.1
      unfold Mod_rule_29_b
      simp only [wp_mb, wp_gI, zk, true_and, e4]
      by_cases hx : m = pn
      · subst hx
        rw [if_pos (nI_le (Nat.le_refl _) (by omega))]
        have u1 : ∀ (I : Nat → Nat → Int32) k v j, u2 I 71 k v 65 j = I 65 j := fun I k v j => u2_a I (by omega) k v j
        have u3 : ∀ (I : Nat → Nat → Int32) k v j, u2 I 72 k v 65 j = I 65 j := fun I k v j => u2_a I (by omega) k v j
        have u5 : ∀ (I : Nat → Nat → Int32) v w x, u2 (u2 (u2 I 65 6 v) 65 4 w) 65 27 x 65 6 = v := fun I v w x => (u2_k _ _ _ (by omega) _).trans ((u2_k _ _ _ (by omega) _).trans (u2_s _ _ _ _))
        simp only [wp_mr, wp_mb, wp_gI, wp_gR, wp_sI, wp_sZ, wp_pI, wp_pZ, wp_mp, zk, zl, true_and, r71, r72, e4, e6, u1, u3, u5, nI_1, nI_clamp (show r < 2 ^ 31 by omega)]
        refine ⟨ib_nI (by omega) (by omega), ⟨ib_nI (by omega) (by omega), by simp⟩, by simp, ?_⟩
        generalize hD : ((u2 (u2 (u2 (u2 (u2 dd.1 71 r (nI m)) 72 r 0) 65 6 (nI (r + 1))) 65 4 0) 65 27 0, dd.2) : Dm) = d2
        have hf2 : frc sRu d d2 := by
          rw [← hD]
          exact frc_I (frc_I (frc_I (frc_I (frc_I hf 71 r _ (Or.inl (by omega))) 72 r _ (Or.inl (by omega))) 65 6 _ (Or.inr (by omega))) 65 4 _ (Or.inr (by omega))) 65 27 _ (Or.inr (by omega))
        have n70 : ∀ j, d2.1 70 j = dd.1 70 j := fun j => by
          rw [← hD]
          dsimp only
          rw [u2_a _ (by omega), u2_a _ (by omega), u2_a _ (by omega), u2_a _ (by omega), u2_a _ (by omega)]
        have n73 : ∀ x j, 73 ≤ x → d2.1 x j = dd.1 x j := fun x j hx => by
          rw [← hD]
          dsimp only
          rw [u2_a _ (by omega), u2_a _ (by omega), u2_a _ (by omega), u2_a _ (by omega), u2_a _ (by omega)]
        have n71 : ∀ j, d2.1 71 j = u2 dd.1 71 r (nI m) 71 j := fun j => by
          rw [← hD]
          dsimp only
          rw [u2_a _ (by omega), u2_a _ (by omega), u2_a _ (by omega), u2_a _ (by omega)]
        have n72 : ∀ j, d2.1 72 j = u2 dd.1 72 r 0 72 j := fun j => by
          rw [← hD]
          dsimp only
          rw [u2_a _ (by omega), u2_a _ (by omega), u2_a _ (by omega)]
          unfold u2
          simp
        have hAr : A.testBit r = false := Nat.testBit_lt_two_pow h.1.1.2.2.2.2
        have hS2 : MS ns sv d2 := by
          have := h1.1.1.2.2.2.1
          refine ⟨this.1, ?_, fun j hj => ?_⟩
          · rw [← hD]
            show u2 (u2 (u2 (u2 (u2 dd.1 71 r (nI m)) 72 r 0) 65 6 (nI (r + 1))) 65 4 0) 65 27 0 65 10 = _
            rw [u2_k _ _ _ (by omega), u2_k _ _ _ (by omega), u2_k _ _ _ (by omega), u2_a _ (by omega), u2_a _ (by omega)]
            exact (hf1.i (by omega)).trans this.2.1
          · obtain ⟨t', m', b1, b2, b3, b4⟩ := this.2.2 j hj
            exact ⟨t', m', b1, (n73 _ _ (by omega)).trans ((hf1.i (by omega)).trans b2), fun i hi => ⟨(n73 _ _ (by omega)).trans ((hf1.i (by omega)).trans (b3 i hi).1), (b3 i hi).2⟩, b4⟩
        have hA := h.1.1.2.2.2.2
        have hA2 : A < 2 ^ (r + 1) := Nat.lt_of_lt_of_le hA (Nat.pow_le_pow_right (by omega) (by omega))
        refine ⟨f65_Ru hf2, Or.inr ⟨a5, by omega, nI_pred r, h.Ru hf2 (by rw [← hD]; rfl) (Nat.le_succ r) ⟨by omega, by rw [← hD]; rfl, fun j hj => ?_⟩ hS2 hA2 (Nat.zero_le _) (by rw [← hD]; rfl)⟩⟩
        by_cases hjr : j = r
        · subst hjr
          refine ⟨by rw [n72, u2_s, hAr]; rfl, t, m, hpn, by rw [n71, u2_s], fun i hi => ⟨by rw [n70]; exact g i hi, (h.2.1.2.2 i hi).2⟩, a5, fun p _ => by rw [setA_s]⟩
        · obtain ⟨b0, t', m', b1, b2, b3, b4, b5⟩ := hM.2.2 j (by omega)
          refine ⟨?_, t', m', b1, ?_, fun i hi => ⟨?_, (b3 i hi).2⟩, b4, fun p hp => by rw [setA_n _ _ hjr]; exact b5 p hp⟩
          · rw [n72, u2_k _ _ _ hjr]; exact (hf1.i (by omega)).trans b0
          · rw [n71, u2_k _ _ _ hjr]; exact (hf1.i (by omega)).trans b2
          · rw [n70]; exact (hf1.i (by omega)).trans (b3 i hi).1
      · rw [if_neg (nI_ge (by omega) (by omega))]
        obtain ⟨t1, t2⟩ := h1.2.1.2.2 m (by omega)
        have e69 : dd.1 69 m = nI (t m) := (hf1.i (by omega)).trans t1
        simp only [wp_mb, wp_gI, wp_gR, wp_aI, wp_sB, wp_ml, wp_mp, zk, zl, true_and, r69, r70, e6, i60, nI_add, nI_1, nI_clamp (show m < 2 ^ 31 by omega), nI_clamp (show 60 * r + m < 2 ^ 31 by omega), e69, fa_byte_small t2]
        refine ⟨ib_nI (by omega) (by omega), ib_nI (by omega) (by omega), by omega, frc_I hf 70 _ _ (Or.inl (by omega)), frc_I hf1 70 _ _ ⟨rfl, by omega⟩, fun i hi => ?_⟩
        by_cases hi2 : i = m
        · rw [hi2, u2_s]
        · rw [u2_k _ _ _ (by omega)]; exact g i (by omega)
  · rw [a4, if_pos rfl, wp_mp]
    exact ⟨f65_Ru f1, Or.inl ⟨Or.inl ⟨a5, rfl⟩, h1⟩⟩
theorem stepM (h : MJ r n ac f ev sv ns A t pn bc fc fd d) : wp (Mod_step 65) d (fun z d' => frc s65 d d' ∧ ((((¬ WH true t pn ∧ z = -103) ∨ (WH true t pn ∧ 8 ≤ ns ∧ z = -104)) ∧ MJ r n ac f ev sv ns A t pn bc fc fd d') ∨ (WH true t pn ∧ ns < 8 ∧ z = nI ns ∧ MJ r n ac f ev (setA sv ns (svP t pn)) (ns + 1) A t 0 bc fc fd d'))) := by
  have hpn := h.2.1.1
  have hns := h.1.1.2.2.2.1.1
  unfold Mod_step
  simp only [wp_mb, wp_vc, zk, true_and]
  have hrt := readTextM (sp := true) h.1.1.1 h.2.1
  refine wp_mono (show wp (Mod_readText 65 1) d _ from hrt) (fun _ d1 ⟨a1, k, a2, a3, a4⟩ => ?_)
  have h1 := h.Rd a1
  have f1 : frc sRu d d1 := frc_w a1 fun x j hx q => hx (by unfold sRd at q; unfold sRu; omega)
  simp only [wp_mb, wp_gI, zk, true_and]
  rcases a4 with ⟨a4, a5⟩ | ⟨a4, a5⟩
  · rw [a4, if_neg (by decide)]
    simp only [wp_mb, wp_gI, zk, true_and, h1.1.1.2.2.2.1.2.1]
    by_cases h8 : ns = 8
    · rw [if_pos (show nI ns = (8 : Int32) by rw [h8]; rfl), wp_mp]
      exact ⟨f65_Ru f1, Or.inl ⟨Or.inr ⟨a5, by omega, rfl⟩, h1⟩⟩
    · rw [if_neg (show ¬ nI ns = (8 : Int32) from fun q => h8 ((nI_c (n := 8) (by omega) (by omega)).mp q)), wp_ml]
      unfold Mod_step_29
      have hM := h1.1.1.2.2.2.1
      refine wp_up (fun m s dd => s = nI m ∧ frc sRu d dd ∧ frc (fun x j => x = 73 ∧ 60 * ns ≤ j) d1 dd ∧ ∀ i, i < m → dd.1 73 (60 * ns + i) = nI (t i)) pn ?_ (i := 0) (by omega) ⟨rfl, f1, frc_rf d1, fun i hi => by omega⟩
      intro m s dd hm ⟨e1, hf, hf1, g⟩
      subst e1
      have hR := MRf_fr h.1.1.1 hf
      have r69 : dd.2.2 65 5 = 69 := hR.2.2.2.1
      have r73 : dd.2.2 65 11 = 73 := hR.2.2.2.2.2.2.2.1
      have r74 : dd.2.2 65 12 = 74 := hR.2.2.2.2.2.2.2.2.1
      have e4 : dd.1 65 4 = nI pn := (hf1.i (by omega)).trans h1.2.1.2.1
      have e6 : dd.1 65 10 = nI ns := (hf1.i (by omega)).trans hM.2.1
      unfold Mod_step_29_b
      simp only [wp_mb, wp_gI, zk, true_and, e4]
      by_cases hx : m = pn
      · subst hx
        rw [if_pos (nI_le (Nat.le_refl _) (by omega))]
        have u1 : ∀ (I : Nat → Nat → Int32) k v j, u2 I 74 k v 65 j = I 65 j := fun I k v j => u2_a I (by omega) k v j
        have u5 : ∀ (I : Nat → Nat → Int32) v w x, u2 (u2 (u2 I 65 10 v) 65 4 w) 65 27 x 65 10 = v := fun I v w x => (u2_k _ _ _ (by omega) _).trans ((u2_k _ _ _ (by omega) _).trans (u2_s _ _ _ _))
        simp only [wp_mr, wp_mb, wp_gI, wp_gR, wp_sI, wp_pI, wp_pZ, wp_mp, zk, zl, true_and, r74, e4, e6, u1, u5, nI_1, nI_clamp (show ns < 2 ^ 31 by omega)]
        refine ⟨ib_nI (by omega) (by omega), by simp, ?_⟩
        generalize hD : ((u2 (u2 (u2 (u2 dd.1 74 ns (nI m)) 65 10 (nI (ns + 1))) 65 4 0) 65 27 0, dd.2) : Dm) = d2
        have hf2 : frc sRu d d2 := by
          rw [← hD]
          exact frc_I (frc_I (frc_I (frc_I hf 74 ns _ (Or.inl (by omega))) 65 10 _ (Or.inr (by omega))) 65 4 _ (Or.inr (by omega))) 65 27 _ (Or.inr (by omega))
        have n7 : ∀ x j, 66 ≤ x → x ≤ 73 → d2.1 x j = dd.1 x j := fun x j hx hx2 => by
          rw [← hD]
          dsimp only
          rw [u2_a _ (by omega), u2_a _ (by omega), u2_a _ (by omega), u2_a _ (by omega)]
        have n74 : ∀ j, d2.1 74 j = u2 dd.1 74 ns (nI m) 74 j := fun j => by
          rw [← hD]
          dsimp only
          rw [u2_a _ (by omega), u2_a _ (by omega), u2_a _ (by omega)]
        have hM2 : MR r ev A d2 := by
          have := h1.1.1.2.2.1
          refine ⟨this.1, ?_, fun j hj => ?_⟩
          · rw [← hD]
            show u2 (u2 (u2 (u2 dd.1 74 ns (nI m)) 65 10 (nI (ns + 1))) 65 4 0) 65 27 0 65 6 = _
            rw [u2_k _ _ _ (by omega), u2_k _ _ _ (by omega), u2_k _ _ _ (by omega), u2_a _ (by omega)]
            exact (hf1.i (by omega)).trans this.2.1
          · obtain ⟨b0, t', m', b1, b2, b3, b4⟩ := this.2.2 j hj
            exact ⟨(n7 _ _ (by omega) (by omega)).trans ((hf1.i (by omega)).trans b0), t', m', b1, (n7 _ _ (by omega) (by omega)).trans ((hf1.i (by omega)).trans b2), fun i hi => ⟨(n7 _ _ (by omega) (by omega)).trans ((hf1.i (by omega)).trans (b3 i hi).1), (b3 i hi).2⟩, b4⟩
        refine ⟨f65_Ru hf2, Or.inr ⟨a5, by omega, nI_pred ns, h.Ru hf2 (by rw [← hD]; rfl) (Nat.le_refl r) hM2 ⟨by omega, by rw [← hD]; rfl, fun j hj => ?_⟩ h.1.1.2.2.2.2 (Nat.zero_le _) (by rw [← hD]; rfl)⟩⟩
        by_cases hjr : j = ns
        · subst hjr
          refine ⟨t, m, hpn, by rw [n74, u2_s], fun i hi => ⟨by rw [n7 _ _ (by omega) (by omega)]; exact g i hi, (h.2.1.2.2 i hi).2⟩, a5, fun p _ => by rw [setA_s]⟩
        · obtain ⟨t', m', b1, b2, b3, b4, b5⟩ := hM.2.2 j (by omega)
          refine ⟨t', m', b1, ?_, fun i hi => ⟨?_, (b3 i hi).2⟩, b4, fun p hp => by rw [setA_n _ _ hjr]; exact b5 p hp⟩
          · rw [n74, u2_k _ _ _ hjr]; exact (hf1.i (by omega)).trans b2
          · rw [n7 _ _ (by omega) (by omega)]; exact (hf1.i (by omega)).trans (b3 i hi).1
      · rw [if_neg (nI_ge (by omega) (by omega))]
        obtain ⟨t1, t2⟩ := h1.2.1.2.2 m (by omega)
        have e69 : dd.1 69 m = nI (t m) := (hf1.i (by omega)).trans t1
        simp only [wp_mb, wp_gI, wp_gR, wp_aI, wp_sB, wp_ml, wp_mp, zk, zl, true_and, r69, r73, e6, i60, nI_add, nI_1, nI_clamp (show m < 2 ^ 31 by omega), nI_clamp (show 60 * ns + m < 2 ^ 31 by omega), e69, fa_byte_small t2]
        refine ⟨ib_nI (by omega) (by omega), ib_nI (by omega) (by omega), by omega, frc_I hf 73 _ _ (Or.inl (by omega)), frc_I hf1 73 _ _ ⟨rfl, by omega⟩, fun i hi => ?_⟩
        by_cases hi2 : i = m
        · rw [hi2, u2_s]
        · rw [u2_k _ _ _ (by omega)]; exact g i (by omega)
  · rw [a4, if_pos rfl, wp_mp]
    exact ⟨f65_Ru f1, Or.inl ⟨Or.inl ⟨a5, rfl⟩, h1⟩⟩
theorem bareM (h : MJ r n ac f ev sv ns A t pn bc fc fd d) : wp (Mod_bare 65) d (fun z d' => z = nI ns ∧ frc s65 d d' ∧ MJ r n ac f ev sv 0 A t pn bc fc fd d') := by
  unfold Mod_bare
  simp only [wp_mb, wp_gI, wp_pI, wp_pZ, wp_mp, zk, true_and, h.1.1.2.2.2.1.2.1]
  have hf : frc sRu d (u2 (u2 d.1 65 10 0) 65 27 0, d.2) := frc_I (fr_uI d 65 10 _ (Or.inr (by omega))) 65 27 _ (Or.inr (by omega))
  have hne : ∀ {x j}, ¬ (x = 65 ∧ (j = 10 ∨ j = 27)) → u2 (u2 d.1 65 10 0) 65 27 0 x j = d.1 x j := fun {x j} q => (if_neg (by omega)).trans (if_neg (by omega))
  have hM := h.1.1.2.2.1
  refine ⟨by simp, f65_Ru hf, h.Ru hf rfl (Nat.le_refl r) ⟨hM.1, (hne (by omega)).trans hM.2.1, fun j hj => ?_⟩ ⟨by omega, rfl, fun j hj => by omega⟩ h.1.1.2.2.2.2 (Nat.le_refl _) ((hne (by omega)).trans h.2.1.2.1)⟩
  obtain ⟨b0, t', m', b1, b2, b3, b4⟩ := hM.2.2 j hj
  exact ⟨(hne (by omega)).trans b0, t', m', b1, (hne (by omega)).trans b2, fun i hi => ⟨(hne (by omega)).trans (b3 i hi).1, (b3 i hi).2⟩, b4⟩
end
