/-! ===== pure: the reference changes acts about, tells of one; its page ===== -/
theorem sar_low {N k : Nat} (hN : N < 2 ^ 64) (hk : k < 8) : (lN N >>> (((8 : Int32) * nI k).toInt64 &&& 63)) &&& (255 : Int64) = lN (dg 256 N k) := by
  rw [i8, wb_c (8 * k) (by omega)]
  apply wb_inj
  rw [Int64.toBitVec_and, Int64.toBitVec_shiftRight, wb_tb, wb_tb, wb_tb, wb_sm (8 * k) (by omega)]
  apply BitVec.eq_of_getLsbD_eq
  intro i hi
  show (((BitVec.ofNat 64 N).sshiftRight (BitVec.ofNat 64 (8 * k)).toNat) &&& BitVec.ofNat 64 255).getLsbD i = _
  have e1 : (BitVec.ofNat 64 (8 * k)).toNat = 8 * k := Nat.mod_eq_of_lt (by omega)
  have e3 : dg 256 N k = N / 2 ^ (8 * k) % 2 ^ 8 := by rw [p8]; rfl
  rw [e1, BitVec.getLsbD_and, BitVec.getLsbD_sshiftRight, BitVec.getLsbD_ofNat, BitVec.getLsbD_ofNat, BitVec.getLsbD_ofNat, e3, Nat.testBit_mod_two_pow, Nat.testBit_div_two_pow, show (255 : Nat) = 2 ^ 8 - 1 from rfl, Nat.testBit_two_pow_sub_one]
  by_cases h8 : i < 8
  · have h64 : 8 * k + i < 64 := by omega
    rw [Nat.add_comm i (8 * k)]
    simp [hi, h8, h64, Nat.not_le.mpr hi]
  · simp [h8]
theorem and32 (X : Int64) : X.toInt32 &&& (255 : Int32) = (X &&& (255 : Int64)).toInt32 := by
  rw [Int64.toInt32_and]
  rfl
theorem sar_byte {N k : Nat} (hN : N < 2 ^ 64) (hk : k < 8) (hb : dg 256 N k < 127) : ((lN N >>> (((8 : Int32) * nI k).toInt64 &&& 63)).toInt32).toInt8.toInt32.toInt8.toInt32 = nI (dg 256 N k) := by
  rw [← fa_byte_low (lN N >>> (((8 : Int32) * nI k).toInt64 &&& 63)).toInt32, and32, sar_low hN hk, lN_i, fa_byte_small (by omega), fa_byte_small (by omega)]
section
variable {r n ns A : Nat} {ac : Nat → Ac} {f : Pl} {ev : Nat → Pl → Bool} {sv : Nat → Pl → Pl} {t : Nat → Nat} {pn : Nat} {bc fc : Int32} {fd : Nat} {d : Dm}
theorem actM (h : MJ r n ac f ev sv ns A t pn bc fc fd d) (x y : Int32) : wp (Mod_act 65 x y) d (fun z d' => d' = d ∧ ((¬ (0 ≤ x ∧ x < nI n) ∧ z = -101) ∨ ∃ i, i < n ∧ x = nI i ∧ ((¬ (0 ≤ y ∧ y ≤ 4) ∧ z = -102) ∨ ∃ k, k < 5 ∧ y = nI k ∧ z = ac i k))) := by
  have hR := h.1.1.1
  have hP := h.1.1.2.1
  have hn := hP.1.1
  have r67 : d.2.2 65 2 = 67 := hR.2.1
  have r68 : d.2.2 65 3 = 68 := hR.2.2.1
  unfold Mod_act
  simp only [wp_mb, wp_gI, zk, true_and, hP.2.1, wp_eq (Mod_in_eq _ _ _ _), le_pred x (show n < 2 ^ 31 by omega)]
  rcases ix_cases x (n := n) (by omega) with hx | ⟨i, hi, hx⟩
  · simp only [if_neg hx, if_true, wp_mp]
    exact ⟨trivial, Or.inl ⟨hx, trivial⟩⟩
  · subst hx
    rw [if_pos (nI_has hi (show n < 2 ^ 31 by omega)), if_neg (show ¬ (1 : Int32) = 0 by decide)]
    refine wp_if (fun hy => ?_) (fun hy => ?_)
    · simp only [wp_mb, wp_gR, wp_aI, wp_mp, zk, zl, true_and, r67, nI_clamp (show i < 2 ^ 31 by omega)]
      exact ⟨ib_nI (by omega) (by omega), Or.inr ⟨i, hi, rfl, Or.inr ⟨0, by omega, hy, (hP.2.2.2 i hi).1⟩⟩⟩
    · simp only [wp_mb, wp_eq (Mod_in_eq _ _ _ _)]
      rcases ib_cases y (n := 4) (by omega) with hy4 | ⟨k, hk, hy4⟩
      · rw [if_neg (show ¬ ((1 : Int32) ≤ y ∧ y ≤ 4) from fun q => hy4 ⟨Int32.le_trans (by decide) q.1, q.2⟩), if_pos rfl, wp_mp]
        exact ⟨rfl, Or.inr ⟨i, hi, rfl, Or.inl ⟨hy4, rfl⟩⟩⟩
      · subst hy4
        have hk0 : 0 < k := by
          rcases Nat.eq_zero_or_pos k with q | q
          · rw [q] at hy; exact absurd rfl hy
          · exact q
        rw [if_pos (show (1 : Int32) ≤ nI k ∧ nI k ≤ 4 from ⟨nI_le (a := 1) hk0 (by omega), nI_le (b := 4) hk (by omega)⟩), if_neg (by decide)]
        have e4 : (4 : Int32) * nI i + nI k - 1 = nI (4 * i + (k - 1)) := by
          rw [i4, nI_add, show (1 : Int32) = nI 1 from rfl, pk_sub (by omega)]
          congr 1
          omega
        rw [e4]
        simp only [wp_mb, wp_gR, wp_aI, wp_mp, zk, zl, true_and, r68, nI_clamp (show 4 * i + (k - 1) < 2 ^ 31 by omega)]
        refine ⟨ib_nI (by omega) (by omega), Or.inr ⟨i, hi, rfl, Or.inr ⟨k, by omega, rfl, ?_⟩⟩⟩
        rw [(hP.2.2.2 i hi).2 (k - 1) (by omega), show k - 1 + 1 = k by omega]
theorem swapM (h : MJ r n ac f ev sv ns A t pn bc fc fd d) (x y : Int32) : wp (Mod_swap 65 x y) d (fun z d' => ((¬ (0 ≤ x ∧ x < nI n) ∨ ¬ (0 ≤ y ∧ y < nI n)) ∧ z = -101 ∧ d' = d) ∨ ∃ i j, i < n ∧ j < n ∧ x = nI i ∧ y = nI j ∧ z = 1 ∧ frc s65 d d' ∧ MJ r n (fun k => ac (sw2 i j k)) f ev sv ns A t pn bc fc fd d') := by
  have hR := h.1.1.1
  have hP := h.1.1.2.1
  have hn := hP.1.1
  have r67 : d.2.2 65 2 = 67 := hR.2.1
  unfold Mod_swap
  simp only [wp_mb, wp_gI, zk, true_and, hP.2.1, wp_eq (Mod_in_eq _ _ _ _), le_pred x (show n < 2 ^ 31 by omega)]
  rcases ix_cases x (n := n) (by omega) with hx | ⟨i, hi, hx⟩
  · simp only [if_neg hx, if_true, wp_mp]
    exact Or.inl ⟨Or.inl hx, trivial, trivial⟩
  subst hx
  simp only [if_pos (nI_has hi (show n < 2 ^ 31 by omega)), if_neg (show ¬ (1 : Int32) = 0 by decide), wp_mb, wp_gI, zk, true_and, hP.2.1, wp_eq (Mod_in_eq _ _ _ _), le_pred y (show n < 2 ^ 31 by omega)]
  rcases ix_cases y (n := n) (by omega) with hy | ⟨j, hj, hy⟩
  · simp only [if_neg hy, if_true, wp_mp]
    exact Or.inl ⟨Or.inr hy, trivial, trivial⟩
  subst hy
  simp only [if_pos (nI_has hj (show n < 2 ^ 31 by omega)), if_neg (show ¬ (1 : Int32) = 0 by decide), wp_mb, wp_gR, wp_aI, wp_sI, wp_ml, zk, zl, true_and, r67, nI_clamp (show i < 2 ^ 31 by omega), nI_clamp (show j < 2 ^ 31 by omega)]
  refine ⟨ib_nI (by omega) (by omega), ib_nI (by omega) (by omega), ib_nI (by omega) (by omega), ib_nI (by omega) (by omega), ?_⟩
  have sw67 : ∀ (I : Nat → Nat → Int32) (a : Nat) (b : Nat) (c : Nat) (k : Nat), u2 (u2 I a b (I a c)) a c (I a b) a k = if k = c then I a b else if k = b then I a c else I a k := fun I a b c k => by
    by_cases e1 : k = c
    · subst e1; rw [u2_s, if_pos rfl]
    · rw [u2_k _ _ _ e1, if_neg e1]
      by_cases e2 : k = b
      · subst e2; rw [u2_s, if_pos rfl]
      · rw [u2_k _ _ _ e2, if_neg e2]
  generalize hD : ((u2 (u2 d.1 67 i (d.1 67 j)) 67 j (d.1 67 i), d.2) : Dm) = d1
  have hf1 : frc sMu d d1 := by
    rw [← hD]
    exact frc_I (fr_uI d 67 i _ (Or.inl (by omega))) 67 j _ (Or.inl (by omega))
  have s67 : ∀ k, k < n → d1.1 67 k = ac (sw2 i j k) 0 := fun k hk => by
    rw [← hD]
    show u2 (u2 d.1 67 i (d.1 67 j)) 67 j (d.1 67 i) 67 k = _
    rw [sw67]
    unfold sw2
    by_cases e1 : k = j
    · subst e1
      rw [if_pos rfl]
      by_cases e2 : k = i
      · subst e2; rw [if_pos rfl]; exact (hP.2.2.2 k hk).1
      · rw [if_neg e2, if_pos rfl]; exact (hP.2.2.2 i hi).1
    · rw [if_neg e1]
      by_cases e2 : k = i
      · subst e2; rw [if_pos rfl, if_pos rfl]; exact (hP.2.2.2 j hj).1
      · rw [if_neg e2, if_neg e2, if_neg e1]; exact (hP.2.2.2 k hk).1
  have e68 : ∀ k, d1.1 68 k = d.1 68 k := fun k => by
    rw [← hD]
    show u2 (u2 d.1 67 i (d.1 67 j)) 67 j (d.1 67 i) 68 k = _
    rw [u2_a _ (by omega), u2_a _ (by omega)]
  have e66 : ∀ k, d1.1 66 k = d.1 66 k := fun k => by
    rw [← hD]
    show u2 (u2 d.1 67 i (d.1 67 j)) 67 j (d.1 67 i) 66 k = _
    rw [u2_a _ (by omega), u2_a _ (by omega)]
  have e65 : d1.1 65 1 = nI n := by
    rw [← hD]
    show u2 (u2 d.1 67 i (d.1 67 j)) 67 j (d.1 67 i) 65 1 = _
    rw [u2_a _ (by omega), u2_a _ (by omega)]; exact hP.2.1
  unfold Mod_swap_60
  refine wp_up (fun m s dd => s = nI m ∧ frc sMu d dd ∧ dd.1 65 1 = nI n ∧ (∀ k, dd.1 66 k = d.1 66 k) ∧ (∀ k, k < n → dd.1 67 k = ac (sw2 i j k) 0) ∧ ∀ k, k < n → ∀ q, q < 4 → dd.1 68 (4 * k + q) = if q < m then ac (sw2 i j k) (q + 1) else ac k (q + 1)) 4 ?_ (i := 0) (by omega) ⟨rfl, hf1, e65, e66, s67, fun k hk q hq => ?_⟩
  · intro m s dd hm ⟨e1, hf, g1, g2, g3, g4⟩
    subst e1
    have r68 : dd.2.2 65 3 = 68 := (MRf_fr hR hf).2.2.1
    unfold Mod_swap_60_b
    by_cases hx : m = 4
    · subst hx
      rw [if_pos (by decide)]
      simp only [wp_mr, wp_mb, wp_pZ, wp_mp, zk, true_and]
      refine ⟨by simp, Or.inr ⟨i, j, hi, hj, rfl, rfl, ?_⟩⟩
      generalize hD2 : ((u2 dd.1 65 27 0, dd.2) : Dm) = d2
      have hf2 : frc sMu d d2 := by rw [← hD2]; exact frc_I hf 65 27 _ (Or.inr ⟨rfl, Or.inr rfl⟩)
      have hne : ∀ {x k}, ¬ (x = 65 ∧ k = 27) → d2.1 x k = dd.1 x k := fun {x k} q => by rw [← hD2]; exact if_neg q
      refine ⟨f65_M hf2, h.mut hf2 (by rw [← hD2]; rfl) ⟨⟨hn, hP.1.2.1, fun k hk => hP.1.2.2 _ (sw2_lt hi hj hk)⟩, (hne (by omega)).trans g1, fun s hs => (hne (by omega)).trans ((g2 s).trans (hP.2.2.1 s hs)), fun k hk => ⟨(hne (by omega)).trans (g3 k hk), fun q hq => ?_⟩⟩⟩
      rw [hne (by omega), g4 k hk q hq, if_pos hq]
    · rw [if_neg (show ¬ (4 : Int32) ≤ nI m from nI_ge (b := 4) (by omega) (by omega))]
      have ei : (4 : Int32) * nI i + nI m = nI (4 * i + m) := by rw [i4, nI_add]
      have ej : (4 : Int32) * nI j + nI m = nI (4 * j + m) := by rw [i4, nI_add]
      rw [ei, ej]
      simp only [wp_mb, wp_gR, wp_aI, wp_sI, wp_ml, wp_mp, zk, zl, true_and, r68, nI_clamp (show 4 * i + m < 2 ^ 31 by omega), nI_clamp (show 4 * j + m < 2 ^ 31 by omega), nI_1]
      refine ⟨ib_nI (by omega) (by omega), ib_nI (by omega) (by omega), ib_nI (by omega) (by omega), ib_nI (by omega) (by omega), by omega, frc_I (frc_I hf 68 _ _ (Or.inl (by omega))) 68 _ _ (Or.inl (by omega)), ?_, fun k => ?_, fun k hk => ?_, fun k hk q hq => ?_⟩
      · rw [u2_a _ (by omega), u2_a _ (by omega)]; exact g1
      · rw [u2_a _ (by omega), u2_a _ (by omega)]; exact g2 k
      · rw [u2_a _ (by omega), u2_a _ (by omega)]; exact g3 k hk
      · rw [sw67]
        by_cases hq2 : q = m
        · subst hq2
          rw [if_pos (show q < q + 1 by omega)]
          have gi := g4 i hi q hq
          have gj := g4 j hj q hq
          rw [if_neg (Nat.lt_irrefl q)] at gi gj
          unfold sw2
          by_cases e1 : k = j
          · subst e1
            rw [if_pos rfl, gi]
            by_cases e2 : k = i
            · subst e2; rw [if_pos rfl]
            · rw [if_neg e2, if_pos rfl]
          · rw [if_neg (by omega)]
            by_cases e2 : k = i
            · subst e2; rw [if_pos rfl, if_pos rfl, gj]
            · rw [if_neg (by omega), if_neg e2, if_neg e1, g4 k hk q hq, if_neg (Nat.lt_irrefl q)]
        · rw [if_neg (by omega), if_neg (by omega), g4 k hk q hq]
          by_cases hq3 : q < m
          · rw [if_pos hq3, if_pos (by omega)]
          · rw [if_neg hq3, if_neg (by omega)]
  · rw [if_neg (by omega), e68]
    exact (hP.2.2.2 k hk).2 q hq
def sPg (x j : Nat) : Prop := x = 69 ∨ (x = 65 ∧ j = 4)
theorem f65_g {d d' : Dm} (h : frc sPg d d') : frc s65 d d' := frc_w h fun x j hx q => hx (by unfold sPg at q; unfold s65; omega)
theorem MX.fg {d' : Dm} (h : MX r n ac f ev sv ns A d) (hf : frc sPg d d') : MX r n ac f ev sv ns A d' := by
  refine ⟨⟨MRf_fr h.1.1 hf, h.1.2.1.fr hf (by unfold sPg; omega) (fun j => by unfold sPg; omega) (fun j => by unfold sPg; omega) (fun j => by unfold sPg; omega), h.1.2.2.1.fr hf (by unfold sPg; omega) (fun j => by unfold sPg; omega) (fun j => by unfold sPg; omega) (fun j => by unfold sPg; omega), h.1.2.2.2.1.fr hf (by unfold sPg; omega) (fun j => by unfold sPg; omega) (fun j => by unfold sPg; omega), h.1.2.2.2.2⟩, ?_⟩
  rcases h.2 with h0 | ⟨h1, wa, wn, hT⟩
  · exact Or.inl ((hf.i (by unfold sPg; omega)).trans h0)
  · exact Or.inr ⟨(hf.i (by unfold sPg; omega)).trans h1, wa, wn, hT.fr hf (fun x j hx q => by unfold tbM at hx; unfold sPg at q; omega)⟩
theorem MJ.fg {d' : Dm} {t' : Nat → Nat} {pn' : Nat} (h : MJ r n ac f ev sv ns A t pn bc fc fd d) (hf : frc sPg d d') (hg : Mg t' pn' d') : MJ r n ac f ev sv ns A t' pn' bc fc fd d' := ⟨h.1.fg hf, hg, h.2.2.fr hf (fun j a b => by unfold sPg; omega)⟩
theorem blankM (h : MJ r n ac f ev sv ns A t pn bc fc fd d) : wp (Mod_blank 65) d (fun z d' => z = nI pn ∧ frc s65 d d' ∧ MJ r n ac f ev sv ns A t 0 bc fc fd d') := by
  unfold Mod_blank
  simp only [wp_mb, wp_gI, wp_pI, wp_mp, zk, true_and, h.2.1.2.1]
  have hf : frc sPg d (u2 d.1 65 4 0, d.2) := fr_uI d 65 4 _ (Or.inr ⟨rfl, rfl⟩)
  exact ⟨f65_g hf, h.fg hf ⟨by omega, u2_s d.1 65 4 0, fun i hi => by omega⟩⟩
theorem lettersM (h : MJ r n ac f ev sv ns A t pn bc fc fd d) {N : Nat} (hN : N < 2 ^ 64) : wp (Mod_letters 65 (lN N)) d (fun z d' => (ltr N 8 = none ∧ z = -102 ∧ d' = d) ∨ ∃ m, ltr N 8 = some m ∧ ((60 < pn + m ∧ z = -104 ∧ d' = d) ∨ (pn + m ≤ 60 ∧ z = nI (pn + m) ∧ frc s65 d d' ∧ MJ r n ac f ev sv ns A (addL t pn N) (pn + m) bc fc fd d'))) := by
  have hR := h.1.1.1
  have hg := h.2.1
  have hpn := hg.1
  unfold Mod_letters
  simp only [wp_ml]
  unfold Mod_letters_8
  refine wp_up (fun k s dd => (∃ m, ltr N k = some m ∧ s = (nI m, (if m = k then 0 else 1 : Int32), nI k)) ∧ dd = d) 8 ?_ (i := 0) (by omega) ⟨⟨0, rfl, rfl⟩, rfl⟩
  intro k s dd hk ⟨⟨m, hm, e1⟩, e2⟩
  subst e1; subst e2
  have hmk := (ltr_le hm).1
  unfold Mod_letters_8_b
  dsimp only
  by_cases h8 : k = 8
  · subst h8
    obtain ⟨l1, l2⟩ := ltr_le hm
    rw [if_pos (by decide)]
    simp only [wp_mr, wp_mb, wp_gI, zk, true_and, hg.2.1, nI_add]
    by_cases h6 : pn + m ≤ 60
    · rw [if_pos (show nI (pn + m) ≤ (60 : Int32) from nI_le (b := 60) h6 (by omega))]
      simp only [wp_ml]
      unfold Mod_letters_102
      refine wp_up (fun k s d1 => s = nI k ∧ frc sPg dd d1 ∧ d1.1 65 4 = nI pn ∧ ∀ i, i < pn + k → d1.1 69 i = nI (addL t pn N i) ∧ addL t pn N i < 128) m ?_ (i := 0) (by omega) ⟨rfl, frc_rf dd, hg.2.1, fun i hi => ?_⟩
      · intro k s d1 hk2 ⟨e1, hf, g1, g2⟩
        subst e1
        have r69 : d1.2.2 65 5 = 69 := (MRf_fr hR hf).2.2.2.1
        unfold Mod_letters_102_b
        by_cases hx : k = m
        · subst hx
          rw [if_pos (nI_le (Nat.le_refl _) (by omega))]
          have e4 : ∀ v, u2 d1.1 65 4 v 65 4 = v := fun v => u2_s _ _ _ _
          simp only [wp_mr, wp_mb, wp_gI, wp_pI, wp_mp, zk, true_and, g1, nI_add, e4]
          have hf2 : frc sPg dd (u2 d1.1 65 4 (nI (pn + k)), d1.2) := frc_I hf 65 4 _ (Or.inr ⟨rfl, rfl⟩)
          refine Or.inr ⟨k, hm, Or.inr ⟨h6, rfl, f65_g hf2, h.fg hf2 ⟨h6, e4 _, fun i hi => ?_⟩⟩⟩
          show u2 d1.1 65 4 (nI (pn + k)) 69 i = _ ∧ _
          rw [u2_a _ (by omega)]
          exact g2 i hi
        · rw [if_neg (nI_ge (by omega) (by omega))]
          have hlk := l2 k (by omega)
          simp only [wp_mb, wp_gI, wp_gR, wp_sB, wp_ml, wp_mp, zk, zl, true_and, r69, g1, nI_add, nI_clamp (show pn + k < 2 ^ 31 by omega), sar_byte hN (show k < 8 by omega) hlk, nI_1]
          refine ⟨ib_nI (by omega) (by omega), by omega, frc_I hf 69 _ _ (Or.inl rfl), ?_, fun i hi => ?_⟩
          · rw [u2_a _ (by omega)]; exact g1
          · by_cases hi2 : i = pn + k
            · rw [hi2, u2_s]
              unfold addL
              rw [if_neg (by omega), show pn + k - pn = k by omega]
              exact ⟨rfl, by omega⟩
            · rw [u2_k _ _ _ hi2]
              exact g2 i (by omega)
      · have := hg.2.2 i (by omega)
        unfold addL
        rw [if_pos (by omega)]
        exact this
    · rw [if_neg (show ¬ nI (pn + m) ≤ (60 : Int32) from nI_ge (a := 60) (by omega) (by omega)), wp_mp]
      exact Or.inr ⟨m, hm, Or.inl ⟨by omega, rfl, rfl⟩⟩
  · rw [if_neg (show ¬ (8 : Int32) ≤ nI k from nI_ge (b := 8) (by omega) (by omega))]
    have hdl : dg 256 N k < 256 := Nat.mod_lt _ (by omega)
    simp only [wp_ml, sar_low hN (show k < 8 by omega), lN_i]
    have stop : ltr N (k + 1) = none → wp (mr (α := Int32 × Int32 × Int32) (mp (-102 : Int32))) dd (fun r' d' => match r' with
        | .inl a' => k < 8 ∧ (∃ m, ltr N (k + 1) = some m ∧ a' = (nI m, (if m = k + 1 then 0 else 1 : Int32), nI (k + 1))) ∧ d' = dd
        | .inr z => (ltr N 8 = none ∧ z = -102 ∧ d' = dd) ∨ ∃ m, ltr N 8 = some m ∧ ((60 < pn + m ∧ z = -104 ∧ d' = dd) ∨ (pn + m ≤ 60 ∧ z = nI (pn + m) ∧ frc s65 dd d' ∧ MJ r n ac f ev sv ns A (addL t pn N) (pn + m) bc fc fd d'))) := by
      intro hn
      simp only [wp_mr, wp_mp]
      have := ltr_no hn (8 - (k + 1))
      rw [show k + 1 + (8 - (k + 1)) = 8 by omega] at this
      exact Or.inl ⟨this, trivial, trivial⟩
    by_cases h1 : 126 < dg 256 N k
    · rw [if_pos (show (126 : Int32) < nI (dg 256 N k) from nI_lt (a := 126) h1 (by omega))]
      exact wp_mono (stop (by simp [ltr, hm, h1])) (fun r d' h => by cases r <;> exact h)
    · rw [if_neg (show ¬ (126 : Int32) < nI (dg 256 N k) from nI_nlt (a := 126) (by omega) (by omega))]
      have a0 : nI m + (0 : Int32) = nI m := nI_add m 0
      by_cases h2 : dg 256 N k = 0
      · have hz : nI (dg 256 N k) = 0 := by rw [h2]; rfl
        have hl : ltr N (k + 1) = some m := by simp [ltr, hm, h2]
        have go : wp (Mod_letters_59 65 (lN N) (nI m) (nI k) (nI (dg 256 N k))) dd (fun r' d' => match r' with
            | .inl a' => k < 8 ∧ (∃ m, ltr N (k + 1) = some m ∧ a' = (nI m, (if m = k + 1 then 0 else 1 : Int32), nI (k + 1))) ∧ d' = dd
            | .inr z => (ltr N 8 = none ∧ z = -102 ∧ d' = dd) ∨ ∃ m, ltr N 8 = some m ∧ ((60 < pn + m ∧ z = -104 ∧ d' = dd) ∨ (pn + m ≤ 60 ∧ z = nI (pn + m) ∧ frc s65 dd d' ∧ MJ r n ac f ev sv ns A (addL t pn N) (pn + m) bc fc fd d'))) := by
          unfold Mod_letters_59 Mod_letters_64 Mod_letters_77
          rw [if_pos hz]
          simp only [wp_ml, wp_mp, nI_1, a0]
          exact ⟨by omega, ⟨m, hl, by rw [if_neg (by omega)]⟩, trivial⟩
        unfold Mod_letters_49
        rw [if_pos hz, if_pos hz]
        refine wp_if (fun _ => wp_if (fun _ => ?_) (fun _ => ?_)) (fun _ => wp_if (fun _ => ?_) (fun _ => ?_)) <;> exact wp_mono go (fun r d' h => by cases r <;> exact h)
      · have hnz : ¬ nI (dg 256 N k) = 0 := nI_ne0 (by omega) (by omega)
        by_cases h3 : m = k
        · have hl : ltr N (k + 1) = some (m + 1) := by simp [ltr, hm, h1, h2, show k ≤ m by omega]
          rw [if_pos h3, if_pos rfl]
          unfold Mod_letters_49 Mod_letters_64 Mod_letters_77
          rw [if_pos rfl, if_neg hnz, if_neg hnz]
          simp only [wp_ml, wp_mp, nI_1]
          exact ⟨by omega, ⟨m + 1, hl, by rw [if_pos (by omega)]⟩, trivial⟩
        · rw [if_neg h3, if_neg (by decide), if_neg hnz]
          exact wp_mono (stop (by simp [ltr, hm, h1, h2, show ¬ k ≤ m by omega])) (fun r d' h => by cases r <;> exact h)
end
