/-! ===== pure: all sets that may have reached, by the reference ===== -/
def sSt (x j : Nat) : Prop := x = 87 ∨ (x = 65 ∧ j = 40)
def sFs (x j : Nat) : Prop := sSt x j ∨ sEp x j
theorem sFs_no {x j : Nat} (h : x ≠ 86 ∧ x ≠ 87 ∧ ¬ (x = 65 ∧ (j = 37 ∨ j = 38 ∨ j = 40))) : ¬ sFs x j := by
  unfold sFs sSt sEp
  omega
section
variable {r n : Nat} {ac : Nat → Ac} {f : Pl} {d : Dm}
theorem sub_loop (hR : MRf d.2.2) {F Bs sm e ah ep : Nat} (hF : F < 4096) (hs : sm + 2 ^ pcn F 12 ≤ 8192) (h40 : d.1 65 40 = nI sm) (he : e < 26) (h86 : d.1 86 e = nI ep) : wp (Mod_findSets_55 65 (nI ah) (nI e) (nI F) (nI Bs) (nI F, 1)) d (fun z d' => z = .inl (nI (ah ||| ep), nI (e + 1)) ∧ frc sSt d d' ∧ d'.1 65 40 = nI (sm + 2 ^ pcn F 12) ∧ (∀ i, i < sm → d'.1 87 i = d.1 87 i) ∧ ∀ i, i < 2 ^ pcn F 12 → d'.1 87 (sm + i) = nI (Bs ||| dep 12 F (2 ^ pcn F 12 - 1 - i))) := by
  have hpos : 0 < 2 ^ pcn F 12 := Nat.two_pow_pos _
  generalize hM : 2 ^ pcn F 12 = M at *
  unfold Mod_findSets_55
  refine wp_up (fun j (s : Int32 × Int32) dd => frc sSt d dd ∧ dd.1 65 40 = nI (sm + j) ∧ (∀ i, i < sm → dd.1 87 i = d.1 87 i) ∧ (∀ i, i < j → dd.1 87 (sm + i) = nI (Bs ||| dep 12 F (M - 1 - i))) ∧ ((j < M ∧ s = (nI (dep 12 F (M - 1 - j)), 1)) ∨ (j = M ∧ s.2 = 0))) M ?_ (i := 0) (by omega) ⟨frc_rf d, h40, fun _ _ => rfl, fun i hi => by omega, Or.inl ⟨hpos, ?_⟩⟩
  · intro j ⟨s1, s2⟩ dd hj ⟨hf, g1, g2, g3, g4⟩
    have hR2 := MRf_fr hR hf
    have r86 : dd.2.2 65 36 = 86 := hR2.2.2.2.2.2.2.2.2.2.2.2.2.2.2.2.2.2.2.2.2.1
    have r87 : dd.2.2 65 39 = 87 := hR2.2.2.2.2.2.2.2.2.2.2.2.2.2.2.2.2.2.2.2.2.2.1
    unfold Mod_findSets_55_b
    dsimp only at g4 ⊢
    rcases g4 with ⟨g4, g5⟩ | ⟨g4, g5⟩
    · obtain ⟨rfl, rfl⟩ := Prod.mk.inj g5
      rw [if_neg (by decide)]
      have e40 : ∀ v, u2 dd.1 87 (sm + j) v 65 40 = nI (sm + j) := fun v => by rw [u2_a _ (by omega)]; exact g1
      unfold Mod_findSets_94
      simp only [wp_mb, wp_gR, wp_gI, wp_sI, wp_pI, wp_ml, wp_mp, zk, zl, true_and, r87, g1, nI_clamp (show sm + j < 2 ^ 31 by omega), e40, fa_or, nI_1]
      refine ⟨ib_nI (by omega) (by omega), by omega, frc_I (frc_I hf 87 _ _ (Or.inl rfl)) 65 40 _ (Or.inr ⟨rfl, rfl⟩), ?_, fun i hi => ?_, fun i hi => ?_, ?_⟩
      · rw [u2_s, Nat.add_assoc]
      · rw [u2_a _ (by omega), u2_k _ _ _ (by omega)]; exact g2 i hi
      · rw [u2_a _ (by omega)]
        by_cases hx : i = j
        · rw [hx, u2_s]
        · rw [u2_k _ _ _ (by omega)]; exact g3 i (by omega)
      · have hdl : dep 12 F (M - 1 - j) < 4096 := by
          rw [← dep_and]
          exact Nat.lt_of_le_of_lt Nat.and_le_right hF
        by_cases hl : j + 1 = M
        · right
          refine ⟨hl, ?_⟩
          rw [show M - 1 - j = 0 by omega, dep_0]
          rfl
        · left
          have hp := dep_pos 12 F (M - 1 - j) (by omega) (by rw [hM]; omega)
          refine ⟨by omega, ?_⟩
          rw [if_neg (nI_ne0 hp (by omega)), show (1 : Int32) = nI 1 from rfl, pk_sub (by omega), fa_and]
          have := dep_prv 12 F (M - 1 - (j + 1)) (by rw [show M - 1 - (j + 1) + 1 = M - 1 - j by omega]; exact hp)
          rw [show M - 1 - (j + 1) + 1 = M - 1 - j by omega] at this
          rw [this]
    · subst g4; subst g5
      rw [if_pos rfl]
      have e86 : dd.1 86 e = nI ep := (hf.i (by unfold sSt; omega)).trans h86
      simp only [wp_mr, wp_mb, wp_gR, wp_aI, wp_ml, wp_mp, zk, zl, true_and, r86, nI_clamp (show e < 2 ^ 31 by omega), e86, fa_or, nI_1]
      exact ⟨ib_nI (by omega) (by omega), hf, g1, g2, g3⟩
  · rw [← hM, Nat.sub_zero, dep_top 12 F hF]
/-- sets as they stand in the reference's list -/
def FSm (wa : Nat → Nat) (wn : Nat) (P : Nat → Prop) (sm : Nat) (C : Nat → Nat) (d : Dm) : Prop := d.1 65 40 = nI sm ∧ (1 ≤ sm ∧ sm ≤ 8192) ∧ (∀ i, i < sm → d.1 87 i = nI (C i) ∧ C i < 2 ^ wn ∧ P (aW wa (C i) wn)) ∧ ∀ T, P T → ∃ i, i < sm ∧ aW wa (C i) wn = T
theorem findSets_eq (hR : MRf d.2.2) (hP : MP r n ac f d) {wa : Nat → Nat} {wn : Nat} (hT : WT ac n wa wn d) {W ab : Nat} (hW : ∀ i, i < n → W.testBit i = (isw (ac i) && !ab.testBit i)) (hab : ab < 2 ^ 31) (habw : ∀ i, i < n → ab.testBit i = true → isw (ac i) = true) {pt : Nat → Nat} (hpt : ∀ i, i < 12 → d.1 85 i = nI (pt i) ∧ pt i ≤ 2) {k : Nat} (hk : k ≤ n) : wp (Mod_findSets 65 (nI k) (nI ab)) d (fun _ d' => frc sFs d d' ∧ ∃ sm C, FSm wa wn (hS ac W pt k).2.1 sm C d') := by
  have hn := hP.1.1
  have hA := hT.2.2
  have hwn := hA.le
  unfold Mod_findSets
  simp only [wp_mb, wp_vc, zk, true_and]
  refine wp_mono (cutE_eq hR hP hA hW hab habw hpt hk) (fun _ d1 ⟨hf1, q, E, rc, hEM, hRE, hEB⟩ => ?_)
  obtain ⟨b1, b2, b3, b4, b5⟩ := hEB
  have h2k : 2 ^ k ≤ 4096 := p31 (by omega)
  simp only [wp_pI, wp_gI, wp_ml, zk, true_and]
  have e38 : u2 d1.1 65 40 0 65 38 = nI rc := by rw [u2_k _ _ _ (by omega)]; exact hEM.2.1
  rw [e38]
  have hsl : ∀ {S}, sub S (wm ac n) → S < 4096 := fun h => Nat.lt_of_lt_of_le (sub_lt h (wm_lt ac n)) (p31 hn)
  have hpre : ∀ e, e ≤ q + 1 → sub (prE rc E e) (wm ac n) := fun e he => prE_sub (fun j hj => b2 j (by omega)) b3
  have hcl : ∀ S, cW wa S wn < 4096 := fun S => Nat.lt_of_lt_of_le (cW_lt wa S wn) (p31 (by omega))
  have hcm : ∀ e, e ≤ q + 1 → cN wa wn E e ≤ cN wa wn E (q + 1) := by
    intro e he
    obtain ⟨j, hj⟩ : ∃ j, q + 1 = e + j := ⟨q + 1 - e, by omega⟩
    rw [hj]
    clear hj he
    induction j with
    | zero => exact Nat.le_refl _
    | succ j ih => exact Nat.le_trans ih (Nat.le_add_right _ _)
  unfold Mod_findSets_19
  have hf10 : frc sFs d (u2 d1.1 65 40 0, d1.2) := frc_I (frc_w hf1 fun _ _ h q => h (Or.inr q)) 65 40 0 (Or.inl (Or.inr ⟨rfl, rfl⟩))
  refine wp_up (fun e s dd => s = (nI (prE rc E e), nI e) ∧ frc sFs d dd ∧ EM q E rc dd ∧ dd.1 65 40 = nI (cN wa wn E e) ∧ ∃ C : Nat → Nat, (∀ i, i < cN wa wn E e → dd.1 87 i = nI (C i) ∧ ∃ e', e' < e ∧ ∃ D, sub D (cW wa (E e') wn) ∧ C i = cW wa (prE rc E e') wn ||| D) ∧ ∀ e', e' < e → ∀ D, sub D (cW wa (E e') wn) → ∃ i, i < cN wa wn E e ∧ C i = cW wa (prE rc E e') wn ||| D) (q + 1) ?_ (i := 0) (by omega) ⟨rfl, hf10, ⟨?_, e38, fun e he => ?_⟩, u2_s d1.1 65 40 0, fun _ => 0, fun i hi => by simp [cN] at hi, fun e' he' => by omega⟩
  · intro e s dd he ⟨e1, hf, hE2, h40, C, hC1, hC2⟩
    subst e1
    have hR2 := MRf_fr hR hf
    have hT2 : WT ac n wa wn dd := ⟨(hf.i (sFs_no (by omega))).trans hT.1, fun v hv => (hf.i (sFs_no (by omega))).trans (hT.2.1 v hv), hA⟩
    have r86 : dd.2.2 65 36 = 86 := hR2.2.2.2.2.2.2.2.2.2.2.2.2.2.2.2.2.2.2.2.2.1
    unfold Mod_findSets_19_b
    dsimp only
    simp only [wp_mb, wp_gI, zk, true_and, hE2.1]
    by_cases hx : e = q + 1
    · subst hx
      rw [if_pos (nI_le (Nat.le_refl _) (by omega))]
      simp only [wp_mr, wp_mp]
      refine ⟨hf, cN wa wn E (q + 1), C, h40, ⟨?_, by omega⟩, fun i hi => ?_, fun T hTp => ?_⟩
      · show 1 ≤ cN wa wn E q + 2 ^ pcn (cW wa (E q) wn) 12
        have := Nat.two_pow_pos (pcn (cW wa (E q) wn) 12)
        omega
      · obtain ⟨c1, e', c2, D, c3, c4⟩ := hC1 i hi
        refine ⟨c1, ?_, (hRE.2.2.1 _).mpr ⟨e', by omega, aW wa D wn, ?_, ?_⟩⟩
        · rw [c4]
          exact Nat.or_lt_two_pow (cW_lt _ _ _) (sub_lt c3 (cW_lt _ _ _))
        · have := aW_mono (wa := wa) (w := wn) c3
          rw [aW_cW hA (b2 e' (by omega))] at this
          exact this
        · rw [c4, aW_or, aW_cW hA (hpre e' (by omega))]
      · obtain ⟨e', c2, U, c3, c4⟩ := (hRE.2.2.1 T).mp hTp
        obtain ⟨i, c5, c6⟩ := hC2 e' (by omega) (cW wa U wn) (cW_mono c3)
        refine ⟨i, c5, ?_⟩
        rw [c6, aW_or, aW_cW hA (hpre e' (by omega)), aW_cW hA (sub_tr c3 (b2 e' (by omega))), c4]
    · rw [if_neg (nI_ge (by omega) (by omega))]
      have hEl := hsl (b2 e (by omega))
      have hpl := hsl (hpre e (by omega))
      have hsize : cN wa wn E e + 2 ^ pcn (cW wa (E e) wn) 12 = cN wa wn E (e + 1) := rfl
      have hcm1 := hcm (e + 1) (by omega)
      have hp2 := Nat.two_pow_pos (pcn (cW wa (E e) wn) 12)
      simp only [wp_mb, wp_gR, wp_aI, wp_vc, wp_ml, zk, zl, true_and, r86, nI_clamp (show e < 2 ^ 31 by omega), hE2.2.2 e (by omega), wp_eq (asCode_eq hR2 hT2 hn (show E e < 2 ^ 31 by omega)), wp_eq (asCode_eq hR2 hT2 hn (show prE rc E e < 2 ^ 31 by omega))]
      refine ⟨ib_nI (by omega) (by omega), ?_⟩
      refine wp_mono (sub_loop hR2 (hcl (E e)) (by omega) h40 (by omega) (hE2.2.2 e (by omega))) (fun z d2 ⟨g1, g2, g3, g4, g5⟩ => ?_)
      subst g1
      have hf2 : frc sFs d d2 := frc_t hf (frc_w g2 fun _ _ h q => h (Or.inl q))
      refine ⟨by omega, rfl, hf2, ⟨(g2.i (by unfold sSt; omega)).trans hE2.1, (g2.i (by unfold sSt; omega)).trans hE2.2.1, fun e2 he2 => (g2.i (by unfold sSt; omega)).trans (hE2.2.2 e2 he2)⟩, g3, fun i => if i < cN wa wn E e then C i else cW wa (prE rc E e) wn ||| dep 12 (cW wa (E e) wn) (2 ^ pcn (cW wa (E e) wn) 12 - 1 - (i - cN wa wn E e)), fun i hi => ?_, fun e' he' D hD => ?_⟩
      · dsimp only
        by_cases hlt : i < cN wa wn E e
        · obtain ⟨c1, e', c2, c3⟩ := hC1 i hlt
          rw [if_pos hlt]
          exact ⟨(g4 i hlt).trans c1, e', by omega, c3⟩
        · rw [if_neg hlt]
          have := g5 (i - cN wa wn E e) (by omega)
          rw [show cN wa wn E e + (i - cN wa wn E e) = i by omega] at this
          exact ⟨this, e, by omega, _, sub_and.mpr (dep_and 12 _ _), rfl⟩
      · by_cases heq : e' = e
        · subst heq
          obtain ⟨m, m1, m2⟩ := dep_onto 12 (cW wa (E e') wn) D (hcl _) (sub_and.mp hD)
          refine ⟨cN wa wn E e' + (2 ^ pcn (cW wa (E e') wn) 12 - 1 - m), by omega, ?_⟩
          dsimp only
          rw [if_neg (by omega), show 2 ^ pcn (cW wa (E e') wn) 12 - 1 - (cN wa wn E e' + (2 ^ pcn (cW wa (E e') wn) 12 - 1 - m) - cN wa wn E e') = m by omega, m2]
        · obtain ⟨i, c1, c2⟩ := hC2 e' (by omega) D hD
          refine ⟨i, by omega, ?_⟩
          dsimp only
          rw [if_pos c1, c2]
  · show u2 d1.1 65 40 0 65 37 = _
    rw [u2_k _ _ _ (by omega)]; exact hEM.1
  · show u2 d1.1 65 40 0 86 e = _
    rw [u2_a _ (by omega)]; exact hEM.2.2 e he
theorem putNo_eq (hR : MRf d.2.2) : wp (Mod_putNothing 65) d (fun _ d' => frc (fun x _ => x = 85) d d' ∧ ∀ i, i < 12 → d'.1 85 i = nI 0) := by
  unfold Mod_putNothing
  simp only [wp_ml]
  unfold Mod_putNothing_2
  refine wp_up (fun k s dd => s = nI k ∧ frc (fun x _ => x = 85) d dd ∧ ∀ i, i < k → dd.1 85 i = nI 0) 12 ?_ (i := 0) (by omega) ⟨rfl, frc_rf d, fun i hi => by omega⟩
  intro k s dd hk ⟨e1, hf, h1⟩
  subst e1
  have hR2 := MRf_fr hR hf
  have r85 : dd.2.2 65 35 = 85 := hR2.2.2.2.2.2.2.2.2.2.2.2.2.2.2.2.2.2.2.2.1
  unfold Mod_putNothing_2_b
  by_cases hx : k = 12
  · subst hx
    rw [if_pos (by decide)]
    simp only [wp_mr, wp_mp]
    exact ⟨hf, h1⟩
  · rw [if_neg (show ¬ (12 : Int32) ≤ nI k from nI_ge (b := 12) (by omega) (by omega))]
    simp only [wp_mb, wp_gR, wp_sI, wp_ml, wp_mp, zk, zl, true_and, r85, nI_clamp (show k < 2 ^ 31 by omega), nI_1]
    refine ⟨ib_nI (by omega) (by omega), by omega, frc_I hf 85 k 0 rfl, fun i hi => ?_⟩
    by_cases hik : i = k
    · rw [hik, u2_s]; rfl
    · rw [u2_k _ _ _ hik]; exact h1 i (by omega)
end
