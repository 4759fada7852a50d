/-! ===== pure: the class tells whether a placement is safe ===== -/
section
variable {r n ns st A : Nat} {ac : Nat → Ac} {f : Pl} {ev : Nat → Pl → Bool} {sv : Nat → Pl → Pl} {d : Dm}
def SfA (ac : Nat → Ac) (V : Nat → Nat) (A W : Nat) (pt : Nat → Nat) (k : Nat) : Prop := ∀ T, (hS ac W pt k).2.1 T → V T &&& due ac A k = 0
theorem csafe_eq (h : CX r n ac f ev sv ns st A d) (hn : n ≤ 8) (hW : WKp r n ac f ev sv ns (n + 1) d) {pt : Nat → Nat} (hp : ∀ i, i < 8 → d.1 63 i = nI (pt i) ∧ pt i ≤ 2) (h3 : d.1 61 3 = nI (n - 1)) : wp (Plac_isSafe 61 3 (nI A)) d (fun z d' => d' = d ∧ ((z = 1 ∧ SafeG ac (vdS ac f n ev r sv ns) A (wm ac n) pt n) ∨ (z = 0 ∧ ¬ SafeG ac (vdS ac f n ev r sv ns) A (wm ac n) pt n))) := by
  have hR : Rf d.2.2 := h.1.1.2.2.2.2
  have hr := h.1.2.1.1
  have hA := h.2.1.2
  have e31 := h.1.1.2.1
  have hdl : ∀ k, k ≤ n → due ac A k < 128 := fun k hk => by
    have h1 := tl_lt h.1.1.1.2.2 hr k hk
    have h2 : 2 ^ r ≤ 2 ^ 7 := Nat.pow_le_pow_right (by omega) (by omega)
    unfold due
    exact Nat.or_lt_two_pow (n := 7) (Nat.or_lt_two_pow (by omega) (by omega)) (by omega)
  generalize hVV : vdS ac f n ev r sv ns = V at *
  have hz : ∀ X k, k ≤ n → (nI (X &&& due ac A k) = 0 ↔ X &&& due ac A k = 0) := fun X k hk => by
    have h1 : X &&& due ac A k ≤ due ac A k := Nat.and_le_right
    have h2 := hdl k hk
    constructor
    · intro q
      exact (nI_eq (b := 0) (by omega) (by omega)).mp q
    · intro q; rw [q]; rfl
  have w62 : ∀ a k, a ≤ k → k ≤ n → d.1 62 (9 * a + k) = nI (tB V ac a (k - a)) := fun a k h1 h2 => by
    have := hW a k (by omega) h1 h2
    rw [hVV] at this
    exact this
  unfold Plac_isSafe
  have e0 : nI A ||| (64 : Int32) = nI (due ac A 0) := by
    rw [show (64 : Int32) = nI 64 from rfl, fa_or]
    unfold due
    simp only [tl]
    rw [Nat.or_zero]
  have w00 : d.1 62 0 = nI (tB V ac 0 0) := w62 0 0 (Nat.le_refl _) (Nat.zero_le _)
  have c0 : (0 : Int32).toNatClampNeg = 0 := by decide
  rw [e0]
  simp only [wp_ml, wp_mb, wp_gR, wp_aI, zk, zl, true_and, hR.1, c0, w00, fa_and]
  refine ⟨⟨by decide, by decide⟩, ?_⟩
  unfold Plac_isSafe_27
  rw [wp_ml]
  unfold Plac_isSafe_32
  have g0 : GI V ac (gS ac (wm ac n) pt 0) 0 0 0 := GI_0 _
  have sf0 : SfA ac V A (wm ac n) pt 0 ↔ tB V ac 0 0 &&& due ac A 0 = 0 := by
    have := GI_safe (V := V) (ac := ac) (s := hS ac (wm ac n) pt 0) (k := 0) (a := 0) (o := 0) (GI_0 _) (by omega) (D := due ac A 0)
    rw [Nat.zero_or] at this
    exact this
  refine wp_up (fun i s dd => dd = d ∧ ∃ a o, ∃ fl : Bool, s = (nI (due ac A i), nI o, nI a, bI fl, nI i) ∧ GI V ac (gS ac (wm ac n) pt i) i a o ∧ (fl = true ↔ ∀ k, k ≤ i → SfA ac V A (wm ac n) pt k)) n ?_ (i := 0) (Nat.zero_le _) ⟨rfl, 0, 0, decide (tB V ac 0 0 &&& due ac A 0 = 0), ?_, g0, ?_⟩
  · intro i s dd hi ⟨e1, a, o, fl, e2, hG, hfl⟩
    subst e1; subst e2
    unfold Plac_isSafe_32_b
    dsimp only
    simp only [wp_mb, wp_gI, zk, true_and, h3]
    have out : (fl = false ∨ i = n) → wp (mr (α := Int32 × Int32 × Int32 × Int32 × Int32) (mz (bI fl))) dd (fun z d' => match z with
        | .inl s' => i < n ∧ d' = dd ∧ ∃ a o, ∃ fl : Bool, s' = (nI (due ac A (i + 1)), nI o, nI a, bI fl, nI (i + 1)) ∧ GI V ac (gS ac (wm ac n) pt (i + 1)) (i + 1) a o ∧ (fl = true ↔ ∀ k, k ≤ i + 1 → SfA ac V A (wm ac n) pt k)
        | .inr z => d' = dd ∧ ((z = 1 ∧ SafeG ac V A (wm ac n) pt n) ∨ (z = 0 ∧ ¬ SafeG ac V A (wm ac n) pt n))) := by
      intro hh
      rw [wp_mr, wp_mz]
      cases fl with
      | true =>
        have : i = n := hh.resolve_left (by decide)
        subst this
        exact ⟨Or.inr rfl, rfl, Or.inl ⟨rfl, fun k hk => hfl.mp rfl k hk⟩⟩
      | false =>
        refine ⟨Or.inl rfl, rfl, Or.inr ⟨rfl, fun hs => ?_⟩⟩
        have := hfl.mpr (fun k hk => hs k (by omega))
        cases this
    refine wp_if (fun hx => ?_) (fun hx => ?_)
    · have := (nI_ltI (a := n - 1) (b := i) (by omega) (by omega)).mp hx
      exact wp_mono (out (Or.inr (by omega))) (fun z d' hh => by cases z <;> exact hh)
    simp only [wp_mb, wp_gI, zk, true_and, e31]
    refine wp_if (fun hx2 => ?_) (fun hx2 => ?_)
    · have := (nI_leI (a := n) (b := i) (by omega) (by omega)).mp hx2
      exact wp_mono (out (Or.inr (by omega))) (fun z d' hh => by cases z <;> exact hh)
    have hin : i < n := by
      refine Classical.byContradiction fun q => hx2 ((nI_leI (by omega) (by omega)).mpr (by omega))
    cases hfl0 : fl with
    | false =>
      rw [if_pos (by decide)]
      rw [hfl0] at out
      exact wp_mono (out (Or.inl rfl)) (fun z d' hh => by cases z <;> exact hh)
    | true =>
      rw [if_neg (by decide)]
      have hall : ∀ k, k ≤ i → SfA ac V A (wm ac n) pt k := hfl.mp hfl0
      obtain ⟨c1, c2, c3, c4, c5⟩ := h.1.1.at hin
      have hac := h.1.1.2.2.2.1 i hin
      have hok := h.1.1.1.2.2 i hin
      obtain ⟨p63, p2⟩ := hp i (by omega)
      have after : ∀ a' o', GI V ac (hS ac (wm ac n) pt (i + 1)) (i + 1) a' o' → wp (Plac_isSafe_109 61 3 (nI (due ac A i)) (nI o') (nI a') (nI i) (dd.2.2 4 i)) dd (fun z d' => match z with
          | .inl s' => i < n ∧ d' = dd ∧ ∃ a o, ∃ fl : Bool, s' = (nI (due ac A (i + 1)), nI o, nI a, bI fl, nI (i + 1)) ∧ GI V ac (gS ac (wm ac n) pt (i + 1)) (i + 1) a o ∧ (fl = true ↔ ∀ k, k ≤ i + 1 → SfA ac V A (wm ac n) pt k)
          | .inr z => d' = dd ∧ ((z = 1 ∧ SafeG ac V A (wm ac n) pt n) ∨ (z = 0 ∧ ¬ SafeG ac V A (wm ac n) pt n))) := by
        intro a' o' hG'
        have ha' := hG'.2.1
        have x62 := w62 a' (i + 1) ha' (by omega)
        have hsf := GI_safe hG' (by omega) (D := due ac A (i + 1))
        have rest : ∀ u : Nat, due ac A i ||| u = due ac A (i + 1) → wp (Plac_isSafe_130 61 3 (nI o') (nI a') (nI i) (nI (due ac A i)) (nI u)) dd (fun z d' => match z with
            | .inl s' => i < n ∧ d' = dd ∧ ∃ a o, ∃ fl : Bool, s' = (nI (due ac A (i + 1)), nI o, nI a, bI fl, nI (i + 1)) ∧ GI V ac (gS ac (wm ac n) pt (i + 1)) (i + 1) a o ∧ (fl = true ↔ ∀ k, k ≤ i + 1 → SfA ac V A (wm ac n) pt k)
            | .inr z => d' = dd ∧ ((z = 1 ∧ SafeG ac V A (wm ac n) pt n) ∨ (z = 0 ∧ ¬ SafeG ac V A (wm ac n) pt n))) := by
          intro u hu
          unfold Plac_isSafe_130
          simp only [wp_ml, wp_mb, wp_gR, wp_aI, zk, zl, true_and, hR.1, fa_or, fa_and, hu, i9, nI_1, nI_clamp (show 9 * a' + i + 1 < 2 ^ 31 by omega)]
          refine ⟨ib_nI (by omega) (by omega), ?_⟩
          rw [show 9 * a' + i + 1 = 9 * a' + (i + 1) by omega, x62, fa_or, fa_and]
          have ebi : (if nI ((o' ||| tB V ac a' (i + 1 - a')) &&& due ac A (i + 1)) = 0 then (1 : Int32) else 0) = bI (decide ((o' ||| tB V ac a' (i + 1 - a')) &&& due ac A (i + 1) = 0)) := by
            by_cases q : (o' ||| tB V ac a' (i + 1 - a')) &&& due ac A (i + 1) = 0
            · rw [if_pos ((hz _ _ (by omega)).mpr q), decide_eq_true q]; rfl
            · rw [if_neg (fun w => q ((hz _ _ (by omega)).mp w)), decide_eq_false q]; rfl
          rw [ebi]
          have hfl2 : decide ((o' ||| tB V ac a' (i + 1 - a')) &&& due ac A (i + 1) = 0) = true ↔ ∀ k, k ≤ i + 1 → SfA ac V A (wm ac n) pt k := by
            rw [decide_eq_true_eq, ← hsf]
            constructor
            · intro q k hk
              by_cases hk2 : k = i + 1
              · rw [hk2]; exact q
              · exact hall k (by omega)
            · intro q; exact q (i + 1) (Nat.le_refl _)
          generalize decide ((o' ||| tB V ac a' (i + 1 - a')) &&& due ac A (i + 1) = 0) = fl2 at hfl2
          have last : ∀ a2 o2, GI V ac (gS ac (wm ac n) pt (i + 1)) (i + 1) a2 o2 → wp (Plac_isSafe_213 61 3 (nI (due ac A (i + 1))) (nI o2) (nI a2) (bI fl2) (nI i)) dd (fun z d' => match z with
              | .inl s' => i < n ∧ d' = dd ∧ ∃ a o, ∃ fl : Bool, s' = (nI (due ac A (i + 1)), nI o, nI a, bI fl, nI (i + 1)) ∧ GI V ac (gS ac (wm ac n) pt (i + 1)) (i + 1) a o ∧ (fl = true ↔ ∀ k, k ≤ i + 1 → SfA ac V A (wm ac n) pt k)
              | .inr z => d' = dd ∧ ((z = 1 ∧ SafeG ac V A (wm ac n) pt n) ∨ (z = 0 ∧ ¬ SafeG ac V A (wm ac n) pt n))) := by
            intro a2 o2 hG2
            unfold Plac_isSafe_213
            simp only [wp_ml, wp_mp, nI_1]
            exact ⟨hin, trivial, a2, o2, fl2, rfl, hG2, hfl2⟩
          unfold Plac_isSafe_160
          simp only [wp_mb, wp_gR, wp_aI, zk, zl, true_and, hR.1, nI_clamp (show i < 2 ^ 31 by omega), p63]
          refine ⟨ib_nI (by omega) (by omega), ?_⟩
          have hgs : gS ac (wm ac n) pt (i + 1) = mkS (pt i) (hS ac (wm ac n) pt (i + 1)) := rfl
          rcases (show pt i = 0 ∨ pt i = 1 ∨ pt i = 2 by omega) with q | q | q
          · rw [q, if_pos (show nI 0 = (0 : Int32) from rfl)]
            exact wp_mono (last a' o' (by rw [hgs, q, mkS_0]; exact hG')) (fun z d' hh => by cases z <;> exact hh)
          · rw [q, if_neg (show ¬ nI 1 = (0 : Int32) by decide)]
            simp only [wp_mb, wp_gR, wp_aI, zk, zl, true_and, hR.1, nI_clamp (show i < 2 ^ 31 by omega), p63]
            refine ⟨ib_nI (by omega) (by omega), ?_⟩
            rw [q, if_neg (show ¬ nI 1 = (2 : Int32) by decide)]
            simp only [wp_mb, wp_gR, wp_aI, zk, zl, true_and, hR.1, i9, nI_1, nI_clamp (show 9 * a' + i + 1 < 2 ^ 31 by omega)]
            refine ⟨ib_nI (by omega) (by omega), ?_⟩
            rw [show 9 * a' + i + 1 = 9 * a' + (i + 1) by omega, x62, fa_or]
            unfold Plac_isSafe_205
            simp only [wp_ml, nI_1]
            exact wp_mono (last (i + 1) _ (by rw [hgs, q]; exact GI_bar hG' (by omega))) (fun z d' hh => by cases z <;> exact hh)
          · rw [q, if_neg (show ¬ nI 2 = (0 : Int32) by decide)]
            simp only [wp_mb, wp_gR, wp_aI, zk, zl, true_and, hR.1, nI_clamp (show i < 2 ^ 31 by omega), p63]
            refine ⟨ib_nI (by omega) (by omega), ?_⟩
            rw [q, if_pos (show nI 2 = (2 : Int32) from rfl)]
            unfold Plac_isSafe_205
            simp only [wp_ml, nI_1]
            exact wp_mono (last (i + 1) 0 (by rw [hgs, q]; exact GI_fl hG')) (fun z d' hh => by cases z <;> exact hh)
        unfold Plac_isSafe_109
        simp only [wp_mb, wp_gI, c2, true_and, c5]
        by_cases h4 : ac i 0 = 4
        · rw [if_pos h4]
          simp only [wp_mb, wp_gI, c2, true_and, hac 1 (by omega)]
          rcases okA_t hok h4 with ⟨o1, o2⟩ | o1
          · rw [o2, sh1 (show cl (ac i 1) < 31 by omega)]
            refine wp_mono (rest (2 ^ cl (ac i 1)) ?_) (fun z d' hh => by cases z <;> exact hh)
            unfold due
            simp only [tl]
            rw [if_pos h4, Nat.or_assoc]
          · omega
        · rw [if_neg h4]
          refine wp_mono (rest 0 ?_) (fun z d' hh => by cases z <;> exact hh)
          unfold due
          simp only [tl]
          rw [if_neg h4, Nat.or_zero]
      simp only [wp_mb, wp_gR, wp_aR, wp_vc, zk, zl, true_and, hR.1, nI_clamp (show i < 2 ^ 31 by omega), c2, wp_eq (act_ends c2)]
      refine ⟨ib_nI (by omega) (by omega), ?_⟩
      rw [c4]
      have hhs : hS ac (wm ac n) pt (i + 1) = mkS (om ac (wm ac n) i) (wrS (wm ac n) i (gS ac (wm ac n) pt i)) := rfl
      have hbw : (wm ac n).testBit i = isw (ac i) := by rw [wm_bit]; simp [hin]
      have nw : isw (ac i) = false → wrS (wm ac n) i (gS ac (wm ac n) pt i) = gS ac (wm ac n) pt i := fun q => by
        unfold wrS
        rw [if_neg (by rw [hbw, q]; decide)]
      cases hise : ise (ac i) with
      | false =>
        rw [if_neg (show ¬ false = true by decide), if_pos rfl]
        have n2 : ac i 0 ≠ 2 := fun q => by simp [ise, q] at hise
        have n3 : ac i 0 ≠ 3 := fun q => by simp [ise, q] at hise
        refine wp_mono (after a o ?_) (fun z d' hh => by cases z <;> exact hh)
        rw [hhs]
        cases hw : isw (ac i) with
        | true =>
          have hom : om ac (wm ac n) i = 0 := by unfold om; rw [if_pos (hbw.trans hw)]
          rw [hom, mkS_0]
          exact GI_wr hG hin hw
        | false =>
          have hom : om ac (wm ac n) i = 0 := by unfold om; rw [if_neg (by rw [hbw, hw]; decide), if_neg n2, if_neg n3]
          rw [hom, mkS_0, nw hw]
          exact GI_no hG hw
      | true =>
        rw [if_pos rfl, if_neg (show ¬ (1 : Int32) = 0 by decide)]
        have hw : isw (ac i) = false := by
          cases hw : isw (ac i) with
          | false => rfl
          | true => have := (isw_ise hw).1; rw [hise] at this; cases this
        have hnb : ¬ (wm ac n).testBit i = true := by rw [hbw, hw]; decide
        simp only [wp_mb, wp_gI, c2, true_and, c5]
        by_cases h33 : ac i 0 = 3
        · rw [if_pos h33]
          unfold Plac_isSafe_101
          simp only [wp_ml, nI_1]
          refine wp_mono (after (i + 1) 0 ?_) (fun z d' hh => by cases z <;> exact hh)
          have hom : om ac (wm ac n) i = 2 := by unfold om; rw [if_neg hnb, if_neg (by rw [h33]; decide), if_pos h33]
          rw [hhs, hom, nw hw]
          exact GI_fl (GI_no hG hw)
        · rw [if_neg h33]
          have h22 : ac i 0 = 2 := by
            unfold ise at hise
            rw [Bool.or_eq_true, decide_eq_true_eq, decide_eq_true_eq] at hise
            exact hise.resolve_right h33
          have ha := hG.2.1
          simp only [wp_mb, wp_gR, wp_aI, zk, zl, true_and, hR.1, i9, nI_clamp (show 9 * a + i < 2 ^ 31 by omega), w62 a i ha (by omega), fa_or]
          refine ⟨ib_nI (by omega) (by omega), ?_⟩
          unfold Plac_isSafe_101
          simp only [wp_ml, nI_1]
          refine wp_mono (after (i + 1) _ ?_) (fun z d' hh => by cases z <;> exact hh)
          have hom : om ac (wm ac n) i = 1 := by unfold om; rw [if_neg hnb, if_pos h22]
          rw [hhs, hom, nw hw, ← tB_no hw ha]
          exact GI_bar (GI_no hG hw) (by omega)
  · by_cases q : tB V ac 0 0 &&& due ac A 0 = 0
    · rw [if_pos ((hz _ _ (Nat.zero_le _)).mpr q), decide_eq_true q]; rfl
    · rw [if_neg (fun w => q ((hz _ _ (Nat.zero_le _)).mp w)), decide_eq_false q]; rfl
  · rw [decide_eq_true_eq, ← sf0]
    constructor
    · intro q k hk
      have : k = 0 := by omega
      subst this; exact q
    · intro q; exact q 0 (Nat.le_refl _)
end
