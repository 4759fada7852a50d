/-! ===== pure: the class weighs what an epoch may leave ===== -/
theorem orD {x y D : Nat} : (x ||| y) &&& D ≠ 0 ↔ x &&& D ≠ 0 ∨ y &&& D ≠ 0 := by
  rw [bit_ne, bit_ne, bit_ne]
  constructor
  · rintro ⟨i, h1, h2⟩
    rw [Nat.testBit_or, Bool.or_eq_true] at h1
    rcases h1 with h1 | h1
    · exact Or.inl ⟨i, h1, h2⟩
    · exact Or.inr ⟨i, h1, h2⟩
  · rintro (⟨i, h1, h2⟩ | ⟨i, h1, h2⟩)
    · exact ⟨i, by rw [Nat.testBit_or, h1]; rfl, h2⟩
    · exact ⟨i, by rw [Nat.testBit_or, h1, Bool.or_true], h2⟩
def tB (V : Nat → Nat) (ac : Nat → Ac) (a : Nat) : Nat → Nat
  | 0 => V (wm ac a)
  | m + 1 => if isw (ac (a + m)) then tB V ac a m ||| OV V (wm ac a ||| 2 ^ (a + m)) (wr ac a m) else tB V ac a m
theorem tB_ne {V : Nat → Nat} {ac : Nat → Ac} {a D : Nat} : ∀ {m : Nat}, a + m ≤ 12 → (tB V ac a m &&& D ≠ 0 ↔ ∃ U, sub U (wr ac a m) ∧ V (wm ac a ||| U) &&& D ≠ 0)
  | 0, _ => by
    simp only [tB]
    constructor
    · intro h
      exact ⟨0, sub_0 _, by rw [Nat.or_zero]; exact h⟩
    · rintro ⟨U, h1, h2⟩
      have : U = 0 := sub_zero h1
      rw [this, Nat.or_zero] at h2
      exact h2
  | m + 1, h => by
    have ih := tB_ne (V := V) (ac := ac) (a := a) (D := D) (m := m) (by omega)
    have hlt : wr ac a m < 4096 := Nat.lt_of_lt_of_le (wr_lt ac a m) (p31 (by omega))
    simp only [tB]
    cases hw : isw (ac (a + m)) with
    | true =>
      rw [if_pos rfl, orD, ih, OV_ne hlt, ← wr_or ac a m hw]
      constructor
      · rintro (⟨U, h1, h2⟩ | ⟨U, h1, h2⟩)
        · exact ⟨U, fun i hi => by rw [Nat.testBit_or, h1 i hi]; rfl, h2⟩
        · refine ⟨2 ^ (a + m) ||| U, sub_or (fun i hi => by rw [Nat.testBit_or, hi, Bool.or_true]) (fun i hi => by rw [Nat.testBit_or, h1 i hi]; rfl), ?_⟩
          rw [← Nat.or_assoc]; exact h2
      · rintro ⟨U, h1, h2⟩
        rcases sub_split h1 with q | ⟨W, q1, q2⟩
        · exact Or.inl ⟨U, q, h2⟩
        · refine Or.inr ⟨W, q1, ?_⟩
          rw [q2, ← Nat.or_assoc] at h2; exact h2
    | false =>
      rw [if_neg (by decide), ih, wr_no ac a m hw]
def frW (d d' : Dm) : Prop := (∀ x, x ≠ 19 → x ≠ 34 → x ≠ 51 → x ≠ 62 → d'.1 x = d.1 x) ∧ d'.2 = d.2
theorem frW_rf (d : Dm) : frW d d := ⟨fun _ _ _ _ _ => rfl, rfl⟩
theorem frW_V {d d1 d2 : Dm} (h : frW d d1) (h2 : frV d1 d2) : frW d d2 := ⟨fun x a b c e => (h2.1 x a b c).trans (h.1 x a b c e), h2.2.trans h.2⟩
theorem frW_u {d d1 : Dm} (h : frW d d1) (k : Nat) (v : Int32) : frW d (u2 d1.1 62 k v, d1.2) := ⟨fun x a b c e => (u2_row _ e _ _).trans (h.1 x a b c e), h.2⟩
section
variable {r n ns st A : Nat} {ac : Nat → Ac} {f : Pl} {ev : Nat → Pl → Bool} {sv : Nat → Pl → Pl} {d : Dm}
def WKp (r n : Nat) (ac : Nat → Ac) (f : Pl) (ev : Nat → Pl → Bool) (sv : Nat → Pl → Pl) (ns : Nat) (a : Nat) (d : Dm) : Prop := ∀ a' k, a' < a → a' ≤ k → k ≤ n → d.1 62 (9 * a' + k) = nI (tB (vdS ac f n ev r sv ns) ac a' (k - a'))
theorem i9 (a k : Nat) : nI a * (9 : Int32) + nI k = nI (9 * a + k) := by rw [show (9 : Int32) = nI 9 from rfl, pk_mul, nI_add, Nat.mul_comm]
theorem CX.u62 (h : CX r n ac f ev sv ns st A d) (k : Nat) (v : Int32) : CX r n ac f ev sv ns st A (u2 d.1 62 k v, d.2) := h.keep (fun x hx => u2_row _ (show x ≠ 62 by omega) _ _) rfl
theorem weigh_eq (h : CX r n ac f ev sv ns st A d) (hn : n ≤ 8) : wp (Plac_weigh 61 3 2) d (fun _ d' => frW d d' ∧ CX r n ac f ev sv ns st A d' ∧ WKp r n ac f ev sv ns (n + 1) d') := by
  have e31 := h.1.1.2.1
  unfold Plac_weigh
  simp only [wp_mb, wp_gI, wp_ml, zk, true_and, e31]
  rw [if_neg (show ¬ (8 : Int32) < nI n from nI_nlt (a := 8) (by omega) (by omega))]
  unfold Plac_weigh_13
  refine wp_up (fun a s dd => s = nI a ∧ frW d dd ∧ CX r n ac f ev sv ns st A dd ∧ WKp r n ac f ev sv ns a dd) (n + 1) ?_ (i := 0) (by omega) ⟨rfl, frW_rf d, h, fun a' k ha => by omega⟩
  intro a s dd ha ⟨e1, hf, hC, hW⟩
  subst e1
  have hR : Rf dd.2.2 := hC.1.1.2.2.2.2
  unfold Plac_weigh_13_b
  by_cases hx : a = n + 1
  · subst hx
    rw [if_pos (nI_lt (by omega) (by omega)), wp_mr, wp_mp]
    exact ⟨hf, hC, hW⟩
  · rw [if_neg (nI_nlt (by omega) (by omega))]
    have e0 : Prog_writesWithin 3 (0 : Int32) (nI a) dd = some (nI (wm ac a), dd) := by
      have := ww_eq hC.1.1 (a := 0) (b := a) (Nat.zero_le _) (by omega)
      rw [Nat.sub_zero, wr_0] at this
      exact this
    have hsa : sub (wm ac a) (wm ac n) := fun i hi => by
      rw [wm_bit] at hi ⊢
      simp at hi ⊢
      exact ⟨by omega, hi.2⟩
    simp only [wp_mb, wp_vc, zk, true_and, wp_eq e0]
    refine wp_mono (hC.1.of hsa) (fun z d1 ⟨a1, a2, a3⟩ => ?_)
    subst a1
    have hC1 := hC.mvV a2 a3
    have hf1 := frW_V hf a2
    have hR1 : Rf d1.2.2 := hC1.1.1.2.2.2.2
    have w62 : d1.1 62 = dd.1 62 := a2.1 62 (by omega) (by omega) (by omega)
    simp only [wp_gR, wp_sI, zk, zl, true_and, hR1.1, i9, nI_clamp (show 9 * a + a < 2 ^ 31 by omega)]
    refine ⟨ib_nI (by omega) (by omega), ?_⟩
    have hC2 := hC1.u62 (9 * a + a) (nI (vdS ac f n ev r sv ns (wm ac a)))
    have hf2 := frW_u hf1 (9 * a + a) (nI (vdS ac f n ev r sv ns (wm ac a)))
    have w2 : ∀ j, u2 d1.1 62 (9 * a + a) (nI (vdS ac f n ev r sv ns (wm ac a))) 62 j = if j = 9 * a + a then nI (vdS ac f n ev r sv ns (wm ac a)) else dd.1 62 j := fun j => by
      by_cases hj : j = 9 * a + a
      · rw [if_pos hj, hj, u2_s]
      · rw [if_neg hj, u2_k _ _ _ hj, w62]
    generalize hD : ((u2 d1.1 62 (9 * a + a) (nI (vdS ac f n ev r sv ns (wm ac a))), d1.2) : Dm) = d2 at hC2 hf2
    have w3 : ∀ j, d2.1 62 j = if j = 9 * a + a then nI (vdS ac f n ev r sv ns (wm ac a)) else dd.1 62 j := fun j => by rw [← hD]; exact w2 j
    unfold Plac_weigh_55
    refine wp_up (fun k s d3 => a ≤ k ∧ s = (nI (tB (vdS ac f n ev r sv ns) ac a (k - a)), nI k) ∧ frW d d3 ∧ CX r n ac f ev sv ns st A d3 ∧ WKp r n ac f ev sv ns a d3 ∧ ∀ k', a ≤ k' → k' ≤ k → d3.1 62 (9 * a + k') = nI (tB (vdS ac f n ev r sv ns) ac a (k' - a))) n ?_ (i := a) (by omega) ⟨Nat.le_refl _, by rw [Nat.sub_self]; rfl, hf2, hC2, fun a' k h1 h2 h3 => by rw [w3, if_neg (by omega)]; exact hW a' k h1 h2 h3, fun k' h1 h2 => by rw [w3, if_pos (by omega), show k' - a = 0 by omega]; rfl⟩
    intro k s d3 hk ⟨hak, e2, hf3, hC3, hW3, hT3⟩
    subst e2
    have hR3 : Rf d3.2.2 := hC3.1.1.2.2.2.2
    unfold Plac_weigh_55_b
    dsimp only
    by_cases hkn : k = n
    · subst hkn
      rw [if_pos (nI_le (Nat.le_refl _) (by omega))]
      simp only [wp_mr, wp_ml, wp_mp, nI_1]
      refine ⟨by omega, trivial, hf3, hC3, fun a' k' h1 h2 h3 => ?_⟩
      by_cases ha' : a' = a
      · subst ha'; exact hT3 k' h2 h3
      · exact hW3 a' k' (by omega) h2 h3
    · rw [if_neg (nI_ge (by omega) (by omega))]
      have hkn2 : k < n := by omega
      obtain ⟨c1, c2, c3, -⟩ := hC3.1.1.at hkn2
      have e98 : ∀ (d4 : Dm) (acc : Nat), frW d d4 → CX r n ac f ev sv ns st A d4 → d4.1 62 = d3.1 62 → acc = tB (vdS ac f n ev r sv ns) ac a (k + 1 - a) → wp (Plac_weigh_98 61 3 2 (nI n) (nI a) (nI (wm ac a)) (nI acc) (nI k)) d4 (fun z d' => match z with
          | .inl s => k < n ∧ a ≤ k + 1 ∧ s = (nI (tB (vdS ac f n ev r sv ns) ac a (k + 1 - a)), nI (k + 1)) ∧ frW d d' ∧ CX r n ac f ev sv ns st A d' ∧ WKp r n ac f ev sv ns a d' ∧ ∀ k', a ≤ k' → k' ≤ k + 1 → d'.1 62 (9 * a + k') = nI (tB (vdS ac f n ev r sv ns) ac a (k' - a))
          | .inr z => match z with
            | .inl s => a < n + 1 ∧ s = nI (a + 1) ∧ frW d d' ∧ CX r n ac f ev sv ns st A d' ∧ WKp r n ac f ev sv ns (a + 1) d'
            | .inr _ => frW d d' ∧ CX r n ac f ev sv ns st A d' ∧ WKp r n ac f ev sv ns (n + 1) d') := by
        intro d4 acc hf4 hC4 h62 hacc
        have hR4 : Rf d4.2.2 := hC4.1.1.2.2.2.2
        unfold Plac_weigh_98
        simp only [wp_mb, wp_gR, wp_sI, wp_ml, wp_mp, zk, zl, true_and, hR4.1, i9, nI_1, nI_clamp (show 9 * a + k + 1 < 2 ^ 31 by omega)]
        have w5 : ∀ j, u2 d4.1 62 (9 * a + k + 1) (nI acc) 62 j = if j = 9 * a + k + 1 then nI acc else d3.1 62 j := fun j => by
          by_cases hj : j = 9 * a + k + 1
          · rw [if_pos hj, hj, u2_s]
          · rw [if_neg hj, u2_k _ _ _ hj, h62]
        refine ⟨ib_nI (by omega) (by omega), by omega, by omega, by rw [hacc], frW_u hf4 _ _, hC4.u62 _ _, fun a' k' h1 h2 h3 => ?_, fun k' h1 h2 => ?_⟩
        · show u2 d4.1 62 (9 * a + k + 1) (nI acc) 62 _ = _
          rw [w5, if_neg (by omega)]; exact hW3 a' k' h1 h2 h3
        · rw [w5]
          by_cases hk' : k' = k + 1
          · rw [if_pos (by omega), hacc, hk']
          · rw [if_neg (by omega)]; exact hT3 k' h1 (by omega)
      have hsuc : k + 1 - a = (k - a) + 1 := by omega
      have hak2 : a + (k - a) = k := by omega
      simp only [wp_mb, wp_gR, wp_aR, wp_vc, zk, zl, true_and, hR3.1, nI_clamp (show k < 2 ^ 31 by omega), c2, wp_eq (act_writes c2)]
      refine ⟨ib_nI (by omega) (by omega), ?_⟩
      rw [c3]
      cases hw : isw (ac k) with
      | false =>
        rw [if_neg (show ¬ false = true by decide), if_pos rfl]
        refine wp_mono (e98 d3 _ hf3 hC3 rfl ?_) (fun z d' hh => by rcases z with z | z | z <;> exact hh)
        rw [hsuc]
        simp only [tB]
        rw [hak2, hw, if_neg (by decide)]
      | true =>
        rw [if_pos rfl, if_neg (show ¬ (1 : Int32) = 0 by decide)]
        simp only [wp_mb, wp_vc, zk, true_and, wp_eq (ww_eq hC3.1.1 hak (show k ≤ n by omega))]
        rw [sh1 (show k < 31 by omega), fa_or]
        have hs1 : sub (wm ac a ||| 2 ^ k) (wm ac n) := sub_or hsa (fun i hi => by
          rw [Nat.testBit_two_pow, decide_eq_true_eq] at hi
          rw [← hi, wm_bit]; simp [hkn2, hw])
        have hs2 : sub (wr ac a (k - a)) (wm ac n) := fun i hi => by
          rw [wr_bit] at hi
          rw [wm_bit]
          simp at hi ⊢
          exact ⟨by omega, hi.2⟩
        refine wp_mono (hC3.1.each hs1 hs2) (fun z d4 ⟨b1, b2, b3⟩ => ?_)
        subst b1
        rw [wp_ml, fa_or]
        refine wp_mono (e98 d4 _ (frW_V hf3 b2) (hC3.mvV b2 b3) (b2.1 62 (by omega) (by omega) (by omega)) ?_) (fun z d' hh => by rcases z with z | z | z <;> exact hh)
        rw [hsuc]
        simp only [tB]
        rw [hak2, hw, if_pos rfl]
end
