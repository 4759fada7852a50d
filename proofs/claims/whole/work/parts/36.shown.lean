/-! ===== pure: writes that later ones hide ===== -/
def ap (ac : Nat → Ac) (S i : Nat) : Nat → Pl → Pl
  | 0, p => p
  | m + 1, p => ap ac S (i + 1) m (if S.testBit i then lay (ac i) p else p)
theorem ap_pS (ac : Nat → Ac) (f : Pl) (S : Nat) : ∀ m i, ap ac S i m (pS ac f S i) = pS ac f S (i + m)
  | 0, i => rfl
  | m + 1, i => by
    simp only [ap]
    have := ap_pS ac f S m (i + 1)
    rw [show i + (m + 1) = i + 1 + m by omega, ← this]
    rfl
theorem ap_congr (ac : Nat → Ac) {S T : Nat} : ∀ {m i : Nat}, (∀ j, i ≤ j → S.testBit j = T.testBit j) → ∀ p, ap ac S i m p = ap ac T i m p
  | 0, i, _, p => rfl
  | m + 1, i, h, p => by
    simp only [ap]
    rw [h i (Nat.le_refl _)]
    exact ap_congr ac (fun j hj => h j (by omega)) _
theorem sb_bit {r : Nat} {a : Ac} (h : okA r a) (hw : isw a = true) (s : Nat) : (sb a).testBit s = true ↔ (s = cl (a 1) ∨ (a 0 = 1 ∧ s = cl (a 3))) := by
  unfold sb
  by_cases e : a 0 = 1
  · simp only [e, if_true, Nat.testBit_or, Nat.testBit_two_pow, true_and, Bool.or_eq_true, decide_eq_true_eq]
    constructor <;> intro q <;> omega
  · simp only [e, if_false, Nat.testBit_two_pow, false_and, or_false, decide_eq_true_eq]
    constructor <;> intro q <;> omega
theorem lay_out {r : Nat} {a : Ac} (h : okA r a) (hw : isw a = true) {s : Nat} (hs : (sb a).testBit s = false) (p : Pl) : lay a p s = p s := by
  have h1 : ¬ (s = cl (a 1) ∨ (a 0 = 1 ∧ s = cl (a 3))) := fun q => by rw [(sb_bit h hw s).mpr q] at hs; cases hs
  unfold lay pu
  by_cases e : a 0 = 1
  · simp only [e, if_true]
    rw [if_neg (fun q => h1 (Or.inr ⟨e, q⟩)), if_neg (fun q => h1 (Or.inl q))]
  · simp only [e, if_false]
    rw [if_neg (fun q => h1 (Or.inl q))]
theorem lay_in {r : Nat} {a : Ac} (h : okA r a) (hw : isw a = true) {s : Nat} (hs : (sb a).testBit s = true) (p q : Pl) : lay a p s = lay a q s := by
  have h1 := (sb_bit h hw s).mp hs
  unfold lay pu
  by_cases e : a 0 = 1
  · simp only [e, if_true]
    by_cases e3 : s = cl (a 3)
    · rw [if_pos e3, if_pos e3]
    · rw [if_neg e3, if_neg e3]
      rcases h1 with h1 | h1
      · rw [if_pos h1, if_pos h1]
      · exact absurd h1.2 e3
  · simp only [e, if_false]
    rcases h1 with h1 | h1
    · rw [if_pos h1, if_pos h1]
    · exact absurd h1.1 e
theorem sb_lt {r : Nat} {a : Ac} (h : okA r a) (hw : isw a = true) : sb a < 2 ^ 8 := by
  obtain ⟨h1, h2, h3⟩ := okA_w h hw
  unfold sb
  split
  · next e =>
    exact Nat.or_lt_two_pow (Nat.pow_lt_pow_right (by omega) h1.1) (Nat.pow_lt_pow_right (by omega) (h3 e).1.1)
  · exact Nat.pow_lt_pow_right (by omega) h1.1
theorem hid_0 {b H : Nat} (hb : b < 2 ^ 8) (hH : H < 2 ^ 8) : (nI b &&& (nI H ^^^ ((-1) : Int32))) = 0 ↔ ∀ s, b.testBit s = true → H.testBit s = true := by
  rw [show ((-1) : Int32) = nI (2 ^ 32 - 1) from rfl, fb_xorI, fa_and]
  have hlt : b &&& (H ^^^ (2 ^ 32 - 1)) < 2 ^ 31 := Nat.lt_of_le_of_lt Nat.and_le_left (by omega)
  rw [show (0 : Int32) = nI 0 from rfl, nI_eq hlt (by omega)]
  constructor
  · intro h s hs
    have := congrArg (fun n => n.testBit s) h
    simp only [Nat.testBit_and, hs, Nat.testBit_xor, Nat.testBit_two_pow_sub_one, Bool.true_and, Nat.zero_testBit] at this
    have h32 : s < 32 := by
      apply Classical.byContradiction
      intro hn
      rw [Nat.testBit_lt_two_pow (Nat.lt_of_lt_of_le hb (Nat.pow_le_pow_right (by omega) (by omega)))] at hs
      cases hs
    simpa [h32] using this
  · intro h
    apply Nat.eq_of_testBit_eq
    intro s
    simp only [Nat.testBit_and, Nat.testBit_xor, Nat.testBit_two_pow_sub_one, Nat.zero_testBit]
    cases hs : b.testBit s with
    | false => rfl
    | true =>
      have h32 : s < 32 := by
        apply Classical.byContradiction
        intro hn
        rw [Nat.testBit_lt_two_pow (Nat.lt_of_lt_of_le hb (Nat.pow_le_pow_right (by omega) (by omega)))] at hs
        cases hs
      simp [h s hs, h32]
section
variable {r n : Nat} {ac : Nat → Ac} {f : Pl} {d : Dm}
theorem sbits_eq {a : Nat} (ha : ZF.2.1 a = 1) {b : Ac} (hb : ∀ k, k < 5 → d.1 a k = b k) (hok : okA r b) (hw : isw b = true) : Act_sectorBits a d = some (nI (sb b), d) := by
  obtain ⟨h1, h2, h3⟩ := okA_w hok hw
  apply wp_get
  unfold Act_sectorBits
  simp only [wp_mb, wp_gI, ha, true_and]
  rw [hb 0 (by omega)]
  unfold sb
  by_cases e : b 0 = 1
  · obtain ⟨h4, h5⟩ := h3 e
    simp only [e, if_true, wp_mb, wp_gI, ha, true_and, wp_mp]
    rw [hb 1 (by omega), hb 3 (by omega), h1.2, h4.2.1, sh1 (by omega), sh1 (by omega), fa_or, cl_nI (by omega), cl_nI (by omega)]
    exact ⟨rfl, trivial⟩
  · simp only [e, if_false, wp_mb, wp_gI, ha, true_and, wp_mp]
    rw [hb 1 (by omega), h1.2, sh1 (by omega), cl_nI (by omega)]
    exact ⟨rfl, trivial⟩
theorem shown_eq (h : CP r n ac f d) {S : Nat} (hS : sub S (wm ac n)) (hS2 : S < 4096) : wp (Prog_shownOf 3 (nI S)) d (fun x d' => d' = d ∧ ∃ t, x = nI t ∧ t < 4096 ∧ sub t S ∧ pS ac f t n = pS ac f S n) := by
  obtain ⟨⟨hn, hf, hok⟩, e1, e2, hac, hR⟩ := id h
  unfold Prog_shownOf
  simp only [wp_mb, wp_ml, wp_gI, zk, true_and, e1]
  unfold Prog_shownOf_12
  refine wp_lo (fun i s dd => dd = d ∧ i ≤ n ∧ ∃ H t, s = (nI H, nI t, nI i - 1) ∧ H < 2 ^ 8 ∧ (∀ j, j < i → t.testBit j = false) ∧ sub t S ∧ (∀ p, ap ac t i (n - i) p = ap ac S i (n - i) p) ∧ (∀ p q s, H.testBit s = true → ap ac S i (n - i) p s = ap ac S i (n - i) q s) ∧ ∀ p s, H.testBit s = false → ap ac S i (n - i) p s = p s) ?_ (m := n) ⟨rfl, Nat.le_refl _, 0, 0, rfl, by decide, fun _ _ => Nat.zero_testBit _, fun i hi => by simp at hi, fun p => by rw [Nat.sub_self]; rfl, fun p q s hs => by simp at hs, fun p s _ => by rw [Nat.sub_self]; rfl⟩
  intro i s dd ⟨q1, hin, H, t, q2, hH, htl, hts, hA, hB, hC⟩
  subst q1; subst q2
  have hsl : ∀ {t : Nat}, sub t S → t < 4096 := fun {t} ht => by
    apply Nat.lt_pow_two_of_testBit (n := 12)
    intro j hj
    cases hb : t.testBit j with
    | false => rfl
    | true =>
      have := ht j hb
      rw [Nat.testBit_lt_two_pow (Nat.lt_of_lt_of_le hS2 (Nat.pow_le_pow_right (by omega) hj : 2 ^ 12 ≤ 2 ^ j))] at this
      cases this
  unfold Prog_shownOf_12_b
  dsimp only
  cases i with
  | zero =>
    rw [if_pos (by decide)]
    simp only [wp_mr, wp_mp]
    refine ⟨trivial, t, rfl, hsl hts, hts, ?_⟩
    have h1 := ap_pS ac f t n 0
    have h2 := ap_pS ac f S n 0
    rw [Nat.zero_add] at h1 h2
    rw [← h1, ← h2]
    exact hA f
  | succ i =>
    rw [nI_pred, if_neg (nI_pos (by omega))]
    have hm : n - i = (n - (i + 1)) + 1 := by omega
    have fin : ∀ H' t', H' < 2 ^ 8 → (∀ j, j < i → t'.testBit j = false) → sub t' S → (∀ p, ap ac t' i (n - i) p = ap ac S i (n - i) p) → (∀ p q s, H'.testBit s = true → ap ac S i (n - i) p s = ap ac S i (n - i) q s) → (∀ p s, H'.testBit s = false → ap ac S i (n - i) p s = p s) → wp (Prog_shownOf_63 3 (nI S) (nI H') (nI t') (nI i)) dd (fun q d' => match q with
        | .inl a' => ∃ m', m' < i + 1 ∧ d' = dd ∧ m' ≤ n ∧ ∃ H t, a' = (nI H, nI t, nI m' - 1) ∧ H < 2 ^ 8 ∧ (∀ j, j < m' → t.testBit j = false) ∧ sub t S ∧ (∀ p, ap ac t m' (n - m') p = ap ac S m' (n - m') p) ∧ (∀ p q s, H.testBit s = true → ap ac S m' (n - m') p s = ap ac S m' (n - m') q s) ∧ ∀ p s, H.testBit s = false → ap ac S m' (n - m') p s = p s
        | .inr x => d' = dd ∧ ∃ t, x = nI t ∧ t < 4096 ∧ sub t S ∧ pS ac f t n = pS ac f S n) := by
      intro H' t' g1 g2 g3 g4 g5 g6
      unfold Prog_shownOf_63
      simp only [wp_ml, wp_mp]
      exact ⟨i, by omega, trivial, by omega, H', t', by rw [Int32.sub_eq_add_neg], g1, g2, g3, g4, g5, g6⟩
    simp only [wp_ite]
    by_cases hb : S.testBit i = true
    · rw [if_neg (by rw [bit_0 (by omega) (by omega)]; simp [hb])]
      obtain ⟨h1, h2, h3, -, -⟩ := h.at (i := i) (by omega)
      have hw : isw (ac i) = true := by
        have := hS i hb
        rw [wm_bit] at this
        simp at this
        exact this.2
      have hoi := hok i (by omega)
      simp only [wp_mb, wp_gR, wp_aR, wp_vc, zk, hR.1, zl, nI_clamp (show i < 2 ^ 31 by omega), true_and, h2, wp_eq (sbits_eq h2 (hac i (by omega)) hoi hw)]
      refine ⟨ib_nI (by omega) (by omega), ?_⟩
      have hsb := sb_lt hoi hw
      unfold Prog_shownOf_56
      simp only [wp_ml]
      rw [fa_or]
      have apS : ∀ p, ap ac S i (n - i) p = ap ac S (i + 1) (n - (i + 1)) (lay (ac i) p) := fun p => by
        rw [hm]; simp only [ap, hb, if_true]
      have hH' : H ||| sb (ac i) < 2 ^ 8 := Nat.or_lt_two_pow hH hsb
      have g5 : ∀ p q s, (H ||| sb (ac i)).testBit s = true → ap ac S i (n - i) p s = ap ac S i (n - i) q s := by
        intro p q s hs
        rw [apS, apS]
        cases hHs : H.testBit s with
        | true => exact hB _ _ s hHs
        | false =>
          rw [hC _ s hHs, hC _ s hHs]
          rw [Nat.testBit_or, hHs, Bool.false_or] at hs
          exact lay_in hoi hw hs _ _
      have g6 : ∀ p s, (H ||| sb (ac i)).testBit s = false → ap ac S i (n - i) p s = p s := by
        intro p s hs
        rw [Nat.testBit_or, Bool.or_eq_false_iff] at hs
        rw [apS, hC _ s hs.1]
        exact lay_out hoi hw hs.2 p
      by_cases hz : (nI (sb (ac i)) &&& (nI H ^^^ ((-1) : Int32))) = 0
      · rw [if_pos hz, or_0]
        have hsub := (hid_0 hsb hH).mp hz
        refine wp_mono (fin _ t hH' (fun j hj => htl j (by omega)) hts ?_ g5 g6) (fun q d' hq => by cases q <;> exact hq)
        intro p
        rw [apS, hm]
        simp only [ap, htl i (by omega)]
        rw [if_neg (by simp), hA]
        funext s
        cases hHs : H.testBit s with
        | true => exact hB _ _ s hHs
        | false =>
          rw [hC _ s hHs, hC _ s hHs]
          have : (sb (ac i)).testBit s = false := by
            cases q : (sb (ac i)).testBit s with
            | false => rfl
            | true => rw [hsub s q] at hHs; cases hHs
          exact (lay_out hoi hw this p).symm
      · rw [if_neg hz, sh1 (by omega)]
        have hti : t.testBit i = false := htl i (by omega)
        have hor : nI t ||| nI (2 ^ i) = nI (t ||| 2 ^ i) := fa_or _ _
        rw [hor]
        have htb : ∀ j, (t ||| 2 ^ i).testBit j = (t.testBit j || decide (i = j)) := fun j => by rw [Nat.testBit_or, Nat.testBit_two_pow]
        refine wp_mono (fin _ (t ||| 2 ^ i) hH' (fun j hj => ?_) (fun j hj => ?_) ?_ g5 g6) (fun q d' hq => by cases q <;> exact hq)
        · rw [htb, htl j (by omega)]; simp; omega
        · rw [htb] at hj
          simp at hj
          rcases hj with hj | hj
          · exact hts j hj
          · rw [← hj]; exact hb
        · intro p
          rw [apS, hm]
          simp only [ap]
          rw [if_pos (by rw [htb]; simp)]
          rw [ap_congr ac (T := t) (fun j hj => by rw [htb]; simp; omega), hA]
    · rw [if_pos ((bit_0 (by omega) (by omega)).mpr (by simpa using hb))]
      have hbf : S.testBit i = false := by simpa using hb
      have apS : ∀ p, ap ac S i (n - i) p = ap ac S (i + 1) (n - (i + 1)) p := fun p => by
        rw [hm]; simp [ap, hbf]
      have apT : ∀ p, ap ac t i (n - i) p = ap ac t (i + 1) (n - (i + 1)) p := fun p => by
        rw [hm]; simp [ap, htl i (by omega)]
      refine wp_mono (fin H t hH (fun j hj => htl j (by omega)) hts (fun p => by rw [apS, apT]; exact hA p) (fun p q s hs => by rw [apS, apS]; exact hB p q s hs) (fun p s hs => by rw [apS]; exact hC p s hs)) (fun q d' hq => by cases q <;> exact hq)
end
