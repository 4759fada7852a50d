/-! ===== pure: sets of writes as the reference codes them; its tables ===== -/
def aW (wa : Nat → Nat) (c : Nat) : Nat → Nat
  | 0 => 0
  | w + 1 => aW wa c w ||| (if c.testBit w then 2 ^ wa w else 0)
def cW (wa : Nat → Nat) (S : Nat) : Nat → Nat
  | 0 => 0
  | w + 1 => cW wa S w ||| (if S.testBit (wa w) then 2 ^ w else 0)
theorem aW_bit (wa : Nat → Nat) (c i : Nat) : ∀ w, (aW wa c w).testBit i = true ↔ ∃ v, v < w ∧ c.testBit v = true ∧ wa v = i
  | 0 => by simp [aW]
  | w + 1 => by
    simp only [aW]
    rw [Nat.testBit_or, Bool.or_eq_true, aW_bit wa c i w]
    constructor
    · rintro (⟨v, h1, h2, h3⟩ | h)
      · exact ⟨v, by omega, h2, h3⟩
      · cases hc : c.testBit w with
        | true =>
          rw [hc, if_pos rfl, Nat.testBit_two_pow, decide_eq_true_eq] at h
          exact ⟨w, by omega, hc, h⟩
        | false =>
          rw [hc] at h
          simp at h
    · rintro ⟨v, h1, h2, h3⟩
      by_cases e : v = w
      · subst e
        right
        rw [h2, if_pos rfl, Nat.testBit_two_pow, decide_eq_true_eq]
        exact h3
      · exact Or.inl ⟨v, by omega, h2, h3⟩
theorem cW_bit (wa : Nat → Nat) (S v : Nat) : ∀ w, (cW wa S w).testBit v = true ↔ v < w ∧ S.testBit (wa v) = true
  | 0 => by simp [cW]
  | w + 1 => by
    simp only [cW]
    rw [Nat.testBit_or, Bool.or_eq_true, cW_bit wa S v w]
    constructor
    · rintro (⟨h1, h2⟩ | h)
      · exact ⟨by omega, h2⟩
      · cases hc : S.testBit (wa w) with
        | true =>
          rw [hc, if_pos rfl, Nat.testBit_two_pow, decide_eq_true_eq] at h
          subst h
          exact ⟨by omega, hc⟩
        | false =>
          rw [hc] at h
          simp at h
    · rintro ⟨h1, h2⟩
      by_cases e : v = w
      · subst e
        right
        rw [h2, if_pos rfl, Nat.testBit_two_pow, decide_eq_true_eq]
      · exact Or.inl ⟨by omega, h2⟩
theorem bits_eq {a b : Nat} (h : ∀ i, a.testBit i = true ↔ b.testBit i = true) : a = b := Nat.eq_of_testBit_eq fun i => by
  cases ha : a.testBit i with
  | true => rw [(h i).mp ha]
  | false =>
    cases hb : b.testBit i with
    | true => rw [(h i).mpr hb] at ha; cases ha
    | false => rfl
theorem cW_lt (wa : Nat → Nat) (S w : Nat) : cW wa S w < 2 ^ w := Nat.lt_pow_two_of_testBit _ fun i hi => by
  cases h : (cW wa S w).testBit i with
  | false => rfl
  | true => have := ((cW_bit wa S i w).mp h).1; omega
/-- where the writes among the first n acts stand -/
def WAp (ac : Nat → Ac) (n : Nat) (wa : Nat → Nat) (wn : Nat) : Prop := (∀ v, v < wn → wa v < n ∧ isw (ac (wa v)) = true) ∧ (∀ u v, u < v → v < wn → wa u ≠ wa v) ∧ ∀ i, i < n → isw (ac i) = true → ∃ v, v < wn ∧ wa v = i
section
variable {ac : Nat → Ac} {n wn : Nat} {wa : Nat → Nat}
theorem WAp.le (h : WAp ac n wa wn) : wn ≤ n := fb_holes n wn wa (fun v hv => (h.1 v hv).1) h.2.1
theorem WAp.inj (h : WAp ac n wa wn) {u v : Nat} (hu : u < wn) (hv : v < wn) (e : wa u = wa v) : u = v := by
  rcases Nat.lt_trichotomy u v with h1 | h1 | h1
  · exact absurd e (h.2.1 u v h1 hv)
  · exact h1
  · exact absurd e.symm (h.2.1 v u h1 hu)
theorem aW_sub (h : WAp ac n wa wn) (c : Nat) : sub (aW wa c wn) (wm ac n) := fun i hi => by
  obtain ⟨v, h1, -, h3⟩ := (aW_bit wa c i wn).mp hi
  rw [wm_bit, ← h3]
  simp [h.1 v h1]
theorem aW_cW (h : WAp ac n wa wn) {S : Nat} (hS : sub S (wm ac n)) : aW wa (cW wa S wn) wn = S := bits_eq fun i => by
  rw [aW_bit]
  constructor
  · rintro ⟨v, h1, h2, h3⟩
    rw [← h3]
    exact ((cW_bit wa S v wn).mp h2).2
  · intro hi
    have h2 := hS i hi
    rw [wm_bit] at h2
    simp at h2
    obtain ⟨v, h3, h4⟩ := h.2.2 i h2.1 h2.2
    exact ⟨v, h3, (cW_bit wa S v wn).mpr ⟨h3, by rw [h4]; exact hi⟩, h4⟩
theorem cW_aW (h : WAp ac n wa wn) {c : Nat} (hc : c < 2 ^ wn) : cW wa (aW wa c wn) wn = c := bits_eq fun v => by
  rw [cW_bit]
  constructor
  · rintro ⟨h1, h2⟩
    obtain ⟨u, h3, h4, h5⟩ := (aW_bit wa c (wa v) wn).mp h2
    rw [h.inj h3 h1 h5] at h4
    exact h4
  · intro hv
    have h1 : v < wn := by
      by_cases hh : v < wn
      · exact hh
      · rw [Nat.testBit_lt_two_pow (Nat.lt_of_lt_of_le hc (Nat.pow_le_pow_right (by omega) (by omega)))] at hv
        cases hv
    exact ⟨h1, (aW_bit wa c (wa v) wn).mpr ⟨v, h1, hv, rfl⟩⟩
theorem cW_or (wa : Nat → Nat) (S T w : Nat) : cW wa (S ||| T) w = cW wa S w ||| cW wa T w := bits_eq fun v => by
  rw [cW_bit, Nat.testBit_or, Nat.testBit_or, Bool.or_eq_true, Bool.or_eq_true, cW_bit, cW_bit]
  constructor
  · rintro ⟨h1, h2 | h2⟩
    · exact Or.inl ⟨h1, h2⟩
    · exact Or.inr ⟨h1, h2⟩
  · rintro (⟨h1, h2⟩ | ⟨h1, h2⟩)
    · exact ⟨h1, Or.inl h2⟩
    · exact ⟨h1, Or.inr h2⟩
theorem aW_or (wa : Nat → Nat) (c e w : Nat) : aW wa (c ||| e) w = aW wa c w ||| aW wa e w := bits_eq fun i => by
  rw [aW_bit, Nat.testBit_or, Bool.or_eq_true, aW_bit, aW_bit]
  constructor
  · rintro ⟨v, h1, h2, h3⟩
    rw [Nat.testBit_or, Bool.or_eq_true] at h2
    rcases h2 with h2 | h2
    · exact Or.inl ⟨v, h1, h2, h3⟩
    · exact Or.inr ⟨v, h1, h2, h3⟩
  · rintro (⟨v, h1, h2, h3⟩ | ⟨v, h1, h2, h3⟩)
    · exact ⟨v, h1, by rw [Nat.testBit_or, h2]; rfl, h3⟩
    · exact ⟨v, h1, by rw [Nat.testBit_or, h2, Bool.or_true], h3⟩
theorem cW_mono {wa : Nat → Nat} {S T w : Nat} (h : sub S T) : sub (cW wa S w) (cW wa T w) := fun v hv => by
  rw [cW_bit] at hv ⊢
  exact ⟨hv.1, h _ hv.2⟩
theorem aW_mono {wa : Nat → Nat} {c e w : Nat} (h : sub c e) : sub (aW wa c w) (aW wa e w) := fun i hi => by
  rw [aW_bit] at hi ⊢
  obtain ⟨v, h1, h2, h3⟩ := hi
  exact ⟨v, h1, h _ h2, h3⟩
end
/-- the reference's tables -/
def WT (ac : Nat → Ac) (n : Nat) (wa : Nat → Nat) (wn : Nat) (d : Dm) : Prop := d.1 65 34 = nI wn ∧ (∀ v, v < wn → d.1 84 v = nI (wa v)) ∧ WAp ac n wa wn
def LTc (r n : Nat) (ac : Nat → Ac) (f : Pl) (ev : Nat → Pl → Bool) (sv : Nat → Pl → Pl) (ns : Nat) (S c : Nat) (d : Dm) : Prop := d.2.1 79 c = lN (num (pS ac f S n)) ∧ d.2.1 80 c = lN (num (hl sv 0 ns (pS ac f S n))) ∧ d.1 81 c = nI (rb ev (pS ac f S n) r) ∧ d.1 82 c = nI (rb ev (hl sv 0 ns (pS ac f S n)) r) ∧ d.1 83 c = bI (sd sv ns (pS ac f S n))
def LT (r n : Nat) (ac : Nat → Ac) (f : Pl) (ev : Nat → Pl → Bool) (sv : Nat → Pl → Pl) (ns : Nat) (wa : Nat → Nat) (wn : Nat) (d : Dm) : Prop := WT ac n wa wn d ∧ ∀ c, c < 2 ^ wn → LTc r n ac f ev sv ns (aW wa c wn) c d
def MLd (r n : Nat) (ac : Nat → Ac) (f : Pl) (ev : Nat → Pl → Bool) (sv : Nat → Pl → Pl) (ns : Nat) (d : Dm) : Prop := d.1 65 27 = 0 ∨ (d.1 65 27 = 1 ∧ ∃ wa wn, LT r n ac f ev sv ns wa wn d)
section
variable {r n ns A : Nat} {ac : Nat → Ac} {f : Pl} {ev : Nat → Pl → Bool} {sv : Nat → Pl → Pl} {d : Dm} {p : Pl} {wn : Nat} {wa : Nat → Nat}
theorem asActs_eq (hR : MRf d.2.2) (h : WT ac n wa wn d) (hn : n ≤ 12) {c : Nat} (hc : c < 2 ^ 31) : Mod_asActs 65 (nI c) d = some (nI (aW wa c wn), d) := by
  obtain ⟨h1, h2, h3⟩ := h
  have hwn := h3.le
  have r84 : d.2.2 65 33 = 84 := hR.2.2.2.2.2.2.2.2.2.2.2.2.2.2.2.2.2.2.1
  apply wp_get
  unfold Mod_asActs
  simp only [wp_ml]
  unfold Mod_asActs_4
  refine wp_up (fun w s dd => s = (nI (aW wa c w), nI w) ∧ dd = d) wn ?_ (i := 0) (by omega) ⟨rfl, rfl⟩
  intro w s dd hw ⟨e1, e2⟩
  subst e1; subst e2
  unfold Mod_asActs_4_b
  dsimp only
  simp only [wp_mb, wp_gI, zk, true_and, h1]
  by_cases hx : w = wn
  · subst hx
    rw [if_pos (nI_le (Nat.le_refl _) (by omega))]
    simp only [wp_mr, wp_mp]
    exact ⟨trivial, trivial⟩
  · rw [if_neg (nI_ge (by omega) (by omega))]
    unfold Mod_asActs_34
    by_cases hb : c.testBit w = true
    · rw [if_pos ((bit_1 hc (by omega)).mpr hb)]
      have hwa := (h3.1 w (by omega)).1
      simp only [wp_mb, wp_gR, wp_aI, wp_ml, wp_mp, zk, zl, true_and, r84, nI_clamp (show w < 2 ^ 31 by omega), h2 w (by omega)]
      refine ⟨ib_nI (by omega) (by omega), by omega, ?_, trivial⟩
      rw [sh1 (by omega), fa_or, nI_1]
      simp [aW, hb]
    · rw [if_neg (fun q => hb ((bit_1 hc (by omega)).mp q))]
      simp only [wp_ml, wp_mp]
      refine ⟨by omega, ?_, trivial⟩
      rw [or_0, nI_1]
      simp [aW, hb]
theorem asCode_eq (hR : MRf d.2.2) (h : WT ac n wa wn d) (hn : n ≤ 12) {S : Nat} (hS : S < 2 ^ 31) : Mod_asCode 65 (nI S) d = some (nI (cW wa S wn), d) := by
  obtain ⟨h1, h2, h3⟩ := h
  have hwn := h3.le
  have r84 : d.2.2 65 33 = 84 := hR.2.2.2.2.2.2.2.2.2.2.2.2.2.2.2.2.2.2.1
  apply wp_get
  unfold Mod_asCode
  simp only [wp_ml]
  unfold Mod_asCode_4
  refine wp_up (fun w s dd => s = (nI (cW wa S w), nI w) ∧ dd = d) wn ?_ (i := 0) (by omega) ⟨rfl, rfl⟩
  intro w s dd hw ⟨e1, e2⟩
  subst e1; subst e2
  unfold Mod_asCode_4_b
  dsimp only
  simp only [wp_mb, wp_gI, zk, true_and, h1]
  by_cases hx : w = wn
  · subst hx
    rw [if_pos (nI_le (Nat.le_refl _) (by omega))]
    simp only [wp_mr, wp_mp]
    exact ⟨trivial, trivial⟩
  · rw [if_neg (nI_ge (by omega) (by omega))]
    have hwa := (h3.1 w (by omega)).1
    simp only [wp_mb, wp_gR, wp_aI, zk, zl, true_and, r84, nI_clamp (show w < 2 ^ 31 by omega), h2 w (by omega)]
    refine ⟨ib_nI (by omega) (by omega), ?_⟩
    unfold Mod_asCode_34
    simp only [wp_ml, wp_mp]
    refine ⟨by omega, ?_, trivial⟩
    by_cases hb : S.testBit (wa w) = true
    · rw [if_pos ((bit_1 hS (by omega)).mpr hb), sh1 (by omega), fa_or, nI_1]
      simp [cW, hb]
    · rw [if_neg (fun q => hb ((bit_1 hS (by omega)).mp q)), or_0, nI_1]
      simp [cW, hb]
theorem isWriteM (hR : MRf d.2.2) (h : MP r n ac f d) {i : Nat} (hi : i < n) : Mod_isWrite 65 (nI i) d = some (bI (isw (ac i)), d) := by
  have hn := h.1.1
  have r67 : d.2.2 65 2 = 67 := hR.2.1
  have a0 := (h.2.2.2 i hi).1
  apply wp_get
  unfold Mod_isWrite
  simp only [wp_mb, wp_gR, wp_aI, zk, zl, true_and, r67, nI_clamp (show i < 2 ^ 31 by omega), a0]
  refine ⟨ib_nI (by omega) (by omega), ?_⟩
  by_cases h0 : ac i 0 = 0
  · rw [if_pos h0, wp_mz]
    exact ⟨Or.inr rfl, by simp [isw, h0, bI], rfl⟩
  · rw [if_neg h0]
    simp only [wp_mb, wp_gR, wp_aI, zk, zl, true_and, r67, nI_clamp (show i < 2 ^ 31 by omega), a0]
    refine ⟨ib_nI (by omega) (by omega), ?_⟩
    by_cases h1 : ac i 0 = 1
    · rw [if_pos h1, wp_mz]
      exact ⟨Or.inr rfl, by simp [isw, h1, bI], rfl⟩
    · rw [if_neg h1, wp_mz]
      exact ⟨Or.inl rfl, by simp [isw, h0, h1, bI], rfl⟩
/-- what laying all changes -/
def sLd (x j : Nat) : Prop := (79 ≤ x ∧ x ≤ 84) ∨ (x = 65 ∧ (j = 27 ∨ j = 34)) ∨ sNw x j
theorem sL_no {x j : Nat} (h : x < 65 ∨ (66 ≤ x ∧ x ≤ 74) ∨ 85 ≤ x ∨ (x = 65 ∧ (j ≤ 18 ∨ (23 ≤ j ∧ j ≤ 25) ∨ (28 ≤ j ∧ j ≤ 33) ∨ 35 ≤ j))) : ¬ sLd x j := by
  unfold sLd sNw sE
  omega
theorem fL_N {d d' : Dm} (h : frc sNw d d') : frc sLd d d' := frc_w h fun _ _ h q => h (Or.inr (Or.inr q))
end
