/-! ===== pure: the reference's memory ===== -/
/-- cells outside S stand -/
def frc (S : Nat → Nat → Prop) (d d' : Dm) : Prop := (∀ x j, ¬ S x j → d'.1 x j = d.1 x j ∧ d'.2.1 x j = d.2.1 x j) ∧ d'.2.2 = d.2.2
theorem frc_rf {S : Nat → Nat → Prop} (d : Dm) : frc S d d := ⟨fun _ _ _ => ⟨rfl, rfl⟩, rfl⟩
theorem frc_tr {S S1 S2 : Nat → Nat → Prop} {d d1 d2 : Dm} (h1 : frc S1 d d1) (h2 : frc S2 d1 d2) (h : ∀ x j, ¬ S x j → ¬ S1 x j ∧ ¬ S2 x j) : frc S d d2 := ⟨fun x j hx => ⟨(h2.1 x j (h x j hx).2).1.trans (h1.1 x j (h x j hx).1).1, (h2.1 x j (h x j hx).2).2.trans (h1.1 x j (h x j hx).1).2⟩, h2.2.trans h1.2⟩
theorem frc_t {S : Nat → Nat → Prop} {d d1 d2 : Dm} (h1 : frc S d d1) (h2 : frc S d1 d2) : frc S d d2 := frc_tr h1 h2 fun _ _ h => ⟨h, h⟩
theorem frc_w {S S1 : Nat → Nat → Prop} {d d1 : Dm} (h1 : frc S1 d d1) (h : ∀ x j, ¬ S x j → ¬ S1 x j) : frc S d d1 := ⟨fun x j hx => h1.1 x j (h x j hx), h1.2⟩
theorem frc_I {S : Nat → Nat → Prop} {d d' : Dm} (h : frc S d d') (a k : Nat) (v : Int32) (hs : S a k) : frc S d (u2 d'.1 a k v, d'.2) := ⟨fun x j hx => ⟨(if_neg (fun q => hx (by rw [q.1, q.2]; exact hs))).trans (h.1 x j hx).1, (h.1 x j hx).2⟩, h.2⟩
theorem frc_L {S : Nat → Nat → Prop} {d d' : Dm} (h : frc S d d') (a k : Nat) (v : Int64) (hs : S a k) : frc S d (d'.1, u2 d'.2.1 a k v, d'.2.2) := ⟨fun x j hx => ⟨(h.1 x j hx).1, (if_neg (fun q => hx (by rw [q.1, q.2]; exact hs))).trans (h.1 x j hx).2⟩, h.2⟩
theorem frc.i {S : Nat → Nat → Prop} {d d' : Dm} (h : frc S d d') {x j : Nat} (hx : ¬ S x j) : d'.1 x j = d.1 x j := (h.1 x j hx).1
theorem frc.l {S : Nat → Nat → Prop} {d d' : Dm} (h : frc S d d') {x j : Nat} (hx : ¬ S x j) : d'.2.1 x j = d.2.1 x j := (h.1 x j hx).2
def MRf (R : Nat → Nat → Nat) : Prop := R 65 0 = 66 ∧ R 65 2 = 67 ∧ R 65 3 = 68 ∧ R 65 5 = 69 ∧ R 65 7 = 70 ∧ R 65 8 = 71 ∧ R 65 9 = 72 ∧ R 65 11 = 73 ∧ R 65 12 = 74 ∧ R 65 16 = 75 ∧ R 65 23 = 76 ∧ R 65 24 = 77 ∧ R 65 25 = 78 ∧ R 65 28 = 79 ∧ R 65 29 = 80 ∧ R 65 30 = 81 ∧ R 65 31 = 82 ∧ R 65 32 = 83 ∧ R 65 33 = 84 ∧ R 65 35 = 85 ∧ R 65 36 = 86 ∧ R 65 39 = 87 ∧ R 65 41 = 88
theorem u2_u2 {α : Type} (f : Nat → Nat → α) (a k : Nat) (x y : α) : u2 (u2 f a k x) a k y = u2 f a k y := by
  funext i j
  unfold u2
  by_cases h : i = a ∧ j = k
  · rw [if_pos h, if_pos h]
  · rw [if_neg h, if_neg h, if_neg h]
theorem Mod_in_eq (x a b : Int32) (d : Dm) : Mod_in x a b d = some (if a ≤ x ∧ x ≤ b then 1 else 0, d) := by
  unfold Mod_in
  by_cases h1 : x < a
  · rw [if_pos h1, if_neg (fun q => absurd h1 (Int32.not_lt.mpr q.1))]; rfl
  · rw [if_neg h1]
    by_cases h2 : b < x
    · rw [if_pos h2, if_neg (fun q => absurd h2 (Int32.not_lt.mpr q.2))]; rfl
    · rw [if_neg h2, if_pos ⟨Int32.not_lt.mp h1, Int32.not_lt.mp h2⟩]; rfl
theorem mz_if {c : Prop} [Decidable c] {d : Dm} {Q : Int32 → Dm → Prop} : wp (mz (if c then (1 : Int32) else 0)) d Q ↔ Q (if c then 1 else 0) d := by
  rw [wp_mz]
  by_cases h : c
  · rw [if_pos h]; exact ⟨fun q => q.2, fun q => ⟨Or.inr rfl, q⟩⟩
  · rw [if_neg h]; exact ⟨fun q => q.2, fun q => ⟨Or.inl rfl, q⟩⟩
theorem le7 (x : Int32) : (0 ≤ x ∧ x ≤ 7) ↔ (0 ≤ x ∧ x < 8) := by
  have e7 : (7 : Int32).toInt = 7 := rfl
  have e8 : (8 : Int32).toInt = 8 := rfl
  rw [fa_le, fa_le, fa_lt, e7, e8]
  omega
theorem Mod_isSector_eq (x : Int32) (d : Dm) : Mod_isSector x d = some (if 0 ≤ x ∧ x < 8 then 1 else 0, d) := by
  apply wp_get
  unfold Mod_isSector
  simp only [wp_mb, wp_eq (Mod_in_eq _ _ _ _), mz_if, le7]
  exact ⟨trivial, trivial⟩
theorem Mod_isNumber_eq (x : Int32) (d : Dm) : Mod_isNumber x d = some (if 0 ≤ x ∧ x ≤ 99 then 1 else 0, d) := by
  apply wp_get
  unfold Mod_isNumber
  simp only [wp_mb, wp_eq (Mod_in_eq _ _ _ _), mz_if]
  exact ⟨trivial, trivial⟩
theorem Mod_isPlate_eq (x : Int64) (d : Dm) : Mod_isPlate x d = some (if 0 ≤ x ∧ x ≤ 9999999999999999 then 1 else 0, d) := by
  unfold Mod_isPlate
  by_cases h1 : x < 0
  · rw [if_pos h1, if_neg (fun q => absurd h1 (Int64.not_lt.mpr q.1))]; rfl
  · rw [if_neg h1]
    by_cases h2 : (9999999999999999 : Int64) < x
    · rw [if_pos h2, if_neg (fun q => absurd h2 (Int64.not_lt.mpr q.2))]; rfl
    · rw [if_neg h2, if_pos ⟨Int64.not_lt.mp h1, Int64.not_lt.mp h2⟩]; rfl
theorem le_pred (x : Int32) {n : Nat} (hn : n < 2 ^ 31) : (0 ≤ x ∧ x ≤ nI n - 1) ↔ (0 ≤ x ∧ x < nI n) := by
  have e1 : (nI n - 1).toInt = (n : Int) - 1 := by
    rw [fb_subI]
    · rw [nI_toInt hn]; rfl
    · rw [nI_toInt hn]; show _ ≤ (n : Int) - 1; omega
    · rw [nI_toInt hn]; show (n : Int) - 1 < _; omega
  rw [fa_le, fa_le, fa_lt, e1, nI_toInt hn, show (0 : Int32).toInt = 0 from rfl]
  omega
theorem in_c {x lo hi : Nat} (hx : x < 128) (hl : lo < 128) (hh : hi < 128) : (nI lo ≤ nI x ∧ nI x ≤ nI hi) ↔ (lo ≤ x ∧ x ≤ hi) := by
  rw [nI_leI (by omega) (by omega), nI_leI (by omega) (by omega)]
theorem mdig_eq {x : Nat} (hx : x < 128) (d : Dm) : Mod_isDigit (nI x) d = some (bI (isD x), d) := by
  apply wp_get
  unfold Mod_isDigit
  simp only [wp_mb, wp_eq (Mod_in_eq _ _ _ _), mz_if]
  refine ⟨?_, trivial⟩
  have := in_c hx (show 48 < 128 by decide) (show 57 < 128 by decide)
  unfold bI
  by_cases h : isD x = true
  · rw [if_pos h, if_pos (show (48 : Int32) ≤ nI x ∧ nI x ≤ 57 from this.mpr (isD_iff.mp h))]
  · rw [if_neg h, if_neg (show ¬ ((48 : Int32) ≤ nI x ∧ nI x ≤ 57) from fun q => h (isD_iff.mpr (this.mp q)))]
theorem mlet_eq {x : Nat} (hx : x < 128) (d : Dm) : Mod_isLetter (nI x) d = some (bI (isL x), d) := by
  apply wp_get
  unfold Mod_isLetter
  simp only [wp_mb, wp_eq (Mod_in_eq _ _ _ _), mz_if]
  refine ⟨?_, trivial⟩
  have := in_c hx (show 97 < 128 by decide) (show 104 < 128 by decide)
  unfold bI
  by_cases h : isL x = true
  · rw [if_pos h, if_pos (show (97 : Int32) ≤ nI x ∧ nI x ≤ 104 from this.mpr (isL_iff.mp h))]
  · rw [if_neg h, if_neg (show ¬ ((97 : Int32) ≤ nI x ∧ nI x ≤ 104) from fun q => h (isL_iff.mpr (this.mp q)))]
theorem mmark_eq {x : Nat} (hx : x < 128) (d : Dm) : Mod_isMark (nI x) d = some (bI (isM x), d) := by
  apply wp_get
  unfold Mod_isMark
  simp only [wp_mb, wp_eq (Mod_in_eq _ _ _ _), mz_if]
  refine ⟨?_, trivial⟩
  have := in_c hx (show 60 < 128 by decide) (show 62 < 128 by decide)
  unfold bI
  by_cases h : isM x = true
  · rw [if_pos h, if_pos (show (60 : Int32) ≤ nI x ∧ nI x ≤ 62 from this.mpr (isM_iff.mp h))]
  · rw [if_neg h, if_neg (show ¬ ((60 : Int32) ≤ nI x ∧ nI x ≤ 62) from fun q => h (isM_iff.mpr (this.mp q)))]
/-! the text at hand -/
def TX (s : Bool) (B : Nat) (t : Nat → Nat) (m : Nat) (d : Dm) : Prop := (MRf d.2.2 ∧ d.1 65 19 = bI s ∧ d.1 65 20 = nI B ∧ d.1 65 22 = nI m) ∧ m ≤ 60 ∧ B + 60 ≤ (if s then 480 else 360) ∧ ∀ i, i < m → d.1 (if s then 73 else 70) (B + i) = nI (t i) ∧ t i < 128
def sgl (t : Nat → Nat) (m k : Nat) : Nat := if k < m then t k else 0
def atM (d : Dm) (k : Nat) : Dm := (u2 d.1 65 21 (nI k), d.2)
theorem atM_at (d : Dm) (k : Nat) : (atM d k).1 65 21 = nI k := u2_s d.1 65 21 (nI k)
theorem atM_n (d : Dm) (k : Nat) {x j : Nat} (h : ¬ (x = 65 ∧ j = 21)) : (atM d k).1 x j = d.1 x j := if_neg h
theorem TX.at {s : Bool} {B m : Nat} {t : Nat → Nat} {d : Dm} (h : TX s B t m d) (k : Nat) : TX s B t m (atM d k) := by
  obtain ⟨⟨h1, h2, h3, h4⟩, h5, h6, h7⟩ := h
  refine ⟨⟨h1, (atM_n d k (by omega)).trans h2, (atM_n d k (by omega)).trans h3, (atM_n d k (by omega)).trans h4⟩, h5, h6, fun i hi => ?_⟩
  rw [atM_n d k (by split <;> omega)]
  exact h7 i hi
theorem atM_at2 (d : Dm) (k k' : Nat) : atM (atM d k) k' = atM d k' := by
  show (u2 (u2 d.1 65 21 (nI k)) 65 21 (nI k'), d.2) = _
  rw [u2_u2]
  rfl
theorem sgl_lt {s : Bool} {B m : Nat} {t : Nat → Nat} {d : Dm} (h : TX s B t m d) (k : Nat) : sgl t m k < 128 := by
  unfold sgl
  split
  · next hk => exact (h.2.2.2 k hk).2
  · decide
theorem sign_eq {s : Bool} {B m : Nat} {t : Nat → Nat} {d : Dm} (h : TX s B t m d) {k : Nat} (hk : k < 2 ^ 30) : Mod_sign 65 (atM d k) = some (nI (sgl t m k), atM d k) := by
  have h' := h.at k
  obtain ⟨⟨h1, h2, h3, h4⟩, h5, h6, h7⟩ := h'
  apply wp_get
  unfold Mod_sign
  simp only [wp_mb, wp_gI, zk, true_and, atM_at, h4]
  by_cases hkm : k < m
  · rw [if_pos (nI_lt hkm (by omega))]
    obtain ⟨l1, l2⟩ := h7 k hkm
    simp only [wp_mb, wp_gI, zk, true_and, h2]
    have es : sgl t m k = t k := if_pos hkm
    rw [es]
    cases s with
    | false =>
      rw [if_pos (show bI false = 0 by decide)]
      simp only [Bool.false_eq_true, if_false] at l1 h6
      simp only [wp_mb, wp_gI, wp_gR, wp_aI, wp_mp, zk, zl, true_and, h1.2.2.2.2.1, h3, atM_at, nI_add, nI_clamp (show B + k < 2 ^ 31 by omega), l1]
      exact ⟨ib_nI (by omega) (by omega), trivial⟩
    | true =>
      rw [if_neg (show ¬ bI true = 0 by decide)]
      simp only [if_true] at l1 h6
      simp only [wp_mb, wp_gI, wp_gR, wp_aI, wp_mp, zk, zl, true_and, h1.2.2.2.2.2.2.2.1, h3, atM_at, nI_add, nI_clamp (show B + k < 2 ^ 31 by omega), l1]
      exact ⟨ib_nI (by omega) (by omega), trivial⟩
  · rw [if_neg (nI_nlt (by omega) (by omega))]
    have es : sgl t m k = 0 := if_neg hkm
    rw [es, wp_mp]
    exact ⟨rfl, rfl⟩
theorem inc_at (d : Dm) (k j : Nat) : (u2 (atM d k).1 65 21 (nI j), (atM d k).2) = atM d j := by
  show (u2 (u2 d.1 65 21 (nI k)) 65 21 (nI j), d.2) = _
  rw [u2_u2]
  rfl
