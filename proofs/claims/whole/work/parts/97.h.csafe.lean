/-! ===== pure: the class weighs a placement ===== -/
def GI (V : Nat → Nat) (ac : Nat → Ac) (s : ST) (k a o : Nat) : Prop := s.1 = (wm ac a, wr ac a (k - a)) ∧ a ≤ k ∧ ∃ Old : Nat → Prop, (∀ D, o &&& D ≠ 0 ↔ ∃ T, Old T ∧ V T &&& D ≠ 0) ∧ ∀ T, s.2.1 T ↔ (Old T ∨ ∃ U, sub U (wr ac a (k - a)) ∧ T = wm ac a ||| U)
section
variable {V : Nat → Nat} {ac : Nat → Ac} {s : ST} {k a o n : Nat}
theorem GI_0 (q : Nat × (Nat → Nat) × Nat) : GI V ac ((0, 0), (fun T => T = 0), q) 0 0 0 := by
  refine ⟨rfl, Nat.le_refl _, fun _ => False, fun D => ⟨fun h => absurd (Nat.zero_and D) h, fun ⟨_, h, _⟩ => h.elim⟩, fun T => ⟨fun h => Or.inr ⟨0, sub_0 _, by have h' : T = 0 := h; rw [h', Nat.or_zero]; rfl⟩, fun h => ?_⟩⟩
  rcases h with h | ⟨U, h1, h2⟩
  · exact h.elim
  · have : U = 0 := sub_zero h1
    show T = 0
    rw [h2, this, Nat.or_zero]; rfl
theorem GI_wr (h : GI V ac s k a o) (hk : k < n) (hw : isw (ac k) = true) : GI V ac (wrS (wm ac n) k s) (k + 1) a o := by
  obtain ⟨h1, h2, Old, h3, h4⟩ := h
  have hb : (wm ac n).testBit k = true := by rw [wm_bit]; simp [hk, hw]
  have e : wr ac a (k + 1 - a) = wr ac a (k - a) ||| 2 ^ k := by
    rw [show k + 1 - a = (k - a) + 1 by omega, ← wr_or ac a (k - a) (by rw [show a + (k - a) = k by omega]; exact hw), show a + (k - a) = k by omega]
  unfold wrS
  rw [if_pos hb]
  refine ⟨by rw [h1, e], by omega, Old, h3, fun T => ?_⟩
  dsimp only
  rw [h4, h1, e]
  dsimp only
  constructor
  · rintro ((h | ⟨U, u1, u2⟩) | ⟨U, u1, u2⟩)
    · exact Or.inl h
    · exact Or.inr ⟨U, fun i hi => by rw [Nat.testBit_or, u1 i hi]; rfl, u2⟩
    · exact Or.inr ⟨2 ^ k ||| U, sub_or (fun i hi => by rw [Nat.testBit_or, hi, Bool.or_true]) (fun i hi => by rw [Nat.testBit_or, u1 i hi]; rfl), by rw [u2, Nat.or_assoc]⟩
  · rintro (h | ⟨U, u1, u2⟩)
    · exact Or.inl (Or.inl h)
    · rcases sub_split u1 with q | ⟨W, q1, q2⟩
      · exact Or.inl (Or.inr ⟨U, q, u2⟩)
      · exact Or.inr ⟨W, q1, by rw [u2, q2, Nat.or_assoc]⟩
theorem GI_no (h : GI V ac s k a o) (hw : isw (ac k) = false) : GI V ac s (k + 1) a o := by
  obtain ⟨h1, h2, Old, h3, h4⟩ := h
  have e : wr ac a (k + 1 - a) = wr ac a (k - a) := by
    rw [show k + 1 - a = (k - a) + 1 by omega]; exact wr_no ac a _ (by rw [show a + (k - a) = k by omega]; exact hw)
  exact ⟨by rw [e]; exact h1, by omega, Old, h3, fun T => by rw [e]; exact h4 T⟩
theorem GI_bar (h : GI V ac s k a o) (hk : k ≤ 12) : GI V ac (mkS 1 s) k k (o ||| tB V ac a (k - a)) := by
  obtain ⟨h1, h2, Old, h3, h4⟩ := h
  have hall : wm ac a ||| wr ac a (k - a) = wm ac k := by rw [wm_wr, show a + (k - a) = k by omega]
  refine ⟨?_, Nat.le_refl _, fun T => Old T ∨ ∃ U, sub U (wr ac a (k - a)) ∧ T = wm ac a ||| U, fun D => ?_, fun T => ?_⟩
  · unfold mkS
    rw [if_neg (by decide), h1, Nat.sub_self]
    dsimp only
    rw [hall]; rfl
  · rw [orD, h3, tB_ne (by omega)]
    constructor
    · rintro (⟨T, t1, t2⟩ | ⟨U, u1, u2⟩)
      · exact ⟨T, Or.inl t1, t2⟩
      · exact ⟨_, Or.inr ⟨U, u1, rfl⟩, u2⟩
    · rintro ⟨T, t1 | ⟨U, u1, u2⟩, t2⟩
      · exact Or.inl ⟨T, t1, t2⟩
      · exact Or.inr ⟨U, u1, by rw [← u2]; exact t2⟩
  · unfold mkS
    rw [if_neg (show ¬ 1 = 2 by decide)]
    dsimp only
    rw [h4]
    constructor
    · intro h; exact Or.inl h
    · rintro (h | ⟨U, u1, u2⟩)
      · exact h
      · rw [Nat.sub_self] at u1
        have : U = 0 := sub_zero u1
        rw [this, Nat.or_zero] at u2
        exact Or.inr ⟨wr ac a (k - a), fun i hi => hi, by rw [u2, hall]⟩
theorem GI_fl (h : GI V ac s k a o) : GI V ac (mkS 2 s) k k 0 := by
  obtain ⟨h1, h2, Old, h3, h4⟩ := h
  have hall : wm ac a ||| wr ac a (k - a) = wm ac k := by rw [wm_wr, show a + (k - a) = k by omega]
  refine ⟨?_, Nat.le_refl _, fun _ => False, fun D => ⟨fun h => absurd (Nat.zero_and D) h, fun ⟨_, h, _⟩ => h.elim⟩, fun T => ?_⟩
  · unfold mkS
    rw [if_neg (by decide), h1, Nat.sub_self]
    dsimp only
    rw [hall]; rfl
  · unfold mkS
    rw [if_pos rfl, h1]
    dsimp only
    rw [hall]
    constructor
    · intro h; exact Or.inr ⟨0, sub_0 _, by rw [Nat.or_zero]; exact h⟩
    · rintro (h | ⟨U, u1, u2⟩)
      · exact h.elim
      · rw [Nat.sub_self] at u1
        have : U = 0 := sub_zero u1
        rw [this, Nat.or_zero] at u2
        exact u2
theorem GI_safe (h : GI V ac s k a o) (hk : k ≤ 12) {D : Nat} : (∀ T, s.2.1 T → V T &&& D = 0) ↔ (o ||| tB V ac a (k - a)) &&& D = 0 := by
  obtain ⟨h1, h2, Old, h3, h4⟩ := h
  constructor
  · intro hh
    refine Classical.byContradiction fun q => ?_
    rcases orD.mp q with q | q
    · obtain ⟨T, t1, t2⟩ := (h3 D).mp q
      exact t2 (hh T ((h4 T).mpr (Or.inl t1)))
    · obtain ⟨U, u1, u2⟩ := (tB_ne (by omega)).mp q
      exact u2 (hh _ ((h4 _).mpr (Or.inr ⟨U, u1, rfl⟩)))
  · intro hh T hT
    refine Classical.byContradiction fun q => ?_
    rcases (h4 T).mp hT with t | ⟨U, u1, u2⟩
    · exact orD.mpr (Or.inl ((h3 D).mpr ⟨T, t, q⟩)) hh
    · exact orD.mpr (Or.inr ((tB_ne (by omega)).mpr ⟨U, u1, by rw [← u2]; exact q⟩)) hh
theorem tB_no (hw : isw (ac k) = false) (ha : a ≤ k) : tB V ac a (k + 1 - a) = tB V ac a (k - a) := by
  rw [show k + 1 - a = (k - a) + 1 by omega]
  simp only [tB]
  rw [show a + (k - a) = k by omega, hw, if_neg (by decide)]
end
