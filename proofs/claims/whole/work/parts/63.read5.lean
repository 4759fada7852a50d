/-! ===== pure: the reader takes a letter, whole ===== -/
section
variable {α : Type} {g0 g1 g2 g3 g4 g5 g : MM α}
theorem w6_0 : sw (nI 0) (0 : Int32) [g0, g1, g2, g3, g4, g5] g = g0 := rfl
theorem w6_1 : sw (nI 1) (0 : Int32) [g0, g1, g2, g3, g4, g5] g = g1 := rfl
theorem w6_2 : sw (nI 2) (0 : Int32) [g0, g1, g2, g3, g4, g5] g = g2 := rfl
theorem w6_3 : sw (nI 3) (0 : Int32) [g0, g1, g2, g3, g4, g5] g = g3 := rfl
theorem w6_4 : sw (nI 4) (0 : Int32) [g0, g1, g2, g3, g4, g5] g = g4 := rfl
theorem w6_5 : sw (nI 5) (0 : Int32) [g0, g1, g2, g3, g4, g5] g = g5 := rfl
theorem w6_6 : sw (nI 6) (0 : Int32) [g0, g1, g2, g3, g4, g5] g = g := rfl
end
section
variable {I : Nat → Nat → Int32} {a b c e : Nat → Int32} {L : Nat → Nat → Int64} {R : Nat → Nat → Nat}
theorem ends_28 {x : Nat} (hx : x < 128) : Read_endsComparison_28 54 (nI x) (1 : Int32) (u4 I a b c e, L, R) = some (if a 5 = 1 ∧ x ≠ 43 ∧ x ≠ 45 then 1 else 0, (u4 I a b c e, L, R)) := by
  have hl := rc_lit hx
  apply wp_get
  unfold Read_endsComparison_28
  rw [if_neg (by decide), wp_mb, wp_gI]
  refine ⟨rfl, ?_⟩
  simp only [u4_54]
  by_cases h5 : a 5 = 1
  · rw [if_pos h5]
    by_cases h43 : x = 43
    · rw [if_pos (hl.2.2.2.2.1.mpr h43), wp_mz, if_neg (by simp [h43])]
      exact ⟨Or.inl rfl, rfl, rfl⟩
    · rw [if_neg (fun q => h43 (hl.2.2.2.2.1.mp q))]
      by_cases h45 : x = 45
      · rw [if_pos (hl.2.2.2.2.2.1.mpr h45), wp_mz, if_neg (by simp [h45])]
        exact ⟨Or.inl rfl, rfl, rfl⟩
      · rw [if_neg (fun q => h45 (hl.2.2.2.2.2.1.mp q)), wp_mz, if_pos ⟨h5, h43, h45⟩]
        exact ⟨Or.inr rfl, rfl, rfl⟩
  · rw [if_neg h5, wp_mz, if_neg (fun q => h5 q.1)]
    exact ⟨Or.inl rfl, rfl, rfl⟩
theorem ends_27 (x : Int32) (d : Dm) : Read_endsComparison_27 54 x d = some (0, d) := by
  apply wp_get
  unfold Read_endsComparison_27 Read_endsComparison_28
  rw [if_pos rfl, wp_mz]
  exact ⟨Or.inl rfl, rfl, rfl⟩
theorem ends_no {x : Nat} (hx : x < 128) {n : Nat} (h4 : a 4 = nI n) (hn : n ≠ 3) (hn2 : n < 10) (hd : n = 2 → isD x = true ∨ a 5 ≠ 1 ∨ x = 43 ∨ x = 45) : Read_endsComparison 54 (nI x) (u4 I a b c e, L, R) = some (0, (u4 I a b c e, L, R)) := by
  apply wp_get
  unfold Read_endsComparison
  rw [wp_mb, wp_gI]
  refine ⟨rfl, ?_⟩
  simp only [u4_54, h4]
  rw [if_neg (show ¬ nI n = (3 : Int32) from fun q => hn ((nI_eq (b := 3) (by omega) (by omega)).mp q)), wp_mb, wp_gI]
  refine ⟨rfl, ?_⟩
  simp only [u4_54, h4]
  by_cases h2 : n = 2
  · rw [if_pos (show nI n = (2 : Int32) from (nI_eq (b := 2) (by omega) (by omega)).mpr h2)]
    simp only [wp_mb, wp_eq (rdig_eq hx _)]
    cases hdx : isD x with
    | true =>
      rw [if_neg (by decide), wp_eq (ends_27 _ _)]
      exact ⟨rfl, rfl⟩
    | false =>
      rw [if_pos (by decide)]
      unfold Read_endsComparison_23
      rw [wp_eq (ends_28 hx)]
      refine ⟨if_neg (fun q => ?_), rfl⟩
      rcases hd h2 with h | h | h | h
      · rw [hdx] at h; cases h
      · exact h q.1
      · exact q.2.1 h
      · exact q.2.2 h
  · rw [if_neg (show ¬ nI n = (2 : Int32) from fun q => h2 ((nI_eq (b := 2) (by omega) (by omega)).mp q)), wp_eq (ends_27 _ _)]
    exact ⟨rfl, rfl⟩
theorem ends_yes {x : Nat} (hx : x < 128) {n : Nat} (h4 : a 4 = nI n) (hn : n = 3 ∨ (n = 2 ∧ isD x = false)) : Read_endsComparison 54 (nI x) (u4 I a b c e, L, R) = some (if a 5 = 1 ∧ x ≠ 43 ∧ x ≠ 45 then 1 else 0, (u4 I a b c e, L, R)) := by
  apply wp_get
  unfold Read_endsComparison Read_endsComparison_23
  rw [wp_mb, wp_gI]
  refine ⟨rfl, ?_⟩
  simp only [u4_54, h4]
  rcases hn with rfl | ⟨rfl, hd⟩
  · rw [if_pos (show nI 3 = (3 : Int32) from rfl), wp_eq (ends_28 hx)]
    exact ⟨rfl, rfl⟩
  · rw [if_neg (by decide), wp_mb, wp_gI]
    refine ⟨rfl, ?_⟩
    simp only [u4_54, h4]
    rw [if_pos (show nI 2 = (2 : Int32) from rfl)]
    simp only [wp_mb, wp_eq (rdig_eq hx _), hd]
    rw [if_pos (show bI false = 0 by decide), wp_eq (ends_28 hx)]
    exact ⟨rfl, rfl⟩
theorem TQ_o {sp : Bool} {n : Option Nat} {o o' k : Nat} {p : Pl} {s s' : VS} {z : Int32} {d' : Dm} (h : TQ I L R sp n o k p s z d') (ho : n ≠ none → o' = o ∧ s' = s) : TQ I L R sp n o' k p s' z d' := by
  obtain ⟨a', b', c', e', e1, h1⟩ := h
  refine ⟨a', b', c', e', e1, ?_⟩
  cases n with
  | none => exact h1
  | some q =>
    obtain ⟨r1, r2⟩ := ho (by simp)
    rw [r1, r2]
    exact h1
theorem TQ_n {sp : Bool} {n n' : Option Nat} {o k : Nat} {p : Pl} {s : VS} {z : Int32} {d' : Dm} (h : TQ I L R sp n o k p s z d') (hn : n' = n) : TQ I L R sp n' o k p s z d' := by rw [hn]; exact h
theorem TQ_01 {sp : Bool} {n : Option Nat} {o k : Nat} {p : Pl} {s : VS} {z : Int32} {d' : Dm} (h : TQ I L R sp n o k p s z d') : (z = 0 ∨ z = 1) ∧ TQ I L R sp n o k p s z d' := by
  refine ⟨?_, h⟩
  obtain ⟨a', b', c', e', e1, h1⟩ := h
  cases n with
  | none => exact Or.inl h1
  | some q => exact Or.inr h1.1
theorem nx_LD {sp : Bool} {q o x : Nat} (hq : q = 1 ∨ q = 4 ∨ q = 10) (h : nx sp q o x ≠ none) : x ≠ 40 ∧ x ≠ 41 := by
  have : isL x = true ∨ isD x = true := by
    by_cases hl : isL x = true
    · exact Or.inl hl
    · by_cases hd : isD x = true
      · exact Or.inr hd
      · exfalso
        apply h
        rcases hq with rfl | rfl | rfl <;> simp [nx, hl, hd]
  rcases this with h | h
  · have := isL_iff.mp h; omega
  · have := isD_iff.mp h; omega
/-- what stands behind a unit, as the states tell it -/
theorem TB_TQ {sp : Bool} {q o k x : Nat} {p : Pl} {s : VS} {z : Int32} {d' : Dm} (hq : q = 2 ∨ q = 3 ∨ q = 11 ∨ q = 12 ∨ ((q = 5 ∨ q = 6) ∧ (x = 43 ∨ x = 45))) (hd : (q = 3 ∨ q = 6 ∨ q = 12) → isD x = false) (h : TB I L R sp q o k x p s z d') : TQ I L R sp (nx sp q o x) (nxO o x) (k + 1) p (vst p q x s) z d' := by
  obtain ⟨⟨o1, a1, n1⟩, g, T, U, m, y, Rl, v, tg⟩ := s
  obtain ⟨a', b', c', e', e1, h1⟩ := h
  refine ⟨a', b', c', e', e1, ?_⟩
  by_cases hs : x = 43 ∨ x = 45
  · rw [if_pos hs] at h1
    have en : nx sp q o x = some (qU q) := by
      rcases hq with rfl | rfl | rfl | rfl | ⟨rfl | rfl, -⟩ <;> simp [nx, qU, hs] <;> simp [hd]
    have ev : vst p q x ((o1, a1, n1), g, T, U, m, y, Rl, v, tg) = ((o1, a1, n1), g, T, U, decide (x = 45), y, Rl, v, tg) := by
      rcases hq with rfl | rfl | rfl | rfl | ⟨rfl | rfl, -⟩ <;> simp [vst, hs] <;> simp [hd]
    rw [en, ev, nxO_o (by omega) (by omega)]
    exact h1
  · rw [if_neg hs] at h1
    by_cases hm : q ≤ 3 ∧ isM x = true
    · rw [if_pos hm] at h1
      have hm2 := isM_iff.mp hm.2
      have en : nx sp q o x = some 4 := by
        rcases hq with rfl | rfl | rfl | rfl | ⟨-, hx⟩
        · simp [nx, hs, hm.2]
        · simp [nx, hs, hm.2, hd]
        · omega
        · omega
        · exact absurd hx hs
      have ev : vst p q x ((o1, a1, n1), g, T, U, m, y, Rl, v, tg) = ((o1, a1, n1), g, T, U, false, y, x, v, tg) := by
        rcases hq with rfl | rfl | rfl | rfl | ⟨-, hx⟩
        · simp [vst, hs]
        · simp [vst, hs, hd]
        · omega
        · omega
        · exact absurd hx hs
      rw [en, ev, nxO_o (by omega) (by omega)]
      exact h1
    · rw [if_neg hm] at h1
      have en : nx sp q o x = none := by
        rcases hq with rfl | rfl | rfl | rfl | ⟨-, hx⟩
        · have : isM x = false := by simpa using hm
          simp [nx, hs, this]
        · have : isM x = false := by simpa using hm
          simp [nx, hs, this, hd]
        · simp [nx, hs]
        · simp [nx, hs, hd]
        · exact absurd hx hs
      rw [en]
      exact h1
end
