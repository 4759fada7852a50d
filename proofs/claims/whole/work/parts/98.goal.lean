theorem pure_goal : ∀ (xs : Nat → Int32) (L : Nat), L ≤ 2560 → ∃ d', Law_law_18 xs L 1000 1 65 (0 : Int32) dS = some (1, d') := by
  intro xs L hL
  obtain ⟨z, d', h, rfl⟩ := law_loop (xs := xs) hL KI_0
  exact ⟨d', h⟩
