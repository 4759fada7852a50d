/-! ===== pure: what stands at first ===== -/
set_option maxRecDepth 20000 in
theorem f_r1 : dS.2.2 1 0 = 2 ∧ dS.2.2 1 1 = 3 ∧ dS.2.2 1 2 = 17 ∧ dS.2.2 1 3 = 32 ∧ dS.2.2 1 4 = 52 ∧ dS.2.2 1 5 = 54 ∧ dS.2.2 1 6 = 58 ∧ dS.2.2 1 7 = 61 ∧ dS.2.2 2 0 = 3 ∧ dS.2.2 2 1 = 17 ∧ dS.2.2 2 2 = 32 ∧ dS.2.2 2 3 = 51 ∧ dS.2.2 3 0 = 4 ∧ dS.2.2 17 0 = 18 ∧ dS.2.2 17 3 = 19 ∧ dS.2.2 32 0 = 33 ∧ dS.2.2 32 2 = 34 ∧ dS.2.2 52 0 = 53 ∧ dS.2.2 54 0 = 55 ∧ dS.2.2 54 1 = 57 ∧ dS.2.2 55 0 = 56 ∧ dS.2.2 58 0 = 59 ∧ dS.2.2 58 1 = 60 ∧ dS.2.2 61 0 = 62 ∧ dS.2.2 61 1 = 63 ∧ dS.2.2 61 2 = 64 := by decide +kernel
set_option maxRecDepth 20000 in
theorem f_r2 : ∀ j, j < 6 → dS.2.2 18 j = 20 + 2 * j ∧ dS.2.2 (20 + 2 * j) 0 = 21 + 2 * j := by decide +kernel
set_option maxRecDepth 20000 in
theorem f_r3 : ∀ j, j < 8 → dS.2.2 33 j = 35 + 2 * j ∧ dS.2.2 (35 + 2 * j) 0 = 36 + 2 * j := by decide +kernel
set_option maxRecDepth 20000 in
theorem f_r4 : ∀ i, i < 12 → dS.2.2 4 i = 5 + i := by decide +kernel
set_option maxRecDepth 20000 in
theorem f_r5 : MRf dS.2.2 := by
  unfold MRf
  decide +kernel
set_option maxRecDepth 20000 in
theorem f_rf : Rf dS.2.2 := ⟨f_r1, f_r2, f_r3, fun i hi => by rw [f_r4 i hi]; omega, fun i j hi hj h => by rw [f_r4 i hi, f_r4 j hj] at h; omega⟩
set_option maxRecDepth 20000 in
theorem f_i1 : dS.1 3 1 = nI 0 ∧ dS.2.1 3 2 = lN (pw (fun _ => 0)) ∧ dS.1 17 1 = nI 0 ∧ dS.1 17 2 = nI 0 ∧ dS.1 32 1 = nI 0 ∧ dS.1 2 4 = nI 1 ∧ dS.1 58 3 = -1 ∧ dS.1 52 1 = nI 0 ∧ dS.1 1 8 = nI 1 ∧ dS.1 1 9 = nI 5 ∧ dS.1 1 10 = nI 0 := by decide +kernel
set_option maxRecDepth 20000 in
theorem f_i2 : dS.1 65 1 = nI 0 ∧ dS.1 65 6 = nI 0 ∧ dS.1 65 10 = nI 0 ∧ dS.1 65 27 = 0 ∧ dS.1 65 4 = nI 0 ∧ dS.1 65 13 = nI 1 ∧ dS.1 65 14 = nI 5 ∧ dS.1 65 15 = nI 0 := by decide +kernel
set_option maxRecDepth 20000 in
theorem f_i3 : ∀ s, s < 8 → dS.1 66 s = nI 0 := by decide +kernel
set_option maxRecDepth 20000 in
theorem f_i4 : ∀ i, dS.1 51 i = 0 := fun i => rfl
theorem KI_0 : KI 0 dS := by
  obtain ⟨a1, a2, a3, a4, a5, a6, a7, a8, a9, a10, a11⟩ := f_i1
  obtain ⟨b1, b2, b3, b4, b5, b6, b7, b8⟩ := f_i2
  have hp : okP (fun _ => 0) := ⟨fun _ => by show 0 < 100; omega, fun _ _ => rfl⟩
  refine ⟨0, 0, fun _ _ => 0, fun _ => 0, fun _ _ => false, fun _ p => p, 0, 1, 0, fun _ => 0, 0, 1, 5, 0, ⟨⟨⟨?_, ?_, ?_, ?_⟩, ⟨a4, by omega⟩, Or.inl a7⟩, ⟨by omega, a8, fun i hi => by omega⟩, ⟨a9, a10⟩, a11⟩, ⟨⟨⟨f_r5, ?_, ?_, ?_, by omega⟩, Or.inl b4⟩, ⟨by omega, b5, fun i hi => by omega⟩, ⟨b6, b7, b8⟩⟩, by omega, by omega, by omega, by omega⟩
  · exact ⟨⟨by omega, hp, fun i hi => by omega⟩, a1, a2, fun i hi => by omega, f_rf⟩
  · exact ⟨by omega, a3, fun j hj => by omega⟩
  · exact ⟨by omega, a5, fun j hj => by omega⟩
  · exact ⟨by omega, by omega, a6, fun i hi => ⟨0, 0, (f_i4 i).trans rfl, by omega, by omega, fun h => by omega⟩⟩
  · exact ⟨⟨by omega, hp, fun i hi => by omega⟩, b1, fun s hs => f_i3 s hs, fun i hi => by omega⟩
  · exact ⟨by omega, b2, fun j hj => by omega⟩
  · exact ⟨by omega, b3, fun j hj => by omega⟩
