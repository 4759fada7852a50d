/-! ===== pure: the list is one ===== -/
section
variable {n k : Nat} {ac : Nat → Ac} {f : Pl}
theorem LQ_at {s s' : Nat} {Q Q' : Nat → Pl} (h : LQ ac f n k s Q) (h' : LQ ac f n k s' Q') : ∀ j, j < s → j < s' ∧ Q j = Q' j := by
  have to : ∀ j, j < s → ∃ i, i < s' ∧ Q' i = Q j := fun j hj => by
    obtain ⟨T, t1, t2⟩ := h.2.1 j hj
    obtain ⟨i, i1, i2⟩ := h'.2.2 T t1
    exact ⟨i, i1, i2.trans t2.symm⟩
  have fro : ∀ j, j < s' → ∃ i, i < s ∧ Q i = Q' j := fun j hj => by
    obtain ⟨T, t1, t2⟩ := h'.2.1 j hj
    obtain ⟨i, i1, i2⟩ := h.2.2 T t1
    exact ⟨i, i1, i2.trans t2.symm⟩
  intro j
  induction j using Nat.strongRecOn with
  | _ j ih =>
    intro hj
    obtain ⟨i, i1, i2⟩ := to j hj
    rcases Nat.lt_trichotomy i j with hij | hij | hij
    · have h1 := (ih i hij (by omega)).2
      have h2 := h.1 i j hij hj
      rw [h1, i2] at h2
      omega
    · subst hij
      exact ⟨i1, i2.symm⟩
    · exfalso
      obtain ⟨i', e1, e2⟩ := fro j (by omega)
      have h3 := h'.1 j i hij i1
      rw [i2, ← e2] at h3
      have hlt : i' < j := by
        rcases Nat.lt_trichotomy i' j with q | q | q
        · exact q
        · subst q; omega
        · have := h.1 j i' q e1; omega
      have h4 := (ih i' hlt e1).2
      have h5 := h'.1 i' j hlt (by omega)
      rw [← h4, e2] at h5
      omega
theorem LQ_size {s s' : Nat} {Q Q' : Nat → Pl} (h : LQ ac f n k s Q) (h' : LQ ac f n k s' Q') : s = s' := by
  rcases Nat.lt_trichotomy s s' with q | q | q
  · have := (LQ_at h' h s q).1; omega
  · exact q
  · have := (LQ_at h h' s' q).1; omega
end
noncomputable def szN (ac : Nat → Ac) (f : Pl) (n k : Nat) : Nat := Classical.epsilon (fun s => ∃ Q, LQ ac f n k s Q)
theorem szN_eq {ac : Nat → Ac} {f : Pl} {n k s : Nat} {Q : Nat → Pl} (h : LQ ac f n k s Q) : szN ac f n k = s := by
  have := Classical.epsilon_spec (p := fun s => ∃ Q, LQ ac f n k s Q) ⟨s, Q, h⟩
  obtain ⟨Q', hQ'⟩ := this
  exact LQ_size hQ' h
