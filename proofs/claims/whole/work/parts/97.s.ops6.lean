/-! ===== pure: both sides alike: calls that ask ===== -/
section
variable {k : Nat} {d : Dm}
theorem hasB {x : Int32} {n j : Nat} (hj : j ≤ n) (hn : n ≤ 12) (hx : x = nI j) : (0 ≤ x ∧ x ≤ nI n) := by rw [hx]; exact nI_hasB hj (by omega)
theorem eqk {x : Int32} {i j n : Nat} (hi : i ≤ n) (hj : j ≤ n) (hn : n ≤ 12) (h1 : x = nI i) (h2 : x = nI j) : i = j := (nI_c (by omega) (by omega)).mp (h1.symm.trans h2)
theorem ok_found (h : KI k d) (x : Int32) : OK1 k (Main_found 1 x) (Mod_found 65 x) d := by
  obtain ⟨r, n, ac, f, ev, sv, ns, st, A, t, pn, b, e, fd, h1, h2, h3, h4⟩ := h
  have hn := h1.1.1.1.1.1
  refine ok_read (R := fun z => (¬ (0 ≤ x ∧ x ≤ nI n) ∧ z = -102) ∨ ∃ k s Q, k ≤ n ∧ x = nI k ∧ z = nI s ∧ LQ ac f n k s Q) h1 h2 h3 h4 ?_ (fun d1 m1 => foundM m1 x) ?_
  · rcases ib_cases x (n := n) (by omega) with hx | ⟨j, hj, hx⟩
    · rw [wp_eq (found_no h1.1 hx)]
      exact ⟨frX_rf d, h1.1, Or.inl ⟨hx, rfl⟩⟩
    · subst hx
      exact wp_mono (found_ok h1.1 hj) (fun z d' ⟨a1, a2, s, Q, a3, a4⟩ => ⟨a1, a2, Or.inr ⟨j, s, Q, hj, rfl, a3, a4⟩⟩)
  · rintro z z' (⟨q, z1⟩ | ⟨j, s, Q, hj, hx, z1, z2⟩) (⟨q', w1⟩ | ⟨j', s', Q', hj', hx', w1, w2⟩)
    · exact z1.trans w1.symm
    · exact absurd (hasB hj' hn hx') q
    · exact absurd (hasB hj hn hx) q'
    · have := eqk hj hj' hn hx hx'
      subst this
      rw [z1, w1, LQ_size z2 w2]
theorem ok_plate (h : KI k d) (x y : Int32) : OK1 k (Main_plate 1 x y) (Mod_plate 65 x y) d := by
  obtain ⟨r, n, ac, f, ev, sv, ns, st, A, t, pn, b, e, fd, h1, h2, h3, h4⟩ := h
  have hn := h1.1.1.1.1.1
  refine ok_read (R := fun z => (¬ (0 ≤ x ∧ x ≤ nI n) ∧ z = -2) ∨ ∃ k s Q, k ≤ n ∧ x = nI k ∧ s ≤ 8192 ∧ LQ ac f n k s Q ∧ ((¬ (0 ≤ y ∧ y < nI s) ∧ z = -1) ∨ ∃ j, j < s ∧ y = nI j ∧ z = lN (num (Q j)))) h1 h2 h3 h4 ?_ (fun d1 m1 => plateMM m1 x y) ?_
  · rcases ib_cases x (n := n) (by omega) with hx | ⟨j, hj, hx⟩
    · rw [wp_eq (plate_no h1.1 hx)]
      exact ⟨frX_rf d, h1.1, Or.inl ⟨hx, rfl⟩⟩
    · subst hx
      exact wp_mono (plate_ok h1.1 hj y) (fun z d' ⟨a1, a2, s, Q, a3, a4, a5⟩ => ⟨a1, a2, Or.inr ⟨j, s, Q, hj, rfl, by omega, a4, a5⟩⟩)
  · rintro z z' (⟨q, z1⟩ | ⟨j, s, Q, hj, hx, z0, z2, z3⟩) (⟨q', w1⟩ | ⟨j', s', Q', hj', hx', w0, w2, w3⟩)
    · exact z1.trans w1.symm
    · exact absurd (hasB hj' hn hx') q
    · exact absurd (hasB hj hn hx) q'
    · have := eqk hj hj' hn hx hx'
      subst this
      have es := LQ_size z2 w2
      subst es
      rcases z3 with ⟨q, z1⟩ | ⟨i, hi, hy, z1⟩ <;> rcases w3 with ⟨q', w1⟩ | ⟨i', hi', hy', w1⟩
      · exact z1.trans w1.symm
      · exact absurd (by rw [hy']; exact nI_has hi' (by omega)) q
      · exact absurd (by rw [hy]; exact nI_has hi (by omega)) q'
      · have ei : i = i' := (nI_eq (by omega) (by omega)).mp (hy.symm.trans hy')
        subst ei
        rw [z1, w1, (LQ_at z2 w2 i hi).2]
theorem ok_safe (h : KI k d) : OK1 k (Main_safe 1) (Mod_safe 65) d := by
  obtain ⟨r, n, ac, f, ev, sv, ns, st, A, t, pn, b, e, fd, h1, h2, h3, h4⟩ := h
  refine ok_read h1 h2 h3 h4 (safe_eq h1.1) (fun d1 m1 => safeM m1) ?_
  rintro z z' (⟨z1, q⟩ | ⟨z1, j, hj, q⟩) (⟨w1, q'⟩ | ⟨w1, j', hj', q'⟩)
  · exact z1.trans w1.symm
  · exact absurd q' (q j' hj')
  · exact absurd q (q' j hj)
  · exact z1.trans w1.symm
theorem ok_needless (h : KI k d) : OK1 k (Main_needless 1) (Mod_needless 65) d := by
  obtain ⟨r, n, ac, f, ev, sv, ns, st, A, t, pn, b, e, fd, h1, h2, h3, h4⟩ := h
  exact ok_read h1 h2 h3 h4 (needless_eq h1.1) (fun d1 m1 => needlessM m1) (fun x y a c => a.trans c.symm)
theorem ok_end (h : KI k d) : OK1 k (Main_end 1) (Mod_end 65) d := by
  obtain ⟨r, n, ac, f, ev, sv, ns, st, A, t, pn, b, e, fd, h1, h2, h3, h4⟩ := h
  refine ok_read (R := fun z => z = lN (num (pS ac f (wm ac n) n))) h1 h2 h3 h4 ?_ (fun d1 m1 => ?_) (fun x y a c => a.trans c.symm)
  · rw [wp_eq (end_eq h1.1)]
    exact ⟨frX_rf d, h1.1, rfl⟩
  · rw [wp_eq (endM m1.1.1 m1.1.2.1)]
    exact ⟨fP_75 (fr_75 d1 _), m1.fN (fN_75 d1 _), rfl⟩
end
