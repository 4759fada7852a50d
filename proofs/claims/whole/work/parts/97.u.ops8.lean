/-! ===== pure: both sides alike: bounds, shortest ===== -/
section
variable {k : Nat} {d : Dm}
theorem ok_bounds (h : KI k d) (x y w : Int32) : OK1 k (Main_bounds 1 x y w) (Mod_bounds 65 x y w) d := by
  obtain ⟨r, n, ac, f, ev, sv, ns, st, A, t, pn, b, e, fd, h1, h2, h3, h4⟩ := h
  have hn := h1.1.1.1.1.1
  refine ok_read h1 h2 h3 h4 (bounds_eq h1.1 x y w) (fun d1 m1 => boundsM m1 x y w) ?_
  have bad : ∀ {i : Nat}, i ≤ n → y = nI i → (w = 0 ∨ w = 1) → ¬ (¬ (0 ≤ y ∧ y ≤ nI n) ∨ (w ≠ 0 ∧ w ≠ 1)) := fun a p c q => by
    rcases q with q | q
    · exact q (hasB a hn p)
    · exact c.elim q.1 q.2
  rintro z z' (⟨q, z1⟩ | ⟨c, hc, hx, hz⟩) (⟨q', w1⟩ | ⟨c', hc', hx', hz'⟩)
  · exact z1.trans w1.symm
  · exact absurd (by rw [hx']; exact nI_sec hc') q
  · exact absurd (by rw [hx]; exact nI_sec hc) q'
  · have ec : c = c' := (nI_c (by omega) (by omega)).mp (hx.symm.trans hx')
    subst ec
    rcases hz with ⟨q, z1⟩ | ⟨hw, i, hi, hy, s, Q, m, l1, z1, ⟨j, hj, hm⟩, hall⟩ <;> rcases hz' with ⟨q', w1⟩ | ⟨hw', i', hi', hy', s', Q', m', l1', w1, ⟨j', hj', hm'⟩, hall'⟩
    · exact z1.trans w1.symm
    · exact absurd q (bad hi' hy' hw')
    · exact absurd q' (bad hi hy hw)
    · have := eqk hi hi' hn hy hy'
      subst this
      have es := LQ_size l1 l1'
      subst es
      have e1 := hall j' hj'
      have e2 := hall' j hj
      rw [(LQ_at l1 l1' j' hj').2, ← hm'] at e1
      rw [← (LQ_at l1 l1' j hj).2, ← hm] at e2
      have : m = m' := by
        rcases hw with rfl | rfl
        · rw [if_pos rfl] at e1 e2; omega
        · rw [if_neg (by decide)] at e1 e2; omega
      rw [z1, w1, this]
end
