/-! ===== pure: both sides alike: shortest ===== -/
section
variable {k : Nat} {d : Dm}
theorem ok_shortest (h : KI k d) (x : Int32) : OK1 k (Main_shortest 1 x) (Mod_shortest 65 x) d := by
  obtain ⟨r, n, ac, f, ev, sv, ns, st, A, t, pn, b, e, fd, h1, h2, h3, h4⟩ := h
  refine ok_read h1 h2 h3 h4 (shortest_eq h1.1 x) (fun d1 m1 => shortestM m1 x) ?_
  rintro z z' (⟨q, z1⟩ | ⟨q, z1, q1⟩ | ⟨q, c, hc, q1, q2, hz⟩) (⟨q', w1⟩ | ⟨q', w1, q1'⟩ | ⟨q', c', hc', q1', q2', hz'⟩)
  · exact z1.trans w1.symm
  · exact absurd q' q
  · exact absurd q' q
  · exact absurd q q'
  · exact z1.trans w1.symm
  · exact absurd q1' (q1 c' hc')
  · exact absurd q q'
  · exact absurd q1 (q1' c hc)
  · have ec : c = c' := by
      rcases Nat.lt_trichotomy c c' with g | g | g
      · exact absurd q1 (q2' c g)
      · exact g
      · exact absurd q1' (q2 c' g)
    subst ec
    rcases hz with ⟨x0, z1⟩ | ⟨x0, s, Q, j, T, l1, hj, g1, g2, g3, g4, g5, z1⟩ <;> rcases hz' with ⟨x0', w1⟩ | ⟨x0', s', Q', j', T', l1', hj', g1', g2', g3', g4', g5', w1⟩
    · exact z1.trans w1.symm
    · exact absurd x0 x0'
    · exact absurd x0' x0
    · have es := LQ_size l1 l1'
      subst es
      have ej : j = j' := by
        rcases Nat.lt_trichotomy j j' with g | g | g
        · have := g2' j g
          rw [← (LQ_at l1 l1' j hj).2] at this
          exact absurd this g1
        · exact g
        · have := g2 j' g
          rw [(LQ_at l1 l1' j' hj').2] at this
          exact absurd this g1'
      subst ej
      have eQ := (LQ_at l1 l1' j hj).2
      have eT : T = T' := Nat.le_antisymm (g5 T' g3' (by rw [eQ]; exact g4')) (g5' T g3 (by rw [← eQ]; exact g4))
      subst eT
      rw [eQ] at z1
      rcases z1 with ⟨a1, z1⟩ | ⟨a1, z1⟩ | ⟨a1, a2, z1⟩ <;> rcases w1 with ⟨b1, w1⟩ | ⟨b1, w1⟩ | ⟨b1, b2, w1⟩
      · exact z1.trans w1.symm
      · rw [a1] at b1; exact absurd b1 (by decide)
      · exact absurd a1 b1
      · rw [a1] at b1; exact absurd b1 (by decide)
      · exact z1.trans w1.symm
      · exact absurd a1 b2
      · exact absurd b1 a1
      · exact absurd b1 a2
      · exact z1.trans w1.symm
end
