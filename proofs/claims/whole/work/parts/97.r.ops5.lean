/-! ===== pure: both sides alike: texts, counts, digest, fewest ===== -/
section
variable {k : Nat} {d : Dm}
theorem frR.c {d d' : Dm} (h : frR d d') : ∀ x, 65 ≤ x → d'.1 x = d.1 x ∧ d'.2.1 x = d.2.1 x ∧ d'.2.2 x = d.2.2 x := fun x hx => ⟨h.1 x (by omega), by rw [h.2], by rw [h.2]⟩
theorem ok_good (h : KI k d) (x : Int32) : OK1 k (Main_good 1 x) (Mod_good 65 x) d := by
  have hup := h.up
  obtain ⟨r, n, ac, f, ev, sv, ns, st, A, t, pn, b, e, fd, h1, h2, h3, h4⟩ := h
  refine wp_mono (mgood_eq h1.1.1.1.2.2.2.2 h1.2.1 x) (fun z d1 hz => ?_)
  rcases hz with ⟨q, z1, rfl⟩ | ⟨q, ⟨m, z1, z2⟩, g1⟩
  · refine wp_mono (goodM h2 x) (fun z' d2 hz' => ?_)
    rcases hz' with ⟨_, w1, rfl⟩ | ⟨q', _⟩
    · exact ⟨z1.trans w1.symm, hup⟩
    · exact absurd q' q
  · refine wp_mono (goodM (h2.cls g1.c) x) (fun z' d2 hz' => ?_)
    rcases hz' with ⟨q', _⟩ | ⟨_, ⟨m', w1, w2⟩, w3, w4⟩
    · exact absurd q q'
    · have em := GD_one z2 w2
      subst em
      have hC : CI r n ac f ev sv ns st A t pn (nI b) (nI e) fd d1 := ⟨h1.1.fR g1, ⟨h1.2.1.1, by rw [g1.1 52 (by omega)]; exact h1.2.1.2.1, fun i hi => by rw [g1.1 53 (by omega)]; exact h1.2.1.2.2 i hi⟩, ⟨by rw [g1.1 1 (by omega)]; exact h1.2.2.1.1, by rw [g1.1 1 (by omega)]; exact h1.2.2.1.2⟩, by rw [g1.1 1 (by omega)]; exact h1.2.2.2⟩
      exact ⟨z1.trans w1.symm, KI.mk (hC.ref w3) w4 (by omega) h4⟩
theorem ok_rule (h : KI k d) (hk : k < 90000) : OK1 k (Main_rule 1) (Mod_rule 65) d := by
  obtain ⟨r, n, ac, f, ev, sv, ns, st, A, t, pn, b, e, fd, h1, h2, h3, h4⟩ := h
  refine wp_mono (rule_eq h1.1 (by omega) h1.2.1) (fun z d1 ⟨g1, hz⟩ => ?_)
  have r1 := (g1 1 (by omega)).1
  have hc : CK (nI b) (nI e) d1 := ⟨by rw [r1]; exact h1.2.2.1.1, by rw [r1]; exact h1.2.2.1.2⟩
  have hF : d1.1 1 10 = nI fd := by rw [r1]; exact h1.2.2.2
  refine wp_mono (ruleM (h2.cls g1.c)) (fun z' d2 ⟨w0, hz'⟩ => ?_)
  rcases hz with ⟨hz, c1, c2⟩ | ⟨q1, q2, z1, c1, c2⟩
  · rcases hz' with ⟨hz', m1⟩ | ⟨p1, p2, _⟩
    · refine ⟨?_, KI.mk (CI.ref ⟨c1, c2, hc, hF⟩ w0) m1 (by omega) h4⟩
      rcases hz with ⟨q1, z1⟩ | ⟨q1, q2, z1⟩ <;> rcases hz' with ⟨p1, w1⟩ | ⟨p1, p2, w1⟩
      · exact z1.trans w1.symm
      · exact absurd p1 q1
      · exact absurd q1 p1
      · exact z1.trans w1.symm
    · rcases hz with ⟨q1, z1⟩ | ⟨q1, q2, z1⟩
      · exact absurd p1 q1
      · omega
  · rcases hz' with ⟨hz', m1⟩ | ⟨p1, p2, w1, m1⟩
    · rcases hz' with ⟨p1, w1⟩ | ⟨p1, p2, w1⟩
      · exact absurd q1 p1
      · omega
    · exact ⟨z1.trans w1.symm, KI.mk (CI.ref ⟨c1, c2, hc, hF⟩ w0) m1 (by omega) h4⟩
theorem ok_step (h : KI k d) (hk : k < 90000) : OK1 k (Main_step 1) (Mod_step 65) d := by
  obtain ⟨r, n, ac, f, ev, sv, ns, st, A, t, pn, b, e, fd, h1, h2, h3, h4⟩ := h
  refine wp_mono (step_eq h1.1 (by omega) h1.2.1) (fun z d1 ⟨g1, hz⟩ => ?_)
  have r1 := (g1 1 (by omega)).1
  have hc : CK (nI b) (nI e) d1 := ⟨by rw [r1]; exact h1.2.2.1.1, by rw [r1]; exact h1.2.2.1.2⟩
  have hF : d1.1 1 10 = nI fd := by rw [r1]; exact h1.2.2.2
  refine wp_mono (stepM (h2.cls g1.c)) (fun z' d2 ⟨w0, hz'⟩ => ?_)
  rcases hz with ⟨hz, c1, c2⟩ | ⟨q1, q2, z1, c1, c2⟩
  · rcases hz' with ⟨hz', m1⟩ | ⟨p1, p2, _⟩
    · refine ⟨?_, KI.mk (CI.ref ⟨c1, c2, hc, hF⟩ w0) m1 (by omega) h4⟩
      rcases hz with ⟨q1, z1⟩ | ⟨q1, q2, z1⟩ <;> rcases hz' with ⟨p1, w1⟩ | ⟨p1, p2, w1⟩
      · exact z1.trans w1.symm
      · exact absurd p1 q1
      · exact absurd q1 p1
      · exact z1.trans w1.symm
    · rcases hz with ⟨q1, z1⟩ | ⟨q1, q2, z1⟩
      · exact absurd p1 q1
      · omega
  · rcases hz' with ⟨hz', m1⟩ | ⟨p1, p2, w1, m1⟩
    · rcases hz' with ⟨p1, w1⟩ | ⟨p1, p2, w1⟩
      · exact absurd q1 p1
      · omega
    · exact ⟨z1.trans w1.symm, KI.mk (CI.ref ⟨c1, c2, hc, hF⟩ w0) m1 (by omega) h4⟩
theorem ok_count (h : KI k d) (x : Int32) : OK1 k (Main_count 1 x) (Mod_count 65 x) d := by
  have hup := h.up
  obtain ⟨r, n, ac, f, ev, sv, ns, st, A, t, pn, b, e, fd, h1, h2, h3, h4⟩ := h
  unfold OK1
  rw [wp_eq (count_eq h1.1 h1.2.1.2.1 h1.2.2.2 x), wp_eq (countM h2 x)]
  exact ⟨rfl, hup⟩
theorem ok_digest (h : KI k d) : OK1 k (Main_digest 1) (Mod_digest 65) d := by
  obtain ⟨r, n, ac, f, ev, sv, ns, st, A, t, pn, b, e, fd, h1, h2, h3, h4⟩ := h
  refine wp_mono (digest_eq h1.1 h1.2.1.1 h1.2.1.2.1 h1.2.2.2) (fun z d1 ⟨g1, g2, g3⟩ => ?_)
  refine wp_mono (digestM (h2.cls g1.c)) (fun z' d2 ⟨w1, w2, w3⟩ => ?_)
  refine ⟨?_, KI.mk ((h1.X g1 g2).ref w1) w2 (by omega) h4⟩
  rw [g3, w3, h1.2.2.1.1, h1.2.2.1.2]
  unfold dgS
  rw [dgC_cong (g := d.1 53) (g' := fun i => nI (t i)) (fun i hi => (h1.2.1.2.2 i hi).1)]
theorem ok_fewest (h : KI k d) (x : Int32) : OK1 k (Main_fewest 1 x) (Mod_fewest 65 x) d := by
  have hup := h.up
  obtain ⟨r, n, ac, f, ev, sv, ns, st, A, t, pn, b, e, fd, h1, h2, h3, h4⟩ := h
  refine wp_mono (fewest_eq h1.1 h1.2.2.1 h1.2.2.2 h4.1 h4.2.1 h4.2.2 x) (fun z d1 hz => ?_)
  rcases hz with ⟨q, z1, rfl⟩ | ⟨q, ⟨q2, z1, rfl⟩ | ⟨q2, q3, z1, g1, g2, g3, g4, g5⟩⟩
  · refine wp_mono (fewestM h2 h4.1 h4.2.1 h4.2.2 x) (fun z' d2 hz' => ?_)
    rcases hz' with ⟨_, w1, rfl⟩ | ⟨q', _⟩
    · exact ⟨z1.trans w1.symm, hup⟩
    · exact absurd q' q
  · refine wp_mono (fewestM h2 h4.1 h4.2.1 h4.2.2 x) (fun z' d2 hz' => ?_)
    rcases hz' with ⟨q', _⟩ | ⟨_, ⟨_, w1, rfl⟩ | ⟨w0, w1, _⟩⟩
    · exact absurd q q'
    · exact ⟨z1.trans w1.symm, hup⟩
    · omega
  · have hm := h2.cls (d' := d1) (fun y hy => ⟨g4 y (by omega), by rw [g5], by rw [g5]⟩)
    refine wp_mono (fewestM hm h4.1 h4.2.1 h4.2.2 x) (fun z' d2 hz' => ?_)
    rcases hz' with ⟨q', _⟩ | ⟨_, ⟨w0, _⟩ | ⟨_, _, w1, w2, w3⟩⟩
    · exact absurd q q'
    · omega
    · have hC : CI r n ac f ev sv ns st A t pn (nI b) (nI e) (fd + 1) d1 := ⟨g1, ⟨h1.2.1.1, by rw [g4 52 (by omega)]; exact h1.2.1.2.1, fun i hi => by rw [g4 53 (by omega)]; exact h1.2.1.2.2 i hi⟩, g2, g3⟩
      exact ⟨z1.trans w1.symm, KI.mk (hC.ref w2) w3 (by omega) ⟨h4.1, h4.2.1, by omega⟩⟩
end
