/-! ===== pure: both sides alike: calls that change ===== -/
section
variable {k : Nat} {d : Dm}
theorem ok_write (h : KI k d) (hk : k < 90000) (x y : Int32) : OK1 k (Main_write 1 x y) (Mod_write 65 x y) d := by
  have hup := h.up
  obtain ⟨r, n, ac, f, ev, sv, ns, st, A, t, pn, b, e, fd, h1, h2, h3, h4⟩ := h
  refine wp_mono (write_eq h1.1 (by omega) x y) (fun z d1 hz => ?_)
  rcases hz with ⟨q, z1, rfl⟩ | ⟨s, hs, hx, hz⟩
  · refine wp_mono (writeM h2 x y) (fun z' d2 hz' => ?_)
    rcases hz' with ⟨_, w1, rfl⟩ | ⟨s, hs, hx, _⟩
    · exact ⟨z1.trans w1.symm, hup⟩
    · exact absurd (by rw [hx]; exact nI_sec hs) q
  · rcases hz with ⟨q, z1, rfl⟩ | ⟨v, hv, hy, hA⟩
    · refine wp_mono (writeM h2 x y) (fun z' d2 hz' => ?_)
      rcases hz' with ⟨q', _⟩ | ⟨s', hs', hx', ⟨_, w1, rfl⟩ | ⟨v, hv, hy, _⟩⟩
      · exact absurd (by rw [hx]; exact nI_sec hs) q'
      · exact ⟨z1.trans w1.symm, hup⟩
      · exact absurd (by rw [hy]; exact nI_fig hv) q
    · refine wp_mono (writeM (h2.cls hA.1.c) x y) (fun z' d2 hz' => ?_)
      rcases hz' with ⟨q', _⟩ | ⟨s', hs', hx', ⟨q', _⟩ | ⟨v', hv', hy', hA'⟩⟩
      · exact absurd (by rw [hx]; exact nI_sec hs) q'
      · exact absurd (by rw [hy]; exact nI_fig hv) q'
      · have es : s' = s := (nI_c (by omega) (by omega)).mp (hx'.symm.trans hx)
        have ev' : v' = v := (nI_c (by omega) (by omega)).mp (hy'.symm.trans hy)
        subst es; subst ev'
        exact ok_add (C := mp 0) (M := mp 0) h1 h2 h3 h4 hA (fun _ => hA')
theorem ok_whole (h : KI k d) (hk : k < 90000) (x y u w : Int32) : OK1 k (Main_whole 1 x y u w) (Mod_whole 65 x y u w) d := by
  have hup := h.up
  obtain ⟨r, n, ac, f, ev, sv, ns, st, A, t, pn, b, e, fd, h1, h2, h3, h4⟩ := h
  refine wp_mono (whole_eq h1.1 (by omega) x y u w) (fun z d1 hz => ?_)
  have bad1 : ∀ {s s' : Nat}, s < 8 → s' < 8 → s ≠ s' → x = nI s → u = nI s' → ¬ (¬ (0 ≤ x ∧ x < 8) ∨ ¬ (0 ≤ u ∧ u < 8) ∨ x = u) := fun {s s'} a c q p1 p2 w => by
    rcases w with w | w | w
    · exact w (by rw [p1]; exact nI_sec a)
    · exact w (by rw [p2]; exact nI_sec c)
    · exact q ((nI_c (by omega) (by omega)).mp (p1.symm.trans (w.trans p2)))
  have bad2 : ∀ {v v' : Nat}, v < 100 → v' < 100 → y = nI v → w = nI v' → ¬ (¬ (0 ≤ y ∧ y ≤ 99) ∨ ¬ (0 ≤ w ∧ w ≤ 99)) := fun a c p1 p2 q => by
    rcases q with q | q
    · exact q (by rw [p1]; exact nI_fig a)
    · exact q (by rw [p2]; exact nI_fig c)
  rcases hz with ⟨q, z1, rfl⟩ | ⟨s, s2, hs, hs2, hne, hx, hu, hz⟩
  · refine wp_mono (wholeM h2 x y u w) (fun z' d2 hz' => ?_)
    rcases hz' with ⟨_, w1, rfl⟩ | ⟨s, s2, hs, hs2, hne, hx, hu, _⟩
    · exact ⟨z1.trans w1.symm, hup⟩
    · exact absurd q (bad1 hs hs2 hne hx hu)
  · rcases hz with ⟨q, z1, rfl⟩ | ⟨v, v2, hv, hv2, hy, hw, hA⟩
    · refine wp_mono (wholeM h2 x y u w) (fun z' d2 hz' => ?_)
      rcases hz' with ⟨q', _⟩ | ⟨s', s2', _, _, _, _, _, ⟨_, w1, rfl⟩ | ⟨v, v2, hv, hv2, hy, hw, _⟩⟩
      · exact absurd q' (bad1 hs hs2 hne hx hu)
      · exact ⟨z1.trans w1.symm, hup⟩
      · exact absurd q (bad2 hv hv2 hy hw)
    · refine wp_mono (wholeM (h2.cls hA.1.c) x y u w) (fun z' d2 hz' => ?_)
      rcases hz' with ⟨q', _⟩ | ⟨s', s2', hs', hs2', _, hx', hu', ⟨q', _⟩ | ⟨v', v2', hv', hv2', hy', hw', hA'⟩⟩
      · exact absurd q' (bad1 hs hs2 hne hx hu)
      · exact absurd q' (bad2 hv hv2 hy hw)
      · have e1 : s' = s := (nI_c (by omega) (by omega)).mp (hx'.symm.trans hx)
        have e2 : s2' = s2 := (nI_c (by omega) (by omega)).mp (hu'.symm.trans hu)
        have e3 : v' = v := (nI_c (by omega) (by omega)).mp (hy'.symm.trans hy)
        have e4 : v2' = v2 := (nI_c (by omega) (by omega)).mp (hw'.symm.trans hw)
        subst e1; subst e2; subst e3; subst e4
        exact ok_add (C := mp 0) (M := mp 0) h1 h2 h3 h4 hA (fun _ => hA')
theorem ok_barrier (h : KI k d) (hk : k < 90000) : OK1 k (Main_barrier 1) (Mod_barrier 65) d := by
  obtain ⟨r, n, ac, f, ev, sv, ns, st, A, t, pn, b, e, fd, h1, h2, h3, h4⟩ := h
  refine wp_mono (barrier_eq h1.1 (by omega)) (fun z d1 hA => ?_)
  exact wp_mono (barrierM (h2.cls hA.1.c)) (fun z' d2 hA' => ok_add (C := mp 0) (M := mp 0) h1 h2 h3 h4 hA (fun _ => hA'))
theorem ok_flush (h : KI k d) (hk : k < 90000) : OK1 k (Main_flush 1) (Mod_flush 65) d := by
  obtain ⟨r, n, ac, f, ev, sv, ns, st, A, t, pn, b, e, fd, h1, h2, h3, h4⟩ := h
  refine wp_mono (flush_eq h1.1 (by omega)) (fun z d1 hA => ?_)
  exact wp_mono (flushM (h2.cls hA.1.c)) (fun z' d2 hA' => ok_add (C := mp 0) (M := mp 0) h1 h2 h3 h4 hA (fun _ => hA'))
theorem ok_tell (h : KI k d) (hk : k < 90000) (x : Int32) : OK1 k (Main_tell 1 x) (Mod_tell 65 x) d := by
  have hup := h.up
  obtain ⟨r, n, ac, f, ev, sv, ns, st, A, t, pn, b, e, fd, h1, h2, h3, h4⟩ := h
  have hr := h1.1.1.2.1.1
  refine wp_mono (tell_eq h1.1 (by omega) x) (fun z d1 hz => ?_)
  rcases hz with ⟨q, z1, rfl⟩ | ⟨j, hj, hx, hA⟩
  · refine wp_mono (tellM h2 x) (fun z' d2 hz' => ?_)
    rcases hz' with ⟨_, w1, rfl⟩ | ⟨j, hj, hx, _⟩
    · exact ⟨z1.trans w1.symm, hup⟩
    · exact absurd (by rw [hx]; exact nI_has hj (by omega)) q
  · refine wp_mono (tellM (h2.cls hA.1.c) x) (fun z' d2 hz' => ?_)
    rcases hz' with ⟨q', _⟩ | ⟨j', hj', hx', hA'⟩
    · exact absurd (by rw [hx]; exact nI_has hj (by omega)) q'
    · have e1 : j' = j := (nI_c (by omega) (by omega)).mp (hx'.symm.trans hx)
      subst e1
      exact ok_add (C := mp 0) (M := mp 0) h1 h2 h3 h4 hA (fun _ => hA')
end
