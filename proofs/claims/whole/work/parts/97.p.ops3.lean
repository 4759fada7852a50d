/-! ===== pure: both sides alike: further calls that change ===== -/
section
variable {k : Nat} {d : Dm}
theorem ok_sector (h : KI k d) (hk : k < 90000) (x y : Int32) : OK1 k (Main_sector 1 x y) (Mod_sector 65 x y) d := by
  have hup := h.up
  obtain ⟨r, n, ac, f, ev, sv, ns, st, A, t, pn, b, e, fd, h1, h2, h3, h4⟩ := h
  refine wp_mono (sector_eq h1.1 (by omega) x y) (fun z d1 hz => ?_)
  rcases hz with ⟨q, z1, rfl⟩ | ⟨s, hs, hx, hz⟩
  · refine wp_mono (sectorM h2 x y) (fun z' d2 hz' => ?_)
    rcases hz' with ⟨_, w1, rfl⟩ | ⟨s, hs, hx, _⟩
    · exact ⟨z1.trans w1.symm, hup⟩
    · exact absurd (by rw [hx]; exact nI_sec hs) q
  · rcases hz with ⟨q, z1, rfl⟩ | ⟨v, hv, hy, z1, g1, g2⟩
    · refine wp_mono (sectorM h2 x y) (fun z' d2 hz' => ?_)
      rcases hz' with ⟨q', _⟩ | ⟨s', hs', hx', ⟨_, w1, rfl⟩ | ⟨v, hv, hy, _⟩⟩
      · exact absurd (by rw [hx]; exact nI_sec hs) q'
      · exact ⟨z1.trans w1.symm, hup⟩
      · exact absurd (by rw [hy]; exact nI_fig hv) q
    · refine wp_mono (sectorM (h2.cls g1.c) x y) (fun z' d2 hz' => ?_)
      rcases hz' with ⟨q', _⟩ | ⟨s', hs', hx', ⟨q', _⟩ | ⟨v', hv', hy', w1, w2, w3⟩⟩
      · exact absurd (by rw [hx]; exact nI_sec hs) q'
      · exact absurd (by rw [hy]; exact nI_fig hv) q'
      · have es : s' = s := (nI_c (by omega) (by omega)).mp (hx'.symm.trans hx)
        have ev' : v' = v := (nI_c (by omega) (by omega)).mp (hy'.symm.trans hy)
        subst es; subst ev'
        exact ⟨z1.trans w1.symm, KI.mk ((h1.Y g1 g2).ref w2) w3 (by omega) h4⟩
theorem ok_undo (h : KI k d) (hk : k < 90000) : OK1 k (Main_undo 1) (Mod_undo 65) d := by
  have hup := h.up
  obtain ⟨r, n, ac, f, ev, sv, ns, st, A, t, pn, b, e, fd, h1, h2, h3, h4⟩ := h
  refine wp_mono (undo_eq h1.1 (by omega)) (fun z d1 hz => ?_)
  rcases hz with ⟨q, z1, rfl⟩ | ⟨q, z1, g1, g2⟩
  · refine wp_mono (undoM h2) (fun z' d2 hz' => ?_)
    rcases hz' with ⟨_, w1, rfl⟩ | ⟨w, _⟩
    · exact ⟨z1.trans w1.symm, hup⟩
    · omega
  · refine wp_mono (undoM (h2.cls g1.c)) (fun z' d2 hz' => ?_)
    rcases hz' with ⟨w, _⟩ | ⟨_, w1, w2, w3⟩
    · omega
    · exact ⟨z1.trans w1.symm, KI.mk ((h1.Y g1 g2).ref w2) w3 (by omega) h4⟩
theorem ok_swap (h : KI k d) (hk : k < 90000) (x y : Int32) : OK1 k (Main_swap 1 x y) (Mod_swap 65 x y) d := by
  have hup := h.up
  obtain ⟨r, n, ac, f, ev, sv, ns, st, A, t, pn, b, e, fd, h1, h2, h3, h4⟩ := h
  have hn := h1.1.1.1.1.1
  have bad : ∀ {i j : Nat}, i < n → j < n → x = nI i → y = nI j → ¬ (¬ (0 ≤ x ∧ x < nI n) ∨ ¬ (0 ≤ y ∧ y < nI n)) := fun a c p1 p2 q => by
    rcases q with q | q
    · exact q (by rw [p1]; exact nI_has a (by omega))
    · exact q (by rw [p2]; exact nI_has c (by omega))
  refine wp_mono (swap_eq h1.1 (by omega) x y) (fun z d1 hz => ?_)
  rcases hz with ⟨q, z1, rfl⟩ | ⟨i, j, hi, hj, hx, hy, z1, g1, g2⟩
  · refine wp_mono (swapM h2 x y) (fun z' d2 hz' => ?_)
    rcases hz' with ⟨_, w1, rfl⟩ | ⟨i, j, hi, hj, hx, hy, _⟩
    · exact ⟨z1.trans w1.symm, hup⟩
    · exact absurd q (bad hi hj hx hy)
  · refine wp_mono (swapM (h2.cls g1.c) x y) (fun z' d2 hz' => ?_)
    rcases hz' with ⟨q', _⟩ | ⟨i', j', hi', hj', hx', hy', w1, w2, w3⟩
    · exact absurd q' (bad hi hj hx hy)
    · have e1 : i' = i := (nI_c (by omega) (by omega)).mp (hx'.symm.trans hx)
      have e2 : j' = j := (nI_c (by omega) (by omega)).mp (hy'.symm.trans hy)
      subst e1; subst e2
      exact ⟨z1.trans w1.symm, KI.mk ((h1.Y g1 g2).ref w2) w3 (by omega) h4⟩
theorem ok_act (h : KI k d) (x y : Int32) : OK1 k (Main_act 1 x y) (Mod_act 65 x y) d := by
  have hup := h.up
  obtain ⟨r, n, ac, f, ev, sv, ns, st, A, t, pn, b, e, fd, h1, h2, h3, h4⟩ := h
  have hn := h1.1.1.1.1.1
  refine wp_mono (act_eq h1.1 x y) (fun z d1 ⟨e0, hz⟩ => ?_)
  subst e0
  refine wp_mono (actM h2 x y) (fun z' d2 ⟨e0, hz'⟩ => ?_)
  subst e0
  refine ⟨?_, hup⟩
  rcases hz with ⟨q, z1⟩ | ⟨i, hi, hx, hz⟩
  · rcases hz' with ⟨_, w1⟩ | ⟨i, hi, hx, _⟩
    · exact z1.trans w1.symm
    · exact absurd (by rw [hx]; exact nI_has hi (by omega)) q
  · rcases hz' with ⟨q', _⟩ | ⟨i', hi', hx', hz'⟩
    · exact absurd (by rw [hx]; exact nI_has hi (by omega)) q'
    · have e1 : i' = i := (nI_c (by omega) (by omega)).mp (hx'.symm.trans hx)
      subst e1
      have b5 : ∀ {j : Nat}, j < 5 → y = nI j → (0 ≤ y ∧ y ≤ 4) := fun a p => by rw [p]; exact ⟨nI_pos' (by omega), nI_le (b := 4) (by omega) (by omega)⟩
      rcases hz with ⟨q, z1⟩ | ⟨j, hj, hy, z1⟩
      · rcases hz' with ⟨_, w1⟩ | ⟨j, hj, hy, _⟩
        · exact z1.trans w1.symm
        · exact absurd (b5 hj hy) q
      · rcases hz' with ⟨q', _⟩ | ⟨j', hj', hy', w1⟩
        · exact absurd (b5 hj hy) q'
        · have e2 : j' = j := (nI_c (by omega) (by omega)).mp (hy'.symm.trans hy)
          subst e2
          exact z1.trans w1.symm
theorem ok_bare (h : KI k d) (hk : k < 90000) : OK1 k (Main_bare 1) (Mod_bare 65) d := by
  obtain ⟨r, n, ac, f, ev, sv, ns, st, A, t, pn, b, e, fd, h1, h2, h3, h4⟩ := h
  refine wp_mono (bare_eq h1.1 (by omega)) (fun z d1 ⟨z1, g1, g2⟩ => ?_)
  refine wp_mono (bareM (h2.cls g1.c)) (fun z' d2 ⟨w1, w2, w3⟩ => ?_)
  exact ⟨z1.trans w1.symm, KI.mk ((h1.Y g1 g2).ref w2) w3 (by omega) h4⟩
theorem ok_always (h : KI k d) (x y : Int32) (hy : y = 0 ∨ y = 1) : OK1 k (Main_always 1 x y) (Mod_always 65 x y) d := by
  have hup := h.up
  obtain ⟨r, n, ac, f, ev, sv, ns, st, A, t, pn, b, e, fd, h1, h2, h3, h4⟩ := h
  have hr := h1.1.1.2.1.1
  refine wp_mono (always_eq h1.1 x y) (fun z d1 hz => ?_)
  rcases hz with ⟨q, z1, rfl⟩ | ⟨j, hj, hx, z1, g1, g2⟩
  · refine wp_mono (alwaysM h2 x y hy) (fun z' d2 hz' => ?_)
    rcases hz' with ⟨_, w1, rfl⟩ | ⟨j, hj, hx, _⟩
    · exact ⟨z1.trans w1.symm, hup⟩
    · exact absurd (by rw [hx]; exact nI_has hj (by omega)) q
  · refine wp_mono (alwaysM (h2.cls g1.c) x y hy) (fun z' d2 hz' => ?_)
    rcases hz' with ⟨q', _⟩ | ⟨j', hj', hx', w1, w2, w3⟩
    · exact absurd (by rw [hx]; exact nI_has hj (by omega)) q'
    · have e1 : j' = j := (nI_c (by omega) (by omega)).mp (hx'.symm.trans hx)
      subst e1
      exact ⟨z1.trans w1.symm, KI.mk ((h1.Y g1 g2).ref w2) w3 (by omega) h4⟩
end
