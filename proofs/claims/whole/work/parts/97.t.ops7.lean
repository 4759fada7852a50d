/-! ===== pure: both sides alike: further calls that ask ===== -/
section
variable {k : Nat} {d : Dm}
theorem ok_kept (h : KI k d) (x y w : Int32) : OK1 k (Main_kept 1 x y w) (Mod_kept 65 x y w) d := by
  obtain ⟨r, n, ac, f, ev, sv, ns, st, A, t, pn, b, e, fd, h1, h2, h3, h4⟩ := h
  have hn := h1.1.1.1.1.1
  have hr := h1.1.1.2.1.1
  refine ok_read h1 h2 h3 h4 (kept_eq h1.1 x y w) (fun d1 m1 => keptM m1 x y w) ?_
  rintro z z' (⟨q, z1⟩ | ⟨j, hj, hx, hz⟩) (⟨q', w1⟩ | ⟨j', hj', hx', hz'⟩)
  · exact z1.trans w1.symm
  · exact absurd (by rw [hx']; exact nI_has hj' (by omega)) q
  · exact absurd (by rw [hx]; exact nI_has hj (by omega)) q'
  · have ej : j = j' := (nI_c (by omega) (by omega)).mp (hx.symm.trans hx')
    subst ej
    have bad : ∀ {i : Nat}, i ≤ n → y = nI i → (w = 0 ∨ w = 1) → ¬ (¬ (0 ≤ y ∧ y ≤ nI n) ∨ (w ≠ 0 ∧ w ≠ 1)) := fun a p c q => by
      rcases q with q | q
      · exact q (hasB a hn p)
      · exact c.elim q.1 q.2
    rcases hz with ⟨q, z1⟩ | ⟨i, s, Q, hi, hy, z2, z3, z1⟩ <;> rcases hz' with ⟨q', w1⟩ | ⟨i', s', Q', hi', hy', w2, w3, w1⟩
    · exact z1.trans w1.symm
    · exact absurd q (bad hi' hy' w3)
    · exact absurd q' (bad hi hy z3)
    · have := eqk hi hi' hn hy hy'
      subst this
      have es := LQ_size z2 w2
      subst es
      rw [z1, w1, fb_ct_cong (fun i hi => by rw [(LQ_at z2 w2 i hi).2])]
theorem ok_broken (h : KI k d) (y : Int32) : OK1 k (Main_broken 1 y) (Mod_broken 65 y) d := by
  obtain ⟨r, n, ac, f, ev, sv, ns, st, A, t, pn, b, e, fd, h1, h2, h3, h4⟩ := h
  have hn := h1.1.1.1.1.1
  refine ok_read h1 h2 h3 h4 (broken_eq h1.1 y) (fun d1 m1 => brokenM m1 y) ?_
  rintro z z' (⟨q, z1⟩ | ⟨i, s, Q, hi, hy, z2, z1⟩) (⟨q', w1⟩ | ⟨i', s', Q', hi', hy', w2, w1⟩)
  · exact z1.trans w1.symm
  · exact absurd (hasB hi' hn hy') q
  · exact absurd (hasB hi hn hy) q'
  · have := eqk hi hi' hn hy hy'
    subst this
    have es := LQ_size z2 w2
    subst es
    rw [z1, w1, fb_ct_cong (fun i hi => by rw [(LQ_at z2 w2 i hi).2])]
theorem ok_holds (h : KI k d) (x : Int32) (y : Int64) : OK1 k (Main_holds 1 x y) (Mod_holds 65 x y) d := by
  obtain ⟨r, n, ac, f, ev, sv, ns, st, A, t, pn, b, e, fd, h1, h2, h3, h4⟩ := h
  have hr := h1.1.1.2.1.1
  refine ok_read h1 h2 h3 h4 (holds_eq h1.1 x y) (fun d1 m1 => holdsM m1 x y) ?_
  rintro z z' (⟨q, z1⟩ | ⟨j, hj, hx, hz⟩) (⟨q', w1⟩ | ⟨j', hj', hx', hz'⟩)
  · exact z1.trans w1.symm
  · exact absurd (by rw [hx']; exact nI_has hj' (by omega)) q
  · exact absurd (by rw [hx]; exact nI_has hj (by omega)) q'
  · have ej : j = j' := (nI_c (by omega) (by omega)).mp (hx.symm.trans hx')
    subst ej
    rcases hz with ⟨q, z1⟩ | ⟨N, hN, hy, z1⟩ <;> rcases hz' with ⟨q', w1⟩ | ⟨N', hN', hy', w1⟩
    · exact z1.trans w1.symm
    · exact absurd (by rw [hy']; exact lN_pl hN') q
    · exact absurd (by rw [hy]; exact lN_pl hN) q'
    · have eN : N = N' := by
        have := congrArg Int64.toInt (hy.symm.trans hy')
        rw [pf_lI (by omega), pf_lI (by omega)] at this
        omega
      subst eN
      exact z1.trans w1.symm
theorem lN_eqN {y : Int64} {N N' : Nat} (hN : N < 10000000000000000) (hN' : N' < 10000000000000000) (hy : y = lN N) (hy' : y = lN N') : N = N' := by
  have := congrArg Int64.toInt (hy.symm.trans hy')
  rw [pf_lI (by omega), pf_lI (by omega)] at this
  omega
theorem ok_heal (h : KI k d) (y : Int64) : OK1 k (Main_heal 1 y) (Mod_heal 65 y) d := by
  obtain ⟨r, n, ac, f, ev, sv, ns, st, A, t, pn, b, e, fd, h1, h2, h3, h4⟩ := h
  refine ok_read h1 h2 h3 h4 (heal_eq h1.1 y) (fun d1 m1 => healMM m1 y) ?_
  rintro z z' (⟨q, z1⟩ | ⟨N, hN, hy, z1⟩) (⟨q', w1⟩ | ⟨N', hN', hy', w1⟩)
  · exact z1.trans w1.symm
  · exact absurd (by rw [hy']; exact lN_pl hN') q
  · exact absurd (by rw [hy]; exact lN_pl hN) q'
  · have eN := lN_eqN hN hN' hy hy'
    subst eN
    exact z1.trans w1.symm
theorem ok_steady (h : KI k d) (y : Int64) : OK1 k (Main_steady 1 y) (Mod_steady 65 y) d := by
  obtain ⟨r, n, ac, f, ev, sv, ns, st, A, t, pn, b, e, fd, h1, h2, h3, h4⟩ := h
  refine ok_read h1 h2 h3 h4 (stead_eq h1.1 y) (fun d1 m1 => steadyMM m1 y) ?_
  rintro z z' (⟨q, z1⟩ | ⟨N, hN, hy, z1⟩) (⟨q', w1⟩ | ⟨N', hN', hy', w1⟩)
  · exact z1.trans w1.symm
  · exact absurd (by rw [hy']; exact lN_pl hN') q
  · exact absurd (by rw [hy]; exact lN_pl hN) q'
  · have eN := lN_eqN hN hN' hy hy'
    subst eN
    exact z1.trans w1.symm
theorem ok_cut (h : KI k d) (y : Int64) (x : Int32) : OK1 k (Main_cut 1 y x) (Mod_cut 65 y x) d := by
  obtain ⟨r, n, ac, f, ev, sv, ns, st, A, t, pn, b, e, fd, h1, h2, h3, h4⟩ := h
  have hns := h2.1.1.2.2.2.1.1
  refine ok_read h1 h2 h3 h4 (cut_eq h1.1 y x) (fun d1 m1 => cutMM m1 y x) ?_
  rintro z z' (⟨q, z1⟩ | ⟨N, hN, hy, hz⟩) (⟨q', w1⟩ | ⟨N', hN', hy', hz'⟩)
  · exact z1.trans w1.symm
  · exact absurd (by rw [hy']; exact lN_pl hN') q
  · exact absurd (by rw [hy]; exact lN_pl hN) q'
  · have eN := lN_eqN hN hN' hy hy'
    subst eN
    rcases hz with ⟨q, z1⟩ | ⟨j, hj, hx, z1⟩ <;> rcases hz' with ⟨q', w1⟩ | ⟨j', hj', hx', w1⟩
    · exact z1.trans w1.symm
    · exact absurd (hasB hj' (by omega) hx') q
    · exact absurd (hasB hj (by omega) hx) q'
    · have := eqk hj hj' (by omega) hx hx'
      subst this
      exact z1.trans w1.symm
theorem ok_order (h : KI k d) (x y w : Int32) : OK1 k (Main_order 1 x y w) (Mod_order 65 x y w) d := by
  obtain ⟨r, n, ac, f, ev, sv, ns, st, A, t, pn, b, e, fd, h1, h2, h3, h4⟩ := h
  have hn := h1.1.1.1.1.1
  have hr := h1.1.1.2.1.1
  refine ok_read h1 h2 h3 h4 (order_eq h1.1 x y w) (fun d1 m1 => orderM m1 x y w) ?_
  have bad : ∀ {q i j : Nat}, q < r → i < n → j < n → x = nI q → y = nI i → w = nI j → i ≠ j → isw (ac i) = true → isw (ac j) = true → ¬ (¬ (0 ≤ x ∧ x < nI r) ∨ ¬ ((0 ≤ y ∧ y < nI n) ∧ isw (ac (cl y)) = true) ∨ ¬ ((0 ≤ w ∧ w < nI n) ∧ isw (ac (cl w)) = true) ∨ y = w) := by
    intro q i j a1 a2 a3 e1 e2 e3 hij wi wj hh
    rcases hh with hh | hh | hh | hh
    · exact hh (by rw [e1]; exact nI_has a1 (by omega))
    · exact hh (by rw [e2, show cl (nI i) = i from nI_clamp (by omega)]; exact ⟨nI_has a2 (by omega), wi⟩)
    · exact hh (by rw [e3, show cl (nI j) = j from nI_clamp (by omega)]; exact ⟨nI_has a3 (by omega), wj⟩)
    · exact hij ((nI_c (by omega) (by omega)).mp (e2.symm.trans (hh.trans e3)))
  rintro z z' (⟨q, z1⟩ | ⟨q, i, j, a1, a2, a3, e1, e2, e3, hij, wi, wj, hz⟩) (⟨q', w1⟩ | ⟨q', i', j', a1', a2', a3', e1', e2', e3', hij', wi', wj', hz'⟩)
  · exact z1.trans w1.symm
  · exact absurd q (bad a1' a2' a3' e1' e2' e3' hij' wi' wj')
  · exact absurd q' (bad a1 a2 a3 e1 e2 e3 hij wi wj)
  · have f1 : q = q' := (nI_c (by omega) (by omega)).mp (e1.symm.trans e1')
    have f2 : i = i' := (nI_c (by omega) (by omega)).mp (e2.symm.trans e2')
    have f3 : j = j' := (nI_c (by omega) (by omega)).mp (e3.symm.trans e3')
    subst f1; subst f2; subst f3
    rcases hz with ⟨p, z1⟩ | ⟨p1, p2, z1⟩ <;> rcases hz' with ⟨p', w1⟩ | ⟨p1', p2', w1⟩
    · exact z1.trans w1.symm
    · rcases p with p | p
      · exact absurd p1' p
      · omega
    · rcases p' with p | p
      · exact absurd p1 p
      · omega
    · exact z1.trans w1.symm
end
