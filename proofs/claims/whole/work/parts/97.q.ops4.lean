/-! ===== pure: both sides alike: costs, page, rules, steps, counts ===== -/
section
variable {k : Nat} {d : Dm}
theorem u1_c {d : Dm} {a j : Nat} (ha : a < 65) (v : Int32) : ∀ x, 65 ≤ x → ((u2 d.1 a j v, d.2) : Dm).1 x = d.1 x ∧ ((u2 d.1 a j v, d.2) : Dm).2.1 x = d.2.1 x ∧ ((u2 d.1 a j v, d.2) : Dm).2.2 x = d.2.2 x := fun x hx => ⟨u2_row _ (show x ≠ a by omega) _ _, rfl, rfl⟩
theorem ok_cost (h : KI k d) (x y : Int32) : OK1 k (Main_cost 1 x y) (Mod_cost 65 x y) d := by
  have hup := h.up
  obtain ⟨r, n, ac, f, ev, sv, ns, st, A, t, pn, b, e, fd, h1, h2, h3, h4⟩ := h
  refine wp_mono (cost_eq h1.1 h1.2.2.1 x y) (fun z d1 hz => ?_)
  rcases hz with ⟨q, z1, rfl⟩ | ⟨hx, ⟨q, z1, rfl⟩ | ⟨hy, z1, g1, g2⟩⟩
  · refine wp_mono (costM h2 x y) (fun z' d2 hz' => ?_)
    rcases hz' with ⟨_, w1, rfl⟩ | ⟨hx, _⟩
    · exact ⟨z1.trans w1.symm, hup⟩
    · exact absurd hx (fun w => w.elim q.1 q.2)
  · refine wp_mono (costM h2 x y) (fun z' d2 hz' => ?_)
    rcases hz' with ⟨q', _⟩ | ⟨_, ⟨_, w1, rfl⟩ | ⟨hy, _⟩⟩
    · exact absurd hx (fun w => w.elim q'.1 q'.2)
    · exact ⟨z1.trans w1.symm, hup⟩
    · exact absurd hy q
  · have hm := h2.cls (d' := d1) (by rw [g2]; exact u1_c (by omega) y)
    refine wp_mono (costM hm x y) (fun z' d2 hz' => ?_)
    rcases hz' with ⟨q', _⟩ | ⟨_, ⟨q', _⟩ | ⟨_, w1, w2, w3⟩⟩
    · exact absurd hx (fun w => w.elim q'.1 q'.2)
    · exact absurd hy q'
    · refine ⟨z1.trans w1.symm, ?_⟩
      have hne : ∀ a, a ≠ 1 → d1.1 a = d.1 a := fun a ha => by rw [g2]; exact u2_row _ ha _ _
      have h1k : ∀ j, j ≠ (if x = 0 then 8 else 9) → d1.1 1 j = d.1 1 j := fun j hj => by rw [g2]; exact u2_k _ _ _ hj _
      have h1s : d1.1 1 (if x = 0 then 8 else 9) = y := by rw [g2]; exact u2_s _ _ _ _
      have hg : PG t pn d1 := ⟨h1.2.1.1, by rw [hne 52 (by omega)]; exact h1.2.1.2.1, fun i hi => by rw [hne 53 (by omega)]; exact h1.2.1.2.2 i hi⟩
      have hF : d1.1 1 10 = nI fd := (h1k 10 (by split <;> omega)).trans h1.2.2.2
      rcases hx with rfl | rfl
      · rw [if_pos rfl] at w3 hy h1s
        rw [if_pos rfl] at w3
        rcases ib_cases y (n := 9) (by omega) with w | ⟨j, hj, rfl⟩
        · exact absurd ⟨Int32.le_trans (by decide) hy.1, hy.2⟩ w
        · have hc : CK (nI j) (nI e) d1 := ⟨h1s, (h1k 9 (by decide)).trans h1.2.2.1.2⟩
          exact KI.mk (CI.ref ⟨g1, hg, hc, hF⟩ w2) w3 (by omega) ⟨hj, h4.2⟩
      · rw [if_neg (by decide)] at w3 hy h1s
        rw [if_neg (by decide)] at w3
        rcases ib_cases y (n := 99) (by omega) with w | ⟨j, hj, rfl⟩
        · exact absurd ⟨Int32.le_trans (by decide) hy.1, hy.2⟩ w
        · have hc : CK (nI b) (nI j) d1 := ⟨(h1k 8 (by decide)).trans h1.2.2.1.1, h1s⟩
          exact KI.mk (CI.ref ⟨g1, hg, hc, hF⟩ w2) w3 (by omega) ⟨h4.1, hj, h4.2.2⟩
theorem ok_blank (h : KI k d) : OK1 k (Main_blank 1) (Mod_blank 65) d := by
  obtain ⟨r, n, ac, f, ev, sv, ns, st, A, t, pn, b, e, fd, h1, h2, h3, h4⟩ := h
  unfold OK1
  rw [wp_eq (blank_eq h1.1.1.1.2.2.2.2 h1.2.1)]
  have hX : CX r n ac f ev sv ns st A (u2 d.1 52 1 0, d.2) := h1.1.keep (fun x hx => u2_row _ (show x ≠ 52 by omega) _ _) rfl
  have r1 : ∀ j, u2 d.1 52 1 0 1 j = d.1 1 j := fun j => u2_a _ (by omega) _ _ _
  have hC : CI r n ac f ev sv ns st A t 0 (nI b) (nI e) fd (u2 d.1 52 1 0, d.2) := ⟨hX, ⟨by omega, u2_s d.1 52 1 0, fun i hi => by omega⟩, ⟨(r1 8).trans h1.2.2.1.1, (r1 9).trans h1.2.2.1.2⟩, (r1 10).trans h1.2.2.2⟩
  refine wp_mono (blankM (h2.cls (u1_c (by omega) 0))) (fun z' d2 ⟨w1, w2, w3⟩ => ?_)
  exact ⟨w1.symm, KI.mk (hC.ref w2) w3 (by omega) h4⟩
theorem ok_letters (h : KI k d) {N : Nat} (hN : N < 2 ^ 64) : OK1 k (Main_letters 1 (lN N)) (Mod_letters 65 (lN N)) d := by
  have hup := h.up
  obtain ⟨r, n, ac, f, ev, sv, ns, st, A, t, pn, b, e, fd, h1, h2, h3, h4⟩ := h
  refine wp_mono (letters_eq h1.1.1.1.2.2.2.2 hN h1.2.1) (fun z d1 hz => ?_)
  rcases hz with ⟨q, z1, rfl⟩ | ⟨m, q, ⟨q2, z1, rfl⟩ | ⟨q2, z1, g1, g2, g3⟩⟩
  · refine wp_mono (lettersM h2 hN) (fun z' d2 hz' => ?_)
    rcases hz' with ⟨_, w1, rfl⟩ | ⟨m, q', _⟩
    · exact ⟨z1.trans w1.symm, hup⟩
    · rw [q] at q'; cases q'
  · refine wp_mono (lettersM h2 hN) (fun z' d2 hz' => ?_)
    rcases hz' with ⟨q', _⟩ | ⟨m', q', ⟨_, w1, rfl⟩ | ⟨w0, _⟩⟩
    · rw [q] at q'; cases q'
    · exact ⟨z1.trans w1.symm, hup⟩
    · rw [q] at q'; cases q'; omega
  · have hm := h2.cls (d' := d1) (fun x hx => ⟨g2 x (by omega) (by omega), by rw [g3], by rw [g3]⟩)
    refine wp_mono (lettersM hm hN) (fun z' d2 hz' => ?_)
    rcases hz' with ⟨q', _⟩ | ⟨m', q', ⟨w0, _⟩ | ⟨_, w1, w2, w3⟩⟩
    · rw [q] at q'; cases q'
    · rw [q] at q'; cases q'; omega
    · rw [q] at q'; cases q'
      have hX : CX r n ac f ev sv ns st A d1 := h1.1.keep (fun x hx => g2 x (by omega) (by omega)) g3
      have r1 := g2 1 (by omega) (by omega)
      have hC : CI r n ac f ev sv ns st A (addL t pn N) (pn + m) (nI b) (nI e) fd d1 := ⟨hX, g1, ⟨by rw [r1]; exact h1.2.2.1.1, by rw [r1]; exact h1.2.2.1.2⟩, by rw [r1]; exact h1.2.2.2⟩
      exact ⟨z1.trans w1.symm, KI.mk (hC.ref w2) w3 (by omega) h4⟩
end
