/-! ===== pure: reading a page ===== -/
section
variable {I : Nat → Nat → Int32} {a b c e : Nat → Int32} {L : Nat → Nat → Int64} {R : Nat → Nat → Nat}
theorem bg_n (o av : Option Bool) (n : Nat) : bg (o, av, n) = bg (o, av, 0) := rfl
theorem bits_len2 (G : Gr) (g : List Gr) : (bits (G :: g)).length ≤ (wg G ++ wt g).length := by
  have h1 := bits_len g
  have h2 := bg_len G
  simp [bits]
  omega
theorem takes_eq (hR : Rf R) {sp : Bool} {q o k x : Nat} {p : Pl} {s : VS} (h : RdI sp q o k p a b c e s) (hq : q ≤ 12) (hk : k < 60) (hx : x < 128) (hsm : vsm k s) : wp (Read_takes 54 (nI x)) (u4 I a b c e, L, R) (TQ I L R sp (nx sp q o x) (nxO o x) (k + 1) p (vst p q x s)) := by
  have ha4 := h.1
  have m75 : ((1 ≤ q ∧ q ≤ 6) ∨ 10 ≤ q) → a 5 = sdI q := fun hh => by
    obtain ⟨G, g, T, U, m, y, Rl, v, tg⟩ := s
    obtain ⟨-, sz, -, -, hm, -⟩ := h
    exact (hm hh).2
  -- what comes where no comparison ends
  have go : ∀ n, a 4 = nI n → Read_endsComparison 54 (nI x) (u4 I a b c e, L, R) = some (0, (u4 I a b c e, L, R)) → (∀ Q : Int32 → Dm → Prop, wp (sw (nI n) (0 : Int32) [(mb (vc ZF 7 54 (Read_takesFactor 54 (nI x))) fun r4 => mz r4), (mb (vc ZF 7 54 (Read_takesUnit 54 (nI x))) fun r5 => mz r5), (mb ((Read_isDigit (nI x))) fun r6 => if r6 = 0 then mb (vc ZF 7 54 (Read_takesBehindUnit 54 (nI x))) fun r7 => mz r7 else mb (vc ZF 7 54 (Read_takesSecondDigit 54 (nI x))) fun r8 => mz r8), (mb (vc ZF 7 54 (Read_takesBehindUnit 54 (nI x))) fun r9 => mz r9), (mb (vc ZF 7 54 (Read_takesBehindFactor 54 (nI x))) fun r10 => mz r10), (mb (vc ZF 7 54 (Read_takesTarget 54 (nI x))) fun r11 => mz r11)] (mb (vc ZF 7 54 (Read_takesEquals 54 (nI x))) fun r3 => mz r3)) (u4 I a b c e, L, R) Q → wp (Read_takes 54 (nI x)) (u4 I a b c e, L, R) Q) := by
    intro n hn he Q hw
    unfold Read_takes Read_takes_12
    rw [wp_mb, wp_vc]
    refine ⟨rfl, ?_⟩
    rw [wp_eq he, if_pos rfl, wp_mb, wp_gI]
    refine ⟨rfl, ?_⟩
    have e1 : (u4 I a b c e, L, R).1 54 4 = nI n := by show u4 I a b c e 54 4 = nI n; rw [u4_54]; exact hn
    rw [e1]
    exact hw
  -- a comparison ends
  have shut : (q = 5 ∨ q = 6) → (q = 6 → isD x = false) → ¬ (x = 43 ∨ x = 45) → wp (Read_takes 54 (nI x)) (u4 I a b c e, L, R) (TQ I L R sp (nx sp q o x) (nxO o x) (k + 1) p (vst p q x s)) := by
    intro hq5 hd hns
    obtain ⟨⟨o1, a1, n1⟩, g, T, U, m, y, Rl, v, tg⟩ := s
    obtain ⟨-, sz, ⟨h1, h2, h3, h4, h5, h6⟩, hk2, hm, hr, -, -, hE, -, -, -⟩ := h
    rw [if_pos (by omega)] at hk2
    have hE0 := hE (by omega)
    rw [if_neg (show ¬ q = 7 by omega)] at hE0
    obtain ⟨m7, m5⟩ := hm (by omega)
    obtain ⟨r6, r60⟩ := hr (by omega)
    have en : nx sp q o x = nxC sp o x := by
      rcases hq5 with rfl | rfl
      · simp [nx, hns]
      · simp [nx, hns, hd]
    have ev : vst p q x ((o1, a1, n1), g, T, U, m, y, Rl, v, tg) = vcl x ((o1, a1, 0), g, 0, U, m, y, Rl, dnv n1 (cmpV Rl T), tg) := by
      rcases hq5 with rfl | rfl
      · simp [vst, hns, clo]
      · simp [vst, hns, clo, hd]
    rw [en, ev]
    have hey : Read_endsComparison 54 (nI x) (u4 I a b c e, L, R) = some (1, (u4 I a b c e, L, R)) := by
      have hn : ∃ n, a 4 = nI n ∧ (n = 3 ∨ (n = 2 ∧ isD x = false)) := by
        rcases hq5 with rfl | rfl
        · exact ⟨3, ha4, Or.inl rfl⟩
        · exact ⟨2, ha4, Or.inr ⟨rfl, hd rfl⟩⟩
      obtain ⟨n, n1, n2⟩ := hn
      rw [ends_yes hx n1 n2, if_pos ⟨by rw [m5]; rcases hq5 with rfl | rfl <;> rfl, by omega, by omega⟩]
    unfold Read_takes
    rw [wp_mb, wp_vc]
    refine ⟨rfl, ?_⟩
    rw [wp_eq hey, if_neg (by decide), wp_mb, wp_vc]
    refine ⟨rfl, ?_⟩
    have hb2 := bits_len2 (o1, a1, n1) g
    have hT : -2147483648 ≤ T ∧ T < 2147483648 := by simp only [vsm] at hsm; omega
    have hRC : RdC p a b c e (wg (o1, a1, n1) ++ wt g) sz (bits ((o1, a1, n1) :: g)) (Int32.ofInt T) := ⟨h2, h3, h1, hE0⟩
    refine wp_mono (closeC hR hRC r6 r60 (by omega) hT (by omega) (wt_head g).2.2) (fun _ d1 ⟨a2, b2, c2, s2, e2, q1, q2, q3, q4, q5⟩ => ?_)
    subst e2
    unfold Read_takes_12
    rw [wp_mb, wp_gI]
    refine ⟨rfl, ?_⟩
    have e1 : (u4 I a2 b2 c2 e, L, R).1 54 4 = nI 4 := by show u4 I a2 b2 c2 e 54 4 = nI 4; rw [u4_54]; exact q3
    rw [e1, w6_4]
    exact fz (takeF hR (U := U) (m := m) (y := y) (Rl := Rl) (tg := tg) q1 ((q2.1 3 (by omega) (by omega)).trans h4) h5 ((q2.1 8 (by omega) (by omega)).trans h6) (by omega) hk hx)
  have hc : q = 0 ∨ (q = 1 ∨ q = 4 ∨ q = 10) ∨ (q = 2 ∨ q = 11) ∨ (q = 3 ∨ q = 12) ∨ q = 5 ∨ q = 6 ∨ q = 7 ∨ q = 8 ∨ q = 9 := by omega
  rcases hc with rfl | hc | hc | hc | rfl | rfl | rfl | rfl | rfl
  · refine go 0 ha4 (ends_no hx ha4 (by decide) (by decide) (fun hh => absurd hh (by decide))) _ ?_
    rw [w6_0]
    exact fz (takeA hR h hk hx)
  · have h1 : a 4 = nI 1 := by rw [ha4]; rcases hc with rfl | rfl | rfl <;> rfl
    refine go 1 h1 (ends_no hx h1 (by decide) (by decide) (fun hh => absurd hh (by decide))) _ ?_
    rw [w6_1]
    exact fz (wp_mono (takeU hR hc h.2 hk hx) (fun z d' q => TQ_o q (fun hn => ⟨nxO_o (nx_LD hc hn).1 (nx_LD hc hn).2, rfl⟩)))
  · have h3 : a 4 = nI 3 := by rw [ha4]; rcases hc with rfl | rfl <;> rfl
    have h5 : ¬ a 5 = 1 := by rw [m75 (by omega)]; rcases hc with rfl | rfl <;> decide
    have he := ends_yes (I := I) (b := b) (c := c) (e := e) (L := L) (R := R) hx h3 (Or.inl rfl)
    rw [if_neg (fun q => h5 q.1)] at he
    refine go 3 h3 he _ ?_
    rw [w6_3]
    exact fz (wp_mono (takeB (by omega) h.2 hx) (fun z d' q => TB_TQ (by omega) (by omega) q))
  · have h2 : a 4 = nI 2 := by rw [ha4]; rcases hc with rfl | rfl <;> rfl
    have h5 : ¬ a 5 = 1 := by rw [m75 (by omega)]; rcases hc with rfl | rfl <;> decide
    refine go 2 h2 (ends_no hx h2 (by decide) (by decide) (fun _ => Or.inr (Or.inl h5))) _ ?_
    rw [w6_2]
    simp only [wp_mb, wp_eq (rdig_eq hx _)]
    cases hd : isD x with
    | false =>
      rw [if_pos (by decide)]
      exact fz (wp_mono (takeB (by omega) h.2 hx) (fun z d' q => TB_TQ (by omega) (fun _ => hd) q))
    | true =>
      rw [if_neg (by decide)]
      have hd2 := isD_iff.mp hd
      refine fz (wp_mono (take2 hR (by omega) h.2 hd hk hsm) (fun z d' r => ?_))
      have en : nx sp q o x = some (q - 1) := by rcases hc with rfl | rfl <;> simp [nx, hd]
      rw [en, nxO_o (by omega) (by omega)]
      exact r
  · by_cases hs : x = 43 ∨ x = 45
    · have he := ends_yes (I := I) (b := b) (c := c) (e := e) (L := L) (R := R) hx ha4 (Or.inl rfl)
      rw [if_neg (fun q => by omega)] at he
      refine go 3 ha4 he _ ?_
      rw [w6_3]
      exact fz (wp_mono (takeB (by omega) h.2 hx) (fun z d' q => TB_TQ (by omega) (by omega) q))
    · exact shut (by omega) (by omega) hs
  · cases hd : isD x with
    | true =>
      have hd2 := isD_iff.mp hd
      refine go 2 ha4 (ends_no hx ha4 (by decide) (by decide) (fun _ => Or.inl hd)) _ ?_
      rw [w6_2]
      simp only [wp_mb, wp_eq (rdig_eq hx _)]
      rw [hd, if_neg (by decide)]
      refine fz (wp_mono (take2 hR (by omega) h.2 hd hk hsm) (fun z d' r => ?_))
      have en : nx sp 6 o x = some (6 - 1) := by simp [nx, hd]
      rw [en, nxO_o (by omega) (by omega)]
      exact r
    | false =>
      by_cases hs : x = 43 ∨ x = 45
      · refine go 2 ha4 (ends_no hx ha4 (by decide) (by decide) (fun _ => Or.inr (Or.inr hs))) _ ?_
        rw [w6_2]
        simp only [wp_mb, wp_eq (rdig_eq hx _)]
        rw [hd, if_pos (by decide)]
        exact fz (wp_mono (takeB (by omega) h.2 hx) (fun z d' q => TB_TQ (by omega) (fun _ => hd) q))
      · exact shut (by omega) (fun _ => hd) hs
  · refine go 4 ha4 (ends_no hx ha4 (by decide) (by decide) (fun hh => absurd hh (by decide))) _ ?_
    rw [w6_4]
    obtain ⟨⟨o1, a1, n1⟩, g, T, U, m, y, Rl, v, tg⟩ := s
    obtain ⟨-, sz, ⟨h1, h2, h3, h4, h5, h6⟩, hk2, -, -, hn, hT, hE, -, -, -⟩ := h
    have hT0 := hT (by omega)
    subst hT0
    have hn0 : n1 = 0 := hn rfl
    subst hn0
    have hE0 := hE (by omega)
    rw [if_pos rfl] at hE0
    rw [if_neg (by omega)] at hk2
    exact fz (takeF hR (U := U) (m := m) (y := y) (Rl := Rl) (tg := tg) (⟨h2, h3, h1, hE0⟩ : RdC p a b c e (wg (o1, a1, 0) ++ wt g) sz (v :: bits ((o1, a1, 0) :: g)) 0) h4 h5 h6 (by omega) hk hx)
  · refine go 5 ha4 (ends_no hx ha4 (by decide) (by decide) (fun hh => absurd hh (by decide))) _ ?_
    rw [w6_5]
    exact fz (takeT hR h hx)
  · refine go 6 ha4 (ends_no hx ha4 (by decide) (by decide) (fun hh => absurd hh (by decide))) _ ?_
    rw [w6_6]
    exact fz (takeE h hx)
end
