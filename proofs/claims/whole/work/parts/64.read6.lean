/-! ===== pure: each letter ===== -/
section
variable {I : Nat → Nat → Int32} {a b c e : Nat → Int32} {L : Nat → Nat → Int64} {R : Nat → Nat → Nat}
theorem fz {M : MM Int32} {d : Dm} {sp : Bool} {n : Option Nat} {o k : Nat} {p : Pl} {s : VS} (h : wp M d (TQ I L R sp n o k p s)) : wp (mb (vc ZF 7 54 M) fun r => mz r) d (TQ I L R sp n o k p s) := by
  rw [wp_mb, wp_vc]
  exact ⟨rfl, wp_mono h (fun z d' q => wp_mz.mpr (TQ_01 q))⟩
theorem isLD_no {x : Nat} (h : x = 33 ∨ x = 40) : isL x = false ∧ isD x = false := by
  rcases h with rfl | rfl <;> decide
theorem takeA (hR : Rf R) {sp : Bool} {o k x : Nat} {p : Pl} {s : VS} (h : RdI sp 0 o k p a b c e s) (hk : k < 60) (hx : x < 128) : wp (Read_takesFactor 54 (nI x)) (u4 I a b c e, L, R) (TQ I L R sp (nx sp 0 o x) (nxO o x) (k + 1) p (vst p 0 x s)) := by
  have hl := rc_lit hx
  obtain ⟨⟨o1, a1, n1⟩, g, T, U, m, y, Rl, v, tg⟩ := s
  obtain ⟨ha4, sz, ⟨h1, h2, h3, h4, h5, h6⟩, hk2, -, -, -, hT, hE, -, -, -⟩ := id h
  have hT0 := hT (Or.inl rfl)
  subst hT0
  rw [if_neg (by omega)] at hk2
  have hE0 := hE (by omega)
  rw [if_neg (by omega)] at hE0
  have keep : (x = 33 ∨ x = 40) → wp (Read_takesFactor_12 54 (nI x)) (u4 I a b c e, L, R) (TQ I L R sp (nx sp 0 o x) (nxO o x) (k + 1) p (vst p 0 x ((o1, a1, n1), g, 0, U, m, y, Rl, v, tg))) := by
    intro hxk
    have en : nx sp 0 o x = some 0 := by
      obtain ⟨e1, e2⟩ := isLD_no hxk
      simp [nx, e1, e2, hxk]
    rw [en]
    unfold Read_takesFactor_12 Read_takesFactor_28
    have eo : nI o + (if nI x = (40 : Int32) then (1 : Int32) else 0) = nI (nxO o x) := by
      rcases hxk with rfl | rfl
      · rw [if_neg (by decide)]
        show nI o + nI 0 = _
        rw [nI_add, nxO_o (by decide) (by decide), Nat.add_zero]
      · rw [if_pos (by decide), nI_1]; simp [nxO]
    have ha2 : setA a 3 (nI (nxO o x)) 2 = nI (wg (o1, a1, n1) ++ wt g).length := (setA_n _ _ (by omega)).trans h2
    simp only [wp_mb, wp_vc, wp_gI, wp_pI, wp_mz, zk, true_and, u4_54, h4, eo, u2_54, wp_eq (keep_eq hR (I := I) (L := L) (b := b) (c := c) (e := e) ha2 (show (wg (o1, a1, n1) ++ wt g).length < 60 by omega) hx)]
    refine ⟨Or.inr trivial, _, _, _, _, rfl, rfl, ?_, ?_⟩
    · rw [setA_n _ _ (by omega), setA_n _ _ (by omega)]
      exact ha4
    · rcases hxk with rfl | rfl
      · have ev : vst p 0 33 ((o1, a1, n1), g, 0, U, m, y, Rl, v, tg) = ((o1, a1, n1 + 1), g, 0, U, m, y, Rl, v, tg) := by simp [vst]
        have ew : wg (o1, a1, n1 + 1) ++ wt g = 33 :: (wg (o1, a1, n1) ++ wt g) := by simp [wg, List.replicate_succ]
        rw [ev]
        refine ⟨sz, ⟨h1, ?_, ?_, ?_, ?_, ?_⟩, ?_, fun hh => by omega, fun hh => by omega, fun hh => by omega, fun _ => rfl, fun _ => ?_, fun hh => by omega, fun hh => by omega, fun hh => by omega⟩
        · rw [ew, setA_s]; rfl
        · rw [ew]; exact ⟨setA_s _ _ _, by decide, WS_cong h3 (fun i hi => setA_n _ _ (by omega))⟩
        · rw [setA_n _ _ (by omega), setA_s]
        · rw [nxO_o (by decide) (by decide)]; exact h5
        · rw [setA_n _ _ (by omega), setA_n _ _ (by omega)]; exact h6
        · rw [ew, if_neg (by omega)]; simp only [List.length_cons]; omega
        · rw [if_neg (by omega), hE0]; rfl
      · have ev : vst p 0 40 ((o1, a1, n1), g, 0, U, m, y, Rl, v, tg) = ((none, none, 0), (o1, a1, n1) :: g, 0, U, m, y, Rl, v, tg) := by simp [vst]
        have ew : wg (none, none, 0) ++ wt ((o1, a1, n1) :: g) = 40 :: (wg (o1, a1, n1) ++ wt g) := by simp [wg, wt]
        rw [ev]
        refine ⟨sz, ⟨h1, ?_, ?_, ?_, ?_, ?_⟩, ?_, fun hh => by omega, fun hh => by omega, fun hh => by omega, fun _ => rfl, fun _ => ?_, fun hh => by omega, fun hh => by omega, fun hh => by omega⟩
        · rw [ew, setA_s]; rfl
        · rw [ew]; exact ⟨setA_s _ _ _, by decide, WS_cong h3 (fun i hi => setA_n _ _ (by omega))⟩
        · rw [setA_n _ _ (by omega), setA_s]
        · simp [nxO, h5]
        · rw [setA_n _ _ (by omega), setA_n _ _ (by omega)]; exact h6
        · rw [ew, if_neg (by omega)]; simp only [List.length_cons]; omega
        · rw [if_neg (by omega), hE0]; simp [bits, bg]
  unfold Read_takesFactor
  by_cases x33 : x = 33
  · rw [if_pos (hl.1.mpr x33)]
    exact keep (Or.inl x33)
  · rw [if_neg (fun q => x33 (hl.1.mp q))]
    by_cases x40 : x = 40
    · rw [if_pos (hl.2.2.1.mpr x40)]
      exact keep (Or.inr x40)
    · rw [if_neg (fun q => x40 (hl.2.2.1.mp q))]
      simp only [wp_mb, wp_pI, wp_pZ, zk, true_and, u2_54, wp_vc]
      refine ⟨Or.inl trivial, ?_⟩
      have hJ : RJ sp 1 o k p (setA (setA a 5 0) 7 0) b c e ((o1, a1, n1), g, 0, U, false, y, Rl, v, tg) := by
        refine ⟨sz, ⟨h1, ?_, h3, ?_, h5, ?_⟩, ?_, fun _ => ⟨setA_s _ _ _, ?_⟩, fun hh => by omega, fun hh => by omega, fun hh => by omega, fun _ => ?_, fun hh => by omega, fun hh => by omega, fun hh => by omega⟩
        · rw [setA_n _ _ (by omega), setA_n _ _ (by omega)]; exact h2
        · rw [setA_n _ _ (by omega), setA_n _ _ (by omega)]; exact h4
        · rw [setA_n _ _ (by omega), setA_n _ _ (by omega)]; exact h6
        · rw [if_neg (by omega)]; exact hk2
        · rw [setA_n _ _ (by omega), setA_s]; rfl
        · rw [if_neg (by omega)]; exact hE0
      refine wp_mono (takeU hR (I := I) (L := L) (Or.inl rfl) hJ hk hx) (fun z d' q => wp_mz.mpr (TQ_01 ?_))
      have en : nx sp 0 o x = nx sp 1 o x := by simp [nx, x33, x40]
      rw [en]
      refine TQ_o q (fun hn => ?_)
      obtain ⟨l1, l2⟩ := nx_LD (Or.inl rfl) hn
      refine ⟨nxO_o l1 l2, ?_⟩
      simp [vst, x33, x40]
theorem takeT (hR : Rf R) {sp : Bool} {o k x : Nat} {p : Pl} {s : VS} (h : RdI sp 8 o k p a b c e s) (hx : x < 128) : wp (Read_takesTarget 54 (nI x)) (u4 I a b c e, L, R) (TQ I L R sp (nx sp 8 o x) (nxO o x) (k + 1) p (vst p 8 x s)) := by
  obtain ⟨⟨o1, a1, n1⟩, g, T, U, m, y, Rl, v, tg⟩ := s
  obtain ⟨ha4, sz, ⟨h1, h2, h3, h4, h5, h6⟩, hk2, -, -, -, hT, -, -, hS, -⟩ := h
  have hT0 := hT (by omega)
  rw [if_neg (by omega)] at hk2
  unfold Read_takesTarget
  simp only [wp_mb, wp_eq (rlet_eq hx _)]
  cases hl : isL x with
  | false =>
    rw [if_pos (by decide), wp_mz]
    have en : nx sp 8 o x = none := by simp [nx, hl]
    rw [en]
    exact ⟨Or.inl rfl, _, _, _, _, rfl, rfl⟩
  | true =>
    have hl2 := isL_iff.mp hl
    rw [if_neg (by decide)]
    have e97 : nI x - (97 : Int32) = nI (x - 97) := by rw [show (97 : Int32) = nI 97 from rfl, pk_sub (by omega)]
    simp only [wp_mb, wp_gR, wp_pI, wp_mz, zk, true_and, hR.1, u2_55, u2_54, e97]
    have en : nx sp 8 o x = some 9 := by simp [nx, hl]
    have ev : vst p 8 x ((o1, a1, n1), g, T, U, m, y, Rl, v, tg) = ((o1, a1, n1), g, T, U, m, y, Rl, v, x - 97) := by
      have : ¬ (x = 43 ∨ x = 45) := by omega
      simp [vst, this]
    rw [en, ev, nxO_o (by omega) (by omega)]
    obtain ⟨rs, r1, r2, r3, r4, -⟩ := hS (by omega)
    refine ⟨Or.inr trivial, _, _, _, _, rfl, rfl, setA_s _ _ _, sz, ⟨?_, ?_, h3, ?_, h5, ?_⟩, ?_, fun hh => by omega, fun hh => by omega, fun hh => by omega, fun _ => hT0, fun hh => by omega, fun hh => by omega, fun _ => ⟨rs, r1, ?_, r3, r4, fun hh => by omega⟩, fun _ => ⟨setA_s _ _ _, by omega⟩⟩
    · rw [setA_n _ _ (by omega)]; exact h1
    · rw [setA_n _ _ (by omega)]; exact h2
    · rw [setA_n _ _ (by omega)]; exact h4
    · rw [setA_n _ _ (by omega)]; exact h6
    · rw [if_neg (by omega)]; omega
    · rw [setA_n _ _ (by omega)]; exact r2
theorem takeE {sp : Bool} {o k x : Nat} {p : Pl} {s : VS} (h : RdI sp 9 o k p a b c e s) (hx : x < 128) : wp (Read_takesEquals 54 (nI x)) (u4 I a b c e, L, R) (TQ I L R sp (nx sp 9 o x) (nxO o x) (k + 1) p (vst p 9 x s)) := by
  have hl := rc_lit hx
  obtain ⟨⟨o1, a1, n1⟩, g, T, U, m, y, Rl, v, tg⟩ := s
  obtain ⟨ha4, sz, ⟨h1, h2, h3, h4, h5, h6⟩, hk2, -, -, -, hT, -, -, hS, ht⟩ := h
  have hT0 := hT (by omega)
  subst hT0
  rw [if_neg (by omega)] at hk2
  unfold Read_takesEquals
  by_cases h61 : x = 61
  · subst h61
    rw [if_pos (by decide)]
    simp only [wp_mb, wp_pI, wp_pZ, wp_mz, zk, true_and, u2_54]
    have en : nx sp 9 o 61 = some 10 := by simp [nx]
    have ev : vst p 9 61 ((o1, a1, n1), g, 0, U, m, y, Rl, v, tg) = ((o1, a1, n1), g, 0, U, false, y, Rl, v, tg) := by simp [vst]
    rw [en, ev, nxO_o (by decide) (by decide)]
    obtain ⟨rs, r1, r2, r3, r4, -⟩ := hS (by omega)
    refine ⟨Or.inl trivial, Or.inr trivial, _, _, _, _, rfl, rfl, setA_s _ _ _, sz, ⟨h1, ?_, h3, ?_, h5, ?_⟩, ?_, fun _ => ⟨?_, ?_⟩, fun hh => by omega, fun hh => by omega, fun hh => by omega, fun hh => by omega, fun hh => by omega, fun _ => ⟨rs, r1, r2, r3, r4, fun hh => by omega⟩, fun _ => ht (by omega)⟩
    · simpa [setA] using h2
    · simpa [setA] using h4
    · simpa [setA] using h6
    · rw [if_neg (by omega)]; omega
    · simp [setA, bI]
    · simp [setA, sdI]
  · rw [if_neg (show ¬ nI x = (61 : Int32) from fun q => h61 (hl.2.2.2.2.2.2.2.2.1.mp q)), wp_mz]
    have en : nx sp 9 o x = none := by simp [nx, h61]
    rw [en]
    exact ⟨Or.inl rfl, _, _, _, _, rfl, rfl⟩
end
