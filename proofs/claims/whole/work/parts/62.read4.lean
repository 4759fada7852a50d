/-! ===== pure: the reader behind a factor; each letter ===== -/
theorem oI_0 : Int32.ofInt 0 = 0 := rfl
theorem hb_sN {v : Bool} {l : List Bool} {T : Int32} (h : l.length < 62) : hb (lN (sN (v :: l)), T) = v := by
  have h1 := sN_lt (v :: l)
  have h2 : 2 ^ (v :: l).length < 2 ^ 64 := Nat.pow_lt_pow_right (by omega) (by simp; omega)
  have em : sN (v :: l) % 2 = if v then 1 else 0 := by
    simp only [sN]
    cases v
    · simp only [Bool.false_eq_true, if_false]; omega
    · simp only [if_true]; omega
  unfold hb
  dsimp only
  rw [wb_a1 (by omega), em]
  cases v <;> rfl
theorem nxO_o {o x : Nat} (h1 : x ≠ 40) (h2 : x ≠ 41) : nxO o x = o := by
  unfold nxO
  rw [if_neg h1, if_neg h2]
section
variable {I : Nat → Nat → Int32} {a b c e : Nat → Int32} {L : Nat → Nat → Int64} {R : Nat → Nat → Nat}
theorem takeF (hR : Rf R) {sp : Bool} {o' k sz x y Rl tg : Nat} {p : Pl} {o av : Option Bool} {g : List Gr} {v m : Bool} {U : Int} (h : RdC p a b c e (wg (o, av, 0) ++ wt g) sz (v :: (bg (o, av, 0) ++ bits g)) 0) (h3 : a 3 = nI o') (hg : g.length = o') (h8 : a 8 = bI sp) (hs : sz + (wg (o, av, 0) ++ wt g).length ≤ k) (hk : k < 60) (hx : x < 128) : wp (Read_takesBehindFactor 54 (nI x)) (u4 I a b c e, L, R) (TQ I L R sp (nxC sp o' x) (nxO o' x) (k + 1) p (vcl x ((o, av, 0), g, 0, U, m, y, Rl, v, tg))) := by
  have hl := rc_lit hx
  have hwl : (wg (o, av, 0) ++ wt g).length = (wg (o, av, 0)).length + (wt g).length := by simp
  have hbl := bits_len g
  have hwh := wt_head g
  have hno : ∀ {q : Nat}, q < 60 → o' ≤ q → o' < 2 ^ 31 := fun h1 h2 => by omega
  have hgl : o' ≤ (wt g).length := by
    rw [← hg]
    clear h hs hwl hbl hwh hg
    induction g with
    | nil => simp
    | cons G g ih => simp [wt]; omega
  have no : nxC sp o' x = none → wp (mz (0 : Int32)) (u4 I a b c e, L, R) (TQ I L R sp (nxC sp o' x) (nxO o' x) (k + 1) p (vcl x ((o, av, 0), g, 0, U, m, y, Rl, v, tg))) := by
    intro hn
    rw [wp_mz, hn]
    exact ⟨Or.inl rfl, _, _, _, _, rfl, rfl⟩
  unfold Read_takesBehindFactor
  by_cases x38 : x = 38
  · subst x38
    rw [if_pos (hl.2.1.mpr rfl)]
    simp only [wp_mb, wp_vc, zk, true_and]
    refine wp_mono (relA hR h (by omega) (by omega) hwh.1) (fun _ d1 ⟨a1, b1, c1, s1, e1, h1, k1, f1, n1, m1⟩ => ?_)
    subst e1
    unfold Read_takesBehindFactor_117
    have hlen : (wg (o, none, 0) ++ wt g).length < 60 := by omega
    simp only [wp_mb, wp_vc, wp_pI, wp_mz, zk, true_and, wp_eq (keep_eq hR (I := I) (L := L) (b := b1) (c := c1) (e := e) (x := 38) h1.1 hlen (by decide)), u2_54]
    have en : nxC sp o' 38 = some 0 := by simp [nxC]
    rw [en, nxO_o (by decide) (by decide)]
    refine ⟨Or.inr trivial, _, _, _, _, rfl, rfl, setA_s _ _ _, ?_⟩
    have ev : vcl 38 ((o, av, 0), g, 0, U, m, y, Rl, v, tg) = ((o, some (anv av v), 0), g, 0, U, m, y, Rl, v, tg) := by simp [vcl]
    have ew : wg (o, some (anv av v), 0) ++ wt g = 38 :: (wg (o, none, 0) ++ wt g) := by simp [wg]
    rw [ev]
    refine ⟨s1, ⟨h1.2.2.1, ?_, ?_, ?_, hg, ?_⟩, ?_, fun hh => by omega, fun hh => by omega, fun hh => by omega, fun _ => rfl, fun _ => ?_, fun hh => by omega, fun hh => by omega, fun hh => by omega⟩
    · rw [ew]; simp [setA]
    · rw [ew]; exact ⟨setA_s _ _ _, by decide, WS_cong h1.2.1 (fun i hi => setA_n _ _ (by omega))⟩
    · rw [setA_n _ _ (by omega), setA_n _ _ (by omega), k1.1 3 (by omega) (by omega)]; exact h3
    · rw [setA_n _ _ (by omega), setA_n _ _ (by omega), k1.1 8 (by omega) (by omega)]; exact h8
    · rw [ew]; simp only [List.length_cons]; rw [if_neg (by omega)]; omega
    · rw [if_neg (by omega), h1.2.2.2]
      simp [bits, bg, oI_0]
  · rw [if_neg (fun q => x38 (hl.2.1.mp q))]
    by_cases x124 : x = 124
    · subst x124
      rw [if_pos (hl.2.2.2.2.2.2.2.2.2.2.mpr rfl)]
      simp only [wp_mb, wp_vc, zk, true_and]
      refine wp_mono (closeT hR h (by omega) (by omega) ⟨hwh.1, hwh.2.1⟩) (fun _ d1 ⟨a1, b1, c1, s1, e1, h1, k1, f1, n1, m1⟩ => ?_)
      subst e1
      unfold Read_takesBehindFactor_117
      have hlen : (wt g).length < 60 := by omega
      simp only [wp_mb, wp_vc, wp_pI, wp_mz, zk, true_and, wp_eq (keep_eq hR (I := I) (L := L) (b := b1) (c := c1) (e := e) (x := 124) h1.1 hlen (by decide)), u2_54]
      have en : nxC sp o' 124 = some 0 := by simp [nxC]
      rw [en, nxO_o (by decide) (by decide)]
      refine ⟨Or.inr trivial, _, _, _, _, rfl, rfl, setA_s _ _ _, ?_⟩
      have ev : vcl 124 ((o, av, 0), g, 0, U, m, y, Rl, v, tg) = ((some (orv o (anv av v)), none, 0), g, 0, U, m, y, Rl, v, tg) := by simp [vcl]
      have ew : wg (some (orv o (anv av v)), none, 0) ++ wt g = 124 :: wt g := by simp [wg]
      rw [ev]
      refine ⟨s1, ⟨h1.2.2.1, ?_, ?_, ?_, hg, ?_⟩, ?_, fun hh => by omega, fun hh => by omega, fun hh => by omega, fun _ => rfl, fun _ => ?_, fun hh => by omega, fun hh => by omega, fun hh => by omega⟩
      · rw [ew]; simp [setA]
      · rw [ew]; exact ⟨setA_s _ _ _, by decide, WS_cong h1.2.1 (fun i hi => setA_n _ _ (by omega))⟩
      · rw [setA_n _ _ (by omega), setA_n _ _ (by omega), k1.1 3 (by omega) (by omega)]; exact h3
      · rw [setA_n _ _ (by omega), setA_n _ _ (by omega), k1.1 8 (by omega) (by omega)]; exact h8
      · rw [ew]; simp only [List.length_cons]; rw [if_neg (by omega)]; omega
      · rw [if_neg (by omega), h1.2.2.2]
        simp [bits, bg, oI_0]
    · rw [if_neg (fun q => x124 (hl.2.2.2.2.2.2.2.2.2.2.mp q))]
      by_cases x41 : x = 41
      · subst x41
        rw [if_pos (hl.2.2.2.1.mpr rfl), wp_mb, wp_gI]
        refine ⟨rfl, ?_⟩
        simp only [u4_54, h3]
        cases g with
        | nil =>
          have ho : o' = 0 := by rw [← hg]; rfl
          subst ho
          rw [if_pos (by decide)]
          unfold Read_takesBehindFactor_77
          rw [if_neg (by decide)]
          exact no (by simp [nxC])
        | cons G' g' =>
          obtain ⟨o2, a2, n2⟩ := G'
          have ho : o' = g'.length + 1 := by rw [← hg]; rfl
          rw [if_neg (nI_nle (by omega) (by omega))]
          simp only [wp_mb, wp_vc, zk, true_and]
          refine wp_mono (closeT hR h (by omega) (by omega) ⟨hwh.1, hwh.2.1⟩) (fun _ d1 ⟨a1, b1, c1, s1, e1, h1, k1, f1, n1, m1⟩ => ?_)
          subst e1
          have hl2 : (wt ((o2, a2, n2) :: g')).length = (wg (o2, a2, n2) ++ wt g').length + 1 := by simp [wt]
          have ha3 : a1 3 = nI (g'.length + 1) := by rw [k1.1 3 (by omega) (by omega), h3, ho]
          have ha2 : a1 2 = nI ((wg (o2, a2, n2) ++ wt g').length + 1) := by rw [h1.1, hl2]
          have emx : (if (0 : Int32) < nI (wg (o2, a2, n2) ++ wt g').length then nI (wg (o2, a2, n2) ++ wt g').length else (0 : Int32)) = nI (wg (o2, a2, n2) ++ wt g').length := by
            by_cases hz : (wg (o2, a2, n2) ++ wt g').length = 0
            · rw [hz]; rfl
            · rw [if_pos (show (0 : Int32) < nI (wg (o2, a2, n2) ++ wt g').length from nI_lt (a := 0) (by omega) (by omega))]
          have s32 : setA a1 3 (nI g'.length) 2 = nI ((wg (o2, a2, n2) ++ wt g').length + 1) := by rw [setA_n _ _ (by omega)]; exact ha2
          simp only [wp_mb, wp_vc, wp_gI, wp_pI, zk, true_and, u4_54, ha3, nI_pred, u2_54, s32]
          rw [emx]
          have hwh' := wt_head g'
          have ew : wg (o2, a2, n2) ++ wt g' = List.replicate n2 33 ++ (wg (o2, a2, 0) ++ wt g') := by simp [wg]
          have hh : (wg (o2, a2, 0) ++ wt g').head? ≠ some 33 := by
            cases a2 with
            | none =>
              cases o2 with
              | none => simpa [wg] using hwh'.2.2
              | some _ => simp [wg]
            | some _ => simp [wg]
          have hlw : (wg (o2, a2, n2) ++ wt g').length = n2 + (wg (o2, a2, 0) ++ wt g').length := by rw [ew]; simp
          have h5 : RdC p (setA (setA a1 3 (nI g'.length)) 2 (nI (wg (o2, a2, n2) ++ wt g').length)) b1 c1 e (List.replicate n2 33 ++ (wg (o2, a2, 0) ++ wt g')) s1 (orv o (anv av v) :: bits ((o2, a2, n2) :: g')) 0 := by
            rw [← ew]
            exact ⟨setA_s _ _ _, h1.2.1.2.2, h1.2.2.1, h1.2.2.2⟩
          refine wp_mono (closeF hR hh h5 (by omega)) (fun _ d2 ⟨a3, b3, c3, e3, q1, q2, q3⟩ => ?_)
          subst e3
          have en : nxC sp o' 41 = some 7 := by simp [nxC, ho]
          have eo : nxO o' 41 = g'.length := by simp [nxO, ho]
          rw [wp_mz, en, eo]
          refine ⟨Or.inr rfl, _, _, _, _, rfl, rfl, q3, ?_⟩
          have ev : vcl 41 ((o, av, 0), (o2, a2, n2) :: g', 0, U, m, y, Rl, v, tg) = ((o2, a2, 0), g', 0, U, m, y, Rl, dnv n2 (orv o (anv av v)), tg) := by simp [vcl]
          rw [ev]
          refine ⟨s1 + n2, ⟨q1.2.2.1, q1.1, q1.2.1, ?_, rfl, ?_⟩, ?_, fun hh => by omega, fun hh => by omega, fun _ => rfl, fun _ => rfl, fun _ => ?_, fun hh => by omega, fun hh => by omega, fun hh => by omega⟩
          · rw [q2.1 3 (by omega) (by omega), setA_n _ _ (by omega), setA_s]
          · rw [q2.1 8 (by omega) (by omega), setA_n _ _ (by omega), setA_n _ _ (by omega), k1.1 8 (by omega) (by omega)]; exact h8
          · rw [if_neg (by omega)]; omega
          · rw [if_pos rfl, q1.2.2.2]
            simp [bits, bg, oI_0]
      · rw [if_neg (fun q => x41 (hl.2.2.2.1.mp q))]
        unfold Read_takesBehindFactor_77
        by_cases x58 : x = 58
        · subst x58
          rw [if_pos (hl.2.2.2.2.2.2.1.mpr rfl), wp_mb, wp_gI]
          refine ⟨rfl, ?_⟩
          simp only [u4_54, h8, bI_0]
          cases sp with
          | false =>
            rw [if_pos rfl]
            exact no (by simp [nxC])
          | true =>
            rw [if_neg (by decide), wp_mb, wp_gI]
            refine ⟨rfl, ?_⟩
            simp only [u4_54, h3]
            by_cases ho : o' = 0
            · subst ho
              rw [if_pos (show nI 0 = 0 from rfl)]
              simp only [wp_mb, wp_vc, zk, true_and]
              refine wp_mono (closeT hR h (by omega) (by omega) ⟨hwh.1, hwh.2.1⟩) (fun _ d1 ⟨a1, b1, c1, s1, e1, h1, k1, f1, n1, m1⟩ => ?_)
              subst e1
              unfold Text_endRule
              simp only [wp_mb, wp_vc, wp_gR, wp_gI, wp_pI, wp_mp, wp_mz, zk, true_and, hR.1, u4_55, u2_55, u2_54, h1.2.2.1]
              have en : nxC true 0 58 = some 8 := by simp [nxC]
              rw [en, nxO_o (by decide) (by decide)]
              refine ⟨Or.inr trivial, _, _, _, _, rfl, rfl, setA_s _ _ _, ?_⟩
              have ev : vcl 58 ((o, av, 0), g, 0, U, m, y, Rl, v, tg) = ((none, none, 0), g, 0, U, m, y, Rl, orv o (anv av v), tg) := by simp [vcl]
              have ew : wg (none, none, 0) ++ wt g = wt g := by simp [wg]
              rw [ev]
              refine ⟨s1, ⟨?_, ?_, ?_, ?_, hg, ?_⟩, ?_, fun hh => by omega, fun hh => by omega, fun hh => by omega, fun _ => rfl, fun hh => by omega, fun hh => by omega, fun _ => ⟨s1, Nat.le_refl _, setA_s _ _ _, ?_, ?_, fun hh => by omega⟩, fun hh => by omega⟩
              · rw [setA_n _ _ (by omega)]; exact h1.2.2.1
              · rw [ew, setA_n _ _ (by omega)]; exact h1.1
              · rw [ew]; exact h1.2.1
              · rw [setA_n _ _ (by omega), k1.1 3 (by omega) (by omega)]; exact h3
              · rw [setA_n _ _ (by omega), k1.1 8 (by omega) (by omega)]; exact h8
              · rw [ew, if_neg (by omega)]; omega
              · rw [h1.2.2.2]; exact hb_sN (by omega)
              · rw [Nat.sub_self]; rfl
            · rw [if_neg (nI_ne0 (by omega) (by omega))]
              exact no (by simp [nxC, ho])
        · rw [if_neg (fun q => x58 (hl.2.2.2.2.2.2.1.mp q))]
          exact no (by simp [nxC, x38, x124, x41, x58])
end
