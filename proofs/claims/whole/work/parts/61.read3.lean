/-! ===== pure: the reader takes a letter, further ===== -/
theorem nI_c {x n : Nat} (hx : x < 128) (hn : n < 128) : nI x = nI n ↔ x = n := nI_eq (by omega) (by omega)
theorem rc_lit {x : Nat} (hx : x < 128) : (nI x = (33 : Int32) ↔ x = 33) ∧ (nI x = (38 : Int32) ↔ x = 38) ∧ (nI x = (40 : Int32) ↔ x = 40) ∧ (nI x = (41 : Int32) ↔ x = 41) ∧ (nI x = (43 : Int32) ↔ x = 43) ∧ (nI x = (45 : Int32) ↔ x = 45) ∧ (nI x = (58 : Int32) ↔ x = 58) ∧ (nI x = (60 : Int32) ↔ x = 60) ∧ (nI x = (61 : Int32) ↔ x = 61) ∧ (nI x = (62 : Int32) ↔ x = 62) ∧ (nI x = (124 : Int32) ↔ x = 124) :=
  ⟨nI_c (n := 33) hx (by omega), nI_c (n := 38) hx (by omega), nI_c (n := 40) hx (by omega), nI_c (n := 41) hx (by omega), nI_c (n := 43) hx (by omega), nI_c (n := 45) hx (by omega), nI_c (n := 58) hx (by omega), nI_c (n := 60) hx (by omega), nI_c (n := 61) hx (by omega), nI_c (n := 62) hx (by omega), nI_c (n := 124) hx (by omega)⟩
section
variable {I : Nat → Nat → Int32} {a b c e : Nat → Int32} {L : Nat → Nat → Int64} {R : Nat → Nat → Nat}
def qU (q : Nat) : Nat := if q ≤ 3 then 1 else if q ≤ 6 then 4 else 10
def TB (I : Nat → Nat → Int32) (L : Nat → Nat → Int64) (R : Nat → Nat → Nat) (sp : Bool) (q o k x : Nat) (p : Pl) : VS → Int32 → Dm → Prop
  | (G, g, T, U, m, y, Rl, v, tg), z, d' => ∃ a' b' c' e', d' = (u4 I a' b' c' e', L, R) ∧ if x = 43 ∨ x = 45 then z = 1 ∧ RdI sp (qU q) o (k + 1) p a' b' c' e' (G, g, T, U, decide (x = 45), y, Rl, v, tg) else if q ≤ 3 ∧ isM x = true then z = 1 ∧ RdI sp 4 o (k + 1) p a' b' c' e' (G, g, T, U, false, y, x, v, tg) else z = 0
theorem takeB {sp : Bool} {q o k x : Nat} {p : Pl} {s : VS} (hq : q = 2 ∨ q = 3 ∨ q = 5 ∨ q = 6 ∨ q = 11 ∨ q = 12) (h : RJ sp q o k p a b c e s) (hx : x < 128) : wp (Read_takesBehindUnit 54 (nI x)) (u4 I a b c e, L, R) (TB I L R sp q o k x p s) := by
  obtain ⟨G, g, T, U, m, y, Rl, v, tg⟩ := s
  obtain ⟨sz, ⟨h1, h2, h3, h4, h5, h6⟩, hk2, hm, hr, -, -, hE, -, hS, ht⟩ := h
  obtain ⟨m7, m5⟩ := hm (by omega)
  have hl := rc_lit hx
  have sign : x = 43 ∨ x = 45 → wp (Read_takesBehindUnit_12 54 (nI x)) (u4 I a b c e, L, R) (TB I L R sp q o k x p (G, g, T, U, m, y, Rl, v, tg)) := by
    intro hxs
    unfold Read_takesBehindUnit_12 Read_takesBehindUnit_24
    have e45 : (if nI x = (45 : Int32) then (1 : Int32) else 0) = bI (decide (x = 45)) := by
      unfold bI
      by_cases hx45 : x = 45
      · rw [if_pos (hl.2.2.2.2.2.1.mpr hx45)]; simp [hx45]
      · rw [if_neg (fun q => hx45 (hl.2.2.2.2.2.1.mp q))]; simp [hx45]
    rw [e45]
    simp only [wp_mb, wp_pZ, wp_pI, wp_mz, zk, true_and, u2_54]
    refine ⟨bI_01' _, Or.inr trivial, _, _, _, _, rfl, ?_⟩
    rw [if_pos hxs]
    refine ⟨rfl, ?_, sz, ⟨h1, ?_, h3, ?_, h5, ?_⟩, ?_, fun _ => ⟨?_, ?_⟩, fun hh => ?_, fun hh => ?_, fun hh => ?_, fun hh => ?_, fun hh => ?_, fun hh => ?_, fun hh => ?_⟩
    · rcases hq with rfl | rfl | rfl | rfl | rfl | rfl <;> rfl
    · simpa [setA] using h2
    · simpa [setA] using h4
    · simpa [setA] using h6
    · rcases hq with rfl | rfl | rfl | rfl | rfl | rfl <;> simp [qU] at hk2 ⊢ <;> omega
    · simp [setA]
    · simp only [setA]
      rw [if_neg (by decide), if_neg (by decide), m5]
      rcases hq with rfl | rfl | rfl | rfl | rfl | rfl <;> rfl
    · obtain ⟨r1, r2⟩ := hr (by rcases hq with rfl | rfl | rfl | rfl | rfl | rfl <;> simp [qU] at hh ⊢)
      exact ⟨by simpa [setA] using r1, r2⟩
    · rcases hq with rfl | rfl | rfl | rfl | rfl | rfl <;> simp [qU] at hh
    · rcases hq with rfl | rfl | rfl | rfl | rfl | rfl <;> simp [qU] at hh
    · have h7 : ¬ qU q = 7 := by rcases hq with rfl | rfl | rfl | rfl | rfl | rfl <;> decide
      rw [if_neg h7]
      have := hE (by rcases hq with rfl | rfl | rfl | rfl | rfl | rfl <;> simp [qU] at hh ⊢)
      rw [if_neg (show ¬ q = 7 by omega)] at this
      exact this
    · rcases hq with rfl | rfl | rfl | rfl | rfl | rfl <;> simp [qU] at hh
    · obtain ⟨rs, r1, r2, r3, r4, -⟩ := hS (by rcases hq with rfl | rfl | rfl | rfl | rfl | rfl <;> simp [qU] at hh ⊢)
      exact ⟨rs, r1, r2, r3, r4, fun h12 => by rcases hq with rfl | rfl | rfl | rfl | rfl | rfl <;> simp [qU] at h12⟩
    · exact ht (by rcases hq with rfl | rfl | rfl | rfl | rfl | rfl <;> simp [qU] at hh ⊢)
  have mark : q ≤ 3 → isM x = true → ¬ (x = 43 ∨ x = 45) → wp (Read_takesBehindUnit_59 54 (nI x)) (u4 I a b c e, L, R) (TB I L R sp q o k x p (G, g, T, U, m, y, Rl, v, tg)) := by
    intro hq3 hxm hns
    have hxm2 := isM_iff.mp hxm
    unfold Read_takesBehindUnit_59
    simp only [wp_mb, wp_pZ, wp_pI, wp_pC, wp_mz, zk, true_and, u2_54]
    refine ⟨⟨nI_pos' (by omega), nI_le (b := 65535) (by omega) (by omega)⟩, Or.inl trivial, Or.inr trivial, _, _, _, _, rfl, ?_⟩
    rw [if_neg hns, if_pos ⟨hq3, hxm⟩]
    refine ⟨rfl, rfl, sz, ⟨h1, ?_, h3, ?_, h5, ?_⟩, ?_, fun _ => ⟨?_, ?_⟩, fun _ => ⟨?_, hxm2.1, hxm2.2⟩, fun hh => by omega, fun hh => by omega, fun _ => ?_, fun hh => by omega, fun hh => by omega, fun hh => by omega⟩
    · simpa [setA] using h2
    · simpa [setA] using h4
    · simpa [setA] using h6
    · rcases hq with rfl | rfl | rfl | rfl | rfl | rfl <;> simp at hk2 ⊢ <;> omega
    · simp [setA, bI]
    · simp [setA, sdI]
    · simp [setA]
    · have := hE (by omega)
      rw [if_neg (show ¬ q = 7 by omega)] at this
      rw [if_neg (by omega)]
      exact this
  have no : ¬ (x = 43 ∨ x = 45) → ¬ (q ≤ 3 ∧ isM x = true) → wp (mz (0 : Int32)) (u4 I a b c e, L, R) (TB I L R sp q o k x p (G, g, T, U, m, y, Rl, v, tg)) := by
    intro n1 n2
    rw [wp_mz]
    refine ⟨Or.inl rfl, _, _, _, _, rfl, ?_⟩
    rw [if_neg n1, if_neg n2]
  unfold Read_takesBehindUnit
  by_cases x43 : x = 43
  · rw [if_pos (hl.2.2.2.2.1.mpr x43)]
    exact sign (Or.inl x43)
  · rw [if_neg (fun q => x43 (hl.2.2.2.2.1.mp q))]
    by_cases x45 : x = 45
    · rw [if_pos (hl.2.2.2.2.2.1.mpr x45)]
      exact sign (Or.inr x45)
    · rw [if_neg (fun q => x45 (hl.2.2.2.2.2.1.mp q))]
      have hns : ¬ (x = 43 ∨ x = 45) := by omega
      rw [wp_mb, wp_gI]
      refine ⟨rfl, ?_⟩
      simp only [u4_54, m5]
      by_cases hq3 : q ≤ 3
      · rw [if_pos (show sdI q = 0 by unfold sdI; rw [if_pos hq3])]
        by_cases x60 : x = 60
        · rw [if_pos (hl.2.2.2.2.2.2.2.1.mpr x60)]
          exact mark hq3 (isM_iff.mpr (by omega)) hns
        · rw [if_neg (fun q => x60 (hl.2.2.2.2.2.2.2.1.mp q))]
          by_cases x61 : x = 61
          · rw [if_pos (hl.2.2.2.2.2.2.2.2.1.mpr x61)]
            exact mark hq3 (isM_iff.mpr (by omega)) hns
          · rw [if_neg (fun q => x61 (hl.2.2.2.2.2.2.2.2.1.mp q))]
            by_cases x62 : x = 62
            · rw [if_pos (hl.2.2.2.2.2.2.2.2.2.1.mpr x62)]
              exact mark hq3 (isM_iff.mpr (by omega)) hns
            · rw [if_neg (fun q => x62 (hl.2.2.2.2.2.2.2.2.2.1.mp q))]
              exact no hns (fun q => by have := isM_iff.mp q.2; omega)
      · rw [if_neg (show ¬ sdI q = 0 by unfold sdI; rw [if_neg hq3]; split <;> decide)]
        exact no hns (fun q => hq3 q.1)
theorem widen_eq (hR : Rf R) {z kd y n : Nat} (h1 : b 1 = nI (z + 1)) (hz : z < 60) (hc : c z = wrd kd y) (hy : y ≤ 9) (hk : kd < 10) : Text_widen 55 (nI n) (u4 I a b c e, L, R) = some ((), (u4 I a b (setA c z (wrd kd (10 * y + n))) e, L, R)) := by
  apply wp_get
  unfold Text_widen
  simp only [wp_mb, wp_gI, wp_gR, zk, true_and, u4_55, h1, hR.1]
  rw [if_neg (nI_nle (by omega) (by omega))]
  simp only [wp_mb, wp_gI, wp_gR, wp_aI, wp_sI, wp_mp, zk, zl, true_and, u4_55, u4_56, h1, hR.1, nI_pred, nI_clamp (show z < 2 ^ 31 by omega), u2_56, hc]
  refine ⟨ib_nI (by omega) (by omega), ib_nI (by omega) (by omega), ib_nI (by omega) (by omega), ?_⟩
  unfold wrd
  rw [an8 (by omega), show (9 : Int32) = nI 9 from rfl, pk_mul, nI_add, nI_add, show kd * 256 + y + (9 * y + n) = kd * 256 + (10 * y + n) by omega]
theorem take2 (hR : Rf R) {sp : Bool} {q o k x : Nat} {p : Pl} {s : VS} (hq : q = 3 ∨ q = 6 ∨ q = 12) (h : RJ sp q o k p a b c e s) (hx : isD x = true) (hk : k < 60) (hsm : vsm k s) : wp (Read_takesSecondDigit 54 (nI x)) (u4 I a b c e, L, R) (TQ I L R sp (some (q - 1)) o (k + 1) p (vst p q x s)) := by
  obtain ⟨⟨o1, a1, n1⟩, g, T, U, m, y, Rl, v, tg⟩ := s
  have hx2 := isD_iff.mp hx
  have hy : y ≤ 9 := hsm.2.2
  obtain ⟨sz, ⟨h1, h2, h3, h4, h5, h6⟩, hk2, hm, hr, -, -, hE, hD, hS, ht⟩ := h
  obtain ⟨m7, m5⟩ := hm (by omega)
  have e48 : nI x - (48 : Int32) = nI (x - 48) := by rw [show (48 : Int32) = nI 48 from rfl, pk_sub (by omega)]
  unfold Read_takesSecondDigit
  rw [e48]
  have main : ∃ z kd, sz = z + 1 ∧ kd < 10 ∧ c z = wrd kd y ∧ RJ sp (q - 1) o (k + 1) p (setA a 4 3) b (setA c z (wrd kd (10 * y + (x - 48)))) e (vst p q x ((o1, a1, n1), g, T, U, m, y, Rl, v, tg)) := by
    rcases hq with rfl | rfl | rfl
    · obtain ⟨z, z1, z2, z3⟩ := hD (Or.inl rfl)
      rw [if_neg (show ¬ (3 : Nat) = 6 by decide)] at z2
      refine ⟨z, _, z1, by split <;> omega, z2, ?_⟩
      have ev : vst p 3 x ((o1, a1, n1), g, T, U, m, y, Rl, v, tg) = ((o1, a1, n1), g, U + sgn m ((10 * y + (x - 48) : Nat) : Int), U, m, y, Rl, v, tg) := by simp [vst, hx]
      rw [ev]
      refine ⟨sz, ⟨h1, (setA_n _ _ (by omega)).trans h2, h3, (setA_n _ _ (by omega)).trans h4, h5, (setA_n _ _ (by omega)).trans h6⟩, by simp at hk2 ⊢; omega, fun _ => ⟨(setA_n _ _ (by omega)).trans m7, (setA_n _ _ (by omega)).trans m5⟩, fun hh => by omega, fun hh => by omega, fun hh => by omega, fun _ => ?_, fun hh => by omega, fun hh => by omega, fun hh => by omega⟩
      rw [z1, tE_push, z3, ts_uS (by split <;> omega) (by omega), un_num (by omega), oI_sgn, if_neg (by omega)]
    · obtain ⟨z, z1, z2, z3⟩ := hD (Or.inr rfl)
      rw [if_pos rfl] at z2
      refine ⟨z, _, z1, by split <;> omega, z2, ?_⟩
      have ev : vst p 6 x ((o1, a1, n1), g, T, U, m, y, Rl, v, tg) = ((o1, a1, n1), g, U + sgn (!m) ((10 * y + (x - 48) : Nat) : Int), U, m, y, Rl, v, tg) := by simp [vst, hx]
      rw [ev]
      refine ⟨sz, ⟨h1, (setA_n _ _ (by omega)).trans h2, h3, (setA_n _ _ (by omega)).trans h4, h5, (setA_n _ _ (by omega)).trans h6⟩, by simp at hk2 ⊢; omega, fun _ => ⟨(setA_n _ _ (by omega)).trans m7, (setA_n _ _ (by omega)).trans m5⟩, fun hh => ⟨(setA_n _ _ (by omega)).trans (hr (by omega)).1, (hr (by omega)).2⟩, fun hh => by omega, fun hh => by omega, fun _ => ?_, fun hh => by omega, fun hh => by omega, fun hh => by omega⟩
      rw [z1, tE_push, z3, ts_uS (by split <;> omega) (by omega), un_num (by omega), oI_sgn, if_neg (by omega)]
    · obtain ⟨rs, r1, r2, r3, r4, r5⟩ := hS (by omega)
      obtain ⟨z, z1, z2, z3, z4⟩ := r5 rfl
      refine ⟨z, _, z1, by split <;> omega, z3, ?_⟩
      have ev : vst p 12 x ((o1, a1, n1), g, T, U, m, y, Rl, v, tg) = ((o1, a1, n1), g, U + sgn m ((10 * y + (x - 48) : Nat) : Int), U, m, y, Rl, v, tg) := by simp [vst, hx]
      rw [ev]
      refine ⟨sz, ⟨h1, (setA_n _ _ (by omega)).trans h2, h3, (setA_n _ _ (by omega)).trans h4, h5, (setA_n _ _ (by omega)).trans h6⟩, by simp at hk2 ⊢; omega, fun _ => ⟨(setA_n _ _ (by omega)).trans m7, (setA_n _ _ (by omega)).trans m5⟩, fun hh => by omega, fun hh => by omega, fun hh => by omega, fun hh => by omega, fun hh => by omega, fun _ => ⟨rs, r1, r2, by rw [tE_low _ _ _ z2]; exact r3, ?_, fun hh => by omega⟩, fun hh => ht (by omega)⟩
      rw [z1, tS_push _ _ _ z2, z4, un_num (by omega), oI_sgn]
  obtain ⟨z, kd, z1, z2, z3, z4⟩ := main
  rw [z1] at h1
  simp only [wp_mb, wp_gR, wp_vc, wp_pI, wp_mz, zk, true_and, hR.1, wp_eq (widen_eq hR (I := I) (a := a) (e := e) (L := L) (n := x - 48) h1 (by omega) z3 hy z2), u2_54]
  exact ⟨Or.inr trivial, _, _, _, _, rfl, rfl, by rcases hq with rfl | rfl | rfl <;> rfl, z4⟩
end
