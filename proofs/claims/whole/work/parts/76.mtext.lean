/-! ===== pure: the reference's rules and steps ===== -/
def sE (x j : Nat) : Prop := x = 76 ∨ x = 77 ∨ x = 78 ∨ (x = 65 ∧ ((19 ≤ j ∧ j ≤ 22) ∨ j = 26))
def sNw (x j : Nat) : Prop := x = 75 ∨ sE x j
def MR (r : Nat) (ev : Nat → Pl → Bool) (A : Nat) (d : Dm) : Prop := r ≤ 6 ∧ d.1 65 6 = nI r ∧ ∀ j, j < r → d.1 72 j = bI (A.testBit j) ∧ ∃ t m, m ≤ 60 ∧ d.1 71 j = nI m ∧ (∀ i, i < m → d.1 70 (60 * j + i) = nI (t i) ∧ t i < 128) ∧ WH false t m ∧ ∀ p, okP p → rvP t m p = ev j p
def MS (ns : Nat) (sv : Nat → Pl → Pl) (d : Dm) : Prop := ns ≤ 8 ∧ d.1 65 10 = nI ns ∧ ∀ j, j < ns → ∃ t m, m ≤ 60 ∧ d.1 74 j = nI m ∧ (∀ i, i < m → d.1 73 (60 * j + i) = nI (t i) ∧ t i < 128) ∧ WH true t m ∧ ∀ p, okP p → svP t m p = sv j p
def nowP (p : Pl) (d : Dm) : Prop := ∀ s, s < 8 → d.1 75 s = nI (p s)
theorem u2_comm {α : Type} (f : Nat → Nat → α) (a : Nat) {k j : Nat} (h : k ≠ j) (x y : α) : u2 (u2 f a k x) a j y = u2 (u2 f a j y) a k x := by
  funext i l
  unfold u2
  by_cases h1 : i = a ∧ l = j
  · rw [if_pos h1, if_neg (fun q => h (by omega)), if_pos h1]
  · rw [if_neg h1, if_neg h1]
def txM (d : Dm) (s : Int32) (B m : Nat) : Dm := (u2 (u2 (u2 d.1 65 19 s) 65 20 (nI B)) 65 22 (nI m), d.2)
theorem txM_n (d : Dm) (s : Int32) (B m : Nat) {x j : Nat} (h : ¬ (x = 65 ∧ (j = 19 ∨ j = 20 ∨ j = 22))) : (txM d s B m).1 x j = d.1 x j := by
  show u2 (u2 (u2 d.1 65 19 s) 65 20 (nI B)) 65 22 (nI m) x j = _
  unfold u2
  rw [if_neg (by omega), if_neg (by omega), if_neg (by omega)]
theorem txM_at (d : Dm) (s : Int32) (B m k : Nat) : ((u2 (u2 (u2 (u2 d.1 65 19 s) 65 20 (nI B)) 65 21 (nI k)) 65 22 (nI m), d.2) : Dm) = atM (txM d s B m) k := by
  unfold atM txM
  rw [u2_comm _ _ (show 21 ≠ 22 by omega)]
theorem txM_TX {d : Dm} (hR : MRf d.2.2) {s : Bool} {B m : Nat} {t : Nat → Nat} (hm : m ≤ 60) (hB : B + 60 ≤ (if s then 480 else 360)) (ht : ∀ i, i < m → d.1 (if s then 73 else 70) (B + i) = nI (t i) ∧ t i < 128) : TX s B t m (txM d (bI s) B m) := by
  refine ⟨⟨hR, ?_, ?_, u2_s (u2 (u2 d.1 65 19 (bI s)) 65 20 (nI B)) 65 22 (nI m)⟩, hm, hB, fun i hi => ?_⟩
  · show u2 (u2 (u2 d.1 65 19 (bI s)) 65 20 (nI B)) 65 22 (nI m) 65 19 = _
    rw [u2_k _ _ _ (by omega), u2_k _ _ _ (by omega), u2_s]
  · show u2 (u2 (u2 d.1 65 19 (bI s)) 65 20 (nI B)) 65 22 (nI m) 65 20 = _
    rw [u2_k _ _ _ (by omega), u2_s]
  · rw [txM_n _ _ _ _ (by split <;> omega)]
    exact ht i hi
theorem fr_txM (d : Dm) (s : Int32) (B m k : Nat) (dp : Int32) (X Y Z : Nat → Int32) : frc sE d (atM (hB (txM d s B m) dp X Y Z) k) := by
  refine ⟨fun x j hx => ⟨?_, rfl⟩, rfl⟩
  unfold sE at hx
  rw [atM_n _ _ (by omega), hB_n (by omega), txM_n _ _ _ _ (by omega)]
section
variable {r ns A : Nat} {ev : Nat → Pl → Bool} {sv : Nat → Pl → Pl} {d : Dm} {p : Pl}
theorem no58 {q o : Nat} (hq : 5 ≤ q ∧ q ≤ 7) : nx false q o 58 = none := by
  have hc : clsd q 58 := by
    have : q = 7 ∨ q = 5 ∨ q = 6 := by omega
    rcases this with rfl | rfl | rfl
    · exact Or.inl rfl
    · exact Or.inr ⟨Or.inl rfl, by decide, fun e => by omega⟩
    · exact Or.inr ⟨Or.inr rfl, by decide, fun _ => by decide⟩
  rw [cl_nx hc]
  simp [nxC]
theorem holdsNow_eq (hR : MRf d.2.2) (hM : MR r ev A d) {j : Nat} (hj : j < r) (hp : okP p) (hn : nowP p d) : wp (Mod_holdsNow 65 (nI j)) d (fun z d' => z = bI (ev j p) ∧ frc sE d d') := by
  obtain ⟨hr, -, hM⟩ := hM
  obtain ⟨-, t, m, h1, h2, h3, ⟨q, h4, h5⟩, h6⟩ := hM j hj
  have h5' : 5 ≤ q ∧ q ≤ 7 := by simpa using h5
  unfold Mod_holdsNow
  have e60 : (60 : Int32) * nI j = nI (60 * j) := by rw [show (60 : Int32) = nI 60 from rfl, pk_mul]
  have e71 : u2 (u2 (u2 d.1 65 19 0) 65 20 (nI (60 * j))) 65 21 0 71 j = nI m := by
    rw [u2_a _ (by omega), u2_a _ (by omega), u2_a _ (by omega)]; exact h2
  have r71 : d.2.2 65 8 = 71 := hR.2.2.2.2.2.1
  simp only [wp_mb, wp_pZ, wp_pI, wp_gR, wp_aI, wp_vc, zk, zl, true_and, e60, r71, nI_clamp (show j < 2 ^ 31 by omega), e71]
  refine ⟨Or.inl trivial, ib_nI (by omega) (by omega), ?_⟩
  have em : ((u2 (u2 (u2 (u2 d.1 65 19 (0 : Int32)) 65 20 (nI (60 * j))) 65 21 (0 : Int32)) 65 22 (nI m), d.2) : Dm) = atM (txM d (bI false) (60 * j) m) 0 := txM_at d (bI false) (60 * j) m 0
  rw [em]
  have hTX : TX false (60 * j) t m (txM d (bI false) (60 * j) m) := txM_TX hR h1 (by simp; omega) h3
  refine wp_mono (holds_run hTX (fun s hs => (txM_n _ _ _ _ (by omega)).trans (hn s hs)) hp h4 (Or.inl h5')) (fun z d' ⟨k, q', dp, X, Y, Z, g1, g2, g3, g4, g5, g6⟩ => ?_)
  have hkm : k = m := by
    rcases g4 with g4 | ⟨g4, g7⟩
    · exact g4
    · obtain ⟨q2, b1, -⟩ := qs_go h4 g4 g2
      rw [g7, no58 g3] at b1
      cases b1
  subst hkm
  have ez : z = bI (ev j p) := by
    rw [g6, ← h6 p hp]
    unfold rvP
    rw [sq_eq g2]
  rw [wp_mz, ez]
  refine ⟨bI_01' _, rfl, ?_⟩
  rw [g5]
  exact fr_txM d _ _ _ _ _ _ _ _
theorem hi_v {p : Pl} {q c : Nat} (s : VS) (hq : q = 8 ∨ q = 9) (hc : ¬ (c = 43 ∨ c = 45)) : (vst p q c s).2.2.2.2.2.2.2.1 = s.2.2.2.2.2.2.2.1 ∧ (q = 8 → (vst p q c s).2.2.2.2.2.2.2.2 = c - 97) ∧ (q = 9 → (vst p q c s).2.2.2.2.2.2.2.2 = s.2.2.2.2.2.2.2.2 ∧ sT (vst p q c s) = 0 ∧ sM (vst p q c s) = false) := by
  obtain ⟨⟨o, a, n⟩, g, T, U, m, x, R, v, tg⟩ := s
  rcases hq with rfl | rfl <;> simp [vst, hc, sT, sM]
theorem stepNow_eq (hR : MRf d.2.2) (hM : MS ns sv d) {j : Nat} (hj : j < ns) (hp : okP p) (hn : nowP p d) : wp (Mod_stepNow 65 (nI j)) d (fun _ d' => nowP (sv j p) d' ∧ frc sNw d d') := by
  obtain ⟨hr, -, hM⟩ := hM
  obtain ⟨t, m, h1, h2, h3, ⟨qf, h4, h5⟩, h6⟩ := hM j hj
  have h5' : qf = 11 ∨ qf = 12 := by simpa using h5
  have wk : ∀ x i, ¬ sNw x i → ¬ sE x i := fun x i h q => h (Or.inr q)
  unfold Mod_stepNow
  have e60 : (60 : Int32) * nI j = nI (60 * j) := by rw [show (60 : Int32) = nI 60 from rfl, pk_mul]
  have e74 : u2 (u2 (u2 d.1 65 19 1) 65 20 (nI (60 * j))) 65 21 0 74 j = nI m := by
    rw [u2_a _ (by omega), u2_a _ (by omega), u2_a _ (by omega)]; exact h2
  have r74 : d.2.2 65 12 = 74 := hR.2.2.2.2.2.2.2.2.1
  simp only [wp_mb, wp_pZ, wp_pI, wp_gR, wp_aI, wp_vc, zk, zl, true_and, e60, r74, nI_clamp (show j < 2 ^ 31 by omega), e74]
  refine ⟨Or.inr trivial, ib_nI (by omega) (by omega), ?_⟩
  have em : ((u2 (u2 (u2 (u2 d.1 65 19 (1 : Int32)) 65 20 (nI (60 * j))) 65 21 (0 : Int32)) 65 22 (nI m), d.2) : Dm) = atM (txM d (bI true) (60 * j) m) 0 := txM_at d (bI true) (60 * j) m 0
  rw [em]
  have hTX : TX true (60 * j) t m (txM d (bI true) (60 * j) m) := txM_TX hR h1 (by simp; omega) h3
  have hn1 : ∀ s, s < 8 → (txM d (bI true) (60 * j) m).1 75 s = nI (p s) := fun s hs => (txM_n _ _ _ _ (by omega)).trans (hn s hs)
  refine wp_mono (holds_run hTX hn1 hp h4 (Or.inr h5')) (fun z d' ⟨k, q', dp, X, Y, Z, g1, g2, g3, g4, g5, g6⟩ => ?_)
  subst g5
  -- the mark, the letter, the sign
  have hk : k < m ∧ t k = 58 := by
    rcases g4 with g4 | g4
    · rw [g4, h4] at g2
      have : qf = q' := congrArg Prod.fst (Option.some.inj g2)
      omega
    · exact g4
  have hc : clsd q' 58 := by
    have : q' = 7 ∨ q' = 5 ∨ q' = 6 := by omega
    rcases this with rfl | rfl | rfl
    · exact Or.inl rfl
    · exact Or.inr ⟨Or.inl rfl, by decide, fun e => by omega⟩
    · exact Or.inr ⟨Or.inr rfl, by decide, fun _ => by decide⟩
  have b0 : nx true q' 0 (t k) = some 8 := by rw [hk.2, cl_nx hc]; simp [nxC]
  obtain ⟨a1, a2⟩ := qs_step (p := p) g2 b0
  rw [hk.2, nxO_o (by decide) (by decide)] at a1
  rw [hk.2, cl_vst hc] at a2
  have av : (vv true p t (k + 1)).2.2.2.2.2.2.2.1 = rvV q' (vv true p t k) := by
    rw [a2]
    unfold rvV
    generalize clo q' (vv true p t k) = s
    obtain ⟨⟨o, a, n⟩, g, T, U, mm, x, R, v, tg⟩ := s
    simp [vcl]
  have lt1 : k + 1 < m := by
    by_cases hh : k + 1 < m
    · exact hh
    · have : k + 1 = m := by omega
      rw [this, h4] at a1
      have : qf = 8 := congrArg Prod.fst (Option.some.inj a1)
      omega
  obtain ⟨q1, b1, c1⟩ := qs_go h4 lt1 a1
  have hL : isL (t (k + 1)) = true ∧ q1 = 9 := by
    by_cases hL : isL (t (k + 1)) = true
    · simp [nx, hL] at b1; exact ⟨hL, b1.symm⟩
    · simp [nx, hL] at b1
  obtain ⟨hL, e9⟩ := hL
  subst e9
  have hL2 := isL_iff.mp hL
  obtain ⟨-, c2⟩ := qs_step (p := p) a1 b1
  rw [nxO_o (by omega) (by omega)] at c1
  have lt2 : k + 2 < m := by
    by_cases hh : k + 2 < m
    · exact hh
    · have : k + 1 + 1 = m := by omega
      rw [this, h4] at c1
      have : qf = 9 := congrArg Prod.fst (Option.some.inj c1)
      omega
  obtain ⟨q2, b2, c3⟩ := qs_go h4 lt2 c1
  have h61 : t (k + 2) = 61 ∧ q2 = 10 := by
    by_cases hh : t (k + 2) = 61
    · simp [nx, hh] at b2; exact ⟨hh, b2.symm⟩
    · simp [nx, hh] at b2
  obtain ⟨h61, e10⟩ := h61
  subst e10
  obtain ⟨-, c4⟩ := qs_step (p := p) c1 b2
  rw [show k + 1 + 1 = k + 2 from rfl, h61, nxO_o (by decide) (by decide)] at c3
  rw [show k + 1 + 1 = k + 2 from rfl, h61] at c4
  obtain ⟨v1, v2, -⟩ := hi_v (p := p) (vv true p t (k + 1)) (Or.inl rfl) (show ¬ (t (k + 1) = 43 ∨ t (k + 1) = 45) by omega)
  obtain ⟨w1, -, w2⟩ := hi_v (p := p) (vv true p t (k + 2)) (Or.inr rfl) (show ¬ (61 = 43 ∨ 61 = 45) by decide)
  obtain ⟨w3, w4, w5⟩ := w2 rfl
  have lt3 : k + 3 < m := by
    by_cases hh : k + 3 < m
    · exact hh
    · have : k + 2 + 1 = m := by omega
      rw [this, h4] at c3
      have : qf = 10 := congrArg Prod.fst (Option.some.inj c3)
      omega
  obtain ⟨q3, b3, -⟩ := qs_go h4 lt3 c3
  -- what the step comes to
  have hsum := sum_run (sb := true) (B := 60 * j) (d := hB (txM d (bI true) (60 * j) m) dp X Y Z) hTX.hb (fun s hs => (hB_n (by omega)).trans (hn1 s hs)) h4 (Or.inr h5') lt3 c3 (Or.inr (Or.inr (Or.inr rfl))) (isU_LD (by omega) b3) (by unfold uM; rw [if_neg (by decide), c4]; exact w5)
  have hm60 : m ≤ 60 := h1
  have hv : (vv true p t (k + 3)).2.2.2.2.2.2.2.1 = rvV q' (vv true p t k) := by
    rw [show k + 3 = k + 2 + 1 from rfl, c4, w1, show k + 2 = k + 1 + 1 from rfl, c2, v1, av]
  have htg : (vv true p t (k + 3)).2.2.2.2.2.2.2.2 = t (k + 1) - 97 := by
    rw [show k + 3 = k + 2 + 1 from rfl, c4, w3, show k + 2 = k + 1 + 1 from rfl, c2]
    exact v2 rfl
  have hT0 : uT 10 (vv true p t (k + 3)) = 0 := by
    unfold uT
    rw [if_neg (by decide), c4]
    exact w4
  obtain ⟨zz, dz, es, k', q'', f1, f2, f3, f4, f5, f6, f7, f8⟩ := hsum
  have hkm : k' = m := by
    by_cases hh : k' = m
    · exact hh
    · exfalso
      have hk' : k' < m := by omega
      have ek : sgl t m k' = t k' := if_pos hk'
      rw [ek] at f5 f6
      obtain ⟨q4, b4, -⟩ := qs_go h4 hk' f4
      simp only [aq] at f5
      rcases f5 with f5 | ⟨f5, f5'⟩
      · have : q'' = 11 := by simpa using f5
        subst this
        simp [nx, f6] at b4
      · have : q'' = 12 := by simpa using f5
        subst this
        simp [nx, f6, f5'] at b4
  subst hkm
  -- the values of the whole text
  have hsv : sv j p = if rvV q' (vv true p t k) then (if 0 ≤ sT (vv true p t k') ∧ sT (vv true p t k') ≤ 99 then pu p (t (k + 1) - 97) (sT (vv true p t k')).toNat else p) else p := by
    rw [← h6 p hp]
    unfold svP
    have e1 : (vv true p t k').2.2.2.2.2.2.2.1 = rvV q' (vv true p t k) := by
      rw [← hv]
      have := congrArg (fun z : Gr × List Gr × Nat × Bool × Nat => z.2.2.2.1) f7
      exact this
    have e2 : (vv true p t k').2.2.2.2.2.2.2.2 = t (k + 1) - 97 := by
      rw [← htg]
      have := congrArg (fun z : Gr × List Gr × Nat × Bool × Nat => z.2.2.2.2) f7
      exact this
    generalize vv true p t k' = s at e1 e2
    obtain ⟨G, g, T, U, mm, x, R, v, tg⟩ := s
    simp only at e1 e2
    rw [← e1, ← e2]
    rfl
  rw [g6]
  cases hrv : rvV q' (vv true p t k) with
  | false =>
    rw [if_pos (by decide), wp_mp]
    rw [hrv] at hsv
    refine ⟨fun s hs => ?_, frc_w (fr_txM d _ _ _ _ _ _ _ _) wk⟩
    rw [hsv, atM_n _ _ (by omega), hB_n (by omega), txM_n _ _ _ _ (by omega)]
    exact hn s hs
  | true =>
    rw [hrv] at hsv
    rw [if_neg (by decide)]
    have r73 : (atM (hB (txM d (bI true) (60 * j) k') dp X Y Z) k).2.2 65 11 = 73 := hR.2.2.2.2.2.2.2.1
    have r75 : ∀ {dp X Y Z i}, (atM (hB (txM d (bI true) (60 * j) k') dp X Y Z) i).2.2 65 16 = 75 := fun {dp X Y Z i} => hR.2.2.2.2.2.2.2.2.2.1
    have e20 : (atM (hB (txM d (bI true) (60 * j) k') dp X Y Z) k).1 65 20 = nI (60 * j) := by
      rw [atM_n _ _ (by omega), hB_n (by omega)]
      exact hTX.1.2.2.1
    have e73 : (atM (hB (txM d (bI true) (60 * j) k') dp X Y Z) k).1 73 (60 * j + k + 1) = nI (t (k + 1)) := by
      rw [atM_n _ _ (by omega), hB_n (by omega), txM_n _ _ _ _ (by omega)]
      exact (h3 (k + 1) lt1).1
    have e97 : nI (t (k + 1)) - (97 : Int32) = nI (t (k + 1) - 97) := by rw [show (97 : Int32) = nI 97 from rfl, pk_sub (by omega)]
    have e3 : nI k + (3 : Int32) = nI (k + 3) := nI_add k 3
    simp only [wp_mb, wp_gR, wp_gI, wp_aI, wp_pI, wp_ml, wp_vc, zk, zl, true_and, r73, e20, atM_at, nI_add, nI_1, nI_clamp (show 60 * j + k + 1 < 2 ^ 31 by omega), e73, e97, e3, inc_at]
    refine ⟨ib_nI (by omega) (by omega), ?_⟩
    have es' : zz = Int32.ofInt (sT (vv true p t k')) := by
      rw [f8, hT0]
      simp [usd, sgn]
    have es2 : Mod_sumHere 65 (atM (hB (txM d (bI true) (60 * j) k') dp X Y Z) (k + 3)) = some (zz, dz) := es
    rw [wp_eq es2, f3, es']
    have hb6 : -6000 ≤ sT (vv true p t k') ∧ sT (vv true p t k') ≤ 6000 := by
      have := vv_sm hp f4
      generalize vv true p t k' = s at this
      obtain ⟨G, g, T, U, mm, x, R, v, tg⟩ := s
      simp only [vsm] at this
      simp only [sT]
      omega
    simp only [wp_mb, wp_gR, zk, true_and, r75, wp_eq (Mod_isNumber_eq _ _)]
    have hfr := fr_txM d (bI true) (60 * j) k' k' dp X Y Z
    have n75 : ∀ s, s < 8 → (atM (hB (txM d (bI true) (60 * j) k') dp X Y Z) k').1 75 s = nI (p s) := fun s hs => by
      rw [atM_n _ _ (by omega), hB_n (by omega), txM_n _ _ _ _ (by omega)]
      exact hn s hs
    unfold Mod_stepNow_92
    by_cases h99 : 0 ≤ sT (vv true p t k') ∧ sT (vv true p t k') ≤ 99
    · rw [if_pos ((oI_99 (by omega) (by omega)).mpr h99), if_neg (by decide)]
      rw [if_pos rfl, if_pos h99] at hsv
      simp only [wp_mb, wp_sI, wp_mp, zk, zl, true_and, nI_clamp (show t (k + 1) - 97 < 2 ^ 31 by omega)]
      refine ⟨ib_nI (by omega) (by omega), fun s hs => ?_, frc_I (frc_w hfr wk) 75 _ _ (Or.inl rfl)⟩
      show u2 _ 75 (t (k + 1) - 97) _ 75 s = _
      rw [hsv]
      unfold pu
      by_cases hst : s = t (k + 1) - 97
      · rw [if_pos hst, hst, u2_s, nI_oI, Int.toNat_of_nonneg h99.1]
      · rw [if_neg hst, u2_k _ _ _ hst]
        exact n75 s hs
    · rw [if_neg (fun q => h99 ((oI_99 (by omega) (by omega)).mp q)), if_pos rfl]
      rw [if_pos rfl, if_neg h99] at hsv
      have n75' := n75 (t (k + 1) - 97) (by omega)
      simp only [wp_mb, wp_gR, wp_aI, wp_sI, wp_mp, zk, zl, true_and, r75, nI_clamp (show t (k + 1) - 97 < 2 ^ 31 by omega), n75']
      refine ⟨ib_nI (by omega) (by omega), ib_nI (by omega) (by omega), fun s hs => ?_, frc_I (frc_w hfr wk) 75 _ _ (Or.inl rfl)⟩
      show u2 _ 75 (t (k + 1) - 97) _ 75 s = _
      rw [hsv]
      by_cases hst : s = t (k + 1) - 97
      · rw [hst, u2_s]
      · rw [u2_k _ _ _ hst]
        exact n75 s hs
end
