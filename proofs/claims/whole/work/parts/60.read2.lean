/-! ===== pure: the reader takes a letter ===== -/
def nq (q : Nat) : Nat := if q = 0 then 0 else if q = 1 ∨ q = 4 ∨ q = 10 then 1 else if q = 3 ∨ q = 6 ∨ q = 12 then 2 else if q = 2 ∨ q = 5 ∨ q = 11 then 3 else if q = 7 then 4 else if q = 8 then 5 else 6
def bI (x : Bool) : Int32 := if x then 1 else 0
def sdI (q : Nat) : Int32 := if q ≤ 3 then 0 else if q ≤ 6 then 1 else 2
def RJd (q : Nat) (p : Pl) (c : Nat → Int32) (sz : Nat) (G : Gr) (g : List Gr) (U : Int) (m : Bool) (x : Nat) : Prop := q = 3 ∨ q = 6 → ∃ z, sz = z + 1 ∧ c z = wrd (if (if q = 6 then !m else m) then 1 else 0) x ∧ tE c p z = (lN (sN (bits (G :: g))), Int32.ofInt U)
def RJs (q : Nat) (p : Pl) (b c : Nat → Int32) (sz : Nat) (T U : Int) (m : Bool) (x : Nat) (v : Bool) : Prop := 8 ≤ q → ∃ rs, rs ≤ sz ∧ b 2 = nI rs ∧ hb (tE c p rs) = v ∧ tS c p rs (sz - rs) = Int32.ofInt T ∧ (q = 12 → ∃ z, sz = z + 1 ∧ rs ≤ z ∧ c z = wrd (if m then 1 else 0) x ∧ tS c p rs (z - rs) = Int32.ofInt U)
/-- the reader's rows behind k letters (but for what may come next) -/
def RJ (sp : Bool) (q o k : Nat) (p : Pl) (a b c e : Nat → Int32) : VS → Prop
  | (G, g, T, U, m, x, Rl, v, tg) => ∃ sz, (b 1 = nI sz ∧ a 2 = nI (wg G ++ wt g).length ∧ WS (wg G ++ wt g) e ∧ a 3 = nI o ∧ g.length = o ∧ a 8 = bI sp) ∧
    sz + (wg G ++ wt g).length + (if 4 ≤ q ∧ q ≤ 6 then 1 else 0) ≤ k ∧
    ((1 ≤ q ∧ q ≤ 6) ∨ 10 ≤ q → a 7 = bI m ∧ a 5 = sdI q) ∧
    (4 ≤ q ∧ q ≤ 6 → a 6 = nI Rl ∧ 60 ≤ Rl ∧ Rl ≤ 62) ∧
    (q = 7 → G.2.2 = 0) ∧ (q = 0 ∨ q = 7 ∨ q = 8 ∨ q = 9 → T = 0) ∧
    (q ≤ 7 → tE c p sz = (lN (sN (if q = 7 then v :: bits (G :: g) else bits (G :: g))), Int32.ofInt T)) ∧
    RJd q p c sz G g U m x ∧ RJs q p b c sz T U m x v ∧
    (9 ≤ q → b 3 = nI tg ∧ tg < 8)
def RdI (sp : Bool) (q o k : Nat) (p : Pl) (a b c e : Nat → Int32) (s : VS) : Prop := a 4 = nI (nq q) ∧ RJ sp q o k p a b c e s
theorem rdig_eq {x : Nat} (hx : x < 128) (d : Dm) : Read_isDigit (nI x) d = some (bI (isD x), d) := by
  apply wp_get
  unfold Read_isDigit isD bI
  simp only [wp_ite, wp_mz]
  by_cases h1 : x < 48
  · rw [if_pos (show nI x < (48 : Int32) from nI_lt (b := 48) h1 (by omega))]
    simp [show ¬ 48 ≤ x by omega]
  · rw [if_neg (show ¬ nI x < (48 : Int32) from nI_nlt (b := 48) (by omega) (by omega))]
    by_cases h2 : 57 < x
    · rw [if_pos (show (57 : Int32) < nI x from nI_lt (a := 57) h2 (by omega))]
      simp [show ¬ x ≤ 57 by omega]
    · rw [if_neg (show ¬ (57 : Int32) < nI x from nI_nlt (a := 57) (by omega) (by omega))]
      simp [show 48 ≤ x by omega, show x ≤ 57 by omega]
theorem rlet_eq {x : Nat} (hx : x < 128) (d : Dm) : Read_isLetter (nI x) d = some (bI (isL x), d) := by
  apply wp_get
  unfold Read_isLetter isL bI
  simp only [wp_ite, wp_mz]
  by_cases h1 : x < 97
  · rw [if_pos (show nI x < (97 : Int32) from nI_lt (b := 97) h1 (by omega))]
    simp [show ¬ 97 ≤ x by omega]
  · rw [if_neg (show ¬ nI x < (97 : Int32) from nI_nlt (b := 97) (by omega) (by omega))]
    by_cases h2 : 104 < x
    · rw [if_pos (show (104 : Int32) < nI x from nI_lt (a := 104) h2 (by omega))]
      simp [show ¬ x ≤ 104 by omega]
    · rw [if_neg (show ¬ (104 : Int32) < nI x from nI_nlt (a := 104) (by omega) (by omega))]
      simp [show 97 ≤ x by omega, show x ≤ 104 by omega]
theorem bI_0 (x : Bool) : bI x = 0 ↔ x = false := by cases x <;> simp [bI]
theorem bI_01' (x : Bool) : bI x = 0 ∨ bI x = 1 := by cases x <;> simp [bI]
section
variable {I : Nat → Nat → Int32} {a b c e : Nat → Int32} {L : Nat → Nat → Int64} {R : Nat → Nat → Nat}
theorem unit_L (hR : Rf R) {sz x : Nat} (h1 : b 1 = nI sz) (hs : sz < 60) (hx : x < 128) {s : Bool} (h7 : (if a 7 = (if a 5 = (1 : Int32) then (1 : Int32) else 0) then (0 : Int32) else 1) = bI s) (hl : isL x = true) : Read_takesUnit 54 (nI x) (u4 I a b c e, L, R) = some (1, (u4 I (setA a 4 3) (setA b 1 (nI (sz + 1))) (setA c sz (wrd (if s then 3 else 2) (x - 97))) e, L, R)) := by
  have hl2 := isL_iff.mp hl
  apply wp_get
  unfold Read_takesUnit
  rw [wp_mb, wp_gI]
  refine ⟨rfl, ?_⟩
  rw [wp_mb, wp_gI]
  refine ⟨rfl, ?_⟩
  change wp (Read_takesUnit_17 54 (nI x) (a 7) (if a 5 = (1 : Int32) then (1 : Int32) else 0)) (u4 I a b c e, L, R) _
  unfold Read_takesUnit_17
  rw [h7]
  unfold Read_takesUnit_25 Read_takesUnit_46
  simp only [wp_mb, wp_gI, wp_gR, zk, true_and, u4_54, wp_eq (rlet_eq hx _), hl]
  rw [if_neg (show ¬ bI true = 0 by decide)]
  have hw : ((if bI s = 0 then (2 : Int32) else 3) <<< ((8 : Int32) &&& 31)) ||| (nI x - (97 : Int32)) = wrd (if s then 3 else 2) (x - 97) := by
    rw [show (97 : Int32) = nI 97 from rfl, pk_sub (by omega)]
    cases s
    · exact emw (kd := 2) (by omega) (by omega)
    · exact emw (kd := 3) (by omega) (by omega)
  simp only [wp_mb, wp_gR, wp_vc, wp_pI, wp_mz, zk, true_and, hR.1, wp_eq (emit_eq hR (I := I) (a := a) (c := c) (e := e) (L := L) h1 hs hw), u2_54]
  exact ⟨Or.inr trivial, trivial⟩
theorem unit_D (hR : Rf R) {sz x : Nat} (h1 : b 1 = nI sz) (hs : sz < 60) (hx : x < 128) {s : Bool} (h7 : (if a 7 = (if a 5 = (1 : Int32) then (1 : Int32) else 0) then (0 : Int32) else 1) = bI s) (hl : isL x = false) (hd : isD x = true) : Read_takesUnit 54 (nI x) (u4 I a b c e, L, R) = some (1, (u4 I (setA a 4 2) (setA b 1 (nI (sz + 1))) (setA c sz (wrd (if s then 1 else 0) (x - 48))) e, L, R)) := by
  have hd2 := isD_iff.mp hd
  apply wp_get
  unfold Read_takesUnit
  rw [wp_mb, wp_gI]
  refine ⟨rfl, ?_⟩
  rw [wp_mb, wp_gI]
  refine ⟨rfl, ?_⟩
  change wp (Read_takesUnit_17 54 (nI x) (a 7) (if a 5 = (1 : Int32) then (1 : Int32) else 0)) (u4 I a b c e, L, R) _
  unfold Read_takesUnit_17
  rw [h7]
  unfold Read_takesUnit_25 Read_takesUnit_80
  simp only [wp_mb, wp_gI, wp_gR, zk, true_and, u4_54, wp_eq (rlet_eq hx _), hl]
  rw [if_pos (show bI false = 0 by decide)]
  simp only [wp_mb, wp_eq (rdig_eq hx _), hd]
  rw [if_neg (show ¬ bI true = 0 by decide)]
  have hw : ((if bI s = 0 then (0 : Int32) else 1) <<< ((8 : Int32) &&& 31)) ||| (nI x - (48 : Int32)) = wrd (if s then 1 else 0) (x - 48) := by
    rw [show (48 : Int32) = nI 48 from rfl, pk_sub (by omega)]
    cases s
    · exact emw (kd := 0) (by omega) (by omega)
    · exact emw (kd := 1) (by omega) (by omega)
  simp only [wp_mb, wp_gR, wp_vc, wp_pI, wp_mz, zk, true_and, hR.1, wp_eq (emit_eq hR (I := I) (a := a) (c := c) (e := e) (L := L) h1 hs hw), u2_54]
  exact ⟨Or.inr trivial, trivial⟩
theorem unit_no {x : Nat} (hR : Rf R) (hx : x < 128) (hl : isL x = false) (hd : isD x = false) : Read_takesUnit 54 (nI x) (u4 I a b c e, L, R) = some (0, (u4 I a b c e, L, R)) := by
  apply wp_get
  unfold Read_takesUnit Read_takesUnit_17 Read_takesUnit_25
  simp only [wp_mb, wp_gI, zk, true_and, u4_54, wp_eq (rlet_eq hx _), hl]
  rw [if_pos (show bI false = 0 by decide)]
  simp only [wp_mb, wp_eq (rdig_eq hx _), hd]
  rw [if_pos (show bI false = 0 by decide), wp_mz]
  exact ⟨Or.inl rfl, rfl, rfl⟩
/-- what the reader comes to by a letter -/
def TQ (I : Nat → Nat → Int32) (L : Nat → Nat → Int64) (R : Nat → Nat → Nat) (sp : Bool) (n : Option Nat) (o k : Nat) (p : Pl) (s : VS) (z : Int32) (d' : Dm) : Prop := ∃ a' b' c' e', d' = (u4 I a' b' c' e', L, R) ∧ match n with
  | none => z = 0
  | some q' => z = 1 ∧ RdI sp q' o k p a' b' c' e' s
theorem takeU (hR : Rf R) {sp : Bool} {q o k x : Nat} {p : Pl} {s : VS} (hq : q = 1 ∨ q = 4 ∨ q = 10) (h : RJ sp q o k p a b c e s) (hk : k < 60) (hx : x < 128) : wp (Read_takesUnit 54 (nI x)) (u4 I a b c e, L, R) (TQ I L R sp (nx sp q o x) o (k + 1) p (vst p q x s)) := by
  obtain ⟨G, g, T, U, m, y, Rl, v, tg⟩ := s
  obtain ⟨sz, ⟨h1, h2, h3, h4, h5, h6⟩, hk2, hm, hr, -, -, hE, -, hS, ht⟩ := h
  obtain ⟨m7, m5⟩ := hm (by omega)
  have hsz : sz < 60 := by omega
  have hsv : ∃ s : Bool, (s = if q = 4 then !m else m) ∧ (if a 7 = (if a 5 = (1 : Int32) then (1 : Int32) else 0) then (0 : Int32) else 1) = bI s := by
    refine ⟨_, rfl, ?_⟩
    rw [m7, m5]
    rcases hq with rfl | rfl | rfl <;> cases m <;> rfl
  obtain ⟨s, es, h7⟩ := hsv
  have hv : vst p q x (G, g, T, U, m, y, Rl, v, tg) = vun p x T s (G, g, T, U, m, y, Rl, v, tg) := by
    obtain ⟨o', a', n'⟩ := G
    rcases hq with rfl | rfl | rfl <;> simp [vst, es]
  rw [hv]
  by_cases hl : isL x = true
  · have hl2 := isL_iff.mp hl
    rw [wp_eq (unit_L hR h1 hsz hx h7 hl)]
    refine ⟨_, _, _, _, rfl, ?_⟩
    have en : nx sp q o x = some (q + 1) := by rcases hq with rfl | rfl | rfl <;> simp [nx, hl]
    rw [en]
    have ev : vun p x T s (G, g, T, U, m, y, Rl, v, tg) = (G, g, T + sgn s (p (x - 97)), T, m, y, Rl, v, tg) := by simp [vun, hl]
    rw [ev]
    refine ⟨rfl, by rcases hq with rfl | rfl | rfl <;> rfl, sz + 1, ⟨setA_s _ _ _, (setA_n _ _ (by omega)).trans h2, h3, (setA_n _ _ (by omega)).trans h4, h5, (setA_n _ _ (by omega)).trans h6⟩, ?_, fun _ => ⟨(setA_n _ _ (by omega)).trans m7, (setA_n _ _ (by omega)).trans (by rw [m5]; rcases hq with rfl | rfl | rfl <;> rfl)⟩, fun hh => ?_, fun hh => by omega, fun hh => by omega, fun hh => ?_, fun hh => by omega, fun hh => ?_, fun hh => ?_⟩
    · revert hk2; split <;> split <;> omega
    · obtain ⟨r1, r2⟩ := hr (by omega)
      exact ⟨(setA_n _ _ (by omega)).trans r1, r2⟩
    · have := hE (by omega)
      rw [if_neg (show ¬ q = 7 by omega)] at this
      rw [if_neg (show ¬ q + 1 = 7 by omega)]
      rw [tE_push, this, ts_uS (by split <;> omega) (by omega), un_sec (by omega), oI_sgn]
    · obtain ⟨rs, r1, r2, r3, r4, -⟩ := hS (by omega)
      refine ⟨rs, by omega, (setA_n _ _ (by omega)).trans r2, by rw [tE_low _ _ _ r1]; exact r3, ?_, fun hq12 => by omega⟩
      rw [tS_push _ _ _ r1, r4, un_sec (by omega), oI_sgn]
    · obtain ⟨t1, t2⟩ := ht (by omega)
      exact ⟨(setA_n _ _ (by omega)).trans t1, t2⟩
  · have hl' : isL x = false := by simpa using hl
    by_cases hd : isD x = true
    · have hd2 := isD_iff.mp hd
      rw [wp_eq (unit_D hR h1 hsz hx h7 hl' hd)]
      refine ⟨_, _, _, _, rfl, ?_⟩
      have en : nx sp q o x = some (q + 2) := by rcases hq with rfl | rfl | rfl <;> simp [nx, hl', hd]
      rw [en]
      have ev : vun p x T s (G, g, T, U, m, y, Rl, v, tg) = (G, g, T + sgn s ((x - 48 : Nat) : Int), T, m, x - 48, Rl, v, tg) := by simp [vun, hl']
      rw [ev]
      refine ⟨rfl, by rcases hq with rfl | rfl | rfl <;> rfl, sz + 1, ⟨setA_s _ _ _, (setA_n _ _ (by omega)).trans h2, h3, (setA_n _ _ (by omega)).trans h4, h5, (setA_n _ _ (by omega)).trans h6⟩, ?_, fun _ => ⟨(setA_n _ _ (by omega)).trans m7, (setA_n _ _ (by omega)).trans (by rw [m5]; rcases hq with rfl | rfl | rfl <;> rfl)⟩, fun hh => ?_, fun hh => by omega, fun hh => by omega, fun hh => ?_, fun hh => ?_, fun hh => ?_, fun hh => ?_⟩
      · revert hk2; split <;> split <;> omega
      · obtain ⟨r1, r2⟩ := hr (by omega)
        exact ⟨(setA_n _ _ (by omega)).trans r1, r2⟩
      · have := hE (by omega)
        rw [if_neg (show ¬ q = 7 by omega)] at this
        rw [if_neg (show ¬ q + 2 = 7 by omega)]
        rw [tE_push, this, ts_uS (by split <;> omega) (by omega), un_num (by omega), oI_sgn]
      · have := hE (by omega)
        rw [if_neg (show ¬ q = 7 by omega)] at this
        refine ⟨sz, rfl, ?_, by rw [tE_low _ _ _ (Nat.le_refl _)]; exact this⟩
        rw [setA_s, es]
        congr 2
        rcases hq with rfl | rfl | rfl <;> simp at hh ⊢
      · obtain ⟨rs, r1, r2, r3, r4, -⟩ := hS (by omega)
        refine ⟨rs, by omega, (setA_n _ _ (by omega)).trans r2, by rw [tE_low _ _ _ r1]; exact r3, ?_, fun hq12 => ⟨sz, rfl, r1, ?_, ?_⟩⟩
        · rw [tS_push _ _ _ r1, r4, un_num (by omega), oI_sgn]
        · rw [setA_s, es, if_neg (show ¬ q = 4 by omega)]
        · rw [tS_cong p rs (c' := c) (fun i hi => setA_n _ _ (by omega))]; exact r4
      · obtain ⟨t1, t2⟩ := ht (by omega)
        exact ⟨(setA_n _ _ (by omega)).trans t1, t2⟩
    · have hd' : isD x = false := by simpa using hd
      rw [wp_eq (unit_no hR hx hl' hd')]
      have en : nx sp q o x = none := by rcases hq with rfl | rfl | rfl <;> simp [nx, hl', hd']
      rw [en]
      exact ⟨_, _, _, _, rfl, rfl⟩
end
