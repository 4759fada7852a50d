/-! ===== pure: bits; the class's program ===== -/
theorem sh1 {i : Nat} (h : i < 31) : (1 : Int32) <<< (nI i &&& 31) = nI (2 ^ i) := by
  have h2 : 2 ^ i < 2 ^ 31 := Nat.pow_lt_pow_right (by omega) h
  rw [show (1 : Int32) = nI 1 from rfl, pk_shlN _ i (s_l i (by omega)) (by omega), Nat.one_mul]
theorem bit_eq {S i : Nat} (hS : S < 2 ^ 31) (hi : i < 31) : (nI S >>> (nI i &&& 31)) &&& (1 : Int32) = nI (if S.testBit i then 1 else 0) := by
  rw [pk_shrN hS _ i (s_l i (by omega)), show (1 : Int32) = nI (2 ^ 1 - 1) from rfl, fa_mask]
  rw [Nat.testBit_eq_decide_div_mod_eq]
  have : S / 2 ^ i % 2 < 2 := Nat.mod_lt _ (by omega)
  by_cases h : S / 2 ^ i % 2 = 1
  · simp [h]
  · have h0 : S / 2 ^ i % 2 = 0 := by omega
    simp [h0]
theorem bit_0 {S i : Nat} (hS : S < 2 ^ 31) (hi : i < 31) : (((nI S >>> (nI i &&& 31)) &&& (1 : Int32)) = 0) ↔ S.testBit i = false := by
  rw [bit_eq hS hi]
  cases S.testBit i <;> simp <;> decide
theorem bit_1 {S i : Nat} (hS : S < 2 ^ 31) (hi : i < 31) : (((nI S >>> (nI i &&& 31)) &&& (1 : Int32)) = 1) ↔ S.testBit i = true := by
  rw [bit_eq hS hi]
  cases S.testBit i <;> simp <;> decide
theorem or_add {x i : Nat} (h : x < 2 ^ i) : nI x ||| nI (2 ^ i) = nI (x + 2 ^ i) := by
  rw [fa_or]
  have h1 := Nat.two_pow_add_eq_or_of_lt h 1
  rw [Nat.mul_one] at h1
  rw [Nat.or_comm, ← h1, Nat.add_comm]
theorem or_0 (x : Int32) : x ||| (0 : Int32) = x := by
  rw [show (0 : Int32) = nI 0 from rfl]
  obtain ⟨n, -, rfl⟩ := wb_of32 x
  rw [fa_or, Nat.or_zero]
def Rf (R : Nat → Nat → Nat) : Prop := (R 1 0 = 2 ∧ R 1 1 = 3 ∧ R 1 2 = 17 ∧ R 1 3 = 32 ∧ R 1 4 = 52 ∧ R 1 5 = 54 ∧ R 1 6 = 58 ∧ R 1 7 = 61 ∧ R 2 0 = 3 ∧ R 2 1 = 17 ∧ R 2 2 = 32 ∧ R 2 3 = 51 ∧ R 3 0 = 4 ∧ R 17 0 = 18 ∧ R 17 3 = 19 ∧ R 32 0 = 33 ∧ R 32 2 = 34 ∧ R 52 0 = 53 ∧ R 54 0 = 55 ∧ R 54 1 = 57 ∧ R 55 0 = 56 ∧ R 58 0 = 59 ∧ R 58 1 = 60 ∧ R 61 0 = 62 ∧ R 61 1 = 63 ∧ R 61 2 = 64) ∧
  (∀ j, j < 6 → R 18 j = 20 + 2 * j ∧ R (20 + 2 * j) 0 = 21 + 2 * j) ∧ (∀ j, j < 8 → R 33 j = 35 + 2 * j ∧ R (35 + 2 * j) 0 = 36 + 2 * j) ∧
  (∀ i, i < 12 → 5 ≤ R 4 i ∧ R 4 i ≤ 16) ∧ ∀ i j, i < 12 → j < 12 → R 4 i = R 4 j → i = j
theorem zact {a : Nat} (h : 5 ≤ a ∧ a ≤ 16) : ZF.2.1 a = 1 := by
  have : a = 5 ∨ a = 6 ∨ a = 7 ∨ a = 8 ∨ a = 9 ∨ a = 10 ∨ a = 11 ∨ a = 12 ∨ a = 13 ∨ a = 14 ∨ a = 15 ∨ a = 16 := by omega
  rcases this with rfl | rfl | rfl | rfl | rfl | rfl | rfl | rfl | rfl | rfl | rfl | rfl <;> rfl
theorem zrule {j : Nat} (h : j < 6) : ZF.2.1 (20 + 2 * j) = 9 ∧ ZF.2.1 (21 + 2 * j) = 23 ∧ ZF.2.2 (21 + 2 * j) = 60 := by
  have : j = 0 ∨ j = 1 ∨ j = 2 ∨ j = 3 ∨ j = 4 ∨ j = 5 := by omega
  rcases this with rfl | rfl | rfl | rfl | rfl | rfl <;> exact ⟨rfl, rfl, rfl⟩
theorem zstep {j : Nat} (h : j < 8) : ZF.2.1 (35 + 2 * j) = 9 ∧ ZF.2.1 (36 + 2 * j) = 23 ∧ ZF.2.2 (36 + 2 * j) = 60 := by
  have : j = 0 ∨ j = 1 ∨ j = 2 ∨ j = 3 ∨ j = 4 ∨ j = 5 ∨ j = 6 ∨ j = 7 := by omega
  rcases this with rfl | rfl | rfl | rfl | rfl | rfl | rfl | rfl <;> exact ⟨rfl, rfl, rfl⟩
/-- the class's program: n acts ac, the plate at first f -/
def CP (r n : Nat) (ac : Nat → Ac) (f : Pl) (d : Dm) : Prop := (n ≤ 12 ∧ okP f ∧ (∀ i, i < n → okA r (ac i))) ∧ d.1 3 1 = nI n ∧ d.2.1 3 2 = lN (pw f) ∧ (∀ i, i < n → ∀ k, k < 5 → d.1 (d.2.2 4 i) k = ac i k) ∧ Rf d.2.2
section
variable {r n : Nat} {ac : Nat → Ac} {f : Pl} {d : Dm}
theorem bI_01 (b : Bool) : (if b then (1 : Int32) else 0) = 0 ∨ (if b then (1 : Int32) else 0) = 1 := by cases b <;> simp
theorem act_writes {a : Nat} (ha : ZF.2.1 a = 1) : Act_writes a d = some (if isw (d.1 a) then 1 else 0, d) := by
  apply wp_get
  unfold Act_writes
  simp only [wp_mb, wp_gI, ha, true_and, wp_ite, wp_mz]
  unfold isw
  by_cases h0 : d.1 a 0 = 0
  · simp [h0]
  · by_cases h1 : d.1 a 0 = 1 <;> simp [h0, h1]
theorem act_ends {a : Nat} (ha : ZF.2.1 a = 1) : Act_endsEpoch a d = some (if ise (d.1 a) then 1 else 0, d) := by
  apply wp_get
  unfold Act_endsEpoch
  simp only [wp_mb, wp_gI, ha, true_and, wp_ite, wp_mz]
  unfold ise
  by_cases h0 : d.1 a 0 = 2
  · simp [h0]
  · by_cases h1 : d.1 a 0 = 3 <;> simp [h0, h1]
theorem CP.at (h : CP r n ac f d) {i : Nat} (hi : i < n) : (5 ≤ d.2.2 4 i ∧ d.2.2 4 i ≤ 16) ∧ ZF.2.1 (d.2.2 4 i) = 1 ∧ isw (d.1 (d.2.2 4 i)) = isw (ac i) ∧ ise (d.1 (d.2.2 4 i)) = ise (ac i) ∧ d.1 (d.2.2 4 i) 0 = ac i 0 := by
  obtain ⟨⟨hn, -, -⟩, -, -, ha, hR⟩ := h
  have hb := hR.2.2.2.1 i (by omega)
  have h0 := ha i hi 0 (by omega)
  exact ⟨hb, zact hb, by unfold isw; rw [h0], by unfold ise; rw [h0], h0⟩
def wr (ac : Nat → Ac) (a : Nat) : Nat → Nat
  | 0 => 0
  | m + 1 => wr ac a m + if isw (ac (a + m)) then 2 ^ (a + m) else 0
theorem wr_wm (ac : Nat → Ac) (a : Nat) : ∀ m, wm ac (a + m) = wm ac a + wr ac a m
  | 0 => rfl
  | m + 1 => by
    rw [← Nat.add_assoc]
    simp only [wm, wr]
    rw [wr_wm ac a m]
    omega
theorem wr_0 (ac : Nat → Ac) (m : Nat) : wr ac 0 m = wm ac m := by
  have := wr_wm ac 0 m
  rw [Nat.zero_add] at this
  rw [this]
  simp [wm]
theorem wr_lt (ac : Nat → Ac) (a m : Nat) : wr ac a m < 2 ^ (a + m) := by
  have h1 := wr_wm ac a m
  have h2 := wm_lt ac (a + m)
  omega
theorem p31 {m : Nat} (h : m ≤ 12) : 2 ^ m ≤ 4096 := Nat.pow_le_pow_right (by omega) (n := 2) h
theorem ww_eq (h : CP r n ac f d) {a b : Nat} (hab : a ≤ b) (hb : b ≤ n) : Prog_writesWithin 3 (nI a) (nI b) d = some (nI (wr ac a (b - a)), d) := by
  have hn := h.1.1
  have hR := h.2.2.2.2
  apply wp_get
  unfold Prog_writesWithin
  simp only [wp_ml]
  unfold Prog_writesWithin_5
  refine wp_up (fun m s dd => s = (nI (wr ac a m), nI (a + m)) ∧ dd = d) (b - a) ?_ (i := 0) (by omega) ⟨rfl, rfl⟩
  intro m s dd hm ⟨e1, e2⟩
  subst e1; subst e2
  unfold Prog_writesWithin_5_b
  dsimp only
  by_cases hx : m = b - a
  · subst hx
    rw [if_pos (show nI b ≤ nI (a + (b - a)) from nI_le (by omega) (by omega))]
    simp [wp_mr, wp_mp]
  · rw [if_neg (nI_ge (by omega) (by omega))]
    obtain ⟨h1, h2, h3, -, -⟩ := h.at (i := a + m) (by omega)
    simp only [wp_mb, wp_gR, wp_aR, wp_vc, zk, hR.1, zl, nI_clamp (show a + m < 2 ^ 31 by omega), true_and, h2, wp_eq (act_writes h2), h3]
    refine ⟨ib_nI (by omega) (by omega), ?_⟩
    unfold Prog_writesWithin_33
    simp only [wp_ml, wp_mp]
    refine ⟨by omega, ?_, trivial⟩
    have hlt := wr_lt ac a m
    rw [nI_1]
    by_cases hw : isw (ac (a + m)) = true
    · simp only [hw, if_true]
      rw [if_neg (by decide), sh1 (by omega), or_add hlt]
      simp [wr, hw, Nat.add_assoc]
    · simp only [hw, Bool.false_eq_true, if_false]
      rw [if_pos trivial, or_0]
      simp [wr, hw, Nat.add_assoc]
theorem writes_eq (h : CP r n ac f d) : Prog_writes 3 d = some (nI (wm ac n), d) := by
  apply wp_get
  unfold Prog_writes
  simp only [wp_mb, wp_gI, wp_vc, zk, true_and, h.2.1]
  rw [show (0 : Int32) = nI 0 from rfl, wp_eq (ww_eq h (Nat.zero_le _) (Nat.le_refl _)), wp_mp, Nat.sub_zero, wr_0]
  exact ⟨rfl, rfl⟩
theorem laidOn_eq {a : Nat} {p : Pl} (ha : ZF.2.1 a = 1) {r : Nat} {b : Ac} (hb : ∀ k, k < 5 → d.1 a k = b k) (hok : okA r b) (hw : isw b = true) (hp : okP p) : Act_laidOn a (lN (pw p)) d = some (lN (pw (lay b p)), d) := by
  obtain ⟨h1, h2, h3⟩ := okA_w hok hw
  apply wp_get
  unfold Act_laidOn
  simp only [wp_mb, wp_gI, ha, true_and]
  rw [hb 1 (by omega), hb 2 (by omega), h1.2, h2.2, wp_eq (with_eq hp h1.1 h2.1), hb 0 (by omega)]
  unfold lay
  by_cases e : b 0 = 1
  · obtain ⟨h4, h5⟩ := h3 e
    simp only [wp_mb, wp_gI, ha, true_and, e, if_true]
    rw [hb 3 (by omega), hb 4 (by omega), h4.2.1, h5.2, wp_eq (with_eq (okP_pu hp h1.1 h2.1) h4.1 h5.1), wp_mp]
    simp only [cl_nI (show cl (b 1) < 2 ^ 31 by omega), cl_nI (show cl (b 2) < 2 ^ 31 by omega), cl_nI (show cl (b 3) < 2 ^ 31 by omega), cl_nI (show cl (b 4) < 2 ^ 31 by omega)]
    exact ⟨trivial, trivial⟩
  · simp only [e, if_false, wp_mp]
    exact ⟨trivial, trivial⟩
theorem plateOf_eq (h : CP r n ac f d) {S : Nat} (hS : sub S (wm ac n)) (hS2 : S < 4096) : Prog_plateOf 3 (nI S) d = some (lN (pw (pS ac f S n)), d) := by
  obtain ⟨⟨hn, hf, hok⟩, e1, e2, hac, hR⟩ := id h
  apply wp_get
  unfold Prog_plateOf
  simp only [wp_mb, wp_ml, wp_gL, zk, true_and, e2]
  unfold Prog_plateOf_8
  refine wp_up (fun m s dd => s = (lN (pw (pS ac f S m)), nI m) ∧ dd = d) n ?_ (i := 0) (by omega) ⟨rfl, rfl⟩
  intro m s dd hm ⟨q1, q2⟩
  subst q1; subst q2
  unfold Prog_plateOf_8_b
  dsimp only
  simp only [wp_mb, wp_gI, zk, true_and, e1]
  by_cases hx : m = n
  · subst hx
    rw [if_pos (nI_le (Nat.le_refl _) (by omega))]
    simp [wp_mr, wp_mp]
  · rw [if_neg (nI_ge (by omega) (by omega))]
    by_cases hb : S.testBit m = true
    · rw [if_neg (by rw [bit_0 (by omega) (by omega)]; simp [hb])]
      obtain ⟨h1, h2, h3, -, -⟩ := h.at (i := m) (by omega)
      have hw : isw (ac m) = true := by
        have := hS m hb
        rw [wm_bit] at this
        simp at this
        exact this.2
      simp only [wp_mb, wp_gR, wp_aR, wp_vc, zk, hR.1, zl, nI_clamp (show m < 2 ^ 31 by omega), true_and, h2, wp_eq (laidOn_eq h2 (hac m (by omega)) (hok m (by omega)) hw (okP_pS hf hok hS m (by omega)))]
      refine ⟨ib_nI (by omega) (by omega), ?_⟩
      unfold Prog_plateOf_38
      simp only [wp_ml, wp_mp]
      refine ⟨by omega, ?_, trivial⟩
      rw [nI_1]
      simp [pS, hb]
    · rw [if_pos ((bit_0 (by omega) (by omega)).mpr (by simpa using hb))]
      unfold Prog_plateOf_38
      simp only [wp_ml, wp_mp]
      refine ⟨by omega, ?_, trivial⟩
      rw [nI_1]
      simp [pS, hb]
end
