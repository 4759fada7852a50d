/-! ===== pure: a text's code, run; the reader's rows ===== -/
def sN : List Bool → Nat
  | [] => 0
  | b :: l => 2 * sN l + (if b then 1 else 0)
theorem sN_lt : ∀ l, sN l < 2 ^ l.length
  | [] => by simp [sN]
  | b :: l => by
    have := sN_lt l
    simp only [sN, List.length_cons, Nat.pow_succ]
    split <;> omega
theorem lor_bit (a b : Nat) {u v : Nat} (hu : u < 2) (hv : v < 2) : (2 * a + u) ||| (2 * b + v) = 2 * (a ||| b) + (if u = 0 then v else 1) := by
  apply Nat.eq_of_testBit_eq
  intro i
  rw [Nat.testBit_or]
  cases i with
  | zero =>
    rw [Nat.testBit_zero, Nat.testBit_zero, Nat.testBit_zero]
    rcases (show u = 0 ∨ u = 1 by omega) with rfl | rfl <;> rcases (show v = 0 ∨ v = 1 by omega) with rfl | rfl <;> simp <;> omega
  | succ i =>
    have hm : (if u = 0 then v else 1) < 2 := by split <;> omega
    rw [Nat.testBit_succ, Nat.testBit_succ, Nat.testBit_succ, show (2 * a + u) / 2 = a by omega, show (2 * b + v) / 2 = b by omega, show (2 * (a ||| b) + (if u = 0 then v else 1)) / 2 = a ||| b by omega, Nat.testBit_or]
theorem lxor_1 (a : Nat) {u : Nat} (hu : u < 2) : (2 * a + u) ^^^ 1 = 2 * a + (1 - u) := by
  apply Nat.eq_of_testBit_eq
  intro i
  rw [Nat.testBit_xor]
  cases i with
  | zero =>
    rw [Nat.testBit_zero, Nat.testBit_zero, Nat.testBit_zero]
    rcases (show u = 0 ∨ u = 1 by omega) with rfl | rfl <;> simp <;> omega
  | succ i =>
    rw [Nat.testBit_succ, Nat.testBit_succ, Nat.testBit_succ, show (2 * a + u) / 2 = a by omega, show (2 * a + (1 - u)) / 2 = a by omega, show 1 / 2 = 0 by decide, Nat.zero_testBit]
    simp
def wrd (kd op : Nat) : Int32 := nI (kd * 256 + op)
theorem emw {kd op : Nat} (hk : kd < 10) (ho : op < 256) : (nI kd <<< ((8 : Int32) &&& 31)) ||| nI op = wrd kd op := by
  rw [pk_shlN _ 8 rfl (by omega), show kd * 2 ^ 8 = 2 ^ 8 * kd by omega, fa_or_sum _ (by omega)]
  unfold wrd
  congr 1
  omega
theorem tk_7 : wrd 7 0 >>> ((8 : Int32) &&& 31) = 7 := by decide +kernel
theorem tk_8 : wrd 8 0 >>> ((8 : Int32) &&& 31) = 8 := by decide +kernel
theorem tk_9 : wrd 9 0 >>> ((8 : Int32) &&& 31) = 9 := by decide +kernel
theorem tk_4 : wrd 4 0 >>> ((8 : Int32) &&& 31) = 4 := by decide +kernel
theorem tk_5 : wrd 5 0 >>> ((8 : Int32) &&& 31) = 5 := by decide +kernel
theorem tk_6 : wrd 6 0 >>> ((8 : Int32) &&& 31) = 6 := by decide +kernel
theorem bn_lt (b : Bool) : (if b then 1 else 0) < 2 := by cases b <;> decide
theorem ts_not (p : Pl) (b : Bool) (l : List Bool) (T : Int32) : tStep (wrd 7 0) p (lN (sN (b :: l)), T) = (lN (sN ((!b) :: l)), T) := by
  unfold tStep
  dsimp only
  rw [tk_7, if_pos (by decide), if_pos (by decide), if_pos rfl, show (1 : Int64) = lN 1 from rfl, fb_xorL]
  simp only [sN]
  rw [lxor_1 _ (bn_lt b)]
  cases b <;> rfl
theorem ts_both (p : Pl) (a b : Bool) (l : List Bool) (T : Int32) (hl : l.length < 62) : tStep (wrd 8 0) p (lN (sN (b :: a :: l)), T) = (lN (sN ((a && b) :: l)), T) := by
  have h1 := sN_lt l
  have h2 : 2 ^ l.length < 2 ^ 62 := Nat.pow_lt_pow_right (by omega) hl
  have ha := bn_lt a
  have hb := bn_lt b
  unfold tStep
  dsimp only
  rw [tk_8, if_pos (by decide), if_pos (by decide), if_neg (by decide), if_pos rfl, show (1 : Int32) = nI 1 from rfl, show (-2 : Int64) = lN (2 * (2 ^ 63 - 1) + 0) from rfl]
  simp only [sN]
  rw [wb_shr (by omega) (by omega), fb_orL, lor_bit _ _ hb (by omega), fb_andL]
  refine congrArg (fun z => (lN z, T)) ?_
  rw [show (2 * (2 * sN l + if a = true then 1 else 0) + if b = true then 1 else 0) / 2 ^ 1 = 2 * sN l + (if a = true then 1 else 0) by omega, land_bit _ _ ha (show (if (if b = true then 1 else 0) = 0 then 0 else 1) < 2 by cases b <;> decide)]
  have e : sN l &&& ((2 * sN l + if a = true then 1 else 0) ||| (2 ^ 63 - 1)) = sN l := by
    apply Nat.eq_of_testBit_eq
    intro i
    rw [Nat.testBit_and, Nat.testBit_or, Nat.testBit_two_pow_sub_one]
    by_cases hi : i < 63
    · simp [hi]
    · have : (sN l).testBit i = false := Nat.testBit_lt_two_pow (Nat.lt_of_lt_of_le (show sN l < 2 ^ 62 by omega) (Nat.pow_le_pow_right (by omega) (by omega)))
      simp [this]
  rw [e]
  cases a <;> cases b <;> rfl
theorem ts_orr (p : Pl) (a b : Bool) (l : List Bool) (T : Int32) (hl : l.length < 62) : tStep (wrd 9 0) p (lN (sN (b :: a :: l)), T) = (lN (sN ((a || b) :: l)), T) := by
  have h1 := sN_lt l
  have h2 : 2 ^ l.length < 2 ^ 62 := Nat.pow_lt_pow_right (by omega) hl
  have ha := bn_lt a
  have hb := bn_lt b
  unfold tStep
  dsimp only
  rw [tk_9, if_pos (by decide), if_pos (by decide), if_neg (by decide), if_neg (by decide), show (1 : Int32) = nI 1 from rfl]
  simp only [sN]
  rw [wb_shr (by omega) (by omega), wb_a1 (by omega), fb_orL]
  refine congrArg (fun z => (lN z, T)) ?_
  rw [show (2 * (2 * sN l + if a = true then 1 else 0) + if b = true then 1 else 0) / 2 ^ 1 = 2 * sN l + (if a = true then 1 else 0) by omega, show (2 * (2 * sN l + if a = true then 1 else 0) + if b = true then 1 else 0) % 2 = 2 * 0 + (if b = true then 1 else 0) by omega, lor_bit _ _ ha hb, Nat.or_zero]
  cases a <;> cases b <;> rfl
def kdR (R : Nat) : Nat := if R = 60 then 4 else if R = 61 then 5 else 6
theorem oI_le0 {T : Int} (h1 : -2147483648 ≤ T) (h2 : T < 2147483648) : (0 ≤ Int32.ofInt T ↔ 0 ≤ T) ∧ (Int32.ofInt T ≤ 0 ↔ T ≤ 0) ∧ (Int32.ofInt T = 0 ↔ T = 0) := by
  have e := fb_ofI h1 h2
  have z : (0 : Int32).toInt = 0 := rfl
  refine ⟨?_, ?_, ?_⟩
  · rw [fa_le, e, z]
  · rw [fa_le, e, z]
  · rw [fa_eq, e, z]
theorem ts_cmp (p : Pl) (R : Nat) (l : List Bool) {T : Int} (h1 : -2147483648 ≤ T) (h2 : T < 2147483648) (hl : l.length < 62) : tStep (wrd (kdR R) 0) p (lN (sN l), Int32.ofInt T) = (lN (sN (cmpV R T :: l)), 0) := by
  have h3 := sN_lt l
  have h4 : 2 ^ l.length < 2 ^ 62 := Nat.pow_lt_pow_right (by omega) hl
  obtain ⟨c1, c2, c3⟩ := oI_le0 h1 h2
  have push : ∀ b : Bool, (lN (sN l) <<< (((1 : Int32)).toInt64 &&& 63)) ||| (if b then (1 : Int64) else 0) = lN (sN (b :: l)) := by
    intro b
    rw [show (1 : Int32) = nI 1 from rfl, wb_shl _ (by omega), show (if b = true then (1 : Int64) else 0) = lN (2 * 0 + if b = true then 1 else 0) by cases b <;> rfl, fb_orL, show sN l * 2 ^ 1 = 2 * sN l + 0 by omega, lor_bit _ _ (by omega) (bn_lt b), Nat.or_zero]
    rfl
  unfold tStep kdR cmpV
  dsimp only
  by_cases r60 : R = 60
  · rw [if_pos r60, if_pos r60, tk_4, if_pos (by decide), if_neg (by decide), if_pos (show (4 : Int32) = 4 from rfl), ← push]
    by_cases ht : T < 0
    · rw [if_neg (show ¬ 0 ≤ Int32.ofInt T by rw [c1]; omega)]
      simp [ht]
    · rw [if_pos (show 0 ≤ Int32.ofInt T by rw [c1]; omega)]
      simp [ht]
  · rw [if_neg r60, if_neg r60]
    by_cases r61 : R = 61
    · rw [if_pos r61, if_pos r61, tk_5, if_pos (by decide), if_neg (by decide), if_neg (show ¬ (5 : Int32) = 4 by decide), if_pos (show (5 : Int32) = 5 from rfl), ← push]
      by_cases ht : T = 0
      · rw [if_pos (show Int32.ofInt T = 0 by rw [c3]; exact ht)]
        simp [ht]
      · rw [if_neg (show ¬ Int32.ofInt T = 0 by rw [c3]; exact ht)]
        simp [ht]
    · rw [if_neg r61, if_neg r61, tk_6, if_pos (by decide), if_neg (by decide), if_neg (show ¬ (6 : Int32) = 4 by decide), if_neg (show ¬ (6 : Int32) = 5 by decide), ← push]
      by_cases ht : 0 < T
      · rw [if_neg (show ¬ Int32.ofInt T ≤ 0 by rw [c2]; omega)]
        simp [ht]
      · rw [if_pos (show Int32.ofInt T ≤ 0 by rw [c2]; omega)]
        simp [ht]
theorem nI_oI (n : Nat) : nI n = Int32.ofInt (n : Int) := Int32.ofInt_eq_ofNat.symm
theorem oI_sgn (T : Int) (n : Nat) (s : Bool) : Int32.ofInt T + (if s then -nI n else nI n) = Int32.ofInt (T + sgn s n) := by
  unfold sgn
  cases s
  · simp only [Bool.false_eq_true, if_false]
    rw [nI_oI, Int32.ofInt_add]
  · simp only [if_true]
    rw [nI_oI, Int32.ofInt_add, Int32.ofInt_neg]
theorem un_num {s : Bool} {op : Nat} (ho : op < 256) (p : Pl) (t : Int32) : uS (wrd (if s then 1 else 0) op) p t = t + (if s then -nI op else nI op) := by
  unfold uS wrd
  dsimp only
  rw [sh8 (by split <;> omega) ho, an8 ho]
  cases s
  · rfl
  · rfl
theorem un_sec {s : Bool} {op : Nat} (ho : op < 8) (p : Pl) (t : Int32) : uS (wrd (if s then 3 else 2) op) p t = t + (if s then -nI (p op) else nI (p op)) := by
  unfold uS wrd
  dsimp only
  have e7 : ∀ kd, nI (kd * 256 + op) &&& (7 : Int32) = nI op := fun kd => by
    rw [show (7 : Int32) = nI (2 ^ 3 - 1) from rfl, fa_mask]
    congr 1
    omega
  rw [sh8 (by split <;> omega) (by omega), e7, cl_nI (by omega)]
  cases s
  · rfl
  · rfl
theorem ts_uS {kd op : Nat} (hk : kd < 4) (ho : op < 256) (p : Pl) (q : Int64 × Int32) : tStep (wrd kd op) p q = (q.1, uS (wrd kd op) p q.2) := by
  unfold tStep uS wrd
  dsimp only
  rw [sh8 (by omega) ho, if_neg (show ¬ (4 : Int32) ≤ nI kd from nI_ge (b := 4) hk (by omega))]
theorem tE_cong {c c' : Nat → Int32} (p : Pl) : ∀ {m : Nat}, (∀ i, i < m → c i = c' i) → tE c p m = tE c' p m
  | 0, _ => rfl
  | m + 1, h => by
    simp only [tE]
    rw [h m (by omega), tE_cong p (fun i hi => h i (by omega))]
theorem tS_cong {c c' : Nat → Int32} (p : Pl) (a : Nat) : ∀ {m : Nat}, (∀ i, i < a + m → c i = c' i) → tS c p a m = tS c' p a m
  | 0, _ => rfl
  | m + 1, h => by
    simp only [tS]
    rw [h (a + m) (by omega), tS_cong p a (fun i hi => h i (by omega))]
theorem tE_low (c : Nat → Int32) (p : Pl) (w : Int32) {m z : Nat} (h : m ≤ z) : tE (setA c z w) p m = tE c p m := tE_cong p fun i hi => setA_n _ _ (by omega)
theorem tE_push (c : Nat → Int32) (p : Pl) (w : Int32) (m : Nat) : tE (setA c m w) p (m + 1) = tStep w p (tE c p m) := by
  simp only [tE]
  rw [setA_s, tE_low _ _ _ (Nat.le_refl _)]
theorem tS_push (c : Nat → Int32) (p : Pl) (w : Int32) {a m : Nat} (h : a ≤ m) : tS (setA c m w) p a (m + 1 - a) = uS w p (tS c p a (m - a)) := by
  rw [show m + 1 - a = (m - a) + 1 by omega]
  simp only [tS]
  rw [show a + (m - a) = m by omega, setA_s]
  exact congrArg _ (tS_cong p a fun i hi => setA_n _ _ (by omega))
/-! the reader's four rows -/
def u4 (I : Nat → Nat → Int32) (a b c e : Nat → Int32) : Nat → Nat → Int32 := fun i => if i = 54 then a else if i = 55 then b else if i = 56 then c else if i = 57 then e else I i
section
variable {I : Nat → Nat → Int32} {a b c e : Nat → Int32}
theorem u4_54 : u4 I a b c e 54 = a := by unfold u4; rw [if_pos rfl]
theorem u4_55 : u4 I a b c e 55 = b := by unfold u4; rw [if_neg (by decide), if_pos rfl]
theorem u4_56 : u4 I a b c e 56 = c := by unfold u4; rw [if_neg (by decide), if_neg (by decide), if_pos rfl]
theorem u4_57 : u4 I a b c e 57 = e := by unfold u4; rw [if_neg (by decide), if_neg (by decide), if_neg (by decide), if_pos rfl]
theorem u4_n {x : Nat} (h : x < 54 ∨ 57 < x) : u4 I a b c e x = I x := by
  unfold u4
  rw [if_neg (by omega), if_neg (by omega), if_neg (by omega), if_neg (by omega)]
theorem u4_id (I : Nat → Nat → Int32) : u4 I (I 54) (I 55) (I 56) (I 57) = I := by
  funext i
  unfold u4
  split
  · next h => rw [h]
  · split
    · next h => rw [h]
    · split
      · next h => rw [h]
      · split
        · next h => rw [h]
        · rfl
theorem u2_54 (k : Nat) (x : Int32) : u2 (u4 I a b c e) 54 k x = u4 I (setA a k x) b c e := by
  funext i j
  unfold u2 u4 setA
  by_cases h : i = 54
  · subst h
    by_cases h2 : j = k <;> simp [h2]
  · simp [h]
theorem u2_55 (k : Nat) (x : Int32) : u2 (u4 I a b c e) 55 k x = u4 I a (setA b k x) c e := by
  funext i j
  unfold u2 u4 setA
  by_cases h : i = 55
  · subst h
    by_cases h2 : j = k <;> simp [h2]
  · simp [h]
theorem u2_56 (k : Nat) (x : Int32) : u2 (u4 I a b c e) 56 k x = u4 I a b (setA c k x) e := by
  funext i j
  unfold u2 u4 setA
  by_cases h : i = 56
  · subst h
    by_cases h2 : j = k <;> simp [h2]
  · simp [h]
theorem u2_57 (k : Nat) (x : Int32) : u2 (u4 I a b c e) 57 k x = u4 I a b c (setA e k x) := by
  funext i j
  unfold u2 u4 setA
  by_cases h : i = 57
  · subst h
    by_cases h2 : j = k <;> simp [h2]
  · simp [h]
end
