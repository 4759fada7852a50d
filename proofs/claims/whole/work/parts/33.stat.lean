/-! ===== pure: the class's static functions ===== -/
theorem ib_nI {j n : Nat} (h : j < n) (hn : n ≤ 2 ^ 31) : ib (nI j) n := ⟨nI_pos' (by omega), by rw [nI_clamp (by omega)]; exact h⟩
theorem i8 {s : Nat} : (8 : Int32) * nI s = nI (8 * s) := by
  rw [show (8 : Int32) = nI 8 from rfl, pk_mul]
theorem p8 (s : Nat) : 2 ^ (8 * s) = 256 ^ s := by rw [Nat.pow_mul]
theorem lN_i32 {n : Nat} (h : n < 2 ^ 31) : (lN n).toInt32 = nI n := lN_i n
theorem nI_i64 {n : Nat} (h : n < 2 ^ 31) : (nI n).toInt64 = lN n := nI_l h
theorem fig_eq {N s : Nat} (hN : N < 2 ^ 63) (hs : s < 8) : ((((lN N).toUInt64 >>> (((8 : Int32) * nI s).toInt64.toUInt64 &&& Int64.toUInt64 63)).toInt64) &&& (255 : Int64)).toInt32 = nI (dg 256 N s) := by
  rw [i8, wb_shr (by omega) (by omega), show (255 : Int64) = lN (2 ^ 8 - 1) from rfl, wb_mask (Nat.lt_of_le_of_lt (Nat.div_le_self _ _) (by omega)) (by omega), lN_i, p8]
  rfl
theorem figureOf_eq {N s : Nat} {d : Dm} (hN : N < 2 ^ 63) (hs : s < 8) : Main_figureOf (lN N) (nI s) d = some (nI (dg 256 N s), d) := by
  unfold Main_figureOf
  rw [fig_eq hN hs]
  rfl
theorem figP {p : Pl} (hp : okP p) {s : Nat} {d : Dm} (hs : s < 8) : Main_figureOf (lN (pw p)) (nI s) d = some (nI (p s), d) := by
  rw [figureOf_eq (pw_lt hp) hs, dg_pw hp hs]
theorem num_of {p : Pl} {d : Dm} (hp : okP p) : Main_numberOf (lN (pw p)) d = some (lN (num p), d) := by
  apply wp_get
  unfold Main_numberOf
  simp only [wp_ml]
  unfold Main_numberOf_6
  refine wp_up (fun m s dd => s = (lN (hz 100 p m), nI (8 - m) - 1) ∧ dd = d) 8 ?_ (i := 0) (by omega) ⟨rfl, rfl⟩
  intro m s dd hm ⟨e1, e2⟩
  subst e1; subst e2
  unfold Main_numberOf_6_b
  dsimp only
  by_cases h8 : m = 8
  · subst h8
    rw [if_pos (by decide)]
    simp only [wp_mr, wp_mp]
    exact ⟨rfl, trivial⟩
  · have e : nI (8 - m) - 1 = nI (7 - m) := by rw [show 8 - m = (7 - m) + 1 by omega]; exact nI_pred _
    rw [e, if_neg (nI_pos (by omega))]
    simp only [wp_mb, wp_eq (figP hp (show 7 - m < 8 by omega)), wp_ml, wp_mp]
    refine ⟨by omega, ?_, trivial⟩
    rw [show (100 : Int64) = lN 100 from rfl, lN_mul, nI_i64 (by have := hp.1 (7 - m); omega), lN_add, show 8 - (m + 1) = 7 - m by omega, Int32.sub_eq_add_neg]
    rfl
theorem sg_or {p : Pl} (h : ∀ s, p s < 256) {m : Nat} (hm : m < 8) : lN (sg 256 p m) ||| (lN (p m) <<< (((8 : Int32) * nI m).toInt64 &&& 63)) = lN (sg 256 p (m + 1)) := by
  rw [i8, wb_shl _ (by omega), p8]
  have h1 := sg_lt h m
  have h2 := sg_lt h (m + 1)
  rw [← p8] at h1
  have h3 : (256 : Nat) ^ (m + 1) ≤ 256 ^ 8 := Nat.pow_le_pow_right (by omega) (by omega)
  have h4 : (256 : Nat) ^ 8 = 2 ^ 64 := by decide
  simp only [sg] at h2 ⊢
  rw [← p8] at h2 ⊢
  exact g_or' rfl h1 (by omega)
theorem plateOf_num {N : Nat} {d : Dm} (hN : N < 10000000000000000) : Main_plateOfNumber (lN N) d = some (lN (pw (dg 100 N)), d) := by
  apply wp_get
  unfold Main_plateOfNumber
  simp only [wp_ml]
  unfold Main_plateOfNumber_8
  refine wp_up (fun m s dd => s = (lN (N / 100 ^ m), lN (sg 256 (dg 100 N) m), nI m) ∧ dd = d) 8 ?_ (i := 0) (by omega) ⟨by rw [Nat.pow_zero, Nat.div_one]; rfl, rfl⟩
  intro m s dd hm ⟨e1, e2⟩
  subst e1; subst e2
  unfold Main_plateOfNumber_8_b
  dsimp only
  by_cases h8 : m = 8
  · subst h8
    rw [if_pos (by decide)]
    simp only [wp_mr, wp_mp]
    rw [pw_sg]
    exact ⟨rfl, trivial⟩
  · rw [if_neg (show ¬ (8 : Int32) ≤ nI m from nI_ge (b := 8) (by omega) (by omega))]
    simp only [wp_ml, wp_mp]
    have hb : N / 100 ^ m < 2 ^ 63 := Nat.lt_of_le_of_lt (Nat.div_le_self _ _) (by omega)
    refine ⟨by omega, ?_, trivial⟩
    rw [show (100 : Int64) = lN 100 from rfl, pk_lRem hb (by omega) (by omega), pk_lDiv hb (by omega) (by omega)]
    rw [show N / 100 ^ m % 100 = dg 100 N m from rfl, sg_or (p := dg 100 N) (fun s => Nat.lt_trans (Nat.mod_lt _ (by decide)) (by decide)) (by omega), Nat.div_div_eq_div_mul, ← Nat.pow_succ, nI_1]
/-- row a of the ints holds p in its first n places -/
def rw8 (I : Nat → Nat → Int32) (a : Nat) (p : Pl) : Nat → Nat → Int32 := fun i j => if i = a ∧ j < 8 then nI (p j) else I i j
theorem unpack_eq {p : Pl} {d : Dm} {a : Nat} (hp : okP p) (ha : ZF.2.1 a = 23) (hl : ZF.2.2 a = 8) : Main_unpack (lN (pw p)) a d = some ((), (rw8 d.1 a p, d.2)) := by
  apply wp_get
  unfold Main_unpack
  simp only [wp_ml]
  unfold Main_unpack_2
  refine wp_up (fun m s dd => s = nI m ∧ dd = (fun i j => if i = a ∧ j < m then nI (p j) else d.1 i j, d.2)) 8 ?_ (i := 0) (by omega) ⟨rfl, by simp⟩
  intro m s dd hm ⟨e1, e2⟩
  subst e1; subst e2
  unfold Main_unpack_2_b
  simp only [wp_mb, wp_al, hl, ha, true_and]
  by_cases h8 : m = 8
  · subst h8
    rw [if_pos (by decide)]
    simp only [wp_mr, wp_mp, true_and]
    rfl
  · rw [if_neg (show ¬ (Int32.ofNat 8) ≤ nI m from nI_ge (b := 8) (by omega) (by omega))]
    simp only [wp_mb, wp_sI, wp_ml, wp_mp, hl, ha, true_and, nI_clamp (show m < 2 ^ 31 by omega)]
    refine ⟨ib_nI (by omega) (by omega), by omega, nI_1 m, ?_⟩
    rw [fig_eq (pw_lt hp) (by omega), dg_pw hp (by omega)]
    congr 1
    funext i j
    unfold u2
    by_cases h1 : i = a ∧ j = m
    · rw [if_pos h1, if_pos ⟨h1.1, by omega⟩, h1.2]
    · rw [if_neg h1]
      dsimp only
      by_cases h2 : i = a ∧ j < m
      · rw [if_pos h2, if_pos ⟨h2.1, by omega⟩]
      · rw [if_neg h2, if_neg (by omega)]
theorem pack_eq {p : Pl} {d : Dm} {a : Nat} (hp : okP p) (ha : ZF.2.1 a = 23) (hl : ZF.2.2 a = 8) (hd : ∀ s, s < 8 → d.1 a s = nI (p s)) : Main_pack a d = some (lN (pw p), d) := by
  apply wp_get
  unfold Main_pack
  simp only [wp_ml]
  unfold Main_pack_4
  refine wp_up (fun m s dd => s = (lN (sg 256 p m), nI m) ∧ dd = d) 8 ?_ (i := 0) (by omega) ⟨rfl, rfl⟩
  intro m s dd hm ⟨e1, e2⟩
  subst e1; subst e2
  unfold Main_pack_4_b
  dsimp only
  simp only [wp_mb, wp_al, hl, ha, true_and]
  by_cases h8 : m = 8
  · subst h8
    rw [if_pos (by decide)]
    simp only [wp_mr, wp_mp]
    rw [pw_sg]
    exact ⟨rfl, trivial⟩
  · rw [if_neg (show ¬ (Int32.ofNat 8) ≤ nI m from nI_ge (b := 8) (by omega) (by omega))]
    simp only [wp_mb, wp_aI, wp_ml, wp_mp, hl, ha, true_and, nI_clamp (show m < 2 ^ 31 by omega)]
    refine ⟨ib_nI (by omega) (by omega), by omega, ?_, trivial⟩
    rw [hd m (by omega), nI_i64 (by have := hp.1 m; omega), sg_or (fun s => Nat.lt_trans (hp.1 s) (by omega)) (by omega), nI_1]
theorem nat_clr {N k : Nat} (hN : N < 2 ^ 64) (hk : k + 8 ≤ 64) : N &&& ((255 * 2 ^ k) ^^^ (2 ^ 64 - 1)) = 2 ^ (k + 8) * (N / 2 ^ (k + 8)) + N % 2 ^ k := by
  apply Nat.eq_of_testBit_eq
  intro i
  have hm : N % 2 ^ k < 2 ^ (k + 8) := Nat.lt_of_lt_of_le (Nat.mod_lt _ (Nat.two_pow_pos _)) (Nat.pow_le_pow_right (by omega) (by omega))
  rw [Nat.testBit_and, Nat.testBit_xor, Nat.testBit_two_pow_sub_one, Nat.testBit_mul_two_pow, show (255 : Nat) = 2 ^ 8 - 1 from rfl, Nat.testBit_two_pow_sub_one, Nat.testBit_two_pow_mul_add _ hm, Nat.testBit_mod_two_pow, Nat.testBit_div_two_pow]
  by_cases h1 : i < k
  · have e1 : ¬ k ≤ i := by omega
    have e2 : i < 64 := by omega
    have e3 : i < k + 8 := by omega
    simp [h1, e1, e2, e3]
  · by_cases h2 : i < k + 8
    · have e1 : k ≤ i := by omega
      have e2 : i < 64 := by omega
      have e3 : i - k < 8 := by omega
      simp [h1, h2, e1, e2, e3]
    · have e1 : ¬ i - k < 8 := by omega
      by_cases h3 : i < 64
      · have e4 : k + 8 + (i - (k + 8)) = i := by omega
        have e5 : i - (k + 8) + (k + 8) = i := by omega
        simp [h2, e1, h3, e4, e5]
      · have e4 : N.testBit i = false := Nat.testBit_lt_two_pow (Nat.lt_of_lt_of_le hN (Nat.pow_le_pow_right (by omega) (by omega)))
        have e5 : k + 8 + (i - (k + 8)) = i := by omega
        have e6 : i - (k + 8) + (k + 8) = i := by omega
        simp [h2, h3, e4, e5, e6]
theorem with_eq {p : Pl} {s v : Nat} {d : Dm} (hp : okP p) (hs : s < 8) (hv : v < 100) : Main_withFigure (lN (pw p)) (nI s) (nI v) d = some (lN (pw (pu p s v)), d) := by
  unfold Main_withFigure
  have hN : pw p < 2 ^ 64 := Nat.lt_trans (pw_lt hp) (by decide)
  have e : (lN (pw p) &&& (((255 : Int64) <<< (((8 : Int32) * nI s).toInt64 &&& 63)) ^^^ ((-1) : Int64))) ||| ((nI v).toInt64 <<< (((8 : Int32) * nI s).toInt64 &&& 63)) = lN (pw (pu p s v)) := by
    rw [i8, show (255 : Int64) = lN 255 from rfl, wb_shl _ (by omega), show ((-1) : Int64) = lN (2 ^ 64 - 1) from rfl, lN_xor, fb_andL, nat_clr hN (by omega), nI_i64 (by omega), wb_shl _ (by omega)]
    have h1 : pw p % 2 ^ (8 * s) < 2 ^ (8 * s) := Nat.mod_lt _ (Nat.two_pow_pos _)
    have h2 : v * 2 ^ (8 * s) + pw p % 2 ^ (8 * s) < 2 ^ (8 * s + 8) := by
      rw [Nat.pow_add]
      have : (v + 1) * 2 ^ (8 * s) ≤ 2 ^ 8 * 2 ^ (8 * s) := Nat.mul_le_mul_right _ (by omega)
      rw [Nat.add_mul] at this
      rw [Nat.mul_comm (2 ^ (8 * s))]
      omega
    have h3 : (2 ^ (8 * s + 8) * (pw p / 2 ^ (8 * s + 8)) + pw p % 2 ^ (8 * s)) ||| (v * 2 ^ (8 * s)) = 2 ^ (8 * s + 8) * (pw p / 2 ^ (8 * s + 8)) + (v * 2 ^ (8 * s) + pw p % 2 ^ (8 * s)) := by
      have hm : pw p % 2 ^ (8 * s) < 2 ^ (8 * s + 8) := Nat.lt_of_lt_of_le h1 (Nat.pow_le_pow_right (by omega) (by omega))
      rw [Nat.two_pow_add_eq_or_of_lt hm, Nat.two_pow_add_eq_or_of_lt h2, Nat.mul_comm v, Nat.two_pow_add_eq_or_of_lt h1, Nat.or_assoc, Nat.or_comm (pw p % 2 ^ (8 * s))]
    rw [fb_orL, h3]
    refine congrArg lN ?_
    rw [pw_sg, pw_sg]
    have := hp.1 0; have := hp.1 1; have := hp.1 2; have := hp.1 3; have := hp.1 4; have := hp.1 5; have := hp.1 6; have := hp.1 7
    have hc : s = 0 ∨ s = 1 ∨ s = 2 ∨ s = 3 ∨ s = 4 ∨ s = 5 ∨ s = 6 ∨ s = 7 := by omega
    rcases hc with rfl | rfl | rfl | rfl | rfl | rfl | rfl | rfl <;> simp [sg, pu] <;> omega
  rw [e]
  rfl
theorem nx_eq {a b : Nat} {d : Dm} : Main_nextSet (nI a) (nI b) d = some ((nI a - nI b) &&& nI b, d) := rfl
theorem isSector_eq (x : Int32) (d : Dm) : Main_isSector x d = some (if 0 ≤ x ∧ x < 8 then 1 else 0, d) := by
  unfold Main_isSector
  by_cases h1 : x < 0
  · rw [if_pos h1, if_neg (fun q => absurd h1 (Int32.not_lt.mpr q.1))]; rfl
  · rw [if_neg h1]
    by_cases h2 : (8 : Int32) ≤ x
    · rw [if_pos h2, if_neg (fun q => absurd h2 (Int32.not_le.mpr q.2))]; rfl
    · rw [if_neg h2, if_pos ⟨Int32.not_lt.mp h1, Int32.not_le.mp h2⟩]; rfl
theorem isFigure_eq (x : Int32) (d : Dm) : Main_isFigure x d = some (if 0 ≤ x ∧ x ≤ 99 then 1 else 0, d) := by
  unfold Main_isFigure
  by_cases h1 : x < 0
  · rw [if_pos h1, if_neg (fun q => absurd h1 (Int32.not_lt.mpr q.1))]; rfl
  · rw [if_neg h1]
    by_cases h2 : (99 : Int32) < x
    · rw [if_pos h2, if_neg (fun q => absurd h2 (Int32.not_lt.mpr q.2))]; rfl
    · rw [if_neg h2, if_pos ⟨Int32.not_lt.mp h1, Int32.not_lt.mp h2⟩]; rfl
theorem isNumP_eq (x : Int64) (d : Dm) : Main_isNumberOfPlate x d = some (if 0 ≤ x ∧ x ≤ 9999999999999999 then 1 else 0, d) := by
  unfold Main_isNumberOfPlate
  by_cases h1 : x < 0
  · rw [if_pos h1, if_neg (fun q => absurd h1 (Int64.not_lt.mpr q.1))]; rfl
  · rw [if_neg h1]
    by_cases h2 : (9999999999999999 : Int64) < x
    · rw [if_pos h2, if_neg (fun q => absurd h2 (Int64.not_lt.mpr q.2))]; rfl
    · rw [if_neg h2, if_pos ⟨Int64.not_lt.mp h1, Int64.not_lt.mp h2⟩]; rfl
theorem sec_cases (x : Int32) : (¬ (0 ≤ x ∧ x < 8)) ∨ ∃ s, s < 8 ∧ x = nI s := by
  by_cases h : 0 ≤ x ∧ x < 8
  · right
    rcases pk_ix x (n := 8) (by decide) with h1 | h1 | ⟨j, hj, e⟩
    · exact absurd h1 (Int32.not_lt.mpr h.1)
    · exact absurd h.2 (Int32.not_lt.mpr h1)
    · exact ⟨j, hj, e⟩
  · exact Or.inl h
theorem fig_cases (x : Int32) : (¬ (0 ≤ x ∧ x ≤ 99)) ∨ ∃ s, s < 100 ∧ x = nI s := by
  by_cases h : 0 ≤ x ∧ x ≤ 99
  · right
    rcases pk_ix x (n := 100) (by decide) with h1 | h1 | ⟨j, hj, e⟩
    · exact absurd h1 (Int32.not_lt.mpr h.1)
    · exfalso
      have h2 := Int32.le_iff_toInt_le.mp h1
      have h3 := Int32.le_iff_toInt_le.mp h.2
      rw [nI_toInt (by decide)] at h2
      have : (99 : Int32).toInt = 99 := rfl
      omega
    · exact ⟨j, hj, e⟩
  · exact Or.inl h
theorem num_cases (x : Int64) : (¬ (0 ≤ x ∧ x ≤ 9999999999999999)) ∨ ∃ N, N < 10000000000000000 ∧ x = lN N := by
  by_cases h : 0 ≤ x ∧ x ≤ 9999999999999999
  · right
    obtain ⟨k, hk, e⟩ := pk_lOf (Int64.not_lt.mpr h.1)
    refine ⟨k, ?_, e⟩
    have h3 := h.2
    rw [e, show (9999999999999999 : Int64) = lN 9999999999999999 from rfl, pk_lLE hk (by decide)] at h3
    omega
  · exact Or.inl h
theorem nI_sec {s : Nat} (h : s < 8) : (0 : Int32) ≤ nI s ∧ nI s < 8 := ⟨nI_pos' (by omega), nI_lt (b := 8) h (by decide)⟩
theorem nI_fig {s : Nat} (h : s < 100) : (0 : Int32) ≤ nI s ∧ nI s ≤ 99 := ⟨nI_pos' (by omega), nI_le (b := 99) (by omega) (by decide)⟩
theorem lN_pl {N : Nat} (h : N < 10000000000000000) : (0 : Int64) ≤ lN N ∧ lN N ≤ 9999999999999999 := ⟨(pk_lLE (a := 0) (by decide) (by omega)).mpr (Nat.zero_le _), (pk_lLE (b := 9999999999999999) (by omega) (by decide)).mpr (by omega)⟩
