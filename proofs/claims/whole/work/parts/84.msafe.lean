/-! ===== pure: what is due, broken, safe, by the reference ===== -/
def crM (x j : Nat) : Prop := (66 ≤ x ∧ x ≤ 74) ∨ (x = 65 ∧ (j = 1 ∨ j = 4 ∨ j = 6 ∨ j = 10 ∨ (13 ≤ j ∧ j ≤ 15) ∨ j = 43))
def tbM (x j : Nat) : Prop := (79 ≤ x ∧ x ≤ 84) ∨ (x = 65 ∧ (j = 27 ∨ j = 34))
def MCo (r n : Nat) (ac : Nat → Ac) (f : Pl) (ev : Nat → Pl → Bool) (sv : Nat → Pl → Pl) (ns A : Nat) (d : Dm) : Prop := MRf d.2.2 ∧ MP r n ac f d ∧ MR r ev A d ∧ MS ns sv d ∧ A < 2 ^ r
theorem mod_suc (x j : Nat) : x % 2 ^ (j + 1) = x % 2 ^ j + (if x.testBit j then 2 ^ j else 0) := by
  have h1 : x % 2 ^ j < 2 ^ j := Nat.mod_lt _ (Nat.two_pow_pos _)
  apply Nat.eq_of_testBit_eq
  intro i
  rw [Nat.testBit_mod_two_pow]
  cases hb : x.testBit j with
  | true =>
    simp only [if_true]
    rw [Nat.add_comm (x % 2 ^ j)]
    by_cases e : i = j
    · subst e
      rw [Nat.testBit_two_pow_add_eq, Nat.testBit_lt_two_pow h1]
      simp [hb]
    · by_cases hij : i < j
      · rw [Nat.testBit_two_pow_add_gt hij, Nat.testBit_mod_two_pow]
        simp [hij, show i < j + 1 by omega]
      · have h2 : 2 ^ j + x % 2 ^ j < 2 ^ i := Nat.lt_of_lt_of_le (show _ < 2 ^ (j + 1) by rw [Nat.pow_succ]; omega) (Nat.pow_le_pow_right (by omega) (by omega))
        rw [Nat.testBit_lt_two_pow h2]
        simp [show ¬ i < j + 1 by omega]
  | false =>
    simp only [Bool.false_eq_true, if_false, Nat.add_zero]
    rw [Nat.testBit_mod_two_pow]
    by_cases e : i = j
    · subst e
      simp [hb]
    · have : decide (i < j + 1) = decide (i < j) := by rw [decide_eq_decide]; omega
      rw [this]
theorem bit_ne {x D : Nat} : x &&& D ≠ 0 ↔ ∃ i, x.testBit i = true ∧ D.testBit i = true := by
  constructor
  · intro h
    obtain ⟨i, hi⟩ := Nat.exists_testBit_of_ne_zero h
    rw [Nat.testBit_and, Bool.and_eq_true] at hi
    exact ⟨i, hi⟩
  · rintro ⟨i, h1, h2⟩ h
    have : (x &&& D).testBit i = true := by rw [Nat.testBit_and, h1, h2]; rfl
    rw [h] at this
    simp at this
section
variable {r n ns A : Nat} {ac : Nat → Ac} {f : Pl} {ev : Nat → Pl → Bool} {sv : Nat → Pl → Pl} {d : Dm} {p : Pl} {wn : Nat} {wa : Nat → Nat}
theorem MCo.fr {S : Nat → Nat → Prop} {d' : Dm} (h : MCo r n ac f ev sv ns A d) (hf : frc S d d') (hS : ∀ x j, crM x j → ¬ S x j) : MCo r n ac f ev sv ns A d' := by
  have hc : ∀ {x j}, ((66 ≤ x ∧ x ≤ 74) ∨ (x = 65 ∧ (j = 1 ∨ j = 4 ∨ j = 6 ∨ j = 10 ∨ (13 ≤ j ∧ j ≤ 15)))) → ¬ S x j := fun hx => hS _ _ (by unfold crM; omega)
  exact ⟨MRf_fr h.1 hf, h.2.1.fr hf (hc (by omega)) (fun j => hc (by omega)) (fun j => hc (by omega)) (fun j => hc (by omega)), h.2.2.1.fr hf (hc (by omega)) (fun j => hc (by omega)) (fun j => hc (by omega)) (fun j => hc (by omega)), h.2.2.2.1.fr hf (hc (by omega)) (fun j => hc (by omega)) (fun j => hc (by omega)), h.2.2.2.2⟩
theorem LT.fr {S : Nat → Nat → Prop} {d' : Dm} (h : LT r n ac f ev sv ns wa wn d) (hf : frc S d d') (hS : ∀ x j, tbM x j → ¬ S x j) : LT r n ac f ev sv ns wa wn d' := by
  have hc : ∀ {x j}, ((79 ≤ x ∧ x ≤ 84) ∨ (x = 65 ∧ (j = 27 ∨ j = 34))) → ¬ S x j := fun hx => hS _ _ hx
  refine ⟨⟨(hf.i (hc (by omega))).trans h.1.1, fun v hv => (hf.i (hc (by omega))).trans (h.1.2.1 v hv), h.1.2.2⟩, fun c hcc => ?_⟩
  obtain ⟨t1, t2, t3, t4, t5⟩ := h.2 c hcc
  exact ⟨(hf.l (hc (by omega))).trans t1, (hf.l (hc (by omega))).trans t2, (hf.i (hc (by omega))).trans t3, (hf.i (hc (by omega))).trans t4, (hf.i (hc (by omega))).trans t5⟩
theorem tl_lt (hok : ∀ i, i < n → okA r (ac i)) (hr : r ≤ 6) : ∀ k, k ≤ n → tl ac k < 2 ^ r
  | 0, _ => Nat.two_pow_pos _
  | k + 1, hk => by
    have ih := tl_lt hok hr k (by omega)
    simp only [tl]
    split
    · next h4 =>
      rcases okA_t (hok k (by omega)) h4 with hc | hc
      · exact Nat.or_lt_two_pow ih (Nat.pow_lt_pow_right (by omega) hc.1)
      · omega
    · exact ih
theorem dueM (h : MCo r n ac f ev sv ns A d) {k : Nat} (hk : k ≤ n) : Mod_dueAt 65 (nI k) d = some (nI (A ||| tl ac k), d) := by
  obtain ⟨hR, hP, hM, -, hA⟩ := h
  have hn := hP.1.1
  have hr := hM.1
  have r72 : d.2.2 65 9 = 72 := hR.2.2.2.2.2.2.1
  have r67 : d.2.2 65 2 = 67 := hR.2.1
  have r68 : d.2.2 65 3 = 68 := hR.2.2.1
  apply wp_get
  unfold Mod_dueAt
  simp only [wp_ml]
  unfold Mod_dueAt_4
  refine wp_up (fun j s dd => s = (nI (A % 2 ^ j), nI j) ∧ dd = d) r ?_ (i := 0) (by omega) ⟨by rw [Nat.pow_zero, Nat.mod_one]; rfl, rfl⟩
  intro j s dd hj ⟨e1, e2⟩
  subst e1; subst e2
  unfold Mod_dueAt_4_b
  dsimp only
  simp only [wp_mb, wp_gI, zk, true_and, hM.2.1]
  by_cases hx : j = r
  · subst hx
    rw [if_pos (nI_le (Nat.le_refl _) (by omega)), Nat.mod_eq_of_lt hA]
    simp only [wp_mr, wp_ml]
    unfold Mod_dueAt_39
    refine wp_up (fun i s d2 => s = (nI (A ||| tl ac i), nI i) ∧ d2 = dd) k ?_ (i := 0) (by omega) ⟨by simp [tl]; rfl, rfl⟩
    intro i s d2 hi ⟨e1, e2⟩
    subst e1; subst e2
    unfold Mod_dueAt_39_b
    dsimp only
    by_cases hx2 : i = k
    · subst hx2
      rw [if_pos (nI_le (Nat.le_refl _) (by omega))]
      simp only [wp_mr, wp_mp]
      exact ⟨trivial, trivial⟩
    · rw [if_neg (nI_ge (by omega) (by omega))]
      obtain ⟨a0, a1⟩ := hP.2.2.2 i (by omega)
      simp only [wp_mb, wp_gR, wp_aI, zk, zl, true_and, r67, nI_clamp (show i < 2 ^ 31 by omega), a0]
      refine ⟨ib_nI (by omega) (by omega), ?_⟩
      unfold Mod_dueAt_69
      by_cases h4 : ac i 0 = 4
      · rw [if_pos h4]
        have e4 : (4 : Int32) * nI i = nI (4 * i) := by rw [show (4 : Int32) = nI 4 from rfl, pk_mul]
        have a10 : d2.1 68 (4 * i) = ac i 1 := a1 0 (by omega)
        simp only [wp_mb, wp_gR, wp_aI, wp_ml, wp_mp, zk, zl, true_and, r68, e4, nI_clamp (show 4 * i < 2 ^ 31 by omega), a10]
        refine ⟨ib_nI (by omega) (by omega), by omega, ?_, trivial⟩
        rcases okA_t (hP.1.2.2 i (by omega)) h4 with ⟨hc, he⟩ | hc
        · rw [he, sh1 (by omega), fa_or, nI_1]
          simp [tl, h4, Nat.or_assoc]
        · omega
      · rw [if_neg h4]
        simp only [wp_ml, wp_mp]
        refine ⟨by omega, ?_, trivial⟩
        rw [or_0, nI_1]
        simp [tl, h4]
  · rw [if_neg (nI_ge (by omega) (by omega))]
    obtain ⟨b1, -⟩ := hM.2.2 j (by omega)
    simp only [wp_mb, wp_gR, wp_aI, zk, zl, true_and, r72, nI_clamp (show j < 2 ^ 31 by omega), b1]
    refine ⟨ib_nI (by omega) (by omega), ?_⟩
    unfold Mod_dueAt_29
    simp only [wp_ml, wp_mp]
    refine ⟨by omega, ?_, trivial⟩
    have hlt : A % 2 ^ j < 2 ^ j := Nat.mod_lt _ (Nat.two_pow_pos _)
    have hms : A % 2 ^ (j + 1) = A % 2 ^ j + (if A.testBit j then 2 ^ j else 0) := mod_suc A j
    cases hb : A.testBit j with
    | true =>
      rw [if_neg (by decide), sh1 (by omega), or_add hlt, nI_1, hms, hb]
      rfl
    | false =>
      rw [if_pos (by decide), or_0, nI_1, hms, hb]
      rfl
theorem fb_bit' {m j : Nat} : (fb ev p m).testBit j = (decide (j < m) && !ev j p) := by
  by_cases h : j < m
  · rw [fb_bit h]; simp [h]
  · rw [Nat.testBit_lt_two_pow (Nat.lt_of_lt_of_le (fb_lt ev p m) (Nat.pow_le_pow_right (by omega) (by omega)))]; simp [h]
theorem rb_bit : ∀ {m j : Nat}, (rb ev p m).testBit j = (decide (j < m) && ev j p)
  | 0, j => by simp [rb]
  | m + 1, j => by
    simp only [rb]
    have hlt := rb_lt ev p m
    have ih := rb_bit (m := m) (j := j)
    by_cases e : j = m
    · subst e
      cases ev j p with
      | false => simp only [Bool.false_eq_true, if_false, Nat.add_zero]; rw [Nat.testBit_lt_two_pow hlt]; simp
      | true => simp only [if_true]; rw [Nat.add_comm, Nat.testBit_two_pow_add_eq, Nat.testBit_lt_two_pow hlt]; simp
    · have e2 : decide (j < m + 1) = decide (j < m) := by rw [decide_eq_decide]; omega
      rw [e2, ← ih]
      split
      · by_cases hj : j < m
        · rw [Nat.add_comm, Nat.testBit_two_pow_add_gt hj]
        · have h1 : rb ev p m + 2 ^ m < 2 ^ j := Nat.lt_of_lt_of_le (show rb ev p m + 2 ^ m < 2 ^ (m + 1) by rw [Nat.pow_succ]; omega) (Nat.pow_le_pow_right (by omega) (by omega))
          rw [Nat.testBit_lt_two_pow h1, Nat.testBit_lt_two_pow (show rb ev p m < 2 ^ j by omega)]
      · rfl
theorem vP_lt (hr : r ≤ 6) : vP ev r sv ns p < 128 := by
  have h := fb_lt ev (hl sv 0 ns p) r
  have h2 : 2 ^ r ≤ 2 ^ 6 := Nat.pow_le_pow_right (by omega) hr
  unfold vP
  split <;> omega
theorem brk_iff (hr : r ≤ 6) {D : Nat} (hD : D < 2 ^ r) : (¬ (rb ev (hl sv 0 ns p) r &&& D = D) ∨ sd sv ns p = false) ↔ vP ev r sv ns p &&& (D ||| 64) ≠ 0 := by
  have h26 : 2 ^ r ≤ 2 ^ 6 := Nat.pow_le_pow_right (by omega) hr
  have hfl := fb_lt ev (hl sv 0 ns p) r
  have hvb : ∀ i, (vP ev r sv ns p).testBit i = if i = 6 then !sd sv ns p else (decide (i < r) && !ev i (hl sv 0 ns p)) := by
    intro i
    unfold vP
    cases sd sv ns p with
    | true =>
      simp only [if_true, Nat.add_zero]
      rw [fb_bit']
      by_cases e : i = 6
      · subst e; simp; omega
      · rw [if_neg e]
    | false =>
      simp only [Bool.false_eq_true, if_false]
      by_cases e : i = 6
      · subst e
        rw [if_pos rfl, Nat.add_comm, show 64 = 2 ^ 6 from rfl, Nat.testBit_two_pow_add_eq, Nat.testBit_lt_two_pow (by omega)]
      · rw [if_neg e]
        by_cases e2 : i < 6
        · rw [Nat.add_comm, show 64 = 2 ^ 6 from rfl, Nat.testBit_two_pow_add_gt e2, fb_bit']
        · have : fb ev (hl sv 0 ns p) r + 64 < 2 ^ i := Nat.lt_of_lt_of_le (show _ < 2 ^ 7 by omega) (Nat.pow_le_pow_right (by omega) (by omega))
          rw [Nat.testBit_lt_two_pow this]
          have : ¬ i < r := by omega
          simp [this]
  have hDb : ∀ i, D.testBit i = true → i < r := fun i hi => by
    by_cases h : i < r
    · exact h
    · rw [Nat.testBit_lt_two_pow (Nat.lt_of_lt_of_le hD (Nat.pow_le_pow_right (by omega) (by omega)))] at hi; cases hi
  rw [bit_ne]
  constructor
  · rintro (h | h)
    · have : ∃ i, D.testBit i = true ∧ (rb ev (hl sv 0 ns p) r).testBit i = false := by
        refine Classical.byContradiction fun hno => h (bits_eq fun i => ?_)
        rw [Nat.testBit_and, Bool.and_eq_true]
        refine ⟨fun q => q.2, fun q => ⟨?_, q⟩⟩
        cases hb : (rb ev (hl sv 0 ns p) r).testBit i with
        | true => rfl
        | false => exact absurd ⟨i, q, hb⟩ hno
      obtain ⟨i, i1, i2⟩ := this
      have hir := hDb i i1
      rw [rb_bit] at i2
      simp [hir] at i2
      refine ⟨i, ?_, by rw [Nat.testBit_or, i1]; rfl⟩
      rw [hvb, if_neg (by omega)]
      simp [hir, i2]
    · refine ⟨6, ?_, by rw [Nat.testBit_or, show Nat.testBit 64 6 = true by decide, Bool.or_true]⟩
      rw [hvb, if_pos rfl, h]; rfl
  · rintro ⟨i, i1, i2⟩
    rw [hvb] at i1
    rw [Nat.testBit_or, Bool.or_eq_true] at i2
    by_cases e : i = 6
    · rw [if_pos e] at i1
      right
      simpa using i1
    · rw [if_neg e] at i1
      left
      have i3 : D.testBit i = true := by
        rcases i2 with i2 | i2
        · exact i2
        · rw [show (64 : Nat) = 2 ^ 6 from rfl, Nat.testBit_two_pow, decide_eq_true_eq] at i2
          omega
      intro h
      have : (rb ev (hl sv 0 ns p) r &&& D).testBit i = true := by rw [h]; exact i3
      rw [Nat.testBit_and, rb_bit] at this
      simp at this i1
      rw [i1.2] at this
      exact absurd this.1.2 (by decide)
theorem isBrk_eq (h : MCo r n ac f ev sv ns A d) {S c D : Nat} (hc : c < 4096) (hT : LTc r n ac f ev sv ns S c d) (hD : D < 2 ^ r) : Mod_isBroken 65 (nI c) (nI D) d = some (bI (decide (vP ev r sv ns (pS ac f S n) &&& (D ||| 64) ≠ 0)), d) := by
  obtain ⟨hR, hP, hM, -, hA⟩ := h
  have hr := hM.1
  have h26 : 2 ^ r ≤ 2 ^ 6 := Nat.pow_le_pow_right (by omega) hr
  obtain ⟨-, -, -, t4, t5⟩ := hT
  have r82 : d.2.2 65 31 = 82 := hR.2.2.2.2.2.2.2.2.2.2.2.2.2.2.2.2.1
  have r83 : d.2.2 65 32 = 83 := hR.2.2.2.2.2.2.2.2.2.2.2.2.2.2.2.2.2.1
  have hb := brk_iff (ev := ev) (sv := sv) (ns := ns) (p := pS ac f S n) hr hD
  have hrl := rb_lt ev (hl sv 0 ns (pS ac f S n)) r
  apply wp_get
  unfold Mod_isBroken
  simp only [wp_mb, wp_gR, wp_aI, zk, zl, true_and, r82, nI_clamp (show c < 2 ^ 31 by omega), t4]
  refine ⟨ib_nI (by omega) (by omega), ?_⟩
  rw [fa_and]
  have hle : rb ev (hl sv 0 ns (pS ac f S n)) r &&& D ≤ D := Nat.and_le_right
  by_cases h1 : rb ev (hl sv 0 ns (pS ac f S n)) r &&& D = D
  · rw [if_pos (by rw [h1])]
    simp only [wp_mb, wp_gR, wp_aI, zk, zl, true_and, r83, nI_clamp (show c < 2 ^ 31 by omega), t5]
    refine ⟨ib_nI (by omega) (by omega), ?_⟩
    cases hs : sd sv ns (pS ac f S n) with
    | true =>
      rw [if_neg (by decide), wp_mz]
      refine ⟨Or.inl rfl, ?_, rfl⟩
      have : ¬ vP ev r sv ns (pS ac f S n) &&& (D ||| 64) ≠ 0 := fun q => by
        rcases hb.mpr q with q | q
        · exact q h1
        · rw [hs] at q; cases q
      simp [this, bI]
    | false =>
      rw [if_pos (by decide), wp_mz]
      refine ⟨Or.inr rfl, ?_, rfl⟩
      have := hb.mp (Or.inr hs)
      simp [this, bI]
  · rw [if_neg (fun q => h1 ((nI_eq (by omega) (by omega)).mp q)), wp_mz]
    refine ⟨Or.inr rfl, ?_, rfl⟩
    have := hb.mp (Or.inl h1)
    simp [this, bI]
end
