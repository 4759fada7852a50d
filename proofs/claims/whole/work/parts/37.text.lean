/-! ===== pure: texts as they are run, rules, healing ===== -/
def tStep (w : Int32) (p : Pl) (q : Int64 × Int32) : Int64 × Int32 :=
  let k := w >>> ((8 : Int32) &&& 31)
  if (4 : Int32) ≤ k then
    if (6 : Int32) < k then
      if k = 7 then (q.1 ^^^ 1, q.2)
      else if k = 8 then ((((q.1).toUInt64 >>> (((1 : Int32)).toInt64.toUInt64 &&& Int64.toUInt64 63)).toInt64) &&& (q.1 ||| ((-2) : Int64)), q.2)
      else ((((q.1).toUInt64 >>> (((1 : Int32)).toInt64.toUInt64 &&& Int64.toUInt64 63)).toInt64) ||| (q.1 &&& (1 : Int64)), q.2)
    else ((q.1 <<< (((1 : Int32)).toInt64 &&& 63)) ||| (if (if k = 4 then (if 0 ≤ q.2 then (0 : Int32) else 1) else if k = 5 then (if q.2 = 0 then (1 : Int32) else 0) else (if q.2 ≤ 0 then (0 : Int32) else 1)) = 0 then (0 : Int64) else 1), 0)
  else
    let u := if (2 : Int32) ≤ k then nI (p (cl (w &&& (7 : Int32)))) else w &&& (255 : Int32)
    (q.1, q.2 + (if (k &&& (1 : Int32)) = 0 then u else -u))
def tE (c : Nat → Int32) (p : Pl) : Nat → Int64 × Int32
  | 0 => (0, 0)
  | m + 1 => tStep (c m) p (tE c p m)
def hb (q : Int64 × Int32) : Bool := !decide (q.1 &&& (1 : Int64) = 0)
theorem and7 (w : Int32) : ∃ j, j < 8 ∧ w &&& (7 : Int32) = nI j := pk_andE w 3 rfl
theorem isTrue_eq {x a c R : Nat} {p : Pl} {d : Dm} (hx : ZF.2.1 x = 9) (ha : ZF.2.1 a = 23 ∧ ZF.2.2 a = 8) (hc : d.2.2 x 0 = c) (hck : ZF.2.1 c = 23 ∧ ZF.2.2 c = 60) (hR : d.1 x 2 = nI R) (hR2 : R ≤ 60) (hp : ∀ s, s < 8 → d.1 a s = nI (p s)) : Text_isTrue x a d = some (if hb (tE (d.1 c) p R) then 1 else 0, d) := by
  apply wp_get
  unfold Text_isTrue
  simp only [wp_ml]
  unfold Text_isTrue_8
  refine wp_up (fun m s dd => s = ((tE (d.1 c) p m).1, (tE (d.1 c) p m).2, nI m) ∧ dd = d) R ?_ (i := 0) (by omega) ⟨rfl, rfl⟩
  intro m s dd hm ⟨e1, e2⟩
  subst e1; subst e2
  unfold Text_isTrue_8_b
  dsimp only
  simp only [wp_mb, wp_gI, hx, true_and, hR]
  by_cases hmx : m = R
  · subst hmx
    rw [if_pos (nI_le (Nat.le_refl _) (by omega))]
    simp only [wp_mr, wp_ite, wp_mz]
    unfold hb
    by_cases hq : (tE (dd.1 c) p m).1 &&& (1 : Int64) = 0 <;> simp [hq]
  · rw [if_neg (nI_ge (by omega) (by omega))]
    simp only [wp_mb, wp_gR, wp_aI, hx, hc, hck.1, hck.2, true_and, nI_clamp (show m < 2 ^ 31 by omega), wp_ml]
    refine ⟨ib_nI (by omega) (by omega), ?_⟩
    have fin : ∀ (v2 : Int64) (v4 : Int32), (v2, v4) = tE (dd.1 c) p (m + 1) → wp (Text_isTrue_212 x a v2 v4 (nI m)) dd (fun q d' => match q with
        | .inl a' => m < R ∧ a' = ((tE (dd.1 c) p (m + 1)).1, (tE (dd.1 c) p (m + 1)).2, nI (m + 1)) ∧ d' = dd
        | .inr q => q = (if hb (tE (dd.1 c) p R) = true then 1 else 0) ∧ d' = dd) := by
      intro v2 v4 he
      unfold Text_isTrue_212
      simp only [wp_ml, wp_mp, nI_1]
      rw [← he]
      exact ⟨by omega, rfl, trivial⟩
    have cast : ∀ {g : MM ((Int64 × Int32 × Int32) ⊕ Int32)} {Q1 Q2 : (Int64 × Int32 × Int32) ⊕ Int32 → Dm → Prop}, wp g dd Q1 → (∀ q d', Q1 q d' → Q2 q d') → wp g dd Q2 := fun h1 h2 => wp_mono h1 h2
    have ts : tE (dd.1 c) p (m + 1) = tStep (dd.1 c m) p (tE (dd.1 c) p m) := rfl
    simp only [wp_ite]
    by_cases k4 : (4 : Int32) ≤ dd.1 c m >>> ((8 : Int32) &&& 31)
    · rw [if_pos k4]
      by_cases k6 : (6 : Int32) < dd.1 c m >>> ((8 : Int32) &&& 31)
      · rw [if_pos k6]
        by_cases k7 : dd.1 c m >>> ((8 : Int32) &&& 31) = 7
        · rw [if_pos k7]
          refine cast (fin _ _ ?_) (fun q d' h => by cases q <;> exact h)
          rw [ts]; unfold tStep; simp only [k7, if_true]; rfl
        · rw [if_neg k7]
          by_cases k8 : dd.1 c m >>> ((8 : Int32) &&& 31) = 8
          · rw [if_pos k8]
            refine cast (fin _ _ ?_) (fun q d' h => by cases q <;> exact h)
            rw [ts]; unfold tStep; simp only [k8]; rfl
          · rw [if_neg k8]
            refine cast (fin _ _ ?_) (fun q d' h => by cases q <;> exact h)
            rw [ts]; unfold tStep; simp only [k4, k6, k7, k8, if_true, if_false]
      · rw [if_neg k6]
        have cmp : ∀ t0 : Int32, t0 = (if dd.1 c m >>> ((8 : Int32) &&& 31) = 4 then (if 0 ≤ (tE (dd.1 c) p m).2 then (0 : Int32) else 1) else if dd.1 c m >>> ((8 : Int32) &&& 31) = 5 then (if (tE (dd.1 c) p m).2 = 0 then (1 : Int32) else 0) else (if (tE (dd.1 c) p m).2 ≤ 0 then (0 : Int32) else 1)) → wp (Text_isTrue_147 x a (tE (dd.1 c) p m).1 (nI m) t0) dd (fun q d' => match q with
            | .inl a' => m < R ∧ a' = ((tE (dd.1 c) p (m + 1)).1, (tE (dd.1 c) p (m + 1)).2, nI (m + 1)) ∧ d' = dd
            | .inr q => q = (if hb (tE (dd.1 c) p R) = true then 1 else 0) ∧ d' = dd) := by
          intro t0 ht
          unfold Text_isTrue_147 Text_isTrue_162
          simp only [wp_ml]
          refine fin _ _ ?_
          rw [ts, ht]; unfold tStep; simp only [k4, k6, if_true, if_false]
        by_cases k5 : dd.1 c m >>> ((8 : Int32) &&& 31) = 4
        · rw [if_pos k5]
          exact cast (cmp _ (by simp only [k5, if_true])) (fun q d' h => by cases q <;> exact h)
        · rw [if_neg k5]
          by_cases k5' : dd.1 c m >>> ((8 : Int32) &&& 31) = 5
          · rw [if_pos k5']
            exact cast (cmp _ (by simp only [k5']; rfl)) (fun q d' h => by cases q <;> exact h)
          · rw [if_neg k5']
            exact cast (cmp _ (by simp only [k5, k5', if_false])) (fun q d' h => by cases q <;> exact h)
    · rw [if_neg k4]
      have uni : ∀ u : Int32, u = (if (2 : Int32) ≤ dd.1 c m >>> ((8 : Int32) &&& 31) then nI (p (cl (dd.1 c m &&& (7 : Int32)))) else dd.1 c m &&& (255 : Int32)) → wp (Text_isTrue_67 x a (tE (dd.1 c) p m).1 (tE (dd.1 c) p m).2 (nI m) (dd.1 c m >>> ((8 : Int32) &&& 31)) u) dd (fun q d' => match q with
          | .inl a' => m < R ∧ a' = ((tE (dd.1 c) p (m + 1)).1, (tE (dd.1 c) p (m + 1)).2, nI (m + 1)) ∧ d' = dd
          | .inr q => q = (if hb (tE (dd.1 c) p R) = true then 1 else 0) ∧ d' = dd) := by
        intro u hu
        unfold Text_isTrue_67 Text_isTrue_86
        simp only [wp_ml]
        refine fin _ _ ?_
        rw [ts, hu]; unfold tStep; simp only [k4, if_false]
      by_cases k2 : (2 : Int32) ≤ dd.1 c m >>> ((8 : Int32) &&& 31)
      · rw [if_pos k2]
        obtain ⟨j, hj, ej⟩ := and7 (dd.1 c m)
        simp only [wp_mb, wp_gR, wp_aI, hx, hc, hck.1, hck.2, ha.1, ha.2, true_and, nI_clamp (show m < 2 ^ 31 by omega), ej, nI_clamp (show j < 2 ^ 31 by omega)]
        refine ⟨ib_nI (by omega) (by omega), ib_nI (by omega) (by omega), ?_⟩
        rw [hp j hj]
        exact cast (uni _ (by simp only [k2, if_true, ej, cl_nI (show j < 2 ^ 31 by omega)])) (fun q d' h => by cases q <;> exact h)
      · rw [if_neg k2]
        simp only [wp_mb, wp_gR, wp_aI, hx, hc, hck.1, hck.2, true_and, nI_clamp (show m < 2 ^ 31 by omega)]
        refine ⟨ib_nI (by omega) (by omega), ?_⟩
        exact cast (uni _ (by simp only [k2, if_false])) (fun q d' h => by cases q <;> exact h)
def uS (w : Int32) (p : Pl) (t : Int32) : Int32 :=
  let k := w >>> ((8 : Int32) &&& 31)
  let u := if (2 : Int32) ≤ k then nI (p (cl (w &&& (7 : Int32)))) else w &&& (255 : Int32)
  t + (if (k &&& (1 : Int32)) = 0 then u else -u)
def tS (c : Nat → Int32) (p : Pl) (a : Nat) : Nat → Int32
  | 0 => 0
  | m + 1 => uS (c (a + m)) p (tS c p a m)
theorem sum_eq {x a c R Sz : Nat} {p : Pl} {d : Dm} (hx : ZF.2.1 x = 9) (ha : ZF.2.1 a = 23 ∧ ZF.2.2 a = 8) (hc : d.2.2 x 0 = c) (hck : ZF.2.1 c = 23 ∧ ZF.2.2 c = 60) (hR : d.1 x 2 = nI R) (hS : d.1 x 1 = nI Sz) (hRS : R ≤ Sz) (hS2 : Sz ≤ 60) (hp : ∀ s, s < 8 → d.1 a s = nI (p s)) : Text_sum x a d = some (tS (d.1 c) p R (Sz - R), d) := by
  apply wp_get
  unfold Text_sum
  simp only [wp_ml, wp_mb, wp_gI, hx, true_and, hR]
  unfold Text_sum_7
  refine wp_up (fun m s dd => s = (tS (d.1 c) p R m, nI (R + m)) ∧ dd = d) (Sz - R) ?_ (i := 0) (by omega) ⟨rfl, rfl⟩
  intro m s dd hm ⟨e1, e2⟩
  subst e1; subst e2
  unfold Text_sum_7_b
  dsimp only
  simp only [wp_mb, wp_gI, hx, true_and, hS]
  by_cases hmx : m = Sz - R
  · subst hmx
    rw [if_pos (nI_le (by omega) (by omega))]
    simp [wp_mr, wp_mp]
  · rw [if_neg (nI_ge (by omega) (by omega))]
    simp only [wp_mb, wp_gR, wp_aI, hx, hc, hck.1, hck.2, true_and, nI_clamp (show R + m < 2 ^ 31 by omega), wp_ml]
    refine ⟨ib_nI (by omega) (by omega), ?_⟩
    simp only [wp_ite]
    by_cases k2 : (2 : Int32) ≤ dd.1 c (R + m) >>> ((8 : Int32) &&& 31)
    · rw [if_pos k2]
      obtain ⟨j, hj, ej⟩ := and7 (dd.1 c (R + m))
      simp only [wp_mb, wp_gR, wp_aI, hx, hc, hck.1, hck.2, ha.1, ha.2, true_and, nI_clamp (show R + m < 2 ^ 31 by omega), ej, nI_clamp (show j < 2 ^ 31 by omega)]
      refine ⟨ib_nI (by omega) (by omega), ib_nI (by omega) (by omega), ?_⟩
      unfold Text_sum_56 Text_sum_74
      simp only [wp_ml, wp_mp, nI_1]
      refine ⟨by omega, ?_, trivial⟩
      rw [hp j hj, Nat.add_assoc]
      simp only [tS, uS, k2, if_true, ej, cl_nI (show j < 2 ^ 31 by omega)]
    · rw [if_neg k2]
      simp only [wp_mb, wp_gR, wp_aI, hx, hc, hck.1, hck.2, true_and, nI_clamp (show R + m < 2 ^ 31 by omega)]
      refine ⟨ib_nI (by omega) (by omega), ?_⟩
      unfold Text_sum_56 Text_sum_74
      simp only [wp_ml, wp_mp, nI_1]
      refine ⟨by omega, ?_, trivial⟩
      rw [Nat.add_assoc]
      simp only [tS, uS, k2, if_false]
/-- the class's rules: nr of them, ev j tells whether rule j holds -/
def CR (nr : Nat) (ev : Nat → Pl → Bool) (d : Dm) : Prop := nr ≤ 6 ∧ d.1 17 1 = nI nr ∧ ∀ j, j < nr → ∃ R, R ≤ 60 ∧ d.1 (20 + 2 * j) 2 = nI R ∧ ∀ p, okP p → hb (tE (d.1 (21 + 2 * j)) p R) = ev j p
def fb (ev : Nat → Pl → Bool) (p : Pl) : Nat → Nat
  | 0 => 0
  | j + 1 => fb ev p j + if ev j p then 0 else 2 ^ j
theorem fb_lt (ev : Nat → Pl → Bool) (p : Pl) : ∀ j, fb ev p j < 2 ^ j
  | 0 => by simp [fb]
  | j + 1 => by
    have := fb_lt ev p j
    simp only [fb, Nat.pow_succ]
    split <;> omega
theorem rw8_row (I : Nat → Nat → Int32) (a : Nat) (p : Pl) {s : Nat} (h : s < 8) : rw8 I a p a s = nI (p s) := if_pos ⟨rfl, h⟩
theorem rw8_ne (I : Nat → Nat → Int32) {a b : Nat} (p : Pl) (h : b ≠ a) : rw8 I a p b = I b := funext fun s => if_neg fun q => h q.1
theorem failing_eq {nr : Nat} {ev : Nat → Pl → Bool} {d : Dm} {p : Pl} (h : CR nr ev d) (hR : Rf d.2.2) (hp : okP p) : Rule_failingIn 17 (lN (pw p)) d = some (nI (fb ev p nr), (rw8 d.1 19 p, d.2)) := by
  apply wp_get
  unfold Rule_failingIn
  simp only [wp_ml, wp_mb, wp_gR, zk, true_and, hR.1, wp_eq (unpack_eq hp (show ZF.2.1 19 = 23 from rfl) (show ZF.2.2 19 = 8 from rfl))]
  unfold Rule_failingIn_13
  refine wp_up (fun m s dd => s = (nI (fb ev p m), nI m) ∧ dd = (rw8 d.1 19 p, d.2)) nr ?_ (i := 0) (by omega) ⟨rfl, rfl⟩
  intro m s dd hm ⟨e1, e2⟩
  subst e1; subst e2
  have hn := h.1
  unfold Rule_failingIn_13_b
  dsimp only
  simp only [wp_mb, wp_gI, zk, true_and, rw8_ne d.1 p (show (17 : Nat) ≠ 19 by omega), h.2.1]
  by_cases hx : m = nr
  · subst hx
    rw [if_pos (nI_le (Nat.le_refl _) (by omega))]
    simp [wp_mr, wp_mp]
  · rw [if_neg (nI_ge (by omega) (by omega))]
    obtain ⟨z1, z2, z3⟩ := zrule (j := m) (by omega)
    obtain ⟨r1, r2⟩ := hR.2.1 m (by omega)
    obtain ⟨R, hR60, hRs, hev⟩ := h.2.2 m (by omega)
    have ht : Text_isTrue (20 + 2 * m) 19 (rw8 d.1 19 p, d.2) = some (if ev m p then 1 else 0, (rw8 d.1 19 p, d.2)) := by
      rw [isTrue_eq (d := (rw8 d.1 19 p, d.2)) (a := 19) (c := 21 + 2 * m) (R := R) (p := p) z1 ⟨rfl, rfl⟩ r2 ⟨z2, z3⟩ (by show rw8 d.1 19 p (20 + 2 * m) 2 = _; rw [rw8_ne _ _ (by omega)]; exact hRs) hR60 (fun s hs => rw8_row _ _ _ hs)]
      show some (if hb (tE (rw8 d.1 19 p (21 + 2 * m)) p R) = true then _ else _, _) = _
      rw [rw8_ne _ _ (by omega), hev p hp]
    simp only [wp_mb, wp_gR, wp_aR, wp_vc, zk, zl, true_and, hR.1, nI_clamp (show m < 2 ^ 31 by omega), r1, z1, wp_eq ht]
    refine ⟨ib_nI (by omega) (by omega), ?_⟩
    unfold Rule_failingIn_48
    simp only [wp_ml, wp_mp, nI_1]
    refine ⟨by omega, ?_, trivial⟩
    have hlt := fb_lt ev p m
    cases hv : ev m p with
    | true =>
      simp only [if_true]
      rw [if_neg (by decide), or_0]
      simp [fb, hv]
    | false =>
      simp only [Bool.false_eq_true, if_false, if_true]
      rw [sh1 (by omega), or_add hlt]
      simp [fb, hv]
/-- the class's steps: ns of them, sv j is what step j makes of a plate -/
def sv1 (c : Nat → Int32) (R Sz : Nat) (t : Int32) (p : Pl) : Pl := if hb (tE c p R) then (if 0 ≤ tS c p R (Sz - R) ∧ tS c p R (Sz - R) ≤ 99 then pu p (cl (t &&& 7)) (cl (tS c p R (Sz - R))) else p) else p
def CH (ns : Nat) (sv : Nat → Pl → Pl) (d : Dm) : Prop := ns ≤ 8 ∧ d.1 32 1 = nI ns ∧ ∀ j, j < ns → ∃ R Sz, R ≤ Sz ∧ Sz ≤ 60 ∧ d.1 (35 + 2 * j) 2 = nI R ∧ d.1 (35 + 2 * j) 1 = nI Sz ∧ ∀ p, okP p → sv1 (d.1 (36 + 2 * j)) R Sz (d.1 (35 + 2 * j) 3) p = sv j p
def hl (sv : Nat → Pl → Pl) (a : Nat) : Nat → Pl → Pl
  | 0, p => p
  | m + 1, p => sv (a + m) (hl sv a m p)
theorem okP_sv1 {c : Nat → Int32} {R Sz : Nat} {t : Int32} {p : Pl} (hp : okP p) : okP (sv1 c R Sz t p) := by
  unfold sv1
  split
  · split
    · next h =>
      obtain ⟨j, hj, ej⟩ := and7 t
      rw [ej, cl_nI (by omega)]
      rcases fig_cases (tS c p R (Sz - R)) with h1 | ⟨v, hv, e⟩
      · exact absurd h h1
      · rw [e, cl_nI (by omega)]
        exact okP_pu hp hj hv
    · exact hp
  · exact hp
theorem rw8_rw8 (I : Nat → Nat → Int32) (a : Nat) (p q : Pl) : rw8 (rw8 I a p) a q = rw8 I a q := by
  funext i j
  unfold rw8
  by_cases h : i = a ∧ j < 8 <;> simp [h]
theorem u2_rw8 (I : Nat → Nat → Int32) (a : Nat) (p : Pl) {s v : Nat} (hs : s < 8) : u2 (rw8 I a p) a s (nI v) = rw8 I a (pu p s v) := by
  funext i j
  unfold u2 rw8 pu
  by_cases h1 : i = a
  · by_cases h2 : j = s
    · subst h2; simp [h1, hs]
    · by_cases h3 : j < 8 <;> simp [h1, h2, h3]
  · simp [h1]
theorem okP_hl {ns : Nat} {sv : Nat → Pl → Pl} {d : Dm} (h : CH ns sv d) {a : Nat} {p : Pl} (hp : okP p) : ∀ m, a + m ≤ ns → okP (hl sv a m p)
  | 0, _ => hp
  | m + 1, hm => by
    obtain ⟨R, Sz, -, -, -, -, hs⟩ := h.2.2 (a + m) (by omega)
    have ih := okP_hl h (a := a) hp m (by omega)
    simp only [hl]
    rw [← hs _ ih]
    exact okP_sv1 ih
theorem after_eq {ns : Nat} {sv : Nat → Pl → Pl} {d : Dm} {p : Pl} (h : CH ns sv d) (hR : Rf d.2.2) (hp : okP p) {a b : Nat} (hab : a ≤ b) (hb' : b ≤ ns) : Heal_after 32 (lN (pw p)) (nI a) (nI b) d = some (lN (pw (hl sv a (b - a) p)), (rw8 d.1 34 (hl sv a (b - a) p), d.2)) := by
  have hn := h.1
  apply wp_get
  unfold Heal_after
  simp only [wp_ml, wp_mb, wp_gR, zk, true_and, hR.1, wp_eq (unpack_eq hp (show ZF.2.1 34 = 23 from rfl) (show ZF.2.2 34 = 8 from rfl))]
  unfold Heal_after_11
  refine wp_up (fun m s dd => s = nI (a + m) ∧ dd = (rw8 d.1 34 (hl sv a m p), d.2)) (b - a) ?_ (i := 0) (by omega) ⟨rfl, rfl⟩
  intro m s dd hm ⟨e1, e2⟩
  subst e1; subst e2
  have hq := okP_hl h (a := a) hp m (by omega)
  unfold Heal_after_11_b
  by_cases hx : m = b - a
  · subst hx
    rw [if_pos (nI_le (by omega) (by omega))]
    simp only [wp_mr, wp_mb, wp_gR, zk, true_and, hR.1]
    rw [wp_eq (pack_eq hq (show ZF.2.1 34 = 23 from rfl) (show ZF.2.2 34 = 8 from rfl) (fun s hs => rw8_row _ _ _ hs)), wp_mp]
    exact ⟨rfl, rfl⟩
  · rw [if_neg (nI_ge (by omega) (by omega))]
    obtain ⟨z1, z2, z3⟩ := zstep (j := a + m) (by omega)
    obtain ⟨r1, r2⟩ := hR.2.2.1 (a + m) (by omega)
    obtain ⟨R, Sz, hRS, hSz, hRs, hSs, hev⟩ := h.2.2 (a + m) (by omega)
    have f1 : ∀ x, x ≠ 34 → rw8 d.1 34 (hl sv a m p) x = d.1 x := fun x hx => rw8_ne _ _ hx
    have ht := isTrue_eq (d := (rw8 d.1 34 (hl sv a m p), d.2)) (a := 34) (c := 36 + 2 * (a + m)) (R := R) (p := hl sv a m p) z1 ⟨rfl, rfl⟩ r2 ⟨z2, z3⟩ (by show rw8 _ 34 _ (35 + 2 * (a + m)) 2 = _; rw [f1 _ (by omega)]; exact hRs) (by omega) (fun s hs => rw8_row _ _ _ hs)
    have hsm := sum_eq (d := (rw8 d.1 34 (hl sv a m p), d.2)) (a := 34) (c := 36 + 2 * (a + m)) (R := R) (Sz := Sz) (p := hl sv a m p) z1 ⟨rfl, rfl⟩ r2 ⟨z2, z3⟩ (by show rw8 _ 34 _ (35 + 2 * (a + m)) 2 = _; rw [f1 _ (by omega)]; exact hRs) (by show rw8 _ 34 _ (35 + 2 * (a + m)) 1 = _; rw [f1 _ (by omega)]; exact hSs) hRS hSz (fun s hs => rw8_row _ _ _ hs)
    simp only [f1 (36 + 2 * (a + m)) (by omega)] at ht hsm
    have hstep : hl sv a (m + 1) p = sv1 (d.1 (36 + 2 * (a + m))) R Sz (d.1 (35 + 2 * (a + m)) 3) (hl sv a m p) := (hev _ hq).symm
    simp only [wp_mb, wp_gR, wp_aR, wp_vc, zk, zl, true_and, hR.1, nI_clamp (show a + m < 2 ^ 31 by omega), r1, z1, wp_eq ht]
    refine ⟨ib_nI (by omega) (by omega), ?_⟩
    cases htr : hb (tE (d.1 (36 + 2 * (a + m))) (hl sv a m p) R) with
    | false =>
      simp only [Bool.false_eq_true, if_false, if_true]
      unfold Heal_after_89
      simp only [wp_ml, wp_mp, nI_1]
      refine ⟨by omega, by rw [Nat.add_assoc], ?_⟩
      rw [hstep]
      simp [sv1, htr]
    | true =>
      simp only [if_true]
      rw [if_neg (by decide)]
      simp only [wp_mb, wp_gR, wp_vc, wp_gI, zk, true_and, hR.1, z1, wp_eq hsm, wp_eq (isFigure_eq _ _), f1 (35 + 2 * (a + m)) (by omega)]
      obtain ⟨j, hj, ej⟩ := and7 (d.1 (35 + 2 * (a + m)) 3)
      simp only [ej]
      rcases fig_cases (tS (d.1 (36 + 2 * (a + m))) (hl sv a m p) R (Sz - R)) with h1 | ⟨v, hv, e⟩
      · simp only [h1, if_false, if_true]
        simp only [wp_mb, wp_gR, wp_gI, wp_aI, zk, zl, true_and, hR.1, z1, f1 (35 + 2 * (a + m)) (by omega), ej, nI_clamp (show j < 2 ^ 31 by omega)]
        refine ⟨ib_nI (by omega) (by omega), ?_⟩
        unfold Heal_after_88 Heal_after_89
        simp only [wp_mb, wp_sI, wp_ml, wp_mp, zk, zl, true_and, nI_1, nI_clamp (show j < 2 ^ 31 by omega)]
        refine ⟨ib_nI (by omega) (by omega), by omega, by rw [Nat.add_assoc], ?_⟩
        rw [rw8_row _ _ _ hj, u2_rw8 _ _ _ hj, hstep]
        have : pu (hl sv a m p) j (hl sv a m p j) = hl sv a m p := funext fun q => by by_cases e : q = j <;> simp [pu, e]
        rw [this]
        simp [sv1, htr, h1]
      · rw [e]
        rw [if_pos (nI_fig hv), if_neg (by decide)]
        unfold Heal_after_88 Heal_after_89
        simp only [wp_mb, wp_sI, wp_ml, wp_mp, zk, zl, true_and, nI_1, nI_clamp (show j < 2 ^ 31 by omega)]
        refine ⟨ib_nI (by omega) (by omega), by omega, by rw [Nat.add_assoc], ?_⟩
        rw [u2_rw8 _ _ _ hj, hstep]
        simp only [sv1, htr, if_true, e, nI_fig hv, and_self, ej, cl_nI (show j < 2 ^ 31 by omega), cl_nI (show v < 2 ^ 31 by omega)]
theorem CH.congr {ns : Nat} {sv : Nat → Pl → Pl} {d d' : Dm} (h : CH ns sv d) (hd : ∀ x, x = 32 ∨ (35 ≤ x ∧ x ≤ 50) → d'.1 x = d.1 x) : CH ns sv d' := by
  refine ⟨h.1, by rw [hd 32 (Or.inl rfl)]; exact h.2.1, fun j hj => ?_⟩
  have hn := h.1
  obtain ⟨R, Sz, h1, h2, h3, h4, h5⟩ := h.2.2 j hj
  rw [hd (35 + 2 * j) (by omega), hd (36 + 2 * j) (by omega)]
  exact ⟨R, Sz, h1, h2, h3, h4, h5⟩
theorem CR.congr {nr : Nat} {ev : Nat → Pl → Bool} {d d' : Dm} (h : CR nr ev d) (hd : ∀ x, x = 17 ∨ (20 ≤ x ∧ x ≤ 31) → d'.1 x = d.1 x) : CR nr ev d' := by
  refine ⟨h.1, by rw [hd 17 (Or.inl rfl)]; exact h.2.1, fun j hj => ?_⟩
  have hn := h.1
  obtain ⟨R, h1, h2, h3⟩ := h.2.2 j hj
  rw [hd (20 + 2 * j) (by omega), hd (21 + 2 * j) (by omega)]
  exact ⟨R, h1, h2, h3⟩
theorem CP.congr {r n : Nat} {ac : Nat → Ac} {f : Pl} {d d' : Dm} (h : CP r n ac f d) (hd : ∀ x, 3 ≤ x ∧ x ≤ 16 → d'.1 x = d.1 x) (hl : d'.2.1 3 = d.2.1 3) (hr : d'.2.2 = d.2.2) : CP r n ac f d' := by
  obtain ⟨⟨h1, h2, h3⟩, h4, h5, h6, h7⟩ := h
  refine ⟨⟨h1, h2, h3⟩, by rw [hd 3 (by omega)]; exact h4, by rw [hl]; exact h5, fun i hi k hk => ?_, by rw [hr]; exact h7⟩
  rw [hr]
  have := h7.2.2.2.1 i (by omega)
  rw [hd _ (by omega)]
  exact h6 i hi k hk
theorem lN_pw {p q : Pl} (hp : okP p) (hq : okP q) : lN (pw p) = lN (pw q) ↔ p = q := by
  constructor
  · intro h
    exact pw_inj hp hq ((pk_lEQ (pw_lt hp) (pw_lt hq)).mp h)
  · intro h; rw [h]
/-- steady: each cut healing ends as healing does -/
def sdy (sv : Nat → Pl → Pl) (ns : Nat) (p : Pl) : Prop := ∀ j, j ≤ ns → hl sv 0 ns (hl sv 0 j p) = hl sv 0 ns p
noncomputable def sd (sv : Nat → Pl → Pl) (ns : Nat) (p : Pl) : Bool := @decide (sdy sv ns p) (Classical.propDecidable _)
theorem sd_iff {sv : Nat → Pl → Pl} {ns : Nat} {p : Pl} : sd sv ns p = true ↔ sdy sv ns p := by
  unfold sd
  exact @decide_eq_true_iff _ (Classical.propDecidable _)
theorem healed_eq {ns : Nat} {sv : Nat → Pl → Pl} {d : Dm} {p : Pl} (h : CH ns sv d) (hR : Rf d.2.2) (hp : okP p) : Heal_healed 32 (lN (pw p)) d = some (lN (pw (hl sv 0 ns p)), (rw8 d.1 34 (hl sv 0 ns p), d.2)) := by
  apply wp_get
  unfold Heal_healed
  simp only [wp_mb, wp_gI, wp_vc, zk, true_and, h.2.1]
  rw [show (0 : Int32) = nI 0 from rfl, wp_eq (after_eq h hR hp (Nat.zero_le _) (Nat.le_refl _)), wp_mp, Nat.sub_zero]
  exact ⟨rfl, rfl⟩
def fr1 (a : Nat) (d d' : Dm) : Prop := (∀ x, x ≠ a → d'.1 x = d.1 x) ∧ d'.2 = d.2
theorem fr1_rw8 {a : Nat} {d d' : Dm} (h : fr1 a d d') (p : Pl) : fr1 a d (rw8 d'.1 a p, d'.2) := ⟨fun x hx => (rw8_ne _ _ hx).trans (h.1 x hx), h.2⟩
theorem steady_eq {ns : Nat} {sv : Nat → Pl → Pl} {d : Dm} {p : Pl} (h : CH ns sv d) (hR : Rf d.2.2) (hp : okP p) : wp (Heal_isSteady 32 (lN (pw p)) (lN (pw (hl sv 0 ns p)))) d (fun x d' => x = (if sd sv ns p then 1 else 0) ∧ fr1 34 d d') := by
  have hn := h.1
  unfold Heal_isSteady
  simp only [wp_ml]
  unfold Heal_isSteady_6
  have ho : ∀ m, m ≤ ns → okP (hl sv 0 m p) := fun m hm => okP_hl h hp m (by omega)
  refine wp_up (fun m s dd => s = (lN (pw (hl sv 0 m p)), nI m) ∧ fr1 34 d dd ∧ ∀ j, j ≤ m → hl sv 0 ns (hl sv 0 j p) = hl sv 0 ns p) ns ?_ (i := 0) (by omega) ⟨rfl, ⟨fun _ _ => rfl, rfl⟩, ?_⟩
  · intro m s dd hm ⟨e1, hfr, e3⟩
    subst e1
    have hc : ∀ {x}, fr1 34 d x → CH ns sv x ∧ Rf x.2.2 := fun hx => ⟨h.congr (fun y hy => hx.1 y (by omega)), by rw [hx.2]; exact hR⟩
    unfold Heal_isSteady_6_b
    dsimp only
    simp only [wp_mb, wp_gI, zk, true_and, (hc hfr).1.2.1]
    by_cases hx : m = ns
    · subst hx
      rw [if_pos (nI_le (Nat.le_refl _) (by omega))]
      simp only [wp_mr, wp_mz]
      refine ⟨Or.inr trivial, ?_, hfr⟩
      rw [sd_iff.mpr e3]
      rfl
    · rw [if_neg (nI_ge (by omega) (by omega))]
      have hst : hl sv m 1 (hl sv 0 m p) = hl sv 0 (m + 1) p := by
        show sv (m + 0) _ = sv (0 + m) _
        rw [Nat.add_zero, Nat.zero_add]
        rfl
      simp only [wp_mb, wp_vc, zk, true_and, nI_1]
      rw [wp_eq (after_eq (hc hfr).1 (hc hfr).2 (ho m (by omega)) (show m ≤ m + 1 by omega) (by omega)), show m + 1 - m = 1 by omega, hst]
      have hfr1 := fr1_rw8 hfr (hl sv 0 (m + 1) p)
      have fin : ∀ x, fr1 34 d x → hl sv 0 ns (hl sv 0 (m + 1) p) = hl sv 0 ns p → wp (Heal_isSteady_55 32 (lN (pw (hl sv 0 ns p))) (nI m) (lN (pw (hl sv 0 (m + 1) p)))) x (fun r d' => match r with
          | .inl a' => m < ns ∧ a' = (lN (pw (hl sv 0 (m + 1) p)), nI (m + 1)) ∧ fr1 34 d d' ∧ ∀ j, j ≤ m + 1 → hl sv 0 ns (hl sv 0 j p) = hl sv 0 ns p
          | .inr r => r = (if sd sv ns p = true then 1 else 0) ∧ fr1 34 d d') := by
        intro x hx1 hx2
        unfold Heal_isSteady_55
        simp only [wp_ml, wp_mp, nI_1]
        refine ⟨by omega, trivial, hx1, fun j hj => ?_⟩
        by_cases e : j = m + 1
        · rw [e]; exact hx2
        · exact e3 j (by omega)
      simp only [wp_ite]
      by_cases he : hl sv 0 (m + 1) p = hl sv 0 m p
      · rw [if_pos ((lN_pw (ho (m + 1) (by omega)) (ho m (by omega))).mpr he)]
        refine wp_mono (fin _ hfr1 (by rw [he]; exact e3 m (Nat.le_refl _))) (fun r d' hr => by cases r <;> exact hr)
      · rw [if_neg (mt (lN_pw (ho (m + 1) (by omega)) (ho m (by omega))).mp he)]
        simp only [wp_mb, wp_gI, wp_vc, zk, true_and]
        have h32 : rw8 dd.1 34 (hl sv 0 (m + 1) p) 32 1 = nI ns := (hc hfr1).1.2.1
        rw [h32, show (0 : Int32) = nI 0 from rfl, wp_eq (after_eq (hc hfr1).1 (hc hfr1).2 (ho (m + 1) (by omega)) (Nat.zero_le _) (Nat.le_refl _)), Nat.sub_zero]
        have hfr2 := fr1_rw8 hfr1 (hl sv 0 ns (hl sv 0 (m + 1) p))
        simp only [wp_ite]
        by_cases he2 : hl sv 0 ns (hl sv 0 (m + 1) p) = hl sv 0 ns p
        · rw [if_pos ((lN_pw (okP_hl h (ho (m + 1) (by omega)) ns (by omega)) (ho ns (Nat.le_refl _))).mpr he2)]
          exact wp_mono (fin _ hfr2 he2) (fun r d' hr => by cases r <;> exact hr)
        · rw [if_neg (mt (lN_pw (okP_hl h (ho (m + 1) (by omega)) ns (by omega)) (ho ns (Nat.le_refl _))).mp he2)]
          simp only [wp_mr, wp_mz]
          refine ⟨Or.inl rfl, ?_, hfr2⟩
          have : ¬ sd sv ns p = true := fun hs => he2 (sd_iff.mp hs (m + 1) (by omega))
          rw [if_neg this]
  · intro j hj
    rw [Nat.le_zero.mp hj]
    rfl
