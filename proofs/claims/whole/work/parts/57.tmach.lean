/-! ===== pure: texts letter by letter ===== -/
def isL (c : Nat) : Bool := decide (97 ≤ c) && decide (c ≤ 104)
def isD (c : Nat) : Bool := decide (48 ≤ c) && decide (c ≤ 57)
def isM (c : Nat) : Bool := decide (60 ≤ c) && decide (c ≤ 62)
/-- behind a factor -/
def nxC (sp : Bool) (o c : Nat) : Option Nat := if c = 38 ∨ c = 124 then some 0 else if c = 41 ∧ 0 < o then some 7 else if c = 58 ∧ o = 0 ∧ sp = true then some 8 else none
/-- what state comes behind a letter; none: no text goes on so -/
def nx (sp : Bool) (q o c : Nat) : Option Nat :=
  if q = 0 then (if isL c then some 2 else if isD c then some 3 else if c = 33 ∨ c = 40 then some 0 else none)
  else if q = 1 then (if isL c then some 2 else if isD c then some 3 else none)
  else if q = 2 then (if c = 43 ∨ c = 45 then some 1 else if isM c then some 4 else none)
  else if q = 3 then (if isD c then some 2 else if c = 43 ∨ c = 45 then some 1 else if isM c then some 4 else none)
  else if q = 4 then (if isL c then some 5 else if isD c then some 6 else none)
  else if q = 5 then (if c = 43 ∨ c = 45 then some 4 else nxC sp o c)
  else if q = 6 then (if isD c then some 5 else if c = 43 ∨ c = 45 then some 4 else nxC sp o c)
  else if q = 7 then nxC sp o c
  else if q = 8 then (if isL c then some 9 else none)
  else if q = 9 then (if c = 61 then some 10 else none)
  else if q = 10 then (if isL c then some 11 else if isD c then some 12 else none)
  else if q = 11 then (if c = 43 ∨ c = 45 then some 10 else none)
  else (if isD c then some 11 else if c = 43 ∨ c = 45 then some 10 else none)
def nxO (o c : Nat) : Nat := if c = 40 then o + 1 else if c = 41 then o - 1 else o
def qs (sp : Bool) (t : Nat → Nat) : Nat → Option (Nat × Nat)
  | 0 => some (0, 0)
  | k + 1 => match qs sp t k with
    | none => none
    | some (q, o) => match nx sp q o (t k) with
      | none => none
      | some q' => some (q', nxO o (t k))
theorem qs_some {sp : Bool} {t : Nat → Nat} {k q o q' : Nat} (h : qs sp t k = some (q, o)) (h2 : nx sp q o (t k) = some q') : qs sp t (k + 1) = some (q', nxO o (t k)) := by
  simp only [qs, h, h2]
theorem qs_none {sp : Bool} {t : Nat → Nat} {k q o : Nat} (h : qs sp t k = some (q, o)) (h2 : nx sp q o (t k) = none) : qs sp t (k + 1) = none := by
  simp only [qs, h, h2]
theorem qs_pre {sp : Bool} {t : Nat → Nat} {k : Nat} (h : qs sp t k = none) : qs sp t (k + 1) = none := by
  simp only [qs, h]
theorem qs_up {sp : Bool} {t : Nat → Nat} {k : Nat} (h : qs sp t k = none) : ∀ m, qs sp t (k + m) = none
  | 0 => h
  | m + 1 => qs_pre (qs_up h m)
theorem qs_back {sp : Bool} {t : Nat → Nat} {k m : Nat} {x : Nat × Nat} (h : qs sp t m = some x) (hk : k ≤ m) : ∃ y, qs sp t k = some y := by
  cases e : qs sp t k with
  | some y => exact ⟨y, rfl⟩
  | none =>
    have := qs_up e (m - k)
    rw [show k + (m - k) = m by omega, h] at this
    cases this
theorem qs_go {sp : Bool} {t : Nat → Nat} {k m q o : Nat} {x : Nat × Nat} (h : qs sp t m = some x) (hk : k < m) (hq : qs sp t k = some (q, o)) : ∃ q', nx sp q o (t k) = some q' ∧ qs sp t (k + 1) = some (q', nxO o (t k)) := by
  cases e : nx sp q o (t k) with
  | some q' => exact ⟨q', rfl, qs_some hq e⟩
  | none =>
    obtain ⟨y, hy⟩ := qs_back h (show k + 1 ≤ m by omega)
    rw [qs_none hq e] at hy
    cases hy
/-- how many letters begin some text -/
def GD (sp : Bool) (t : Nat → Nat) (m k : Nat) : Prop := k ≤ m ∧ (∃ x, qs sp t k = some x) ∧ (k = m ∨ qs sp t (k + 1) = none)
theorem GD_one {sp : Bool} {t : Nat → Nat} {m k k' : Nat} (h : GD sp t m k) (h' : GD sp t m k') : k = k' := by
  have key : ∀ {a b : Nat}, GD sp t m a → GD sp t m b → ¬ a < b := by
    intro a b ⟨a1, a2, a3⟩ ⟨b1, ⟨x, b2⟩, b3⟩ hab
    rcases a3 with a3 | a3
    · omega
    · obtain ⟨y, hy⟩ := qs_back b2 (show a + 1 ≤ b by omega)
      rw [a3] at hy
      cases hy
  have h1 := key h h'
  have h2 := key h' h
  omega
def WH (sp : Bool) (t : Nat → Nat) (m : Nat) : Prop := ∃ q, qs sp t m = some (q, 0) ∧ if sp then (q = 11 ∨ q = 12) else (5 ≤ q ∧ q ≤ 7)
def oq (x : Option Nat) : Prop := ∀ q, x = some q → q ≤ 12
theorem oq_ite {c : Prop} [Decidable c] {x y : Option Nat} (h1 : oq x) (h2 : oq y) : oq (if c then x else y) := by
  split
  · exact h1
  · exact h2
theorem oq_none : oq none := fun q h => by cases h
theorem oq_some {n : Nat} (h : n ≤ 12) : oq (some n) := fun q e => by cases e; exact h
theorem nx_le {sp : Bool} {q o c q' : Nat} (h : nx sp q o c = some q') : q' ≤ 12 := by
  have key : oq (nx sp q o c) := by
    unfold nx nxC
    repeat' apply oq_ite
    all_goals first | exact oq_none | exact oq_some (by omega)
  exact key q' h
theorem qs_le {sp : Bool} {t : Nat → Nat} : ∀ {k q o : Nat}, qs sp t k = some (q, o) → q ≤ 12 ∧ o ≤ k
  | 0, q, o, h => by
    simp only [qs] at h
    cases h
    omega
  | k + 1, q, o, h => by
    simp only [qs] at h
    split at h
    · cases h
    · next q0 o0 h0 =>
      have ih := qs_le h0
      split at h
      · cases h
      · next q' h1 =>
        cases h
        refine ⟨nx_le h1, ?_⟩
        unfold nxO
        split
        · omega
        · split <;> omega
/-! values -/
abbrev Gr : Type := Option Bool × Option Bool × Nat
abbrev VS : Type := Gr × List Gr × Int × Int × Bool × Nat × Nat × Bool × Nat
def anv (a : Option Bool) (v : Bool) : Bool := match a with
  | none => v
  | some b => b && v
def orv (o : Option Bool) (v : Bool) : Bool := match o with
  | none => v
  | some b => b || v
def cmpV (R : Nat) (T : Int) : Bool := if R = 60 then decide (T < 0) else if R = 61 then decide (T = 0) else decide (0 < T)
def dnv (n : Nat) (v : Bool) : Bool := if n % 2 = 1 then !v else v
def sgn (m : Bool) (u : Int) : Int := if m then -u else u
def clo (q : Nat) : VS → VS
  | ((o, a, n), g, T, U, m, x, R, v, tg) => if q = 5 ∨ q = 6 then ((o, a, 0), g, 0, U, m, x, R, dnv n (cmpV R T), tg) else ((o, a, n), g, T, U, m, x, R, v, tg)
def vcl (c : Nat) : VS → VS
  | ((o, a, n), g, T, U, m, x, R, v, tg) =>
    if c = 38 then ((o, some (anv a v), 0), g, T, U, m, x, R, v, tg)
    else if c = 124 then ((some (orv o (anv a v)), none, 0), g, T, U, m, x, R, v, tg)
    else if c = 41 then (match g with
      | [] => ((o, a, n), g, T, U, m, x, R, v, tg)
      | (o', a', n') :: g' => ((o', a', 0), g', T, U, m, x, R, dnv n' (orv o (anv a v)), tg))
    else ((none, none, 0), g, 0, U, m, x, R, orv o (anv a v), tg)
def vun (p : Pl) (c : Nat) (B : Int) (s : Bool) : VS → VS
  | (G, g, T, U, m, x, R, v, tg) => if isL c then (G, g, B + sgn s (p (c - 97)), B, m, x, R, v, tg) else (G, g, B + sgn s ((c - 48 : Nat) : Int), B, m, c - 48, R, v, tg)
def vst (p : Pl) (q c : Nat) (s : VS) : VS :=
  match s with
  | ((o, a, n), g, T, U, m, x, R, v, tg) =>
    if q = 0 then (if c = 33 then ((o, a, n + 1), g, T, U, m, x, R, v, tg) else if c = 40 then ((none, none, 0), (o, a, n) :: g, T, U, m, x, R, v, tg) else vun p c 0 false ((o, a, n), g, T, U, false, x, R, v, tg))
    else if q = 1 ∨ q = 10 then vun p c T m s
    else if q = 4 then vun p c T (!m) s
    else if (q = 3 ∨ q = 12) ∧ isD c = true then ((o, a, n), g, U + sgn m ((10 * x + (c - 48) : Nat) : Int), U, m, x, R, v, tg)
    else if q = 6 ∧ isD c = true then ((o, a, n), g, U + sgn (!m) ((10 * x + (c - 48) : Nat) : Int), U, m, x, R, v, tg)
    else if q ≠ 7 ∧ (c = 43 ∨ c = 45) then ((o, a, n), g, T, U, decide (c = 45), x, R, v, tg)
    else if q = 2 ∨ q = 3 then ((o, a, n), g, T, U, false, x, c, v, tg)
    else if q = 8 then ((o, a, n), g, T, U, m, x, R, v, c - 97)
    else if q = 9 then ((o, a, n), g, 0, U, false, x, R, v, tg)
    else vcl c (clo q s)
def vv0 : VS := ((none, none, 0), [], 0, 0, false, 0, 61, false, 0)
def sq (sp : Bool) (t : Nat → Nat) (k : Nat) : Nat := match qs sp t k with
  | some (q, _) => q
  | none => 0
def vv (sp : Bool) (p : Pl) (t : Nat → Nat) : Nat → VS
  | 0 => vv0
  | k + 1 => vst p (sq sp t k) (t k) (vv sp p t k)
theorem sq_eq {sp : Bool} {t : Nat → Nat} {k q o : Nat} (h : qs sp t k = some (q, o)) : sq sp t k = q := by
  unfold sq
  rw [h]
/-- whether a rule's text holds -/
def rvV (q : Nat) (s : VS) : Bool := match clo q s with
  | ((o, a, _), _, _, _, _, _, _, v, _) => orv o (anv a v)
def rvP (t : Nat → Nat) (m : Nat) (p : Pl) : Bool := rvV (sq false t m) (vv false p t m)
/-- what a step's text makes of a plate -/
def svV (p : Pl) (s : VS) : Pl := match s with
  | (_, _, T, _, _, _, _, v, tg) => if v then (if 0 ≤ T ∧ T ≤ 99 then pu p tg T.toNat else p) else p
def svP (t : Nat → Nat) (m : Nat) (p : Pl) : Pl := svV p (vv true p t m)
/-- sums stay small -/
def vsm (k : Nat) (s : VS) : Prop := match s with
  | (_, _, T, U, _, x, _, _, _) => (-(100 * k : Int) ≤ T ∧ T ≤ 100 * k) ∧ (-(100 * k : Int) ≤ U ∧ U ≤ 100 * k) ∧ x ≤ 9
theorem vsm_up {k : Nat} {s : VS} (h : vsm k s) : vsm (k + 1) s := by
  obtain ⟨G, g, T, U, m, x, R, v, tg⟩ := s
  simp only [vsm] at h ⊢
  omega
theorem isL_iff {c : Nat} : isL c = true ↔ 97 ≤ c ∧ c ≤ 104 := by simp [isL]
theorem isD_iff {c : Nat} : isD c = true ↔ 48 ≤ c ∧ c ≤ 57 := by simp [isD]
theorem isM_iff {c : Nat} : isM c = true ↔ 60 ≤ c ∧ c ≤ 62 := by simp [isM]
theorem sgn_b {m : Bool} {u : Int} {b : Int} (h1 : 0 ≤ u) (h2 : u ≤ b) : -b ≤ sgn m u ∧ sgn m u ≤ b := by
  unfold sgn
  split <;> omega
theorem vun_sm {p : Pl} (hp : okP p) {c k : Nat} {B : Int} {sb : Bool} {s : VS} (hc : isL c = true ∨ isD c = true) (hB : -(100 * k : Int) ≤ B ∧ B ≤ 100 * k) (h : vsm k s) : vsm (k + 1) (vun p c B sb s) := by
  obtain ⟨G, g, T, U, m, x, R, v, tg⟩ := s
  simp only [vsm] at h
  unfold vun
  dsimp only
  have hpc := hp.1 (c - 97)
  by_cases hl : isL c = true
  · rw [if_pos hl]
    simp only [vsm]
    have := sgn_b (m := sb) (u := (p (c - 97) : Int)) (b := 99) (by omega) (by omega)
    omega
  · rw [if_neg hl]
    have hd := isD_iff.mp (hc.resolve_left hl)
    simp only [vsm]
    have := sgn_b (m := sb) (u := ((c - 48 : Nat) : Int)) (b := 9) (by omega) (by omega)
    omega
theorem vcl_sm {c k q : Nat} {s : VS} (h : vsm k s) : vsm (k + 1) (vcl c (clo q s)) := by
  obtain ⟨⟨o, a, n⟩, g, T, U, m, x, R, v, tg⟩ := s
  simp only [vsm] at h
  have h2 : vsm k (clo q ((o, a, n), g, T, U, m, x, R, v, tg)) := by
    unfold clo
    dsimp only
    split
    · simp only [vsm]; omega
    · simp only [vsm]; omega
  revert h2
  generalize clo q ((o, a, n), g, T, U, m, x, R, v, tg) = s2
  obtain ⟨⟨o, a, n⟩, g, T, U, m, x, R, v, tg⟩ := s2
  intro h2
  simp only [vsm] at h2
  unfold vcl
  dsimp only
  split
  · simp only [vsm]; omega
  · split
    · simp only [vsm]; omega
    · split
      · cases g with
        | nil => simp only [vsm]; omega
        | cons G' g' => obtain ⟨o', a', n'⟩ := G'; simp only [vsm]; omega
      · simp only [vsm]; omega
theorem vst_sm {sp : Bool} {p : Pl} (hp : okP p) {q o c q' k : Nat} {s : VS} (hn : nx sp q o c = some q') (h : vsm k s) : vsm (k + 1) (vst p q c s) := by
  obtain ⟨⟨o1, a, n⟩, g, T, U, m, x, R, v, tg⟩ := s
  have h0 := h
  simp only [vsm] at h
  unfold vst
  dsimp only
  by_cases q0 : q = 0
  · subst q0
    rw [if_pos rfl]
    split
    · simp only [vsm]; omega
    · split
      · simp only [vsm]; omega
      · next h1 h2 =>
        refine vun_sm hp ?_ (by omega) (by simp only [vsm]; omega)
        simp only [nx, if_true] at hn
        by_cases hl : isL c = true
        · exact Or.inl hl
        · by_cases hd : isD c = true
          · exact Or.inr hd
          · simp [hl, hd, h1, h2] at hn
  · rw [if_neg q0]
    by_cases q1 : q = 1 ∨ q = 10
    · rw [if_pos q1]
      refine vun_sm hp ?_ (by omega) h0
      by_cases hl : isL c = true
      · exact Or.inl hl
      · by_cases hd : isD c = true
        · exact Or.inr hd
        · rcases q1 with rfl | rfl <;> simp [nx, hl, hd] at hn
    · rw [if_neg q1]
      by_cases q4 : q = 4
      · rw [if_pos q4]
        refine vun_sm hp ?_ (by omega) h0
        by_cases hl : isL c = true
        · exact Or.inl hl
        · by_cases hd : isD c = true
          · exact Or.inr hd
          · subst q4; simp [nx, hl, hd] at hn
      · rw [if_neg q4]
        split
        · next hd =>
          have hd := isD_iff.mp hd.2
          simp only [vsm]
          have := sgn_b (m := m) (u := ((10 * x + (c - 48) : Nat) : Int)) (b := 99) (by omega) (by omega)
          omega
        · split
          · next hd =>
            have hd := isD_iff.mp hd.2
            simp only [vsm]
            have := sgn_b (m := !m) (u := ((10 * x + (c - 48) : Nat) : Int)) (b := 99) (by omega) (by omega)
            omega
          · split
            · simp only [vsm]; omega
            · split
              · simp only [vsm]; omega
              · split
                · simp only [vsm]; omega
                · split
                  · simp only [vsm]; omega
                  · exact vcl_sm h0
theorem vv_sm {sp : Bool} {p : Pl} (hp : okP p) {t : Nat → Nat} : ∀ {k : Nat} {x : Nat × Nat}, qs sp t k = some x → vsm k (vv sp p t k)
  | 0, x, h => by simp [vv, vv0, vsm]
  | k + 1, x, h => by
    obtain ⟨⟨q, o⟩, hq⟩ := qs_back h (Nat.le_succ k)
    obtain ⟨q', hn, -⟩ := qs_go h (Nat.lt_succ_self k) hq
    simp only [vv]
    rw [sq_eq hq]
    exact vst_sm hp hn (vv_sm hp hq)
