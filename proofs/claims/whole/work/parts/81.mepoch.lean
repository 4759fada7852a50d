/-! ===== pure: epochs, and what may have reached, with barriers and flushes put between ===== -/
abbrev ST : Type := (Nat × Nat) × (Nat → Prop) × (Nat × (Nat → Nat) × Nat)
def prE (rc : Nat) (E : Nat → Nat) : Nat → Nat
  | 0 => rc
  | e + 1 => prE rc E e ||| E e
theorem prE_cong {rc : Nat} {E E' : Nat → Nat} : ∀ {e : Nat}, (∀ j, j < e → E' j = E j) → prE rc E' e = prE rc E e
  | 0, _ => rfl
  | e + 1, h => by
    simp only [prE]
    rw [h e (by omega), prE_cong (fun j hj => h j (by omega))]
def om (ac : Nat → Ac) (W i : Nat) : Nat := if W.testBit i then 0 else if ac i 0 = 2 then 1 else if ac i 0 = 3 then 2 else 0
def mkS (m : Nat) (s : ST) : ST := (if m = 0 then s.1 else (s.1.1 ||| s.1.2, 0), if m = 2 then (fun T => T = s.1.1 ||| s.1.2) else s.2.1, if m = 0 then s.2.2 else if m = 2 then (0, setA s.2.2.2.1 0 0, prE s.2.2.2.2 s.2.2.2.1 (s.2.2.1 + 1)) else (s.2.2.1 + 1, setA s.2.2.2.1 (s.2.2.1 + 1) 0, s.2.2.2.2))
def wrS (W i : Nat) (s : ST) : ST := if W.testBit i then ((s.1.1, s.1.2 ||| 2 ^ i), (fun T => s.2.1 T ∨ ∃ U, sub U s.1.2 ∧ T = s.1.1 ||| 2 ^ i ||| U), (s.2.2.1, setA s.2.2.2.1 s.2.2.1 (s.2.2.2.1 s.2.2.1 ||| 2 ^ i), s.2.2.2.2)) else s
def gS (ac : Nat → Ac) (W : Nat) (pt : Nat → Nat) : Nat → ST
  | 0 => ((0, 0), (fun T => T = 0), (0, (fun _ => 0), 0))
  | k + 1 => mkS (pt k) (mkS (om ac W k) (wrS W k (gS ac W pt k)))
def hS (ac : Nat → Ac) (W : Nat) (pt : Nat → Nat) : Nat → ST
  | 0 => ((0, 0), (fun T => T = 0), (0, (fun _ => 0), 0))
  | k + 1 => mkS (om ac W k) (wrS W k (gS ac W pt k))
theorem mkS_0 (s : ST) : mkS 0 s = s := rfl
theorem gS_h {ac : Nat → Ac} {W : Nat} : ∀ k, hS ac W (fun _ => 0) k = gS ac W (fun _ => 0) k
  | 0 => rfl
  | k + 1 => rfl
theorem gS_0 {ac : Nat → Ac} {W : Nat} : ∀ k, (gS ac W (fun _ => 0) k).1 = ah ac W k ∧ (gS ac W (fun _ => 0) k).2.1 = PS ac W k
  | 0 => ⟨rfl, rfl⟩
  | k + 1 => by
    obtain ⟨ih1, ih2⟩ := gS_0 (ac := ac) (W := W) k
    simp only [gS]
    rw [mkS_0]
    generalize gS ac W (fun _ => 0) k = s at ih1 ih2
    unfold wrS om mkS
    refine ⟨?_, ?_⟩
    · simp only [ah]
      rw [← ih1]
      by_cases hb : W.testBit k = true
      · simp [hb]
      · by_cases h2 : ac k 0 = 2
        · simp [hb, h2, ise]
        · by_cases h3 : ac k 0 = 3
          · simp [hb, h3, ise]
          · simp [hb, h2, h3, ise]
    · funext T
      simp only [PS]
      rw [← ih1, ← ih2]
      by_cases hb : W.testBit k = true
      · simp [hb]
      · by_cases h3 : ac k 0 = 3
        · simp [hb, h3]
        · by_cases h2 : ac k 0 = 2
          · simp [hb, h2]
          · simp [hb, h2, h3]
/-- the reference's epochs stand for a state -/
def RE (q : Nat) (E : Nat → Nat) (rc : Nat) (s : ST) : Prop := s.1.1 = prE rc E q ∧ s.1.2 = E q ∧ (∀ T, s.2.1 T ↔ ∃ e, e ≤ q ∧ ∃ U, sub U (E e) ∧ T = prE rc E e ||| U) ∧ s.2.2 = (q, E, rc)
theorem sub_0 (A : Nat) : sub 0 A := fun i hi => by simp at hi
theorem RE_0 : RE 0 (fun _ => 0) 0 ((0, 0), (fun T => T = 0), (0, (fun _ => 0), 0)) := by
  refine ⟨rfl, rfl, fun T => ⟨fun h => ⟨0, Nat.le_refl _, 0, sub_0 _, by rw [h]; rfl⟩, fun ⟨e, h1, U, h2, h3⟩ => ?_⟩, rfl⟩
  have : e = 0 := by omega
  subst this
  rw [h3, sub_zero h2]
  rfl
section
variable {q : Nat} {E : Nat → Nat} {rc : Nat} {s : ST}
theorem sub_split {U A i : Nat} (h : sub U (A ||| 2 ^ i)) : sub U A ∨ ∃ V, sub V A ∧ U = 2 ^ i ||| V := by
  by_cases hb : U.testBit i = true
  · right
    refine ⟨U &&& A, fun j hj => ?_, bits_eq fun j => ?_⟩
    · rw [Nat.testBit_and] at hj; simp at hj; exact hj.2
    · rw [Nat.testBit_or, Nat.testBit_and, Nat.testBit_two_pow]
      constructor
      · intro hj
        have := h j hj
        rw [Nat.testBit_or, Nat.testBit_two_pow] at this
        by_cases e : i = j
        · simp [e]
        · simp [e] at this
          simp [hj, this]
      · intro hj
        by_cases e : i = j
        · rw [← e]; exact hb
        · simp [e] at hj
          exact hj.1
  · left
    intro j hj
    have := h j hj
    rw [Nat.testBit_or, Nat.testBit_two_pow] at this
    by_cases e : i = j
    · rw [e] at hb; exact absurd hj hb
    · simpa [e] using this
theorem RE_wr (h : RE q E rc s) {W i : Nat} (hb : W.testBit i = true) : RE q (setA E q (E q ||| 2 ^ i)) rc (wrS W i s) := by
  obtain ⟨h1, h2, h3, h4⟩ := h
  have hp : ∀ e, e ≤ q → prE rc (setA E q (E q ||| 2 ^ i)) e = prE rc E e := fun e he => prE_cong (fun j hj => setA_n _ _ (by omega))
  unfold wrS
  rw [if_pos hb]
  refine ⟨by rw [hp q (Nat.le_refl _)]; exact h1, by rw [setA_s, h2], fun T => ?_, by rw [h4]⟩
  dsimp only
  rw [h3]
  constructor
  · rintro (⟨e, e1, U, e2, e3⟩ | ⟨U, e2, e3⟩)
    · refine ⟨e, e1, U, ?_, by rw [hp e e1]; exact e3⟩
      by_cases heq : e = q
      · rw [heq] at e2 ⊢
        rw [setA_s]
        exact fun j hj => by rw [Nat.testBit_or, e2 j hj]; rfl
      · rw [setA_n _ _ heq]; exact e2
    · refine ⟨q, Nat.le_refl _, 2 ^ i ||| U, ?_, ?_⟩
      · rw [setA_s]
        rw [h2] at e2
        refine sub_or (fun j hj => ?_) (fun j hj => ?_)
        · rw [Nat.testBit_or, hj, Bool.or_true]
        · rw [Nat.testBit_or, e2 j hj]; rfl
      · rw [hp q (Nat.le_refl _), ← h1, e3, Nat.or_assoc]
  · rintro ⟨e, e1, U, e2, e3⟩
    rw [hp e e1] at e3
    by_cases heq : e = q
    · subst heq
      rw [setA_s] at e2
      rcases sub_split e2 with h4 | ⟨V, h4, h5⟩
      · exact Or.inl ⟨e, Nat.le_refl _, U, h4, e3⟩
      · right
        refine ⟨V, by rw [h2]; exact h4, ?_⟩
        rw [e3, h5, h1, Nat.or_assoc]
    · rw [setA_n _ _ heq] at e2
      exact Or.inl ⟨e, e1, U, e2, e3⟩
theorem RE_bar (h : RE q E rc s) : RE (q + 1) (setA E (q + 1) 0) rc (mkS 1 s) := by
  obtain ⟨h1, h2, h3, h4⟩ := h
  have hp : ∀ e, e ≤ q + 1 → prE rc (setA E (q + 1) 0) e = prE rc E e := fun e he => prE_cong (fun j hj => setA_n _ _ (by omega))
  refine ⟨?_, ?_, fun T => ?_, ?_⟩
  · rw [hp _ (Nat.le_refl _)]
    show s.1.1 ||| s.1.2 = prE rc E q ||| E q
    rw [h1, h2]
  · rw [setA_s]; rfl
  · show s.2.1 T ↔ _
    rw [h3]
    constructor
    · rintro ⟨e, e1, U, e2, e3⟩
      exact ⟨e, by omega, U, by rw [setA_n _ _ (by omega)]; exact e2, by rw [hp e (by omega)]; exact e3⟩
    · rintro ⟨e, e1, U, e2, e3⟩
      rw [hp e e1] at e3
      by_cases heq : e = q + 1
      · subst heq
        rw [setA_s] at e2
        rw [sub_zero e2, Nat.or_zero] at e3
        exact ⟨q, Nat.le_refl _, E q, fun j hj => hj, e3⟩
      · rw [setA_n _ _ heq] at e2
        exact ⟨e, by omega, U, e2, e3⟩
  · unfold mkS
    dsimp only
    rw [if_neg (by decide), if_neg (by decide), h4]
theorem RE_fl (h : RE q E rc s) : RE 0 (setA E 0 0) (prE rc E (q + 1)) (mkS 2 s) := by
  obtain ⟨h1, h2, h3, h4⟩ := h
  have e0 : s.1.1 ||| s.1.2 = prE rc E (q + 1) := by rw [h1, h2]; rfl
  refine ⟨e0, by rw [setA_s]; rfl, fun T => ?_, by unfold mkS; dsimp only; rw [if_neg (by decide), if_pos rfl, h4]⟩
  show T = s.1.1 ||| s.1.2 ↔ _
  rw [e0]
  constructor
  · intro hT
    exact ⟨0, Nat.le_refl _, 0, sub_0 _, by rw [hT, Nat.or_zero]; rfl⟩
  · rintro ⟨e, e1, U, e2, e3⟩
    have : e = 0 := by omega
    subst this
    rw [setA_s] at e2
    rw [e3, sub_zero e2, Nat.or_zero]
    rfl
end
/-- how many sets there are -/
def cN (wa : Nat → Nat) (wn : Nat) (E : Nat → Nat) : Nat → Nat
  | 0 => 0
  | e + 1 => cN wa wn E e + 2 ^ pcn (cW wa (E e) wn) 12
theorem cN_cong {wa : Nat → Nat} {wn : Nat} {E E' : Nat → Nat} : ∀ {e : Nat}, (∀ j, j < e → E' j = E j) → cN wa wn E' e = cN wa wn E e
  | 0, _ => rfl
  | e + 1, h => by
    simp only [cN]
    rw [h e (by omega), cN_cong (fun j hj => h j (by omega))]
theorem pcn_0 : ∀ k, pcn 0 k = 0
  | 0 => rfl
  | k + 1 => by simp only [pcn]; rw [Nat.zero_div, pcn_0 k]
theorem pcn_or : ∀ (k x v : Nat), pcn (x ||| 2 ^ v) k ≤ pcn x k + 1
  | 0, _, _ => by simp [pcn]
  | k + 1, x, v => by
    simp only [pcn]
    cases v with
    | zero =>
      have e := lor_bit (x / 2) 0 (u := x % 2) (v := 1) (Nat.mod_lt _ (by omega)) (by omega)
      rw [← half x, Nat.mul_zero, Nat.zero_add, Nat.or_zero] at e
      rw [Nat.pow_zero, e]
      have h1 : (2 * (x / 2) + if x % 2 = 0 then 1 else 1) / 2 = x / 2 := by split <;> omega
      have h2 : (2 * (x / 2) + if x % 2 = 0 then 1 else 1) % 2 ≤ 1 := by omega
      rw [h1]
      omega
    | succ v =>
      have e := lor_bit (x / 2) (2 ^ v) (u := x % 2) (v := 0) (Nat.mod_lt _ (by omega)) (by omega)
      rw [← half x, Nat.add_zero] at e
      have e2 : 2 ^ (v + 1) = 2 * 2 ^ v := by rw [Nat.pow_succ, Nat.mul_comm]
      rw [e2, e]
      have ih := pcn_or k (x / 2) v
      have h0 : (if x % 2 = 0 then 0 else 1) = x % 2 := by split <;> omega
      rw [h0, show (2 * (x / 2 ||| 2 ^ v) + x % 2) / 2 = x / 2 ||| 2 ^ v by omega, show (2 * (x / 2 ||| 2 ^ v) + x % 2) % 2 = x % 2 by omega]
      omega
theorem cW_0 (wa : Nat → Nat) : ∀ w, cW wa 0 w = 0
  | 0 => rfl
  | w + 1 => by simp only [cW]; rw [cW_0 wa w]; simp
theorem cW_pow {ac : Nat → Ac} {n wn : Nat} {wa : Nat → Nat} (h : WAp ac n wa wn) {i : Nat} (hi : i < n) (hw : isw (ac i) = true) : ∃ v, v < wn ∧ cW wa (2 ^ i) wn = 2 ^ v := by
  obtain ⟨v, h1, h2⟩ := h.2.2 i hi hw
  refine ⟨v, h1, bits_eq fun u => ?_⟩
  rw [cW_bit, Nat.testBit_two_pow, Nat.testBit_two_pow, decide_eq_true_eq, decide_eq_true_eq]
  constructor
  · rintro ⟨h3, h4⟩
    exact h.inj h1 h3 (h2.trans h4)
  · intro h3
    subst h3
    exact ⟨h1, h2.symm⟩
