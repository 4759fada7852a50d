/-! ===== pure: numbers of two bases, plates, acts ===== -/
abbrev Pl : Type := Nat → Nat
def hz (B : Nat) (p : Pl) : Nat → Nat
  | 0 => 0
  | m + 1 => hz B p m * B + p (7 - m)
def sg (B : Nat) (p : Pl) : Nat → Nat
  | 0 => 0
  | m + 1 => sg B p m + p m * B ^ m
def dg (B N s : Nat) : Nat := N / B ^ s % B
def okP (p : Pl) : Prop := (∀ s, p s < 100) ∧ ∀ s, 8 ≤ s → p s = 0
def num (p : Pl) : Nat := hz 100 p 8
def pw (p : Pl) : Nat := hz 256 p 8
theorem num_sg (p : Pl) : num p = sg 100 p 8 := by simp [num, hz, sg]; omega
theorem pw_sg (p : Pl) : pw p = sg 256 p 8 := by simp [pw, hz, sg]; omega
theorem sg_lt {B : Nat} {p : Pl} (h : ∀ s, p s < B) : ∀ m, sg B p m < B ^ m
  | 0 => by simp [sg]
  | m + 1 => by
    have ih := sg_lt h m
    have h1 := h m
    simp only [sg]
    have : (p m + 1) * B ^ m ≤ B * B ^ m := Nat.mul_le_mul_right _ h1
    rw [Nat.pow_succ, Nat.mul_comm (B ^ m)]
    rw [Nat.add_mul] at this
    omega
theorem sg_div {B : Nat} {p : Pl} (h : ∀ s, p s < B) {s : Nat} : ∀ {m : Nat}, s < m → sg B p m / B ^ s % B = p s
  | 0, hs => by omega
  | m + 1, hs => by
    have hB : 0 < B := Nat.lt_of_le_of_lt (Nat.zero_le _) (h 0)
    simp only [sg]
    by_cases e : s = m
    · subst e
      rw [Nat.add_mul_div_right _ _ (Nat.pow_pos hB), Nat.div_eq_of_lt (sg_lt h s), Nat.zero_add, Nat.mod_eq_of_lt (h s)]
    · have hs' : s < m := by omega
      obtain ⟨k, rfl⟩ : ∃ k, m = s + (k + 1) := ⟨m - s - 1, by omega⟩
      rw [Nat.pow_add B s (k + 1), Nat.mul_comm (B ^ s), ← Nat.mul_assoc, Nat.add_mul_div_right _ _ (Nat.pow_pos hB), Nat.pow_succ, ← Nat.mul_assoc, Nat.add_mul_mod_self_right]
      exact sg_div h hs'
theorem dg_num {p : Pl} (h : okP p) {s : Nat} (hs : s < 8) : dg 100 (num p) s = p s := by
  rw [num_sg]; exact sg_div h.1 hs
theorem dg_pw {p : Pl} (h : okP p) {s : Nat} (hs : s < 8) : dg 256 (pw p) s = p s := by
  rw [pw_sg]; exact sg_div (fun s => Nat.lt_trans (h.1 s) (by omega)) hs
theorem num_lt {p : Pl} (h : okP p) : num p < 10000000000000000 := by
  rw [num_sg]; exact sg_lt h.1 8
theorem pw_lt {p : Pl} (h : okP p) : pw p < 2 ^ 63 := by
  have e : ∀ s, p s < 100 := h.1
  simp only [pw, hz]
  have := e 0; have := e 1; have := e 2; have := e 3; have := e 4; have := e 5; have := e 6; have := e 7
  simp; omega
theorem hz_cmp {B C : Nat} {p q : Pl} (hB : ∀ s, p s < B ∧ q s < B) (hC : ∀ s, p s < C ∧ q s < C) : ∀ m, (hz B p m < hz B q m ↔ hz C p m < hz C q m) ∧ (hz B p m = hz B q m ↔ hz C p m = hz C q m)
  | 0 => by simp [hz]
  | m + 1 => by
    obtain ⟨h1, h2⟩ := hz_cmp hB hC m
    have key : ∀ (B x y u v : Nat), u < B → v < B → ((x * B + u < y * B + v ↔ (x < y ∨ (x = y ∧ u < v))) ∧ (x * B + u = y * B + v ↔ (x = y ∧ u = v))) := by
      intro B x y u v hu hv
      rcases Nat.lt_trichotomy x y with h | h | h
      · have : (x + 1) * B ≤ y * B := Nat.mul_le_mul_right _ h
        rw [Nat.add_mul] at this
        constructor <;> constructor <;> intro h' <;> omega
      · subst h
        constructor <;> constructor <;> intro h' <;> omega
      · have : (y + 1) * B ≤ x * B := Nat.mul_le_mul_right _ h
        rw [Nat.add_mul] at this
        constructor <;> constructor <;> intro h' <;> omega
    simp only [hz]
    obtain ⟨a1, a2⟩ := key B (hz B p m) (hz B q m) (p (7 - m)) (q (7 - m)) (hB _).1 (hB _).2
    obtain ⟨b1, b2⟩ := key C (hz C p m) (hz C q m) (p (7 - m)) (q (7 - m)) (hC _).1 (hC _).2
    rw [a1, a2, b1, b2, h1, h2]
    exact ⟨Iff.rfl, Iff.rfl⟩
theorem pw_num_lt {p q : Pl} (hp : okP p) (hq : okP q) : pw p < pw q ↔ num p < num q := (hz_cmp (fun s => ⟨Nat.lt_trans (hp.1 s) (by omega), Nat.lt_trans (hq.1 s) (by omega)⟩) (fun s => ⟨hp.1 s, hq.1 s⟩) 8).1
theorem num_inj {p q : Pl} (hp : okP p) (hq : okP q) (h : num p = num q) : p = q := funext fun s => by
  by_cases hs : s < 8
  · rw [← dg_num hp hs, ← dg_num hq hs, h]
  · rw [hp.2 s (by omega), hq.2 s (by omega)]
theorem pw_inj {p q : Pl} (hp : okP p) (hq : okP q) (h : pw p = pw q) : p = q := funext fun s => by
  by_cases hs : s < 8
  · rw [← dg_pw hp hs, ← dg_pw hq hs, h]
  · rw [hp.2 s (by omega), hq.2 s (by omega)]
theorem okP_dg {N : Nat} (h : N < 10000000000000000) : okP (dg 100 N) := ⟨fun s => Nat.mod_lt _ (by omega), fun s hs => by
  unfold dg
  have : 10000000000000000 ≤ 100 ^ s := Nat.le_trans (by decide : 10000000000000000 ≤ 100 ^ 8) (Nat.pow_le_pow_right (by omega) hs)
  rw [Nat.div_eq_of_lt (by omega)]⟩
theorem num_dg {N : Nat} (h : N < 10000000000000000) : num (dg 100 N) = N := by
  rw [num_sg]
  simp only [sg, dg]
  simp
  omega
-- acts: a k is the k-th number that act() tells
abbrev Ac : Type := Nat → Int32
def cl (x : Int32) : Nat := x.toNatClampNeg
def pu (p : Pl) (s v : Nat) : Pl := fun j => if j = s then v else p j
def isw (a : Ac) : Bool := decide (a 0 = 0) || decide (a 0 = 1)
def ise (a : Ac) : Bool := decide (a 0 = 2) || decide (a 0 = 3)
def lay (a : Ac) (p : Pl) : Pl := if a 0 = 1 then pu (pu p (cl (a 1)) (cl (a 2))) (cl (a 3)) (cl (a 4)) else pu p (cl (a 1)) (cl (a 2))
def pS (ac : Nat → Ac) (f : Pl) (S : Nat) : Nat → Pl
  | 0 => f
  | i + 1 => if S.testBit i then lay (ac i) (pS ac f S i) else pS ac f S i
def wm (ac : Nat → Ac) : Nat → Nat
  | 0 => 0
  | k + 1 => wm ac k + if isw (ac k) then 2 ^ k else 0
def okA (r : Nat) (a : Ac) : Prop := (a 0 = 0 ∧ (∃ s, s < 8 ∧ a 1 = nI s) ∧ (∃ v, v < 100 ∧ a 2 = nI v) ∧ a 3 = -1 ∧ a 4 = -1) ∨
  (a 0 = 1 ∧ (∃ s t, s < 8 ∧ t < 8 ∧ s ≠ t ∧ a 1 = nI s ∧ a 3 = nI t) ∧ (∃ v, v < 100 ∧ a 2 = nI v) ∧ (∃ v, v < 100 ∧ a 4 = nI v)) ∨
  ((a 0 = 2 ∨ a 0 = 3) ∧ a 1 = -1 ∧ a 2 = -1 ∧ a 3 = -1 ∧ a 4 = -1) ∨
  (a 0 = 4 ∧ (∃ j, j < r ∧ a 1 = nI j) ∧ a 2 = -1 ∧ a 3 = -1 ∧ a 4 = -1)
theorem cl_nI {n : Nat} (h : n < 2 ^ 31) : cl (nI n) = n := nI_clamp h
theorem okP_pu {p : Pl} (h : okP p) {s v : Nat} (hs : s < 8) (hv : v < 100) : okP (pu p s v) := ⟨fun j => by unfold pu; split; exact hv; exact h.1 j, fun j hj => by unfold pu; rw [if_neg (by omega)]; exact h.2 j hj⟩
theorem okA_w {r : Nat} {a : Ac} (h : okA r a) (hw : isw a = true) : (cl (a 1) < 8 ∧ a 1 = nI (cl (a 1))) ∧ (cl (a 2) < 100 ∧ a 2 = nI (cl (a 2))) ∧ (a 0 = 1 → (cl (a 3) < 8 ∧ a 3 = nI (cl (a 3)) ∧ cl (a 1) ≠ cl (a 3)) ∧ (cl (a 4) < 100 ∧ a 4 = nI (cl (a 4)))) := by
  have hw : a 0 = 0 ∨ a 0 = 1 := by simpa [isw] using hw
  rcases h with ⟨e0, ⟨s, hs, e1⟩, ⟨v, hv, e2⟩, -⟩ | ⟨e0, ⟨s, t, hs, ht, hst, e1, e3⟩, ⟨v, hv, e2⟩, ⟨w, hw2, e4⟩⟩ | ⟨e0, -⟩ | ⟨e0, -⟩
  · rw [e1, e2, cl_nI (by omega), cl_nI (by omega)]
    exact ⟨⟨hs, rfl⟩, ⟨hv, rfl⟩, fun h => by rw [e0] at h; exact absurd h (by decide)⟩
  · rw [e1, e2, e3, e4, cl_nI (by omega), cl_nI (by omega), cl_nI (by omega), cl_nI (by omega)]
    exact ⟨⟨hs, rfl⟩, ⟨hv, rfl⟩, fun _ => ⟨⟨ht, rfl, hst⟩, ⟨hw2, rfl⟩⟩⟩
  · rcases e0 with e0 | e0 <;> rw [e0] at hw <;> exact absurd hw (by decide)
  · rw [e0] at hw; exact absurd hw (by decide)
theorem okP_lay {r : Nat} {a : Ac} {p : Pl} (h : okA r a) (hw : isw a = true) (hp : okP p) : okP (lay a p) := by
  obtain ⟨h1, h2, h3⟩ := okA_w h hw
  unfold lay
  split
  · next e =>
    obtain ⟨h4, h5⟩ := h3 e
    exact okP_pu (okP_pu hp h1.1 h2.1) h4.1 h5.1
  · exact okP_pu hp h1.1 h2.1
/-- a set of writes of the first n acts -/
def sub (S T : Nat) : Prop := ∀ i, S.testBit i = true → T.testBit i = true
theorem wm_bit (ac : Nat → Ac) : ∀ (k i : Nat), (wm ac k).testBit i = (decide (i < k) && isw (ac i))
  | 0, i => by simp [wm]
  | k + 1, i => by
    have ih := wm_bit ac k
    have hlt : wm ac k < 2 ^ k := by
      apply Nat.lt_pow_two_of_testBit
      intro i hi
      rw [ih]
      simp; omega
    simp only [wm]
    by_cases hw : isw (ac k) = true
    · rw [if_pos hw]
      have e : wm ac k + 2 ^ k = 2 ^ k ||| wm ac k := by
        have h1 := Nat.two_pow_add_eq_or_of_lt hlt 1
        rw [Nat.mul_one] at h1
        rw [Nat.add_comm]
        exact h1
      rw [e, Nat.testBit_or, ih, Nat.testBit_two_pow]
      by_cases hik : k = i
      · subst hik; simp [hw]
      · have : (decide (i < k + 1)) = decide (i < k) := by rw [decide_eq_decide]; omega
        simp [hik, this]
    · rw [if_neg hw, Nat.add_zero, ih]
      by_cases hik : k = i
      · subst hik; simp [hw]
      · have : (decide (i < k + 1)) = decide (i < k) := by rw [decide_eq_decide]; omega
        rw [this]
theorem wm_lt (ac : Nat → Ac) (k : Nat) : wm ac k < 2 ^ k := by
  apply Nat.lt_pow_two_of_testBit
  intro i hi
  rw [wm_bit]
  simp; omega
theorem okP_pS {r n : Nat} {ac : Nat → Ac} {f : Pl} {S : Nat} (hf : okP f) (ha : ∀ i, i < n → okA r (ac i)) (hS : sub S (wm ac n)) : ∀ i, i ≤ n → okP (pS ac f S i)
  | 0, _ => hf
  | i + 1, h => by
    have ih := okP_pS hf ha hS i (by omega)
    simp only [pS]
    split
    · next hb =>
      have := hS i hb
      rw [wm_bit] at this
      simp at this
      exact okP_lay (ha i (by omega)) this.2 ih
    · exact ih
