/-! ===== the memory as three tables; computations over it ===== -/
abbrev Zt : Type := Nat × (Nat → Nat) × (Nat → Nat)
abbrev Dm : Type := (Nat → Nat → Int32) × (Nat → Nat → Int64) × (Nat → Nat → Nat)
abbrev MM (α : Type) : Type := Dm → Option (α × Dm)
def mp {α : Type} (a : α) : MM α := fun d => some (a, d)
def mb {α β : Type} (f : MM α) (k : α → MM β) : MM β := fun d => match f d with
  | none => none
  | some q => k q.1 q.2
def ml {α β : Type} (a : α) (k : α → MM β) : MM β := k a
def mr {α β : Type} (f : MM β) : MM (α ⊕ β) := fun d => match f d with
  | none => none
  | some q => some (.inr q.1, q.2)
def mz (r : Int32) : MM Int32 := fun d => if r = 0 ∨ r = 1 then some (r, d) else none
def u2 {α : Type} (f : Nat → Nat → α) (a k : Nat) (x : α) : Nat → Nat → α := fun i j => if i = a ∧ j = k then x else f i j
def it {α β : Type} (b : α → MM (α ⊕ β)) : Nat → α → MM β
  | 0, _ => fun _ => none
  | n + 1, a => fun d => match b a d with
    | none => none
    | some (.inl a', d') => it b n a' d'
    | some (.inr r, d') => some (r, d')
noncomputable def lo {α β : Type} (b : α → MM (α ⊕ β)) (a : α) : MM β := fun d => @dite _ (∃ q, ∃ n, it b n a d = some q) (Classical.propDecidable _) (fun h => some h.choose) (fun _ => none)
theorem it_mono {α β : Type} {b : α → MM (α ⊕ β)} : ∀ {n : Nat} {a : α} {d : Dm} {q : β × Dm}, it b n a d = some q → ∀ k, it b (n + k) a d = some q := by
  intro n
  induction n with
  | zero => intro a d q h; simp [it] at h
  | succ n ih =>
    intro a d q h k
    rw [Nat.add_right_comm]
    simp only [it] at h ⊢
    split at h
    · simp at h
    · next a' d' hb => exact ih h k
    · next r d' hb => exact h
theorem it_det {α β : Type} {b : α → MM (α ⊕ β)} {n k : Nat} {a : α} {d : Dm} {q r : β × Dm} (h : it b n a d = some q) (h2 : it b k a d = some r) : q = r := by
  have h3 := it_mono h k
  have h4 := it_mono h2 n
  rw [Nat.add_comm] at h4
  rw [h4] at h3
  exact (Option.some.inj h3).symm
theorem lo_iff {α β : Type} {b : α → MM (α ⊕ β)} {a : α} {d : Dm} {q : β × Dm} : lo b a d = some q ↔ ∃ n, it b n a d = some q := by
  unfold lo
  by_cases h : ∃ q, ∃ n, it b n a d = some q
  · rw [dif_pos h]
    obtain ⟨n, hn⟩ := h.choose_spec
    constructor
    · intro e
      rw [← Option.some.inj e]
      exact ⟨n, hn⟩
    · intro ⟨k, hk⟩
      rw [it_det hn hk]
  · rw [dif_neg h]
    constructor
    · intro e; cases e
    · intro ⟨n, hn⟩; exact absurd ⟨q, n, hn⟩ h
theorem lo_eq {α β : Type} (b : α → MM (α ⊕ β)) (a : α) (d : Dm) : lo b a d = match b a d with
    | none => none
    | some (.inl a', d') => lo b a' d'
    | some (.inr r, d') => some (r, d') := by
  apply Option.ext
  intro q
  rw [lo_iff]
  constructor
  · intro ⟨n, hn⟩
    cases n with
    | zero => simp [it] at hn
    | succ n =>
      simp only [it] at hn
      split at hn
      · simp at hn
      · next a' d' hb => exact lo_iff.mpr ⟨n, hn⟩
      · next r d' hb => exact hn
  · intro h
    split at h
    · simp at h
    · next a' d' hb =>
      obtain ⟨n, hn⟩ := lo_iff.mp h
      exact ⟨n + 1, by simp only [it]; rw [hb]; exact hn⟩
    · next r d' hb => exact ⟨1, by simp only [it]; rw [hb]; exact h⟩
abbrev ib (i : Int32) (n : Nat) : Prop := 0 ≤ i ∧ i.toNatClampNeg < n
def gI (Z : Zt) (c k a : Nat) : MM Int32 := fun d => if Z.2.1 a = c then some (d.1 a k, d) else none
def gL (Z : Zt) (c k a : Nat) : MM Int64 := fun d => if Z.2.1 a = c then some (d.2.1 a k, d) else none
def gR (Z : Zt) (c k a : Nat) : MM Nat := fun d => if Z.2.1 a = c then some (d.2.2 a k, d) else none
def pI (Z : Zt) (c k a : Nat) (x : Int32) : MM Unit := fun d => if Z.2.1 a = c then some ((), (u2 d.1 a k x, d.2)) else none
def pZ (Z : Zt) (c k a : Nat) (x : Int32) : MM Unit := fun d => if Z.2.1 a = c ∧ (x = 0 ∨ x = 1) then some ((), (u2 d.1 a k x, d.2)) else none
def pC (Z : Zt) (c k a : Nat) (x : Int32) : MM Unit := fun d => if Z.2.1 a = c ∧ (0 ≤ x ∧ x ≤ 65535) then some ((), (u2 d.1 a k x, d.2)) else none
def pL (Z : Zt) (c k a : Nat) (x : Int64) : MM Unit := fun d => if Z.2.1 a = c then some ((), (d.1, u2 d.2.1 a k x, d.2.2)) else none
def pR (Z : Zt) (c k a : Nat) (x : Nat) : MM Unit := fun d => if Z.2.1 a = c then some ((), (d.1, d.2.1, u2 d.2.2 a k x)) else none
def aI (Z : Zt) (c a : Nat) (i : Int32) : MM Int32 := fun d => if Z.2.1 a = c ∧ ib i (Z.2.2 a) then some (d.1 a i.toNatClampNeg, d) else none
def aL (Z : Zt) (a : Nat) (i : Int32) : MM Int64 := fun d => if Z.2.1 a = 24 ∧ ib i (Z.2.2 a) then some (d.2.1 a i.toNatClampNeg, d) else none
def aR (Z : Zt) (c a : Nat) (i : Int32) : MM Nat := fun d => if Z.2.1 a = c ∧ ib i (Z.2.2 a) then some (d.2.2 a i.toNatClampNeg, d) else none
def sI (Z : Zt) (a : Nat) (i x : Int32) : MM Unit := fun d => if Z.2.1 a = 23 ∧ ib i (Z.2.2 a) then some ((), (u2 d.1 a i.toNatClampNeg x, d.2)) else none
def sB (Z : Zt) (a : Nat) (i x : Int32) : MM Unit := fun d => if Z.2.1 a = 21 ∧ ib i (Z.2.2 a) then some ((), (u2 d.1 a i.toNatClampNeg x.toInt8.toInt32, d.2)) else none
def sC (Z : Zt) (a : Nat) (i x : Int32) : MM Unit := fun d => if Z.2.1 a = 22 ∧ ib i (Z.2.2 a) then some ((), (u2 d.1 a i.toNatClampNeg x.toUInt32.toUInt16.toUInt32.toInt32, d.2)) else none
def sZ (Z : Zt) (a : Nat) (i x : Int32) : MM Unit := fun d => if (Z.2.1 a = 25 ∧ ib i (Z.2.2 a)) ∧ (x = 0 ∨ x = 1) then some ((), (u2 d.1 a i.toNatClampNeg x, d.2)) else none
def sL (Z : Zt) (a : Nat) (i : Int32) (x : Int64) : MM Unit := fun d => if Z.2.1 a = 24 ∧ ib i (Z.2.2 a) then some ((), (d.1, u2 d.2.1 a i.toNatClampNeg x, d.2.2)) else none
def sR (Z : Zt) (c e a : Nat) (i : Int32) (x : Nat) : MM Unit := fun d => if (Z.2.1 a = c ∧ ib i (Z.2.2 a)) ∧ Z.2.1 x = e then some ((), (d.1, d.2.1, u2 d.2.2 a i.toNatClampNeg x)) else none
def al (Z : Zt) (c a : Nat) : MM Int32 := fun d => if Z.2.1 a = c then some (Int32.ofNat (Z.2.2 a), d) else none
def vc {α : Type} (Z : Zt) (c a : Nat) (f : MM α) : MM α := fun d => if Z.2.1 a = c then f d else none
def cpF (f : Nat → Nat → Int32) (a b : Nat) (i j n : Nat) : Nat → Nat → Int32 := fun x y => if x = b ∧ j ≤ y ∧ y < j + n then f a (i + (y - j)) else f x y
def ac (Z : Zt) (a : Nat) (i : Int32) (b : Nat) (j n : Int32) : MM Unit := fun d => if (Z.2.1 a = 23 ∧ Z.2.1 b = 23) ∧ (0 ≤ i ∧ 0 ≤ j ∧ 0 ≤ n) ∧ i.toNatClampNeg + n.toNatClampNeg ≤ Z.2.2 a ∧ j.toNatClampNeg + n.toNatClampNeg ≤ Z.2.2 b ∧ a ≠ b then some ((), (cpF d.1 a b i.toNatClampNeg j.toNatClampNeg n.toNatClampNeg, d.2)) else none
def sw {α : Type} (x : Int32) (lo : Int32) : List (MM α) → MM α → MM α
  | [], f => f
  | g :: gs, f => if x = lo then g else sw x (lo + 1) gs f
