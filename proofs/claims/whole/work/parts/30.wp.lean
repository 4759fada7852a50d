/-! ===== pure: what a computation comes to ===== -/
def wp {α : Type} (f : MM α) (d : Dm) (Q : α → Dm → Prop) : Prop := ∃ a d', f d = some (a, d') ∧ Q a d'
section
variable {α β : Type} {d : Dm} {Q : α → Dm → Prop}
theorem wp_mp {a : α} : wp (mp a) d Q ↔ Q a d := ⟨fun ⟨_, _, h, q⟩ => by cases h; exact q, fun q => ⟨_, _, rfl, q⟩⟩
theorem wp_mb {f : MM β} {k : β → MM α} : wp (mb f k) d Q ↔ wp f d (fun b d1 => wp (k b) d1 Q) := by
  constructor
  · intro ⟨a, d', h, q⟩
    obtain ⟨b, d1, h1, h2⟩ := mb_some h
    exact ⟨b, d1, h1, a, d', h2, q⟩
  · intro ⟨b, d1, h1, a, d', h2, q⟩
    refine ⟨a, d', ?_, q⟩
    unfold mb
    rw [h1]
    exact h2
theorem wp_ml {b : β} {k : β → MM α} : wp (ml b k) d Q ↔ wp (k b) d Q := Iff.rfl
theorem wp_mr {f : MM β} {Q : α ⊕ β → Dm → Prop} : wp (mr f) d Q ↔ wp f d (fun r d1 => Q (.inr r) d1) := by
  constructor
  · intro ⟨a, d', h, q⟩
    unfold mr at h
    split at h
    · cases h
    · next x hx => cases h; exact ⟨_, _, hx, q⟩
  · intro ⟨a, d', h, q⟩
    refine ⟨.inr a, d', ?_, q⟩
    unfold mr
    rw [h]
theorem wp_mono {f : MM α} {Q' : α → Dm → Prop} (h : wp f d Q) (hq : ∀ a d', Q a d' → Q' a d') : wp f d Q' := by
  obtain ⟨a, d', h1, h2⟩ := h
  exact ⟨a, d', h1, hq a d' h2⟩
theorem wp_eq {f : MM α} {a : α} {d' : Dm} (h : f d = some (a, d')) : wp f d Q ↔ Q a d' := ⟨fun ⟨_, _, h2, q⟩ => by rw [h] at h2; cases h2; exact q, fun q => ⟨_, _, h, q⟩⟩
theorem wp_get {f : MM α} {a : α} {d' : Dm} (h : wp f d (fun x y => x = a ∧ y = d')) : f d = some (a, d') := by
  obtain ⟨x, y, h1, rfl, rfl⟩ := h
  exact h1
theorem wp_ite {c : Prop} [Decidable c] {f g : MM α} : wp (if c then f else g) d Q ↔ (if c then wp f d Q else wp g d Q) := by
  by_cases h : c
  · rw [if_pos h, if_pos h]
  · rw [if_neg h, if_neg h]
theorem wp_if {c : Prop} [Decidable c] {f g : MM α} (h1 : c → wp f d Q) (h2 : ¬ c → wp g d Q) : wp (if c then f else g) d Q := by
  by_cases h : c
  · rw [if_pos h]; exact h1 h
  · rw [if_neg h]; exact h2 h
theorem wp_of {β : Type} {c : Prop} [Decidable c] {v : β} {d1 : Dm} {Q : β → Dm → Prop} : wp (fun _ => if c then some (v, d1) else none) d Q ↔ c ∧ Q v d1 := by
  constructor
  · intro ⟨a, d', h, q⟩
    obtain ⟨hc, he⟩ := some_if h
    cases he
    exact ⟨hc, q⟩
  · intro ⟨hc, q⟩
    exact ⟨_, _, if_pos hc, q⟩
end
section
variable {d : Dm} {Z : Zt} {c k a e : Nat} {i : Int32}
theorem wp_mz {r : Int32} {Q : Int32 → Dm → Prop} : wp (mz r) d Q ↔ (r = 0 ∨ r = 1) ∧ Q r d := wp_of (d := d) (d1 := d)
theorem wp_gI {Q : Int32 → Dm → Prop} : wp (gI Z c k a) d Q ↔ Z.2.1 a = c ∧ Q (d.1 a k) d := wp_of (d := d) (d1 := d)
theorem wp_gL {Q : Int64 → Dm → Prop} : wp (gL Z c k a) d Q ↔ Z.2.1 a = c ∧ Q (d.2.1 a k) d := wp_of (d := d) (d1 := d)
theorem wp_gR {Q : Nat → Dm → Prop} : wp (gR Z c k a) d Q ↔ Z.2.1 a = c ∧ Q (d.2.2 a k) d := wp_of (d := d) (d1 := d)
theorem wp_pI {x : Int32} {Q : Unit → Dm → Prop} : wp (pI Z c k a x) d Q ↔ Z.2.1 a = c ∧ Q () (u2 d.1 a k x, d.2) := wp_of (d := d) (d1 := (u2 d.1 a k x, d.2))
theorem wp_pZ {x : Int32} {Q : Unit → Dm → Prop} : wp (pZ Z c k a x) d Q ↔ (Z.2.1 a = c ∧ (x = 0 ∨ x = 1)) ∧ Q () (u2 d.1 a k x, d.2) := wp_of (d := d) (d1 := (u2 d.1 a k x, d.2))
theorem wp_pC {x : Int32} {Q : Unit → Dm → Prop} : wp (pC Z c k a x) d Q ↔ (Z.2.1 a = c ∧ (0 ≤ x ∧ x ≤ 65535)) ∧ Q () (u2 d.1 a k x, d.2) := wp_of (d := d) (d1 := (u2 d.1 a k x, d.2))
theorem wp_pL {x : Int64} {Q : Unit → Dm → Prop} : wp (pL Z c k a x) d Q ↔ Z.2.1 a = c ∧ Q () (d.1, u2 d.2.1 a k x, d.2.2) := wp_of (d := d) (d1 := (d.1, u2 d.2.1 a k x, d.2.2))
theorem wp_aI {Q : Int32 → Dm → Prop} : wp (aI Z c a i) d Q ↔ (Z.2.1 a = c ∧ ib i (Z.2.2 a)) ∧ Q (d.1 a i.toNatClampNeg) d := wp_of (d := d) (d1 := d)
theorem wp_aL {Q : Int64 → Dm → Prop} : wp (aL Z a i) d Q ↔ (Z.2.1 a = 24 ∧ ib i (Z.2.2 a)) ∧ Q (d.2.1 a i.toNatClampNeg) d := wp_of (d := d) (d1 := d)
theorem wp_aR {Q : Nat → Dm → Prop} : wp (aR Z c a i) d Q ↔ (Z.2.1 a = c ∧ ib i (Z.2.2 a)) ∧ Q (d.2.2 a i.toNatClampNeg) d := wp_of (d := d) (d1 := d)
theorem wp_sI {x : Int32} {Q : Unit → Dm → Prop} : wp (sI Z a i x) d Q ↔ (Z.2.1 a = 23 ∧ ib i (Z.2.2 a)) ∧ Q () (u2 d.1 a i.toNatClampNeg x, d.2) := wp_of (d := d) (d1 := (u2 d.1 a i.toNatClampNeg x, d.2))
theorem wp_sB {x : Int32} {Q : Unit → Dm → Prop} : wp (sB Z a i x) d Q ↔ (Z.2.1 a = 21 ∧ ib i (Z.2.2 a)) ∧ Q () (u2 d.1 a i.toNatClampNeg x.toInt8.toInt32, d.2) := wp_of (d := d) (d1 := (u2 d.1 a i.toNatClampNeg x.toInt8.toInt32, d.2))
theorem wp_sC {x : Int32} {Q : Unit → Dm → Prop} : wp (sC Z a i x) d Q ↔ (Z.2.1 a = 22 ∧ ib i (Z.2.2 a)) ∧ Q () (u2 d.1 a i.toNatClampNeg x.toUInt32.toUInt16.toUInt32.toInt32, d.2) := wp_of (d := d) (d1 := (u2 d.1 a i.toNatClampNeg x.toUInt32.toUInt16.toUInt32.toInt32, d.2))
theorem wp_sZ {x : Int32} {Q : Unit → Dm → Prop} : wp (sZ Z a i x) d Q ↔ ((Z.2.1 a = 25 ∧ ib i (Z.2.2 a)) ∧ (x = 0 ∨ x = 1)) ∧ Q () (u2 d.1 a i.toNatClampNeg x, d.2) := wp_of (d := d) (d1 := (u2 d.1 a i.toNatClampNeg x, d.2))
theorem wp_sL {x : Int64} {Q : Unit → Dm → Prop} : wp (sL Z a i x) d Q ↔ (Z.2.1 a = 24 ∧ ib i (Z.2.2 a)) ∧ Q () (d.1, u2 d.2.1 a i.toNatClampNeg x, d.2.2) := wp_of (d := d) (d1 := (d.1, u2 d.2.1 a i.toNatClampNeg x, d.2.2))
theorem wp_sR {x : Nat} {Q : Unit → Dm → Prop} : wp (sR Z c e a i x) d Q ↔ ((Z.2.1 a = c ∧ ib i (Z.2.2 a)) ∧ Z.2.1 x = e) ∧ Q () (d.1, d.2.1, u2 d.2.2 a i.toNatClampNeg x) := wp_of (d := d) (d1 := (d.1, d.2.1, u2 d.2.2 a i.toNatClampNeg x))
theorem wp_al {Q : Int32 → Dm → Prop} : wp (al Z c a) d Q ↔ Z.2.1 a = c ∧ Q (Int32.ofNat (Z.2.2 a)) d := wp_of (d := d) (d1 := d)
theorem wp_vc {α : Type} {f : MM α} {Q : α → Dm → Prop} : wp (vc Z c a f) d Q ↔ Z.2.1 a = c ∧ wp f d Q := by
  unfold vc
  by_cases h : Z.2.1 a = c
  · constructor
    · intro ⟨x, y, h1, h2⟩
      dsimp only at h1
      rw [if_pos h] at h1
      exact ⟨h, x, y, h1, h2⟩
    · intro ⟨_, x, y, h1, h2⟩
      exact ⟨x, y, by dsimp only; rw [if_pos h]; exact h1, h2⟩
  · constructor
    · intro ⟨x, y, h1, h2⟩
      dsimp only at h1
      rw [if_neg h] at h1
      cases h1
    · intro q
      exact absurd q.1 h
theorem wp_ac {b : Nat} {j n : Int32} {Q : Unit → Dm → Prop} : wp (ac Z a i b j n) d Q ↔ ((Z.2.1 a = 23 ∧ Z.2.1 b = 23) ∧ (0 ≤ i ∧ 0 ≤ j ∧ 0 ≤ n) ∧ i.toNatClampNeg + n.toNatClampNeg ≤ Z.2.2 a ∧ j.toNatClampNeg + n.toNatClampNeg ≤ Z.2.2 b ∧ a ≠ b) ∧ Q () (cpF d.1 a b i.toNatClampNeg j.toNatClampNeg n.toNatClampNeg, d.2) := wp_of (d := d) (d1 := (cpF d.1 a b i.toNatClampNeg j.toNatClampNeg n.toNatClampNeg, d.2))
theorem wp_xl {xs : Nat → Int32} {n : Nat} {Q : Int32 → Dm → Prop} : wp (xl xs n i) d Q ↔ ib i n ∧ Q (xs i.toNatClampNeg) d := wp_of (d := d) (d1 := d)
end
section
variable {α β : Type} {b : α → MM (α ⊕ β)} {Q : β → Dm → Prop}
/-- a loop by an invariant whose count falls -/
theorem wp_lo (I : Nat → α → Dm → Prop) (hs : ∀ m a d, I m a d → wp (b a) d (fun r d' => match r with
    | .inl a' => ∃ m', m' < m ∧ I m' a' d'
    | .inr r => Q r d')) : ∀ {m : Nat} {a : α} {d : Dm}, I m a d → wp (lo b a) d Q := by
  intro m
  induction m using Nat.strongRecOn with
  | _ m ih =>
    intro a d h
    obtain ⟨r, d', h1, h2⟩ := hs m a d h
    cases r with
    | inl a' =>
      obtain ⟨m', hm, hI⟩ := h2
      obtain ⟨x, y, h3, h4⟩ := ih m' hm hI
      exact ⟨x, y, by rw [lo_eq, h1]; exact h3, h4⟩
    | inr r => exact ⟨r, d', by rw [lo_eq, h1], h2⟩
/-- a loop by an invariant that counts up to n -/
theorem wp_up (I : Nat → α → Dm → Prop) (n : Nat) (hs : ∀ i a d, i ≤ n → I i a d → wp (b a) d (fun r d' => match r with
    | .inl a' => i < n ∧ I (i + 1) a' d'
    | .inr r => Q r d')) {i : Nat} {a : α} {d : Dm} (hi : i ≤ n) (h : I i a d) : wp (lo b a) d Q := by
  refine wp_lo (fun m a d => ∃ i, i + m = n ∧ I i a d) (fun m a d ⟨i, he, hI⟩ => ?_) ⟨i, (by omega : i + (n - i) = n), h⟩
  refine wp_mono (hs i a d (by omega) hI) (fun r d' h => ?_)
  cases r with
  | inl a' => exact ⟨m - 1, by have := h.1; omega, i + 1, by have := h.1; omega, h.2⟩
  | inr r => exact h
/-- one round of a loop -/
theorem wp_lo1 {a : α} {d : Dm} (h : wp (b a) d (fun r d' => match r with
    | .inl a' => wp (lo b a') d' Q
    | .inr r => Q r d')) : wp (lo b a) d Q := by
  obtain ⟨r, d', h1, h2⟩ := h
  cases r with
  | inl a' =>
    obtain ⟨x, y, h3, h4⟩ := h2
    exact ⟨x, y, by rw [lo_eq, h1]; exact h3, h4⟩
  | inr r => exact ⟨r, d', by rw [lo_eq, h1], h2⟩
end
/-! the static shape, by rows -/
theorem zk : ZF.2.1 1 = 11 ∧ ZF.2.1 2 = 10 ∧ ZF.2.1 3 = 6 ∧ ZF.2.1 4 = 26 ∧ ZF.2.1 5 = 1 ∧ ZF.2.1 6 = 1 ∧ ZF.2.1 7 = 1 ∧ ZF.2.1 8 = 1 ∧ ZF.2.1 9 = 1 ∧ ZF.2.1 10 = 1 ∧ ZF.2.1 11 = 1 ∧ ZF.2.1 12 = 1 ∧ ZF.2.1 13 = 1 ∧ ZF.2.1 14 = 1 ∧ ZF.2.1 15 = 1 ∧ ZF.2.1 16 = 1 ∧ ZF.2.1 17 = 8 ∧ ZF.2.1 18 = 27 ∧ ZF.2.1 19 = 23 ∧ ZF.2.1 20 = 9 ∧ ZF.2.1 21 = 23 ∧ ZF.2.1 22 = 9 ∧ ZF.2.1 23 = 23 ∧ ZF.2.1 24 = 9 ∧ ZF.2.1 25 = 23 ∧ ZF.2.1 26 = 9 ∧ ZF.2.1 27 = 23 ∧ ZF.2.1 28 = 9 ∧ ZF.2.1 29 = 23 ∧ ZF.2.1 30 = 9 ∧ ZF.2.1 31 = 23 ∧ ZF.2.1 32 = 3 ∧ ZF.2.1 33 = 27 ∧ ZF.2.1 34 = 23 ∧ ZF.2.1 35 = 9 ∧ ZF.2.1 36 = 23 ∧ ZF.2.1 37 = 9 ∧ ZF.2.1 38 = 23 ∧ ZF.2.1 39 = 9 ∧ ZF.2.1 40 = 23 ∧ ZF.2.1 41 = 9 ∧ ZF.2.1 42 = 23 ∧ ZF.2.1 43 = 9 ∧ ZF.2.1 44 = 23 ∧ ZF.2.1 45 = 9 ∧ ZF.2.1 46 = 23 ∧ ZF.2.1 47 = 9 ∧ ZF.2.1 48 = 23 ∧ ZF.2.1 49 = 9 ∧ ZF.2.1 50 = 23 ∧ ZF.2.1 51 = 23 ∧ ZF.2.1 52 = 4 ∧ ZF.2.1 53 = 22 ∧ ZF.2.1 54 = 7 ∧ ZF.2.1 55 = 9 ∧ ZF.2.1 56 = 23 ∧ ZF.2.1 57 = 22 ∧ ZF.2.1 58 = 2 ∧ ZF.2.1 59 = 24 ∧ ZF.2.1 60 = 23 ∧ ZF.2.1 61 = 5 ∧ ZF.2.1 62 = 23 ∧ ZF.2.1 63 = 23 ∧ ZF.2.1 64 = 23 ∧ ZF.2.1 65 = 12 ∧ ZF.2.1 66 = 23 ∧ ZF.2.1 67 = 23 ∧ ZF.2.1 68 = 23 ∧ ZF.2.1 69 = 21 ∧ ZF.2.1 70 = 21 ∧ ZF.2.1 71 = 23 ∧ ZF.2.1 72 = 25 ∧ ZF.2.1 73 = 21 ∧ ZF.2.1 74 = 23 ∧ ZF.2.1 75 = 23 ∧ ZF.2.1 76 = 25 ∧ ZF.2.1 77 = 25 ∧ ZF.2.1 78 = 25 ∧ ZF.2.1 79 = 24 ∧ ZF.2.1 80 = 24 ∧ ZF.2.1 81 = 23 ∧ ZF.2.1 82 = 23 ∧ ZF.2.1 83 = 25 ∧ ZF.2.1 84 = 23 ∧ ZF.2.1 85 = 23 ∧ ZF.2.1 86 = 23 ∧ ZF.2.1 87 = 23 ∧ ZF.2.1 88 = 23 := ⟨rfl, rfl, rfl, rfl, rfl, rfl, rfl, rfl, rfl, rfl, rfl, rfl, rfl, rfl, rfl, rfl, rfl, rfl, rfl, rfl, rfl, rfl, rfl, rfl, rfl, rfl, rfl, rfl, rfl, rfl, rfl, rfl, rfl, rfl, rfl, rfl, rfl, rfl, rfl, rfl, rfl, rfl, rfl, rfl, rfl, rfl, rfl, rfl, rfl, rfl, rfl, rfl, rfl, rfl, rfl, rfl, rfl, rfl, rfl, rfl, rfl, rfl, rfl, rfl, rfl, rfl, rfl, rfl, rfl, rfl, rfl, rfl, rfl, rfl, rfl, rfl, rfl, rfl, rfl, rfl, rfl, rfl, rfl, rfl, rfl, rfl, rfl, rfl⟩
theorem zl : ZF.2.2 4 = 12 ∧ ZF.2.2 18 = 6 ∧ ZF.2.2 19 = 8 ∧ ZF.2.2 21 = 60 ∧ ZF.2.2 23 = 60 ∧ ZF.2.2 25 = 60 ∧ ZF.2.2 27 = 60 ∧ ZF.2.2 29 = 60 ∧ ZF.2.2 31 = 60 ∧ ZF.2.2 33 = 8 ∧ ZF.2.2 34 = 8 ∧ ZF.2.2 36 = 60 ∧ ZF.2.2 38 = 60 ∧ ZF.2.2 40 = 60 ∧ ZF.2.2 42 = 60 ∧ ZF.2.2 44 = 60 ∧ ZF.2.2 46 = 60 ∧ ZF.2.2 48 = 60 ∧ ZF.2.2 50 = 60 ∧ ZF.2.2 51 = 4096 ∧ ZF.2.2 53 = 60 ∧ ZF.2.2 56 = 60 ∧ ZF.2.2 57 = 60 ∧ ZF.2.2 59 = 4096 ∧ ZF.2.2 60 = 4096 ∧ ZF.2.2 62 = 81 ∧ ZF.2.2 63 = 8 ∧ ZF.2.2 64 = 8 ∧ ZF.2.2 66 = 8 ∧ ZF.2.2 67 = 12 ∧ ZF.2.2 68 = 48 ∧ ZF.2.2 69 = 60 ∧ ZF.2.2 70 = 360 ∧ ZF.2.2 71 = 6 ∧ ZF.2.2 72 = 6 ∧ ZF.2.2 73 = 480 ∧ ZF.2.2 74 = 8 ∧ ZF.2.2 75 = 8 ∧ ZF.2.2 76 = 61 ∧ ZF.2.2 77 = 61 ∧ ZF.2.2 78 = 61 ∧ ZF.2.2 79 = 4096 ∧ ZF.2.2 80 = 4096 ∧ ZF.2.2 81 = 4096 ∧ ZF.2.2 82 = 4096 ∧ ZF.2.2 83 = 4096 ∧ ZF.2.2 84 = 12 ∧ ZF.2.2 85 = 12 ∧ ZF.2.2 86 = 26 ∧ ZF.2.2 87 = 8192 ∧ ZF.2.2 88 = 8192 := ⟨rfl, rfl, rfl, rfl, rfl, rfl, rfl, rfl, rfl, rfl, rfl, rfl, rfl, rfl, rfl, rfl, rfl, rfl, rfl, rfl, rfl, rfl, rfl, rfl, rfl, rfl, rfl, rfl, rfl, rfl, rfl, rfl, rfl, rfl, rfl, rfl, rfl, rfl, rfl, rfl, rfl, rfl, rfl, rfl, rfl, rfl, rfl, rfl, rfl, rfl, rfl⟩
