/-! ===== pure: all sets of some writes, one behind the other ===== -/
theorem land_bit (a b : Nat) {u v : Nat} (hu : u < 2) (hv : v < 2) : (2 * a + u) &&& (2 * b + v) = 2 * (a &&& b) + u * v := by
  have hm : u * v < 2 := by
    rcases (show u = 0 ∨ u = 1 by omega) with rfl | rfl <;> omega
  apply Nat.eq_of_testBit_eq
  intro i
  rw [Nat.testBit_and]
  cases i with
  | zero =>
    rw [Nat.testBit_zero, Nat.testBit_zero, Nat.testBit_zero]
    rcases (show u = 0 ∨ u = 1 by omega) with rfl | rfl <;> rcases (show v = 0 ∨ v = 1 by omega) with rfl | rfl <;> simp <;> omega
  | succ i =>
    rw [Nat.testBit_succ, Nat.testBit_succ, Nat.testBit_succ, show (2 * a + u) / 2 = a by omega, show (2 * b + v) / 2 = b by omega, show (2 * (a &&& b) + u * v) / 2 = a &&& b by omega, Nat.testBit_and]
def pcn : Nat → Nat → Nat
  | _, 0 => 0
  | F, k + 1 => F % 2 + pcn (F / 2) k
def dep : Nat → Nat → Nat → Nat
  | 0, _, _ => 0
  | k + 1, F, m => if F % 2 = 1 then m % 2 + 2 * dep k (F / 2) (m / 2) else 2 * dep k (F / 2) m
theorem half (F : Nat) : F = 2 * (F / 2) + F % 2 := by omega
theorem dep_and : ∀ (k F m : Nat), dep k F m &&& F = dep k F m
  | 0, F, m => by simp [dep]
  | k + 1, F, m => by
    have ih := dep_and k (F / 2)
    simp only [dep]
    by_cases h : F % 2 = 1
    · rw [if_pos h]
      have e := land_bit (dep k (F / 2) (m / 2)) (F / 2) (u := m % 2) (v := F % 2) (Nat.mod_lt _ (by omega)) (Nat.mod_lt _ (by omega))
      rw [← half F, h, ih, Nat.mul_one] at e
      rw [Nat.add_comm (m % 2)]
      exact e
    · rw [if_neg h]
      have h0 : F % 2 = 0 := by omega
      have e := land_bit (dep k (F / 2) m) (F / 2) (u := 0) (v := F % 2) (by omega) (Nat.mod_lt _ (by omega))
      rw [← half F, ih, Nat.zero_mul, Nat.add_zero] at e
      exact e
theorem dep_cpl : ∀ (k j F m : Nat), F < 2 ^ k → k ≤ j → (dep k F m + (2 ^ j - 1 - F)) &&& F = dep k F m
  | 0, j, F, m, hF, hj => by
    have : F = 0 := by simpa using hF
    subst this
    simp [dep]
  | k + 1, j, F, m, hF, hj => by
    obtain ⟨j, rfl⟩ : ∃ i, j = i + 1 := ⟨j - 1, by omega⟩
    have hF' : F / 2 < 2 ^ k := by rw [Nat.pow_succ] at hF; omega
    have hjk : 2 ^ k ≤ 2 ^ j := Nat.pow_le_pow_right (by omega) (by omega)
    simp only [dep]
    by_cases h : F % 2 = 1
    · rw [if_pos h]
      have ih := dep_cpl k j (F / 2) (m / 2) hF' (by omega)
      have e := land_bit (dep k (F / 2) (m / 2) + (2 ^ j - 1 - F / 2)) (F / 2) (u := m % 2) (v := F % 2) (Nat.mod_lt _ (by omega)) (Nat.mod_lt _ (by omega))
      rw [← half F, h, ih, Nat.mul_one] at e
      rw [show m % 2 + 2 * dep k (F / 2) (m / 2) + (2 ^ (j + 1) - 1 - F) = 2 * (dep k (F / 2) (m / 2) + (2 ^ j - 1 - F / 2)) + m % 2 by rw [Nat.pow_succ]; omega, e]
      omega
    · rw [if_neg h]
      have ih := dep_cpl k j (F / 2) m hF' (by omega)
      have e := land_bit (dep k (F / 2) m + (2 ^ j - 1 - F / 2)) (F / 2) (u := 1) (v := F % 2) (by omega) (Nat.mod_lt _ (by omega))
      rw [← half F, ih] at e
      rw [show 2 * dep k (F / 2) m + (2 ^ (j + 1) - 1 - F) = 2 * (dep k (F / 2) m + (2 ^ j - 1 - F / 2)) + 1 by rw [Nat.pow_succ]; omega, e]
      omega
theorem dep_nxt : ∀ (k j F m : Nat), F < 2 ^ k → k ≤ j → (dep k F m + (2 ^ j - F)) &&& F = dep k F (m + 1)
  | 0, j, F, m, hF, hj => by
    have : F = 0 := by simpa using hF
    subst this
    simp [dep]
  | k + 1, j, F, m, hF, hj => by
    obtain ⟨j, rfl⟩ : ∃ i, j = i + 1 := ⟨j - 1, by omega⟩
    have hF' : F / 2 < 2 ^ k := by rw [Nat.pow_succ] at hF; omega
    have hjk : 2 ^ k ≤ 2 ^ j := Nat.pow_le_pow_right (by omega) (by omega)
    simp only [dep]
    by_cases h : F % 2 = 1
    · rw [if_pos h, if_pos h]
      by_cases hm : m % 2 = 0
      · have ih := dep_cpl k j (F / 2) (m / 2) hF' (by omega)
        have e := land_bit (dep k (F / 2) (m / 2) + (2 ^ j - 1 - F / 2)) (F / 2) (u := 1) (v := F % 2) (by omega) (Nat.mod_lt _ (by omega))
        rw [← half F, h, ih] at e
        rw [show m % 2 + 2 * dep k (F / 2) (m / 2) + (2 ^ (j + 1) - F) = 2 * (dep k (F / 2) (m / 2) + (2 ^ j - 1 - F / 2)) + 1 by rw [Nat.pow_succ]; omega, e, show (m + 1) / 2 = m / 2 by omega]
        omega
      · have ih := dep_nxt k j (F / 2) (m / 2) hF' (by omega)
        have e := land_bit (dep k (F / 2) (m / 2) + (2 ^ j - F / 2)) (F / 2) (u := 0) (v := F % 2) (by omega) (Nat.mod_lt _ (by omega))
        rw [← half F, h, ih] at e
        rw [show m % 2 + 2 * dep k (F / 2) (m / 2) + (2 ^ (j + 1) - F) = 2 * (dep k (F / 2) (m / 2) + (2 ^ j - F / 2)) + 0 by rw [Nat.pow_succ]; omega, e, show (m + 1) / 2 = m / 2 + 1 by omega]
        omega
    · rw [if_neg h, if_neg h]
      have ih := dep_nxt k j (F / 2) m hF' (by omega)
      have e := land_bit (dep k (F / 2) m + (2 ^ j - F / 2)) (F / 2) (u := 0) (v := F % 2) (by omega) (Nat.mod_lt _ (by omega))
      rw [← half F, ih] at e
      rw [show 2 * dep k (F / 2) m + (2 ^ (j + 1) - F) = 2 * (dep k (F / 2) m + (2 ^ j - F / 2)) + 0 by rw [Nat.pow_succ]; omega, e]
      omega
theorem dep_prv : ∀ (k F m : Nat), 0 < dep k F (m + 1) → (dep k F (m + 1) - 1) &&& F = dep k F m
  | 0, F, m, h => by simp [dep] at h
  | k + 1, F, m, h => by
    simp only [dep] at h ⊢
    by_cases hF : F % 2 = 1
    · rw [if_pos hF] at h
      rw [if_pos hF, if_pos hF]
      by_cases hm : m % 2 = 0
      · have e := land_bit (dep k (F / 2) ((m + 1) / 2)) (F / 2) (u := 0) (v := F % 2) (by omega) (Nat.mod_lt _ (by omega))
        rw [← half F, hF, dep_and] at e
        rw [show (m + 1) % 2 + 2 * dep k (F / 2) ((m + 1) / 2) - 1 = 2 * dep k (F / 2) ((m + 1) / 2) + 0 by omega, e, show (m + 1) / 2 = m / 2 by omega]
        omega
      · rw [show (m + 1) / 2 = m / 2 + 1 by omega] at h ⊢
        have ih := dep_prv k (F / 2) (m / 2) (by omega)
        have e := land_bit (dep k (F / 2) (m / 2 + 1) - 1) (F / 2) (u := 1) (v := F % 2) (by omega) (Nat.mod_lt _ (by omega))
        rw [← half F, hF, ih] at e
        rw [show (m + 1) % 2 + 2 * dep k (F / 2) (m / 2 + 1) - 1 = 2 * (dep k (F / 2) (m / 2 + 1) - 1) + 1 by omega, e]
        omega
    · rw [if_neg hF] at h
      rw [if_neg hF, if_neg hF]
      have ih := dep_prv k (F / 2) m (by omega)
      have e := land_bit (dep k (F / 2) (m + 1) - 1) (F / 2) (u := 1) (v := F % 2) (by omega) (Nat.mod_lt _ (by omega))
      rw [← half F, ih] at e
      rw [show 2 * dep k (F / 2) (m + 1) - 1 = 2 * (dep k (F / 2) (m + 1) - 1) + 1 by omega, e]
      omega
theorem dep_0 : ∀ (k F : Nat), dep k F 0 = 0
  | 0, _ => rfl
  | k + 1, F => by simp [dep, dep_0 k]
theorem dep_pos : ∀ (k F m : Nat), 0 < m → m < 2 ^ pcn F k → 0 < dep k F m
  | 0, F, m, h, h2 => by simp [pcn] at h2; omega
  | k + 1, F, m, h, h2 => by
    simp only [pcn] at h2
    simp only [dep]
    by_cases hF : F % 2 = 1
    · rw [if_pos hF]
      rw [hF, Nat.pow_add] at h2
      by_cases hm : m % 2 = 1
      · omega
      · have := dep_pos k (F / 2) (m / 2) (by omega) (by omega)
        omega
    · rw [if_neg hF]
      rw [show F % 2 = 0 by omega, Nat.zero_add] at h2
      have := dep_pos k (F / 2) m h h2
      omega
theorem dep_onto : ∀ (k F T : Nat), F < 2 ^ k → T &&& F = T → ∃ m, m < 2 ^ pcn F k ∧ dep k F m = T
  | 0, F, T, hF, hT => by
    have : F = 0 := by simpa using hF
    subst this
    exact ⟨0, by simp [pcn], by simpa [dep] using hT⟩
  | k + 1, F, T, hF, hT => by
    have hF' : F / 2 < 2 ^ k := by rw [Nat.pow_succ] at hF; omega
    have e := land_bit (T / 2) (F / 2) (u := T % 2) (v := F % 2) (Nat.mod_lt _ (by omega)) (Nat.mod_lt _ (by omega))
    rw [← half F, ← half T, hT] at e
    have hu : T % 2 * (F % 2) < 2 := by
      rcases (show T % 2 = 0 ∨ T % 2 = 1 by omega) with h | h <;> rw [h] <;> omega
    obtain ⟨m, hm, hd⟩ := dep_onto k (F / 2) (T / 2) hF' (by omega)
    by_cases h : F % 2 = 1
    · refine ⟨2 * m + T % 2, ?_, ?_⟩
      · simp only [pcn]
        rw [h, Nat.pow_add]
        omega
      · simp only [dep]
        rw [if_pos h, show (2 * m + T % 2) / 2 = m by omega, hd]
        omega
    · refine ⟨m, ?_, ?_⟩
      · simp only [pcn]
        rw [show F % 2 = 0 by omega, Nat.zero_add]
        exact hm
      · simp only [dep]
        rw [if_neg h, hd]
        rw [show F % 2 = 0 by omega, Nat.mul_zero] at e
        omega
theorem dep_top : ∀ (k F : Nat), F < 2 ^ k → dep k F (2 ^ pcn F k - 1) = F
  | 0, F, hF => by
    have : F = 0 := by simpa using hF
    subst this
    rfl
  | k + 1, F, hF => by
    have hF' : F / 2 < 2 ^ k := by rw [Nat.pow_succ] at hF; omega
    have ih := dep_top k (F / 2) hF'
    have hp : 0 < 2 ^ pcn (F / 2) k := Nat.two_pow_pos _
    simp only [dep, pcn]
    by_cases h : F % 2 = 1
    · rw [if_pos h, h, Nat.pow_add, show (2 ^ 1 * 2 ^ pcn (F / 2) k - 1) / 2 = 2 ^ pcn (F / 2) k - 1 by omega, ih]
      omega
    · rw [if_neg h, show F % 2 = 0 by omega, Nat.zero_add, ih]
      omega
theorem pcn_le : ∀ (k F : Nat), pcn F k ≤ k
  | 0, _ => Nat.le_refl _
  | k + 1, F => by
    have := pcn_le k (F / 2)
    simp only [pcn]
    omega
theorem nx_dep {F m : Nat} (hF : F < 4096) {d : Dm} : Main_nextSet (nI (dep 12 F m)) (nI F) d = some (nI (dep 12 F (m + 1)), d) := by
  have h := dep_nxt 12 32 F m hF (by omega)
  unfold Main_nextSet
  have e : nI (dep 12 F m) - nI F = nI (dep 12 F m + (2 ^ 32 - F)) := by
    rw [← nI_add]
    have : nI (2 ^ 32 - F) = -nI F := by
      apply Int32.toBitVec_inj.mp
      show BitVec.ofNat 32 (2 ^ 32 - F) = -(BitVec.ofNat 32 F)
      apply BitVec.eq_of_toNat_eq
      rw [BitVec.toNat_neg, BitVec.toNat_ofNat, BitVec.toNat_ofNat, Nat.mod_eq_of_lt (show F < 2 ^ 32 by omega)]
    rw [this, Int32.sub_eq_add_neg]
  rw [e, fa_and, h]
  rfl
def bcE (F : Nat) : Int32 :=
  let x1 := nI F - ((((nI F).toUInt32 >>> (((1 : Int32)).toUInt32 &&& Int32.toUInt32 31)).toInt32) &&& (1431655765 : Int32))
  let x2 := (x1 &&& (858993459 : Int32)) + ((((x1).toUInt32 >>> (((2 : Int32)).toUInt32 &&& Int32.toUInt32 31)).toInt32) &&& (858993459 : Int32))
  let x3 := (x2 + (((x2).toUInt32 >>> (((4 : Int32)).toUInt32 &&& Int32.toUInt32 31)).toInt32)) &&& (252645135 : Int32)
  let x4 := x3 + (((x3).toUInt32 >>> (((8 : Int32)).toUInt32 &&& Int32.toUInt32 31)).toInt32)
  let x5 := x4 + (((x4).toUInt32 >>> (((16 : Int32)).toUInt32 &&& Int32.toUInt32 31)).toInt32)
  x5 &&& (63 : Int32)
theorem bc_all2 : ∀ a, a < 64 → ∀ b, b < 64 → bcE (64 * a + b) = nI (pcn (64 * a + b) 12) := by decide +kernel
theorem bc_all (F : Nat) (h : F < 4096) : bcE F = nI (pcn F 12) := by
  have := bc_all2 (F / 64) (by omega) (F % 64) (by omega)
  rw [show 64 * (F / 64) + F % 64 = F by omega] at this
  exact this
theorem bc_eq {F : Nat} (hF : F < 4096) {d : Dm} : JInt_bitCount (nI F) d = some (nI (pcn F 12), d) := by
  have h := bc_all F hF
  unfold JInt_bitCount ml mp
  exact congrArg (fun x => some (x, d)) h
theorem sub_and {S T : Nat} : sub S T ↔ S &&& T = S := by
  constructor
  · intro h
    apply Nat.eq_of_testBit_eq
    intro i
    rw [Nat.testBit_and]
    cases hs : S.testBit i with
    | false => rfl
    | true => rw [h i hs]; rfl
  · intro h i hi
    rw [← h, Nat.testBit_and] at hi
    simp at hi
    exact hi.2
