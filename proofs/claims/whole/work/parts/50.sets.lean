/-! ===== pure: always, bare, costs ===== -/
section
variable {r n ns st A : Nat} {ac : Nat → Ac} {f : Pl} {ev : Nat → Pl → Bool} {sv : Nat → Pl → Pl} {d : Dm}
theorem CX.keep {d' : Dm} (h : CX r n ac f ev sv ns st A d) (h1 : ∀ x, (2 ≤ x ∧ x ≤ 51) ∨ (58 ≤ x ∧ x ≤ 60) → d'.1 x = d.1 x) (h2 : d'.2 = d.2) : CX r n ac f ev sv ns st A d' := by
  refine ⟨⟨h.1.1.congr (fun x hx => h1 x (by omega)) (by rw [h2]) (by rw [h2]), h.1.2.1.congr (fun x hx => h1 x (by omega)), h.1.2.2.1.congr (fun x hx => h1 x (by omega)), h.1.2.2.2.congr (h1 2 (by omega)) (h1 51 (by omega))⟩, ⟨by rw [h1 17 (by omega)]; exact h.2.1.1, h.2.1.2⟩, ?_⟩
  have hF := h.2.2
  unfold cFi at hF ⊢
  rw [h1 58 (by omega)]
  exact hF.imp id (fun ⟨k, a, b, s, E, c, e⟩ => ⟨k, a, b, s, E, c.mov (by rw [h1 58 (by omega)]) (by rw [h2]) (h1 60 (by omega)), e⟩)
theorem CX.alw (h : CX r n ac f ev sv ns st A d) {B : Nat} (hB : B < 64) : CX r n ac f ev sv ns st B (u2 d.1 17 2 (nI B), d.2) := by
  have hne : ∀ x, x ≠ 17 → u2 d.1 17 2 (nI B) x = d.1 x := fun x hx => u2_row _ hx _ _
  refine ⟨⟨h.1.1.congr (fun x hx => hne x (by omega)) rfl rfl, ⟨h.1.2.1.1, (u2_k d.1 17 17 (show 1 ≠ 2 by omega) (nI B)).trans h.1.2.1.2.1, fun j hj => ?_⟩, h.1.2.2.1.congr (fun x hx => hne x (by omega)), h.1.2.2.2.congr (hne 2 (by omega)) (hne 51 (by omega))⟩, ⟨u2_s d.1 17 2 (nI B), hB⟩, ?_⟩
  · have hr := h.1.2.1.1
    obtain ⟨R, a, b, c⟩ := h.1.2.1.2.2 j hj
    exact ⟨R, a, (congrFun (hne (20 + 2 * j) (by omega)) 2).trans b, fun p hp => by
      have := c p hp
      rw [← hne (21 + 2 * j) (by omega)] at this
      exact this⟩
  · have hF := h.2.2
    unfold cFi at hF ⊢
    rw [show (u2 d.1 17 2 (nI B), d.2).1 58 = d.1 58 from hne 58 (by omega)]
    exact hF.imp id (fun ⟨k, a, b, s, E, c, e⟩ => ⟨k, a, b, s, E, c.mov (congrFun (hne 58 (by omega)) 2) rfl (hne 60 (by omega)), e⟩)
theorem always_eq (h : CX r n ac f ev sv ns st A d) (x y : Int32) : wp (Main_always 1 x y) d (fun z d' => (¬ (0 ≤ x ∧ x < nI r) ∧ z = -101 ∧ d' = d) ∨ ∃ j, j < r ∧ x = nI j ∧ z = nI (if A.testBit j then 1 else 0) ∧ frY d d' ∧ CX r n ac f ev sv ns st (if y = 0 then A ^^^ (A &&& 2 ^ j) else A ||| 2 ^ j) d') := by
  have hR := h.1.1.2.2.2.2
  have hr := h.1.2.1.1
  have hA := h.2.1.2
  unfold Main_always
  simp only [wp_mb, wp_gR, wp_vc, zk, zl, true_and, hR.1, wp_eq (has_r h.1.2.1 x)]
  rcases ix_cases x (n := r) (by omega) with hx | ⟨j, hj, hx⟩
  · simp only [if_neg hx, if_true, wp_mp]
    exact Or.inl ⟨hx, trivial, trivial⟩
  · subst hx
    have h2j : 2 ^ j < 2 ^ 6 := Nat.pow_lt_pow_right (by omega) (by omega)
    have hfr : ∀ B, frY d (u2 d.1 17 2 (nI B), d.2) := fun B x hx => ⟨u2_row _ (show x ≠ 17 by omega) _ _, rfl, rfl⟩
    unfold Main_always_61
    simp only [if_pos (nI_has hj (show r < 2 ^ 31 by omega)), if_neg (show ¬ (1 : Int32) = 0 by decide), wp_mb, wp_ml, wp_gR, wp_gI, zk, zl, true_and, hR.1, h.2.1.1]
    refine wp_if (fun hy => ?_) (fun hy => ?_)
    · simp only [wp_mb, wp_gR, wp_gI, wp_pI, wp_mp, zk, zl, true_and, hR.1, h.2.1.1, sh1 (show j < 31 by omega), andn, bit_eq (show A < 2 ^ 31 by omega) (show j < 31 by omega)]
      refine Or.inr ⟨j, hj, rfl, rfl, hfr _, ?_⟩
      rw [if_pos hy]
      exact h.alw (Nat.xor_lt_two_pow (n := 6) hA (Nat.lt_of_le_of_lt Nat.and_le_left hA))
    · simp only [wp_mb, wp_gR, wp_gI, wp_pI, wp_mp, zk, zl, true_and, hR.1, h.2.1.1, sh1 (show j < 31 by omega), fa_or, bit_eq (show A < 2 ^ 31 by omega) (show j < 31 by omega)]
      refine Or.inr ⟨j, hj, rfl, rfl, hfr _, ?_⟩
      rw [if_neg hy]
      exact h.alw (Nat.or_lt_two_pow (n := 6) hA h2j)
theorem bare_eq (h : CX r n ac f ev sv ns st A d) (hst : st < 100000) : wp (Main_bare 1) d (fun z d' => z = nI ns ∧ frY d d' ∧ CX r n ac f ev sv 0 (st + 1) A d') := by
  have hR := h.1.1.2.2.2.2
  unfold Main_bare Verd_forget
  simp only [wp_mb, wp_gR, wp_gI, wp_pI, wp_vc, wp_mp, zk, zl, true_and, hR.1, h.1.2.2.1.2.1]
  have e2 : u2 d.1 32 1 (0 : Int32) 2 4 = nI st := (congrFun (u2_row d.1 (show 2 ≠ 32 by omega) 1 (0 : Int32)) 4).trans h.1.2.2.2.2.2.1
  rw [e2]
  have hne : ∀ x, x ≠ 32 → x ≠ 2 → u2 (u2 d.1 32 1 (0 : Int32)) 2 4 (nI st + 1) x = d.1 x := fun x a b => (u2_row _ b _ _).trans (u2_row _ a _ _)
  refine ⟨fun x hx => ⟨hne x (by omega) (by omega), rfl, rfl⟩, ⟨h.1.1.congr (fun x hx => hne x (by omega) (by omega)) rfl rfl, h.1.2.1.congr (fun x hx => hne x (by omega) (by omega)), ⟨by omega, ?_, fun j hj => by omega⟩, h.1.2.2.2.forget hst ?_ (hne 51 (by omega) (by omega))⟩, ⟨?_, h.2.1.2⟩, ?_⟩
  · exact (congrFun (u2_row (u2 d.1 32 1 (0 : Int32)) (show 32 ≠ 2 by omega) 4 (nI st + 1)) 1).trans (u2_s d.1 32 1 (0 : Int32))
  · exact (u2_s (u2 d.1 32 1 (0 : Int32)) 2 4 (nI st + 1)).trans (nI_add st 1)
  · exact (congrFun (hne 17 (by omega) (by omega)) 2).trans h.2.1.1
  · have hF := h.2.2
    unfold cFi at hF ⊢
    rw [show (u2 (u2 d.1 32 1 (0 : Int32)) 2 4 (nI st + 1), d.2).1 58 = d.1 58 from hne 58 (by omega) (by omega)]
    exact hF.imp id (fun ⟨k, a, b, s, E, c, e⟩ => ⟨k, a, b, s, E, c.mov (congrFun (hne 58 (by omega) (by omega)) 2) rfl (hne 60 (by omega) (by omega)), e⟩)
/-- the costs -/
def CK (bc fc : Int32) (d : Dm) : Prop := d.1 1 8 = bc ∧ d.1 1 9 = fc
theorem cost_eq (h : CX r n ac f ev sv ns st A d) {bc fc : Int32} (hc : CK bc fc d) (x y : Int32) : wp (Main_cost 1 x y) d (fun z d' => ((x ≠ 0 ∧ x ≠ 1) ∧ z = -101 ∧ d' = d) ∨ ((x = 0 ∨ x = 1) ∧ ((¬ (1 ≤ y ∧ y ≤ (if x = 0 then 9 else 99)) ∧ z = -102 ∧ d' = d) ∨ ((1 ≤ y ∧ y ≤ (if x = 0 then 9 else 99)) ∧ z = (if x = 0 then bc else fc) ∧ CX r n ac f ev sv ns st A d' ∧ d' = (u2 d.1 1 (if x = 0 then 8 else 9) y, d.2))))) := by
  have go : (x = 0 ∨ x = 1) → wp (Main_cost_12 1 x y) d (fun z d' => ((x ≠ 0 ∧ x ≠ 1) ∧ z = -101 ∧ d' = d) ∨ ((x = 0 ∨ x = 1) ∧ ((¬ (1 ≤ y ∧ y ≤ (if x = 0 then 9 else 99)) ∧ z = -102 ∧ d' = d) ∨ ((1 ≤ y ∧ y ≤ (if x = 0 then 9 else 99)) ∧ z = (if x = 0 then bc else fc) ∧ CX r n ac f ev sv ns st A d' ∧ d' = (u2 d.1 1 (if x = 0 then 8 else 9) y, d.2))))) := by
    intro hx
    unfold Main_cost_12
    refine wp_if (fun h1 => wp_mp.mpr (Or.inr ⟨hx, Or.inl ⟨fun q => Int32.not_lt.mpr q.1 h1, rfl, rfl⟩⟩)) (fun h1 => ?_)
    have h1 := Int32.not_lt.mp h1
    unfold Main_cost_29
    refine wp_if (fun h2 => ?_) (fun h2 => wp_mp.mpr (Or.inr ⟨hx, Or.inl ⟨fun q => h2 q.2, rfl, rfl⟩⟩))
    unfold Main_cost_50
    have hk : ∀ k, CX r n ac f ev sv ns st A (u2 d.1 1 k y, d.2) := fun k => h.keep (fun x hx => u2_row _ (show x ≠ 1 by omega) _ _) rfl
    refine wp_if (fun h0 => ?_) (fun h0 => ?_)
    · simp only [wp_mb, wp_gI, zk, zl, true_and, if_pos h0, wp_pI, wp_mp]
      rw [if_pos h0] at h2
      exact Or.inr ⟨hx, Or.inr ⟨⟨h1, h2⟩, hc.1, hk 8, trivial⟩⟩
    · simp only [wp_mb, wp_gI, zk, zl, true_and, if_neg h0, wp_pI, wp_mp]
      rw [if_neg h0] at h2
      exact Or.inr ⟨hx, Or.inr ⟨⟨h1, h2⟩, hc.2, hk 9, trivial⟩⟩
  unfold Main_cost
  refine wp_if (fun h0 => go (Or.inl h0)) (fun h0 => ?_)
  refine wp_if (fun h1 => go (Or.inr h1)) (fun h1 => wp_mp.mpr (Or.inl ⟨⟨h0, h1⟩, rfl, rfl⟩))
end
