/-! ===== pure: acts changed about, always, bare, costs ===== -/
def sw2 (i j k : Nat) : Nat := if k = i then j else if k = j then i else k
theorem sw2_inj {i j a b : Nat} (h : sw2 i j a = sw2 i j b) : a = b := by
  unfold sw2 at h
  split at h <;> split at h <;> (try split at h) <;> (try split at h) <;> omega
theorem sw2_lt {i j k m : Nat} (hi : i < m) (hj : j < m) (hk : k < m) : sw2 i j k < m := by
  unfold sw2
  split
  · exact hj
  · split
    · exact hi
    · exact hk
theorem Rf_sw {R R' : Nat → Nat → Nat} {i j : Nat} (h : Rf R) (hi : i < 12) (hj : j < 12) (hr : ∀ x, x ≠ 4 → R' x = R x) (h4 : ∀ k, k < 12 → R' 4 k = R 4 (sw2 i j k)) : Rf R' := by
  obtain ⟨h1, h2, h3, h5, h6⟩ := h
  refine ⟨?_, fun k hk => ?_, fun k hk => ?_, fun k hk => ?_, fun a b ha hb e => ?_⟩
  · simp only [hr 1 (by omega), hr 2 (by omega), hr 3 (by omega), hr 17 (by omega), hr 32 (by omega), hr 52 (by omega), hr 54 (by omega), hr 55 (by omega), hr 58 (by omega), hr 61 (by omega)]
    exact h1
  · rw [hr 18 (by omega), hr (20 + 2 * k) (by omega)]; exact h2 k hk
  · rw [hr 33 (by omega), hr (35 + 2 * k) (by omega)]; exact h3 k hk
  · rw [h4 k hk]; exact h5 _ (sw2_lt hi hj hk)
  · rw [h4 a ha, h4 b hb] at e
    exact sw2_inj (h6 _ _ (sw2_lt hi hj ha) (sw2_lt hi hj hb) e)
theorem sw_0 {α : Type} {g0 g1 g2 g3 g : MM α} : sw (nI 0) (0 : Int32) [g0, g1, g2, g3] g = g0 := rfl
theorem sw_1 {α : Type} {g0 g1 g2 g3 g : MM α} : sw (nI 1) (0 : Int32) [g0, g1, g2, g3] g = g1 := rfl
theorem sw_2 {α : Type} {g0 g1 g2 g3 g : MM α} : sw (nI 2) (0 : Int32) [g0, g1, g2, g3] g = g2 := rfl
theorem sw_3 {α : Type} {g0 g1 g2 g3 g : MM α} : sw (nI 3) (0 : Int32) [g0, g1, g2, g3] g = g3 := rfl
theorem sw_4 {α : Type} {g0 g1 g2 g3 g : MM α} : sw (nI 4) (0 : Int32) [g0, g1, g2, g3] g = g := rfl
section
variable {r n ns st A : Nat} {ac : Nat → Ac} {f : Pl} {ev : Nat → Pl → Bool} {sv : Nat → Pl → Pl} {d : Dm}
theorem swap_eq (h : CX r n ac f ev sv ns st A d) (hst : st < 100000) (x y : Int32) : wp (Main_swap 1 x y) d (fun z d' => ((¬ (0 ≤ x ∧ x < nI n) ∨ ¬ (0 ≤ y ∧ y < nI n)) ∧ z = -101 ∧ d' = d) ∨ ∃ i j, i < n ∧ j < n ∧ x = nI i ∧ y = nI j ∧ z = 1 ∧ frY d d' ∧ CX r n (fun k => ac (sw2 i j k)) f ev sv ns (st + 1) A d') := by
  have hR := h.1.1.2.2.2.2
  have hn := h.1.1.1.1
  unfold Main_swap
  simp only [wp_mb, wp_gR, wp_vc, zk, zl, true_and, hR.1, wp_eq (has_eq h.1.1 x)]
  rcases ix_cases x (n := n) (by omega) with hx | ⟨i, hi, hx⟩
  · simp only [if_neg hx, if_true, wp_mp]
    exact Or.inl ⟨Or.inl hx, trivial, trivial⟩
  · subst hx
    simp only [if_pos (nI_has hi (show n < 2 ^ 31 by omega)), if_neg (show ¬ (1 : Int32) = 0 by decide), wp_mb, wp_gR, wp_vc, zk, zl, true_and, hR.1, wp_eq (has_eq h.1.1 y)]
    rcases ix_cases y (n := n) (by omega) with hy | ⟨j, hj, hy⟩
    · simp only [if_neg hy, if_true, wp_mp]
      exact Or.inl ⟨Or.inr hy, trivial, trivial⟩
    · subst hy
      have zi := zact (hR.2.2.2.1 i (by omega))
      have zj := zact (hR.2.2.2.1 j (by omega))
      have h30 : u2 d.2.2 4 i (d.2.2 4 j) 3 0 = 4 := (congrFun (u2_row d.2.2 (show 3 ≠ 4 by omega) i (d.2.2 4 j)) 0).trans hR.1.2.2.2.2.2.2.2.2.2.2.2.2.1
      unfold Prog_exchange
      simp only [if_pos (nI_has hj (show n < 2 ^ 31 by omega)), if_neg (show ¬ (1 : Int32) = 0 by decide), wp_mb, wp_gR, wp_aR, wp_sR, wp_vc, wp_mp, zk, zl, true_and, hR.1, zi, zj, h30, nI_clamp (show i < 2 ^ 31 by omega), nI_clamp (show j < 2 ^ 31 by omega)]
      refine ⟨ib_nI (by omega) (by omega), ib_nI (by omega) (by omega), ⟨ib_nI (by omega) (by omega), trivial⟩, ⟨ib_nI (by omega) (by omega), trivial⟩, ?_⟩
      have h4 : ∀ k, k < 12 → u2 (u2 d.2.2 4 i (d.2.2 4 j)) 4 j (d.2.2 4 i) 4 k = d.2.2 4 (sw2 i j k) := fun k hk => by
        unfold sw2
        by_cases e1 : k = j
        · subst e1
          rw [u2_s]
          by_cases e2 : k = i
          · subst e2; rw [if_pos rfl]
          · rw [if_neg e2, if_pos rfl]
        · rw [u2_k _ _ _ e1]
          by_cases e2 : k = i
          · subst e2; rw [u2_s, if_pos rfl]
          · rw [u2_k _ _ _ e2, if_neg e2, if_neg e1]
      have hP : CP r n (fun k => ac (sw2 i j k)) f (d.1, d.2.1, u2 (u2 d.2.2 4 i (d.2.2 4 j)) 4 j (d.2.2 4 i)) := ⟨⟨hn, h.1.1.1.2.1, fun k hk => h.1.1.1.2.2 _ (sw2_lt hi hj hk)⟩, h.1.1.2.1, h.1.1.2.2.1, fun k hk q hq => by
        show d.1 (u2 (u2 d.2.2 4 i (d.2.2 4 j)) 4 j (d.2.2 4 i) 4 k) q = _
        rw [h4 k (by omega)]
        exact h.1.1.2.2.2.1 _ (sw2_lt hi hj hk) q hq, Rf_sw hR (by omega) (by omega) (fun x hx => (u2_row _ hx _ _).trans (u2_row _ hx _ _)) h4⟩
      refine wp_mono (forget_eq h hP (fun _ _ => rfl) hst) (fun _ d2 ⟨q1, q2⟩ => ?_)
      exact Or.inr ⟨i, j, hi, hj, rfl, rfl, frY_tr (show frY d (d.1, d.2.1, u2 (u2 d.2.2 4 i (d.2.2 4 j)) 4 j (d.2.2 4 i)) from fun x hx => ⟨rfl, rfl, (u2_row _ (show x ≠ 4 by omega) _ _).trans (u2_row _ (show x ≠ 4 by omega) _ _)⟩) q2, q1⟩
theorem act_eq (h : CX r n ac f ev sv ns st A d) (x y : Int32) : wp (Main_act 1 x y) d (fun z d' => d' = d ∧ ((¬ (0 ≤ x ∧ x < nI n) ∧ z = -101) ∨ ∃ i, i < n ∧ x = nI i ∧ ((¬ (0 ≤ y ∧ y ≤ 4) ∧ z = -102) ∨ ∃ k, k < 5 ∧ y = nI k ∧ z = ac i k))) := by
  have hR := h.1.1.2.2.2.2
  have hn := h.1.1.1.1
  unfold Main_act
  simp only [wp_mb, wp_gR, wp_vc, zk, zl, true_and, hR.1, wp_eq (has_eq h.1.1 x)]
  rcases ix_cases x (n := n) (by omega) with hx | ⟨i, hi, hx⟩
  · simp only [if_neg hx, if_true, wp_mp]
    exact ⟨trivial, Or.inl ⟨hx, trivial⟩⟩
  · subst hx
    rw [if_pos (nI_has hi (show n < 2 ^ 31 by omega)), if_neg (show ¬ (1 : Int32) = 0 by decide)]
    rcases ib_cases y (n := 4) (by omega) with hy | ⟨k, hk, hy⟩
    · refine wp_if (fun _ => wp_mp.mpr ⟨rfl, Or.inr ⟨i, hi, rfl, Or.inl ⟨hy, rfl⟩⟩⟩) (fun h1 => ?_)
      refine wp_if (fun h2 => absurd ⟨Int32.not_lt.mp h1, h2⟩ hy) (fun _ => wp_mp.mpr ⟨rfl, Or.inr ⟨i, hi, rfl, Or.inl ⟨hy, rfl⟩⟩⟩)
    · subst hy
      obtain ⟨a1, a2, -⟩ := h.1.1.at hi
      have hac := h.1.1.2.2.2.1 i hi
      rw [if_neg (Int32.not_lt.mpr (nI_pos' (by omega))), if_pos (show nI k ≤ (4 : Int32) from nI_le (b := 4) hk (by omega))]
      unfold Act_part
      simp only [wp_mb, wp_gR, wp_aR, wp_vc, wp_mp, zk, zl, true_and, hR.1, a2, nI_clamp (show i < 2 ^ 31 by omega)]
      refine ⟨ib_nI (by omega) (by omega), ?_⟩
      have hk2 : k = 0 ∨ k = 1 ∨ k = 2 ∨ k = 3 ∨ k = 4 := by omega
      have fin : ∀ {k : Nat}, k < 5 → d = d ∧ ((¬ (0 ≤ nI i ∧ nI i < nI n) ∧ d.1 (d.2.2 4 i) k = -101) ∨ ∃ i', i' < n ∧ nI i = nI i' ∧ ((¬ (0 ≤ nI k ∧ nI k ≤ 4) ∧ d.1 (d.2.2 4 i) k = -102) ∨ ∃ k', k' < 5 ∧ nI k = nI k' ∧ d.1 (d.2.2 4 i) k = ac i' k')) := fun {k} hk => ⟨rfl, Or.inr ⟨i, hi, rfl, Or.inr ⟨k, hk, rfl, hac k hk⟩⟩⟩
      rcases hk2 with rfl | rfl | rfl | rfl | rfl
      · rw [sw_0]; simp only [wp_mb, wp_gI, wp_mp, a2, true_and]; exact (fin (k := 0) (by omega)).2
      · rw [sw_1]; simp only [wp_mb, wp_gI, wp_mp, a2, true_and]; exact (fin (k := 1) (by omega)).2
      · rw [sw_2]; simp only [wp_mb, wp_gI, wp_mp, a2, true_and]; exact (fin (k := 2) (by omega)).2
      · rw [sw_3]; simp only [wp_mb, wp_gI, wp_mp, a2, true_and]; exact (fin (k := 3) (by omega)).2
      · rw [sw_4]; simp only [wp_mb, wp_gI, wp_mp, a2, true_and]; exact (fin (k := 4) (by omega)).2
end
