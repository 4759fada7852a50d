/-! ===== pure: the class's program, further ===== -/
def blf (ac : Nat → Ac) : Nat → Nat
  | 0 => 0
  | k + 1 => if ac k 0 = 3 then k + 1 else blf ac k
def eS (ac : Nat → Ac) : Nat → Nat
  | 0 => 0
  | k + 1 => if ise (ac k) then k + 1 else eS ac k
def eE (ac : Nat → Ac) (i : Nat) : Nat → Nat
  | 0 => i
  | m + 1 => if ise (ac i) then i else eE ac (i + 1) m
def tl (ac : Nat → Ac) : Nat → Nat
  | 0 => 0
  | k + 1 => if ac k 0 = 4 then tl ac k ||| 2 ^ cl (ac k 1) else tl ac k
def ew (ac : Nat → Ac) : Nat → Nat × Bool
  | 0 => (0, false)
  | k + 1 => if isw (ac k) && !(ew ac k).2 then ((ew ac k).1 + 1, true) else if ise (ac k) then ((ew ac k).1, false) else ew ac k
def sb (a : Ac) : Nat := if a 0 = 1 then 2 ^ cl (a 1) ||| 2 ^ cl (a 3) else 2 ^ cl (a 1)
theorem blf_le (ac : Nat → Ac) : ∀ k, blf ac k ≤ k
  | 0 => Nat.le_refl 0
  | k + 1 => by
    unfold blf
    split
    · exact Nat.le_refl _
    · exact Nat.le_succ_of_le (blf_le ac k)
theorem eS_le (ac : Nat → Ac) : ∀ k, eS ac k ≤ k
  | 0 => Nat.le_refl 0
  | k + 1 => by
    unfold eS
    split
    · exact Nat.le_refl _
    · exact Nat.le_succ_of_le (eS_le ac k)
theorem ew_le (ac : Nat → Ac) : ∀ k, (ew ac k).1 ≤ k
  | 0 => Nat.le_refl 0
  | k + 1 => by
    have := ew_le ac k
    unfold ew
    split
    · dsimp only; omega
    · split
      · dsimp only; omega
      · omega
section
variable {r n : Nat} {ac : Nat → Ac} {f : Pl} {d : Dm}
theorem has_eq (h : CP r n ac f d) (x : Int32) : Prog_has 3 x d = some (if 0 ≤ x ∧ x < nI n then 1 else 0, d) := by
  apply wp_get
  unfold Prog_has
  simp only [wp_ite, wp_mz, wp_mb, wp_gI, zk, h.2.1, true_and]
  by_cases h1 : x < 0
  · simp [h1, Int32.not_le.mpr h1]
  · by_cases h2 : nI n ≤ x
    · simp [h1, h2, Int32.not_lt.mpr h2]
    · simp [h1, h2, Int32.not_lt.mp h1, Int32.not_le.mp h2]
theorem hasB_eq (h : CP r n ac f d) (x : Int32) : Prog_hasBehind 3 x d = some (if 0 ≤ x ∧ x ≤ nI n then 1 else 0, d) := by
  apply wp_get
  unfold Prog_hasBehind
  simp only [wp_ite, wp_mz, wp_mb, wp_gI, zk, h.2.1, true_and]
  by_cases h1 : x < 0
  · simp [h1, Int32.not_le.mpr h1]
  · by_cases h2 : nI n < x
    · simp [h1, h2, Int32.not_le.mpr h2]
    · simp [h1, h2, Int32.not_lt.mp h1, Int32.not_lt.mp h2]
theorem ix_cases (x : Int32) {n : Nat} (hn : n < 2 ^ 31) : (¬ (0 ≤ x ∧ x < nI n)) ∨ ∃ s, s < n ∧ x = nI s := by
  by_cases h : 0 ≤ x ∧ x < nI n
  · right
    rcases pk_ix x (n := n) hn with h1 | h1 | ⟨j, hj, e⟩
    · exact absurd h1 (Int32.not_lt.mpr h.1)
    · exact absurd h.2 (Int32.not_lt.mpr h1)
    · exact ⟨j, hj, e⟩
  · exact Or.inl h
theorem ib_cases (x : Int32) {n : Nat} (hn : n + 1 < 2 ^ 31) : (¬ (0 ≤ x ∧ x ≤ nI n)) ∨ ∃ s, s ≤ n ∧ x = nI s := by
  by_cases h : 0 ≤ x ∧ x ≤ nI n
  · right
    rcases pk_ix x (n := n + 1) hn with h1 | h1 | ⟨j, hj, e⟩
    · exact absurd h1 (Int32.not_lt.mpr h.1)
    · exfalso
      have h2 := Int32.le_iff_toInt_le.mp h1
      have h3 := Int32.le_iff_toInt_le.mp h.2
      rw [nI_toInt hn] at h2
      rw [nI_toInt (by omega)] at h3
      omega
    · exact ⟨j, by omega, e⟩
  · exact Or.inl h
theorem nI_has {s n : Nat} (h : s < n) (hn : n < 2 ^ 31) : (0 : Int32) ≤ nI s ∧ nI s < nI n := ⟨nI_pos' (by omega), nI_lt h hn⟩
theorem nI_hasB {s n : Nat} (h : s ≤ n) (hn : n < 2 ^ 31) : (0 : Int32) ≤ nI s ∧ nI s ≤ nI n := ⟨nI_pos' (by omega), nI_le h hn⟩
theorem isW_eq (h : CP r n ac f d) (x : Int32) : Prog_isWrite 3 x d = some (if (0 ≤ x ∧ x < nI n) ∧ isw (ac (cl x)) = true then 1 else 0, d) := by
  have hn := h.1.1
  have hR := h.2.2.2.2
  apply wp_get
  unfold Prog_isWrite
  simp only [wp_mb, wp_vc, zk, true_and, wp_eq (has_eq h x)]
  rcases ix_cases x (n := n) (by omega) with h1 | ⟨s, hs, rfl⟩
  · simp only [h1, if_false, if_true, false_and]
    rw [wp_mz]
    exact ⟨Or.inl rfl, rfl, rfl⟩
  · obtain ⟨h1, h2, h3, -, -⟩ := h.at (i := s) hs
    rw [if_pos (nI_has hs (by omega)), if_neg (by decide)]
    simp only [wp_mb, wp_gR, wp_aR, wp_vc, zk, hR.1, zl, nI_clamp (show s < 2 ^ 31 by omega), true_and, h2, wp_eq (act_writes h2), h3, wp_ite, wp_mz]
    refine ⟨ib_nI (by omega) (by omega), ?_⟩
    rw [cl_nI (by omega)]
    cases isw (ac s) <;> simp [nI_has hs (show n < 2 ^ 31 by omega)]
theorem blf_eq (h : CP r n ac f d) {k : Nat} (hk : k ≤ n) : Prog_behindLastFlush 3 (nI k) d = some (nI (blf ac k), d) := by
  have hn := h.1.1
  have hR := h.2.2.2.2
  apply wp_get
  unfold Prog_behindLastFlush Prog_behindLastFlush_2
  refine wp_lo (fun m s dd => s = nI m ∧ dd = d ∧ m ≤ k ∧ blf ac m = blf ac k) ?_ (m := k) ⟨rfl, rfl, Nat.le_refl _, rfl⟩
  intro m s dd ⟨e1, e2, hm, hb⟩
  subst e1; subst e2
  unfold Prog_behindLastFlush_2_b
  cases m with
  | zero =>
    rw [if_pos (by decide)]
    simp only [wp_mr, wp_mp]
    rw [← hb]
    exact ⟨rfl, trivial⟩
  | succ m =>
    rw [if_neg (nI_nle (by omega) (by omega)), nI_pred]
    obtain ⟨h1, h2, -, -, h5⟩ := h.at (i := m) (by omega)
    simp only [wp_mb, wp_gR, wp_aR, wp_gI, zk, hR.1, zl, nI_clamp (show m < 2 ^ 31 by omega), true_and, h2, h5]
    refine ⟨ib_nI (by omega) (by omega), ?_⟩
    by_cases h3 : ac m 0 = 3
    · simp only [h3, if_true, wp_mr, wp_mp]
      rw [← hb]
      simp [blf, h3]
    · simp only [h3, if_false, wp_ml, wp_mp]
      exact ⟨m, by omega, pk_m1 m, trivial, by omega, by rw [← hb]; simp [blf, h3]⟩
theorem eS_eq (h : CP r n ac f d) {k : Nat} (hk : k ≤ n) : Prog_epochStart 3 (nI k) d = some (nI (eS ac k), d) := by
  have hn := h.1.1
  have hR := h.2.2.2.2
  apply wp_get
  unfold Prog_epochStart Prog_epochStart_2
  refine wp_lo (fun m s dd => s = nI m ∧ dd = d ∧ m ≤ k ∧ eS ac m = eS ac k) ?_ (m := k) ⟨rfl, rfl, Nat.le_refl _, rfl⟩
  intro m s dd ⟨e1, e2, hm, hb⟩
  subst e1; subst e2
  unfold Prog_epochStart_2_b
  cases m with
  | zero =>
    rw [if_pos (by decide)]
    simp only [wp_mr, wp_mp]
    rw [← hb]
    exact ⟨rfl, trivial⟩
  | succ m =>
    rw [if_neg (nI_nle (by omega) (by omega)), nI_pred]
    obtain ⟨h1, h2, -, h4, h5⟩ := h.at (i := m) (by omega)
    simp only [wp_mb, wp_gR, wp_aR, wp_vc, zk, hR.1, zl, nI_clamp (show m < 2 ^ 31 by omega), true_and, h2, wp_eq (act_ends h2), h4]
    refine ⟨ib_nI (by omega) (by omega), ?_⟩
    cases h3 : ise (ac m) with
    | true =>
      simp only [if_true]
      rw [if_neg (by decide), wp_mr, wp_mp, ← hb]
      simp [eS, h3]
    | false =>
      simp only [Bool.false_eq_true, if_false, if_true, wp_ml, wp_mp]
      exact ⟨m, by omega, pk_m1 m, trivial, by omega, by rw [← hb]; simp [eS, h3]⟩
theorem eE_eq (h : CP r n ac f d) {k : Nat} (hk : k ≤ n) : Prog_epochEnd 3 (nI k) d = some (nI (eE ac k (n - k)), d) := by
  have hn := h.1.1
  have hR := h.2.2.2.2
  apply wp_get
  unfold Prog_epochEnd Prog_epochEnd_2
  refine wp_lo (fun m s dd => ∃ j, s = nI j ∧ dd = d ∧ j + m = n ∧ k ≤ j ∧ eE ac j m = eE ac k (n - k)) ?_ (m := n - k) ⟨k, rfl, rfl, by omega, Nat.le_refl _, rfl⟩
  intro m s dd ⟨j, e1, e2, hm, hj, hb⟩
  subst e1; subst e2
  unfold Prog_epochEnd_2_b
  simp only [wp_mb, wp_gI, zk, true_and, h.2.1]
  cases m with
  | zero =>
    rw [if_pos (nI_le (by omega) (by omega))]
    simp only [wp_mr, wp_mp]
    rw [← hb]
    exact ⟨rfl, trivial⟩
  | succ m =>
    rw [if_neg (nI_ge (by omega) (by omega))]
    obtain ⟨h1, h2, -, h4, h5⟩ := h.at (i := j) (by omega)
    simp only [wp_mb, wp_gR, wp_aR, wp_vc, zk, hR.1, zl, nI_clamp (show j < 2 ^ 31 by omega), true_and, h2, wp_eq (act_ends h2), h4]
    refine ⟨ib_nI (by omega) (by omega), ?_⟩
    cases h3 : ise (ac j) with
    | true =>
      simp only [if_true]
      rw [if_neg (by decide), wp_mr, wp_mp, ← hb]
      simp [eE, h3]
    | false =>
      simp only [Bool.false_eq_true, if_false, if_true, wp_ml, wp_mp]
      exact ⟨m, by omega, j + 1, nI_1 j, trivial, by omega, by omega, by rw [← hb]; simp [eE, h3]⟩
theorem okA_t {r : Nat} {a : Ac} (h : okA r a) (hw : a 0 = 4) : cl (a 1) < r ∧ a 1 = nI (cl (a 1)) ∨ 2 ^ 31 ≤ r := by
  rcases h with ⟨e0, -⟩ | ⟨e0, -⟩ | ⟨e0, -⟩ | ⟨e0, ⟨j, hj, e1⟩, -⟩
  · rw [e0] at hw; exact absurd hw (by decide)
  · rw [e0] at hw; exact absurd hw (by decide)
  · rcases e0 with e0 | e0 <;> rw [e0] at hw <;> exact absurd hw (by decide)
  · by_cases hr : 2 ^ 31 ≤ r
    · exact Or.inr hr
    · left; rw [e1, cl_nI (by omega)]; exact ⟨hj, rfl⟩
theorem due_eq (h : CP r n ac f d) (hr : r ≤ 6) {k A : Nat} (hk : k ≤ n) : Prog_dueAt 3 (nI k) (nI A) d = some (nI (A ||| 64 ||| tl ac k), d) := by
  have hn := h.1.1
  have hR := h.2.2.2.2
  apply wp_get
  unfold Prog_dueAt
  simp only [wp_ml]
  unfold Prog_dueAt_8
  refine wp_up (fun m s dd => s = (nI (A ||| 64 ||| tl ac m), nI m) ∧ dd = d) k ?_ (i := 0) (by omega) ⟨by rw [show (64 : Int32) = nI 64 from rfl, fa_or]; simp [tl]; rfl, rfl⟩
  intro m s dd hm ⟨e1, e2⟩
  subst e1; subst e2
  unfold Prog_dueAt_8_b
  dsimp only
  by_cases hx : m = k
  · subst hx
    rw [if_pos (nI_le (Nat.le_refl _) (by omega))]
    simp [wp_mr, wp_mp]
  · rw [if_neg (nI_ge (by omega) (by omega))]
    obtain ⟨h1, h2, -, -, h5⟩ := h.at (i := m) (by omega)
    simp only [wp_mb, wp_gR, wp_aR, wp_gI, zk, hR.1, zl, nI_clamp (show m < 2 ^ 31 by omega), true_and, h2, h5]
    refine ⟨ib_nI (by omega) (by omega), ?_⟩
    by_cases h4 : ac m 0 = 4
    · simp only [h4, if_true, wp_mb, wp_gR, wp_aR, wp_gI, zk, hR.1, zl, nI_clamp (show m < 2 ^ 31 by omega), true_and, h2]
      refine ⟨ib_nI (by omega) (by omega), ?_⟩
      rw [h.2.2.2.1 m (by omega) 1 (by omega)]
      rcases okA_t (h.1.2.2 m (by omega)) h4 with ⟨hc, he⟩ | hc
      · rw [he]
        unfold Prog_dueAt_45
        simp only [wp_ml, wp_mp]
        rw [sh1 (by omega), fa_or, nI_1]
        refine ⟨by omega, ?_, trivial⟩
        simp [tl, h4, Nat.or_assoc]
      · omega
    · simp only [h4, if_false]
      unfold Prog_dueAt_45
      simp only [wp_ml, wp_mp]
      rw [or_0, nI_1]
      refine ⟨by omega, ?_, trivial⟩
      simp [tl, h4]
theorem ew_eq (h : CP r n ac f d) : Prog_epochsWithWrites 3 d = some (nI (ew ac n).1, d) := by
  have hn := h.1.1
  have hR := h.2.2.2.2
  apply wp_get
  unfold Prog_epochsWithWrites
  simp only [wp_ml]
  unfold Prog_epochsWithWrites_6
  refine wp_up (fun m s dd => s = (nI (ew ac m).1, (if (ew ac m).2 then (1 : Int32) else 0), nI m) ∧ dd = d) n ?_ (i := 0) (by omega) ⟨rfl, rfl⟩
  intro m s dd hm ⟨e1, e2⟩
  subst e1; subst e2
  unfold Prog_epochsWithWrites_6_b
  dsimp only
  simp only [wp_mb, wp_gI, zk, true_and, h.2.1]
  by_cases hx : m = n
  · subst hx
    rw [if_pos (nI_le (Nat.le_refl _) (by omega))]
    simp [wp_mr, wp_mp]
  · rw [if_neg (nI_ge (by omega) (by omega))]
    obtain ⟨h1, h2, h3, h4, h5⟩ := h.at (i := m) (by omega)
    simp only [wp_mb, wp_gR, wp_aR, wp_vc, zk, hR.1, zl, nI_clamp (show m < 2 ^ 31 by omega), true_and, h2, wp_eq (act_writes h2), h3]
    refine ⟨ib_nI (by omega) (by omega), ?_⟩
    have key : ∀ (b : Bool), wp (Prog_epochsWithWrites_38 3 (nI (ew ac m).1) (if b then (1 : Int32) else 0) (nI m)) dd (fun q d' => match q with
        | .inl a' => m < n ∧ a' = (nI (ew ac m).1, (if ise (ac m) then (0 : Int32) else if b then 1 else 0), nI (m + 1)) ∧ d' = dd
        | .inr _ => False) := by
      intro b
      unfold Prog_epochsWithWrites_38
      simp only [wp_mb, wp_gR, wp_aR, wp_vc, zk, hR.1, zl, nI_clamp (show m < 2 ^ 31 by omega), true_and, h2, wp_eq (act_ends h2), h4]
      refine ⟨ib_nI (by omega) (by omega), ?_⟩
      unfold Prog_epochsWithWrites_52
      cases ise (ac m) <;> simp [wp_ml, wp_mp, nI_1] <;> omega
    have key2 : isw (ac m) = false ∨ (ew ac m).2 = true → wp (Prog_epochsWithWrites_38 3 (nI (ew ac m).1) (if (ew ac m).2 then (1 : Int32) else 0) (nI m)) dd (fun q d' => match q with
        | .inl a' => m < n ∧ a' = (nI (ew ac (m + 1)).1, (if (ew ac (m + 1)).2 then (1 : Int32) else 0), nI (m + 1)) ∧ d' = dd
        | .inr q => q = nI (ew ac n).1 ∧ d' = dd) := by
      intro hc
      refine wp_mono (key (ew ac m).2) (fun q d' hq => ?_)
      cases q with
      | inr q => exact hq.elim
      | inl a' =>
        obtain ⟨q1, q2, q3⟩ := hq
        refine ⟨q1, ?_, q3⟩
        rw [q2]
        have e : ew ac (m + 1) = if ise (ac m) then ((ew ac m).1, false) else ew ac m := by
          rcases hc with hc | hc <;> simp [ew, hc]
        rw [e]
        cases ise (ac m) <;> simp
    cases hw : isw (ac m) with
    | false =>
      simp only [Bool.false_eq_true, if_false, if_true]
      exact wp_mono (key2 (Or.inl hw)) (fun q d' h => by cases q <;> exact h)
    | true =>
      simp only [if_true]
      rw [if_neg (by decide)]
      cases hb : (ew ac m).2 with
      | true =>
        simp only [if_true]
        have := key2 (Or.inr hb)
        rw [hb] at this
        simp only [if_true] at this
        simp only [wp_ite]
        rw [if_neg (by decide)]
        exact wp_mono this (fun q d' h => by cases q <;> exact h)
      | false =>
        simp only [Bool.false_eq_true, if_false, if_true]
        unfold Prog_epochsWithWrites_52
        simp only [wp_ml, wp_mp, nI_1]
        refine ⟨by omega, ?_, trivial⟩
        simp [ew, hw, hb]
end
