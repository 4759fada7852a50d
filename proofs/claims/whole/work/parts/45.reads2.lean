/-! ===== pure: what is read off the list, and what is broken ===== -/
noncomputable def vP (ev : Nat → Pl → Bool) (r : Nat) (sv : Nat → Pl → Pl) (ns : Nat) (p : Pl) : Nat := fb ev (hl sv 0 ns p) r + if sd sv ns p then 0 else 64
section
variable {r n ns st A : Nat} {ac : Nat → Ac} {f : Pl} {ev : Nat → Pl → Bool} {sv : Nat → Pl → Pl} {d : Dm}
theorem and0 {a b : Nat} (ha : a < 2 ^ 31) : (nI a &&& nI b = 0) ↔ a &&& b = 0 := by
  rw [fa_and]
  have : a &&& b < 2 ^ 31 := Nat.lt_of_le_of_lt Nat.and_le_left ha
  exact nI_eq (b := 0) this (by decide)
theorem broken_loop (h : CX r n ac f ev sv ns st A d) {k s D : Nat} {E : Nat → Nat} (hL : LsA s (lsO ac f n E) d) (hE : fLi ac f n k s E) : wp (Main_broken_47 1 (nI D) (0, 0)) d (fun x d' => frX d d' ∧ CX r n ac f ev sv ns st A d' ∧ x = nI (fb_ct (fun i => decide (vP ev r sv ns (pS ac f (E i) n) &&& D ≠ 0)) s)) := by
  have hs := hL.2.1
  have hr := h.1.2.1.1
  unfold Main_broken_47
  refine wp_up (fun i c dd => c = (nI (fb_ct (fun i => decide (vP ev r sv ns (pS ac f (E i) n) &&& D ≠ 0)) i), nI i) ∧ frX d dd ∧ CX r n ac f ev sv ns st A dd ∧ LsA s (lsO ac f n E) dd) s ?_ (i := 0) (by omega) ⟨rfl, frX_rf d, h, hL⟩
  intro i c dd hi ⟨e, hf, hd, hl2⟩
  subst e
  have hRd := hd.1.1.2.2.2.2
  unfold Main_broken_47_b
  simp only [wp_mb, wp_gR, wp_gI, zk, zl, true_and, hRd.1, hl2.1]
  by_cases hsi : s ≤ i
  · rw [if_pos ((nI_leI (by omega) (by omega)).mpr hsi)]
    rw [show i = s by omega]
    exact wp_mr.mpr (wp_mp.mpr ⟨hf, hd, rfl⟩)
  · rw [if_neg (fun q => hsi ((nI_leI (by omega) (by omega)).mp q))]
    obtain ⟨v1, v2, v3, v4⟩ := hl2.2.2 i (by omega)
    simp only [lsO] at v1 v2 v3 v4
    unfold Main_broken_87
    simp only [wp_mb, wp_ml, wp_mp, wp_gR, wp_aI, wp_vc, zk, zl, true_and, hRd.1, nI_clamp (show i < 2 ^ 31 by omega), v3]
    refine ⟨ib_nI (by omega) (by omega), wp_mono (hd.of (PS_sub (hE.2.2.1 i (by omega)))) (fun x d' ⟨q1, q2, q3⟩ => ?_)⟩
    refine ⟨by omega, ?_, frX_tr hf (frX_V q2), q3, hl2.mvV q2⟩
    have hv : vP ev r sv ns (pS ac f (E i) n) < 128 := vd_lt (ac := ac) (f := f) (n := n) (ev := ev) (sv := sv) (ns := ns) (S := E i) hr
    rw [q1, ← nI_add, fb_ct_succ, ← nI_add]
    refine congrArg (fun z => (_ + z, _)) ?_
    show (if nI (vP ev r sv ns (pS ac f (E i) n)) &&& nI D = 0 then (0 : Int32) else 1) = _
    by_cases h0 : vP ev r sv ns (pS ac f (E i) n) &&& D = 0
    · rw [if_pos ((and0 (Nat.lt_trans hv (by decide))).mpr h0), decide_eq_false (fun q => q h0)]; rfl
    · rw [if_neg (fun q => h0 ((and0 (Nat.lt_trans hv (by decide))).mp q)), decide_eq_true h0]; rfl
theorem broken_eq (h : CX r n ac f ev sv ns st A d) (y : Int32) : wp (Main_broken 1 y) d (fun z d' => frX d d' ∧ CX r n ac f ev sv ns st A d' ∧ ((¬ (0 ≤ y ∧ y ≤ nI n) ∧ z = -102) ∨ ∃ k s Q, k ≤ n ∧ y = nI k ∧ LQ ac f n k s Q ∧ z = nI (fb_ct (fun i => decide (vP ev r sv ns (Q i) &&& due ac A k ≠ 0)) s))) := by
  have hR := h.1.1.2.2.2.2
  have hn := h.1.1.1.1
  unfold Main_broken
  simp only [wp_mb, wp_gR, wp_vc, zk, zl, true_and, hR.1, wp_eq (hasB_eq h.1.1 y)]
  rcases ib_cases y (n := n) (by omega) with hy | ⟨k, hk, hy⟩
  · simp only [if_neg hy, if_true, wp_mp]
    exact ⟨frX_rf d, h, Or.inl ⟨hy, trivial⟩⟩
  · subst hy
    simp only [if_pos (nI_hasB hk (show n < 2 ^ 31 by omega)), if_neg (show ¬ (1 : Int32) = 0 by decide), wp_mb, wp_gR, wp_vc, zk, zl, true_and, hR.1]
    refine wp_mono (h.fill hk) (fun _ d' ⟨a, b, s, E, c, e⟩ => ?_)
    have hRd := b.1.1.2.2.2.2
    simp only [wp_mb, wp_ml, wp_gR, wp_gI, wp_vc, zk, zl, true_and, hRd.1, b.2.1.1, wp_eq (due_eq b.1.1 b.1.2.1.1 hk)]
    refine wp_mono (broken_loop b c e) (fun z d2 ⟨q1, q2, q3⟩ => ?_)
    exact ⟨frX_tr (frX_F a) q1, q2, Or.inr ⟨k, s, _, hk, rfl, e.LQ, q3⟩⟩
theorem safe_eq (h : CX r n ac f ev sv ns st A d) : wp (Main_safe 1) d (fun z d' => frX d d' ∧ CX r n ac f ev sv ns st A d' ∧ ((z = 1 ∧ ∀ k, k ≤ n → ¬ BK ac (vdS ac f n ev r sv ns) A (wm ac n) k) ∨ (z = 0 ∧ ∃ k, k ≤ n ∧ BK ac (vdS ac f n ev r sv ns) A (wm ac n) k))) := by
  have hR := h.1.1.2.2.2.2
  have hn := h.1.1.1.1
  unfold Main_safe
  simp only [wp_mb, wp_gR, wp_vc, zk, zl, true_and, hR.1, wp_eq (writes_eq h.1.1)]
  refine wp_mono (h.1.first (fun _ q => q) h.2.1.1 h.2.1.2) (fun x d' ⟨q1, q2, q3⟩ => ?_)
  rcases q1 with ⟨q1, q4⟩ | ⟨k, hk, q1, q4, _⟩
  · rw [if_pos q1]
    exact wp_mp.mpr ⟨frX_V q2, h.mvV q2 q3, Or.inl ⟨rfl, q4⟩⟩
  · rw [if_neg (show ¬ x = -1 from fun q => by
      rw [q1] at q
      have := congrArg Int32.toInt q
      rw [nI_toInt (by omega)] at this
      exact absurd this (by rw [show (-1 : Int32).toInt = -1 from rfl]; omega))]
    exact wp_mp.mpr ⟨frX_V q2, h.mvV q2 q3, Or.inr ⟨rfl, k, hk, q4⟩⟩
theorem bounds_33 (h : CX r n ac f ev sv ns st A d) {k c : Nat} (hk : k ≤ n) (hc : c < 8) {w : Int32} : wp (Main_bounds_33 1 (nI c) (nI k) w) d (fun z d' => frX d d' ∧ CX r n ac f ev sv ns st A d' ∧ ∃ s Q b, LQ ac f n k s Q ∧ z = nI b ∧ (∃ j, j < s ∧ b = Q j c) ∧ ∀ j, j < s → if w = 0 then b ≤ Q j c else Q j c ≤ b) := by
  have hR := h.1.1.2.2.2.2
  unfold Main_bounds_33
  simp only [wp_mb, wp_gR, wp_vc, zk, zl, true_and, hR.1]
  refine wp_mono (h.fill hk) (fun _ d' ⟨a, b, s, E, hL, e⟩ => ?_)
  have hRd := b.1.1.2.2.2.2
  have hs := hL.2.1
  have h1s : 0 < s := e.1
  obtain ⟨v1, v2, v3, v4⟩ := hL.2.2 0 h1s
  simp only [lsO] at v1 v2 v3 v4
  simp only [wp_mb, wp_ml, wp_gR, wp_aL, zk, zl, true_and, hRd.1, show (0 : Int32).toNatClampNeg = 0 from rfl, v1, wp_eq (figP (e.ok h.1.1 h1s) hc)]
  refine ⟨(show ib (nI 0) 4096 from ib_nI (by omega) (by omega)), ?_⟩
  unfold Main_bounds_63
  refine wp_up (fun i q dd => 1 ≤ i ∧ dd = d' ∧ ∃ b, q = (nI b, nI i) ∧ (∃ j, j < i ∧ b = pS ac f (E j) n c) ∧ ∀ j, j < i → if w = 0 then b ≤ pS ac f (E j) n c else pS ac f (E j) n c ≤ b) s ?_ (i := 1) h1s ⟨Nat.le_refl _, rfl, _, rfl, ⟨0, by omega, rfl⟩, fun j hj => ?_⟩
  · intro i q dd hi ⟨h1, h2, bb, h3, ⟨j, h4, h5⟩, h6⟩
    subst h2; subst h3
    have hbb : bb < 100 := by rw [h5]; exact e.ok h.1.1 (show j < s by omega) |>.1 c
    unfold Main_bounds_63_b
    simp only [wp_mb, wp_gR, wp_gI, zk, zl, true_and, hRd.1, hL.1]
    by_cases hsi : s ≤ i
    · rw [if_pos ((nI_leI (by omega) (by omega)).mpr hsi)]
      refine wp_mr.mpr (wp_mp.mpr ⟨frX_F a, b, s, _, bb, e.LQ, rfl, ⟨j, by omega, h5⟩, fun j hj => h6 j (by omega)⟩)
    · rw [if_neg (fun q => hsi ((nI_leI (by omega) (by omega)).mp q))]
      obtain ⟨v1, v2, v3, v4⟩ := hL.2.2 i (by omega)
      simp only [lsO] at v1 v2 v3 v4
      have hok := e.ok h.1.1 (show i < s by omega)
      have hfi : pS ac f (E i) n c < 100 := hok.1 c
      simp only [wp_mb, wp_ml, wp_gR, wp_aL, zk, zl, true_and, hRd.1, nI_clamp (show i < 2 ^ 31 by omega), v1, wp_eq (figP hok hc)]
      refine ⟨ib_nI (by omega) (by omega), ?_⟩
      unfold Main_bounds_112
      refine wp_if (fun hw => ?_) (fun hw => ?_)
      · simp only [wp_ml, wp_mp]
        simp only [if_pos hw] at h6 ⊢
        by_cases hlt : pS ac f (E i) n c < bb
        · rw [if_pos (nI_lt hlt (by omega))]
          refine ⟨by omega, by omega, trivial, _, by rw [← nI_add]; rfl, ⟨i, by omega, rfl⟩, fun j hj => ?_⟩
          by_cases ej : j = i
          · subst ej; exact Nat.le_refl _
          · have := h6 j (by omega); omega
        · rw [if_neg (fun q => hlt ((nI_ltI (by omega) (by omega)).mp q))]
          refine ⟨by omega, by omega, trivial, _, by rw [← nI_add]; rfl, ⟨j, by omega, h5⟩, fun j hj => ?_⟩
          by_cases ej : j = i
          · subst ej; omega
          · exact h6 j (by omega)
      · simp only [wp_ml, wp_mp]
        simp only [if_neg hw] at h6 ⊢
        by_cases hlt : bb < pS ac f (E i) n c
        · rw [if_pos (nI_lt hlt (by omega))]
          refine ⟨by omega, by omega, trivial, _, by rw [← nI_add]; rfl, ⟨i, by omega, rfl⟩, fun j hj => ?_⟩
          by_cases ej : j = i
          · subst ej; exact Nat.le_refl _
          · have := h6 j (by omega); omega
        · rw [if_neg (fun q => hlt ((nI_ltI (by omega) (by omega)).mp q))]
          refine ⟨by omega, by omega, trivial, _, by rw [← nI_add]; rfl, ⟨j, by omega, h5⟩, fun j hj => ?_⟩
          by_cases ej : j = i
          · subst ej; omega
          · exact h6 j (by omega)
  · rw [show j = 0 by omega]
    split <;> exact Nat.le_refl _
theorem least_eq (h : CX r n ac f ev sv ns st A d) {k s : Nat} {E : Nat → Nat} (hk : k ≤ n) (hL : LsA s (lsO ac f n E) d) (hE : fLi ac f n k s E) (hB : BK ac (vdS ac f n ev r sv ns) A (wm ac n) k) : wp (Main_leastBroken 1 (nI k)) d (fun x d' => frV d d' ∧ CX r n ac f ev sv ns st A d' ∧ ∃ j, j < s ∧ x = nI j ∧ vP ev r sv ns (pS ac f (E j) n) &&& due ac A k ≠ 0 ∧ ∀ i, i < j → vP ev r sv ns (pS ac f (E i) n) &&& due ac A k = 0) := by
  have hR := h.1.1.2.2.2.2
  have hs := hL.2.1
  have hr := h.1.2.1.1
  have hse := hE.1
  obtain ⟨T, hT, hT2⟩ := hB
  obtain ⟨jT, jT1, jT2, _⟩ := hE.2.2.2 T hT
  have hjT : vP ev r sv ns (pS ac f (E jT) n) &&& due ac A k ≠ 0 := by rw [jT2]; exact hT2
  unfold Main_leastBroken
  simp only [wp_mb, wp_ml, wp_gR, wp_gI, wp_vc, zk, zl, true_and, hR.1, h.2.1.1, wp_eq (due_eq h.1.1 h.1.2.1.1 hk)]
  unfold Main_leastBroken_18
  refine wp_up (fun i c dd => c = nI i ∧ frV d dd ∧ CX r n ac f ev sv ns st A dd ∧ LsA s (lsO ac f n E) dd ∧ ∀ j, j < i → vP ev r sv ns (pS ac f (E j) n) &&& due ac A k = 0) (s - 1) ?_ (i := 0) (by omega) ⟨rfl, frV_rf d, h, hL, fun j hj => by omega⟩
  intro i c dd hi ⟨e, hf, hd, hl2, hno⟩
  subst e
  have hRd := hd.1.1.2.2.2.2
  unfold Main_leastBroken_18_b
  simp only [wp_mb, wp_gR, wp_gI, zk, zl, true_and, hRd.1, hl2.1, show (1 : Int32) = nI 1 from rfl, pk_sub hse]
  by_cases hsi : s - 1 ≤ i
  · rw [if_pos ((nI_leI (by omega) (by omega)).mpr hsi)]
    refine wp_mr.mpr (wp_mp.mpr ⟨hf, hd, i, by omega, rfl, ?_, hno⟩)
    by_cases ej : jT = i
    · rw [← ej]; exact hjT
    · exact absurd (hno jT (by omega)) hjT
  · rw [if_neg (fun q => hsi ((nI_leI (by omega) (by omega)).mp q))]
    obtain ⟨v1, v2, v3, v4⟩ := hl2.2.2 i (by omega)
    simp only [lsO] at v1 v2 v3 v4
    simp only [wp_mb, wp_gR, wp_aI, wp_vc, zk, zl, true_and, hRd.1, nI_clamp (show i < 2 ^ 31 by omega), v3]
    refine ⟨ib_nI (by omega) (by omega), wp_mono (hd.of (PS_sub (hE.2.2.1 i (by omega)))) (fun x d' ⟨q1, q2, q3⟩ => ?_)⟩
    have hv : vP ev r sv ns (pS ac f (E i) n) < 128 := vd_lt (ac := ac) (f := f) (n := n) (ev := ev) (sv := sv) (ns := ns) (S := E i) hr
    have q1 : x = nI (vP ev r sv ns (pS ac f (E i) n)) := q1
    rw [q1]
    refine wp_if (fun h0 => ?_) (fun h0 => ?_)
    · have h0 := (and0 (by omega)).mp h0
      refine wp_mp.mpr ⟨by omega, nI_add i 1, frV_tr hf q2, q3, hl2.mvV q2, fun j hj => ?_⟩
      by_cases ej : j = i
      · subst ej; exact h0
      · exact hno j (by omega)
    · exact wp_mr.mpr (wp_mp.mpr ⟨frV_tr hf q2, q3, i, by omega, rfl, fun q => h0 ((and0 (by omega)).mpr q), hno⟩)
theorem bounds_eq (h : CX r n ac f ev sv ns st A d) (x y w : Int32) : wp (Main_bounds 1 x y w) d (fun z d' => frX d d' ∧ CX r n ac f ev sv ns st A d' ∧ ((¬ (0 ≤ x ∧ x < 8) ∧ z = -101) ∨ ∃ c, c < 8 ∧ x = nI c ∧ (((¬ (0 ≤ y ∧ y ≤ nI n) ∨ (w ≠ 0 ∧ w ≠ 1)) ∧ z = -102) ∨ (w = 0 ∨ w = 1) ∧ ∃ k, k ≤ n ∧ y = nI k ∧ ∃ s Q b, LQ ac f n k s Q ∧ z = nI b ∧ (∃ j, j < s ∧ b = Q j c) ∧ ∀ j, j < s → if w = 0 then b ≤ Q j c else Q j c ≤ b))) := by
  have hR := h.1.1.2.2.2.2
  have hn := h.1.1.1.1
  unfold Main_bounds
  simp only [wp_mb, wp_eq (isSector_eq x d)]
  rcases sec_cases x with hx | ⟨c, hc, hx⟩
  · simp only [if_neg hx, if_true, wp_mp]
    exact ⟨frX_rf d, h, Or.inl ⟨hx, trivial⟩⟩
  · subst hx
    simp only [if_pos (nI_sec hc), if_neg (show ¬ (1 : Int32) = 0 by decide), wp_mb, wp_gR, wp_vc, zk, zl, true_and, hR.1, wp_eq (hasB_eq h.1.1 y)]
    rcases ib_cases y (n := n) (by omega) with hy | ⟨k, hk, hy⟩
    · simp only [if_neg hy, if_true, wp_mp]
      exact ⟨frX_rf d, h, Or.inr ⟨c, hc, rfl, Or.inl ⟨Or.inl hy, trivial⟩⟩⟩
    · subst hy
      rw [if_pos (nI_hasB hk (by omega)), if_neg (show ¬ (1 : Int32) = 0 by decide)]
      refine wp_if (fun h1 => wp_mono (bounds_33 h hk hc) (fun z d' ⟨q1, q2, q3⟩ => ⟨q1, q2, Or.inr ⟨c, hc, rfl, Or.inr ⟨Or.inl h1, k, hk, rfl, q3⟩⟩⟩)) (fun h1 => ?_)
      refine wp_if (fun h2 => wp_mono (bounds_33 h hk hc) (fun z d' ⟨q1, q2, q3⟩ => ⟨q1, q2, Or.inr ⟨c, hc, rfl, Or.inr ⟨Or.inr h2, k, hk, rfl, q3⟩⟩⟩)) (fun h2 => ?_)
      exact wp_mp.mpr ⟨frX_rf d, h, Or.inr ⟨c, hc, rfl, Or.inl ⟨Or.inr ⟨h1, h2⟩, rfl⟩⟩⟩
theorem ne_m1 {k : Nat} (hk : k < 2 ^ 31) : ¬ nI k = (-1 : Int32) := fun q => by
  have := congrArg Int32.toInt q
  rw [nI_toInt hk] at this
  exact absurd this (by rw [show (-1 : Int32).toInt = -1 from rfl]; omega)
theorem shortest_eq (h : CX r n ac f ev sv ns st A d) (x : Int32) : wp (Main_shortest 1 x) d (fun z d' => frX d d' ∧ CX r n ac f ev sv ns st A d' ∧ ((¬ (0 ≤ x ∧ x ≤ 3) ∧ z = -2) ∨ ((0 ≤ x ∧ x ≤ 3) ∧ z = -1 ∧ ∀ k, k ≤ n → ¬ BK ac (vdS ac f n ev r sv ns) A (wm ac n) k) ∨ ((0 ≤ x ∧ x ≤ 3) ∧ ∃ k, k ≤ n ∧ BK ac (vdS ac f n ev r sv ns) A (wm ac n) k ∧ (∀ j, j < k → ¬ BK ac (vdS ac f n ev r sv ns) A (wm ac n) j) ∧ ((x = 0 ∧ z = lN k) ∨ (x ≠ 0 ∧ ∃ s Q j T, LQ ac f n k s Q ∧ j < s ∧ vP ev r sv ns (Q j) &&& due ac A k ≠ 0 ∧ (∀ i, i < j → vP ev r sv ns (Q i) &&& due ac A k = 0) ∧ PS ac (wm ac n) k T ∧ pS ac f T n = Q j ∧ (∀ U, PS ac (wm ac n) k U → pS ac f U n = Q j → T ≤ U) ∧ ((x = 2 ∧ z = lN T) ∨ (x = 1 ∧ z = lN (num (Q j))) ∨ (x ≠ 2 ∧ x ≠ 1 ∧ z = lN (num (hl sv 0 ns (Q j)))))))))) := by
  have hR := h.1.1.2.2.2.2
  have hn := h.1.1.1.1
  unfold Main_shortest
  refine wp_if (fun h0 => wp_mp.mpr ⟨frX_rf d, h, Or.inl ⟨fun q => Int32.not_lt.mpr q.1 h0, rfl⟩⟩) (fun h0 => ?_)
  have h0 := Int32.not_lt.mp h0
  refine wp_if (fun h3 => ?_) (fun h3 => wp_mp.mpr ⟨frX_rf d, h, Or.inl ⟨fun q => h3 q.2, rfl⟩⟩)
  simp only [wp_mb, wp_gR, wp_vc, zk, zl, true_and, hR.1, wp_eq (writes_eq h.1.1)]
  refine wp_mono (h.1.first (fun _ q => q) h.2.1.1 h.2.1.2) (fun y d1 ⟨q1, q2, q3⟩ => ?_)
  have h1 := h.mvV q2 q3
  rcases q1 with ⟨q1, q4⟩ | ⟨k, hk, q1, q4, q5⟩
  · rw [if_pos q1, q1]
    exact wp_mp.mpr ⟨frX_V q2, h1, Or.inr (Or.inl ⟨⟨h0, h3⟩, rfl, q4⟩)⟩
  · subst q1
    rw [if_neg (ne_m1 (by omega))]
    refine wp_if (fun hx => wp_mp.mpr ⟨frX_V q2, h1, Or.inr (Or.inr ⟨⟨h0, h3⟩, k, hk, q4, q5, Or.inl ⟨hx, nI_i64 (by omega)⟩⟩)⟩) (fun hx => ?_)
    have hR1 := h1.1.1.2.2.2.2
    simp only [wp_mb, wp_gR, wp_vc, zk, zl, true_and, hR1.1]
    refine wp_mono (h1.fill hk) (fun _ d2 ⟨a, b, s, E, c, e⟩ => ?_)
    refine wp_mono (least_eq b hk c e q4) (fun y d3 ⟨g1, g2, j, g3, g4, g5, g6⟩ => ?_)
    subst g4
    have hfr := frX_tr (frX_V q2) (frX_tr (frX_F a) (frX_V g1))
    have hs := c.2.1
    have hR3 := g2.1.1.2.2.2.2
    obtain ⟨v1, v2, v3, v4⟩ := (c.mvV g1).2.2 j g3
    simp only [lsO] at v1 v2 v3 v4
    have hok := e.ok h.1.1 g3
    have fin : ∀ {z : Int64} {d' : Dm}, frX d d' → CX r n ac f ev sv ns st A d' → ((x = 2 ∧ z = lN (E j)) ∨ (x = 1 ∧ z = lN (num (pS ac f (E j) n))) ∨ (x ≠ 2 ∧ x ≠ 1 ∧ z = lN (num (hl sv 0 ns (pS ac f (E j) n))))) → frX d d' ∧ CX r n ac f ev sv ns st A d' ∧ ((¬ (0 ≤ x ∧ x ≤ 3) ∧ z = -2) ∨ ((0 ≤ x ∧ x ≤ 3) ∧ z = -1 ∧ ∀ k, k ≤ n → ¬ BK ac (vdS ac f n ev r sv ns) A (wm ac n) k) ∨ ((0 ≤ x ∧ x ≤ 3) ∧ ∃ k, k ≤ n ∧ BK ac (vdS ac f n ev r sv ns) A (wm ac n) k ∧ (∀ j, j < k → ¬ BK ac (vdS ac f n ev r sv ns) A (wm ac n) j) ∧ ((x = 0 ∧ z = lN k) ∨ (x ≠ 0 ∧ ∃ s Q j T, LQ ac f n k s Q ∧ j < s ∧ vP ev r sv ns (Q j) &&& due ac A k ≠ 0 ∧ (∀ i, i < j → vP ev r sv ns (Q i) &&& due ac A k = 0) ∧ PS ac (wm ac n) k T ∧ pS ac f T n = Q j ∧ (∀ U, PS ac (wm ac n) k U → pS ac f U n = Q j → T ≤ U) ∧ ((x = 2 ∧ z = lN T) ∨ (x = 1 ∧ z = lN (num (Q j))) ∨ (x ≠ 2 ∧ x ≠ 1 ∧ z = lN (num (hl sv 0 ns (Q j)))))))))  := by
      intro z d' k1 k2 k3
      refine ⟨k1, k2, Or.inr (Or.inr ⟨⟨h0, h3⟩, k, hk, q4, q5, Or.inr ⟨hx, s, fun j => pS ac f (E j) n, j, E j, e.LQ, g3, g5, g6, e.2.2.1 j g3, rfl, fun U hU hUe => ?_, k3⟩⟩)⟩
      obtain ⟨i, i1, i2, i3⟩ := e.2.2.2 U hU
      have : i = j := by
        rw [hUe] at i2
        have hst := e.2.1
        rcases Nat.lt_trichotomy i j with hh | hh | hh
        · have := hst i j hh g3
          simp only [lsO, i2] at this; omega
        · exact hh
        · have := hst j i hh i1
          simp only [lsO, i2] at this; omega
      rw [← this]; exact i3
    refine wp_if (fun hx2 => ?_) (fun hx2 => ?_)
    · simp only [wp_mb, wp_gR, wp_aI, wp_mp, zk, zl, true_and, hR3.1, nI_clamp (show j < 2 ^ 31 by omega), v3]
      exact ⟨ib_nI (by omega) (by omega), fin hfr g2 (Or.inl ⟨hx2, nI_i64 (by omega)⟩)⟩
    · unfold Main_shortest_107
      refine wp_if (fun hx1 => ?_) (fun hx1 => ?_)
      · simp only [wp_mb, wp_gR, wp_aL, wp_mp, zk, zl, true_and, hR3.1, nI_clamp (show j < 2 ^ 31 by omega), v1, wp_eq (num_of hok)]
        exact ⟨ib_nI (by omega) (by omega), fin hfr g2 (Or.inr (Or.inl ⟨hx1, rfl⟩))⟩
      · simp only [wp_mb, wp_gR, wp_aL, wp_vc, wp_mp, zk, zl, true_and, hR3.1, nI_clamp (show j < 2 ^ 31 by omega), v1, wp_eq (healed_eq g2.1.2.2.1 hR3 hok), wp_eq (num_of (okP_hl g2.1.2.2.1 hok ns (show 0 + ns ≤ ns by omega)))]
        refine ⟨ib_nI (by omega) (by omega), fin (frX_tr hfr (frX_V (frV_34 d3 _))) (g2.V1 (frV_34 d3 _) ?_) (Or.inr (Or.inr ⟨hx2, hx1, rfl⟩))⟩
        exact rw8_ne d3.1 (hl sv 0 ns (pS ac f (E j) n)) (show 51 ≠ 34 by omega)
end
