/-! ===== pure: what is asked of plates, of writes that are needless, of the order ===== -/
section
variable {r n ns st A : Nat} {ac : Nat → Ac} {f : Pl} {ev : Nat → Pl → Bool} {sv : Nat → Pl → Pl} {d : Dm}
theorem holds_eq (h : CX r n ac f ev sv ns st A d) (x : Int32) (y : Int64) : wp (Main_holds 1 x y) d (fun z d' => frX d d' ∧ CX r n ac f ev sv ns st A d' ∧ ((¬ (0 ≤ x ∧ x < nI r) ∧ z = -101) ∨ ∃ j, j < r ∧ x = nI j ∧ ((¬ (0 ≤ y ∧ y ≤ 9999999999999999) ∧ z = -102) ∨ ∃ N, N < 10000000000000000 ∧ y = lN N ∧ z = nI (if ev j (dg 100 N) then 1 else 0)))) := by
  have hR := h.1.1.2.2.2.2
  have hr := h.1.2.1.1
  unfold Main_holds
  simp only [wp_mb, wp_gR, wp_vc, zk, zl, true_and, hR.1, wp_eq (has_r h.1.2.1 x)]
  rcases ix_cases x (n := r) (by omega) with hx | ⟨j, hj, hx⟩
  · simp only [if_neg hx, if_true, wp_mp]
    exact ⟨frX_rf d, h, Or.inl ⟨hx, trivial⟩⟩
  · subst hx
    simp only [if_pos (nI_has hj (show r < 2 ^ 31 by omega)), if_neg (show ¬ (1 : Int32) = 0 by decide), wp_mb, wp_eq (isNumP_eq y d)]
    rcases num_cases y with hy | ⟨N, hN, hy⟩
    · simp only [if_neg hy, if_true, wp_mp]
      exact ⟨frX_rf d, h, Or.inr ⟨j, hj, rfl, Or.inl ⟨hy, trivial⟩⟩⟩
    · subst hy
      have hok : okP (dg 100 N) := okP_dg hN
      simp only [if_pos (lN_pl hN), if_neg (show ¬ (1 : Int32) = 0 by decide), wp_mb, wp_gR, wp_vc, wp_mp, zk, zl, true_and, hR.1, wp_eq (plateOf_num hN), wp_eq (failing_eq h.1.2.1 hR hok)]
      refine ⟨frX_V (frV_19 d _), h.V1 (frV_19 d _) (rw8_ne d.1 (dg 100 N) (show 51 ≠ 19 by omega)), Or.inr ⟨j, hj, rfl, Or.inr ⟨N, hN, rfl, ?_⟩⟩⟩
      have := fb_lt ev (dg 100 N) r
      have h2 : 2 ^ r ≤ 2 ^ 6 := Nat.pow_le_pow_right (by omega) hr
      rw [not_bit (by omega) (by omega), fb_bit hj]
      cases ev j (dg 100 N) <;> rfl
theorem heal_eq (h : CX r n ac f ev sv ns st A d) (y : Int64) : wp (Main_heal 1 y) d (fun z d' => frX d d' ∧ CX r n ac f ev sv ns st A d' ∧ ((¬ (0 ≤ y ∧ y ≤ 9999999999999999) ∧ z = -2) ∨ ∃ N, N < 10000000000000000 ∧ y = lN N ∧ z = lN (num (hl sv 0 ns (dg 100 N))))) := by
  have hR := h.1.1.2.2.2.2
  unfold Main_heal
  simp only [wp_mb, wp_eq (isNumP_eq y d)]
  rcases num_cases y with hy | ⟨N, hN, hy⟩
  · simp only [if_neg hy, if_true, wp_mp]
    exact ⟨frX_rf d, h, Or.inl ⟨hy, trivial⟩⟩
  · subst hy
    have hok : okP (dg 100 N) := okP_dg hN
    simp only [if_pos (lN_pl hN), if_neg (show ¬ (1 : Int32) = 0 by decide), wp_mb, wp_gR, wp_vc, wp_mp, zk, zl, true_and, hR.1, wp_eq (plateOf_num hN), wp_eq (healed_eq h.1.2.2.1 hR hok), wp_eq (num_of (okP_hl h.1.2.2.1 hok ns (show 0 + ns ≤ ns by omega)))]
    exact ⟨frX_V (frV_34 d _), h.V1 (frV_34 d _) (rw8_ne d.1 (hl sv 0 ns (dg 100 N)) (show 51 ≠ 34 by omega)), Or.inr ⟨N, hN, rfl, rfl⟩⟩
theorem rw8_2 (I : Nat → Nat → Int32) (a : Nat) (p q : Pl) {x : Nat} (hx : x ≠ a) : rw8 (rw8 I a p) a q x = I x := (rw8_ne _ _ hx).trans (rw8_ne _ _ hx)
theorem cut_eq (h : CX r n ac f ev sv ns st A d) (y : Int64) (x : Int32) : wp (Main_cut 1 y x) d (fun z d' => frX d d' ∧ CX r n ac f ev sv ns st A d' ∧ ((¬ (0 ≤ y ∧ y ≤ 9999999999999999) ∧ z = -2) ∨ ∃ N, N < 10000000000000000 ∧ y = lN N ∧ ((¬ (0 ≤ x ∧ x ≤ nI ns) ∧ z = -1) ∨ ∃ j, j ≤ ns ∧ x = nI j ∧ z = lN (num (hl sv 0 ns (hl sv 0 j (dg 100 N))))))) := by
  have hR := h.1.1.2.2.2.2
  have hs := h.1.2.2.1.1
  unfold Main_cut
  simp only [wp_mb, wp_eq (isNumP_eq y d)]
  rcases num_cases y with hy | ⟨N, hN, hy⟩
  · simp only [if_neg hy, if_true, wp_mp]
    exact ⟨frX_rf d, h, Or.inl ⟨hy, trivial⟩⟩
  · subst hy
    have hok : okP (dg 100 N) := okP_dg hN
    rw [if_pos (lN_pl hN), if_neg (show ¬ (1 : Int32) = 0 by decide)]
    rcases ib_cases x (n := ns) (by omega) with hx | ⟨j, hj, hx⟩
    · have fin : frX d d ∧ CX r n ac f ev sv ns st A d ∧ ((¬ (0 ≤ lN N ∧ lN N ≤ 9999999999999999) ∧ (-1 : Int64) = -2) ∨ ∃ N', N' < 10000000000000000 ∧ lN N = lN N' ∧ ((¬ (0 ≤ x ∧ x ≤ nI ns) ∧ (-1 : Int64) = -1) ∨ ∃ j, j ≤ ns ∧ x = nI j ∧ (-1 : Int64) = lN (num (hl sv 0 ns (hl sv 0 j (dg 100 N')))))) := ⟨frX_rf d, h, Or.inr ⟨N, hN, rfl, Or.inl ⟨hx, rfl⟩⟩⟩
      refine wp_if (fun _ => wp_mp.mpr fin) (fun h1 => ?_)
      simp only [wp_mb, wp_gR, wp_gI, zk, zl, true_and, hR.1, h.1.2.2.1.2.1]
      refine wp_if (fun h2 => absurd ⟨Int32.not_lt.mp h1, h2⟩ hx) (fun _ => wp_mp.mpr fin)
    · subst hx
      have hj2 : okP (hl sv 0 j (dg 100 N)) := okP_hl h.1.2.2.1 hok j (by omega)
      have hf1 := frV_34 d (hl sv 0 j (dg 100 N))
      have h1 := h.V1 hf1 (rw8_ne d.1 (hl sv 0 j (dg 100 N)) (show 51 ≠ 34 by omega))
      have haf := after_eq h.1.2.2.1 hR hok (Nat.zero_le j) hj
      rw [Nat.sub_zero] at haf
      rw [if_neg (Int32.not_lt.mpr (nI_pos' (by omega)))]
      simp only [wp_mb, wp_gR, wp_gI, zk, zl, true_and, hR.1, h.1.2.2.1.2.1]
      rw [if_pos (nI_le hj (by omega))]
      simp only [wp_mb, wp_gR, wp_vc, wp_mp, zk, zl, true_and, hR.1, wp_eq (plateOf_num hN)]
      refine (wp_eq haf).mpr ?_
      simp only [wp_mb, wp_mp, wp_eq (healed_eq h1.1.2.2.1 hR hj2), wp_eq (num_of (okP_hl h1.1.2.2.1 hj2 ns (show 0 + ns ≤ ns by omega)))]
      exact ⟨frX_tr (frX_V hf1) (frX_V (frV_34 _ _)), h1.V1 (frV_34 _ _) (rw8_ne (rw8 d.1 34 (hl sv 0 j (dg 100 N))) (hl sv 0 ns (hl sv 0 j (dg 100 N))) (show 51 ≠ 34 by omega)), Or.inr ⟨N, hN, rfl, Or.inr ⟨j, hj, rfl, rfl⟩⟩⟩
theorem stead_eq (h : CX r n ac f ev sv ns st A d) (y : Int64) : wp (Main_steady 1 y) d (fun z d' => frX d d' ∧ CX r n ac f ev sv ns st A d' ∧ ((¬ (0 ≤ y ∧ y ≤ 9999999999999999) ∧ z = -102) ∨ ∃ N, N < 10000000000000000 ∧ y = lN N ∧ z = if sd sv ns (dg 100 N) then 1 else 0)) := by
  have hR := h.1.1.2.2.2.2
  unfold Main_steady
  simp only [wp_mb, wp_eq (isNumP_eq y d)]
  rcases num_cases y with hy | ⟨N, hN, hy⟩
  · simp only [if_neg hy, if_true, wp_mp]
    exact ⟨frX_rf d, h, Or.inl ⟨hy, trivial⟩⟩
  · subst hy
    have hok : okP (dg 100 N) := okP_dg hN
    have hf1 := frV_34 d (hl sv 0 ns (dg 100 N))
    have h1 := h.V1 hf1 (rw8_ne d.1 (hl sv 0 ns (dg 100 N)) (show 51 ≠ 34 by omega))
    simp only [if_pos (lN_pl hN), if_neg (show ¬ (1 : Int32) = 0 by decide), wp_mb, wp_gR, wp_vc, wp_mp, zk, zl, true_and, hR.1, wp_eq (plateOf_num hN), wp_eq (healed_eq h.1.2.2.1 hR hok)]
    refine wp_mono (steady_eq h1.1.2.2.1 hR hok) (fun z d' ⟨q1, q2⟩ => ?_)
    have hf2 : frV (rw8 d.1 34 (hl sv 0 ns (dg 100 N)), d.2) d' := ⟨fun x _ hx _ => q2.1 x hx, q2.2⟩
    have h2 := h1.V1 hf2 (q2.1 51 (by omega))
    rw [q1]
    cases hsd : sd sv ns (dg 100 N) with
    | true =>
      simp only [if_true, if_neg (show ¬ (1 : Int32) = 0 by decide), wp_mp]
      exact ⟨frX_tr (frX_V hf1) (frX_V hf2), h2, Or.inr ⟨N, hN, rfl, by rw [hsd]; rfl⟩⟩
    | false =>
      simp only [Bool.false_eq_true, if_false, if_true, wp_mp]
      exact ⟨frX_tr (frX_V hf1) (frX_V hf2), h2, Or.inr ⟨N, hN, rfl, by rw [hsd]; rfl⟩⟩
theorem wm_rf : sub (wm ac n) (wm ac n) := fun _ q => q
theorem end_eq (h : CX r n ac f ev sv ns st A d) : Main_end 1 d = some (lN (num (pS ac f (wm ac n) n)), d) := by
  apply wp_get
  have hR := h.1.1.2.2.2.2
  have hw := wm_lt ac n
  have h12 := p31 h.1.1.1.1
  unfold Main_end
  simp only [wp_mb, wp_gR, wp_vc, wp_mp, zk, zl, true_and, hR.1, wp_eq (writes_eq h.1.1), wp_eq (plateOf_eq h.1.1 wm_rf (show wm ac n < 4096 by omega)), wp_eq (num_of (okP_pS h.1.1.1.2.1 h.1.1.1.2.2 wm_rf n (Nat.le_refl _)))]
theorem andn (W F : Nat) : nI W &&& (nI F ^^^ (-1 : Int32)) = nI (W ^^^ (W &&& F)) := by
  apply Int32.toBitVec_inj.mp
  show BitVec.ofNat 32 W &&& (BitVec.ofNat 32 F ^^^ BitVec.allOnes 32) = BitVec.ofNat 32 (W ^^^ (W &&& F))
  apply BitVec.eq_of_getLsbD_eq
  intro i hi
  simp only [BitVec.getLsbD_and, BitVec.getLsbD_xor, BitVec.getLsbD_ofNat, BitVec.getLsbD_allOnes, hi, decide_true, Bool.true_and, Nat.testBit_xor, Nat.testBit_and]
  cases W.testBit i <;> cases F.testBit i <;> rfl
def mkB (b : Nat → Bool) : Nat → Nat
  | 0 => 0
  | i + 1 => mkB b i + if b i then 2 ^ i else 0
theorem mkB_lt (b : Nat → Bool) : ∀ i, mkB b i < 2 ^ i
  | 0 => by simp [mkB]
  | i + 1 => by
    have := mkB_lt b i
    simp only [mkB, Nat.pow_succ]
    split <;> omega
def ndP (ac : Nat → Ac) (f : Pl) (n : Nat) (V : Nat → Nat) (A i : Nat) : Prop := (wm ac n).testBit i = true ∧ pS ac f (wm ac n ^^^ (wm ac n &&& 2 ^ i)) n = pS ac f (wm ac n) n ∧ ∀ k, k ≤ n → ¬ BK ac V A (wm ac n ^^^ (wm ac n &&& 2 ^ i)) k
noncomputable def ndB (ac : Nat → Ac) (f : Pl) (n : Nat) (V : Nat → Nat) (A i : Nat) : Bool := @decide (ndP ac f n V A i) (Classical.propDecidable _)
theorem ndB_1 {V : Nat → Nat} {i : Nat} (h : ndP ac f n V A i) : ndB ac f n V A i = true := @decide_eq_true _ (Classical.propDecidable _) h
theorem ndB_0 {V : Nat → Nat} {i : Nat} (h : ¬ ndP ac f n V A i) : ndB ac f n V A i = false := @decide_eq_false _ (Classical.propDecidable _) h
theorem needless_eq (h : CX r n ac f ev sv ns st A d) : wp (Main_needless 1) d (fun z d' => frX d d' ∧ CX r n ac f ev sv ns st A d' ∧ z = nI (mkB (ndB ac f n (vdS ac f n ev r sv ns) A) n)) := by
  have hR := h.1.1.2.2.2.2
  have hn := h.1.1.1.1
  have hw := wm_lt ac n
  have h12 := p31 hn
  unfold Main_needless
  simp only [wp_mb, wp_ml, wp_gR, wp_vc, zk, zl, true_and, hR.1, wp_eq (writes_eq h.1.1), wp_eq (plateOf_eq h.1.1 wm_rf (show wm ac n < 4096 by omega))]
  unfold Main_needless_23
  refine wp_up (fun i c dd => c = (nI (mkB (ndB ac f n (vdS ac f n ev r sv ns) A) i), nI i) ∧ frX d dd ∧ CX r n ac f ev sv ns st A dd) n ?_ (i := 0) (by omega) ⟨rfl, frX_rf d, h⟩
  intro i c dd hi ⟨e, hf, hd⟩
  subst e
  have hRd := hd.1.1.2.2.2.2
  unfold Main_needless_23_b
  simp only [wp_mb, wp_gR, wp_gI, zk, zl, true_and, hRd.1, hd.1.1.2.1]
  by_cases hni : n ≤ i
  · rw [if_pos ((nI_leI (by omega) (by omega)).mpr hni)]
    rw [show i = n by omega]
    exact wp_mr.mpr (wp_mp.mpr ⟨hf, hd, rfl⟩)
  · rw [if_neg (fun q => hni ((nI_leI (by omega) (by omega)).mp q))]
    have hmk := mkB_lt (ndB ac f n (vdS ac f n ev r sv ns) A) i
    have h2i : 2 ^ i ≤ 2 ^ 12 := Nat.pow_le_pow_right (by omega) (by omega)
    unfold Main_needless_90
    simp only [wp_ml, sh1 (show i < 31 by omega), bit_and (show i < 31 by omega)]
    have fin0 : ∀ {dd' : Dm}, ¬ ndP ac f n (vdS ac f n ev r sv ns) A i → frX d dd' → CX r n ac f ev sv ns st A dd' → i < n ∧ (nI (mkB (ndB ac f n (vdS ac f n ev r sv ns) A) i), nI i + 1) = (nI (mkB (ndB ac f n (vdS ac f n ev r sv ns) A) (i + 1)), nI (i + 1)) ∧ frX d dd' ∧ CX r n ac f ev sv ns st A dd' := by
      intro dd' h1 h2 h3
      refine ⟨by omega, ?_, h2, h3⟩
      rw [← nI_add, mkB, ndB_0 h1]
      rfl
    cases hb : (wm ac n).testBit i with
    | false =>
      simp only [Bool.false_eq_true, if_false, if_true, wp_ml, wp_mp]
      exact fin0 (fun q => by have := q.1; rw [hb] at this; exact Bool.false_ne_true this) hf hd
    | true =>
      have hsub : sub (wm ac n ^^^ (wm ac n &&& 2 ^ i)) (wm ac n) := fun j hj => by
        rw [Nat.testBit_xor, Nat.testBit_and] at hj
        cases hwj : (wm ac n).testBit j with
        | true => rfl
        | false => rw [hwj] at hj; exact hj
      simp only [if_true, if_neg (nI_ne0 (Nat.two_pow_pos i) (show 2 ^ i < 2 ^ 31 by omega)), andn, wp_mb, wp_gR, wp_vc, zk, zl, true_and, hRd.1, wp_eq (plateOf_eq hd.1.1 hsub (sub_lt (k := 12) hsub (show wm ac n < 4096 by omega)))]
      refine wp_if (fun h1 => ?_) (fun h1 => ?_)
      · have h1 := (lN_pw (okP_pS h.1.1.1.2.1 h.1.1.1.2.2 hsub n (Nat.le_refl _)) (okP_pS h.1.1.1.2.1 h.1.1.1.2.2 wm_rf n (Nat.le_refl _))).mp h1
        simp only [wp_mb, wp_gR, wp_vc, zk, zl, true_and, hRd.1]
        refine wp_mono (hd.1.first hsub hd.2.1.1 hd.2.1.2) (fun x d' ⟨q1, q2, q3⟩ => ?_)
        have hd' := hd.mvV q2 q3
        have hf' := frX_tr hf (frX_V q2)
        rcases q1 with ⟨q1, q4⟩ | ⟨k, hk, q1, q4, _⟩
        · rw [if_pos q1]
          simp only [wp_ml, wp_mp]
          refine ⟨by omega, ?_, hf', hd'⟩
          rw [← nI_add, mkB, ndB_1 ⟨hb, h1, q4⟩, if_pos rfl, or_add hmk]
          rfl
        · rw [q1, if_neg (ne_m1 (by omega))]
          simp only [wp_ml, wp_mp]
          exact fin0 (fun q => q.2.2 k hk q4) hf' hd'
      · simp only [wp_ml, wp_mp]
        exact fin0 (fun q => h1 (by rw [q.2.1])) hf hd
theorem fb_ct_le' (b : Nat → Bool) (m : Nat) : fb_ct b m ≤ m := fb_ct_le b m
theorem order_loop (h : CX r n ac f ev sv ns st A d) {j S F : Nat} (hj : j < r) (hS : sub S (wm ac n)) (hF : sub F (wm ac n)) : wp (Main_order_149 1 (nI j) (nI S) (nI F) (nI (2 ^ pcn F 12)) (0, 0, 0)) d (fun x d' => frX d d' ∧ CX r n ac f ev sv ns st A d' ∧ x = nI (fb_ct (fun m => (vdS ac f n ev r sv ns (S ||| dep 12 F m)).testBit j) (2 ^ pcn F 12))) := by
  have hn := h.1.1.1.1
  have hr := h.1.2.1.1
  have hw := wm_lt ac n
  have h12 := p31 hn
  have hF2 : F < 4096 := sub_lt (k := 12) hF (by omega)
  have hp := p31 (pcn_le 12 F)
  unfold Main_order_149
  refine wp_up (fun m c dd => c = (nI (fb_ct (fun m => (vdS ac f n ev r sv ns (S ||| dep 12 F m)).testBit j) m), nI (dep 12 F m), nI m) ∧ frX d dd ∧ CX r n ac f ev sv ns st A dd) (2 ^ pcn F 12) ?_ (i := 0) (Nat.zero_le _) ⟨by rw [dep_0]; rfl, frX_rf d, h⟩
  intro m c dd hm ⟨e, hf, hd⟩
  subst e
  have hRd := hd.1.1.2.2.2.2
  unfold Main_order_149_b
  by_cases hmm : 2 ^ pcn F 12 ≤ m
  · rw [if_pos ((nI_leI (by omega) (by omega)).mpr hmm)]
    rw [show m = 2 ^ pcn F 12 by omega]
    exact wp_mr.mpr (wp_mp.mpr ⟨hf, hd, rfl⟩)
  · rw [if_neg (fun q => hmm ((nI_leI (by omega) (by omega)).mp q))]
    have hsub : sub (S ||| dep 12 F m) (wm ac n) := sub_or hS (sub_tr (sub_and.mpr (dep_and 12 F m)) hF)
    simp only [wp_mb, wp_ml, wp_gR, wp_vc, zk, zl, true_and, hRd.1, fa_or]
    refine wp_mono (hd.of hsub) (fun x d' ⟨q1, q2, q3⟩ => ?_)
    have hv := vd_lt (ac := ac) (f := f) (n := n) (ev := ev) (sv := sv) (ns := ns) (S := S ||| dep 12 F m) hr
    refine (wp_eq (nx_dep hF2)).mpr (wp_mp.mpr ⟨by omega, ?_, frX_tr hf (frX_V q2), q3⟩)
    rw [q1, bit_eq (by omega) (by omega), nI_add, fb_ct_succ, ← nI_add m 1]
    rfl
def odF (ac : Nat → Ac) (n i j : Nat) : Nat := wr ac (eS ac i) (eE ac i (n - i) - eS ac i) ^^^ (wr ac (eS ac i) (eE ac i (n - i) - eS ac i) &&& (2 ^ i ||| 2 ^ j))
theorem eE_b (ac : Nat → Ac) : ∀ (m i : Nat), i ≤ eE ac i m ∧ eE ac i m ≤ i + m
  | 0, i => by simp [eE]
  | m + 1, i => by
    have := eE_b ac m (i + 1)
    simp only [eE]
    split <;> omega
theorem wr_bit (ac : Nat → Ac) (a m i : Nat) : (wr ac a m).testBit i = (decide (a ≤ i) && decide (i < a + m) && isw (ac i)) := by
  induction m with
  | zero =>
    simp only [wr, Nat.zero_testBit]
    by_cases h : a ≤ i
    · rw [decide_eq_false (show ¬ i < a + 0 by omega), Bool.and_false, Bool.false_and]
    · rw [decide_eq_false h, Bool.false_and, Bool.false_and]
  | succ m ih =>
    have hlt := wr_lt ac a m
    simp only [wr]
    by_cases e : i = a + m
    · subst e
      rw [decide_eq_true (show a ≤ a + m by omega), decide_eq_true (show a + m < a + (m + 1) by omega), Bool.true_and, Bool.true_and]
      cases isw (ac (a + m)) with
      | true => rw [if_pos rfl, Nat.add_comm, Nat.testBit_two_pow_add_eq, Nat.testBit_lt_two_pow hlt]; rfl
      | false => rw [if_neg (by decide), Nat.add_zero, Nat.testBit_lt_two_pow hlt]
    · have hx : (wr ac a m + if isw (ac (a + m)) = true then 2 ^ (a + m) else 0).testBit i = (wr ac a m).testBit i := by
        split
        · rcases Nat.lt_or_ge i (a + m) with hh | hh
          · rw [Nat.add_comm, Nat.testBit_two_pow_add_gt hh]
          · rw [Nat.testBit_lt_two_pow (x := wr ac a m) (Nat.lt_of_lt_of_le hlt (Nat.pow_le_pow_right (by omega) hh))]
            refine Nat.testBit_lt_two_pow (Nat.lt_of_lt_of_le (show _ < 2 ^ (a + m + 1) by rw [Nat.pow_succ]; omega) (Nat.pow_le_pow_right (by omega) (by omega)))
        · rw [Nat.add_zero]
      rw [hx, ih]
      by_cases hh : i < a + m
      · rw [decide_eq_true hh, decide_eq_true (show i < a + (m + 1) by omega)]
      · rw [decide_eq_false hh, decide_eq_false (show ¬ i < a + (m + 1) by omega)]
theorem order_eq (h : CX r n ac f ev sv ns st A d) (x y w : Int32) : wp (Main_order 1 x y w) d (fun z d' => frX d d' ∧ CX r n ac f ev sv ns st A d' ∧ (((¬ (0 ≤ x ∧ x < nI r) ∨ ¬ ((0 ≤ y ∧ y < nI n) ∧ isw (ac (cl y)) = true) ∨ ¬ ((0 ≤ w ∧ w < nI n) ∧ isw (ac (cl w)) = true) ∨ y = w) ∧ z = -101) ∨ ∃ q i j, q < r ∧ i < n ∧ j < n ∧ x = nI q ∧ y = nI i ∧ w = nI j ∧ i ≠ j ∧ isw (ac i) = true ∧ isw (ac j) = true ∧ (((eS ac i ≠ eS ac j ∨ eS ac i < blf ac n) ∧ z = -103) ∨ (eS ac i = eS ac j ∧ blf ac n ≤ eS ac i ∧ z = nI (fb_ct (fun m => (vdS ac f n ev r sv ns (wm ac (eS ac i) ||| 2 ^ j ||| dep 12 (odF ac n i j) m)).testBit q) (2 ^ pcn (odF ac n i j) 12)))))) := by
  have hR := h.1.1.2.2.2.2
  have hn := h.1.1.1.1
  have hr := h.1.2.1.1
  have hw12 := wm_lt ac n
  have h12 := p31 hn
  unfold Main_order
  simp only [wp_mb, wp_gR, wp_vc, zk, zl, true_and, hR.1, wp_eq (has_r h.1.2.1 x)]
  rcases ix_cases x (n := r) (by omega) with hx | ⟨q, hq, hx⟩
  · simp only [if_neg hx, if_true, wp_mp]
    exact ⟨frX_rf d, h, Or.inl ⟨Or.inl hx, trivial⟩⟩
  · subst hx
    simp only [if_pos (nI_has hq (show r < 2 ^ 31 by omega)), if_neg (show ¬ (1 : Int32) = 0 by decide), wp_mb, wp_gR, wp_vc, zk, zl, true_and, hR.1, wp_eq (isW_eq h.1.1 y)]
    by_cases hy : (0 ≤ y ∧ y < nI n) ∧ isw (ac (cl y)) = true
    · simp only [if_pos hy, if_neg (show ¬ (1 : Int32) = 0 by decide), wp_mb, wp_gR, wp_vc, zk, zl, true_and, hR.1, wp_eq (isW_eq h.1.1 w)]
      by_cases hz : (0 ≤ w ∧ w < nI n) ∧ isw (ac (cl w)) = true
      · rw [if_pos hz, if_neg (show ¬ (1 : Int32) = 0 by decide)]
        refine wp_if (fun hyw => wp_mp.mpr ⟨frX_rf d, h, Or.inl ⟨Or.inr (Or.inr (Or.inr hyw)), rfl⟩⟩) (fun hyw => ?_)
        rcases ix_cases y (n := n) (by omega) with hy' | ⟨i, hi, hy'⟩
        · exact absurd hy.1 hy'
        subst hy'
        rcases ix_cases w (n := n) (by omega) with hz' | ⟨j, hj, hz'⟩
        · exact absurd hz.1 hz'
        subst hz'
        have ei : isw (ac i) = true := by have := hy.2; rw [show cl (nI i) = i from nI_clamp (by omega)] at this; exact this
        have ej : isw (ac j) = true := by have := hz.2; rw [show cl (nI j) = j from nI_clamp (by omega)] at this; exact this
        have hij : i ≠ j := fun e => hyw (by rw [e])
        have hsi := eS_le ac i
        have hsj := eS_le ac j
        have hei := eE_b ac (n - i) i
        have hbn := blf_le ac n
        have stt : ∀ {z : Int32} {d' : Dm}, frX d d' → CX r n ac f ev sv ns st A d' → (((eS ac i ≠ eS ac j ∨ eS ac i < blf ac n) ∧ z = -103) ∨ (eS ac i = eS ac j ∧ blf ac n ≤ eS ac i ∧ z = nI (fb_ct (fun m => (vdS ac f n ev r sv ns (wm ac (eS ac i) ||| 2 ^ j ||| dep 12 (odF ac n i j) m)).testBit q) (2 ^ pcn (odF ac n i j) 12)))) → frX d d' ∧ CX r n ac f ev sv ns st A d' ∧ (((¬ (0 ≤ nI q ∧ nI q < nI r) ∨ ¬ ((0 ≤ nI i ∧ nI i < nI n) ∧ isw (ac (cl (nI i))) = true) ∨ ¬ ((0 ≤ nI j ∧ nI j < nI n) ∧ isw (ac (cl (nI j))) = true) ∨ nI i = nI j) ∧ z = -101) ∨ ∃ q' i' j', q' < r ∧ i' < n ∧ j' < n ∧ nI q = nI q' ∧ nI i = nI i' ∧ nI j = nI j' ∧ i' ≠ j' ∧ isw (ac i') = true ∧ isw (ac j') = true ∧ (((eS ac i' ≠ eS ac j' ∨ eS ac i' < blf ac n) ∧ z = -103) ∨ (eS ac i' = eS ac j' ∧ blf ac n ≤ eS ac i' ∧ z = nI (fb_ct (fun m => (vdS ac f n ev r sv ns (wm ac (eS ac i') ||| 2 ^ j' ||| dep 12 (odF ac n i' j') m)).testBit q') (2 ^ pcn (odF ac n i' j') 12))))) := fun a b c => ⟨a, b, Or.inr ⟨q, i, j, hq, hi, hj, rfl, rfl, rfl, hij, ei, ej, c⟩⟩
        simp only [wp_mb, wp_gR, wp_vc, zk, zl, true_and, hR.1, wp_eq (eS_eq h.1.1 (show i ≤ n by omega)), wp_eq (eS_eq h.1.1 (show j ≤ n by omega))]
        refine wp_if (fun hss => ?_) (fun hss => wp_mp.mpr (stt (frX_rf d) h (Or.inl ⟨Or.inl (fun e => hss (by rw [e])), rfl⟩)))
        have hss := (nI_eq (by omega) (by omega)).mp hss
        simp only [wp_mb, wp_gR, wp_gI, wp_vc, zk, zl, true_and, hR.1, h.1.1.2.1, wp_eq (blf_eq h.1.1 (Nat.le_refl n))]
        refine wp_if (fun hb => ?_) (fun hb => wp_mp.mpr (stt (frX_rf d) h (Or.inl ⟨Or.inr (Nat.lt_of_not_le (fun e => hb (nI_le e (by omega)))), rfl⟩)))
        have hb := (nI_leI (by omega) (by omega)).mp hb
        have hww := ww_eq h.1.1 (Nat.zero_le (eS ac i)) (show eS ac i ≤ n by omega)
        rw [Nat.sub_zero, wr_0] at hww
        have hwl := wr_lt ac (eS ac i) (eE ac i (n - i) - eS ac i)
        have hwl2 : 2 ^ (eS ac i + (eE ac i (n - i) - eS ac i)) ≤ 2 ^ 12 := Nat.pow_le_pow_right (by omega) (by omega)
        have hF : sub (odF ac n i j) (wm ac n) := fun t ht => by
          unfold odF at ht
          rw [Nat.testBit_xor, Nat.testBit_and] at ht
          have hwt : (wr ac (eS ac i) (eE ac i (n - i) - eS ac i)).testBit t = true := by
            cases hwt : (wr ac (eS ac i) (eE ac i (n - i) - eS ac i)).testBit t with
            | true => rfl
            | false => rw [hwt] at ht; exact ht
          rw [wr_bit, Bool.and_eq_true, Bool.and_eq_true, decide_eq_true_eq, decide_eq_true_eq] at hwt
          rw [wm_bit, hwt.2, decide_eq_true (show t < n by omega)]; rfl
        have hS : sub (wm ac (eS ac i) ||| 2 ^ j) (wm ac n) := sub_or (fun t ht => by
          rw [wm_bit, Bool.and_eq_true, decide_eq_true_eq] at ht
          rw [wm_bit, ht.2, decide_eq_true (show t < n by omega)]; rfl) (fun t ht => by
          rw [Nat.testBit_two_pow, decide_eq_true_eq] at ht
          subst ht
          rw [wm_bit, ej, decide_eq_true hj]; rfl)
        have hF2 : odF ac n i j < 4096 := sub_lt (k := 12) hF (by omega)
        have hpc := pcn_le 12 (odF ac n i j)
        have hlo := order_loop h hq hS hF
        have hod : wr ac (eS ac i) (eE ac i (n - i) - eS ac i) ^^^ (wr ac (eS ac i) (eE ac i (n - i) - eS ac i) &&& (2 ^ i ||| 2 ^ j)) = odF ac n i j := rfl
        simp only [wp_mb, wp_ml, wp_gR, wp_vc, zk, zl, true_and, hR.1]
        refine (wp_eq hww).mpr ?_
        simp only [wp_mb, wp_ml, wp_gR, wp_vc, zk, zl, true_and, hR.1, wp_eq (eE_eq h.1.1 (show i ≤ n by omega)), wp_eq (ww_eq h.1.1 (show eS ac i ≤ eE ac i (n - i) by omega) (show eE ac i (n - i) ≤ n by omega)), sh1 (show i < 31 by omega), sh1 (show j < 31 by omega), fa_or, andn, hod, wp_eq (bc_eq hF2), sh1 (show pcn (odF ac n i j) 12 < 31 by omega)]
        exact wp_mono hlo (fun z d' ⟨g1, g2, g3⟩ => stt g1 g2 (Or.inr ⟨hss, hb, g3⟩))
      · simp only [if_neg hz, if_true, wp_mp]
        exact ⟨frX_rf d, h, Or.inl ⟨Or.inr (Or.inr (Or.inl hz)), trivial⟩⟩
    · simp only [if_neg hy, if_true, wp_mp]
      exact ⟨frX_rf d, h, Or.inl ⟨Or.inr (Or.inl hy), trivial⟩⟩
end
