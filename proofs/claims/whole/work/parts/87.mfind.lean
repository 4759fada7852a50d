/-! ===== pure: what is found, by the reference ===== -/
theorem ct_I (n : Nat) (b : Bool) : nI n + (if bI b = 0 then (0 : Int32) else 1) = nI (n + if b then 1 else 0) := by
  cases b
  · exact nI_add n 0
  · exact nI_add n 1
def sPl (x j : Nat) : Prop := 65 ≤ x ∧ ¬ crM x j
def MX (r n : Nat) (ac : Nat → Ac) (f : Pl) (ev : Nat → Pl → Bool) (sv : Nat → Pl → Pl) (ns A : Nat) (d : Dm) : Prop := MCo r n ac f ev sv ns A d ∧ MLd r n ac f ev sv ns d
theorem fP_w {S : Nat → Nat → Prop} {d d' : Dm} (h : frc S d d') (hS : ∀ x j, S x j → 65 ≤ x ∧ ¬ crM x j) : frc sPl d d' := frc_w h fun x j hn q => hn (hS x j q)
theorem ns_P {x j : Nat} (h : crM x j) : ¬ sPl x j := fun q => q.2 h
section
variable {r n ns A : Nat} {ac : Nat → Ac} {f : Pl} {ev : Nat → Pl → Bool} {sv : Nat → Pl → Pl} {d : Dm} {p : Pl}
/-- the plates found behind k acts, as they lie in the reference -/
def RKm (r n : Nat) (ac : Nat → Ac) (f : Pl) (ev : Nat → Pl → Bool) (sv : Nat → Pl → Pl) (ns : Nat) (k : Nat) (wa : Nat → Nat) (wn s : Nat) (Rk : Nat → Nat) (sm : Nat) (B : Nat → Nat) (d : Dm) : Prop := LT r n ac f ev sv ns wa wn d ∧ d.1 65 42 = nI s ∧ (1 ≤ s ∧ s ≤ 8192) ∧ (∀ j, j < s → d.1 88 j = nI (Rk j) ∧ Rk j < 2 ^ wn ∧ Rk j < 4096) ∧ LQ ac f n k s (fun j => pS ac f (aW wa (Rk j) wn) n) ∧ FSm wa wn (PS ac (wm ac n) k) sm B d
theorem fp_eq (h : MX r n ac f ev sv ns A d) {k : Nat} (hk : k ≤ n) : wp (Mod_findPlates 65 (nI k)) d (fun _ d' => frc sPl d d' ∧ MCo r n ac f ev sv ns A d' ∧ d'.1 65 27 = 1 ∧ ∃ wa wn s Rk sm B, RKm r n ac f ev sv ns k wa wn s Rk sm B d') := by
  obtain ⟨hC, hL⟩ := h
  have hn := hC.2.1.1.1
  unfold Mod_findPlates
  simp only [wp_mb, wp_vc, wp_ml, zk, true_and]
  refine wp_mono (layAll_eq hC.1 hC.2.1 hC.2.2.1 hC.2.2.2.1 hL) (fun _ d1 ⟨f1, l1, wa, wn, hT1⟩ => ?_)
  have cL : ∀ x j, crM x j → ¬ sLd x j := fun x j hx => by unfold crM at hx; exact sL_no (by omega)
  have hC1 := hC.fr f1 cL
  have hwn := hT1.1.2.2.le
  have h12 : 2 ^ wn ≤ 4096 := p31 (by omega)
  refine wp_mono (putNo_eq hC1.1) (fun _ d2 ⟨f2, p2⟩ => ?_)
  have hC2 := hC1.fr f2 (fun x j hx q => by unfold crM at hx; omega)
  have hT2 := hT1.fr f2 (fun x j hx q => by unfold tbM at hx; omega)
  have l2 : d2.1 65 27 = 1 := (f2.i (by omega)).trans l1
  have e0 : (0 : Int32) = nI 0 := rfl
  rw [e0]
  refine wp_mono (findSets_eq hC2.1 hC2.2.1 hT2.1 (W := wm ac n) (ab := 0) (pt := fun _ => 0) (fun i hi => by rw [wm_bit]; simp [hi]) (by omega) (fun i _ hh => by simp at hh) (fun i hi => ⟨p2 i hi, by omega⟩) hk) (fun _ d3 ⟨f3, sm, C, c1, c2, c3, c4⟩ => ?_)
  have hC3 := hC2.fr f3 (fun x j => crM_Fs)
  have hT3 := hT2.fr f3 (fun x j => tbM_Fs)
  have l3 : d3.1 65 27 = 1 := (f3.i (sFs_no (by omega))).trans l2
  have ePS : (hS ac (wm ac n) (fun _ => 0) k).2.1 = PS ac (wm ac n) k := by rw [gS_h, (gS_0 k).2]
  rw [ePS] at c3 c4
  have hop : ∀ c, okP (pS ac f (aW wa c wn) n) := fun c => okP_pS hC.2.1.1.2.1 hC.2.1.1.2.2 (aW_sub hT1.1.2.2 c) n (Nat.le_refl _)
  have hK : KTb (fun c => num (pS ac f (aW wa c wn) n)) wn d3 := ⟨by omega, fun c hc => ⟨(hT3.2 c hc).1, by have := num_lt (hop c); show num _ < _; omega⟩⟩
  refine wp_mono (msort_eq hC3.1 hK ⟨c1, c2.2, fun i hi => ⟨(c3 i hi).1, (c3 i hi).2.1⟩⟩ c2.1) (fun _ d4 ⟨f4, B, b1, b2, s, Rk, g1, g2, g3, g4, g5⟩ => ?_)
  have cR : ∀ x j, crM x j → ¬ sRk x j := fun x j hx q => by unfold crM at hx; unfold sRk at q; omega
  have tR : ∀ x j, tbM x j → ¬ sRk x j := fun x j hx q => by unfold tbM at hx; unfold sRk at q; omega
  have hT4 := hT3.fr f4 tR
  have hmemC : ∀ x, memA sm B x → x < 2 ^ wn ∧ PS ac (wm ac n) k (aW wa x wn) := fun x hx => by
    obtain ⟨i, i1, i2⟩ := (b2 x).mp hx
    rw [← i2]
    exact (c3 i i1).2
  refine ⟨?_, hC3.fr f4 cR, (f4.i (by unfold sRk; omega)).trans l3, wa, wn, s, Rk, sm, B, hT4, g1, ⟨g2.1, by omega⟩, fun j hj => ⟨(g3 j hj).1, ?_, ?_⟩, ⟨fun a b hab hb => ?_, fun j hj => ⟨_, (hmemC _ (g3 j hj).2).2, rfl⟩, fun T hTp => ?_⟩, b1.1, c2, fun i hi => ⟨(b1.2.2 i hi).1, hmemC _ ⟨i, hi, rfl⟩⟩, fun T hTp => ?_⟩
  · refine frc_t (fP_w f1 ?_) (frc_t (fP_w f2 ?_) (frc_t (fP_w f3 ?_) (fP_w f4 ?_)))
    · intro x j hx
      refine ⟨?_, fun q => cL x j q hx⟩
      unfold sLd sNw sE at hx; omega
    · intro x j hx
      have hx' : x = 85 := hx
      unfold crM; omega
    · intro x j hx
      refine ⟨?_, fun q => crM_Fs q hx⟩
      unfold sFs sSt sEp at hx; omega
    · intro x j hx
      refine ⟨?_, fun q => cR x j q hx⟩
      unfold sRk at hx; omega
  · exact (hmemC _ (g3 j hj).2).1
  · have := (hmemC _ (g3 j hj).2).1; omega
  · exact (pw_num_lt (hop _) (hop _)).mpr (g4 a b hab hb)
  · obtain ⟨i, i1, i2⟩ := c4 T hTp
    obtain ⟨i', i3, i4⟩ := (b2 (C i)).mpr ⟨i, i1, rfl⟩
    obtain ⟨j, j1, j2⟩ := g5 i' i3
    refine ⟨j, j1, ?_⟩
    rw [i4] at j2
    have := num_inj (hop (Rk j)) (hop (C i)) j2
    rw [← i2]
    exact this
  · obtain ⟨i, i1, i2⟩ := c4 T hTp
    obtain ⟨i', i3, i4⟩ := (b2 (C i)).mpr ⟨i, i1, rfl⟩
    exact ⟨i', i3, by rw [i4]; exact i2⟩
theorem MX.of1 {d' : Dm} {wa : Nat → Nat} {wn : Nat} (hC : MCo r n ac f ev sv ns A d') (h1 : d'.1 65 27 = 1) (hT : LT r n ac f ev sv ns wa wn d') : MX r n ac f ev sv ns A d' := ⟨hC, Or.inr ⟨h1, wa, wn, hT⟩⟩
theorem foundM (h : MX r n ac f ev sv ns A d) (x : Int32) : wp (Mod_found 65 x) d (fun z d' => frc sPl d d' ∧ MX r n ac f ev sv ns A d' ∧ ((¬ (0 ≤ x ∧ x ≤ nI n) ∧ z = -102) ∨ ∃ k s Q, k ≤ n ∧ x = nI k ∧ z = nI s ∧ LQ ac f n k s Q)) := by
  have hn := h.1.2.1.1.1
  unfold Mod_found
  simp only [wp_mb, wp_gI, zk, true_and, h.1.2.1.2.1, wp_eq (Mod_in_eq _ _ _ _)]
  rcases ib_cases x (n := n) (by omega) with hx | ⟨k, hk, hx⟩
  · simp only [if_neg hx, if_true, wp_mp]
    exact ⟨frc_rf d, h, Or.inl ⟨hx, trivial⟩⟩
  · subst hx
    simp only [if_pos (nI_hasB hk (show n < 2 ^ 31 by omega)), if_neg (show ¬ (1 : Int32) = 0 by decide), wp_mb, wp_vc, zk, true_and]
    refine wp_mono (fp_eq h hk) (fun _ d' ⟨g1, g2, g3, wa, wn, s, Rk, sm, B, h1, h2, h3, h4, h5, h6⟩ => ?_)
    simp only [wp_gI, wp_mp, zk, true_and, h2]
    exact ⟨g1, MX.of1 g2 g3 h1, Or.inr ⟨k, s, _, hk, rfl, rfl, h5⟩⟩
theorem plateMM (h : MX r n ac f ev sv ns A d) (x y : Int32) : wp (Mod_plate 65 x y) d (fun z d' => frc sPl d d' ∧ MX r n ac f ev sv ns A d' ∧ ((¬ (0 ≤ x ∧ x ≤ nI n) ∧ z = -2) ∨ ∃ k s Q, k ≤ n ∧ x = nI k ∧ s ≤ 8192 ∧ LQ ac f n k s Q ∧ ((¬ (0 ≤ y ∧ y < nI s) ∧ z = -1) ∨ ∃ j, j < s ∧ y = nI j ∧ z = lN (num (Q j))))) := by
  have hn := h.1.2.1.1.1
  unfold Mod_plate
  simp only [wp_mb, wp_gI, zk, true_and, h.1.2.1.2.1, wp_eq (Mod_in_eq _ _ _ _)]
  rcases ib_cases x (n := n) (by omega) with hx | ⟨k, hk, hx⟩
  · simp only [if_neg hx, if_true, wp_mp]
    exact ⟨frc_rf d, h, Or.inl ⟨hx, trivial⟩⟩
  · subst hx
    simp only [if_pos (nI_hasB hk (show n < 2 ^ 31 by omega)), if_neg (show ¬ (1 : Int32) = 0 by decide), wp_mb, wp_vc, zk, true_and]
    refine wp_mono (fp_eq h hk) (fun _ d' ⟨g1, g2, g3, wa, wn, s, Rk, sm, B, h1, h2, h3, h4, h5, h6⟩ => ?_)
    simp only [wp_mb, wp_gI, zk, true_and, h2, wp_eq (Mod_in_eq _ _ _ _), le_pred y (show s < 2 ^ 31 by omega)]
    rcases ix_cases y (n := s) (by omega) with hy | ⟨j, hj, hy⟩
    · simp only [if_neg hy, if_true, wp_mp]
      exact ⟨g1, MX.of1 g2 g3 h1, Or.inr ⟨k, s, _, hk, rfl, h3.2, h5, Or.inl ⟨hy, trivial⟩⟩⟩
    · subst hy
      obtain ⟨k1, k2, k3⟩ := h4 j hj
      have r79 : d'.2.2 65 28 = 79 := g2.1.2.2.2.2.2.2.2.2.2.2.2.2.2.1
      have r88 : d'.2.2 65 41 = 88 := g2.1.2.2.2.2.2.2.2.2.2.2.2.2.2.2.2.2.2.2.2.2.2.2
      simp only [if_pos (nI_has hj (show s < 2 ^ 31 by omega)), if_neg (show ¬ (1 : Int32) = 0 by decide), wp_mb, wp_gR, wp_aI, wp_aL, wp_mp, zk, zl, true_and, r79, r88, nI_clamp (show j < 2 ^ 31 by omega), k1, nI_clamp (show Rk j < 2 ^ 31 by omega), (h1.2 (Rk j) k2).1]
      exact ⟨ib_nI (by omega) (by omega), ib_nI (by omega) (by omega), g1, MX.of1 g2 g3 h1, Or.inr ⟨k, s, _, hk, rfl, h3.2, h5, Or.inr ⟨j, hj, rfl, rfl⟩⟩⟩
theorem in01 (w : Int32) : (0 ≤ w ∧ w ≤ 1) ↔ (w = 0 ∨ w = 1) := by
  rw [fa_le, fa_le, fa_eq, fa_eq, show (0 : Int32).toInt = 0 from rfl, show (1 : Int32).toInt = 1 from rfl]
  omega
theorem keptM (h : MX r n ac f ev sv ns A d) (x y w : Int32) : wp (Mod_kept 65 x y w) d (fun z d' => frc sPl d d' ∧ MX r n ac f ev sv ns A d' ∧ ((¬ (0 ≤ x ∧ x < nI r) ∧ z = -101) ∨ ∃ j, j < r ∧ x = nI j ∧ (((¬ (0 ≤ y ∧ y ≤ nI n) ∨ (w ≠ 0 ∧ w ≠ 1)) ∧ z = -102) ∨ ∃ k s Q, k ≤ n ∧ y = nI k ∧ LQ ac f n k s Q ∧ (w = 0 ∨ w = 1) ∧ z = nI (fb_ct (fun i => ev j (if w = 1 then hl sv 0 ns (Q i) else Q i)) s)))) := by
  have hn := h.1.2.1.1.1
  have hr := h.1.2.2.1.1
  unfold Mod_kept
  simp only [wp_mb, wp_gI, zk, true_and, h.1.2.2.1.2.1, wp_eq (Mod_in_eq _ _ _ _), le_pred x (show r < 2 ^ 31 by omega)]
  rcases ix_cases x (n := r) (by omega) with hx | ⟨j, hj, hx⟩
  · simp only [if_neg hx, if_true, wp_mp]
    exact ⟨frc_rf d, h, Or.inl ⟨hx, trivial⟩⟩
  · subst hx
    simp only [if_pos (nI_has hj (show r < 2 ^ 31 by omega)), if_neg (show ¬ (1 : Int32) = 0 by decide), wp_mb, wp_gI, zk, true_and, h.1.2.1.2.1, wp_eq (Mod_in_eq _ _ _ _)]
    rcases ib_cases y (n := n) (by omega) with hy | ⟨k, hk, hy⟩
    · simp only [if_neg hy, if_true, wp_mp]
      exact ⟨frc_rf d, h, Or.inr ⟨j, hj, rfl, Or.inl ⟨Or.inl hy, trivial⟩⟩⟩
    · subst hy
      simp only [if_pos (nI_hasB hk (show n < 2 ^ 31 by omega)), if_neg (show ¬ (1 : Int32) = 0 by decide), wp_mb, wp_eq (Mod_in_eq _ _ _ _), in01]
      by_cases hw : w = 0 ∨ w = 1
      · simp only [if_pos hw, if_neg (show ¬ (1 : Int32) = 0 by decide), wp_mb, wp_vc, wp_ml, zk, true_and]
        refine wp_mono (fp_eq h hk) (fun _ d' ⟨g1, g2, g3, wa, wn, s, Rk, sm, B, h1, h2, h3, h4, h5, h6⟩ => ?_)
        have r81 : d'.2.2 65 30 = 81 := g2.1.2.2.2.2.2.2.2.2.2.2.2.2.2.2.2.1
        have r82 : d'.2.2 65 31 = 82 := g2.1.2.2.2.2.2.2.2.2.2.2.2.2.2.2.2.2.1
        have r88 : d'.2.2 65 41 = 88 := g2.1.2.2.2.2.2.2.2.2.2.2.2.2.2.2.2.2.2.2.2.2.2.2
        unfold Mod_kept_52
        refine wp_up (fun i c dd => c = (nI (fb_ct (fun i => ev j (if w = 1 then hl sv 0 ns (pS ac f (aW wa (Rk i) wn) n) else pS ac f (aW wa (Rk i) wn) n)) i), nI i) ∧ dd = d') s ?_ (i := 0) (by omega) ⟨rfl, rfl⟩
        intro i c dd hi ⟨e1, e2⟩
        subst e1; subst e2
        unfold Mod_kept_52_b
        dsimp only
        simp only [wp_mb, wp_gI, zk, true_and, h2]
        by_cases hx2 : i = s
        · subst hx2
          rw [if_pos (nI_le (Nat.le_refl _) (by omega)), wp_mr, wp_mp]
          exact ⟨g1, MX.of1 g2 g3 h1, Or.inr ⟨j, hj, rfl, Or.inr ⟨k, i, _, hk, rfl, h5, hw, rfl⟩⟩⟩
        · rw [if_neg (nI_ge (by omega) (by omega))]
          obtain ⟨k1, k2, k3⟩ := h4 i (by omega)
          obtain ⟨t1, t2, t3, t4, t5⟩ := h1.2 (Rk i) k2
          have fin : ∀ q : Pl, q = (if w = 1 then hl sv 0 ns (pS ac f (aW wa (Rk i) wn) n) else pS ac f (aW wa (Rk i) wn) n) → wp (Mod_kept_92 65 (nI j) w (nI (fb_ct (fun i => ev j (if w = 1 then hl sv 0 ns (pS ac f (aW wa (Rk i) wn) n) else pS ac f (aW wa (Rk i) wn) n)) i)) (nI i) (nI (rb ev q r))) dd (fun z d'' => match z with
              | .inl a' => i < s ∧ a' = (nI (fb_ct (fun i => ev j (if w = 1 then hl sv 0 ns (pS ac f (aW wa (Rk i) wn) n) else pS ac f (aW wa (Rk i) wn) n)) (i + 1)), nI (i + 1)) ∧ d'' = dd
              | .inr z => frc sPl d d'' ∧ MX r n ac f ev sv ns A d'' ∧ ((¬ (0 ≤ nI j ∧ nI j < nI r) ∧ z = -101) ∨ ∃ j', j' < r ∧ nI j = nI j' ∧ (((¬ (0 ≤ nI k ∧ nI k ≤ nI n) ∨ (w ≠ 0 ∧ w ≠ 1)) ∧ z = -102) ∨ ∃ k' s Q, k' ≤ n ∧ nI k = nI k' ∧ LQ ac f n k' s Q ∧ (w = 0 ∨ w = 1) ∧ z = nI (fb_ct (fun i => ev j' (if w = 1 then hl sv 0 ns (Q i) else Q i)) s)))) := by
            intro q hq
            have hrl := rb_lt ev q r
            have h26 : 2 ^ r ≤ 2 ^ 6 := Nat.pow_le_pow_right (by omega) hr
            unfold Mod_kept_92
            simp only [wp_ml, wp_mp, nI_1]
            refine ⟨by omega, ?_, trivial⟩
            rw [bit_eq (by omega) (by omega), rb_bit, nI_add, fb_ct_succ, ← hq]
            simp [hj]
          by_cases hw0 : w = 0
          · rw [if_pos hw0]
            simp only [wp_mb, wp_gR, wp_aI, zk, zl, true_and, r81, r88, nI_clamp (show i < 2 ^ 31 by omega), k1, nI_clamp (show Rk i < 2 ^ 31 by omega), t3]
            refine ⟨ib_nI (by omega) (by omega), ib_nI (by omega) (by omega), ?_⟩
            exact wp_mono (fin _ (by rw [if_neg (by rw [hw0]; decide)])) (fun z d'' hh => by cases z <;> exact hh)
          · rw [if_neg hw0]
            simp only [wp_mb, wp_gR, wp_aI, zk, zl, true_and, r82, r88, nI_clamp (show i < 2 ^ 31 by omega), k1, nI_clamp (show Rk i < 2 ^ 31 by omega), t4]
            refine ⟨ib_nI (by omega) (by omega), ib_nI (by omega) (by omega), ?_⟩
            exact wp_mono (fin _ (by rw [if_pos (hw.resolve_left hw0)])) (fun z d'' hh => by cases z <;> exact hh)
      · simp only [if_neg hw, if_true, wp_mp]
        exact ⟨frc_rf d, h, Or.inr ⟨j, hj, rfl, Or.inl ⟨Or.inr ⟨fun q => hw (Or.inl q), fun q => hw (Or.inr q)⟩, trivial⟩⟩⟩
theorem brokenM (h : MX r n ac f ev sv ns A d) (y : Int32) : wp (Mod_broken 65 y) d (fun z d' => frc sPl d d' ∧ MX r n ac f ev sv ns A d' ∧ ((¬ (0 ≤ y ∧ y ≤ nI n) ∧ z = -102) ∨ ∃ k s Q, k ≤ n ∧ y = nI k ∧ LQ ac f n k s Q ∧ z = nI (fb_ct (fun i => decide (vP ev r sv ns (Q i) &&& due ac A k ≠ 0)) s))) := by
  have hn := h.1.2.1.1.1
  have hr := h.1.2.2.1.1
  unfold Mod_broken
  simp only [wp_mb, wp_gI, zk, true_and, h.1.2.1.2.1, wp_eq (Mod_in_eq _ _ _ _)]
  rcases ib_cases y (n := n) (by omega) with hx | ⟨k, hk, hx⟩
  · simp only [if_neg hx, if_true, wp_mp]
    exact ⟨frc_rf d, h, Or.inl ⟨hx, trivial⟩⟩
  · subst hx
    simp only [if_pos (nI_hasB hk (show n < 2 ^ 31 by omega)), if_neg (show ¬ (1 : Int32) = 0 by decide), wp_mb, wp_vc, zk, true_and]
    refine wp_mono (fp_eq h hk) (fun _ d' ⟨g1, g2, g3, wa, wn, s, Rk, sm, B, h1, h2, h3, h4, h5, h6⟩ => ?_)
    simp only [wp_mb, wp_vc, wp_ml, zk, true_and, wp_eq (dueM g2 hk)]
    have hDl : A ||| tl ac k < 2 ^ r := Nat.or_lt_two_pow h.1.2.2.2.2 (tl_lt h.1.2.1.1.2.2 hr k hk)
    have r88 : d'.2.2 65 41 = 88 := g2.1.2.2.2.2.2.2.2.2.2.2.2.2.2.2.2.2.2.2.2.2.2.2
    unfold Mod_broken_31
    refine wp_up (fun i c dd => c = (nI (fb_ct (fun i => decide (vP ev r sv ns (pS ac f (aW wa (Rk i) wn) n) &&& due ac A k ≠ 0)) i), nI i) ∧ dd = d') s ?_ (i := 0) (by omega) ⟨rfl, rfl⟩
    intro i c dd hi ⟨e1, e2⟩
    subst e1; subst e2
    unfold Mod_broken_31_b
    dsimp only
    simp only [wp_mb, wp_gI, zk, true_and, h2]
    by_cases hx2 : i = s
    · subst hx2
      rw [if_pos (nI_le (Nat.le_refl _) (by omega)), wp_mr, wp_mp]
      exact ⟨g1, MX.of1 g2 g3 h1, Or.inr ⟨k, i, _, hk, rfl, h5, rfl⟩⟩
    · rw [if_neg (nI_ge (by omega) (by omega))]
      obtain ⟨k1, k2, k3⟩ := h4 i (by omega)
      simp only [wp_mb, wp_gR, wp_aI, wp_vc, zk, zl, true_and, r88, nI_clamp (show i < 2 ^ 31 by omega), k1, wp_eq (isBrk_eq g2 k3 (h1.2 (Rk i) k2) hDl), due_or]
      refine ⟨ib_nI (by omega) (by omega), ?_⟩
      unfold Mod_broken_61
      simp only [wp_ml, wp_mp, nI_1]
      refine ⟨by omega, ?_, trivial⟩
      rw [fb_ct_succ, ct_I]
end
