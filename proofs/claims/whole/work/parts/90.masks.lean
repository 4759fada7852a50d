/-! ===== pure: safe, end, needless, holds, heal, cut, steady by the reference ===== -/
section
variable {r n ns A : Nat} {ac : Nat → Ac} {f : Pl} {ev : Nat → Pl → Bool} {sv : Nat → Pl → Pl} {d : Dm} {p : Pl}
theorem safe_BK {V : Nat → Nat} {W : Nat} : SafeG ac V A W (fun _ => 0) n ↔ ∀ k, k ≤ n → ¬ BK ac V A W k := by
  unfold SafeG BK
  constructor
  · intro h k hk ⟨T, t1, t2⟩
    exact t2 (h k hk T (by rw [gS_h, (gS_0 k).2]; exact t1))
  · intro h k hk T hT
    rw [gS_h, (gS_0 k).2] at hT
    exact Classical.byContradiction fun q => h k hk ⟨T, hT, q⟩
/-- all laid, nothing put -/
theorem laid0 (h : MX r n ac f ev sv ns A d) : wp (mb (vc ZF 12 65 (Mod_layAll 65)) fun _ => Mod_putNothing 65) d (fun _ d' => frc sPl d d' ∧ MCo r n ac f ev sv ns A d' ∧ d'.1 65 27 = 1 ∧ (∃ wa wn, LT r n ac f ev sv ns wa wn d') ∧ ∀ i, i < 12 → d'.1 85 i = nI 0) := by
  obtain ⟨hC, hL⟩ := h
  simp only [wp_mb, wp_vc, zk, true_and]
  refine wp_mono (layAll_eq hC.1 hC.2.1 hC.2.2.1 hC.2.2.2.1 hL) (fun _ d1 ⟨f1, l1, wa, wn, hT1⟩ => ?_)
  have cL : ∀ x j, crM x j → ¬ sLd x j := fun x j hx => by unfold crM at hx; exact sL_no (by omega)
  have hC1 := hC.fr f1 cL
  refine wp_mono (putNo_eq hC1.1) (fun _ d2 ⟨f2, p2⟩ => ?_)
  refine ⟨frc_t (fP_w f1 ?_) (fP_w f2 ?_), hC1.fr f2 (fun x j hx q => by unfold crM at hx; omega), (f2.i (by omega)).trans l1, ⟨wa, wn, hT1.fr f2 (fun x j hx q => by unfold tbM at hx; omega)⟩, p2⟩
  · intro x j hx
    refine ⟨?_, fun q => cL x j q hx⟩
    unfold sLd sNw sE at hx; omega
  · intro x j hx
    have hx' : x = 85 := hx
    unfold crM; omega
theorem fP_Fs {d d' : Dm} (h : frc sFs d d') : frc sPl d d' := fP_w h fun x j hx => ⟨by unfold sFs sSt sEp at hx; omega, fun q => crM_Fs q hx⟩
theorem fP_75 {d d' : Dm} (h : frc s75 d d') : frc sPl d d' := fP_w h fun x j hx => by unfold s75 at hx; unfold crM; omega
theorem fP_N {d d' : Dm} (h : frc sNw d d') : frc sPl d d' := fP_w h fun x j hx => by unfold sNw sE at hx; unfold crM; omega
theorem wp_mb2 {α β γ : Type} {a : MM α} {b : MM β} {k : MM γ} {d : Dm} {Q : γ → Dm → Prop} (h : wp (mb a fun _ => b) d (fun _ d' => wp k d' Q)) : wp (mb a fun _ => mb b fun _ => k) d Q := by
  rw [wp_mb] at h ⊢
  refine wp_mono h (fun _ d1 h1 => ?_)
  rw [wp_mb]
  exact h1
theorem safeM (h : MX r n ac f ev sv ns A d) : wp (Mod_safe 65) d (fun z d' => frc sPl d d' ∧ MX r n ac f ev sv ns A d' ∧ ((z = 1 ∧ ∀ k, k ≤ n → ¬ BK ac (vdS ac f n ev r sv ns) A (wm ac n) k) ∨ (z = 0 ∧ ∃ k, k ≤ n ∧ BK ac (vdS ac f n ev r sv ns) A (wm ac n) k))) := by
  unfold Mod_safe
  have hv : ∀ {α : Type} {M : MM α}, vc ZF 12 65 M = M := fun {α M} => by
    funext d
    unfold vc
    rw [if_pos (show ZF.2.1 65 = 12 from rfl)]
  have e0 : ∀ k : MM Int32, (mb (vc ZF 12 65 (Mod_layAll 65)) fun _ => mb (vc ZF 12 65 (Mod_putNothing 65)) fun _ => k) = (mb (vc ZF 12 65 (Mod_layAll 65)) fun _ => mb (Mod_putNothing 65) fun _ => k) := fun k => by rw [hv (M := Mod_putNothing 65)]
  rw [e0]
  refine wp_mb2 (wp_mono (laid0 h) (fun _ d1 ⟨g1, g2, g3, ⟨wa, wn, hT⟩, g5⟩ => ?_))
  simp only [wp_mb, wp_vc, zk, true_and]
  refine wp_mono (isSafeM g2 hT (W := wm ac n) (ab := 0) (pt := fun _ => 0) (fun i hi => by rw [wm_bit]; simp [hi]) (by omega) (fun i _ hh => by simp at hh) (fun i hi => ⟨g5 i hi, by omega⟩)) (fun z d2 ⟨k1, k2⟩ => ?_)
  have hfd := frc_t g1 (fP_Fs k1)
  have hX : MX r n ac f ev sv ns A d2 := MX.of1 (g2.fr k1 (fun x j => crM_Fs)) ((k1.i (sFs_no (by omega))).trans g3) (hT.fr k1 (fun x j => tbM_Fs))
  rcases k2 with ⟨z1, hs⟩ | ⟨z0, hs⟩
  · rw [if_neg (show ¬ z = 0 by rw [z1]; decide), wp_mp]
    exact ⟨hfd, hX, Or.inl ⟨rfl, safe_BK.mp hs⟩⟩
  · rw [if_pos z0, wp_mp]
    refine ⟨hfd, hX, Or.inr ⟨rfl, Classical.byContradiction fun q => hs (safe_BK.mpr fun k hk hb => q ⟨k, hk, hb⟩)⟩⟩
theorem writesM (hR : MRf d.2.2) (h : MP r n ac f d) {k : Nat} (hk : k ≤ n) : Mod_writesAhead 65 (nI k) d = some (nI (wm ac k), d) := by
  have hn := h.1.1
  apply wp_get
  unfold Mod_writesAhead
  simp only [wp_ml]
  unfold Mod_writesAhead_4
  refine wp_up (fun i s dd => s = (nI (wm ac i), nI i) ∧ dd = d) k ?_ (i := 0) (by omega) ⟨rfl, rfl⟩
  intro i s dd hi ⟨e1, e2⟩
  subst e1; subst e2
  unfold Mod_writesAhead_4_b
  dsimp only
  by_cases hx : i = k
  · subst hx
    rw [if_pos (nI_le (Nat.le_refl _) (by omega)), wp_mr, wp_mp]
    exact ⟨rfl, rfl⟩
  · rw [if_neg (nI_ge (by omega) (by omega))]
    simp only [wp_mb, wp_vc, zk, true_and, wp_eq (isWriteM hR h (show i < n by omega))]
    unfold Mod_writesAhead_25
    simp only [wp_ml, wp_mp]
    refine ⟨by omega, ?_, trivial⟩
    have hlt := wm_lt ac i
    cases hw : isw (ac i) with
    | true =>
      rw [if_neg (by decide), sh1 (by omega), or_add hlt, nI_1]
      simp [wm, hw]
    | false =>
      rw [if_pos (by decide), or_0, nI_1]
      simp [wm, hw]
theorem wm_l {n : Nat} (hn : n ≤ 12) : wm ac n < 4096 := Nat.lt_of_lt_of_le (wm_lt ac n) (p31 hn)
theorem endM (hR : MRf d.2.2) (h : MP r n ac f d) : Mod_end 65 d = some (lN (num (pS ac f (wm ac n) n)), (rw8 d.1 75 (pS ac f (wm ac n) n), d.2)) := by
  apply wp_get
  unfold Mod_end
  simp only [wp_mb, wp_gI, wp_vc, wp_mp, zk, true_and, h.2.1, wp_eq (writesM hR h (Nat.le_refl n)), wp_eq (plateM hR h wm_rf (wm_l h.1.1))]
theorem needlessM (h : MX r n ac f ev sv ns A d) : wp (Mod_needless 65) d (fun z d' => frc sPl d d' ∧ MX r n ac f ev sv ns A d' ∧ z = nI (mkB (ndB ac f n (vdS ac f n ev r sv ns) A) n)) := by
  have hn := h.1.2.1.1.1
  unfold Mod_needless
  have hv : ∀ {α : Type} {M : MM α}, vc ZF 12 65 M = M := fun {α M} => by
    funext d
    unfold vc
    rw [if_pos (show ZF.2.1 65 = 12 from rfl)]
  have e0 : ∀ k : MM Int32, (mb (vc ZF 12 65 (Mod_layAll 65)) fun _ => mb (vc ZF 12 65 (Mod_putNothing 65)) fun _ => k) = (mb (vc ZF 12 65 (Mod_layAll 65)) fun _ => mb (Mod_putNothing 65) fun _ => k) := fun k => by rw [hv (M := Mod_putNothing 65)]
  rw [e0]
  refine wp_mb2 (wp_mono (laid0 h) (fun _ d1 ⟨g1, g2, g3, ⟨wa, wn, hT⟩, g5⟩ => ?_))
  simp only [wp_ml, wp_mb, wp_vc, zk, true_and, wp_eq (endM g2.1 g2.2.1)]
  have hf0 : frc s75 d1 (rw8 d1.1 75 (pS ac f (wm ac n) n), d1.2) := fr_75 d1 _
  have hcS : ∀ x j, crM x j → ¬ (sFs x j ∨ s75 x j) := fun x j hx q => by
    rcases q with q | q
    · exact crM_Fs hx q
    · unfold crM at hx; unfold s75 at q; omega
  have htS : ∀ x j, tbM x j → ¬ (sFs x j ∨ s75 x j) := fun x j hx q => by
    rcases q with q | q
    · exact tbM_Fs hx q
    · unfold tbM at hx; unfold s75 at q; omega
  have hPS : ∀ {e e' : Dm}, frc (fun x j => sFs x j ∨ s75 x j) e e' → frc sPl e e' := fun hf => fP_w hf fun x j hx => by
    rcases hx with q | q
    · exact ⟨by unfold sFs sSt sEp at q; omega, fun w => crM_Fs w q⟩
    · unfold s75 at q; unfold crM; omega
  unfold Mod_needless_18
  refine wp_up (fun i s dd => s = (nI (mkB (ndB ac f n (vdS ac f n ev r sv ns) A) i), nI i) ∧ frc (fun x j => sFs x j ∨ s75 x j) d1 dd) n ?_ (i := 0) (by omega) ⟨rfl, frc_w hf0 fun _ _ h q => h (Or.inr q)⟩
  intro i s dd hi ⟨e1, hf⟩
  subst e1
  have hC := g2.fr hf hcS
  have hT2 := hT.fr hf htS
  unfold Mod_needless_18_b
  dsimp only
  simp only [wp_mb, wp_gI, zk, true_and, hC.2.1.2.1]
  by_cases hx : i = n
  · subst hx
    rw [if_pos (nI_le (Nat.le_refl _) (by omega)), wp_mr, wp_mp]
    refine ⟨frc_t g1 (hPS hf), MX.of1 hC ((hf.i (by unfold sFs sSt sEp s75; omega)).trans g3) hT2, rfl⟩
  · rw [if_neg (nI_ge (by omega) (by omega))]
    have hin : i < n := by omega
    simp only [wp_mb, wp_vc, zk, true_and, wp_eq (isWriteM hC.1 hC.2.1 hin)]
    have hmlt := mkB_lt (ndB ac f n (vdS ac f n ev r sv ns) A) i
    have h2i : 2 ^ i ≤ 4096 := p31 (by omega)
    have hwl := wm_l (ac := ac) hn
    -- what the round leaves
    have no : ∀ dd2, frc (fun x j => sFs x j ∨ s75 x j) d1 dd2 → ¬ ndP ac f n (vdS ac f n ev r sv ns) A i → wp (Mod_needless_78 65 (nI (mkB (ndB ac f n (vdS ac f n ev r sv ns) A) i)) (lN (num (pS ac f (wm ac n) n))) (nI i)) dd2 (fun z d' => match z with
        | .inl s => i < n ∧ s = (nI (mkB (ndB ac f n (vdS ac f n ev r sv ns) A) (i + 1)), nI (i + 1)) ∧ frc (fun x j => sFs x j ∨ s75 x j) d1 d'
        | .inr z => frc sPl d d' ∧ MX r n ac f ev sv ns A d' ∧ z = nI (mkB (ndB ac f n (vdS ac f n ev r sv ns) A) n)) := by
      intro dd2 hf2 hnd
      unfold Mod_needless_78
      simp only [wp_ml, wp_mp, nI_1]
      refine ⟨by omega, ?_, hf2⟩
      simp [mkB, ndB_0 hnd]
    have bw : (wm ac n).testBit i = isw (ac i) := by rw [wm_bit]; simp [hin]
    cases hw : isw (ac i) with
    | false =>
      rw [if_pos (by decide)]
      refine wp_mono (no dd hf (fun q => ?_)) (fun z d' hh => by cases z <;> exact hh)
      rw [q.1, hw] at bw
      cases bw
    | true =>
      rw [if_neg (by decide)]
      have hs1 : sub (wm ac n ^^^ (wm ac n &&& 2 ^ i)) (wm ac n) := fun j hj => by
        rw [Nat.testBit_xor, Nat.testBit_and] at hj
        cases hb : (wm ac n).testBit j with
        | true => rfl
        | false => rw [hb] at hj; simp at hj
      have hl1 : wm ac n ^^^ (wm ac n &&& 2 ^ i) < 4096 := Nat.lt_of_lt_of_le (sub_lt hs1 (wm_lt ac n)) (p31 hn)
      have hop1 := okP_pS hC.2.1.1.2.1 hC.2.1.1.2.2 hs1 n (Nat.le_refl _)
      have hop2 := okP_pS hC.2.1.1.2.1 hC.2.1.1.2.2 (wm_rf (ac := ac) (n := n)) n (Nat.le_refl _)
      have e31 : (1 : Int32) <<< (nI i &&& 31) = nI (2 ^ i) := sh1 (by omega)
      simp only [wp_mb, wp_gI, wp_vc, zk, true_and, hC.2.1.2.1, wp_eq (writesM hC.1 hC.2.1 (Nat.le_refl n)), e31, andn, wp_eq (plateM hC.1 hC.2.1 hs1 hl1)]
      generalize hd2 : ((rw8 dd.1 75 (pS ac f (wm ac n ^^^ (wm ac n &&& 2 ^ i)) n), dd.2) : Dm) = d2
      have hf2 : frc (fun x j => sFs x j ∨ s75 x j) d1 d2 := by
        rw [← hd2]
        exact frc_t hf (frc_w (fr_75 dd _) fun _ _ h q => h (Or.inr q))
      have hC2 := g2.fr hf2 hcS
      have hT3 := hT.fr hf2 htS
      by_cases heq : pS ac f (wm ac n ^^^ (wm ac n &&& 2 ^ i)) n = pS ac f (wm ac n) n
      · rw [if_pos (by rw [heq])]
        simp only [wp_mb, wp_vc, zk, true_and]
        refine wp_mono (isSafeM hC2 hT3 (W := wm ac n ^^^ (wm ac n &&& 2 ^ i)) (ab := 2 ^ i) (pt := fun _ => 0) (fun j hj => ?_) (by omega) (fun j hj hh => ?_) (fun j hj => ⟨(hf2.i (by unfold sFs sSt sEp s75; omega)).trans (g5 j hj), by omega⟩)) (fun z d3 ⟨k1, k2⟩ => ?_)
        · rw [Nat.testBit_xor, Nat.testBit_and, wm_bit]
          cases isw (ac j) <;> cases (2 ^ i).testBit j <;> simp [hj]
        · rw [Nat.testBit_two_pow, decide_eq_true_eq] at hh
          rw [← hh]; exact hw
        · have hf3 : frc (fun x j => sFs x j ∨ s75 x j) d1 d3 := frc_t hf2 (frc_w k1 fun _ _ h q => h (Or.inl q))
          rcases k2 with ⟨z1, hs⟩ | ⟨z0, hs⟩
          · rw [if_neg (show ¬ z = 0 by rw [z1]; decide)]
            have hnd : ndP ac f n (vdS ac f n ev r sv ns) A i := ⟨by rw [bw, hw], heq, safe_BK.mp hs⟩
            rw [wp_ml, or_add hmlt]
            unfold Mod_needless_78
            simp only [wp_ml, wp_mp, nI_1]
            refine ⟨by omega, ?_, hf3⟩
            simp [mkB, ndB_1 hnd]
          · rw [if_pos z0]
            exact wp_mono (no d3 hf3 (fun q => hs (safe_BK.mpr q.2.2))) (fun z d' hh => by cases z <;> exact hh)
      · rw [if_neg (fun q => heq ((lN_num hop1 hop2).mp q))]
        exact wp_mono (no d2 hf2 (fun q => heq q.2.1)) (fun z d' hh => by cases z <;> exact hh)
theorem MX.fN {d' : Dm} (h : MX r n ac f ev sv ns A d) (hf : frc sNw d d') : MX r n ac f ev sv ns A d' := by
  refine ⟨h.1.fr hf (fun x j hx q => by unfold crM at hx; unfold sNw sE at q; omega), ?_⟩
  rcases h.2 with h0 | ⟨h1, wa, wn, hT⟩
  · exact Or.inl ((hf.i (sN_no (by omega))).trans h0)
  · exact Or.inr ⟨(hf.i (sN_no (by omega))).trans h1, wa, wn, hT.fr hf (fun x j hx q => by unfold tbM at hx; unfold sNw sE at q; omega)⟩
theorem holdsM (h : MX r n ac f ev sv ns A d) (x : Int32) (y : Int64) : wp (Mod_holds 65 x y) d (fun z d' => frc sPl d d' ∧ MX r n ac f ev sv ns A d' ∧ ((¬ (0 ≤ x ∧ x < nI r) ∧ z = -101) ∨ ∃ j, j < r ∧ x = nI j ∧ ((¬ (0 ≤ y ∧ y ≤ 9999999999999999) ∧ z = -102) ∨ ∃ N, N < 10000000000000000 ∧ y = lN N ∧ z = nI (if ev j (dg 100 N) then 1 else 0)))) := by
  have hr := h.1.2.2.1.1
  unfold Mod_holds
  simp only [wp_mb, wp_gI, zk, true_and, h.1.2.2.1.2.1, wp_eq (Mod_in_eq _ _ _ _), le_pred x (show r < 2 ^ 31 by omega)]
  rcases ix_cases x (n := r) (by omega) with hx | ⟨j, hj, hx⟩
  · simp only [if_neg hx, if_true, wp_mp]
    exact ⟨frc_rf d, h, Or.inl ⟨hx, trivial⟩⟩
  · subst hx
    simp only [if_pos (nI_has hj (show r < 2 ^ 31 by omega)), if_neg (show ¬ (1 : Int32) = 0 by decide), wp_mb, wp_eq (Mod_isPlate_eq _ _)]
    rcases num_cases y with hy | ⟨N, hN, hy⟩
    · simp only [if_neg hy, if_true, wp_mp]
      exact ⟨frc_rf d, h, Or.inr ⟨j, hj, rfl, Or.inl ⟨hy, trivial⟩⟩⟩
    · subst hy
      simp only [if_pos (lN_pl hN), if_neg (show ¬ (1 : Int32) = 0 by decide), wp_mb, wp_vc, zk, true_and, wp_eq (lay_eq h.1.1 hN)]
      have hf1 : frc sNw d (rw8 d.1 75 (dg 100 N), d.2) := fN_75 d _
      have hX1 := h.fN hf1
      refine wp_mono (holdsNow_eq hX1.1.1 hX1.1.2.2.1 hj (okP_dg hN) (now_75 d _)) (fun z d2 ⟨a1, a2⟩ => ?_)
      have hf2 : frc sNw d d2 := frc_t hf1 (frc_w a2 fun _ _ h q => h (Or.inr q))
      subst a1
      cases hv : ev j (dg 100 N) with
      | true =>
        rw [if_neg (by decide), wp_mp]
        exact ⟨fP_N hf2, h.fN hf2, Or.inr ⟨j, hj, rfl, Or.inr ⟨N, hN, rfl, by rw [hv]; rfl⟩⟩⟩
      | false =>
        rw [if_pos (by decide), wp_mp]
        exact ⟨fP_N hf2, h.fN hf2, Or.inr ⟨j, hj, rfl, Or.inr ⟨N, hN, rfl, by rw [hv]; rfl⟩⟩⟩
theorem numdg {N : Nat} (hN : N < 10000000000000000) : lN N = lN (num (dg 100 N)) := by rw [num_dg hN]
theorem healMM (h : MX r n ac f ev sv ns A d) (y : Int64) : wp (Mod_heal 65 y) d (fun z d' => frc sPl d d' ∧ MX r n ac f ev sv ns A d' ∧ ((¬ (0 ≤ y ∧ y ≤ 9999999999999999) ∧ z = -2) ∨ ∃ N, N < 10000000000000000 ∧ y = lN N ∧ z = lN (num (hl sv 0 ns (dg 100 N))))) := by
  unfold Mod_heal
  simp only [wp_mb, wp_eq (Mod_isPlate_eq _ _)]
  rcases num_cases y with hy | ⟨N, hN, hy⟩
  · simp only [if_neg hy, if_true, wp_mp]
    exact ⟨frc_rf d, h, Or.inl ⟨hy, trivial⟩⟩
  · subst hy
    simp only [if_pos (lN_pl hN), if_neg (show ¬ (1 : Int32) = 0 by decide), wp_mb, wp_vc, zk, true_and]
    rw [numdg hN]
    refine wp_mono (healM h.1.1 h.1.2.2.2.1 (okP_dg hN)) (fun z d2 ⟨a1, _, a3⟩ => wp_mp.mpr ⟨fP_N a3, h.fN a3, Or.inr ⟨N, hN, (numdg hN).symm, a1⟩⟩)
theorem cutMM (h : MX r n ac f ev sv ns A d) (y : Int64) (x : Int32) : wp (Mod_cut 65 y x) d (fun z d' => frc sPl d d' ∧ MX r n ac f ev sv ns A d' ∧ ((¬ (0 ≤ y ∧ y ≤ 9999999999999999) ∧ z = -2) ∨ ∃ N, N < 10000000000000000 ∧ y = lN N ∧ ((¬ (0 ≤ x ∧ x ≤ nI ns) ∧ z = -1) ∨ ∃ j, j ≤ ns ∧ x = nI j ∧ z = lN (num (hl sv 0 ns (hl sv 0 j (dg 100 N))))))) := by
  have hns := h.1.2.2.2.1.1
  unfold Mod_cut
  simp only [wp_mb, wp_eq (Mod_isPlate_eq _ _)]
  rcases num_cases y with hy | ⟨N, hN, hy⟩
  · simp only [if_neg hy, if_true, wp_mp]
    exact ⟨frc_rf d, h, Or.inl ⟨hy, trivial⟩⟩
  · subst hy
    simp only [if_pos (lN_pl hN), if_neg (show ¬ (1 : Int32) = 0 by decide), wp_mb, wp_gI, zk, true_and, h.1.2.2.2.1.2.1, wp_eq (Mod_in_eq _ _ _ _)]
    rcases ib_cases x (n := ns) (by omega) with hx | ⟨j, hj, hx⟩
    · simp only [if_neg hx, if_true, wp_mp]
      exact ⟨frc_rf d, h, Or.inr ⟨N, hN, rfl, Or.inl ⟨hx, trivial⟩⟩⟩
    · subst hx
      simp only [if_pos (nI_hasB hj (show ns < 2 ^ 31 by omega)), if_neg (show ¬ (1 : Int32) = 0 by decide), wp_mb, wp_vc, zk, true_and]
      rw [numdg hN]
      refine wp_mono (cutM h.1.1 h.1.2.2.2.1 (okP_dg hN) hj) (fun z d2 ⟨a1, a3⟩ => wp_mp.mpr ⟨fP_N a3, h.fN a3, Or.inr ⟨N, hN, (numdg hN).symm, Or.inr ⟨j, hj, rfl, a1⟩⟩⟩)
theorem steadyMM (h : MX r n ac f ev sv ns A d) (y : Int64) : wp (Mod_steady 65 y) d (fun z d' => frc sPl d d' ∧ MX r n ac f ev sv ns A d' ∧ ((¬ (0 ≤ y ∧ y ≤ 9999999999999999) ∧ z = -102) ∨ ∃ N, N < 10000000000000000 ∧ y = lN N ∧ z = if sd sv ns (dg 100 N) then 1 else 0)) := by
  unfold Mod_steady
  simp only [wp_mb, wp_eq (Mod_isPlate_eq _ _)]
  rcases num_cases y with hy | ⟨N, hN, hy⟩
  · simp only [if_neg hy, if_true, wp_mp]
    exact ⟨frc_rf d, h, Or.inl ⟨hy, trivial⟩⟩
  · subst hy
    simp only [if_pos (lN_pl hN), if_neg (show ¬ (1 : Int32) = 0 by decide), wp_mb, wp_vc, zk, true_and]
    rw [numdg hN]
    refine wp_mono (steadyM h.1.1 h.1.2.2.2.1 (okP_dg hN)) (fun z d2 ⟨a1, a3⟩ => ?_)
    subst a1
    cases hs : sd sv ns (dg 100 N) with
    | true =>
      rw [if_neg (by decide), wp_mp]
      exact ⟨fP_N a3, h.fN a3, Or.inr ⟨N, hN, (numdg hN).symm, by rw [hs]; rfl⟩⟩
    | false =>
      rw [if_pos (by decide), wp_mp]
      exact ⟨fP_N a3, h.fN a3, Or.inr ⟨N, hN, (numdg hN).symm, by rw [hs]; rfl⟩⟩
end
