/-! ===== pure: the reference lays all ===== -/
theorem fr_uI {S : Nat → Nat → Prop} (d : Dm) (a k : Nat) (v : Int32) (hs : S a k) : frc S d (u2 d.1 a k v, d.2) := frc_I (frc_rf d) a k v hs
theorem fr_uL {S : Nat → Nat → Prop} (d : Dm) (a k : Nat) (v : Int64) (hs : S a k) : frc S d (d.1, u2 d.2.1 a k v, d.2.2) := frc_L (frc_rf d) a k v hs
def sBd (c x j : Nat) : Prop := ((79 ≤ x ∧ x ≤ 83) ∧ j = c) ∨ sNw x j
theorem sB_no {c x j : Nat} (h : x ≠ 75 ∧ x ≠ 76 ∧ x ≠ 77 ∧ x ≠ 78 ∧ ¬ (x = 65 ∧ ((19 ≤ j ∧ j ≤ 22) ∨ j = 26)) ∧ ¬ ((79 ≤ x ∧ x ≤ 83) ∧ j = c)) : ¬ sBd c x j := by
  unfold sBd sNw sE
  omega
theorem fB_N {c : Nat} {d d' : Dm} (h : frc sNw d d') : frc (sBd c) d d' := frc_w h fun _ _ h q => h (Or.inr q)
theorem fB_L {c : Nat} {d d' : Dm} (h : frc (sBd c) d d') : frc sLd d d' := frc_w h fun x j h q => h (by
  rcases q with q | q
  · exact Or.inl (by omega)
  · exact Or.inr (Or.inr q))
section
variable {r n ns A : Nat} {ac : Nat → Ac} {f : Pl} {ev : Nat → Pl → Bool} {sv : Nat → Pl → Pl} {d : Dm} {p : Pl} {wn : Nat} {wa : Nat → Nat}
theorem MS.fL {d' : Dm} (h : MS ns sv d) (hf : frc sLd d d') : MS ns sv d' := h.fr hf (sL_no (by omega)) (fun j => sL_no (by omega)) (fun j => sL_no (by omega))
theorem MR.fL {d' : Dm} (h : MR r ev A d) (hf : frc sLd d d') : MR r ev A d' := h.fr hf (sL_no (by omega)) (fun j => sL_no (by omega)) (fun j => sL_no (by omega)) (fun j => sL_no (by omega))
theorem MP.fL {d' : Dm} (h : MP r n ac f d) (hf : frc sLd d d') : MP r n ac f d' := h.fr hf (sL_no (by omega)) (fun j => sL_no (by omega)) (fun j => sL_no (by omega)) (fun j => sL_no (by omega))
theorem WT.fB {c : Nat} {d' : Dm} (h : WT ac n wa wn d) (hf : frc (sBd c) d d') : WT ac n wa wn d' := ⟨(hf.i (sB_no (by omega))).trans h.1, fun v hv => (hf.i (sB_no (by omega))).trans (h.2.1 v hv), h.2.2⟩
theorem LTc.fB {c c' S : Nat} {d' : Dm} (h : LTc r n ac f ev sv ns S c' d) (hf : frc (sBd c) d d') (hc : c' ≠ c) : LTc r n ac f ev sv ns S c' d' := by
  obtain ⟨h1, h2, h3, h4, h5⟩ := h
  exact ⟨(hf.l (sB_no (by omega))).trans h1, (hf.l (sB_no (by omega))).trans h2, (hf.i (sB_no (by omega))).trans h3, (hf.i (sB_no (by omega))).trans h4, (hf.i (sB_no (by omega))).trans h5⟩
theorem lay_body (hR : MRf d.2.2) (hP : MP r n ac f d) (hM : MR r ev A d) (hS : MS ns sv d) (hW : WT ac n wa wn d) {c : Nat} (hc : c < 2 ^ wn) : wp (mb (gR ZF 12 28 65) fun x6 => mb (vc ZF 12 65 (Mod_asActs 65 (nI c))) fun r7 => mb (vc ZF 12 65 (Mod_plateOf 65 r7)) fun r8 => mb (sL ZF x6 (nI c) r8) fun _ => mb (gR ZF 12 28 65) fun x9 => mb (aL ZF x9 (nI c)) fun x10 => mb (vc ZF 12 65 (Mod_lay 65 x10)) fun _ => mb (gR ZF 12 30 65) fun x11 => mb (vc ZF 12 65 (Mod_rulesNow 65)) fun r12 => mb (sI ZF x11 (nI c) r12) fun _ => mb (gR ZF 12 29 65) fun x13 => mb (gR ZF 12 28 65) fun x14 => mb (aL ZF x14 (nI c)) fun x15 => mb (vc ZF 12 65 (Mod_healed 65 x15)) fun r16 => mb (sL ZF x13 (nI c) r16) fun _ => mb (gR ZF 12 29 65) fun x17 => mb (aL ZF x17 (nI c)) fun x18 => mb (vc ZF 12 65 (Mod_lay 65 x18)) fun _ => mb (gR ZF 12 31 65) fun x19 => mb (vc ZF 12 65 (Mod_rulesNow 65)) fun r20 => mb (sI ZF x19 (nI c) r20) fun _ => mb (gR ZF 12 32 65) fun x21 => mb (gR ZF 12 28 65) fun x22 => mb (aL ZF x22 (nI c)) fun x23 => mb (vc ZF 12 65 (Mod_isSteady 65 x23)) fun r24 => mb (sZ ZF x21 (nI c) r24) fun _ => ml (nI c + (1 : Int32)) fun x25 => mp (Sum.inl (α := Int32) (β := Unit) x25)) d (fun z d' => z = .inl (nI (c + 1)) ∧ frc (sBd c) d d' ∧ LTc r n ac f ev sv ns (aW wa c wn) c d') := by
  have hn := hP.1.1
  have hwn := hW.2.2.le
  have h12 : 2 ^ wn ≤ 4096 := p31 (by omega)
  have hsub := aW_sub hW.2.2 c
  have hSl : aW wa c wn < 4096 := Nat.lt_of_lt_of_le (sub_lt hsub (wm_lt ac n)) (p31 hn)
  have hop := okP_pS hP.1.2.1 hP.1.2.2 hsub n (Nat.le_refl _)
  have hoh := hS.okH hop ns (Nat.le_refl _)
  have r79 : ∀ {e : Dm}, MRf e.2.2 → e.2.2 65 28 = 79 := fun h => h.2.2.2.2.2.2.2.2.2.2.2.2.2.1
  have r80 : ∀ {e : Dm}, MRf e.2.2 → e.2.2 65 29 = 80 := fun h => h.2.2.2.2.2.2.2.2.2.2.2.2.2.2.1
  have r81 : ∀ {e : Dm}, MRf e.2.2 → e.2.2 65 30 = 81 := fun h => h.2.2.2.2.2.2.2.2.2.2.2.2.2.2.2.1
  have r82 : ∀ {e : Dm}, MRf e.2.2 → e.2.2 65 31 = 82 := fun h => h.2.2.2.2.2.2.2.2.2.2.2.2.2.2.2.2.1
  have r83 : ∀ {e : Dm}, MRf e.2.2 → e.2.2 65 32 = 83 := fun h => h.2.2.2.2.2.2.2.2.2.2.2.2.2.2.2.2.2.1
  have cl : (nI c).toNatClampNeg = c := nI_clamp (by omega)
  have ibc : ib (nI c) 4096 := ib_nI (by omega) (by omega)
  -- the plate
  simp only [wp_mb, wp_gR, wp_vc, zk, true_and, r79 hR, wp_eq (asActs_eq hR hW hn (show c < 2 ^ 31 by omega)), wp_eq (plateM hR hP hsub hSl)]
  rw [wp_sL, cl]
  refine ⟨⟨rfl, ibc⟩, ?_⟩
  generalize hd1 : (((rw8 d.1 75 (pS ac f (aW wa c wn) n), d.2).1, u2 (rw8 d.1 75 (pS ac f (aW wa c wn) n), d.2).2.1 79 c (lN (num (pS ac f (aW wa c wn) n))), (rw8 d.1 75 (pS ac f (aW wa c wn) n), d.2).2.2) : Dm) = d1
  have f1 : frc (sBd c) d d1 := by
    rw [← hd1]
    exact frc_L (fB_N (fN_75 d _)) 79 c _ (Or.inl ⟨by omega, rfl⟩)
  have p1 : d1.2.1 79 c = lN (num (pS ac f (aW wa c wn) n)) := by rw [← hd1]; exact u2_s _ _ _ _
  have hR1 := MRf_fr hR f1
  -- the rules in it
  simp only [wp_mb, wp_gR, wp_aL, wp_vc, zk, zl, true_and, r79 hR1, r81 hR1, cl, p1, wp_eq (layP hR1 hop)]
  refine ⟨ibc, ?_⟩
  have g1 : frc sNw d1 (rw8 d1.1 75 (pS ac f (aW wa c wn) n), d1.2) := fN_75 d1 _
  have r81' : (rw8 d1.1 75 (pS ac f (aW wa c wn) n), d1.2).2.2 65 30 = 81 := r81 hR1
  try simp only [r81']
  have hR1' := MRf_fr hR1 g1
  refine wp_mono (rulesM hR1' ((hM.fL (fB_L f1)).fN g1) hop (now_75 d1 _)) (fun z d2 ⟨a1, a2⟩ => ?_)
  subst a1
  have sEN : ∀ {d d'}, frc sE d d' → frc sNw d d' := fun h => frc_w h fun _ _ h q => h (Or.inr q)
  rw [wp_sI, cl]
  refine ⟨⟨rfl, ibc⟩, ?_⟩
  generalize hd3 : ((u2 d2.1 81 c (nI (rb ev (pS ac f (aW wa c wn) n) r)), d2.2) : Dm) = d3
  have f2 : frc sNw d1 d2 := frc_t g1 (sEN a2)
  have f3 : frc (sBd c) d d3 := by
    rw [← hd3]
    exact frc_I (frc_t f1 (fB_N f2)) 81 c _ (Or.inl ⟨by omega, rfl⟩)
  have p3 : d3.2.1 79 c = lN (num (pS ac f (aW wa c wn) n)) := by rw [← hd3]; exact (f2.l (sN_no (by omega))).trans p1
  have q3 : d3.1 81 c = nI (rb ev (pS ac f (aW wa c wn) n) r) := by rw [← hd3]; exact u2_s _ _ _ _
  have hR3 := MRf_fr hR f3
  -- healed
  simp only [wp_mb, wp_gR, wp_aL, wp_vc, zk, zl, true_and, r79 hR3, r80 hR3, cl, p3]
  refine ⟨ibc, ?_⟩
  refine wp_mono (healM hR3 (hS.fL (fB_L f3)) hop) (fun z d4 ⟨b1, _, b3⟩ => ?_)
  subst b1
  rw [wp_sL, cl]
  refine ⟨⟨rfl, ibc⟩, ?_⟩
  generalize hd5 : ((d4.1, u2 d4.2.1 80 c (lN (num (hl sv 0 ns (pS ac f (aW wa c wn) n)))), d4.2.2) : Dm) = d5
  have f5 : frc (sBd c) d d5 := by
    rw [← hd5]
    exact frc_L (frc_t f3 (fB_N b3)) 80 c _ (Or.inl ⟨by omega, rfl⟩)
  have p5 : d5.2.1 79 c = lN (num (pS ac f (aW wa c wn) n)) := by
    rw [← hd5]
    exact (u2_a d4.2.1 (show (79 : Nat) ≠ 80 by omega) c (lN (num (hl sv 0 ns (pS ac f (aW wa c wn) n)))) c).trans ((b3.l (sN_no (by omega))).trans p3)
  have q5 : d5.1 81 c = nI (rb ev (pS ac f (aW wa c wn) n) r) := by rw [← hd5]; exact (b3.i (sN_no (by omega))).trans q3
  have h5 : d5.2.1 80 c = lN (num (hl sv 0 ns (pS ac f (aW wa c wn) n))) := by rw [← hd5]; exact u2_s _ _ _ _
  have hR5 := MRf_fr hR f5
  -- the rules in it healed
  simp only [wp_mb, wp_gR, wp_aL, wp_vc, zk, zl, true_and, r80 hR5, r82 hR5, cl, h5, wp_eq (layP hR5 hoh)]
  refine ⟨ibc, ?_⟩
  have g5 : frc sNw d5 (rw8 d5.1 75 (hl sv 0 ns (pS ac f (aW wa c wn) n)), d5.2) := fN_75 d5 _
  have r82' : (rw8 d5.1 75 (hl sv 0 ns (pS ac f (aW wa c wn) n)), d5.2).2.2 65 31 = 82 := r82 hR5
  try simp only [r82']
  have hR5' := MRf_fr hR5 g5
  refine wp_mono (rulesM hR5' ((hM.fL (fB_L f5)).fN g5) hoh (now_75 d5 _)) (fun z d6 ⟨c1, c2⟩ => ?_)
  subst c1
  rw [wp_sI, cl]
  refine ⟨⟨rfl, ibc⟩, ?_⟩
  generalize hd7 : ((u2 d6.1 82 c (nI (rb ev (hl sv 0 ns (pS ac f (aW wa c wn) n)) r)), d6.2) : Dm) = d7
  have f6 : frc sNw d5 d6 := frc_t g5 (sEN c2)
  have f7 : frc (sBd c) d d7 := by
    rw [← hd7]
    exact frc_I (frc_t f5 (fB_N f6)) 82 c _ (Or.inl ⟨by omega, rfl⟩)
  have p7 : d7.2.1 79 c = lN (num (pS ac f (aW wa c wn) n)) := by rw [← hd7]; exact (f6.l (sN_no (by omega))).trans p5
  have h7 : d7.2.1 80 c = lN (num (hl sv 0 ns (pS ac f (aW wa c wn) n))) := by rw [← hd7]; exact (f6.l (sN_no (by omega))).trans h5
  have q7 : d7.1 81 c = nI (rb ev (pS ac f (aW wa c wn) n) r) := by
    rw [← hd7]
    exact (u2_a d6.1 (show (81 : Nat) ≠ 82 by omega) c (nI (rb ev (hl sv 0 ns (pS ac f (aW wa c wn) n)) r)) c).trans ((f6.i (sN_no (by omega))).trans q5)
  have u7 : d7.1 82 c = nI (rb ev (hl sv 0 ns (pS ac f (aW wa c wn) n)) r) := by rw [← hd7]; exact u2_s _ _ _ _
  have hR7 := MRf_fr hR f7
  -- steady
  simp only [wp_mb, wp_gR, wp_aL, wp_vc, zk, zl, true_and, r79 hR7, r83 hR7, cl, p7]
  refine ⟨ibc, ?_⟩
  refine wp_mono (steadyM hR7 (hS.fL (fB_L f7)) hop) (fun z d8 ⟨e1, e2⟩ => ?_)
  subst e1
  simp only [wp_mb, wp_sZ, wp_ml, wp_mp, zk, zl, true_and, cl, nI_1]
  refine ⟨⟨ibc, bI_01' _⟩, frc_I (frc_t f7 (fB_N e2)) 83 c _ (Or.inl ⟨by omega, rfl⟩), ?_, ?_, ?_, ?_, u2_s d8.1 83 c (bI (sd sv ns (pS ac f (aW wa c wn) n)))⟩
  · exact (e2.l (sN_no (by omega))).trans p7
  · exact (e2.l (sN_no (by omega))).trans h7
  · exact (u2_a d8.1 (show (81 : Nat) ≠ 83 by omega) c (bI (sd sv ns (pS ac f (aW wa c wn) n))) c).trans ((e2.i (sN_no (by omega))).trans q7)
  · exact (u2_a d8.1 (show (82 : Nat) ≠ 83 by omega) c (bI (sd sv ns (pS ac f (aW wa c wn) n))) c).trans ((e2.i (sN_no (by omega))).trans u7)
theorem WAp_0 (ac : Nat → Ac) (wa : Nat → Nat) : WAp ac 0 wa 0 := ⟨fun v hv => by omega, fun u v _ hv => by omega, fun i hi => by omega⟩
theorem WAp_no {i : Nat} (h : WAp ac i wa wn) (hw : isw (ac i) = false) : WAp ac (i + 1) wa wn := ⟨fun v hv => ⟨by have := (h.1 v hv).1; omega, (h.1 v hv).2⟩, h.2.1, fun j hj hjw => by
  by_cases e : j = i
  · rw [e, hw] at hjw; cases hjw
  · exact h.2.2 j (by omega) hjw⟩
theorem WAp_yes {i : Nat} (h : WAp ac i wa wn) (hw : isw (ac i) = true) : WAp ac (i + 1) (setA wa wn i) (wn + 1) := by
  refine ⟨fun v hv => ?_, fun u v huv hv => ?_, fun j hj hjw => ?_⟩
  · by_cases e : v = wn
    · rw [e, setA_s]; exact ⟨by omega, hw⟩
    · rw [setA_n _ _ e]
      have := h.1 v (by omega)
      exact ⟨by omega, this.2⟩
  · have hu := (h.1 u (by omega)).1
    rw [setA_n _ _ (show u ≠ wn by omega)]
    by_cases e : v = wn
    · rw [e, setA_s]; omega
    · rw [setA_n _ _ e]; exact h.2.1 u v huv (by omega)
  · by_cases e : j = i
    · exact ⟨wn, by omega, by rw [setA_s, e]⟩
    · obtain ⟨v, h1, h2⟩ := h.2.2 j (by omega) hjw
      exact ⟨v, by omega, by rw [setA_n _ _ (by omega)]; exact h2⟩
theorem layAll_eq (hR : MRf d.2.2) (hP : MP r n ac f d) (hM : MR r ev A d) (hS : MS ns sv d) (hL : MLd r n ac f ev sv ns d) : wp (Mod_layAll 65) d (fun _ d' => frc sLd d d' ∧ d'.1 65 27 = 1 ∧ ∃ wa wn, LT r n ac f ev sv ns wa wn d') := by
  have hn := hP.1.1
  unfold Mod_layAll
  simp only [wp_mb, wp_gI, zk, true_and]
  rcases hL with h0 | ⟨h1, h2⟩
  · rw [if_pos h0]
    simp only [wp_mb, wp_pI, wp_ml, zk, true_and]
    unfold Mod_layAll_14
    refine wp_up (fun i s dd => s = nI i ∧ frc sLd d dd ∧ ∃ wa wn, WT ac i wa wn dd) n ?_ (i := 0) (by omega) ⟨rfl, fr_uI d 65 34 0 (Or.inr (Or.inl ⟨rfl, Or.inr rfl⟩)), fun _ => 0, 0, u2_s d.1 65 34 0, fun v hv => by omega, WAp_0 ac _⟩
    intro i s dd hi ⟨e1, hf, wa, wn, hW⟩
    subst e1
    have hR2 := MRf_fr hR hf
    have hP2 := hP.fL hf
    have hwn := hW.2.2.le
    unfold Mod_layAll_14_b
    simp only [wp_mb, wp_gI, zk, true_and, hP2.2.1]
    by_cases hx : i = n
    · subst hx
      rw [if_pos (nI_le (Nat.le_refl _) (by omega))]
      simp only [wp_mr, wp_ml]
      have h12 : 2 ^ wn ≤ 4096 := p31 (by omega)
      unfold Mod_layAll_58
      refine wp_up (fun c s d2 => s = nI c ∧ frc sLd d d2 ∧ WT ac i wa wn d2 ∧ ∀ c', c' < c → LTc r i ac f ev sv ns (aW wa c' wn) c' d2) (2 ^ wn) ?_ (i := 0) (Nat.zero_le _) ⟨rfl, hf, hW, fun c' hc' => by omega⟩
      intro c s d2 hc ⟨e1, hf2, hW2, hT⟩
      subst e1
      have hR3 := MRf_fr hR hf2
      unfold Mod_layAll_58_b
      rw [wp_mb, wp_gI]
      refine ⟨rfl, ?_⟩
      rw [hW2.1, sh1 (by omega)]
      by_cases hxc : c = 2 ^ wn
      · rw [if_pos (nI_le (by omega) (by omega))]
        simp only [wp_mr, wp_mb, wp_pZ, wp_mp, zk, true_and]
        refine ⟨Or.inr trivial, frc_I hf2 65 27 1 (Or.inr (Or.inl ⟨rfl, Or.inl rfl⟩)), u2_s d2.1 65 27 1, wa, wn, ⟨?_, fun v hv => ?_, hW2.2.2⟩, fun c' hc' => ?_⟩
        · show u2 d2.1 65 27 1 65 34 = _
          rw [u2_k _ _ _ (by omega)]; exact hW2.1
        · show u2 d2.1 65 27 1 84 v = _
          rw [u2_a _ (by omega)]; exact hW2.2.1 v hv
        · obtain ⟨t1, t2, t3, t4, t5⟩ := hT c' (by omega)
          refine ⟨t1, t2, ?_, ?_, ?_⟩
          · show u2 d2.1 65 27 1 81 c' = _
            rw [u2_a _ (by omega)]; exact t3
          · show u2 d2.1 65 27 1 82 c' = _
            rw [u2_a _ (by omega)]; exact t4
          · show u2 d2.1 65 27 1 83 c' = _
            rw [u2_a _ (by omega)]; exact t5
      · rw [if_neg (nI_ge (by omega) (by omega))]
        refine wp_mono (lay_body hR3 (hP.fL hf2) (hM.fL hf2) (hS.fL hf2) hW2 (show c < 2 ^ wn by omega)) (fun z d3 ⟨g1, g2, g3⟩ => ?_)
        subst g1
        refine ⟨by omega, rfl, frc_t hf2 (fB_L g2), hW2.fB g2, fun c' hc' => ?_⟩
        by_cases ec : c' = c
        · rw [ec]; exact g3
        · exact (hT c' (by omega)).fB g2 ec
    · rw [if_neg (nI_ge (by omega) (by omega))]
      simp only [wp_mb, wp_vc, zk, true_and, wp_eq (isWriteM hR2 hP2 (show i < n by omega))]
      unfold Mod_layAll_50
      have r84 : dd.2.2 65 33 = 84 := hR2.2.2.2.2.2.2.2.2.2.2.2.2.2.2.2.2.2.2.1
      cases hw : isw (ac i) with
      | false =>
        rw [if_pos (by decide)]
        simp only [wp_ml, wp_mp, nI_1]
        exact ⟨by omega, trivial, hf, wa, wn, hW.1, hW.2.1, WAp_no hW.2.2 hw⟩
      | true =>
        rw [if_neg (by decide)]
        have e34 : u2 dd.1 84 wn (nI i) 65 34 = nI wn := by rw [u2_a _ (by omega)]; exact hW.1
        simp only [wp_mb, wp_gR, wp_gI, wp_sI, wp_pI, wp_ml, wp_mp, zk, zl, true_and, r84, hW.1, nI_clamp (show wn < 2 ^ 31 by omega), e34, nI_1]
        refine ⟨ib_nI (by omega) (by omega), by omega, frc_I (frc_I hf 84 wn _ (Or.inl (by omega))) 65 34 _ (Or.inr (Or.inl ⟨rfl, Or.inr rfl⟩)), setA wa wn i, wn + 1, u2_s (u2 dd.1 84 wn (nI i)) 65 34 (nI (wn + 1)), fun v hv => ?_, WAp_yes hW.2.2 hw⟩
        show u2 (u2 dd.1 84 wn (nI i)) 65 34 (nI (wn + 1)) 84 v = _
        rw [u2_a _ (by omega)]
        by_cases ev' : v = wn
        · rw [ev', u2_s, setA_s]
        · rw [u2_k _ _ _ ev', setA_n _ _ ev']
          exact hW.2.1 v (by omega)
  · rw [if_neg (show ¬ d.1 65 27 = 0 by rw [h1]; decide), wp_mp]
    exact ⟨frc_rf d, h1, h2⟩
end
