/-! ===== pure: order by the reference ===== -/
section
variable {r n ns A : Nat} {ac : Nat → Ac} {f : Pl} {ev : Nat → Pl → Bool} {sv : Nat → Pl → Pl} {d : Dm} {p : Pl} {wa : Nat → Nat} {wn : Nat}
theorem isWAt_eq (hR : MRf d.2.2) (h : MP r n ac f d) (x : Int32) : Mod_isWriteAt 65 x d = some (if (0 ≤ x ∧ x < nI n) ∧ isw (ac (cl x)) = true then 1 else 0, d) := by
  have hn := h.1.1
  apply wp_get
  unfold Mod_isWriteAt
  simp only [wp_mb, wp_gI, zk, true_and, h.2.1, wp_eq (Mod_in_eq _ _ _ _), le_pred x (show n < 2 ^ 31 by omega)]
  rcases ix_cases x (n := n) (by omega) with hx | ⟨i, hi, hx⟩
  · simp only [if_neg hx, if_true, wp_mz]
    rw [if_neg (fun q => hx q.1)]
    simp
  · subst hx
    have hh := nI_has hi (show n < 2 ^ 31 by omega)
    simp only [if_pos hh, if_neg (show ¬ (1 : Int32) = 0 by decide), wp_mb, wp_vc, zk, true_and, wp_eq (isWriteM hR h hi)]
    rw [show cl (nI i) = i from nI_clamp (by omega)]
    cases hw : isw (ac i) with
    | true =>
      rw [if_neg (by decide), wp_mz, if_pos ⟨hh, rfl⟩]
      exact ⟨Or.inr rfl, rfl, rfl⟩
    | false =>
      rw [if_pos (by decide), wp_mz, if_neg (fun q => by cases q.2)]
      exact ⟨Or.inl rfl, rfl, rfl⟩
theorem xor_2 (E i j : Nat) : (E ^^^ (E &&& 2 ^ i)) ^^^ ((E ^^^ (E &&& 2 ^ i)) &&& 2 ^ j) = E ^^^ (E &&& (2 ^ i ||| 2 ^ j)) := bits_eq fun x => by
  simp only [Nat.testBit_xor, Nat.testBit_and, Nat.testBit_or]
  cases E.testBit x <;> cases (2 ^ i).testBit x <;> cases (2 ^ j).testBit x <;> simp
theorem countOrder_eq (h : MCo r n ac f ev sv ns A d) (hT : LT r n ac f ev sv ns wa wn d) {q P E i j : Nat} (hq : q < r) (hP : sub P (wm ac n)) (hE : sub E (wm ac n)) (hi : i < n) (hj : j < n) (wj : isw (ac j) = true) : Mod_countOrder 65 (nI q) (nI P) (nI E) (nI i) (nI j) d = some (nI (fb_ct (fun m => (vdS ac f n ev r sv ns (P ||| 2 ^ j ||| dep 12 (E ^^^ (E &&& (2 ^ i ||| 2 ^ j))) m)).testBit q) (2 ^ pcn (E ^^^ (E &&& (2 ^ i ||| 2 ^ j))) 12)), d) := by
  have hn := h.2.1.1.1
  have hr := h.2.2.1.1
  have hwn := hT.1.2.2.le
  apply wp_get
  unfold Mod_countOrder
  rw [sh1 (show i < 31 by omega), sh1 (show j < 31 by omega)]
  simp only [wp_ml, andn, xor_2]
  have hF : sub (E ^^^ (E &&& (2 ^ i ||| 2 ^ j))) (wm ac n) := fun x hx => by
    rw [Nat.testBit_xor, Nat.testBit_and] at hx
    refine hE x ?_
    cases hb : E.testBit x with
    | true => rfl
    | false => rw [hb] at hx; simp at hx
  generalize E ^^^ (E &&& (2 ^ i ||| 2 ^ j)) = F at hF
  have hwl := wm_l (ac := ac) hn
  have hFl : F < 4096 := Nat.lt_of_lt_of_le (sub_lt hF (wm_lt ac n)) (p31 hn)
  have hpos : 0 < 2 ^ pcn F 12 := Nat.two_pow_pos _
  have hpl : pcn F 12 ≤ 12 := pcn_le 12 F
  have hMl : 2 ^ pcn F 12 ≤ 4096 := p31 hpl
  have hsj : sub (2 ^ j) (wm ac n) := fun x hx => by
    rw [Nat.testBit_two_pow, decide_eq_true_eq] at hx
    rw [← hx, wm_bit]; simp [hj, wj]
  generalize hM : 2 ^ pcn F 12 = M at *
  rw [← fb_ct_rev]
  have hdp : ∀ m, sub (dep 12 F m) F := fun m x hx => by
    rw [← dep_and, Nat.testBit_and] at hx
    simp at hx; exact hx.2
  have hdl : ∀ m, dep 12 F m < 4096 := fun m => by
    rw [← dep_and]
    exact Nat.lt_of_le_of_lt Nat.and_le_right hFl
  unfold Mod_countOrder_27
  refine wp_up (fun t (s : Int32 × Int32 × Int32) dd => dd = d ∧ s.1 = nI (fb_ct (fun t => (vdS ac f n ev r sv ns (P ||| 2 ^ j ||| dep 12 F (M - 1 - t))).testBit q) t) ∧ ((t < M ∧ s.2.1 = nI (dep 12 F (M - 1 - t)) ∧ s.2.2 = 1) ∨ (t = M ∧ s.2.2 = 0))) M ?_ (i := 0) (by omega) ⟨rfl, rfl, Or.inl ⟨hpos, ?_, rfl⟩⟩
  · intro t ⟨s1, s2, s3⟩ dd ht ⟨e1, e2, e3⟩
    subst e1
    dsimp only at e2 e3 ⊢
    subst e2
    unfold Mod_countOrder_27_b
    rcases e3 with ⟨g1, g2, g3⟩ | ⟨g1, g3⟩
    · subst g2; subst g3
      rw [if_neg (by decide)]
      have hS : sub (P ||| dep 12 F (M - 1 - t) ||| 2 ^ j) (wm ac n) := sub_or (sub_or hP (fun x hx => hF x (hdp _ x hx))) hsj
      have hSl : P ||| dep 12 F (M - 1 - t) ||| 2 ^ j < 2 ^ 31 := by
        have := Nat.lt_of_lt_of_le (sub_lt hS (wm_lt ac n)) (p31 hn); omega
      have hc : cW wa (P ||| dep 12 F (M - 1 - t) ||| 2 ^ j) wn < 2 ^ wn := cW_lt _ _ _
      have hc2 : 2 ^ wn ≤ 4096 := p31 (by omega)
      have hL := hT.2 _ hc
      rw [aW_cW hT.1.2.2 hS] at hL
      have r82 : dd.2.2 65 31 = 82 := h.1.2.2.2.2.2.2.2.2.2.2.2.2.2.2.2.2.1
      rw [sh1 (show j < 31 by omega), fa_or, fa_or]
      simp only [wp_mb, wp_vc, wp_gR, wp_aI, zk, zl, true_and, wp_eq (asCode_eq h.1 hT.1 hn hSl), r82, nI_clamp (show cW wa (P ||| dep 12 F (M - 1 - t) ||| 2 ^ j) wn < 2 ^ 31 by omega), hL.2.2.2.1]
      refine ⟨ib_nI (by omega) (by omega), ?_⟩
      have hrb : rb ev (hl sv 0 ns (pS ac f (P ||| dep 12 F (M - 1 - t) ||| 2 ^ j) n)) r < 2 ^ 31 := Nat.lt_of_lt_of_le (rb_lt _ _ r) (Nat.pow_le_pow_right (by omega) (by omega))
      unfold Mod_countOrder_68
      simp only [wp_ml]
      unfold Mod_countOrder_81
      simp only [wp_ml, wp_mp]
      have ez : (if (nI (rb ev (hl sv 0 ns (pS ac f (P ||| dep 12 F (M - 1 - t) ||| 2 ^ j) n)) r) >>> (nI q &&& 31)) &&& (1 : Int32) = 0 then (1 : Int32) else 0) = nI (if (vdS ac f n ev r sv ns (P ||| 2 ^ j ||| dep 12 F (M - 1 - t))).testBit q then 1 else 0) := by
        rw [vd_bit hr hq, show P ||| 2 ^ j ||| dep 12 F (M - 1 - t) = P ||| dep 12 F (M - 1 - t) ||| 2 ^ j by rw [Nat.or_assoc, Nat.or_comm (2 ^ j), ← Nat.or_assoc]]
        by_cases hb : (rb ev (hl sv 0 ns (pS ac f (P ||| dep 12 F (M - 1 - t) ||| 2 ^ j) n)) r).testBit q = false
        · rw [if_pos ((bit_0 hrb (by omega)).mpr hb)]
          rw [rb_bit] at hb
          simp [hq] at hb
          rw [hb]; rfl
        · rw [if_neg (fun q1 => hb ((bit_0 hrb (by omega)).mp q1))]
          rw [rb_bit] at hb
          simp [hq] at hb
          rw [hb]; rfl
      rw [ez, nI_add]
      refine ⟨by omega, trivial, by rw [fb_ct_succ], ?_⟩
      by_cases hl : t + 1 = M
      · right
        refine ⟨hl, ?_⟩
        rw [show M - 1 - t = 0 by omega, dep_0]
        rfl
      · left
        have hp := dep_pos 12 F (M - 1 - t) (by omega) (by rw [hM]; omega)
        refine ⟨by omega, ?_, ?_⟩
        · rw [show (1 : Int32) = nI 1 from rfl, pk_sub (by omega), fa_and]
          have := dep_prv 12 F (M - 1 - (t + 1)) (by rw [show M - 1 - (t + 1) + 1 = M - 1 - t by omega]; exact hp)
          rw [show M - 1 - (t + 1) + 1 = M - 1 - t by omega] at this
          rw [this]
        · have := hdl (M - 1 - t)
          rw [if_neg (nI_ne0 hp (by omega))]
    · subst g1; subst g3
      rw [if_pos rfl, wp_mr, wp_mp]
      exact ⟨rfl, rfl⟩
  · rw [← hM, Nat.sub_zero, dep_top 12 F hFl]
theorem crM_Ep {x j : Nat} (h : crM x j) : ¬ sEp x j := fun q => crM_Fs h (Or.inr q)
theorem tbM_Ep {x j : Nat} (h : tbM x j) : ¬ sEp x j := fun q => tbM_Fs h (Or.inr q)
theorem orderM (h : MX r n ac f ev sv ns A d) (x y w : Int32) : wp (Mod_order 65 x y w) d (fun z d' => frc sPl d d' ∧ MX r n ac f ev sv ns A d' ∧ (((¬ (0 ≤ x ∧ x < nI r) ∨ ¬ ((0 ≤ y ∧ y < nI n) ∧ isw (ac (cl y)) = true) ∨ ¬ ((0 ≤ w ∧ w < nI n) ∧ isw (ac (cl w)) = true) ∨ y = w) ∧ z = -101) ∨ ∃ q i j, q < r ∧ i < n ∧ j < n ∧ x = nI q ∧ y = nI i ∧ w = nI j ∧ i ≠ j ∧ isw (ac i) = true ∧ isw (ac j) = true ∧ (((eS ac i ≠ eS ac j ∨ eS ac i < blf ac n) ∧ z = -103) ∨ (eS ac i = eS ac j ∧ blf ac n ≤ eS ac i ∧ z = nI (fb_ct (fun m => (vdS ac f n ev r sv ns (wm ac (eS ac i) ||| 2 ^ j ||| dep 12 (odF ac n i j) m)).testBit q) (2 ^ pcn (odF ac n i j) 12)))))) := by
  have hn := h.1.2.1.1.1
  have hr := h.1.2.2.1.1
  unfold Mod_order
  simp only [wp_mb, wp_gI, zk, true_and, h.1.2.2.1.2.1, wp_eq (Mod_in_eq _ _ _ _), le_pred x (show r < 2 ^ 31 by omega)]
  rcases ix_cases x (n := r) (by omega) with hx | ⟨q, hq, hx⟩
  · simp only [if_neg hx, if_true, wp_mp]
    exact ⟨frc_rf d, h, Or.inl ⟨Or.inl hx, trivial⟩⟩
  subst hx
  simp only [if_pos (nI_has hq (show r < 2 ^ 31 by omega)), if_neg (show ¬ (1 : Int32) = 0 by decide), wp_mb, wp_vc, zk, true_and, wp_eq (isWAt_eq h.1.1 h.1.2.1 y)]
  rcases (Classical.em ((0 ≤ y ∧ y < nI n) ∧ isw (ac (cl y)) = true)).symm with hy | hy
  · simp only [if_neg hy, if_true, wp_mp]
    exact ⟨frc_rf d, h, Or.inl ⟨Or.inr (Or.inl hy), trivial⟩⟩
  simp only [if_pos hy, if_neg (show ¬ (1 : Int32) = 0 by decide), wp_mb, wp_vc, zk, true_and, wp_eq (isWAt_eq h.1.1 h.1.2.1 w)]
  rcases (Classical.em ((0 ≤ w ∧ w < nI n) ∧ isw (ac (cl w)) = true)).symm with hz | hz
  · simp only [if_neg hz, if_true, wp_mp]
    exact ⟨frc_rf d, h, Or.inl ⟨Or.inr (Or.inr (Or.inl hz)), trivial⟩⟩
  rw [if_pos hz, if_neg (show ¬ (1 : Int32) = 0 by decide)]
  refine wp_if (fun hyw => wp_mp.mpr ⟨frc_rf d, h, Or.inl ⟨Or.inr (Or.inr (Or.inr hyw)), rfl⟩⟩) (fun hyw => ?_)
  rcases ix_cases y (n := n) (by omega) with hy' | ⟨i, hi, hy'⟩
  · exact absurd hy.1 hy'
  subst hy'
  rcases ix_cases w (n := n) (by omega) with hz' | ⟨j, hj, hz'⟩
  · exact absurd hz.1 hz'
  subst hz'
  have ei : isw (ac i) = true := by have := hy.2; rw [show cl (nI i) = i from nI_clamp (by omega)] at this; exact this
  have ej : isw (ac j) = true := by have := hz.2; rw [show cl (nI j) = j from nI_clamp (by omega)] at this; exact this
  have hij : i ≠ j := fun e => hyw (by rw [e])
  have stt : ∀ {z : Int32} {d' : Dm}, frc sPl d d' → MX r n ac f ev sv ns A d' → (((eS ac i ≠ eS ac j ∨ eS ac i < blf ac n) ∧ z = -103) ∨ (eS ac i = eS ac j ∧ blf ac n ≤ eS ac i ∧ z = nI (fb_ct (fun m => (vdS ac f n ev r sv ns (wm ac (eS ac i) ||| 2 ^ j ||| dep 12 (odF ac n i j) m)).testBit q) (2 ^ pcn (odF ac n i j) 12)))) → frc sPl d d' ∧ MX r n ac f ev sv ns A d' ∧ (((¬ (0 ≤ nI q ∧ nI q < nI r) ∨ ¬ ((0 ≤ nI i ∧ nI i < nI n) ∧ isw (ac (cl (nI i))) = true) ∨ ¬ ((0 ≤ nI j ∧ nI j < nI n) ∧ isw (ac (cl (nI j))) = true) ∨ nI i = nI j) ∧ z = -101) ∨ ∃ q' i' j', q' < r ∧ i' < n ∧ j' < n ∧ nI q = nI q' ∧ nI i = nI i' ∧ nI j = nI j' ∧ i' ≠ j' ∧ isw (ac i') = true ∧ isw (ac j') = true ∧ (((eS ac i' ≠ eS ac j' ∨ eS ac i' < blf ac n) ∧ z = -103) ∨ (eS ac i' = eS ac j' ∧ blf ac n ≤ eS ac i' ∧ z = nI (fb_ct (fun m => (vdS ac f n ev r sv ns (wm ac (eS ac i') ||| 2 ^ j' ||| dep 12 (odF ac n i' j') m)).testBit q') (2 ^ pcn (odF ac n i' j') 12))))) :=
    fun a b c => ⟨a, b, Or.inr ⟨q, i, j, hq, hi, hj, rfl, rfl, rfl, hij, ei, ej, c⟩⟩
  have hv : ∀ {α : Type} {M : MM α}, vc ZF 12 65 M = M := fun {α M} => by
    funext d
    unfold vc
    rw [if_pos (show ZF.2.1 65 = 12 from rfl)]
  have e0 : ∀ k : MM Int32, (mb (vc ZF 12 65 (Mod_layAll 65)) fun _ => mb (vc ZF 12 65 (Mod_putNothing 65)) fun _ => k) = (mb (vc ZF 12 65 (Mod_layAll 65)) fun _ => mb (Mod_putNothing 65) fun _ => k) := fun k => by rw [hv (M := Mod_putNothing 65)]
  rw [e0]
  refine wp_mb2 (wp_mono (laid0 h) (fun _ d1 ⟨g1, g2, g3, ⟨wa, wn, hT⟩, g5⟩ => ?_))
  simp only [wp_mb, wp_gI, wp_vc, zk, true_and, g2.2.1.2.1]
  refine wp_mono (cutE_eq g2.1 g2.2.1 hT.1.2.2 (W := wm ac n) (ab := 0) (pt := fun _ => 0) (fun i hi => by rw [wm_bit]; simp [hi]) (by omega) (fun i _ hh => by simp at hh) (fun i hi => ⟨g5 i hi, by omega⟩) (Nat.le_refl n)) (fun _ d2 ⟨k1, Q, E, rc, hEM, hRE, hEB⟩ => ?_)
  have hX : MX r n ac f ev sv ns A d2 := MX.of1 (g2.fr k1 (fun x j => crM_Ep)) ((k1.i (by unfold sEp; omega)).trans g3) (hT.fr k1 (fun x j => tbM_Ep))
  have hT2 := hT.fr k1 (fun x j => tbM_Ep)
  have hfd : frc sPl d d2 := frc_t g1 (fP_Fs (frc_w k1 fun _ _ h q => h (Or.inr q)))
  obtain ⟨σ, hS⟩ := SG_all (ac := ac) (n := n) (k := n) (Nat.le_refl n)
  have hre := hRE.2.2.2
  rw [gS_h] at hre
  rw [hre] at hS
  dsimp only at hS
  have hboth := hS.both hi hj ei ej
  have hpre := hS.pre
  obtain ⟨b1, b2, b3, b4, b5⟩ := hEB
  have r86 : d2.2.2 65 36 = 86 := hX.1.1.2.2.2.2.2.2.2.2.2.2.2.2.2.2.2.2.2.2.2.2.1
  rw [hEM.2.1]
  simp only [wp_ml]
  unfold Mod_order_64
  have hEl : ∀ e, e ≤ Q → E e < 2 ^ 31 := fun e he => by
    have := Nat.lt_of_lt_of_le (sub_lt (b2 e he) (wm_lt ac n)) (p31 hn); omega
  refine wp_up (fun e (s : Int32 × Int32) dd => dd = d2 ∧ s = (nI (prE rc E e), nI e) ∧ ∀ e', e' < e → ¬ ((E e').testBit i = true ∧ (E e').testBit j = true)) (Q + 1) ?_ (i := 0) (by omega) ⟨rfl, rfl, fun e' he' => by omega⟩
  intro e s dd he ⟨e1, e2, e3⟩
  subst e1; subst e2
  unfold Mod_order_64_b
  dsimp only
  simp only [wp_mb, wp_gI, zk, true_and, hEM.1]
  by_cases hx : e = Q + 1
  · subst hx
    rw [if_pos (nI_le (Nat.le_refl _) (by omega)), wp_mr, wp_mp]
    refine stt hfd hX (Or.inl ⟨?_, rfl⟩)
    refine Classical.byContradiction fun hh => ?_
    have : eS ac i = eS ac j ∧ blf ac n ≤ eS ac i := by
      constructor
      · exact Classical.byContradiction fun q => hh (Or.inl q)
      · exact Classical.byContradiction fun q => hh (Or.inr (by omega))
    obtain ⟨e', h1, h2, h3⟩ := hboth.mpr this
    exact e3 e' (by omega) ⟨h2, h3⟩
  · have heQ : e ≤ Q := by omega
    rw [if_neg (nI_ge (by omega) (by omega))]
    have go : ¬ ((E e).testBit i = true ∧ (E e).testBit j = true) → wp (Mod_order_120 65 (nI q) (nI i) (nI j) (nI (prE rc E e)) (nI e)) dd (fun z d' => match z with
        | .inl a' => e < Q + 1 ∧ d' = dd ∧ a' = (nI (prE rc E (e + 1)), nI (e + 1)) ∧ ∀ e', e' < e + 1 → ¬ ((E e').testBit i = true ∧ (E e').testBit j = true)
        | .inr z => frc sPl d d' ∧ MX r n ac f ev sv ns A d' ∧ (((¬ (0 ≤ nI q ∧ nI q < nI r) ∨ ¬ ((0 ≤ nI i ∧ nI i < nI n) ∧ isw (ac (cl (nI i))) = true) ∨ ¬ ((0 ≤ nI j ∧ nI j < nI n) ∧ isw (ac (cl (nI j))) = true) ∨ nI i = nI j) ∧ z = -101) ∨ ∃ q' i' j', q' < r ∧ i' < n ∧ j' < n ∧ nI q = nI q' ∧ nI i = nI i' ∧ nI j = nI j' ∧ i' ≠ j' ∧ isw (ac i') = true ∧ isw (ac j') = true ∧ (((eS ac i' ≠ eS ac j' ∨ eS ac i' < blf ac n) ∧ z = -103) ∨ (eS ac i' = eS ac j' ∧ blf ac n ≤ eS ac i' ∧ z = nI (fb_ct (fun m => (vdS ac f n ev r sv ns (wm ac (eS ac i') ||| 2 ^ j' ||| dep 12 (odF ac n i' j') m)).testBit q') (2 ^ pcn (odF ac n i' j') 12)))))) := by
      intro hno
      unfold Mod_order_120
      simp only [wp_mb, wp_gR, wp_aI, wp_ml, wp_mp, zk, zl, true_and, r86, nI_clamp (show e < 2 ^ 31 by omega), hEM.2.2 e heQ, fa_or, nI_1]
      refine ⟨ib_nI (by omega) (by omega), by omega, rfl, fun e' he' => ?_⟩
      by_cases hx2 : e' = e
      · rw [hx2]; exact hno
      · exact e3 e' (by omega)
    simp only [wp_mb, wp_gR, wp_aI, zk, zl, true_and, r86, nI_clamp (show e < 2 ^ 31 by omega), hEM.2.2 e heQ]
    refine ⟨ib_nI (by omega) (by omega), ?_⟩
    by_cases hb1 : (E e).testBit i = true
    · rw [if_pos ((bit_1 (hEl e heQ) (by omega)).mpr hb1)]
      simp only [wp_mb, wp_gR, wp_aI, zk, zl, true_and, r86, nI_clamp (show e < 2 ^ 31 by omega), hEM.2.2 e heQ]
      refine ⟨ib_nI (by omega) (by omega), ?_⟩
      by_cases hb2 : (E e).testBit j = true
      · rw [if_pos ((bit_1 (hEl e heQ) (by omega)).mpr hb2)]
        obtain ⟨x1, x2, x3, x4⟩ := hS.at heQ hb1
        have hsp : sub (prE rc E e) (wm ac n) := prE_sub (fun j hj => b2 j (by omega)) b3
        simp only [wp_mr, wp_mb, wp_gR, wp_aI, wp_vc, wp_mp, zk, zl, true_and, r86, nI_clamp (show e < 2 ^ 31 by omega), hEM.2.2 e heQ, wp_eq (countOrder_eq hX.1 hT2 hq hsp (b2 e heQ) hi hj ej)]
        refine ⟨ib_nI (by omega) (by omega), ?_⟩
        obtain ⟨y1, y2⟩ := hboth.mp ⟨e, heQ, hb1, hb2⟩
        refine stt hfd hX (Or.inr ⟨y1, y2, ?_⟩)
        have e4 := hS.ep heQ x1 x2 hi
        unfold odF
        rw [x4, ← e4, hpre e (by omega)]
      · rw [if_neg (fun q => hb2 ((bit_1 (hEl e heQ) (by omega)).mp q))]
        exact wp_mono (go (fun q => hb2 q.2)) (fun z d' hh => by cases z <;> exact hh)
    · rw [if_neg (fun q => hb1 ((bit_1 (hEl e heQ) (by omega)).mp q))]
      exact wp_mono (go (fun q => hb1 q.1)) (fun z d' hh => by cases z <;> exact hh)
end
