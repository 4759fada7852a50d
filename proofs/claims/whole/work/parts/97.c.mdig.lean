/-! ===== pure: the reference's digest ===== -/
theorem pS_zero {ac : Nat → Ac} {f : Pl} : ∀ n, pS ac f 0 n = f
  | 0 => rfl
  | n + 1 => by
    simp only [pS]
    rw [pS_zero n]
    simp
theorem dgC_cong {g g' : Nat → Int32} {h : Int64} : ∀ {m : Nat}, (∀ i, i < m → g i = g' i) → dgC g h m = dgC g' h m
  | 0, _ => rfl
  | m + 1, hh => by
    simp only [dgC]
    rw [dgC_cong (fun i hi => hh i (by omega)), hh m (by omega)]
section
variable {r n ns A : Nat} {ac : Nat → Ac} {f : Pl} {ev : Nat → Pl → Bool} {sv : Nat → Pl → Pl} {t : Nat → Nat} {pn : Nat} {bc fc : Int32} {fd : Nat} {d : Dm}
/-- the digest under way -/
def JD (r n : Nat) (ac : Nat → Ac) (f : Pl) (ev : Nat → Pl → Bool) (sv : Nat → Pl → Pl) (ns A : Nat) (t : Nat → Nat) (pn : Nat) (bc fc : Int32) (fd : Nat) (d : Dm) (h : Int64) (d' : Dm) : Prop := frc s65 d d' ∧ MJ r n ac f ev sv ns A t pn bc fc fd d' ∧ d'.2.1 65 43 = h
theorem JD.P {d1 d2 : Dm} {h : Int64} (hJ : JD r n ac f ev sv ns A t pn bc fc fd d h d1) (hf : frc sPl d1 d2) (hX : MX r n ac f ev sv ns A d2) : JD r n ac f ev sv ns A t pn bc fc fd d h d2 := ⟨frc_t hJ.1 (f65_P hf), hJ.2.1.P hf hX, (hf.1 65 43 (ns_P (by unfold crM; omega))).2.trans hJ.2.2⟩
theorem JD.N {d1 d2 : Dm} {h : Int64} (hJ : JD r n ac f ev sv ns A t pn bc fc fd d h d1) (hf : frc sNw d1 d2) : JD r n ac f ev sv ns A t pn bc fc fd d h d2 := hJ.P (fP_N hf) (hJ.2.1.1.fN hf)
theorem mixM {d1 : Dm} {h : Int64} (hJ : JD r n ac f ev sv ns A t pn bc fc fd d h d1) (v : Int64) : wp (Mod_mix 65 v) d1 (fun _ d2 => JD r n ac f ev sv ns A t pn bc fc fd d ((31 : Int64) * h + v) d2) := by
  unfold Mod_mix
  simp only [wp_mb, wp_gL, wp_pL, wp_mp, zk, true_and, hJ.2.2]
  have hf : frc (fun x j => x = 65 ∧ j = 43) d1 (d1.1, u2 d1.2.1 65 43 ((31 : Int64) * h + v), d1.2.2) := frc_L (frc_rf d1) 65 43 _ ⟨rfl, rfl⟩
  exact ⟨frc_t hJ.1 (frc_w hf fun x j hx q => hx (by unfold s65; omega)), ⟨hJ.2.1.1.fco hf (fun x j hx q => by unfold coM at hx; omega), hJ.2.1.2.1.fr hf (by omega) (fun j => by omega), hJ.2.1.2.2.fr hf (fun j a b => by omega)⟩, u2_s d1.2.1 65 43 _⟩
theorem dig226 {d1 : Dm} {h : Int64} (hJ : JD r n ac f ev sv ns A t pn bc fc fd d h d1) : wp (Mod_digest_226 65 0) d1 (fun z d2 => frc s65 d d2 ∧ MJ r n ac f ev sv ns A t pn bc fc fd d2 ∧ z = dgC (fun m => cnS n r ns pn fd ac (nI m)) h 7) := by
  unfold Mod_digest_226
  refine wp_up (fun m s dd => s = nI m ∧ JD r n ac f ev sv ns A t pn bc fc fd d (dgC (fun m => cnS n r ns pn fd ac (nI m)) h m) dd) 7 ?_ (i := 0) (by omega) ⟨rfl, hJ⟩
  intro m s dd hm ⟨e1, hd⟩
  subst e1
  unfold Mod_digest_226_b
  by_cases hx : m = 7
  · subst hx
    rw [if_pos (by decide)]
    simp only [wp_mr, wp_mb, wp_gL, wp_mp, zk, true_and, hd.2.2]
    exact ⟨hd.1, hd.2.1, trivial⟩
  · rw [if_neg (show ¬ (7 : Int32) ≤ nI m from nI_ge (b := 7) (by omega) (by omega))]
    simp only [wp_mb, wp_vc, zk, true_and, wp_eq (countOfM hd.2.1 (nI m))]
    refine wp_mono (mixM hd _) (fun _ d2 h2 => ?_)
    simp only [wp_ml, wp_mp, nI_1]
    exact ⟨by omega, trivial, h2⟩
theorem dig199 {d1 : Dm} {h : Int64} (hJ : JD r n ac f ev sv ns A t pn bc fc fd d h d1) : wp (Mod_digest_199 65 0) d1 (fun z d2 => frc s65 d d2 ∧ MJ r n ac f ev sv ns A t pn bc fc fd d2 ∧ z = dgC (fun m => cnS n r ns pn fd ac (nI m)) (dgC (fun i => nI (t i)) h pn) 7) := by
  have hpn := hJ.2.1.2.1.1
  unfold Mod_digest_199
  refine wp_up (fun m s dd => s = nI m ∧ JD r n ac f ev sv ns A t pn bc fc fd d (dgC (fun i => nI (t i)) h m) dd) pn ?_ (i := 0) (by omega) ⟨rfl, hJ⟩
  intro m s dd hm ⟨e1, hd⟩
  subst e1
  have r69 : dd.2.2 65 5 = 69 := hd.2.1.1.1.1.2.2.2.1
  unfold Mod_digest_199_b
  simp only [wp_mb, wp_gI, zk, true_and, hd.2.1.2.1.2.1]
  by_cases hx : m = pn
  · subst hx
    rw [if_pos (nI_le (Nat.le_refl _) (by omega)), wp_mr, wp_ml]
    exact dig226 hd
  · rw [if_neg (nI_ge (by omega) (by omega))]
    simp only [wp_mb, wp_gR, wp_aI, wp_vc, zk, zl, true_and, r69, nI_clamp (show m < 2 ^ 31 by omega), (hd.2.1.2.1.2.2 m (by omega)).1]
    refine ⟨ib_nI (by omega) (by omega), wp_mono (mixM hd _) (fun _ d2 h2 => ?_)⟩
    simp only [wp_ml, wp_mp, nI_1]
    exact ⟨by omega, trivial, h2⟩
theorem dig142 {d1 : Dm} {h : Int64} (hJ : JD r n ac f ev sv ns A t pn bc fc fd d h d1) : wp (Mod_digest_142 65 (lN (num f)) 0) d1 (fun z d2 => frc s65 d d2 ∧ MJ r n ac f ev sv ns A t pn bc fc fd d2 ∧ z = dgC (fun m => cnS n r ns pn fd ac (nI m)) (dgC (fun i => nI (t i)) ((31 : Int64) * ((31 : Int64) * ((31 : Int64) * dgC (fun m => nI (szN ac f n m)) h (n + 1) + lN (num (hl sv 0 ns f))) + bc.toInt64) + fc.toInt64) pn) 7) := by
  have hn := hJ.2.1.1.1.2.1.1.1
  unfold Mod_digest_142
  refine wp_up (fun m s dd => s = nI m ∧ JD r n ac f ev sv ns A t pn bc fc fd d (dgC (fun m => nI (szN ac f n m)) h m) dd) (n + 1) ?_ (i := 0) (by omega) ⟨rfl, hJ⟩
  intro m s dd hm ⟨e1, hd⟩
  subst e1
  unfold Mod_digest_142_b
  simp only [wp_mb, wp_gI, zk, true_and, hd.2.1.1.1.2.1.2.1]
  by_cases hx : m = n + 1
  · subst hx
    rw [if_pos (nI_lt (Nat.lt_succ_self n) (by omega))]
    simp only [wp_mr, wp_mb, wp_vc, zk, true_and]
    refine wp_mono (healM hd.2.1.1.1.1 hd.2.1.1.1.2.2.2.1 hd.2.1.1.1.2.1.1.2.1) (fun z d2 ⟨a1, _, a3⟩ => ?_)
    subst a1
    refine wp_mono (mixM (hd.N a3) _) (fun _ d3 h3 => ?_)
    simp only [wp_mb, wp_gI, zk, true_and, h3.2.1.2.2.1]
    refine wp_mono (mixM h3 _) (fun _ d4 h4 => ?_)
    simp only [wp_mb, wp_gI, zk, true_and, h4.2.1.2.2.2.1]
    refine wp_mono (mixM h4 _) (fun _ d5 h5 => ?_)
    rw [wp_ml]
    exact dig199 h5
  · rw [if_neg (nI_nlt (by omega) (by omega))]
    simp only [wp_mb, wp_vc, zk, true_and]
    refine wp_mono (fp_eq hd.2.1.1 (show m ≤ n by omega)) (fun _ d2 ⟨a1, a2, a3, wa, wn, s, Rk, sm, B, a4⟩ => ?_)
    have hX : MX r n ac f ev sv ns A d2 := MX.of1 a2 a3 a4.1
    have e1 := szN_eq a4.2.2.2.2.1
    simp only [wp_gI, zk, true_and, a4.2.1]
    refine wp_mono (mixM (hd.P a1 hX) _) (fun _ d3 h3 => ?_)
    simp only [wp_ml, wp_mp, nI_1]
    refine ⟨by omega, trivial, ?_⟩
    rw [← e1] at h3
    exact h3
theorem dig86 {d1 : Dm} {h : Int64} (hJ : JD r n ac f ev sv ns A t pn bc fc fd d h d1) : wp (Mod_digest_86 65 (lN (num f)) 0) d1 (fun z d2 => frc s65 d d2 ∧ MJ r n ac f ev sv ns A t pn bc fc fd d2 ∧ z = dgC (fun m => cnS n r ns pn fd ac (nI m)) (dgC (fun i => nI (t i)) ((31 : Int64) * ((31 : Int64) * ((31 : Int64) * dgC (fun m => nI (szN ac f n m)) (dgR A ev f h r) (n + 1) + lN (num (hl sv 0 ns f))) + bc.toInt64) + fc.toInt64) pn) 7) := by
  have hr := hJ.2.1.1.1.2.2.1.1
  have hok := hJ.2.1.1.1.2.1.1.2.1
  unfold Mod_digest_86
  refine wp_up (fun m s dd => s = nI m ∧ JD r n ac f ev sv ns A t pn bc fc fd d (dgR A ev f h m) dd) r ?_ (i := 0) (by omega) ⟨rfl, hJ⟩
  intro m s dd hm ⟨e1, hd⟩
  subst e1
  unfold Mod_digest_86_b
  simp only [wp_mb, wp_gI, zk, true_and, hd.2.1.1.1.2.2.1.2.1]
  by_cases hx : m = r
  · subst hx
    rw [if_pos (nI_le (Nat.le_refl _) (by omega)), wp_mr, wp_ml]
    exact dig142 hd
  · rw [if_neg (nI_ge (by omega) (by omega))]
    simp only [wp_mb, wp_vc, zk, true_and, wp_eq (lay_eq hd.2.1.1.1.1 (num_lt hok))]
    have hf1 : frc sNw dd (rw8 dd.1 75 (dg 100 (num f)), dd.2) := fN_75 dd _
    have h1 := hd.N hf1
    have hnow := now_75 dd (dg 100 (num f))
    generalize ((rw8 dd.1 75 (dg 100 (num f)), dd.2) : Dm) = d2 at hf1 h1 hnow
    have r72 : d2.2.2 65 9 = 72 := h1.2.1.1.1.1.2.2.2.2.2.2.1
    have hnow2 : nowP f d2 := fun s hs => by rw [hnow s hs, dg_num hok hs]
    simp only [wp_gR, wp_aI, zk, zl, true_and, r72, nI_clamp (show m < 2 ^ 31 by omega), (h1.2.1.1.1.2.2.1.2.2 m (by omega)).1]
    refine ⟨ib_nI (by omega) (by omega), ?_⟩
    unfold Mod_digest_114
    simp only [wp_mb, wp_vc, zk, true_and]
    have hm1 : MRf d2.2.2 := h1.2.1.1.1.1
    have hkeep := mixM h1 (if bI (A.testBit m) = 0 then (0 : Int64) else 1)
    unfold Mod_mix at hkeep ⊢
    simp only [wp_mb, wp_gL, wp_pL, wp_mp, zk, true_and] at hkeep ⊢
    have hnow3 : nowP f (d2.1, u2 d2.2.1 65 43 ((31 : Int64) * d2.2.1 65 43 + if bI (A.testBit m) = 0 then (0 : Int64) else 1), d2.2.2) := hnow2
    generalize ((d2.1, u2 d2.2.1 65 43 ((31 : Int64) * d2.2.1 65 43 + if bI (A.testBit m) = 0 then (0 : Int64) else 1), d2.2.2) : Dm) = d3 at hkeep hnow3
    refine wp_mono (holdsNow_eq hkeep.2.1.1.1.1 hkeep.2.1.1.1.2.2.1 (show m < r by omega) hok hnow3) (fun z d4 ⟨b1, b2⟩ => ?_)
    subst b1
    have h4 := hkeep.N (frc_w b2 fun _ _ h q => h (Or.inr q))
    unfold Mod_digest_131
    simp only [wp_mb, wp_vc, zk, true_and]
    refine wp_mono (mixM h4 _) (fun _ d5 h5 => ?_)
    simp only [wp_ml, wp_mp, nI_1]
    refine ⟨by omega, trivial, ?_⟩
    have e2 : dgR A ev f h (m + 1) = (31 : Int64) * ((31 : Int64) * dgR A ev f h m + if bI (A.testBit m) = 0 then (0 : Int64) else 1) + if bI (ev m f) = 0 then (0 : Int64) else 1 := by
      simp only [dgR]
      cases A.testBit m <;> cases ev m f <;> rfl
    rw [e2]
    exact h5
theorem dig20 {d1 : Dm} {h : Int64} (hJ : JD r n ac f ev sv ns A t pn bc fc fd d h d1) : wp (Mod_digest_20 65 (lN (num f)) 0) d1 (fun z d2 => frc s65 d d2 ∧ MJ r n ac f ev sv ns A t pn bc fc fd d2 ∧ z = dgC (fun m => cnS n r ns pn fd ac (nI m)) (dgC (fun i => nI (t i)) ((31 : Int64) * ((31 : Int64) * ((31 : Int64) * dgC (fun m => nI (szN ac f n m)) (dgR A ev f ((31 : Int64) * dgA ac h n + lN (num (pS ac f (wm ac n) n))) r) (n + 1) + lN (num (hl sv 0 ns f))) + bc.toInt64) + fc.toInt64) pn) 7) := by
  have hn := hJ.2.1.1.1.2.1.1.1
  unfold Mod_digest_20
  refine wp_up (fun m s dd => s = nI m ∧ JD r n ac f ev sv ns A t pn bc fc fd d (dgA ac h m) dd) n ?_ (i := 0) (by omega) ⟨rfl, hJ⟩
  intro m s dd hm ⟨e1, hd⟩
  subst e1
  have r67 : dd.2.2 65 2 = 67 := hd.2.1.1.1.1.2.1
  have hP := hd.2.1.1.1.2.1
  unfold Mod_digest_20_b
  simp only [wp_mb, wp_gI, zk, true_and, hP.2.1]
  by_cases hx : m = n
  · subst hx
    rw [if_pos (nI_le (Nat.le_refl _) (by omega))]
    simp only [wp_mr, wp_mb, wp_vc, wp_ml, zk, true_and, wp_eq (endM hd.2.1.1.1.1 hP)]
    have hf1 : frc sNw dd (rw8 dd.1 75 (pS ac f (wm ac m) m), dd.2) := fN_75 dd _
    exact wp_mono (mixM (hd.N hf1) _) (fun _ d3 h3 => dig86 h3)
  · rw [if_neg (nI_ge (by omega) (by omega))]
    simp only [wp_mb, wp_gR, wp_aI, wp_vc, zk, zl, true_and, r67, nI_clamp (show m < 2 ^ 31 by omega), (hP.2.2.2 m (by omega)).1]
    refine ⟨ib_nI (by omega) (by omega), wp_mono (mixM hd _) (fun _ d2 h2 => ?_)⟩
    rw [wp_ml]
    unfold Mod_digest_42
    refine wp_up (fun k s d3 => s = nI k ∧ JD r n ac f ev sv ns A t pn bc fc fd d (dgC (ac m) (dgA ac h m) (k + 1)) d3) 4 ?_ (i := 0) (by omega) ⟨rfl, h2⟩
    intro k s d3 hk ⟨e2, h3⟩
    subst e2
    have r68 : d3.2.2 65 3 = 68 := h3.2.1.1.1.1.2.2.1
    unfold Mod_digest_42_b
    by_cases hx2 : k = 4
    · subst hx2
      rw [if_pos (by decide)]
      simp only [wp_mr, wp_ml, wp_mp, nI_1]
      exact ⟨by omega, trivial, h3⟩
    · rw [if_neg (show ¬ (4 : Int32) ≤ nI k from nI_ge (b := 4) (by omega) (by omega))]
      simp only [wp_mb, wp_gR, wp_aI, wp_vc, zk, zl, true_and, r68, i4, nI_add, nI_clamp (show 4 * m + k < 2 ^ 31 by omega), (h3.2.1.1.1.2.1.2.2.2 m (by omega)).2 k (by omega)]
      refine ⟨ib_nI (by omega) (by omega), wp_mono (mixM h3 _) (fun _ d4 h4 => ?_)⟩
      simp only [wp_ml, wp_mp, nI_1]
      exact ⟨by omega, trivial, h4⟩
theorem digestM (h : MJ r n ac f ev sv ns A t pn bc fc fd d) : wp (Mod_digest 65) d (fun z d' => frc s65 d d' ∧ MJ r n ac f ev sv ns A t pn bc fc fd d' ∧ z = dgS r n ac f ev sv ns A pn fd (fun i => nI (t i)) bc fc) := by
  unfold Mod_digest
  simp only [wp_mb, wp_pL, zk, true_and]
  have hf : frc (fun x j => x = 65 ∧ j = 43) d (d.1, u2 d.2.1 65 43 269, d.2.2) := frc_L (frc_rf d) 65 43 _ ⟨rfl, rfl⟩
  have h1 : JD r n ac f ev sv ns A t pn bc fc fd d 269 (d.1, u2 d.2.1 65 43 269, d.2.2) := ⟨frc_w hf fun x j hx q => hx (by unfold s65; omega), ⟨h.1.fco hf (fun x j hx q => by unfold coM at hx; omega), h.2.1.fr hf (by omega) (fun j => by omega), h.2.2.fr hf (fun j a b => by omega)⟩, u2_s d.2.1 65 43 269⟩
  generalize ((d.1, u2 d.2.1 65 43 269, d.2.2) : Dm) = d1 at h1
  have e0 := plateM h1.2.1.1.1.1 h1.2.1.1.1.2.1 (sub_0 (wm ac n)) (show 0 < 4096 by omega)
  rw [pS_zero] at e0
  have e1 : Mod_plateOf 65 0 d1 = some (lN (num f), (rw8 d1.1 75 f, d1.2)) := e0
  simp only [wp_vc, wp_mb, wp_ml, zk, true_and, wp_eq e1]
  have hf1 : frc sNw d1 (rw8 d1.1 75 f, d1.2) := fN_75 d1 _
  refine wp_mono (mixM (h1.N hf1) _) (fun _ d3 h3 => ?_)
  exact dig20 h3
end
