/-! ===== pure: rule and step of the class, whole ===== -/
theorem okA_up {r r' : Nat} {a : Ac} (h : okA r a) (hr : r ≤ r') : okA r' a := by
  rcases h with h | h | h | ⟨h1, ⟨j, hj, h2⟩, h3⟩
  · exact Or.inl h
  · exact Or.inr (Or.inl h)
  · exact Or.inr (Or.inr (Or.inl h))
  · exact Or.inr (Or.inr (Or.inr ⟨h1, ⟨j, by omega, h2⟩, h3⟩))
/-- row 1, and all that isn't the class's -/
def frZ (d d' : Dm) : Prop := ∀ x, (x = 1 ∨ 61 ≤ x) → d'.1 x = d.1 x ∧ d'.2.1 x = d.2.1 x ∧ d'.2.2 x = d.2.2 x
theorem frZ_rf (d : Dm) : frZ d d := fun _ _ => ⟨rfl, rfl, rfl⟩
theorem frZ_tr {d d' d'' : Dm} (h : frZ d d') (h2 : frZ d' d'') : frZ d d'' := fun x hx => ⟨(h2 x hx).1.trans (h x hx).1, (h2 x hx).2.1.trans (h x hx).2.1, (h2 x hx).2.2.trans (h x hx).2.2⟩
theorem frR.Z {d d' : Dm} (h : frR d d') : frZ d d' := fun x hx => ⟨h.1 x (by omega), by rw [h.2], by rw [h.2]⟩
theorem frY.Z {d d' : Dm} (h : frY d d') : frZ d d' := fun x hx => h x (by omega)
section
variable {r n ns st A : Nat} {ac : Nat → Ac} {f : Pl} {ev : Nat → Pl → Bool} {sv : Nat → Pl → Pl} {t : Nat → Nat} {pn : Nat} {d : Dm}
theorem CX.fR {d' : Dm} (h : CX r n ac f ev sv ns st A d) (hf : frR d d') : CX r n ac f ev sv ns st A d' := h.keep (fun x hx => hf.1 x (by omega)) hf.2
theorem rule_eq (h : CX r n ac f ev sv ns st A d) (hst : st < 100000) (hg : PG t pn d) : wp (Main_rule 1) d (fun z d' => frZ d d' ∧ ((((¬ WH false t pn ∧ z = -103) ∨ (WH false t pn ∧ 6 ≤ r ∧ z = -104)) ∧ CX r n ac f ev sv ns st A d' ∧ PG t pn d') ∨ (WH false t pn ∧ r < 6 ∧ z = nI r ∧ CX (r + 1) n ac f (setA ev r (rvP t pn)) sv ns (st + 1) A d' ∧ PG t 0 d'))) := by
  have hR := h.1.1.2.2.2.2
  have hr := h.1.2.1.1
  have hpn := hg.1
  unfold Main_rule
  simp only [wp_mb, wp_gR, wp_vc, zk, true_and, hR.1]
  refine wp_mono (rd_0 hR hg) (fun z d1 ⟨f1, k, e1, hk, hno, hyes⟩ => ?_)
  subst e1
  have h1 := h.fR f1
  have hg1 := hg.fR f1
  have hR1 := h1.1.1.2.2.2.2
  simp only [wp_mb, wp_gR, wp_gI, zk, true_and, hR1.1, hg1.2.1]
  by_cases hkp : k < pn
  · rw [if_pos (nI_lt hkp (by omega))]
    exact wp_mp.mpr ⟨f1.Z, Or.inl ⟨Or.inl ⟨hno hkp, rfl⟩, h1, hg1⟩⟩
  · rw [if_neg (nI_nlt (by omega) (by omega))]
    simp only [wp_mb, wp_gR, wp_vc, zk, true_and, hR1.1]
    refine wp_mono (hyes (by omega)) (fun z d2 hall => ?_)
    rcases hall _ okP_0 with ⟨z0, w0, f2⟩ | ⟨z1, w1, f2, -⟩
    · rw [if_pos z0]
      exact wp_mp.mpr ⟨f2.Z, Or.inl ⟨Or.inl ⟨w0, rfl⟩, h.fR f2, hg.fR f2⟩⟩
    · rw [if_neg (show ¬ z = 0 by rw [z1]; decide)]
      have h2 := h.fR f2
      have hg2 := hg.fR f2
      have hR2 := h2.1.1.2.2.2.2
      simp only [wp_mb, wp_gR, wp_gI, zk, true_and, hR2.1, h2.1.2.1.2.1]
      by_cases h6 : r < 6
      · rw [if_pos (show nI r < (6 : Int32) from nI_lt (b := 6) h6 (by omega))]
        obtain ⟨z9, z23, z60⟩ := zrule h6
        obtain ⟨r18, r20⟩ := hR2.2.1 r h6
        simp only [wp_mb, wp_gR, wp_gI, wp_aR, wp_vc, zk, zl, true_and, hR2.1, h2.1.2.1.2.1, nI_clamp (show r < 2 ^ 31 by omega), r18, z9]
        refine ⟨ib_nI (by omega) (by omega), ?_⟩
        refine wp_mono (copy_eq z9 (show ZF.2.1 55 = 9 from rfl) r20 (show d2.2.2 55 0 = 56 from hR2.1.2.2.2.2.2.2.2.2.2.2.2.2.2.2.2.2.2.2.2.2.1) ⟨z23, z60⟩ ⟨rfl, rfl⟩ (by omega) (by omega) (by omega) (by omega)) (fun _ d3 ⟨c1, c2, c3, c4, c5, c6⟩ => ?_)
        have hR3 : Rf d3.2.2 := by rw [c1]; exact hR2
        have e17 : d3.1 17 1 = nI r := by rw [c2 17 (by omega) (by omega)]; exact h2.1.2.1.2.1
        have e24 : d3.1 2 4 = nI st := by rw [c2 2 (by omega) (by omega)]; exact h2.1.2.2.2.2.2.1
        unfold Verd_forget
        simp only [wp_mb, wp_gR, wp_gI, wp_pI, wp_vc, wp_mp, zk, zl, true_and, hR3.1, e17, nI_1]
        have q24 : u2 (u2 d3.1 17 1 (nI (r + 1))) 52 1 0 2 4 = nI st := by rw [u2_a _ (by omega), u2_a _ (by omega)]; exact e24
        rw [q24, nI_1]
        have q17 : u2 (u2 (u2 d3.1 17 1 (nI (r + 1))) 52 1 0) 2 4 (nI (st + 1)) 17 1 = nI (r + 1) := by rw [u2_a _ (by omega), u2_a _ (by omega), u2_s]
        rw [q17, nI_pred]
        have hne : ∀ x, x ≠ 2 → x ≠ 17 → x ≠ 52 → x ≠ 20 + 2 * r → x ≠ 21 + 2 * r → u2 (u2 (u2 d3.1 17 1 (nI (r + 1))) 52 1 0) 2 4 (nI (st + 1)) x = d2.1 x := fun x a b c e g => by rw [u2_row _ a, u2_row _ c, u2_row _ b, c2 x e g]
        have htx : ∀ x, x = 20 + 2 * r ∨ x = 21 + 2 * r → u2 (u2 (u2 d3.1 17 1 (nI (r + 1))) 52 1 0) 2 4 (nI (st + 1)) x = d3.1 x := fun x hx => by rw [u2_row _ (by omega), u2_row _ (by omega), u2_row _ (by omega)]
        refine ⟨frZ_tr f2.Z (fun x hx => ⟨hne x (by omega) (by omega) (by omega) (by omega) (by omega), by rw [c1], by rw [c1]⟩), Or.inr ⟨w1, h6, rfl, ⟨⟨?_, ?_, ?_, ?_⟩, ⟨?_, h2.2.1.2⟩, ?_⟩, by omega, ?_, fun i hi => by omega⟩⟩
        · -- the program
          obtain ⟨⟨p1, p2, p3⟩, p4, p5, p6, p7⟩ := h2.1.1
          refine ⟨⟨p1, p2, fun i hi => okA_up (p3 i hi) (by omega)⟩, ?_, ?_, fun i hi k hk => ?_, hR3⟩
          · exact (congrFun (hne 3 (by omega) (by omega) (by omega) (by omega) (by omega)) 1).trans p4
          · show d3.2.1 3 2 = _
            rw [c1]; exact p5
          · show u2 (u2 (u2 d3.1 17 1 (nI (r + 1))) 52 1 0) 2 4 (nI (st + 1)) (d3.2.2 4 i) k = _
            rw [c1]
            have := p7.2.2.2.1 i (by omega)
            rw [hne _ (by omega) (by omega) (by omega) (by omega) (by omega)]
            exact p6 i hi k hk
        · -- the rules
          refine ⟨by omega, q17, fun j hj => ?_⟩
          by_cases hjr : j = r
          · subst hjr
            rcases hall _ okP_0 with ⟨z0, -⟩ | ⟨-, -, -, rs, s1, s2, -⟩
            · rw [z1] at z0; exact absurd z0 (by decide)
            refine ⟨rs, s1, ?_, fun p hp => ?_⟩
            · exact (congrFun (htx _ (Or.inl rfl)) 2).trans (c5.trans s2)
            · rcases hall p hp with ⟨z0, -⟩ | ⟨-, -, -, rs', t1, t2, t3⟩
              · rw [z1] at z0; exact absurd z0 (by decide)
              have ers : rs' = rs := (nI_eq (by omega) (by omega)).mp (t2.symm.trans s2)
              subst ers
              rw [setA_s, ← t3]
              show hb (tE (u2 (u2 (u2 d3.1 17 1 (nI (j + 1))) 52 1 0) 2 4 (nI (st + 1)) (21 + 2 * j)) p rs') = _
              rw [htx _ (Or.inr rfl)]
              exact congrArg hb (tE_cong p (fun i hi => c3 i (by omega)))
          · obtain ⟨rs, s1, s2, s3⟩ := h2.1.2.1.2.2 j (by omega)
            refine ⟨rs, s1, ?_, fun p hp => ?_⟩
            · exact (congrFun (hne (20 + 2 * j) (by omega) (by omega) (by omega) (by omega) (by omega)) 2).trans s2
            · rw [setA_n _ _ hjr, ← s3 p hp]
              show hb (tE (u2 (u2 (u2 d3.1 17 1 (nI (r + 1))) 52 1 0) 2 4 (nI (st + 1)) (21 + 2 * j)) p rs) = _
              rw [hne (21 + 2 * j) (by omega) (by omega) (by omega) (by omega) (by omega)]
        · exact h2.1.2.2.1.congr (fun x hx => hne x (by omega) (by omega) (by omega) (by omega) (by omega))
        · exact h2.1.2.2.2.forget hst (u2_s (u2 (u2 d3.1 17 1 (nI (r + 1))) 52 1 0) 2 4 (nI (st + 1))) (hne 51 (by omega) (by omega) (by omega) (by omega) (by omega))
        · exact (congrFun ((u2_row _ (show 17 ≠ 2 by omega) 4 (nI (st + 1))).trans (u2_row _ (show 17 ≠ 52 by omega) 1 0)) 2).trans ((u2_k d3.1 17 17 (show 2 ≠ 1 by omega) (nI (r + 1))).trans ((congrFun (c2 17 (by omega) (by omega)) 2).trans h2.2.1.1))
        · have hcf := h2.2.2
          unfold cFi at hcf ⊢
          have e58 := hne 58 (by omega) (by omega) (by omega) (by omega) (by omega)
          have e60 := hne 60 (by omega) (by omega) (by omega) (by omega) (by omega)
          show u2 (u2 (u2 d3.1 17 1 (nI (r + 1))) 52 1 0) 2 4 (nI (st + 1)) 58 3 = -1 ∨ ∃ k, k ≤ n ∧ u2 (u2 (u2 d3.1 17 1 (nI (r + 1))) 52 1 0) 2 4 (nI (st + 1)) 58 3 = nI k ∧ _
          rw [e58]
          exact hcf.imp id (fun ⟨k, a, b, s, E, c, e⟩ => ⟨k, a, b, s, E, c.mov (congrFun e58 2) (by show d3.2.1 59 = _; rw [c1]) e60, e⟩)
        · exact (congrFun (u2_row _ (show 52 ≠ 2 by omega) 4 (nI (st + 1))) 1).trans (u2_s (u2 d3.1 17 1 (nI (r + 1))) 52 1 0)
      · rw [if_neg (show ¬ nI r < (6 : Int32) from nI_nlt (b := 6) (by omega) (by omega))]
        exact wp_mp.mpr ⟨f2.Z, Or.inl ⟨Or.inr ⟨w1, by omega, rfl⟩, h2, hg2⟩⟩
theorem sv1_cong {c c' : Nat → Int32} {R Sz : Nat} (hRS : R ≤ Sz) (tg : Int32) (p : Pl) (h : ∀ i, i < Sz → c i = c' i) : sv1 c R Sz tg p = sv1 c' R Sz tg p := by
  unfold sv1
  rw [tE_cong p (fun i hi => h i (by omega)), tS_cong p R (c := c) (c' := c') (m := Sz - R) (fun i hi => h i (by omega))]
theorem step_eq (h : CX r n ac f ev sv ns st A d) (hst : st < 100000) (hg : PG t pn d) : wp (Main_step 1) d (fun z d' => frZ d d' ∧ ((((¬ WH true t pn ∧ z = -103) ∨ (WH true t pn ∧ 8 ≤ ns ∧ z = -104)) ∧ CX r n ac f ev sv ns st A d' ∧ PG t pn d') ∨ (WH true t pn ∧ ns < 8 ∧ z = nI ns ∧ CX r n ac f ev (setA sv ns (svP t pn)) (ns + 1) (st + 1) A d' ∧ PG t 0 d'))) := by
  have hR := h.1.1.2.2.2.2
  have hr := h.1.2.2.1.1
  have hpn := hg.1
  unfold Main_step
  simp only [wp_mb, wp_gR, wp_vc, zk, true_and, hR.1]
  refine wp_mono (rd_1 hR hg) (fun z d1 ⟨f1, k, e1, hk, hno, hyes⟩ => ?_)
  subst e1
  have h1 := h.fR f1
  have hg1 := hg.fR f1
  have hR1 := h1.1.1.2.2.2.2
  simp only [wp_mb, wp_gR, wp_gI, zk, true_and, hR1.1, hg1.2.1]
  by_cases hkp : k < pn
  · rw [if_pos (nI_lt hkp (by omega))]
    exact wp_mp.mpr ⟨f1.Z, Or.inl ⟨Or.inl ⟨hno hkp, rfl⟩, h1, hg1⟩⟩
  · rw [if_neg (nI_nlt (by omega) (by omega))]
    simp only [wp_mb, wp_gR, wp_vc, zk, true_and, hR1.1]
    refine wp_mono (hyes (by omega)) (fun z d2 hall => ?_)
    rcases hall _ okP_0 with ⟨z0, w0, f2⟩ | ⟨z1, w1, f2, -⟩
    · rw [if_pos z0]
      exact wp_mp.mpr ⟨f2.Z, Or.inl ⟨Or.inl ⟨w0, rfl⟩, h.fR f2, hg.fR f2⟩⟩
    · rw [if_neg (show ¬ z = 0 by rw [z1]; decide)]
      have h2 := h.fR f2
      have hg2 := hg.fR f2
      have hR2 := h2.1.1.2.2.2.2
      simp only [wp_mb, wp_gR, wp_gI, zk, true_and, hR2.1, h2.1.2.2.1.2.1]
      by_cases h6 : ns < 8
      · rw [if_pos (show nI ns < (8 : Int32) from nI_lt (b := 8) h6 (by omega))]
        obtain ⟨z9, z23, z60⟩ := zstep h6
        obtain ⟨r18, r20⟩ := hR2.2.2.1 ns h6
        simp only [wp_mb, wp_gR, wp_gI, wp_aR, wp_vc, zk, zl, true_and, hR2.1, h2.1.2.2.1.2.1, nI_clamp (show ns < 2 ^ 31 by omega), r18, z9]
        refine ⟨ib_nI (by omega) (by omega), ?_⟩
        refine wp_mono (copy_eq z9 (show ZF.2.1 55 = 9 from rfl) r20 (show d2.2.2 55 0 = 56 from hR2.1.2.2.2.2.2.2.2.2.2.2.2.2.2.2.2.2.2.2.2.2.1) ⟨z23, z60⟩ ⟨rfl, rfl⟩ (by omega) (by omega) (by omega) (by omega)) (fun _ d3 ⟨c1, c2, c3, c4, c5, c6⟩ => ?_)
        have hR3 : Rf d3.2.2 := by rw [c1]; exact hR2
        have e17 : d3.1 32 1 = nI ns := by rw [c2 32 (by omega) (by omega)]; exact h2.1.2.2.1.2.1
        have e24 : d3.1 2 4 = nI st := by rw [c2 2 (by omega) (by omega)]; exact h2.1.2.2.2.2.2.1
        unfold Verd_forget
        simp only [wp_mb, wp_gR, wp_gI, wp_pI, wp_vc, wp_mp, zk, zl, true_and, hR3.1, e17, nI_1]
        have q24 : u2 (u2 d3.1 32 1 (nI (ns + 1))) 52 1 0 2 4 = nI st := by rw [u2_a _ (by omega), u2_a _ (by omega)]; exact e24
        rw [q24, nI_1]
        have q17 : u2 (u2 (u2 d3.1 32 1 (nI (ns + 1))) 52 1 0) 2 4 (nI (st + 1)) 32 1 = nI (ns + 1) := by rw [u2_a _ (by omega), u2_a _ (by omega), u2_s]
        rw [q17, nI_pred]
        have hne : ∀ x, x ≠ 2 → x ≠ 32 → x ≠ 52 → x ≠ 35 + 2 * ns → x ≠ 36 + 2 * ns → u2 (u2 (u2 d3.1 32 1 (nI (ns + 1))) 52 1 0) 2 4 (nI (st + 1)) x = d2.1 x := fun x a b c e g => by rw [u2_row _ a, u2_row _ c, u2_row _ b, c2 x e g]
        have htx : ∀ x, x = 35 + 2 * ns ∨ x = 36 + 2 * ns → u2 (u2 (u2 d3.1 32 1 (nI (ns + 1))) 52 1 0) 2 4 (nI (st + 1)) x = d3.1 x := fun x hx => by rw [u2_row _ (by omega), u2_row _ (by omega), u2_row _ (by omega)]
        refine ⟨frZ_tr f2.Z (fun x hx => ⟨hne x (by omega) (by omega) (by omega) (by omega) (by omega), by rw [c1], by rw [c1]⟩), Or.inr ⟨w1, h6, rfl, ⟨⟨?_, ?_, ?_, ?_⟩, ⟨?_, h2.2.1.2⟩, ?_⟩, by omega, ?_, fun i hi => by omega⟩⟩
        · exact h2.1.1.congr (fun x hx => hne x (by omega) (by omega) (by omega) (by omega) (by omega)) (by show d3.2.1 3 = _; rw [c1]) (by show d3.2.2 = _; rw [c1])
        · exact h2.1.2.1.congr (fun x hx => hne x (by omega) (by omega) (by omega) (by omega) (by omega))
        · -- the steps
          refine ⟨by omega, q17, fun j hj => ?_⟩
          by_cases hjr : j = ns
          · subst hjr
            rcases hall _ okP_0 with ⟨z0, -⟩ | ⟨-, -, -, rs, sz, s1, s2, s3, s4, -⟩
            · rw [z1] at z0; exact absurd z0 (by decide)
            refine ⟨rs, sz, s1, s2, ?_, ?_, fun p hp => ?_⟩
            · exact (congrFun (htx _ (Or.inl rfl)) 2).trans (c5.trans s3)
            · exact (congrFun (htx _ (Or.inl rfl)) 1).trans (c4.trans s4)
            · rcases hall p hp with ⟨z0, -⟩ | ⟨-, -, -, rs', sz', t1, t2, t3, t4, t5⟩
              · rw [z1] at z0; exact absurd z0 (by decide)
              have ers : rs' = rs := (nI_eq (by omega) (by omega)).mp (t3.symm.trans s3)
              have esz : sz' = sz := (nI_eq (by omega) (by omega)).mp (t4.symm.trans s4)
              subst ers; subst esz
              rw [setA_s, ← t5]
              show sv1 (u2 (u2 (u2 d3.1 32 1 (nI (j + 1))) 52 1 0) 2 4 (nI (st + 1)) (36 + 2 * j)) rs' sz' (u2 (u2 (u2 d3.1 32 1 (nI (j + 1))) 52 1 0) 2 4 (nI (st + 1)) (35 + 2 * j) 3) p = _
              rw [htx _ (Or.inr rfl), htx _ (Or.inl rfl), c6]
              exact sv1_cong t1 _ p (fun i hi => c3 i (by omega))
          · obtain ⟨rs, sz, s1, s2, s3, s4, s5⟩ := h2.1.2.2.1.2.2 j (by omega)
            have e36 := hne (36 + 2 * j) (by omega) (by omega) (by omega) (by omega) (by omega)
            have e35 := hne (35 + 2 * j) (by omega) (by omega) (by omega) (by omega) (by omega)
            refine ⟨rs, sz, s1, s2, (congrFun e35 2).trans s3, (congrFun e35 1).trans s4, fun p hp => ?_⟩
            rw [setA_n _ _ hjr, ← s5 p hp]
            show sv1 (u2 (u2 (u2 d3.1 32 1 (nI (ns + 1))) 52 1 0) 2 4 (nI (st + 1)) (36 + 2 * j)) rs sz (u2 (u2 (u2 d3.1 32 1 (nI (ns + 1))) 52 1 0) 2 4 (nI (st + 1)) (35 + 2 * j) 3) p = _
            rw [e36, e35]
        · exact h2.1.2.2.2.forget hst (u2_s (u2 (u2 d3.1 32 1 (nI (ns + 1))) 52 1 0) 2 4 (nI (st + 1))) (hne 51 (by omega) (by omega) (by omega) (by omega) (by omega))
        · exact (congrFun (hne 17 (by omega) (by omega) (by omega) (by omega) (by omega)) 2).trans h2.2.1.1
        · have hcf := h2.2.2
          unfold cFi at hcf ⊢
          have e58 := hne 58 (by omega) (by omega) (by omega) (by omega) (by omega)
          have e60 := hne 60 (by omega) (by omega) (by omega) (by omega) (by omega)
          show u2 (u2 (u2 d3.1 32 1 (nI (ns + 1))) 52 1 0) 2 4 (nI (st + 1)) 58 3 = -1 ∨ ∃ k, k ≤ n ∧ u2 (u2 (u2 d3.1 32 1 (nI (ns + 1))) 52 1 0) 2 4 (nI (st + 1)) 58 3 = nI k ∧ _
          rw [e58]
          exact hcf.imp id (fun ⟨k, a, b, s, E, c, e⟩ => ⟨k, a, b, s, E, c.mov (congrFun e58 2) (by show d3.2.1 59 = _; rw [c1]) e60, e⟩)
        · exact (congrFun (u2_row _ (show 52 ≠ 2 by omega) 4 (nI (st + 1))) 1).trans (u2_s (u2 d3.1 32 1 (nI (ns + 1))) 52 1 0)
      · rw [if_neg (show ¬ nI ns < (8 : Int32) from nI_nlt (b := 8) (by omega) (by omega))]
        exact wp_mp.mpr ⟨f2.Z, Or.inl ⟨Or.inr ⟨w1, by omega, rfl⟩, h2, hg2⟩⟩
end
