/-! ===== pure: whether a text holds, by the reference, whole ===== -/
theorem nx_zero {sp : Bool} {q o : Nat} (hq : q = 0 ∨ clsd q 0) : nx sp q o 0 = none := by
  rcases hq with rfl | h
  · simp [nx, isL, isD]
  · rw [cl_nx h]; simp [nxC]
section
variable {sb sp : Bool} {B m : Nat} {t : Nat → Nat} {d : Dm} {p : Pl}
theorem holds_run (h : TX sb B t m d) (hp75 : ∀ s, s < 8 → d.1 75 s = nI (p s)) (hp : okP p) {qf : Nat} (hf : qs sp t m = some (qf, 0)) (hqf : qEnd qf) : wp (Mod_holdsHere 65) (atM d 0) (HQ sp p t m d) := by
  have hm := h.2.1
  have hR := h.1.1
  unfold Mod_holdsHere
  rw [← hB_id d, wp_mb, wp_eq s26, hB_id d]
  simp only [wp_mb, wp_vc, zk, true_and, wp_eq (open_eq hR (d := d) (k := 0) (X := d.1 76) (Y := d.1 77) (Z := d.1 78) (dp := -1) (δ := 0) (by decide) (by decide))]
  unfold Mod_holdsHere_9
  refine wp_lo (fun μ _ dd => ∃ k, μ = m - k ∧ HI sp p t m d k dd) ?_ (m := m) ⟨0, rfl, 0, none, none, 0, [], 0, 0, false, 0, 61, false, 0, setA (d.1 76) 0 0, setA (d.1 77) 0 1, setA (d.1 78) 0 0, rfl, Nat.zero_le _, rfl, rfl, Or.inl ⟨rfl, setA_s _ _ _, setA_s _ _ _, setA_s _ _ _, trivial⟩⟩
  intro μ _ dd ⟨k, hμ, q, oo, aa, n, g, T, U, mm, x, R, v, tg, X, Y, Z, hq, hkm, hv, e1, hst⟩
  subst e1
  have ho := (qs_le hq).2
  have hTX : ∀ {dp X Y Z}, TX sb B t m (hB d dp X Y Z) := fun {dp X Y Z} => h.hb
  have hc := sgl_lt h k
  have hl := rc_lit hc
  have hs := sign_eq (k := k) (hTX (dp := nI g.length) (X := X) (Y := Y) (Z := Z)) (by omega)
  have r23 : ∀ {X Y Z dp k}, (atM (hB d dp X Y Z) k).2.2 65 23 = 76 := fun {X Y Z dp k} => hR.2.2.2.2.2.2.2.2.2.2.1
  have r24 : ∀ {X Y Z dp k}, (atM (hB d dp X Y Z) k).2.2 65 24 = 77 := fun {X Y Z dp k} => hR.2.2.2.2.2.2.2.2.2.2.2.1
  have r25 : ∀ {X Y Z dp k}, (atM (hB d dp X Y Z) k).2.2 65 25 = 78 := fun {X Y Z dp k} => hR.2.2.2.2.2.2.2.2.2.2.2.2.1
  -- the end
  have stop : clsd q (sgl t m k) → (q = 7 → n = 0) → ARc oo aa (vC q n R T v) g X Y Z → g = [] → (k = m ∨ (k < m ∧ t k = 58)) → wp (mr (α := Unit) (Mod_holdsHere_332 65)) (atM (hB d (nI g.length) X Y Z) k) (fun r d' => match r with
      | .inl _ => ∃ m', m' < μ ∧ ∃ k, m' = m - k ∧ HI sp p t m d k d'
      | .inr r => HQ sp p t m d r d') := by
    intro hcl hn hA hg hend
    subst hg
    rw [wp_mr, wp_eq (h332 (U := U) (mm := mm) (x := x) (tg := tg) hR (clsd_q hcl) hn hA)]
    refine ⟨k, q, _, X, Y, Z, hkm, hq, ?_, hend, rfl, by rw [hv]⟩
    have := clsd_q hcl
    omega
  have cast : ∀ {f : MM (Unit ⊕ Int32)} {dd : Dm} {Q1 Q2 : Unit ⊕ Int32 → Dm → Prop}, wp f dd Q1 → (∀ r d', Q1 r d' → Q2 r d') → wp f dd Q2 := fun h1 h2 => wp_mono h1 h2
  unfold Mod_holdsHere_9_b
  rw [wp_mb, wp_vc]
  refine ⟨rfl, ?_⟩
  rw [wp_eq hs]
  by_cases c0 : sgl t m k = 0
  · rw [if_pos (show nI (sgl t m k) = 0 by rw [c0]; rfl)]
    have hkm' : k = m := by
      by_cases hh : k = m
      · exact hh
      · exfalso
        have hk : k < m := by omega
        have ek : sgl t m k = t k := if_pos hk
        obtain ⟨q', b1, -⟩ := qs_go hf hk hq
        rw [ek] at c0
        rw [c0, nx_zero (by
          rcases hst with ⟨h0, -⟩ | ⟨hcl, -⟩
          · exact Or.inl h0
          · rw [ek, c0] at hcl; exact Or.inr hcl)] at b1
        cases b1
    rw [hkm', hf] at hq
    have hqq := Option.some.inj hq
    have q1 : qf = q := congrArg Prod.fst hqq
    have q2 : 0 = g.length := congrArg Prod.snd hqq
    rcases hst with ⟨h0, -⟩ | ⟨hcl, hn, hA⟩
    · unfold qEnd at hqf; omega
    · exact cast (stop hcl hn hA (List.eq_nil_of_length_eq_zero q2.symm) (Or.inl hkm')) (fun r d' hh => by cases r <;> exact hh)
  · rw [if_neg (nI_ne0 (by omega) (by omega))]
    have hk : k < m := by
      by_cases hh : k < m
      · exact hh
      · exact absurd (if_neg hh) c0
    have ek : sgl t m k = t k := if_pos hk
    obtain ⟨q', b1, b2⟩ := qs_go hf hk hq
    obtain ⟨-, b3⟩ := qs_step (p := p) hq b1
    rw [hv] at b3
    rw [wp_mb, wp_vc]
    refine ⟨rfl, ?_⟩
    rw [wp_eq hs]
    by_cases c58 : sgl t m k = 58
    · rw [if_pos (hl.2.2.2.2.2.2.1.mpr c58)]
      rw [ek] at c58
      rcases hst with ⟨h0, -⟩ | ⟨hcl, hn, hA⟩
      · subst h0
        rw [c58, nx_58] at b1
        cases b1
      · have hg0 : g.length = 0 := by
          rw [ek, c58] at hcl
          rw [c58, cl_nx hcl] at b1
          by_cases hh : g.length = 0
          · exact hh
          · simp [nxC, hh] at b1
        exact cast (stop hcl hn hA (List.eq_nil_of_length_eq_zero hg0) (Or.inr ⟨hk, c58⟩)) (fun r d' hh => by cases r <;> exact hh)
    · rw [if_neg (fun q => c58 (hl.2.2.2.2.2.2.1.mp q)), wp_mb, wp_vc]
      refine ⟨rfl, ?_⟩
      rw [wp_eq hs]
      -- the next place
      have next : ∀ dd2, HI sp p t m d (k + 1) dd2 → (∃ m', m' < μ ∧ ∃ k, m' = m - k ∧ HI sp p t m d k dd2) := fun dd2 hh => ⟨m - (k + 1), by omega, k + 1, rfl, hh⟩
      rw [ek] at hl c58 hst ⊢
      by_cases c33 : t k = 33
      · rw [if_pos (hl.1.mpr c33)]
        rcases hst with ⟨h0, hG⟩ | ⟨hcl, -⟩
        · subst h0
          obtain ⟨g1, g2, g3, g4⟩ := hG
          simp only [wp_mb, wp_gR, wp_gI, wp_aI, zk, zl, true_and, r25, hB_26, nI_clamp (show g.length < 2 ^ 31 by omega), hB_78, g3]
          refine ⟨ib_nI (by omega) (by omega), ?_⟩
          have et : (if bI (decide (n % 2 = 1)) = 0 then (1 : Int32) else 0) = bI (decide ((n + 1) % 2 = 1)) := by
            by_cases hn : n % 2 = 1
            · rw [show decide (n % 2 = 1) = true by simp [hn], show decide ((n + 1) % 2 = 1) = false by simp; omega]; rfl
            · rw [show decide (n % 2 = 1) = false by simp [hn], show decide ((n + 1) % 2 = 1) = true by simp; omega]; rfl
          rw [et]
          unfold Mod_holdsHere_61 Mod_holdsHere_329
          rw [wp_mb, wp_eq (s78 (by omega) (bI_01' _))]
          simp only [wp_mb, wp_gI, wp_pI, wp_mp, zk, true_and, atM_at, nI_1, inc_at]
          refine next _ ?_
          rw [c33] at b1 b2 b3
          have e0 : q' = 0 := by simp [nx, isL, isD] at b1; exact b1.symm
          have e2 : vst p 0 33 ((oo, aa, n), g, T, U, mm, x, R, v, tg) = ((oo, aa, n + 1), g, T, U, mm, x, R, v, tg) := by simp [vst]
          rw [e2] at b3
          rw [e0, nxO_o (by decide) (by decide)] at b2
          exact ⟨0, oo, aa, n + 1, g, T, U, mm, x, R, v, tg, X, Y, _, b2, by omega, b3, rfl, Or.inl ⟨rfl, g1, g2, setA_s _ _ _, GRl_cong g4 (fun i hi => ⟨rfl, rfl, setA_n _ _ (by omega)⟩)⟩⟩
        · rw [c33] at hcl b1
          rw [cl_nx hcl] at b1
          simp [nxC] at b1
      · rw [if_neg (fun q => c33 (hl.1.mp q))]
        by_cases c40 : t k = 40
        · rw [if_pos (hl.2.2.1.mpr c40)]
          rcases hst with ⟨h0, hG⟩ | ⟨hcl, -⟩
          · subst h0
            rw [wp_mb, wp_vc]
            refine ⟨rfl, ?_⟩
            rw [wp_eq (open_eq hR (δ := g.length + 1) (by omega) (nI_1 _))]
            unfold Mod_holdsHere_329
            simp only [wp_mb, wp_gI, wp_pI, wp_mp, zk, true_and, atM_at, nI_1, inc_at]
            refine next _ ?_
            rw [c40] at b1 b2 b3
            have e0 : q' = 0 := by simp [nx, isL, isD] at b1; exact b1.symm
            have e2 : vst p 0 40 ((oo, aa, n), g, T, U, mm, x, R, v, tg) = ((none, none, 0), (oo, aa, n) :: g, T, U, mm, x, R, v, tg) := by simp [vst]
            rw [e2] at b3
            have e3 : nxO g.length 40 = ((oo, aa, n) :: g).length := by simp [nxO]
            rw [e0, e3] at b2
            refine ⟨0, none, none, 0, (oo, aa, n) :: g, T, U, mm, x, R, v, tg, _, _, _, b2, by omega, b3, rfl, Or.inl ⟨rfl, ?_, ?_, ?_, GRl_cong hG (fun i hi => ?_)⟩⟩
            · exact setA_s _ _ _
            · exact setA_s _ _ _
            · exact setA_s _ _ _
            · simp only [List.length_cons] at hi
              exact ⟨setA_n _ _ (by omega), setA_n _ _ (by omega), setA_n _ _ (by omega)⟩
          · rw [c40] at hcl b1
            rw [cl_nx hcl] at b1
            simp [nxC] at b1
        · rw [if_neg (fun q => c40 (hl.2.2.1.mp q))]
          by_cases c41 : t k = 41
          · rw [if_pos (hl.2.2.2.1.mpr c41)]
            rcases hst with ⟨h0, -⟩ | ⟨hcl, hn, hA⟩
            · subst h0
              rw [c41] at b1
              simp [nx, isL, isD] at b1
            · rw [c41] at hcl b1 b2 b3
              rw [cl_nx hcl] at b1
              rw [cl_vst hcl] at b3
              cases g with
              | nil => simp [nxC] at b1
              | cons G' g' =>
                obtain ⟨o2, a2, n2⟩ := G'
                obtain ⟨g1, g2, g3, g4, g5, g6, g7⟩ := hA
                have e7 : q' = 7 := by simp [nxC] at b1; exact b1.symm
                obtain ⟨T', ec⟩ := cl_clo (o1 := 0) (oo := oo) (aa := aa) (R := R) (x := x) (tg := tg) (g := (o2, a2, n2) :: g') (T := T) (U := U) (m := mm) (v := v) (clsd_q hcl) hn
                rw [ec] at b3
                have ev : vcl 41 ((oo, aa, 0), (o2, a2, n2) :: g', T', U, mm, x, R, vC q n R T v, tg) = ((o2, a2, 0), g', T', U, mm, x, R, dnv n2 (orv oo (anv aa (vC q n R T v))), tg) := by simp [vcl]
                rw [ev] at b3
                have eo : nxO ((o2, a2, n2) :: g').length 41 = g'.length := by simp [nxO]
                rw [e7, eo] at b2
                simp only [List.length_cons] at ho g1 g2 g3 hs ⊢
                have go : wp (Mod_holdsHere_133 65 (bI (orv oo (anv aa (vC q n R T v))))) (atM (hB d (nI (g'.length + 1)) X Y Z) k) (fun r d' => match r with
                    | .inl _ => ∃ m', m' < μ ∧ ∃ k, m' = m - k ∧ HI sp p t m d k d'
                    | .inr r => HQ sp p t m d r d') := by
                  unfold Mod_holdsHere_133 Mod_holdsHere_329
                  rw [wp_mb, wp_gI, hB_26, nI_pred]
                  refine ⟨rfl, ?_⟩
                  rw [wp_mb, wp_eq s26, wp_mb, wp_vc]
                  refine ⟨rfl, ?_⟩
                  rw [wp_eq (factor_eq hR (by omega) g5 g6 _)]
                  simp only [wp_mb, wp_gI, wp_pI, wp_mp, zk, true_and, atM_at, nI_1, inc_at]
                  refine next _ ⟨7, o2, a2, 0, g', T', U, mm, x, R, dnv n2 (orv oo (anv aa (vC q n R T v))), tg, X, _, _, b2, by omega, b3, rfl, Or.inr ⟨Or.inl rfl, fun _ => rfl, g4, ?_, setA_s _ _ _, GRl_cong g7 (fun i hi => ⟨rfl, setA_n _ _ (by omega), setA_n _ _ (by omega)⟩)⟩⟩
                  rw [setA_s, an_getD]
                  simp [vC]
                simp only [wp_mb, wp_gR, wp_gI, wp_aI, zk, zl, true_and, r23, hB_26, nI_clamp (show g'.length + 1 < 2 ^ 31 by omega), hB_76, g1]
                refine ⟨ib_nI (by omega) (by omega), ?_⟩
                cases hoo : oo.getD false with
                | true =>
                  rw [if_neg (by decide)]
                  have : orv oo (anv aa (vC q n R T v)) = true := by rw [← or_getD, hoo]; rfl
                  rw [this] at go
                  unfold Mod_holdsHere_128
                  exact cast go (fun r d' hh => by cases r <;> exact hh)
                | false =>
                  rw [if_pos (by decide)]
                  simp only [wp_mb, wp_gR, wp_gI, wp_aI, zk, zl, true_and, r24, hB_26, nI_clamp (show g'.length + 1 < 2 ^ 31 by omega), hB_77, g2]
                  refine ⟨ib_nI (by omega) (by omega), ?_⟩
                  have eor : orv oo (anv aa (vC q n R T v)) = anv aa (vC q n R T v) := by rw [← or_getD, hoo]; simp
                  rw [eor] at go
                  cases han : anv aa (vC q n R T v) with
                  | true =>
                    rw [if_neg (by decide)]
                    rw [han] at go
                    unfold Mod_holdsHere_128
                    exact cast go (fun r d' hh => by cases r <;> exact hh)
                  | false =>
                    rw [if_pos (by decide)]
                    rw [han] at go
                    exact cast go (fun r d' hh => by cases r <;> exact hh)
          · rw [if_neg (fun q => c41 (hl.2.2.2.1.mp q))]
            by_cases c124 : t k = 124
            · rw [if_pos (hl.2.2.2.2.2.2.2.2.2.2.mpr c124)]
              rcases hst with ⟨h0, -⟩ | ⟨hcl, hn, hA⟩
              · subst h0
                rw [c124] at b1
                simp [nx, isL, isD] at b1
              · rw [c124] at hcl b1 b2 b3
                rw [cl_nx hcl] at b1
                rw [cl_vst hcl] at b3
                obtain ⟨g1, g2, g3, g4⟩ := hA
                have e0 : q' = 0 := by simp [nxC] at b1; exact b1.symm
                obtain ⟨T', ec⟩ := cl_clo (o1 := 0) (oo := oo) (aa := aa) (R := R) (x := x) (tg := tg) (g := g) (T := T) (U := U) (m := mm) (v := v) (clsd_q hcl) hn
                rw [ec] at b3
                have ev : vcl 124 ((oo, aa, 0), g, T', U, mm, x, R, vC q n R T v, tg) = ((some (orv oo (anv aa (vC q n R T v))), none, 0), g, T', U, mm, x, R, vC q n R T v, tg) := by simp [vcl]
                rw [ev] at b3
                rw [e0, nxO_o (by decide) (by decide)] at b2
                have go : wp (Mod_holdsHere_205 65 76 (nI g.length) (bI (orv oo (anv aa (vC q n R T v))))) (atM (hB d (nI g.length) X Y Z) k) (fun r d' => match r with
                    | .inl _ => ∃ m', m' < μ ∧ ∃ k, m' = m - k ∧ HI sp p t m d k d'
                    | .inr r => HQ sp p t m d r d') := by
                  unfold Mod_holdsHere_205 Mod_holdsHere_329
                  rw [wp_mb, wp_eq (s76 (by omega) (bI_01' _))]
                  simp only [wp_mb, wp_gR, wp_gI, zk, true_and, r24, hB_26]
                  rw [wp_eq (s77 (by omega) (Or.inr rfl))]
                  simp only [wp_mb, wp_gI, wp_pI, wp_mp, zk, true_and, atM_at, nI_1, inc_at]
                  exact next _ ⟨0, some (orv oo (anv aa (vC q n R T v))), none, 0, g, T', U, mm, x, R, vC q n R T v, tg, _, _, Z, b2, by omega, b3, rfl, Or.inl ⟨rfl, setA_s _ _ _, setA_s _ _ _, g3, GRl_cong g4 (fun i hi => ⟨setA_n _ _ (by omega), setA_n _ _ (by omega), rfl⟩)⟩⟩
                simp only [wp_mb, wp_gR, wp_gI, wp_aI, zk, zl, true_and, r23, hB_26, nI_clamp (show g.length < 2 ^ 31 by omega), hB_76, g1]
                refine ⟨ib_nI (by omega) (by omega), ?_⟩
                cases hoo : oo.getD false with
                | true =>
                  rw [if_neg (by decide)]
                  have : orv oo (anv aa (vC q n R T v)) = true := by rw [← or_getD, hoo]; rfl
                  rw [this] at go
                  unfold Mod_holdsHere_200
                  exact cast go (fun r d' hh => by cases r <;> exact hh)
                | false =>
                  rw [if_pos (by decide)]
                  simp only [wp_mb, wp_gR, wp_gI, wp_aI, zk, zl, true_and, r24, hB_26, nI_clamp (show g.length < 2 ^ 31 by omega), hB_77, g2]
                  refine ⟨ib_nI (by omega) (by omega), ?_⟩
                  have eor : orv oo (anv aa (vC q n R T v)) = anv aa (vC q n R T v) := by rw [← or_getD, hoo]; simp
                  rw [eor] at go
                  cases han : anv aa (vC q n R T v) with
                  | true =>
                    rw [if_neg (by decide)]
                    rw [han] at go
                    unfold Mod_holdsHere_200
                    exact cast go (fun r d' hh => by cases r <;> exact hh)
                  | false =>
                    rw [if_pos (by decide)]
                    rw [han] at go
                    exact cast go (fun r d' hh => by cases r <;> exact hh)
            · rw [if_neg (fun q => c124 (hl.2.2.2.2.2.2.2.2.2.2.mp q))]
              by_cases c38 : t k = 38
              · rw [if_pos (hl.2.1.mpr c38)]
                rcases hst with ⟨h0, -⟩ | ⟨hcl, hn, hA⟩
                · subst h0
                  rw [c38] at b1
                  simp [nx, isL, isD] at b1
                · rw [c38] at hcl b1 b2 b3
                  rw [cl_nx hcl] at b1
                  rw [cl_vst hcl] at b3
                  obtain ⟨g1, g2, g3, g4⟩ := hA
                  have e0 : q' = 0 := by simp [nxC] at b1; exact b1.symm
                  obtain ⟨T', ec⟩ := cl_clo (o1 := 0) (oo := oo) (aa := aa) (R := R) (x := x) (tg := tg) (g := g) (T := T) (U := U) (m := mm) (v := v) (clsd_q hcl) hn
                  rw [ec] at b3
                  have ev : vcl 38 ((oo, aa, 0), g, T', U, mm, x, R, vC q n R T v, tg) = ((oo, some (anv aa (vC q n R T v)), 0), g, T', U, mm, x, R, vC q n R T v, tg) := by simp [vcl]
                  rw [ev] at b3
                  rw [e0, nxO_o (by decide) (by decide)] at b2
                  unfold Mod_holdsHere_329
                  simp only [wp_mb, wp_gI, wp_pI, wp_mp, zk, true_and, atM_at, nI_1, inc_at]
                  exact next _ ⟨0, oo, some (anv aa (vC q n R T v)), 0, g, T', U, mm, x, R, vC q n R T v, tg, X, Y, Z, b2, by omega, b3, rfl, Or.inl ⟨rfl, g1, g2, g3, g4⟩⟩
              · rw [if_neg (fun q => c38 (hl.2.1.mp q))]
                rcases hst with ⟨h0, hG⟩ | ⟨hcl, -⟩
                · subst h0
                  have hLD : isL (t k) = true ∨ isD (t k) = true := by
                    by_cases hL : isL (t k) = true
                    · exact Or.inl hL
                    · by_cases hD : isD (t k) = true
                      · exact Or.inr hD
                      · simp [nx, hL, hD, c33, c40] at b1
                  obtain ⟨g1, g2, g3, g4⟩ := hG
                  refine cmp_run hTX (fun s hs => (hB_n (by omega)).trans (hp75 s hs)) hp hf hqf hk hq hLD (fun k2 q2 R2 T2 f1 f2 f3 f4 f5 f6 f7 => ?_)
                  obtain ⟨rr, f7⟩ := f7
                  rw [hv] at f7
                  unfold Mod_holdsHere_326 Mod_holdsHere_329
                  rw [wp_mb, wp_vc]
                  refine ⟨rfl, ?_⟩
                  rw [wp_eq (factor_eq hR (by omega) g2 g3 _), wp_mp]
                  refine ⟨m - k2, by omega, k2, rfl, ?_⟩
                  generalize hs2 : vv sp p t k2 = s2 at f6 f7
                  obtain ⟨⟨oo2, aa2, n2⟩, gg2, TT, UU, mm2, xx, RR, v2, tg2⟩ := s2
                  simp only [sRest, sT, Prod.mk.injEq] at f6 f7
                  obtain ⟨⟨f8, f9, f10⟩, f11, f12, -⟩ := f7
                  subst f6; subst f8; subst f9; subst f10; subst f11; subst f12
                  refine ⟨q2, _, _, _, _, _, UU, mm2, xx, _, v2, tg2, X, _, _, f3, f2, hs2, rfl, Or.inr ⟨f4, fun e => absurd e f5, g1, ?_, setA_s _ _ _, GRl_cong g4 (fun i hi => ⟨rfl, setA_n _ _ (by omega), setA_n _ _ (by omega)⟩)⟩⟩
                  rw [setA_s, an_getD]
                  simp [vC, f5]
                · rw [cl_nx hcl] at b1
                  simp [nxC, c38, c124, c41, c58] at b1
end
