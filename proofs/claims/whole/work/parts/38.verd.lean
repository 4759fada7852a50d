/-! ===== pure: verdicts ===== -/
noncomputable def vdS (ac : Nat → Ac) (f : Pl) (n : Nat) (ev : Nat → Pl → Bool) (r : Nat) (sv : Nat → Pl → Pl) (ns : Nat) (S : Nat) : Nat := fb ev (hl sv 0 ns (pS ac f S n)) r + if sd sv ns (pS ac f S n) then 0 else 64
def CV (V : Nat → Nat) (st : Nat) (d : Dm) : Prop := 1 ≤ st ∧ st ≤ 100000 ∧ d.1 2 4 = nI st ∧ ∀ i, i < 4096 → ∃ k v, d.1 51 i = nI (k * 256 + v) ∧ k ≤ st ∧ v < 256 ∧ (k = st → v = V i)
def frV (d d' : Dm) : Prop := (∀ x, x ≠ 19 → x ≠ 34 → x ≠ 51 → d'.1 x = d.1 x) ∧ d'.2 = d.2
theorem frV_rf (d : Dm) : frV d d := ⟨fun _ _ _ _ => rfl, rfl⟩
theorem frV_tr {d d' d'' : Dm} (h : frV d d') (h2 : frV d' d'') : frV d d'' := ⟨fun x a b c => (h2.1 x a b c).trans (h.1 x a b c), h2.2.trans h.2⟩
theorem sh8 {k v : Nat} (hk : k ≤ 100000) (hv : v < 256) : nI (k * 256 + v) >>> ((8 : Int32) &&& 31) = nI k := by
  rw [pk_shrN (by omega) _ 8 rfl]
  rw [show (2 : Nat) ^ 8 = 256 from rfl, Nat.mul_comm, Nat.mul_add_div (by omega), Nat.div_eq_of_lt hv, Nat.add_zero]
theorem an8 {k v : Nat} (hv : v < 256) : nI (k * 256 + v) &&& (255 : Int32) = nI v := by
  rw [show (255 : Int32) = nI (2 ^ 8 - 1) from rfl, fa_mask, show (2 : Nat) ^ 8 = 256 from rfl, Nat.mul_comm, Nat.mul_add_mod, Nat.mod_eq_of_lt hv]
theorem an12 {S : Nat} (hS : S < 4096) : nI S &&& (4095 : Int32) = nI S := by
  rw [show (4095 : Int32) = nI (2 ^ 12 - 1) from rfl, fa_mask, Nat.mod_eq_of_lt hS]
theorem vd_lt {ac : Nat → Ac} {f : Pl} {n : Nat} {ev : Nat → Pl → Bool} {r : Nat} {sv : Nat → Pl → Pl} {ns : Nat} {S : Nat} (hr : r ≤ 6) : vdS ac f n ev r sv ns S < 128 := by
  have h := fb_lt ev (hl sv 0 ns (pS ac f S n)) r
  have h2 : 2 ^ r ≤ 2 ^ 6 := Nat.pow_le_pow_right (by omega) hr
  unfold vdS
  split <;> omega
section
variable {r n ns st : Nat} {ac : Nat → Ac} {f : Pl} {ev : Nat → Pl → Bool} {sv : Nat → Pl → Pl} {d : Dm}
theorem of_140 {V : Nat → Nat} (h : CV V st d) (hR : Rf d.2.2) {S : Nat} (hS : S < 4096) (hst : ∃ v, d.1 51 S = nI (st * 256 + v) ∧ v < 256 ∧ v = V S) : Verd_of_140 2 (nI S) d = some (nI (V S), d) := by
  obtain ⟨v, h1, h2, h3⟩ := hst
  apply wp_get
  unfold Verd_of_140
  simp only [wp_mb, wp_gR, wp_aI, zk, zl, true_and, hR.1, nI_clamp (show S < 2 ^ 31 by omega), wp_mp]
  refine ⟨ib_nI (by omega) (by omega), ?_, trivial⟩
  rw [h1, an8 h2, h3]
theorem of_eq (hP : CP r n ac f d) (hC : CR r ev d) (hH : CH ns sv d) (hV : CV (vdS ac f n ev r sv ns) st d) {S : Nat} (hS : sub S (wm ac n)) (hS2 : S < 4096) : wp (Verd_of 2 (nI S)) d (fun x d' => x = nI (vdS ac f n ev r sv ns S) ∧ frV d d' ∧ CV (vdS ac f n ev r sv ns) st d') := by
  have hR := hP.2.2.2.2
  obtain ⟨v1, v2, v3, v4⟩ := id hV
  unfold Verd_of
  simp only [wp_ml, an12 hS2, wp_mb, wp_gR, wp_aI, wp_gI, zk, zl, true_and, hR.1, nI_clamp (show S < 2 ^ 31 by omega), v3, wp_ite]
  refine ⟨ib_nI (by omega) (by omega), ?_⟩
  obtain ⟨k, v, e1, e2, e3, e4⟩ := v4 S hS2
  rw [e1, sh8 (by omega) e3]
  by_cases hk : k = st
  · rw [if_pos (by rw [hk]), wp_eq (of_140 hV hR hS2 ⟨v, by rw [e1, hk], e3, e4 hk⟩)]
    exact ⟨rfl, frV_rf d, hV⟩
  · rw [if_neg (mt (nI_eq (by omega) (by omega)).mp hk)]
    refine wp_mono (shown_eq hP hS hS2) (fun x d' hq => ?_)
    obtain ⟨rfl, t, rfl, ht1, ht2, ht3⟩ := hq
    have hVt : vdS ac f n ev r sv ns t = vdS ac f n ev r sv ns S := by unfold vdS; rw [ht3]
    have hts : sub t (wm ac n) := fun i hi => hS i (ht2 i hi)
    simp only [an12 ht1, wp_mb, wp_gR, wp_aI, wp_gI, zk, zl, true_and, hR.1, nI_clamp (show t < 2 ^ 31 by omega), v3]
    refine ⟨ib_nI (by omega) (by omega), ?_⟩
    -- the second half: entry t stands; entry S is copied
    have copy : ∀ d1, frV d' d1 → CV (vdS ac f n ev r sv ns) st d1 → (∃ v, d1.1 51 t = nI (st * 256 + v) ∧ v < 256 ∧ v = vdS ac f n ev r sv ns t) → wp (Verd_of_128 2 (nI S) (nI t)) d1 (fun x d'' => x = nI (vdS ac f n ev r sv ns S) ∧ frV d' d'' ∧ CV (vdS ac f n ev r sv ns) st d'') := by
      intro d1 hf hc ⟨w, w1, w2, w3⟩
      have hR1 : Rf d1.2.2 := by rw [hf.2]; exact hR
      unfold Verd_of_128
      simp only [wp_mb, wp_gR, wp_aI, wp_sI, zk, zl, true_and, hR1.1, nI_clamp (show t < 2 ^ 31 by omega), nI_clamp (show S < 2 ^ 31 by omega)]
      refine ⟨ib_nI (by omega) (by omega), ib_nI (by omega) (by omega), ?_⟩
      have hc2 : CV (vdS ac f n ev r sv ns) st (u2 d1.1 51 S (d1.1 51 t), d1.2) := by
        refine ⟨hc.1, hc.2.1, ?_, fun i hi => ?_⟩
        · show u2 d1.1 51 S (d1.1 51 t) 2 4 = _
          rw [u2_a _ (by omega)]; exact hc.2.2.1
        · by_cases hiS : i = S
          · subst hiS
            exact ⟨st, w, by show u2 d1.1 51 i _ 51 i = _; rw [u2_s]; exact w1, Nat.le_refl _, w2, fun _ => by rw [w3, hVt]⟩
          · obtain ⟨a, b, c1, c2⟩ := hc.2.2.2 i hi
            exact ⟨a, b, by show u2 d1.1 51 S _ 51 i = _; rw [u2_k _ _ _ hiS]; exact c1, c2⟩
      rw [wp_eq (of_140 hc2 hR1 hS2 ⟨w, by show u2 d1.1 51 S _ 51 S = _; rw [u2_s]; exact w1, w2, by rw [w3, hVt]⟩)]
      exact ⟨rfl, ⟨fun x a b c => (u2_row d1.1 c _ _).trans (hf.1 x a b c), hf.2⟩, hc2⟩
    obtain ⟨k2, w, f1, f2, f3, f4⟩ := v4 t ht1
    rw [f1, sh8 (by omega) f3]
    by_cases hk2 : k2 = st
    · rw [if_pos (by rw [hk2])]
      exact copy d' (frV_rf _) hV ⟨w, by rw [f1, hk2], f3, f4 hk2⟩
    · rw [if_neg (mt (nI_eq (by omega) (by omega)).mp hk2)]
      have hn := hP.1.1
      have hop := okP_pS hP.1.2.1 hP.1.2.2 hts n (Nat.le_refl _)
      simp only [wp_mb, wp_gR, wp_gI, wp_vc, zk, true_and, hR.1, wp_eq (plateOf_eq hP hts ht1), hH.2.1]
      rw [show (0 : Int32) = nI 0 from rfl, wp_eq (after_eq hH hR hop (Nat.zero_le _) (Nat.le_refl _)), Nat.sub_zero]
      -- behind healing
      have hd1 : frV d' (rw8 d'.1 34 (hl sv 0 ns (pS ac f t n)), d'.2) := ⟨fun x a b c => rw8_ne _ _ b, rfl⟩
      have hC1 : CR r ev (rw8 d'.1 34 (hl sv 0 ns (pS ac f t n)), d'.2) := hC.congr (fun x hx => rw8_ne _ _ (by omega))
      have hoh := okP_hl hH hop (a := 0) ns (by omega)
      simp only [wp_mb, wp_gR, wp_gI, wp_vc, zk, true_and, hR.1, wp_eq (failing_eq hC1 hR hoh)]
      have hH2 : CH ns sv (rw8 (rw8 d'.1 34 (hl sv 0 ns (pS ac f t n))) 19 (hl sv 0 ns (pS ac f t n)), d'.2) := hH.congr (fun x hx => (rw8_ne _ _ (by omega)).trans (rw8_ne _ _ (by omega)))
      refine wp_mono (steady_eq hH2 hR hop) (fun x d2 hq => ?_)
      obtain ⟨rfl, hq⟩ := hq
      have hfr : frV d' d2 := ⟨fun x a b c => (hq.1 x b).trans ((rw8_ne _ _ a).trans (rw8_ne _ _ b)), hq.2⟩
      have h51 : d2.1 51 = d'.1 51 := by
        rw [hq.1 51 (by omega)]
        show rw8 (rw8 d'.1 34 (hl sv 0 ns (pS ac f t n))) 19 (hl sv 0 ns (pS ac f t n)) 51 = _
        rw [rw8_ne _ _ (by omega), rw8_ne _ _ (by omega)]
      have h2 : d2.1 2 = d'.1 2 := by
        rw [hq.1 2 (by omega)]
        show rw8 (rw8 d'.1 34 (hl sv 0 ns (pS ac f t n))) 19 (hl sv 0 ns (pS ac f t n)) 2 = _
        rw [rw8_ne _ _ (by omega), rw8_ne _ _ (by omega)]
      have hR2 : Rf d2.2.2 := by rw [hfr.2]; exact hR
      unfold Verd_of_109
      have hr := hC.1
      have hfl := fb_lt ev (hl sv 0 ns (pS ac f t n)) r
      have h64 : 2 ^ r ≤ 2 ^ 6 := Nat.pow_le_pow_right (by omega) hr
      have ewr : nI (fb ev (hl sv 0 ns (pS ac f t n)) r) ||| (if (if sd sv ns (pS ac f t n) = true then (1 : Int32) else 0) = 0 then (64 : Int32) else 0) = nI (vdS ac f n ev r sv ns t) := by
        unfold vdS
        cases sd sv ns (pS ac f t n) with
        | true =>
          simp only [if_true]
          rw [if_neg (by decide), or_0]; rfl
        | false =>
          simp only [Bool.false_eq_true, if_false, if_true]
          rw [show (64 : Int32) = nI (2 ^ 6) from rfl, or_add (by omega)]
      simp only [wp_ml, wp_mb, wp_gR, wp_gI, wp_sI, zk, zl, true_and, hR2.1, nI_clamp (show t < 2 ^ 31 by omega)]
      rw [show nI 0 = (0 : Int32) from rfl, ewr, h2, v3]
      have hvl : vdS ac f n ev r sv ns t < 128 := vd_lt hr
      have est : (nI st <<< ((8 : Int32) &&& 31)) ||| nI (vdS ac f n ev r sv ns t) = nI (st * 256 + vdS ac f n ev r sv ns t) := by
        rw [pk_shlN _ 8 rfl (by omega), show st * 2 ^ 8 = 2 ^ 8 * st by omega, fa_or_sum _ (by omega)]
      rw [est]
      refine ⟨ib_nI (by omega) (by omega), ?_⟩
      refine copy _ ⟨fun x a b c => (u2_row d2.1 c _ _).trans (hfr.1 x a b c), hfr.2⟩ ⟨v1, v2, ?_, fun i hi => ?_⟩ ⟨vdS ac f n ev r sv ns t, ?_, by omega, rfl⟩
      · show u2 d2.1 51 t (nI (st * 256 + vdS ac f n ev r sv ns t)) 2 4 = _
        rw [u2_a _ (by omega), h2]; exact v3
      · by_cases hit : i = t
        · subst hit
          exact ⟨st, _, by show u2 d2.1 51 i _ 51 i = _; rw [u2_s], Nat.le_refl _, by omega, fun _ => rfl⟩
        · obtain ⟨a, b, c1, c2⟩ := v4 i hi
          exact ⟨a, b, by show u2 d2.1 51 t _ 51 i = _; rw [u2_k _ _ _ hit, h51]; exact c1, c2⟩
      · show u2 d2.1 51 t (nI (st * 256 + vdS ac f n ev r sv ns t)) 51 t = _
        rw [u2_s]
end
