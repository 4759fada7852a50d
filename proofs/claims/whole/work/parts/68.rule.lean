/-! ===== pure: good, rule, step of the class ===== -/
def frR (d d' : Dm) : Prop := (∀ x, x < 54 ∨ 57 < x → d'.1 x = d.1 x) ∧ d'.2 = d.2
theorem frR_rf (d : Dm) : frR d d := ⟨fun _ _ => rfl, rfl⟩
theorem frR_u4 (d : Dm) (a b c e : Nat → Int32) : frR d (u4 d.1 a b c e, d.2) := ⟨fun _ h => u4_n h, rfl⟩
section
variable {t : Nat → Nat} {pn : Nat} {d : Dm}
theorem PG.fR {d' : Dm} (h : PG t pn d) (hf : frR d d') : PG t pn d' := ⟨h.1, by rw [hf.1 52 (by omega)]; exact h.2.1, fun i hi => by rw [hf.1 53 (by omega)]; exact h.2.2 i hi⟩
theorem mgood_eq (hR : Rf d.2.2) (hg : PG t pn d) (x : Int32) : wp (Main_good 1 x) d (fun z d' => (¬ (x = 0 ∨ x = 1) ∧ z = -102 ∧ d' = d) ∨ ((x = 0 ∨ x = 1) ∧ (∃ k, z = nI k ∧ GD (decide (x = 1)) t pn k) ∧ frR d d')) := by
  have go : (x = 0 ∨ x = 1) → wp (Main_good_12 1 x) d (fun z d' => (¬ (x = 0 ∨ x = 1) ∧ z = -102 ∧ d' = d) ∨ ((x = 0 ∨ x = 1) ∧ (∃ k, z = nI k ∧ GD (decide (x = 1)) t pn k) ∧ frR d d')) := by
    intro hx
    unfold Main_good_12 Main_good_30
    have ex : (if x = (1 : Int32) then (1 : Int32) else 0) = bI (decide (x = 1)) := by
      by_cases h1 : x = 1 <;> simp [h1, bI]
    rw [ex]
    simp only [wp_mb, wp_gR, wp_vc, zk, true_and, hR.1]
    refine wp_mono (good_eq hR hg okP_0) (fun z d' ⟨k, a, b, c, e, e1, e2, h3, _⟩ => wp_mp.mpr (Or.inr ⟨hx, ⟨k, e1, h3⟩, ?_⟩))
    rw [e2]
    exact frR_u4 d a b c e
  unfold Main_good
  refine wp_if (fun h0 => go (Or.inl h0)) (fun h0 => ?_)
  refine wp_if (fun h1 => go (Or.inr h1)) (fun h1 => ?_)
  exact wp_mp.mpr (Or.inl ⟨fun h => h.elim h0 h1, rfl, rfl⟩)
theorem GD_no {sp : Bool} {k : Nat} (h : GD sp t pn k) (hk : k < pn) : ¬ WH sp t pn := by
  intro ⟨q, hq, _⟩
  rcases h.2.2 with h1 | h1
  · omega
  · have := qs_up h1 (pn - (k + 1))
    rw [show k + 1 + (pn - (k + 1)) = pn by omega, hq] at this
    cases this
/-- the page read as a rule -/
def WQ0 (t : Nat → Nat) (pn : Nat) (d : Dm) (p : Pl) (z : Int32) (d' : Dm) : Prop := (z = 0 ∧ ¬ WH false t pn ∧ frR d d') ∨ (z = 1 ∧ WH false t pn ∧ frR d d' ∧ ∃ rs, rs ≤ 60 ∧ d'.1 55 2 = nI rs ∧ hb (tE (d'.1 56) p rs) = rvP t pn p)
def WQ1 (t : Nat → Nat) (pn : Nat) (d : Dm) (p : Pl) (z : Int32) (d' : Dm) : Prop := (z = 0 ∧ ¬ WH true t pn ∧ frR d d') ∨ (z = 1 ∧ WH true t pn ∧ frR d d' ∧ ∃ rs sz, rs ≤ sz ∧ sz ≤ 60 ∧ d'.1 55 2 = nI rs ∧ d'.1 55 1 = nI sz ∧ sv1 (d'.1 56) rs sz (d'.1 55 3) p = svP t pn p)
theorem rd_0 (hR : Rf d.2.2) (hg : PG t pn d) : wp (Read_goodOf 54 52 (0 : Int32)) d (fun z d1 => frR d d1 ∧ ∃ k, z = nI k ∧ k ≤ pn ∧ (k < pn → ¬ WH false t pn) ∧ (k = pn → wp (Read_isWhole 54) d1 (fun z d2 => ∀ p, okP p → WQ0 t pn d p z d2))) := by
  have hpn := hg.1
  refine wp_mono (wp_all ⟨_, okP_0⟩ (fun p hp => good_eq (sp := false) hR hg hp)) (fun z d1 hall => ?_)
  obtain ⟨k, a, b, c, e, e1, e2, hG, hk⟩ := hall _ okP_0
  refine ⟨by rw [e2]; exact frR_u4 d a b c e, k, e1, hG.1, fun h => GD_no hG h, fun hkp => ?_⟩
  refine wp_all ⟨_, okP_0⟩ (fun p hp => ?_)
  obtain ⟨k2, a2, b2, c2, e2', f1, f2, f3, f4⟩ := hall p hp
  have hk2 : k2 = pn := by
    have h1 := f3.1
    have := (nI_eq (by omega) (by omega)).mp (f1.symm.trans e1)
    omega
  obtain ⟨q, o, hq, hI⟩ := f4 hk2
  rw [f2]
  refine wp_mono (whole_0 hR hI (qs_le hq).1 hpn (vv_sm hp hq)) (fun z d2 h => ?_)
  have hW : WH false t pn ↔ (o = 0 ∧ 5 ≤ q ∧ q ≤ 7) := by
    constructor
    · intro ⟨q', hq', h3⟩
      rw [hq] at hq'
      cases hq'
      exact ⟨rfl, by simpa using h3⟩
    · intro ⟨h1, h2⟩
      subst h1
      exact ⟨q, hq, by simpa using h2⟩
  rcases h with ⟨h1, h2, a', b', c', e', h3⟩ | ⟨h1, h2, a', b', c', e', rs, h3, h4, h5, h6⟩
  · exact Or.inl ⟨h1, fun h => h2 (hW.mp h), by rw [h3]; exact frR_u4 d _ _ _ _⟩
  · refine Or.inr ⟨h1, hW.mpr h2, by rw [h3]; exact frR_u4 d _ _ _ _, rs, h4, ?_, ?_⟩
    · rw [h3]
      show u4 d.1 a' b' c' e' 55 2 = _
      rw [u4_55]; exact h5
    · rw [h3]
      show hb (tE (u4 d.1 a' b' c' e' 56) p rs) = _
      rw [u4_56, h6]
      unfold rvP
      rw [sq_eq hq]
theorem rd_1 (hR : Rf d.2.2) (hg : PG t pn d) : wp (Read_goodOf 54 52 (1 : Int32)) d (fun z d1 => frR d d1 ∧ ∃ k, z = nI k ∧ k ≤ pn ∧ (k < pn → ¬ WH true t pn) ∧ (k = pn → wp (Read_isWhole 54) d1 (fun z d2 => ∀ p, okP p → WQ1 t pn d p z d2))) := by
  have hpn := hg.1
  refine wp_mono (wp_all ⟨_, okP_0⟩ (fun p hp => good_eq (sp := true) hR hg hp)) (fun z d1 hall => ?_)
  obtain ⟨k, a, b, c, e, e1, e2, hG, hk⟩ := hall _ okP_0
  refine ⟨by rw [e2]; exact frR_u4 d a b c e, k, e1, hG.1, fun h => GD_no hG h, fun hkp => ?_⟩
  refine wp_all ⟨_, okP_0⟩ (fun p hp => ?_)
  obtain ⟨k2, a2, b2, c2, e2', f1, f2, f3, f4⟩ := hall p hp
  have hk2 : k2 = pn := by
    have h1 := f3.1
    have := (nI_eq (by omega) (by omega)).mp (f1.symm.trans e1)
    omega
  obtain ⟨q, o, hq, hI⟩ := f4 hk2
  rw [f2]
  refine wp_mono (whole_1 hI (qs_le hq).1 hpn (vv_sm hp hq)) (fun z d2 h => ?_)
  have hW : WH true t pn ↔ (q = 11 ∨ q = 12) := by
    constructor
    · intro ⟨q', hq', h3⟩
      rw [hq] at hq'
      cases hq'
      simpa using h3
    · intro h2
      have : o = 0 := qs_8 hq (by omega)
      subst this
      exact ⟨q, hq, by simpa using h2⟩
  obtain ⟨h0, h⟩ := h
  have hfr : frR d d2 := by rw [h0]; exact frR_u4 d _ _ _ _
  rcases h with ⟨h1, h2⟩ | ⟨h1, h2, rs, sz, h3, h4, h5, h6, h7⟩
  · exact Or.inl ⟨h1, fun h => h2 (hW.mp h), hfr⟩
  · have r55 : d2.1 55 = b2 := by rw [h0]; show u4 d.1 a2 b2 c2 e2' 55 = _; rw [u4_55]
    have r56 : d2.1 56 = c2 := by rw [h0]; show u4 d.1 a2 b2 c2 e2' 56 = _; rw [u4_56]
    exact Or.inr ⟨h1, hW.mpr h2, hfr, rs, sz, h3, h4, by rw [r55]; exact h5, by rw [r55]; exact h6, by rw [r55, r56]; exact h7⟩
end
theorem copy_eq {x y cx cy : Nat} {d : Dm} (zx : ZF.2.1 x = 9) (zy : ZF.2.1 y = 9) (rx : d.2.2 x 0 = cx) (ry : d.2.2 y 0 = cy) (zcx : ZF.2.1 cx = 23 ∧ ZF.2.2 cx = 60) (zcy : ZF.2.1 cy = 23 ∧ ZF.2.2 cy = 60) (h1 : cy ≠ cx) (h2 : y ≠ cx) (h3 : x ≠ cx) (h4 : y ≠ x) : wp (Text_copy x y) d (fun _ d' => d'.2 = d.2 ∧ (∀ z, z ≠ x → z ≠ cx → d'.1 z = d.1 z) ∧ (∀ i, i < 60 → d'.1 cx i = d.1 cy i) ∧ d'.1 x 1 = d.1 y 1 ∧ d'.1 x 2 = d.1 y 2 ∧ d'.1 x 3 = d.1 y 3) := by
  unfold Text_copy
  simp only [wp_mb, wp_gR, wp_gI, wp_ac, wp_pI, wp_mp, zx, zy, rx, ry, zcx.1, zcx.2, zcy.1, zcy.2, true_and]
  have n60 : (60 : Int32).toNatClampNeg = 60 := by decide
  have n0 : (0 : Int32).toNatClampNeg = 0 := by decide
  simp only [n60, n0]
  have ey : ∀ j, cpF d.1 cy cx 0 0 60 y j = d.1 y j := fun j => by unfold cpF; rw [if_neg (fun q => h2 q.1)]
  refine ⟨⟨⟨by decide, by decide, by decide⟩, by omega, by omega, h1⟩, ?_, ?_, ?_, ?_, ?_⟩
  · intro z a b
    rw [u2_row _ a, u2_row _ a, u2_row _ a]
    funext j
    unfold cpF
    rw [if_neg (fun q => b q.1)]
  · intro i hi
    rw [u2_a _ (fun q => h3 q.symm), u2_a _ (fun q => h3 q.symm), u2_a _ (fun q => h3 q.symm)]
    unfold cpF
    rw [if_pos ⟨rfl, by omega, by omega⟩, show 0 + (i - 0) = i by omega]
  · rw [u2_k _ _ _ (by omega), u2_k _ _ _ (by omega), u2_s]
    exact ey 1
  · rw [u2_k _ _ _ (by omega), u2_s, u2_a _ h4]
    exact ey 2
  · rw [u2_s, u2_a _ h4, u2_a _ h4]
    exact ey 3
