/-! ===== pure: the list filled, and kept ===== -/
def fLi (ac : Nat → Ac) (f : Pl) (n k s : Nat) (E : Nat → Nat) : Prop := 1 ≤ s ∧ stri (lsO ac f n E) s ∧ (∀ j, j < s → PS ac (wm ac n) k (E j)) ∧ ∀ T, PS ac (wm ac n) k T → ∃ j, j < s ∧ pS ac f (E j) n = pS ac f T n ∧ E j ≤ T
def cFi (ac : Nat → Ac) (f : Pl) (n : Nat) (d : Dm) : Prop := d.1 58 3 = -1 ∨ ∃ k, k ≤ n ∧ d.1 58 3 = nI k ∧ ∃ s E, LsA s (lsO ac f n E) d ∧ fLi ac f n k s E
section
variable {d : Dm} {r n : Nat} {ac : Nat → Ac} {f : Pl} {m : Nat}
theorem LsA.cong {A B : Nat → NP} (h : LsA m A d) (hAB : ∀ j, j < m → A j = B j) : LsA m B d := ⟨h.1, h.2.1, fun j hj => by rw [← hAB j hj]; exact h.2.2 j hj⟩
theorem LsA.mov {A : Nat → NP} {d' : Dm} (h : LsA m A d) (h1 : d'.1 58 2 = d.1 58 2) (h2 : d'.2.1 59 = d.2.1 59) (h3 : d'.1 60 = d.1 60) : LsA m A d' := ⟨h1.trans h.1, h.2.1, fun j hj => by rw [h2, h3]; exact h.2.2 j hj⟩
theorem fill_eq (h : CP r n ac f d) (hF : cFi ac f n d) {k : Nat} (hk : k ≤ n) : wp (Found_fill 58 3 (nI k)) d (fun _ d' => frF d d' ∧ d'.1 58 3 = nI k ∧ cFi ac f n d' ∧ ∃ s E, LsA s (lsO ac f n E) d' ∧ fLi ac f n k s E) := by
  have hn := h.1.1
  unfold Found_fill
  simp only [wp_mb, wp_gI, zk, zl, true_and]
  by_cases hc : d.1 58 3 = nI k
  · rw [if_pos hc]
    refine wp_mp.mpr ⟨frF_rf d, hc, hF, ?_⟩
    rcases hF with h1 | ⟨k', hk', e, s, E, h1, h2⟩
    · rw [h1] at hc
      have := congrArg Int32.toInt hc
      rw [nI_toInt (by omega)] at this
      exact absurd this (by rw [show (-1 : Int32).toInt = -1 from rfl]; omega)
    · have : k' = k := (nI_eq (by omega) (by omega)).mp (e.symm.trans hc)
      subst this
      exact ⟨s, E, h1, h2⟩
  · rw [if_neg hc]
    simp only [wp_mb, wp_vc, wp_pI, wp_mp, zk, zl, true_and]
    refine wp_mono (gather_eq h hk) (fun _ d1 ⟨s, E, g1, g2, g3, g4, g5⟩ => ?_)
    have hR1 : Rf d1.2.2 := (h.fF g3).2.2.2.2
    refine wp_mono (sort_eq g2 hR1 g1) (fun _ d2 ⟨B, b1, b2, b3, b4⟩ => ?_)
    have hR2 : Rf d2.2.2 := (h.fF (frF_tr g3 b2)).2.2.2.2
    refine wp_mono (drop_eq b1 hR2 g1 b4) (fun _ d3 ⟨s2, C, c0, c1, c2, c3, c4, c5⟩ => ?_)
    have hC : ∀ j, j < s2 → ∃ i, i < s ∧ lsO ac f n E i = C j := fun j hj => (b3 _).mp (c4 j hj)
    have hCe : ∀ j, j < s2 → C j = lsO ac f n (fun j => (C j).2) j := fun j hj => by
      obtain ⟨i, i1, i2⟩ := hC j hj
      rw [lsO, ← i2]; rfl
    have hL := (c1.cong hCe).mov (d' := (u2 d3.1 58 3 (nI k), d3.2)) (u2_k d3.1 58 58 (show 2 ≠ 3 by omega) (nI k)) rfl (u2_row d3.1 (show 60 ≠ 58 by omega) 3 (nI k))
    have hFL : fLi ac f n k s2 (fun j => (C j).2) := by
      refine ⟨c0, fun a b hab hb => ?_, fun j hj => ?_, fun T hT => ?_⟩
      · rw [← hCe a (by omega), ← hCe b hb]
        exact c3 a b hab hb
      · obtain ⟨i, i1, i2⟩ := hC j hj
        show PS _ _ _ (C j).2
        rw [← i2]
        exact g4 i i1
      · obtain ⟨i, i1, i2⟩ := g5 T hT
        obtain ⟨j, j1, j2, j3⟩ := c5 (lsO ac f n E i) ((b3 _).mpr ⟨i, i1, rfl⟩)
        refine ⟨j, j1, ?_, by rw [← i2]; exact j3⟩
        rw [hCe j j1] at j2
        obtain ⟨i', i1', i2'⟩ := hC j j1
        have hx : sub (C j).2 (wm ac n) := by rw [← i2']; exact PS_sub (g4 i' i1')
        have := pw_inj (okP_pS h.1.2.1 h.1.2.2 hx n (Nat.le_refl _)) (okP_pS h.1.2.1 h.1.2.2 (PS_sub (g4 i i1)) n (Nat.le_refl _)) j2
        rw [← i2]
        exact this
    have hfr := frF_tr g3 (frF_tr b2 c2)
    exact ⟨⟨fun z a b => (u2_row d3.1 a 3 (nI k)).trans (hfr.1 z a b), hfr.2⟩, u2_s d3.1 58 3 (nI k), Or.inr ⟨k, hk, u2_s d3.1 58 3 (nI k), s2, _, hL, hFL⟩, s2, _, hL, hFL⟩
end
