/-! ===== pure: bounds, the shortest way, by the reference ===== -/
section
variable {r n ns A : Nat} {ac : Nat → Ac} {f : Pl} {ev : Nat → Pl → Bool} {sv : Nat → Pl → Pl} {d : Dm} {p : Pl}
theorem RKm.f75 {k wn s sm : Nat} {wa Rk B : Nat → Nat} {d' : Dm} (h : RKm r n ac f ev sv ns k wa wn s Rk sm B d) (hf : frc s75 d d') : RKm r n ac f ev sv ns k wa wn s Rk sm B d' := by
  obtain ⟨h1, h2, h3, h4, h5, h6⟩ := h
  have hc : ∀ {x j}, x ≠ 75 → ¬ s75 x j := fun h q => h q
  exact ⟨h1.fr hf (fun x j hx q => by unfold tbM at hx; unfold s75 at q; omega), (hf.i (hc (by omega))).trans h2, h3, fun j hj => ⟨(hf.i (hc (by omega))).trans (h4 j hj).1, (h4 j hj).2⟩, h5, (hf.i (hc (by omega))).trans h6.1, h6.2.1, fun i hi => ⟨(hf.i (hc (by omega))).trans (h6.2.2.1 i hi).1, (h6.2.2.1 i hi).2⟩, h6.2.2.2⟩
theorem boundsM (h : MX r n ac f ev sv ns A d) (x y w : Int32) : wp (Mod_bounds 65 x y w) d (fun z d' => frc sPl d d' ∧ MX r n ac f ev sv ns A d' ∧ ((¬ (0 ≤ x ∧ x < 8) ∧ z = -101) ∨ ∃ c, c < 8 ∧ x = nI c ∧ (((¬ (0 ≤ y ∧ y ≤ nI n) ∨ (w ≠ 0 ∧ w ≠ 1)) ∧ z = -102) ∨ (w = 0 ∨ w = 1) ∧ ∃ k, k ≤ n ∧ y = nI k ∧ ∃ s Q b, LQ ac f n k s Q ∧ z = nI b ∧ (∃ j, j < s ∧ b = Q j c) ∧ ∀ j, j < s → if w = 0 then b ≤ Q j c else Q j c ≤ b))) := by
  have hn := h.1.2.1.1.1
  unfold Mod_bounds
  simp only [wp_mb, wp_eq (Mod_isSector_eq _ _)]
  rcases sec_cases x with hx | ⟨c, hc, hx⟩
  · simp only [if_neg hx, if_true, wp_mp]
    exact ⟨frc_rf d, h, Or.inl ⟨hx, trivial⟩⟩
  · subst hx
    simp only [if_pos (nI_sec hc), if_neg (show ¬ (1 : Int32) = 0 by decide), wp_mb, wp_gI, zk, true_and, h.1.2.1.2.1, wp_eq (Mod_in_eq _ _ _ _)]
    rcases ib_cases y (n := n) (by omega) with hy | ⟨k, hk, hy⟩
    · simp only [if_neg hy, if_true, wp_mp]
      exact ⟨frc_rf d, h, Or.inr ⟨c, hc, rfl, Or.inl ⟨Or.inl hy, trivial⟩⟩⟩
    · subst hy
      simp only [if_pos (nI_hasB hk (show n < 2 ^ 31 by omega)), if_neg (show ¬ (1 : Int32) = 0 by decide), wp_mb, wp_eq (Mod_in_eq _ _ _ _), in01]
      by_cases hw : w = 0 ∨ w = 1
      · simp only [if_pos hw, if_neg (show ¬ (1 : Int32) = 0 by decide), wp_mb, wp_vc, wp_ml, zk, true_and]
        refine wp_mono (fp_eq h hk) (fun _ d' ⟨g1, g2, g3, wa, wn, s, Rk, sm, B, hRK⟩ => ?_)
        obtain ⟨h1, h2, h3, h4, h5, h6⟩ := id hRK
        have hop : ∀ c, okP (pS ac f (aW wa c wn) n) := fun c => okP_pS h.1.2.1.1.2.1 h.1.2.1.1.2.2 (aW_sub h1.1.2.2 c) n (Nat.le_refl _)
        have s75P : ∀ {e e'}, frc s75 e e' → frc sPl e e' := fun hf => fP_w hf fun x j hx => by unfold s75 at hx; unfold crM; omega
        unfold Mod_bounds_45
        refine wp_up (fun i (q : Int32 × Int32) dd => q.2 = nI i ∧ frc s75 d' dd ∧ ((i = 0 ∧ q.1 = -1) ∨ ∃ b, b < 100 ∧ q.1 = nI b ∧ (∃ j, j < i ∧ b = pS ac f (aW wa (Rk j) wn) n c) ∧ ∀ j, j < i → if w = 0 then b ≤ pS ac f (aW wa (Rk j) wn) n c else pS ac f (aW wa (Rk j) wn) n c ≤ b)) s ?_ (i := 0) (by omega) ⟨rfl, frc_rf d', Or.inl ⟨rfl, rfl⟩⟩
        intro i ⟨q1, q2⟩ dd hi ⟨e1, hf, hst⟩
        dsimp only at e1 hst
        subst e1
        have hRK2 := hRK.f75 hf
        obtain ⟨i1, i2, i3, i4, -, -⟩ := id hRK2
        have hC2 : MCo r n ac f ev sv ns A dd := g2.fr hf (fun x j hx q => by unfold crM at hx; unfold s75 at q; omega)
        have l2 : dd.1 65 27 = 1 := (hf.i (by unfold s75; omega)).trans g3
        have r79 : dd.2.2 65 28 = 79 := hC2.1.2.2.2.2.2.2.2.2.2.2.2.2.2.1
        have r88 : dd.2.2 65 41 = 88 := hC2.1.2.2.2.2.2.2.2.2.2.2.2.2.2.2.2.2.2.2.2.2.2.2
        unfold Mod_bounds_45_b
        dsimp only
        simp only [wp_mb, wp_gI, zk, true_and, i2]
        by_cases hx2 : i = s
        · subst hx2
          rw [if_pos (nI_le (Nat.le_refl _) (by omega)), wp_mr, wp_mp]
          rcases hst with ⟨hst, -⟩ | ⟨b, -, b1, b2, b3⟩
          · omega
          · exact ⟨frc_t g1 (s75P hf), MX.of1 hC2 l2 i1, Or.inr ⟨c, hc, rfl, Or.inr ⟨hw, k, hk, rfl, i, _, b, h5, b1, b2, b3⟩⟩⟩
        · rw [if_neg (nI_ge (by omega) (by omega))]
          obtain ⟨k1, k2, k3⟩ := i4 i (by omega)
          simp only [wp_mb, wp_gR, wp_aI, wp_aL, wp_vc, zk, zl, true_and, r79, r88, nI_clamp (show i < 2 ^ 31 by omega), k1, nI_clamp (show Rk i < 2 ^ 31 by omega), (i1.2 (Rk i) k2).1, wp_eq (layP hC2.1 (hop (Rk i)))]
          refine ⟨ib_nI (by omega) (by omega), ib_nI (by omega) (by omega), ?_⟩
          generalize hd2 : ((rw8 dd.1 75 (pS ac f (aW wa (Rk i) wn) n), dd.2) : Dm) = d2
          have hf2 : frc s75 d' d2 := by rw [← hd2]; exact frc_t hf (fr_75 dd _)
          have now2 : d2.1 75 c = nI (pS ac f (aW wa (Rk i) wn) n c) := by rw [← hd2]; exact rw8_row _ _ _ hc
          have r75 : d2.2.2 65 16 = 75 := by rw [← hd2]; exact hC2.1.2.2.2.2.2.2.2.2.2.1
          have hQ := (hop (Rk i)).1 c
          -- what the round leaves
          have fin : ∀ b, b < 100 → (∃ j, j < i + 1 ∧ b = pS ac f (aW wa (Rk j) wn) n c) → (∀ j, j < i + 1 → if w = 0 then b ≤ pS ac f (aW wa (Rk j) wn) n c else pS ac f (aW wa (Rk j) wn) n c ≤ b) → wp (Mod_bounds_128 65 (nI c) w (nI i) (nI b)) d2 (fun z dd => match z with
              | .inl q => i < s ∧ q.2 = nI (i + 1) ∧ frc s75 d' dd ∧ ((i + 1 = 0 ∧ q.1 = -1) ∨ ∃ b, b < 100 ∧ q.1 = nI b ∧ (∃ j, j < i + 1 ∧ b = pS ac f (aW wa (Rk j) wn) n c) ∧ ∀ j, j < i + 1 → if w = 0 then b ≤ pS ac f (aW wa (Rk j) wn) n c else pS ac f (aW wa (Rk j) wn) n c ≤ b)
              | .inr z => frc sPl d dd ∧ MX r n ac f ev sv ns A dd ∧ ((¬ (0 ≤ nI c ∧ nI c < 8) ∧ z = -101) ∨ ∃ c', c' < 8 ∧ nI c = nI c' ∧ (((¬ (0 ≤ nI k ∧ nI k ≤ nI n) ∨ (w ≠ 0 ∧ w ≠ 1)) ∧ z = -102) ∨ (w = 0 ∨ w = 1) ∧ ∃ k', k' ≤ n ∧ nI k = nI k' ∧ ∃ s Q b, LQ ac f n k' s Q ∧ z = nI b ∧ (∃ j, j < s ∧ b = Q j c') ∧ ∀ j, j < s → if w = 0 then b ≤ Q j c' else Q j c' ≤ b))) := by
            intro b hb h1' h2'
            unfold Mod_bounds_128
            simp only [wp_ml, wp_mp, nI_1]
            exact ⟨by omega, trivial, hf2, Or.inr ⟨b, hb, rfl, h1', h2'⟩⟩
          have take : (∀ j, j < i → if w = 0 then pS ac f (aW wa (Rk i) wn) n c ≤ pS ac f (aW wa (Rk j) wn) n c else pS ac f (aW wa (Rk j) wn) n c ≤ pS ac f (aW wa (Rk i) wn) n c) → wp (Mod_bounds_105 65 (nI c) w q1 (nI i)) d2 (fun z dd => match z with
              | .inl q => i < s ∧ q.2 = nI (i + 1) ∧ frc s75 d' dd ∧ ((i + 1 = 0 ∧ q.1 = -1) ∨ ∃ b, b < 100 ∧ q.1 = nI b ∧ (∃ j, j < i + 1 ∧ b = pS ac f (aW wa (Rk j) wn) n c) ∧ ∀ j, j < i + 1 → if w = 0 then b ≤ pS ac f (aW wa (Rk j) wn) n c else pS ac f (aW wa (Rk j) wn) n c ≤ b)
              | .inr z => frc sPl d dd ∧ MX r n ac f ev sv ns A dd ∧ ((¬ (0 ≤ nI c ∧ nI c < 8) ∧ z = -101) ∨ ∃ c', c' < 8 ∧ nI c = nI c' ∧ (((¬ (0 ≤ nI k ∧ nI k ≤ nI n) ∨ (w ≠ 0 ∧ w ≠ 1)) ∧ z = -102) ∨ (w = 0 ∨ w = 1) ∧ ∃ k', k' ≤ n ∧ nI k = nI k' ∧ ∃ s Q b, LQ ac f n k' s Q ∧ z = nI b ∧ (∃ j, j < s ∧ b = Q j c') ∧ ∀ j, j < s → if w = 0 then b ≤ Q j c' else Q j c' ≤ b))) := by
            intro hall
            unfold Mod_bounds_105 Mod_bounds_110
            rw [if_neg (by decide)]
            simp only [wp_mb, wp_gR, wp_aI, zk, zl, true_and, r75, nI_clamp (show c < 2 ^ 31 by omega), now2]
            refine ⟨ib_nI (by omega) (by omega), wp_mono (fin _ hQ ⟨i, by omega, rfl⟩ (fun j hj => ?_)) (fun z dd hh => by cases z <;> exact hh)⟩
            by_cases hji : j = i
            · subst hji; split <;> omega
            · exact hall j (by omega)
          rcases hst with ⟨hi0, hq1⟩ | ⟨b, bb, b1, b2, b3⟩
          · rw [if_pos hq1]
            exact wp_mono (take (fun j hj => by omega)) (fun z dd hh => by cases z <;> exact hh)
          · rw [b1, if_neg (ne_m1 (by omega))]
            rw [b1] at take
            have leave : (if w = 0 then b ≤ pS ac f (aW wa (Rk i) wn) n c else pS ac f (aW wa (Rk i) wn) n c ≤ b) → wp (Mod_bounds_109 65 (nI c) w (nI b) (nI i)) d2 (fun z dd => match z with
                | .inl q => i < s ∧ q.2 = nI (i + 1) ∧ frc s75 d' dd ∧ ((i + 1 = 0 ∧ q.1 = -1) ∨ ∃ b, b < 100 ∧ q.1 = nI b ∧ (∃ j, j < i + 1 ∧ b = pS ac f (aW wa (Rk j) wn) n c) ∧ ∀ j, j < i + 1 → if w = 0 then b ≤ pS ac f (aW wa (Rk j) wn) n c else pS ac f (aW wa (Rk j) wn) n c ≤ b)
                | .inr z => frc sPl d dd ∧ MX r n ac f ev sv ns A dd ∧ ((¬ (0 ≤ nI c ∧ nI c < 8) ∧ z = -101) ∨ ∃ c', c' < 8 ∧ nI c = nI c' ∧ (((¬ (0 ≤ nI k ∧ nI k ≤ nI n) ∨ (w ≠ 0 ∧ w ≠ 1)) ∧ z = -102) ∨ (w = 0 ∨ w = 1) ∧ ∃ k', k' ≤ n ∧ nI k = nI k' ∧ ∃ s Q b, LQ ac f n k' s Q ∧ z = nI b ∧ (∃ j, j < s ∧ b = Q j c') ∧ ∀ j, j < s → if w = 0 then b ≤ Q j c' else Q j c' ≤ b))) := by
              intro hb
              unfold Mod_bounds_109 Mod_bounds_110
              rw [if_pos rfl]
              obtain ⟨j0, j1, j2⟩ := b2
              refine wp_mono (fin b bb ⟨j0, by omega, j2⟩ (fun j hj => ?_)) (fun z dd hh => by cases z <;> exact hh)
              by_cases hji : j = i
              · rw [hji]; exact hb
              · exact b3 j (by omega)
            by_cases hw0 : w = 0
            · rw [if_pos hw0]
              simp only [wp_mb, wp_gR, wp_aI, zk, zl, true_and, r75, nI_clamp (show c < 2 ^ 31 by omega), now2]
              refine ⟨ib_nI (by omega) (by omega), ?_⟩
              by_cases hle : b ≤ pS ac f (aW wa (Rk i) wn) n c
              · rw [if_pos (nI_le hle (by omega))]
                exact wp_mono (leave (by rw [if_pos hw0]; exact hle)) (fun z dd hh => by cases z <;> exact hh)
              · rw [if_neg (nI_ge (by omega) (by omega))]
                refine wp_mono (take (fun j hj => ?_)) (fun z dd hh => by cases z <;> exact hh)
                have := b3 j hj
                rw [if_pos hw0] at this ⊢
                omega
            · rw [if_neg hw0]
              simp only [wp_mb, wp_gR, wp_aI, zk, zl, true_and, r75, nI_clamp (show c < 2 ^ 31 by omega), now2]
              refine ⟨ib_nI (by omega) (by omega), ?_⟩
              by_cases hle : pS ac f (aW wa (Rk i) wn) n c ≤ b
              · rw [if_pos (nI_le hle (by omega))]
                exact wp_mono (leave (by rw [if_neg hw0]; exact hle)) (fun z dd hh => by cases z <;> exact hh)
              · rw [if_neg (nI_ge (by omega) (by omega))]
                refine wp_mono (take (fun j hj => ?_)) (fun z dd hh => by cases z <;> exact hh)
                have := b3 j hj
                rw [if_neg hw0] at this ⊢
                omega
      · simp only [if_neg hw, if_true, wp_mp]
        exact ⟨frc_rf d, h, Or.inr ⟨c, hc, rfl, Or.inl ⟨Or.inr ⟨fun q => hw (Or.inl q), fun q => hw (Or.inr q)⟩, trivial⟩⟩⟩
end
