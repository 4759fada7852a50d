/-! ===== pure: the shortest way, safe, needless, by the reference ===== -/
section
variable {r n ns A : Nat} {ac : Nat → Ac} {f : Pl} {ev : Nat → Pl → Bool} {sv : Nat → Pl → Pl} {d : Dm} {p : Pl}
theorem leastM {k wn s sm : Nat} {wa Rk B : Nat → Nat} (hC : MCo r n ac f ev sv ns A d) (h : RKm r n ac f ev sv ns k wa wn s Rk sm B d) (hp : okP p) (hex : ∃ T, PS ac (wm ac n) k T ∧ pS ac f T n = p) : ∃ T, PS ac (wm ac n) k T ∧ pS ac f T n = p ∧ (∀ U, PS ac (wm ac n) k U → pS ac f U n = p → T ≤ U) ∧ Mod_leastSet 65 (lN (num p)) d = some (lN T, d) := by
  obtain ⟨hT, -, -, -, -, c1, c2, c3, c4⟩ := h
  have hn := hC.2.1.1.1
  have hwn := hT.1.2.2.le
  have h12 : 2 ^ wn ≤ 4096 := p31 (by omega)
  have hsub := fun c => aW_sub (ac := ac) (n := n) hT.1.2.2 c
  have hop : ∀ c, okP (pS ac f (aW wa c wn) n) := fun c => okP_pS hC.2.1.1.2.1 hC.2.1.1.2.2 (hsub c) n (Nat.le_refl _)
  have hSl : ∀ c, aW wa c wn < 4096 := fun c => Nat.lt_of_lt_of_le (sub_lt (hsub c) (wm_lt ac n)) (p31 hn)
  have r79 : d.2.2 65 28 = 79 := hC.1.2.2.2.2.2.2.2.2.2.2.2.2.2.1
  have r87 : d.2.2 65 39 = 87 := hC.1.2.2.2.2.2.2.2.2.2.2.2.2.2.2.2.2.2.2.2.2.2.1
  have hpl := num_lt hp
  have key : wp (Mod_leastSet 65 (lN (num p))) d (fun z d' => d' = d ∧ ∃ T, z = lN T ∧ PS ac (wm ac n) k T ∧ pS ac f T n = p ∧ ∀ U, PS ac (wm ac n) k U → pS ac f U n = p → T ≤ U) := by
    unfold Mod_leastSet
    simp only [wp_ml]
    unfold Mod_leastSet_7
    refine wp_up (fun i (q : Int64 × Int32) dd => q.2 = nI i ∧ dd = d ∧ ((q.1 = -1 ∧ ∀ j, j < i → pS ac f (aW wa (B j) wn) n ≠ p) ∨ ∃ T, T < 4096 ∧ q.1 = lN T ∧ PS ac (wm ac n) k T ∧ pS ac f T n = p ∧ ∀ j, j < i → pS ac f (aW wa (B j) wn) n = p → T ≤ aW wa (B j) wn)) sm ?_ (i := 0) (by omega) ⟨rfl, rfl, Or.inl ⟨rfl, fun j hj => by omega⟩⟩
    intro i ⟨q1, q2⟩ dd hi ⟨e1, e2, hst⟩
    dsimp only at e1 hst
    subst e1; subst e2
    unfold Mod_leastSet_7_b
    dsimp only
    simp only [wp_mb, wp_gI, zk, true_and, c1]
    by_cases hx : i = sm
    · subst hx
      rw [if_pos (nI_le (Nat.le_refl _) (by omega)), wp_mr, wp_mp]
      refine ⟨rfl, ?_⟩
      rcases hst with ⟨-, hno⟩ | ⟨T, -, t1, t2, t3, t4⟩
      · obtain ⟨T, t1, t2⟩ := hex
        obtain ⟨j, j1, j2⟩ := c4 T t1
        exact absurd (by rw [j2]; exact t2) (hno j j1)
      · refine ⟨T, t1, t2, t3, fun U u1 u2 => ?_⟩
        obtain ⟨j, j1, j2⟩ := c4 U u1
        rw [← j2] at u2 ⊢
        exact t4 j j1 u2
    · rw [if_neg (nI_ge (by omega) (by omega))]
      obtain ⟨m1, m2, m3⟩ := c3 i (by omega)
      have hBl : B i < 2 ^ 31 := by omega
      simp only [wp_mb, wp_gR, wp_aI, wp_aL, wp_vc, zk, zl, true_and, r79, r87, nI_clamp (show i < 2 ^ 31 by omega), m1, wp_eq (asActs_eq hC.1 hT.1 hn hBl), nI_clamp hBl, (hT.2 (B i) m2).1]
      refine ⟨ib_nI (by omega) (by omega), ib_nI (by omega) (by omega), ib_nI (by omega) (by omega), ?_⟩
      have hS := hSl (B i)
      have e64 : (nI (aW wa (B i) wn)).toInt64 = lN (aW wa (B i) wn) := nI_l (by omega)
      unfold Mod_leastSet_62 Mod_leastSet_66
      simp only [ml]
      rw [e64]
      by_cases hm : pS ac f (aW wa (B i) wn) n = p
      · rw [if_pos (by rw [hm])]
        have take : (∀ j, j < i → pS ac f (aW wa (B j) wn) n = p → aW wa (B i) wn ≤ aW wa (B j) wn) → wp (mp (Sum.inl (α := Int64 × Int32) (β := Int64) (lN (aW wa (B i) wn), nI i + (1 : Int32)))) dd (fun z d' => match z with
            | .inl q => i < sm ∧ q.2 = nI (i + 1) ∧ d' = dd ∧ ((q.1 = -1 ∧ ∀ j, j < i + 1 → pS ac f (aW wa (B j) wn) n ≠ p) ∨ ∃ T, T < 4096 ∧ q.1 = lN T ∧ PS ac (wm ac n) k T ∧ pS ac f T n = p ∧ ∀ j, j < i + 1 → pS ac f (aW wa (B j) wn) n = p → T ≤ aW wa (B j) wn)
            | .inr z => d' = dd ∧ ∃ T, z = lN T ∧ PS ac (wm ac n) k T ∧ pS ac f T n = p ∧ ∀ U, PS ac (wm ac n) k U → pS ac f U n = p → T ≤ U) := by
          intro hall
          rw [wp_mp]
          refine ⟨by omega, nI_1 i, rfl, Or.inr ⟨aW wa (B i) wn, hS, rfl, m3, hm, fun j hj hjp => ?_⟩⟩
          by_cases hji : j = i
          · rw [hji]; exact Nat.le_refl _
          · exact hall j (by omega) hjp
        rcases hst with ⟨h1, hno⟩ | ⟨T, tl', t1, t2, t3, t4⟩
        · rw [if_pos h1]
          exact wp_mono (take (fun j hj hjp => absurd hjp (hno j hj))) (fun z d' hh => by cases z <;> exact hh)
        · have hne : ¬ q1 = (-1 : Int64) := by
            rw [t1]
            intro q
            have := congrArg Int64.toInt q
            rw [pk_lT (by omega)] at this
            exact absurd this (by rw [show (-1 : Int64).toInt = -1 from rfl]; omega)
          rw [if_neg hne]
          by_cases hle : T ≤ aW wa (B i) wn
          · rw [if_pos (by rw [t1]; exact (pk_lLE (by omega) (by omega)).mpr hle), wp_mp]
            refine ⟨by omega, nI_1 i, rfl, Or.inr ⟨T, tl', t1, t2, t3, fun j hj hjp => ?_⟩⟩
            by_cases hji : j = i
            · rw [hji]; exact hle
            · exact t4 j (by omega) hjp
          · rw [if_neg (by rw [t1]; exact fun q => hle ((pk_lLE (by omega) (by omega)).mp q))]
            exact wp_mono (take (fun j hj hjp => by have := t4 j hj hjp; omega)) (fun z d' hh => by cases z <;> exact hh)
      · rw [if_neg (fun q => hm ((lN_num (hop (B i)) hp).mp q)), wp_mp]
        refine ⟨by omega, nI_1 i, rfl, ?_⟩
        rcases hst with ⟨h1, hno⟩ | ⟨T, tl', t1, t2, t3, t4⟩
        · refine Or.inl ⟨h1, fun j hj => ?_⟩
          by_cases hji : j = i
          · rw [hji]; exact hm
          · exact hno j (by omega)
        · refine Or.inr ⟨T, tl', t1, t2, t3, fun j hj hjp => ?_⟩
          by_cases hji : j = i
          · rw [hji] at hjp; exact absurd hjp hm
          · exact t4 j (by omega) hjp
  obtain ⟨z, d', e, rfl, T, rfl, t2, t3, t4⟩ := key
  exact ⟨T, t2, t3, t4, e⟩
theorem shortestM (h : MX r n ac f ev sv ns A d) (x : Int32) : wp (Mod_shortest 65 x) d (fun z d' => frc sPl d d' ∧ MX r n ac f ev sv ns A d' ∧ ((¬ (0 ≤ x ∧ x ≤ 3) ∧ z = -2) ∨ ((0 ≤ x ∧ x ≤ 3) ∧ z = -1 ∧ ∀ k, k ≤ n → ¬ BK ac (vdS ac f n ev r sv ns) A (wm ac n) k) ∨ ((0 ≤ x ∧ x ≤ 3) ∧ ∃ k, k ≤ n ∧ BK ac (vdS ac f n ev r sv ns) A (wm ac n) k ∧ (∀ j, j < k → ¬ BK ac (vdS ac f n ev r sv ns) A (wm ac n) j) ∧ ((x = 0 ∧ z = lN k) ∨ (x ≠ 0 ∧ ∃ s Q j T, LQ ac f n k s Q ∧ j < s ∧ vP ev r sv ns (Q j) &&& due ac A k ≠ 0 ∧ (∀ i, i < j → vP ev r sv ns (Q i) &&& due ac A k = 0) ∧ PS ac (wm ac n) k T ∧ pS ac f T n = Q j ∧ (∀ U, PS ac (wm ac n) k U → pS ac f U n = Q j → T ≤ U) ∧ ((x = 2 ∧ z = lN T) ∨ (x = 1 ∧ z = lN (num (Q j))) ∨ (x ≠ 2 ∧ x ≠ 1 ∧ z = lN (num (hl sv 0 ns (Q j)))))))))) := by
  have hn := h.1.2.1.1.1
  have hr := h.1.2.2.1.1
  unfold Mod_shortest
  simp only [wp_mb, wp_eq (Mod_in_eq _ _ _ _)]
  by_cases hx : 0 ≤ x ∧ x ≤ 3
  · simp only [if_pos hx, if_neg (show ¬ (1 : Int32) = 0 by decide), wp_ml]
    unfold Mod_shortest_15
    refine wp_up (fun k c dd => c = nI k ∧ frc sPl d dd ∧ MX r n ac f ev sv ns A dd ∧ ∀ j, j < k → ¬ BK ac (vdS ac f n ev r sv ns) A (wm ac n) j) (n + 1) ?_ (i := 0) (by omega) ⟨rfl, frc_rf d, h, fun j hj => by omega⟩
    intro k c dd hk ⟨e1, hf, hX, hno⟩
    subst e1
    unfold Mod_shortest_15_b
    simp only [wp_mb, wp_gI, zk, true_and, hX.1.2.1.2.1]
    by_cases hkn : n < k
    · rw [if_pos (nI_lt hkn (by omega)), wp_mr, wp_mp]
      exact ⟨hf, hX, Or.inr (Or.inl ⟨hx, rfl, fun j hj => hno j (by omega)⟩)⟩
    · rw [if_neg (nI_nlt (by omega) (by omega))]
      have hkn' : k ≤ n := by omega
      simp only [wp_mb, wp_vc, zk, true_and]
      refine wp_mono (fp_eq hX hkn') (fun _ d' ⟨g1, g2, g3, wa, wn, s, Rk, sm, B, hRK⟩ => ?_)
      obtain ⟨h1, h2, h3, h4, h5, h6⟩ := id hRK
      have hX' := MX.of1 g2 g3 h1
      have hfd := frc_t hf g1
      have hop : ∀ c, okP (pS ac f (aW wa c wn) n) := fun c => okP_pS h.1.2.1.1.2.1 h.1.2.1.1.2.2 (aW_sub h1.1.2.2 c) n (Nat.le_refl _)
      have hDl : A ||| tl ac k < 2 ^ r := Nat.or_lt_two_pow h.1.2.2.2.2 (tl_lt h.1.2.1.1.2.2 hr k hkn')
      have r79 : d'.2.2 65 28 = 79 := g2.1.2.2.2.2.2.2.2.2.2.2.2.2.2.1
      have r80 : d'.2.2 65 29 = 80 := g2.1.2.2.2.2.2.2.2.2.2.2.2.2.2.2.1
      have r88 : d'.2.2 65 41 = 88 := g2.1.2.2.2.2.2.2.2.2.2.2.2.2.2.2.2.2.2.2.2.2.2.2
      simp only [wp_mb, wp_vc, wp_ml, zk, true_and, wp_eq (dueM g2 hkn')]
      unfold Mod_shortest_37
      refine wp_up (fun i c d2 => c = nI i ∧ d2 = d' ∧ ∀ j, j < i → vP ev r sv ns (pS ac f (aW wa (Rk j) wn) n) &&& due ac A k = 0) s ?_ (i := 0) (by omega) ⟨rfl, rfl, fun j hj => by omega⟩
      intro i c d2 hi ⟨e1, e2, hq⟩
      subst e1; subst e2
      unfold Mod_shortest_37_b
      simp only [wp_mb, wp_gI, zk, true_and, h2]
      by_cases hxi : i = s
      · subst hxi
        rw [if_pos (nI_le (Nat.le_refl _) (by omega))]
        simp only [wp_mr, wp_ml, wp_mp, nI_1]
        refine ⟨by omega, trivial, hfd, hX', fun j hj => ?_⟩
        by_cases hjk : j = k
        · subst hjk
          rintro ⟨T, t1, t2⟩
          obtain ⟨j', j1, j2⟩ := h5.2.2 T t1
          have := hq j' j1
          dsimp only at j2
          rw [j2] at this
          exact t2 this
        · exact hno j (by omega)
      · rw [if_neg (nI_ge (by omega) (by omega))]
        obtain ⟨k1, k2, k3⟩ := h4 i (by omega)
        simp only [wp_mb, wp_gR, wp_aI, wp_vc, zk, zl, true_and, r88, nI_clamp (show i < 2 ^ 31 by omega), k1, wp_eq (isBrk_eq g2 k3 (h1.2 (Rk i) k2) hDl), due_or]
        refine ⟨ib_nI (by omega) (by omega), ?_⟩
        by_cases hb : vP ev r sv ns (pS ac f (aW wa (Rk i) wn) n) &&& due ac A k = 0
        · rw [if_pos (show bI (decide (vP ev r sv ns (pS ac f (aW wa (Rk i) wn) n) &&& due ac A k ≠ 0)) = 0 by simp [hb, bI])]
          simp only [wp_ml, wp_mp, nI_1]
          refine ⟨by omega, trivial, trivial, fun j hj => ?_⟩
          by_cases hji : j = i
          · rw [hji]; exact hb
          · exact hq j (by omega)
        · rw [if_neg (show ¬ bI (decide (vP ev r sv ns (pS ac f (aW wa (Rk i) wn) n) &&& due ac A k ≠ 0)) = 0 by simp [hb, bI])]
          simp only [wp_mr]
          obtain ⟨T0, t01, t02⟩ := h5.2.1 i (by omega)
          have hBK : BK ac (vdS ac f n ev r sv ns) A (wm ac n) k := ⟨T0, t01, by
            show vP ev r sv ns (pS ac f T0 n) &&& due ac A k ≠ 0
            dsimp only at t02
            rw [← t02]; exact hb⟩
          obtain ⟨T, t1, t2, t3, t4⟩ := leastM g2 hRK (hop (Rk i)) ⟨T0, t01, t02.symm⟩
          have fin : ∀ z : Int64, x ≠ 0 → ((x = 2 ∧ z = lN T) ∨ (x = 1 ∧ z = lN (num (pS ac f (aW wa (Rk i) wn) n))) ∨ (x ≠ 2 ∧ x ≠ 1 ∧ z = lN (num (hl sv 0 ns (pS ac f (aW wa (Rk i) wn) n))))) → frc sPl d d2 ∧ MX r n ac f ev sv ns A d2 ∧ ((¬ (0 ≤ x ∧ x ≤ 3) ∧ z = -2) ∨ ((0 ≤ x ∧ x ≤ 3) ∧ z = -1 ∧ ∀ k, k ≤ n → ¬ BK ac (vdS ac f n ev r sv ns) A (wm ac n) k) ∨ ((0 ≤ x ∧ x ≤ 3) ∧ ∃ k, k ≤ n ∧ BK ac (vdS ac f n ev r sv ns) A (wm ac n) k ∧ (∀ j, j < k → ¬ BK ac (vdS ac f n ev r sv ns) A (wm ac n) j) ∧ ((x = 0 ∧ z = lN k) ∨ (x ≠ 0 ∧ ∃ s Q j T, LQ ac f n k s Q ∧ j < s ∧ vP ev r sv ns (Q j) &&& due ac A k ≠ 0 ∧ (∀ i, i < j → vP ev r sv ns (Q i) &&& due ac A k = 0) ∧ PS ac (wm ac n) k T ∧ pS ac f T n = Q j ∧ (∀ U, PS ac (wm ac n) k U → pS ac f U n = Q j → T ≤ U) ∧ ((x = 2 ∧ z = lN T) ∨ (x = 1 ∧ z = lN (num (Q j))) ∨ (x ≠ 2 ∧ x ≠ 1 ∧ z = lN (num (hl sv 0 ns (Q j))))))))) := fun z hx0 hz => ⟨hfd, hX', Or.inr (Or.inr ⟨hx, k, hkn', hBK, hno, Or.inr ⟨hx0, s, _, i, T, h5, by omega, hb, hq, t1, t2, t3, hz⟩⟩)⟩
          by_cases hx0 : x = 0
          · rw [if_pos hx0, wp_mp]
            exact ⟨hfd, hX', Or.inr (Or.inr ⟨hx, k, hkn', hBK, hno, Or.inl ⟨hx0, nI_l (by omega)⟩⟩)⟩
          · rw [if_neg hx0]
            by_cases hx1 : x = 1
            · rw [if_pos hx1]
              simp only [wp_mb, wp_gR, wp_aI, wp_aL, wp_mp, zk, zl, true_and, r79, r88, nI_clamp (show i < 2 ^ 31 by omega), k1, nI_clamp (show Rk i < 2 ^ 31 by omega), (h1.2 (Rk i) k2).1]
              exact ⟨ib_nI (by omega) (by omega), ib_nI (by omega) (by omega), fin _ hx0 (Or.inr (Or.inl ⟨hx1, rfl⟩))⟩
            · rw [if_neg hx1]
              by_cases hx2 : x = 2
              · rw [if_pos hx2]
                simp only [wp_mb, wp_gR, wp_aI, wp_aL, wp_mp, wp_vc, zk, zl, true_and, r79, r88, nI_clamp (show i < 2 ^ 31 by omega), k1, nI_clamp (show Rk i < 2 ^ 31 by omega), (h1.2 (Rk i) k2).1, wp_eq t4]
                exact ⟨ib_nI (by omega) (by omega), ib_nI (by omega) (by omega), fin _ hx0 (Or.inl ⟨hx2, rfl⟩)⟩
              · rw [if_neg hx2]
                simp only [wp_mb, wp_gR, wp_aI, wp_aL, wp_mp, zk, zl, true_and, r80, r88, nI_clamp (show i < 2 ^ 31 by omega), k1, nI_clamp (show Rk i < 2 ^ 31 by omega), (h1.2 (Rk i) k2).2.1]
                exact ⟨ib_nI (by omega) (by omega), ib_nI (by omega) (by omega), fin _ hx0 (Or.inr (Or.inr ⟨hx2, hx1, rfl⟩))⟩
  · simp only [if_neg hx, if_true, wp_mp]
    exact ⟨frc_rf d, h, Or.inl ⟨hx, trivial⟩⟩
end
