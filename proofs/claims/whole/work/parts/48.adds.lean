/-! ===== pure: acts are added, undone ===== -/
section
variable {r n ns st A : Nat} {ac : Nat → Ac} {f : Pl} {ev : Nat → Pl → Bool} {sv : Nat → Pl → Pl} {d : Dm}
theorem addAct_eq (h : CX r n ac f ev sv ns st A d) (hst : st < 100000) {a : Ac} (ha : okA r a) : wp (Main_addAct 1 (a 0) (a 1) (a 2) (a 3) (a 4)) d (fun z d' => frY d d' ∧ ((12 ≤ n ∧ z = -104 ∧ d' = d) ∨ (n < 12 ∧ z = nI n ∧ CX r (n + 1) (setA ac n a) f ev sv ns (st + 1) A d'))) := by
  have hR := h.1.1.2.2.2.2
  have hn := h.1.1.1.1
  have e31 := h.1.1.2.1
  unfold Main_addAct
  simp only [wp_mb, wp_gR, wp_gI, zk, zl, true_and, hR.1, e31]
  by_cases h12 : n < 12
  · rw [if_pos (show nI n < (12 : Int32) from nI_lt (b := 12) h12 (by omega))]
    have hq := hR.2.2.2.1 n h12
    have zq := zact hq
    unfold Act_become
    simp only [wp_mb, wp_gR, wp_gI, wp_aR, wp_pI, wp_vc, wp_mp, zk, zl, true_and, hR.1, e31, zq, nI_clamp (show n < 2 ^ 31 by omega)]
    refine ⟨ib_nI (by omega) (by omega), ?_⟩
    have hw5 : u2 (u2 (u2 (u2 (u2 d.1 (d.2.2 4 n) 0 (a 0)) (d.2.2 4 n) 1 (a 1)) (d.2.2 4 n) 2 (a 2)) (d.2.2 4 n) 3 (a 3)) (d.2.2 4 n) 4 (a 4) = wr5 d.1 (d.2.2 4 n) a := rfl
    have hw3 : wr5 d.1 (d.2.2 4 n) a 3 1 = nI n := (congrFun (wr5_ne d.1 a (show 3 ≠ d.2.2 4 n by omega)) 1).trans e31
    have hn1 : nI n + 1 = nI (n + 1) := nI_add n 1
    simp only [hw5, hw3, hn1]
    have hne : ∀ x, x ≠ 3 → x ≠ d.2.2 4 n → u2 (wr5 d.1 (d.2.2 4 n) a) 3 1 (nI (n + 1)) x = d.1 x := fun x p q => (u2_row _ p _ _).trans (wr5_ne _ _ q)
    have hP : CP r (n + 1) (setA ac n a) f (u2 (wr5 d.1 (d.2.2 4 n) a) 3 1 (nI (n + 1)), d.2) := by
      refine ⟨⟨by omega, h.1.1.1.2.1, fun i hi => ?_⟩, u2_s (wr5 d.1 (d.2.2 4 n) a) 3 1 (nI (n + 1)), h.1.1.2.2.1, fun i hi k hk => ?_, hR⟩
      · by_cases e : i = n
        · subst e; rw [setA_s]; exact ha
        · rw [setA_n _ _ e]; exact h.1.1.1.2.2 i (by omega)
      · show u2 (wr5 d.1 (d.2.2 4 n) a) 3 1 (nI (n + 1)) (d.2.2 4 i) k = _
        have hqi := hR.2.2.2.1 i (by omega)
        rw [u2_a _ (by omega)]
        by_cases e : i = n
        · subst e; rw [setA_s, wr5_eq _ _ _ hk]
        · rw [setA_n _ _ e, wr5_ne _ _ (fun q => e (hR.2.2.2.2 i n (by omega) h12 q))]
          exact h.1.1.2.2.2.1 i (by omega) k hk
    refine wp_mono (forget_eq h hP (fun x hx => hne x (by omega) (by omega)) hst) (fun _ d2 ⟨q1, q2⟩ => ?_)
    have hR2 := q1.1.1.2.2.2.2
    simp only [wp_mb, wp_gR, wp_gI, wp_mp, zk, zl, true_and, hR2.1, q1.1.1.2.1, show (1 : Int32) = nI 1 from rfl, pk_sub (show 1 ≤ n + 1 by omega), Nat.add_sub_cancel]
    exact ⟨frY_tr (show frY d (u2 (wr5 d.1 (d.2.2 4 n) a) 3 1 (nI (n + 1)), d.2) from fun x hx => ⟨hne x (by omega) (by omega), rfl, rfl⟩) q2, Or.inr ⟨h12, q1⟩⟩
  · rw [if_neg (show ¬ nI n < (12 : Int32) from fun q => h12 ((nI_ltI (b := 12) (by omega) (by omega)).mp q))]
    exact wp_mp.mpr ⟨frY_rf d, Or.inl ⟨by omega, rfl, rfl⟩⟩
/-- an act is added: what it answers and what is left -/
def AA (r n : Nat) (ac : Nat → Ac) (f : Pl) (ev : Nat → Pl → Bool) (sv : Nat → Pl → Pl) (ns st A : Nat) (a : Ac) (d : Dm) (z : Int32) (d' : Dm) : Prop := frY d d' ∧ ((12 ≤ n ∧ z = -104 ∧ d' = d) ∨ (n < 12 ∧ z = nI n ∧ CX r (n + 1) (setA ac n a) f ev sv ns (st + 1) A d'))
def mkA (a b c e g : Int32) : Ac := fun k => if k = 0 then a else if k = 1 then b else if k = 2 then c else if k = 3 then e else g
theorem add1 (h : CX r n ac f ev sv ns st A d) (hst : st < 100000) (a b c e g : Int32) (ha : okA r (mkA a b c e g)) : wp (Main_addAct 1 a b c e g) d (AA r n ac f ev sv ns st A (mkA a b c e g) d) := by
  have h1 := addAct_eq h hst ha
  rw [show mkA a b c e g 0 = a from rfl, show mkA a b c e g 1 = b from rfl, show mkA a b c e g 2 = c from rfl, show mkA a b c e g 3 = e from rfl, show mkA a b c e g 4 = g from rfl] at h1
  exact h1
theorem write_eq (h : CX r n ac f ev sv ns st A d) (hst : st < 100000) (x y : Int32) : wp (Main_write 1 x y) d (fun z d' => (¬ (0 ≤ x ∧ x < 8) ∧ z = -101 ∧ d' = d) ∨ ∃ s, s < 8 ∧ x = nI s ∧ ((¬ (0 ≤ y ∧ y ≤ 99) ∧ z = -102 ∧ d' = d) ∨ ∃ v, v < 100 ∧ y = nI v ∧ AA r n ac f ev sv ns st A (mkA 0 (nI s) (nI v) (-1) (-1)) d z d')) := by
  unfold Main_write
  simp only [wp_mb, wp_eq (isSector_eq x d)]
  rcases sec_cases x with hx | ⟨s, hs, hx⟩
  · simp only [if_neg hx, if_true, wp_mp]
    exact Or.inl ⟨hx, trivial, trivial⟩
  · subst hx
    simp only [if_pos (nI_sec hs), if_neg (show ¬ (1 : Int32) = 0 by decide), wp_mb, wp_eq (isFigure_eq y d)]
    rcases fig_cases y with hy | ⟨v, hv, hy⟩
    · simp only [if_neg hy, if_true, wp_mp]
      exact Or.inr ⟨s, hs, rfl, Or.inl ⟨hy, trivial, trivial⟩⟩
    · subst hy
      simp only [if_pos (nI_fig hv), if_neg (show ¬ (1 : Int32) = 0 by decide), wp_mb, wp_vc, wp_mp, zk, true_and]
      exact wp_mono (add1 h hst 0 (nI s) (nI v) (-1) (-1) (Or.inl ⟨rfl, ⟨s, hs, rfl⟩, ⟨v, hv, rfl⟩, rfl, rfl⟩)) (fun z d' q => Or.inr ⟨s, hs, rfl, Or.inr ⟨v, hv, rfl, q⟩⟩)
theorem whole_eq (h : CX r n ac f ev sv ns st A d) (hst : st < 100000) (x y u w : Int32) : wp (Main_whole 1 x y u w) d (fun z d' => ((¬ (0 ≤ x ∧ x < 8) ∨ ¬ (0 ≤ u ∧ u < 8) ∨ x = u) ∧ z = -101 ∧ d' = d) ∨ ∃ s t, s < 8 ∧ t < 8 ∧ s ≠ t ∧ x = nI s ∧ u = nI t ∧ (((¬ (0 ≤ y ∧ y ≤ 99) ∨ ¬ (0 ≤ w ∧ w ≤ 99)) ∧ z = -102 ∧ d' = d) ∨ ∃ v v', v < 100 ∧ v' < 100 ∧ y = nI v ∧ w = nI v' ∧ AA r n ac f ev sv ns st A (mkA 1 (nI s) (nI v) (nI t) (nI v')) d z d')) := by
  unfold Main_whole
  simp only [wp_mb, wp_eq (isSector_eq x d)]
  rcases sec_cases x with hx | ⟨s, hs, hx⟩
  · simp only [if_neg hx, if_true, wp_mp]
    exact Or.inl ⟨Or.inl hx, trivial, trivial⟩
  · subst hx
    simp only [if_pos (nI_sec hs), if_neg (show ¬ (1 : Int32) = 0 by decide), wp_mb, wp_eq (isSector_eq u d)]
    rcases sec_cases u with hu | ⟨t, ht, hu⟩
    · simp only [if_neg hu, if_true, wp_mp]
      exact Or.inl ⟨Or.inr (Or.inl hu), trivial, trivial⟩
    · subst hu
      rw [if_pos (nI_sec ht), if_neg (show ¬ (1 : Int32) = 0 by decide)]
      refine wp_if (fun e => wp_mp.mpr (Or.inl ⟨Or.inr (Or.inr e), rfl, rfl⟩)) (fun e => ?_)
      have hst2 : s ≠ t := fun q => e (by rw [q])
      simp only [wp_mb, wp_eq (isFigure_eq y d)]
      rcases fig_cases y with hy | ⟨v, hv, hy⟩
      · simp only [if_neg hy, if_true, wp_mp]
        exact Or.inr ⟨s, t, hs, ht, hst2, rfl, rfl, Or.inl ⟨Or.inl hy, trivial, trivial⟩⟩
      · subst hy
        simp only [if_pos (nI_fig hv), if_neg (show ¬ (1 : Int32) = 0 by decide), wp_mb, wp_eq (isFigure_eq w d)]
        rcases fig_cases w with hw | ⟨v', hv', hw⟩
        · simp only [if_neg hw, if_true, wp_mp]
          exact Or.inr ⟨s, t, hs, ht, hst2, rfl, rfl, Or.inl ⟨Or.inr hw, trivial, trivial⟩⟩
        · subst hw
          simp only [if_pos (nI_fig hv'), if_neg (show ¬ (1 : Int32) = 0 by decide), wp_mb, wp_vc, wp_mp, zk, true_and]
          exact wp_mono (add1 h hst 1 (nI s) (nI v) (nI t) (nI v') (Or.inr (Or.inl ⟨rfl, ⟨s, t, hs, ht, hst2, rfl, rfl⟩, ⟨v, hv, rfl⟩, ⟨v', hv', rfl⟩⟩))) (fun z d' q => Or.inr ⟨s, t, hs, ht, hst2, rfl, rfl, Or.inr ⟨v, v', hv, hv', rfl, rfl, q⟩⟩)
theorem barrier_eq (h : CX r n ac f ev sv ns st A d) (hst : st < 100000) : wp (Main_barrier 1) d (AA r n ac f ev sv ns st A (mkA 2 (-1) (-1) (-1) (-1)) d) := by
  unfold Main_barrier
  simp only [wp_mb, wp_vc, wp_mp, zk, true_and]
  exact add1 h hst 2 (-1) (-1) (-1) (-1) (Or.inr (Or.inr (Or.inl ⟨Or.inl rfl, rfl, rfl, rfl, rfl⟩)))
theorem flush_eq (h : CX r n ac f ev sv ns st A d) (hst : st < 100000) : wp (Main_flush 1) d (AA r n ac f ev sv ns st A (mkA 3 (-1) (-1) (-1) (-1)) d) := by
  unfold Main_flush
  simp only [wp_mb, wp_vc, wp_mp, zk, true_and]
  exact add1 h hst 3 (-1) (-1) (-1) (-1) (Or.inr (Or.inr (Or.inl ⟨Or.inr rfl, rfl, rfl, rfl, rfl⟩)))
theorem tell_eq (h : CX r n ac f ev sv ns st A d) (hst : st < 100000) (x : Int32) : wp (Main_tell 1 x) d (fun z d' => (¬ (0 ≤ x ∧ x < nI r) ∧ z = -101 ∧ d' = d) ∨ ∃ j, j < r ∧ x = nI j ∧ AA r n ac f ev sv ns st A (mkA 4 (nI j) (-1) (-1) (-1)) d z d') := by
  have hR := h.1.1.2.2.2.2
  have hr := h.1.2.1.1
  unfold Main_tell
  simp only [wp_mb, wp_gR, wp_vc, zk, zl, true_and, hR.1, wp_eq (has_r h.1.2.1 x)]
  rcases ix_cases x (n := r) (by omega) with hx | ⟨j, hj, hx⟩
  · simp only [if_neg hx, if_true, wp_mp]
    exact Or.inl ⟨hx, trivial, trivial⟩
  · subst hx
    simp only [if_pos (nI_has hj (show r < 2 ^ 31 by omega)), if_neg (show ¬ (1 : Int32) = 0 by decide), wp_mb, wp_vc, wp_mp, zk, true_and]
    exact wp_mono (add1 h hst 4 (nI j) (-1) (-1) (-1) (Or.inr (Or.inr (Or.inr ⟨rfl, ⟨j, hj, rfl⟩, rfl, rfl, rfl⟩)))) (fun z d' q => Or.inr ⟨j, hj, rfl, q⟩)
theorem sector_eq (h : CX r n ac f ev sv ns st A d) (hst : st < 100000) (x y : Int32) : wp (Main_sector 1 x y) d (fun z d' => (¬ (0 ≤ x ∧ x < 8) ∧ z = -101 ∧ d' = d) ∨ ∃ s, s < 8 ∧ x = nI s ∧ ((¬ (0 ≤ y ∧ y ≤ 99) ∧ z = -102 ∧ d' = d) ∨ ∃ v, v < 100 ∧ y = nI v ∧ z = nI (f s) ∧ frY d d' ∧ CX r n ac (pu f s v) ev sv ns (st + 1) A d')) := by
  have hR := h.1.1.2.2.2.2
  have hok := h.1.1.1.2.1
  unfold Main_sector
  simp only [wp_mb, wp_eq (isSector_eq x d)]
  rcases sec_cases x with hx | ⟨s, hs, hx⟩
  · simp only [if_neg hx, if_true, wp_mp]
    exact Or.inl ⟨hx, trivial, trivial⟩
  · subst hx
    simp only [if_pos (nI_sec hs), if_neg (show ¬ (1 : Int32) = 0 by decide), wp_mb, wp_eq (isFigure_eq y d)]
    rcases fig_cases y with hy | ⟨v, hv, hy⟩
    · simp only [if_neg hy, if_true, wp_mp]
      exact Or.inr ⟨s, hs, rfl, Or.inl ⟨hy, trivial, trivial⟩⟩
    · subst hy
      simp only [if_pos (nI_fig hv), if_neg (show ¬ (1 : Int32) = 0 by decide), wp_mb, wp_gR, wp_gL, wp_pL, wp_vc, wp_mp, zk, zl, true_and, hR.1, h.1.1.2.2.1, wp_eq (figP hok hs), wp_eq (with_eq hok hs hv)]
      have hP : CP r n ac (pu f s v) (d.1, u2 d.2.1 3 2 (lN (pw (pu f s v))), d.2.2) := ⟨⟨h.1.1.1.1, okP_pu hok hs hv, h.1.1.1.2.2⟩, h.1.1.2.1, u2_s d.2.1 3 2 (lN (pw (pu f s v))), h.1.1.2.2.2.1, hR⟩
      refine wp_mono (forget_eq h hP (fun _ _ => rfl) hst) (fun _ d2 ⟨q1, q2⟩ => ?_)
      exact Or.inr ⟨s, hs, rfl, Or.inr ⟨v, hv, rfl, rfl, frY_tr (show frY d (d.1, u2 d.2.1 3 2 (lN (pw (pu f s v))), d.2.2) from fun x hx => ⟨rfl, u2_row d.2.1 (show x ≠ 3 by omega) 2 (lN (pw (pu f s v))), rfl⟩) q2, q1⟩⟩
theorem undo_eq (h : CX r n ac f ev sv ns st A d) (hst : st < 100000) : wp (Main_undo 1) d (fun z d' => (n = 0 ∧ z = -103 ∧ d' = d) ∨ (1 ≤ n ∧ z = nI (n - 1) ∧ frY d d' ∧ CX r (n - 1) ac f ev sv ns (st + 1) A d')) := by
  have hR := h.1.1.2.2.2.2
  have hn := h.1.1.1.1
  have e31 := h.1.1.2.1
  unfold Main_undo
  simp only [wp_mb, wp_gR, wp_gI, zk, zl, true_and, hR.1, e31]
  by_cases h0 : n = 0
  · subst h0
    rw [if_neg (by decide)]
    exact wp_mp.mpr (Or.inl ⟨rfl, rfl, rfl⟩)
  · rw [if_pos (show (0 : Int32) < nI n from nI_lt (a := 0) (by omega) (by omega))]
    simp only [wp_mb, wp_gR, wp_gI, wp_pI, wp_vc, zk, zl, true_and, hR.1, e31, show (1 : Int32) = nI 1 from rfl, pk_sub (show 1 ≤ n by omega)]
    have hne : ∀ x, x ≠ 3 → u2 d.1 3 1 (nI (n - 1)) x = d.1 x := fun x q => u2_row _ q _ _
    have hP : CP r (n - 1) ac f (u2 d.1 3 1 (nI (n - 1)), d.2) := ⟨⟨by omega, h.1.1.1.2.1, fun i hi => h.1.1.1.2.2 i (by omega)⟩, u2_s d.1 3 1 (nI (n - 1)), h.1.1.2.2.1, fun i hi k hk => by
      have hqi := hR.2.2.2.1 i (by omega)
      exact (congrFun (hne (d.2.2 4 i) (by omega)) k).trans (h.1.1.2.2.2.1 i (by omega) k hk), hR⟩
    refine wp_mono (forget_eq h hP (fun x hx => hne x (by omega)) hst) (fun _ d2 ⟨q1, q2⟩ => ?_)
    have hR2 := q1.1.1.2.2.2.2
    simp only [wp_mb, wp_gR, wp_gI, wp_mp, zk, zl, true_and, hR2.1, q1.1.1.2.1]
    exact Or.inr ⟨by omega, frY_tr (show frY d (u2 d.1 3 1 (nI (n - 1)), d.2) from fun x hx => ⟨hne x (by omega), rfl, rfl⟩) q2, q1⟩
end
