/-! ===== pure: the reference's whole state; acts come and go ===== -/
def s65 (x _j : Nat) : Prop := 65 ≤ x
def Mg (t : Nat → Nat) (pn : Nat) (d : Dm) : Prop := pn ≤ 60 ∧ d.1 65 4 = nI pn ∧ ∀ i, i < pn → d.1 69 i = nI (t i) ∧ t i < 128
def MK (bc fc : Int32) (fd : Nat) (d : Dm) : Prop := d.1 65 13 = bc ∧ d.1 65 14 = fc ∧ d.1 65 15 = nI fd
def MJ (r n : Nat) (ac : Nat → Ac) (f : Pl) (ev : Nat → Pl → Bool) (sv : Nat → Pl → Pl) (ns A : Nat) (t : Nat → Nat) (pn : Nat) (bc fc : Int32) (fd : Nat) (d : Dm) : Prop := MX r n ac f ev sv ns A d ∧ Mg t pn d ∧ MK bc fc fd d
section
variable {r n ns A : Nat} {ac : Nat → Ac} {f : Pl} {ev : Nat → Pl → Bool} {sv : Nat → Pl → Pl} {t : Nat → Nat} {pn : Nat} {bc fc : Int32} {fd : Nat} {d : Dm}
theorem Mg.fr {S : Nat → Nat → Prop} {d' : Dm} (h : Mg t pn d) (hf : frc S d d') (h1 : ¬ S 65 4) (h2 : ∀ j, ¬ S 69 j) : Mg t pn d' := ⟨h.1, (hf.i h1).trans h.2.1, fun i hi => ⟨(hf.i (h2 _)).trans (h.2.2 i hi).1, (h.2.2 i hi).2⟩⟩
theorem MK.fr {S : Nat → Nat → Prop} {d' : Dm} (h : MK bc fc fd d) (hf : frc S d d') (h1 : ∀ j, 13 ≤ j → j ≤ 15 → ¬ S 65 j) : MK bc fc fd d' := ⟨(hf.i (h1 _ (by omega) (by omega))).trans h.1, (hf.i (h1 _ (by omega) (by omega))).trans h.2.1, (hf.i (h1 _ (by omega) (by omega))).trans h.2.2⟩
theorem MJ.P {d' : Dm} (h : MJ r n ac f ev sv ns A t pn bc fc fd d) (hf : frc sPl d d') (hX : MX r n ac f ev sv ns A d') : MJ r n ac f ev sv ns A t pn bc fc fd d' := ⟨hX, h.2.1.fr hf (ns_P (by unfold crM; omega)) (fun j => ns_P (by unfold crM; omega)), h.2.2.fr hf (fun j a b => ns_P (by unfold crM; omega))⟩
theorem f65_P {d d' : Dm} (h : frc sPl d d') : frc s65 d d' := frc_w h fun x j hx q => hx q.1
def sMu (x j : Nat) : Prop := (66 ≤ x ∧ x ≤ 68) ∨ (x = 65 ∧ (j = 1 ∨ j = 27))
theorem f65_M {d d' : Dm} (h : frc sMu d d') : frc s65 d d' := frc_w h fun x j hx q => hx (by unfold sMu at q; unfold s65; omega)
theorem MJ.mut {d' : Dm} {n' : Nat} {ac' : Nat → Ac} {f' : Pl} (h : MJ r n ac f ev sv ns A t pn bc fc fd d) (hf : frc sMu d d') (h27 : d'.1 65 27 = 0) (hP : MP r n' ac' f' d') : MJ r n' ac' f' ev sv ns A t pn bc fc fd d' :=
  ⟨⟨⟨MRf_fr h.1.1.1 hf, hP, h.1.1.2.2.1.fr hf (by unfold sMu; omega) (fun j => by unfold sMu; omega) (fun j => by unfold sMu; omega) (fun j => by unfold sMu; omega), h.1.1.2.2.2.1.fr hf (by unfold sMu; omega) (fun j => by unfold sMu; omega) (fun j => by unfold sMu; omega), h.1.1.2.2.2.2⟩, Or.inl h27⟩, h.2.1.fr hf (by unfold sMu; omega) (fun j => by unfold sMu; omega), h.2.2.fr hf (fun j a b => by unfold sMu; omega)⟩
/-- an act is added by the reference -/
def AAm (r n : Nat) (ac : Nat → Ac) (f : Pl) (ev : Nat → Pl → Bool) (sv : Nat → Pl → Pl) (ns A : Nat) (t : Nat → Nat) (pn : Nat) (bc fc : Int32) (fd : Nat) (a : Ac) (d : Dm) (z : Int32) (d' : Dm) : Prop := (12 ≤ n ∧ z = -104 ∧ d' = d) ∨ (n < 12 ∧ z = nI n ∧ frc s65 d d' ∧ MJ r (n + 1) (setA ac n a) f ev sv ns A t pn bc fc fd d')
theorem i4 (n : Nat) : (4 : Int32) * nI n = nI (4 * n) := by rw [show (4 : Int32) = nI 4 from rfl, pk_mul]
theorem comeM (h : MJ r n ac f ev sv ns A t pn bc fc fd d) {a : Ac} (ha : okA r a) : wp (Mod_come 65 (a 0) (a 1) (a 2) (a 3) (a 4)) d (AAm r n ac f ev sv ns A t pn bc fc fd a d) := by
  have hR := h.1.1.1
  have hP := h.1.1.2.1
  have hn := hP.1.1
  have e1 := hP.2.1
  have r67 : d.2.2 65 2 = 67 := hR.2.1
  have r68 : d.2.2 65 3 = 68 := hR.2.2.1
  unfold Mod_come
  simp only [wp_mb, wp_gI, zk, true_and, e1]
  by_cases h12 : n = 12
  · subst h12
    rw [if_pos (show nI 12 = (12 : Int32) from rfl), wp_mp]
    exact Or.inl ⟨Nat.le_refl _, rfl, rfl⟩
  · rw [if_neg (show ¬ nI n = (12 : Int32) from fun q => h12 ((nI_eq (b := 12) (by omega) (by omega)).mp q))]
    have u67 : ∀ (I : Nat → Nat → Int32) k v, u2 I 67 k v 65 1 = I 65 1 := fun I k v => u2_a I (by omega) k v 1
    have u68 : ∀ (I : Nat → Nat → Int32) k v, u2 I 68 k v 65 1 = I 65 1 := fun I k v => u2_a I (by omega) k v 1
    have e27 : ∀ (I : Nat → Nat → Int32) v w, u2 (u2 I 65 1 v) 65 27 w 65 1 = v := fun I v w => (u2_k _ _ _ (by omega) _).trans (u2_s _ _ _ _)
    simp only [wp_mb, wp_gI, wp_gR, wp_sI, wp_pI, wp_pZ, wp_mp, zk, zl, true_and, r67, r68, u67, u68, e1, e27, i4, nI_1, nI_add, show (2 : Int32) = nI 2 from rfl, show (3 : Int32) = nI 3 from rfl, nI_clamp (show n < 2 ^ 31 by omega), nI_clamp (show 4 * n < 2 ^ 31 by omega), nI_clamp (show 4 * n + 1 < 2 ^ 31 by omega), nI_clamp (show 4 * n + 2 < 2 ^ 31 by omega), nI_clamp (show 4 * n + 3 < 2 ^ 31 by omega)]
    refine ⟨ib_nI (by omega) (by omega), ib_nI (by omega) (by omega), ib_nI (by omega) (by omega), ib_nI (by omega) (by omega), ib_nI (by omega) (by omega), by simp, Or.inr ⟨by omega, ?_⟩⟩
    generalize hD : ((u2 (u2 (u2 (u2 (u2 (u2 (u2 d.1 67 n (a 0)) 68 (4 * n) (a 1)) 68 (4 * n + 1) (a 2)) 68 (4 * n + 2) (a 3)) 68 (4 * n + 3) (a 4)) 65 1 (nI (n + 1))) 65 27 0, d.2) : Dm) = d'
    have hf : frc sMu d d' := by
      rw [← hD]
      have q68 : ∀ k, sMu 68 k := fun k => Or.inl (by omega)
      exact frc_I (frc_I (frc_I (frc_I (frc_I (frc_I (fr_uI d 67 n _ (Or.inl (by omega))) 68 _ _ (q68 _)) 68 _ _ (q68 _)) 68 _ _ (q68 _)) 68 _ _ (q68 _)) 65 1 _ (Or.inr ⟨rfl, Or.inl rfl⟩)) 65 27 _ (Or.inr ⟨rfl, Or.inr rfl⟩)
    have d67 : ∀ i, d'.1 67 i = u2 d.1 67 n (a 0) 67 i := fun i => by
      rw [← hD]
      dsimp only
      rw [u2_a _ (by omega), u2_a _ (by omega), u2_a _ (by omega), u2_a _ (by omega), u2_a _ (by omega), u2_a _ (by omega)]
    have d68 : ∀ i, d'.1 68 i = u2 (u2 (u2 (u2 d.1 68 (4 * n) (a 1)) 68 (4 * n + 1) (a 2)) 68 (4 * n + 2) (a 3)) 68 (4 * n + 3) (a 4) 68 i := fun i => by
      rw [← hD]
      dsimp only
      rw [u2_a _ (by omega), u2_a _ (by omega)]
      unfold u2
      simp
    refine ⟨?_, f65_M hf, h.mut hf (by rw [← hD]; rfl) ⟨⟨by omega, hP.1.2.1, fun i hi => ?_⟩, ?_, fun s hs => ?_, fun i hi => ⟨?_, fun k hk => ?_⟩⟩⟩
    · exact nI_pred n
    · by_cases e : i = n
      · subst e; rw [setA_s]; exact ha
      · rw [setA_n _ _ e]; exact hP.1.2.2 i (by omega)
    · rw [← hD]; rfl
    · rw [← hD]
      dsimp only
      rw [u2_a _ (by omega), u2_a _ (by omega), u2_a _ (by omega), u2_a _ (by omega), u2_a _ (by omega), u2_a _ (by omega), u2_a _ (by omega)]
      exact hP.2.2.1 s hs
    · rw [d67]
      by_cases e : i = n
      · subst e; rw [setA_s, u2_s]
      · rw [setA_n _ _ e, u2_k _ _ _ e]; exact (hP.2.2.2 i (by omega)).1
    · rw [d68]
      by_cases e : i = n
      · subst e
        rw [setA_s]
        have hk4 : k = 0 ∨ k = 1 ∨ k = 2 ∨ k = 3 := by omega
        rcases hk4 with rfl | rfl | rfl | rfl
        · rw [u2_k _ _ _ (by omega), u2_k _ _ _ (by omega), u2_k _ _ _ (by omega)]; exact u2_s _ _ _ _
        · rw [u2_k _ _ _ (by omega), u2_k _ _ _ (by omega), u2_s]
        · rw [u2_k _ _ _ (by omega), u2_s]
        · rw [u2_s]
      · rw [setA_n _ _ e, u2_k _ _ _ (by omega), u2_k _ _ _ (by omega), u2_k _ _ _ (by omega), u2_k _ _ _ (by omega)]
        exact (hP.2.2.2 i (by omega)).2 k hk
theorem come1 (h : MJ r n ac f ev sv ns A t pn bc fc fd d) (a b c e g : Int32) (ha : okA r (mkA a b c e g)) : wp (Mod_come 65 a b c e g) d (AAm r n ac f ev sv ns A t pn bc fc fd (mkA a b c e g) d) := by
  have h1 := comeM h ha
  rw [show mkA a b c e g 0 = a from rfl, show mkA a b c e g 1 = b from rfl, show mkA a b c e g 2 = c from rfl, show mkA a b c e g 3 = e from rfl, show mkA a b c e g 4 = g from rfl] at h1
  exact h1
theorem writeM (h : MJ r n ac f ev sv ns A t pn bc fc fd d) (x y : Int32) : wp (Mod_write 65 x y) d (fun z d' => (¬ (0 ≤ x ∧ x < 8) ∧ z = -101 ∧ d' = d) ∨ ∃ s, s < 8 ∧ x = nI s ∧ ((¬ (0 ≤ y ∧ y ≤ 99) ∧ z = -102 ∧ d' = d) ∨ ∃ v, v < 100 ∧ y = nI v ∧ AAm r n ac f ev sv ns A t pn bc fc fd (mkA 0 (nI s) (nI v) (-1) (-1)) d z d')) := by
  unfold Mod_write
  simp only [wp_mb, wp_eq (Mod_isSector_eq x d)]
  rcases sec_cases x with hx | ⟨s, hs, hx⟩
  · simp only [if_neg hx, if_true, wp_mp]
    exact Or.inl ⟨hx, trivial, trivial⟩
  · subst hx
    simp only [if_pos (nI_sec hs), if_neg (show ¬ (1 : Int32) = 0 by decide), wp_mb, wp_eq (Mod_isNumber_eq y d)]
    rcases fig_cases y with hy | ⟨v, hv, hy⟩
    · simp only [if_neg hy, if_true, wp_mp]
      exact Or.inr ⟨s, hs, rfl, Or.inl ⟨hy, trivial, trivial⟩⟩
    · subst hy
      simp only [if_pos (nI_fig hv), if_neg (show ¬ (1 : Int32) = 0 by decide), wp_mb, wp_vc, wp_mp, zk, true_and]
      exact wp_mono (come1 h 0 (nI s) (nI v) (-1) (-1) (Or.inl ⟨rfl, ⟨s, hs, rfl⟩, ⟨v, hv, rfl⟩, rfl, rfl⟩)) (fun z d' q => Or.inr ⟨s, hs, rfl, Or.inr ⟨v, hv, rfl, q⟩⟩)
theorem wholeM (h : MJ r n ac f ev sv ns A t pn bc fc fd d) (x y u w : Int32) : wp (Mod_whole 65 x y u w) d (fun z d' => ((¬ (0 ≤ x ∧ x < 8) ∨ ¬ (0 ≤ u ∧ u < 8) ∨ x = u) ∧ z = -101 ∧ d' = d) ∨ ∃ s t', s < 8 ∧ t' < 8 ∧ s ≠ t' ∧ x = nI s ∧ u = nI t' ∧ (((¬ (0 ≤ y ∧ y ≤ 99) ∨ ¬ (0 ≤ w ∧ w ≤ 99)) ∧ z = -102 ∧ d' = d) ∨ ∃ v v', v < 100 ∧ v' < 100 ∧ y = nI v ∧ w = nI v' ∧ AAm r n ac f ev sv ns A t pn bc fc fd (mkA 1 (nI s) (nI v) (nI t') (nI v')) d z d')) := by
  unfold Mod_whole
  simp only [wp_mb, wp_eq (Mod_isSector_eq x d)]
  rcases sec_cases x with hx | ⟨s, hs, hx⟩
  · simp only [if_neg hx, if_true, wp_mp]
    exact Or.inl ⟨Or.inl hx, trivial, trivial⟩
  · subst hx
    simp only [if_pos (nI_sec hs), if_neg (show ¬ (1 : Int32) = 0 by decide), wp_mb, wp_eq (Mod_isSector_eq u d)]
    rcases sec_cases u with hu | ⟨t', ht, hu⟩
    · simp only [if_neg hu, if_true, wp_mp]
      exact Or.inl ⟨Or.inr (Or.inl hu), trivial, trivial⟩
    · subst hu
      rw [if_pos (nI_sec ht), if_neg (show ¬ (1 : Int32) = 0 by decide)]
      refine wp_if (fun e => wp_mp.mpr (Or.inl ⟨Or.inr (Or.inr e), rfl, rfl⟩)) (fun e => ?_)
      have hst2 : s ≠ t' := fun q => e (by rw [q])
      simp only [wp_mb, wp_eq (Mod_isNumber_eq y d)]
      rcases fig_cases y with hy | ⟨v, hv, hy⟩
      · simp only [if_neg hy, if_true, wp_mp]
        exact Or.inr ⟨s, t', hs, ht, hst2, rfl, rfl, Or.inl ⟨Or.inl hy, trivial, trivial⟩⟩
      · subst hy
        simp only [if_pos (nI_fig hv), if_neg (show ¬ (1 : Int32) = 0 by decide), wp_mb, wp_eq (Mod_isNumber_eq w d)]
        rcases fig_cases w with hw | ⟨v', hv', hw⟩
        · simp only [if_neg hw, if_true, wp_mp]
          exact Or.inr ⟨s, t', hs, ht, hst2, rfl, rfl, Or.inl ⟨Or.inr hw, trivial, trivial⟩⟩
        · subst hw
          simp only [if_pos (nI_fig hv'), if_neg (show ¬ (1 : Int32) = 0 by decide), wp_mb, wp_vc, wp_mp, zk, true_and]
          exact wp_mono (come1 h 1 (nI s) (nI v) (nI t') (nI v') (Or.inr (Or.inl ⟨rfl, ⟨s, t', hs, ht, hst2, rfl, rfl⟩, ⟨v, hv, rfl⟩, ⟨v', hv', rfl⟩⟩))) (fun z d' q => Or.inr ⟨s, t', hs, ht, hst2, rfl, rfl, Or.inr ⟨v, v', hv, hv', rfl, rfl, q⟩⟩)
theorem barrierM (h : MJ r n ac f ev sv ns A t pn bc fc fd d) : wp (Mod_barrier 65) d (AAm r n ac f ev sv ns A t pn bc fc fd (mkA 2 (-1) (-1) (-1) (-1)) d) := by
  unfold Mod_barrier
  simp only [wp_mb, wp_vc, wp_mp, zk, true_and]
  exact come1 h 2 (-1) (-1) (-1) (-1) (Or.inr (Or.inr (Or.inl ⟨Or.inl rfl, rfl, rfl, rfl, rfl⟩)))
theorem flushM (h : MJ r n ac f ev sv ns A t pn bc fc fd d) : wp (Mod_flush 65) d (AAm r n ac f ev sv ns A t pn bc fc fd (mkA 3 (-1) (-1) (-1) (-1)) d) := by
  unfold Mod_flush
  simp only [wp_mb, wp_vc, wp_mp, zk, true_and]
  exact come1 h 3 (-1) (-1) (-1) (-1) (Or.inr (Or.inr (Or.inl ⟨Or.inr rfl, rfl, rfl, rfl, rfl⟩)))
theorem tellM (h : MJ r n ac f ev sv ns A t pn bc fc fd d) (x : Int32) : wp (Mod_tell 65 x) d (fun z d' => (¬ (0 ≤ x ∧ x < nI r) ∧ z = -101 ∧ d' = d) ∨ ∃ j, j < r ∧ x = nI j ∧ AAm r n ac f ev sv ns A t pn bc fc fd (mkA 4 (nI j) (-1) (-1) (-1)) d z d') := by
  have hr := h.1.1.2.2.1.1
  unfold Mod_tell
  simp only [wp_mb, wp_gI, zk, true_and, h.1.1.2.2.1.2.1, wp_eq (Mod_in_eq _ _ _ _), le_pred x (show r < 2 ^ 31 by omega)]
  rcases ix_cases x (n := r) (by omega) with hx | ⟨j, hj, hx⟩
  · simp only [if_neg hx, if_true, wp_mp]
    exact Or.inl ⟨hx, trivial, trivial⟩
  · subst hx
    simp only [if_pos (nI_has hj (show r < 2 ^ 31 by omega)), if_neg (show ¬ (1 : Int32) = 0 by decide), wp_mb, wp_vc, wp_mp, zk, true_and]
    exact wp_mono (come1 h 4 (nI j) (-1) (-1) (-1) (Or.inr (Or.inr (Or.inr ⟨rfl, ⟨j, hj, rfl⟩, rfl, rfl, rfl⟩)))) (fun z d' q => Or.inr ⟨j, hj, rfl, q⟩)
theorem sectorM (h : MJ r n ac f ev sv ns A t pn bc fc fd d) (x y : Int32) : wp (Mod_sector 65 x y) d (fun z d' => (¬ (0 ≤ x ∧ x < 8) ∧ z = -101 ∧ d' = d) ∨ ∃ s, s < 8 ∧ x = nI s ∧ ((¬ (0 ≤ y ∧ y ≤ 99) ∧ z = -102 ∧ d' = d) ∨ ∃ v, v < 100 ∧ y = nI v ∧ z = nI (f s) ∧ frc s65 d d' ∧ MJ r n ac (pu f s v) ev sv ns A t pn bc fc fd d')) := by
  have hR := h.1.1.1
  have hP := h.1.1.2.1
  have r66 : d.2.2 65 0 = 66 := hR.1
  unfold Mod_sector
  simp only [wp_mb, wp_eq (Mod_isSector_eq x d)]
  rcases sec_cases x with hx | ⟨s, hs, hx⟩
  · simp only [if_neg hx, if_true, wp_mp]
    exact Or.inl ⟨hx, trivial, trivial⟩
  · subst hx
    simp only [if_pos (nI_sec hs), if_neg (show ¬ (1 : Int32) = 0 by decide), wp_mb, wp_eq (Mod_isNumber_eq y d)]
    rcases fig_cases y with hy | ⟨v, hv, hy⟩
    · simp only [if_neg hy, if_true, wp_mp]
      exact Or.inr ⟨s, hs, rfl, Or.inl ⟨hy, trivial, trivial⟩⟩
    · subst hy
      simp only [if_pos (nI_fig hv), if_neg (show ¬ (1 : Int32) = 0 by decide), wp_mb, wp_gR, wp_aI, wp_sI, wp_pZ, wp_mp, zk, zl, true_and, r66, nI_clamp (show s < 2 ^ 31 by omega)]
      refine ⟨ib_nI (by omega) (by omega), ib_nI (by omega) (by omega), by simp, Or.inr ⟨s, hs, rfl, Or.inr ⟨v, hv, rfl, hP.2.2.1 s hs, ?_⟩⟩⟩
      generalize hD : ((u2 (u2 d.1 66 s (nI v)) 65 27 0, d.2) : Dm) = d'
      have hf : frc sMu d d' := by
        rw [← hD]
        exact frc_I (fr_uI d 66 s _ (Or.inl (by omega))) 65 27 _ (Or.inr ⟨rfl, Or.inr rfl⟩)
      have hne : ∀ {x j}, x ≠ 66 → ¬ (x = 65 ∧ j = 27) → d'.1 x j = d.1 x j := fun {x j} a b => by
        rw [← hD]
        show u2 (u2 d.1 66 s (nI v)) 65 27 0 x j = _
        by_cases hx : x = 65
        · rw [u2_k _ _ _ (fun q => b ⟨hx, q⟩), u2_a _ a]
        · rw [u2_a _ hx, u2_a _ a]
      refine ⟨f65_M hf, h.mut hf (by rw [← hD]; exact u2_s (u2 d.1 66 s (nI v)) 65 27 0) ⟨⟨hP.1.1, okP_pu hP.1.2.1 hs hv, hP.1.2.2⟩, (hne (by omega) (by omega)).trans hP.2.1, fun s' hs' => ?_, fun i hi => ⟨(hne (by omega) (by omega)).trans (hP.2.2.2 i hi).1, fun k hk => (hne (by omega) (by omega)).trans ((hP.2.2.2 i hi).2 k hk)⟩⟩⟩
      rw [← hD]
      show u2 (u2 d.1 66 s (nI v)) 65 27 0 66 s' = _
      rw [u2_a _ (by omega)]
      unfold pu
      by_cases e : s' = s
      · rw [e, u2_s, if_pos rfl]
      · rw [u2_k _ _ _ e, if_neg e]; exact hP.2.2.1 s' hs'
theorem undoM (h : MJ r n ac f ev sv ns A t pn bc fc fd d) : wp (Mod_undo 65) d (fun z d' => (n = 0 ∧ z = -103 ∧ d' = d) ∨ (1 ≤ n ∧ z = nI (n - 1) ∧ frc s65 d d' ∧ MJ r (n - 1) ac f ev sv ns A t pn bc fc fd d')) := by
  have hR := h.1.1.1
  have hP := h.1.1.2.1
  have hn := hP.1.1
  have e1 := hP.2.1
  unfold Mod_undo
  simp only [wp_mb, wp_gI, zk, true_and, e1]
  by_cases h0 : n = 0
  · subst h0
    rw [if_pos (show nI 0 = (0 : Int32) from rfl), wp_mp]
    exact Or.inl ⟨rfl, rfl, rfl⟩
  · rw [if_neg (nI_ne0 (by omega) (by omega))]
    have e27 : ∀ (I : Nat → Nat → Int32) v w, u2 (u2 I 65 1 v) 65 27 w 65 1 = v := fun I v w => (u2_k _ _ _ (by omega) _).trans (u2_s _ _ _ _)
    simp only [wp_mb, wp_gI, wp_pI, wp_pZ, wp_mp, zk, true_and, e1, e27, show (1 : Int32) = nI 1 from rfl, pk_sub (show 1 ≤ n by omega)]
    refine ⟨by simp, Or.inr ⟨by omega, ?_⟩⟩
    generalize hD : ((u2 (u2 d.1 65 1 (nI (n - 1))) 65 27 0, d.2) : Dm) = d'
    have hf : frc sMu d d' := by
      rw [← hD]
      exact frc_I (fr_uI d 65 1 _ (Or.inr ⟨rfl, Or.inl rfl⟩)) 65 27 _ (Or.inr ⟨rfl, Or.inr rfl⟩)
    have hne : ∀ {x j}, x ≠ 65 → d'.1 x j = d.1 x j := fun {x j} a => by
      rw [← hD]
      show u2 (u2 d.1 65 1 (nI (n - 1))) 65 27 0 x j = _
      rw [u2_a _ a, u2_a _ a]
    exact ⟨f65_M hf, h.mut hf (by rw [← hD]; exact u2_s (u2 d.1 65 1 (nI (n - 1))) 65 27 0) ⟨⟨by omega, hP.1.2.1, fun i hi => hP.1.2.2 i (by omega)⟩, by rw [← hD]; exact e27 d.1 (nI (n - 1)) 0, fun s' hs' => (hne (by omega)).trans (hP.2.2.1 s' hs'), fun i hi => ⟨(hne (by omega)).trans (hP.2.2.2 i (by omega)).1, fun k hk => (hne (by omega)).trans ((hP.2.2.2 i (by omega)).2 k hk)⟩⟩⟩
end
