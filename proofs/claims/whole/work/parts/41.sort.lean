/-! ===== pure: the class's list of plates, sorted ===== -/
def setA {α : Type} (A : Nat → α) (i : Nat) (v : α) : Nat → α := fun x => if x = i then v else A x
theorem setA_s {α : Type} (A : Nat → α) (i : Nat) (v : α) : setA A i v i = v := if_pos rfl
theorem setA_n {α : Type} (A : Nat → α) {i j : Nat} (v : α) (h : j ≠ i) : setA A i v j = A j := if_neg h
def memA {α : Type} (m : Nat) (A : Nat → α) (x : α) : Prop := ∃ j, j < m ∧ A j = x
theorem mem_swap {α : Type} {m i j : Nat} {C : Nat → α} {v : α} (hij : i ≠ j) (hi : i < m) (hj : j < m) (x : α) : memA m (setA (setA C i (C j)) j v) x ↔ memA m (setA C i v) x := by
  constructor
  · rintro ⟨k, hk, e⟩
    by_cases h1 : k = j
    · subst h1
      rw [setA_s] at e
      exact ⟨i, hi, by rw [setA_s]; exact e⟩
    · rw [setA_n _ _ h1] at e
      by_cases h2 : k = i
      · subst h2
        rw [setA_s] at e
        exact ⟨j, hj, by rw [setA_n _ _ (fun q => hij q.symm)]; exact e⟩
      · rw [setA_n _ _ h2] at e
        exact ⟨k, hk, by rw [setA_n _ _ h2]; exact e⟩
  · rintro ⟨k, hk, e⟩
    by_cases h2 : k = i
    · subst h2
      rw [setA_s] at e
      exact ⟨j, hj, by rw [setA_s]; exact e⟩
    · rw [setA_n _ _ h2] at e
      by_cases h1 : k = j
      · subst h1
        exact ⟨i, hi, by rw [setA_n _ _ hij, setA_s]; exact e⟩
      · exact ⟨k, hk, by rw [setA_n _ _ h1, setA_n _ _ h2]; exact e⟩
theorem mem_id {α : Type} {i : Nat} {A : Nat → α} : setA A i (A i) = A := funext fun k => by
  by_cases h : k = i
  · subst h; rw [setA_s]
  · rw [setA_n _ _ h]
abbrev NP : Type := Nat × Nat
def pl (a b : NP) : Prop := a.1 < b.1 ∨ (a.1 = b.1 ∧ a.2 ≤ b.2)
theorem pl_tr {a b c : NP} (h : pl a b) (h2 : pl b c) : pl a c := by unfold pl at *; omega
theorem pl_rf (a : NP) : pl a a := Or.inr ⟨rfl, Nat.le_refl _⟩
def srt (A : Nat → NP) (k : Nat) : Prop := ∀ i j, i < j → j < k → pl (A i) (A j)
def LsA (m : Nat) (A : Nat → NP) (d : Dm) : Prop := d.1 58 2 = nI m ∧ m ≤ 4096 ∧ ∀ i, i < m → d.2.1 59 i = lN (A i).1 ∧ (A i).1 < 2 ^ 63 ∧ d.1 60 i = nI (A i).2 ∧ (A i).2 < 4096
def frF (d d' : Dm) : Prop := (∀ x, x ≠ 58 → x ≠ 60 → d'.1 x = d.1 x) ∧ (∀ x, x ≠ 59 → d'.2.1 x = d.2.1 x) ∧ d'.2.2 = d.2.2
theorem frF_rf (d : Dm) : frF d d := ⟨fun _ _ _ => rfl, fun _ _ => rfl, rfl⟩
theorem frF_tr {d d' d'' : Dm} (h : frF d d') (h2 : frF d' d'') : frF d d'' := ⟨fun x a b => (h2.1 x a b).trans (h.1 x a b), fun x a => (h2.2.1 x a).trans (h.2.1 x a), h2.2.2.trans h.2.2⟩
theorem frF_set {d d' : Dm} (h : frF d d') (i j : Nat) (x : Int32) (y : Int64) : frF d (u2 d'.1 60 i x, u2 d'.2.1 59 j y, d'.2.2) := ⟨fun z a b => (u2_row d'.1 b _ _).trans (h.1 z a b), fun z a => (u2_row d'.2.1 a _ _).trans (h.2.1 z a), h.2.2⟩
section
variable {m : Nat} {A : Nat → NP} {d : Dm}
theorem ls_set (h : LsA m A d) {i : Nat} {v : NP} (h1 : v.1 < 2 ^ 63) (h2 : v.2 < 4096) : LsA m (setA A i v) (u2 d.1 60 i (nI v.2), u2 d.2.1 59 i (lN v.1), d.2.2) := by
  refine ⟨(congrFun (u2_row d.1 (show 58 ≠ 60 by omega) i (nI v.2)) 2).trans h.1, h.2.1, fun j hj => ?_⟩
  show u2 d.2.1 59 i _ 59 j = _ ∧ _ ∧ u2 d.1 60 i _ 60 j = _ ∧ _
  by_cases e : j = i
  · subst e
    rw [setA_s, u2_s, u2_s]
    exact ⟨rfl, h1, rfl, h2⟩
  · rw [setA_n _ _ e, u2_k _ _ _ e, u2_k _ _ _ e]
    exact h.2.2 j hj
theorem sink_eq (h : LsA m A d) (hR : Rf d.2.2) {fr gap : Nat} (hf : fr < m) (hg : 1 ≤ gap) (hg2 : gap ≤ 4096) : wp (Found_sink 58 (nI fr) (nI gap)) d (fun _ d' => ∃ B, LsA m B d' ∧ frF d d' ∧ (∀ x, memA m B x ↔ memA m A x) ∧ (gap = 1 → srt A fr → srt B (fr + 1)) ∧ ∀ j, fr < j → B j = A j) := by
  obtain ⟨l1, l2, l3⟩ := h
  obtain ⟨v1, v2, v3, v4⟩ := l3 fr hf
  unfold Found_sink
  simp only [wp_mb, wp_gR, wp_aL, wp_aI, zk, zl, true_and, hR.1, nI_clamp (show fr < 2 ^ 31 by omega)]
  refine ⟨ib_nI (by omega) (by omega), ib_nI (by omega) (by omega), ?_⟩
  rw [v1, v3]
  unfold Found_sink_18
  refine wp_lo (fun i s dd => s = nI i ∧ i ≤ fr ∧ ∃ C, LsA m C dd ∧ frF d dd ∧ (∀ x, memA m (setA C i (A fr)) x ↔ memA m A x) ∧ (∀ j, fr < j → C j = A j) ∧ (gap = 1 → srt A fr → (∀ a b, a < b → b ≤ fr → a ≠ i → b ≠ i → pl (C a) (C b)) ∧ ∀ b, i < b → b ≤ fr → pl (A fr) (C b))) ?_ (m := fr) ⟨rfl, Nat.le_refl _, A, ⟨l1, l2, l3⟩, frF_rf d, fun x => by rw [mem_id (i := fr)], fun _ _ => rfl, fun _ hs => ⟨fun a b h1 h2 h3 h4 => hs a b h1 (by omega), fun b h1 h2 => by omega⟩⟩
  intro i s dd ⟨e1, hi, C, hC, hfr, hmem, hbey, hso⟩
  subst e1
  obtain ⟨c1, c2, c3⟩ := id hC
  have hRd : Rf dd.2.2 := by rw [hfr.2.2]; exact hR
  -- the end: the hole is filled
  have fin : (gap = 1 → srt A fr → ∀ a, a < i → pl (C a) (A fr)) → wp (mr (α := Int32) (Found_sink_107 58 (lN (A fr).1) (nI (A fr).2) (nI i))) dd (fun q d' => match q with
      | .inl a' => ∃ m', m' < i ∧ a' = nI m' ∧ m' ≤ fr ∧ ∃ C, LsA m C d' ∧ frF d d' ∧ (∀ x, memA m (setA C m' (A fr)) x ↔ memA m A x) ∧ (∀ j, fr < j → C j = A j) ∧ (gap = 1 → srt A fr → (∀ a b, a < b → b ≤ fr → a ≠ m' → b ≠ m' → pl (C a) (C b)) ∧ ∀ b, m' < b → b ≤ fr → pl (A fr) (C b))
      | .inr _ => ∃ B, LsA m B d' ∧ frF d d' ∧ (∀ x, memA m B x ↔ memA m A x) ∧ (gap = 1 → srt A fr → srt B (fr + 1)) ∧ ∀ j, fr < j → B j = A j) := by
    intro hlow
    unfold Found_sink_107
    simp only [wp_mr, wp_mb, wp_gR, wp_sL, wp_sI, wp_mp, zk, zl, true_and, hRd.1, nI_clamp (show i < 2 ^ 31 by omega)]
    refine ⟨ib_nI (by omega) (by omega), ib_nI (by omega) (by omega), setA C i (A fr), ls_set hC v2 v4, frF_set hfr _ _ _ _, hmem, fun hg1 hs => ?_, fun j hj => by rw [setA_n _ _ (by omega)]; exact hbey j hj⟩
    obtain ⟨s1, s2⟩ := hso hg1 hs
    intro a b hab hb
    by_cases ea : a = i
    · subst ea
      rw [setA_s, setA_n _ _ (by omega)]
      exact s2 b hab (by omega)
    · by_cases eb : b = i
      · subst eb
        rw [setA_s, setA_n _ _ ea]
        exact hlow hg1 hs a hab
      · rw [setA_n _ _ ea, setA_n _ _ eb]
        exact s1 a b hab (by omega) ea eb
  have go : gap ≤ i → ¬ pl (C (i - gap)) (A fr) → wp (Found_sink_66 58 (nI gap) (lN (A fr).1) (nI (A fr).2) (nI i)) dd (fun q d' => match q with
      | .inl a' => ∃ m', m' < i ∧ a' = nI m' ∧ m' ≤ fr ∧ ∃ C, LsA m C d' ∧ frF d d' ∧ (∀ x, memA m (setA C m' (A fr)) x ↔ memA m A x) ∧ (∀ j, fr < j → C j = A j) ∧ (gap = 1 → srt A fr → (∀ a b, a < b → b ≤ fr → a ≠ m' → b ≠ m' → pl (C a) (C b)) ∧ ∀ b, m' < b → b ≤ fr → pl (A fr) (C b))
      | .inr _ => ∃ B, LsA m B d' ∧ frF d d' ∧ (∀ x, memA m B x ↔ memA m A x) ∧ (gap = 1 → srt A fr → srt B (fr + 1)) ∧ ∀ j, fr < j → B j = A j) := by
    intro hgi hnp
    obtain ⟨w1, w2, w3, w4⟩ := c3 (i - gap) (by omega)
    unfold Found_sink_66
    simp only [wp_mb, wp_ml, wp_gR, wp_aL, wp_aI, wp_sL, wp_sI, wp_mp, zk, zl, true_and, hRd.1, pk_sub hgi, nI_clamp (show i < 2 ^ 31 by omega), nI_clamp (show i - gap < 2 ^ 31 by omega)]
    refine ⟨ib_nI (by omega) (by omega), ib_nI (by omega) (by omega), ib_nI (by omega) (by omega), ib_nI (by omega) (by omega), i - gap, by omega, rfl, by omega, setA C i (C (i - gap)), ?_, ?_, ?_, ?_, ?_⟩
    · rw [w1, w3]
      exact ls_set hC w2 w4
    · exact frF_set hfr _ _ _ _
    · intro x
      rw [mem_swap (by omega) (by omega) (by omega)]
      exact hmem x
    · exact fun j hj => by rw [setA_n _ _ (by omega)]; exact hbey j hj
    · intro hg1 hs
      obtain ⟨s1, s2⟩ := hso hg1 hs
      subst hg1
      refine ⟨fun a b hab hb ha hb2 => ?_, fun b hab hb => ?_⟩
      · by_cases ea : a = i
        · subst ea
          rw [setA_s, setA_n _ _ (by omega)]
          exact s1 _ _ (by omega) hb (by omega) (by omega)
        · by_cases eb : b = i
          · subst eb
            rw [setA_s, setA_n _ _ ea]
            exact s1 _ _ (by omega) (by omega) (by omega) (by omega)
          · rw [setA_n _ _ ea, setA_n _ _ eb]
            exact s1 a b hab hb ea eb
      · by_cases eb : b = i
        · subst eb
          rw [setA_s]
          unfold pl at hnp ⊢
          omega
        · rw [setA_n _ _ eb]
          exact s2 b (by omega) hb
  unfold Found_sink_18_b
  by_cases hlt : i < gap
  · rw [if_pos (nI_lt hlt (by omega))]
    exact wp_mono (fin (fun hg1 _ a ha => by omega)) (fun q d' hq => by cases q <;> exact hq)
  · rw [if_neg (fun q => hlt ((nI_ltI (by omega) (by omega)).mp q))]
    obtain ⟨w1, w2, w3, w4⟩ := c3 (i - gap) (by omega)
    have stop : pl (C (i - gap)) (A fr) → gap = 1 → srt A fr → ∀ a, a < i → pl (C a) (A fr) := by
      intro hp hg1 hs a ha
      subst hg1
      by_cases ea : a = i - 1
      · subst ea; exact hp
      · exact pl_tr ((hso rfl hs).1 a (i - 1) (by omega) (by omega) (by omega) (by omega)) hp
    simp only [wp_mb, wp_gR, wp_aL, wp_aI, zk, zl, true_and, hRd.1, pk_sub (Nat.not_lt.mp hlt), nI_clamp (show i - gap < 2 ^ 31 by omega)]
    refine ⟨ib_nI (by omega) (by omega), ?_⟩
    rw [w1]
    refine wp_if (fun h1 => ?_) (fun h1 => ?_)
    · have h1 := (pk_lLT v2 w2).mp h1
      exact wp_mono (go (by omega) (by unfold pl; omega)) (fun q d' hq => by cases q <;> exact hq)
    · have h1 : ¬ _ := fun q => h1 ((pk_lLT v2 w2).mpr q)
      simp only [wp_mb, wp_gR, wp_aL, wp_aI, zk, zl, true_and, hRd.1, nI_clamp (show i - gap < 2 ^ 31 by omega)]
      refine ⟨ib_nI (by omega) (by omega), ?_⟩
      rw [w1]
      refine wp_if (fun h2 => ?_) (fun h2 => ?_)
      · have h2 := (pk_lEQ w2 v2).mp h2
        simp only [wp_mb, wp_gR, wp_aL, wp_aI, zk, zl, true_and, hRd.1, nI_clamp (show i - gap < 2 ^ 31 by omega)]
        refine ⟨ib_nI (by omega) (by omega), ?_⟩
        rw [w3]
        refine wp_if (fun h3 => ?_) (fun h3 => ?_)
        · have h3 := (nI_leI (by omega) (by omega)).mp h3
          exact wp_mono (fin (stop (by unfold pl; omega))) (fun q d' hq => by cases q <;> exact hq)
        · have h3 : ¬ _ := fun q => h3 ((nI_leI (by omega) (by omega)).mpr q)
          exact wp_mono (go (by omega) (by unfold pl; omega)) (fun q d' hq => by cases q <;> exact hq)
      · have h2 : ¬ _ := fun q => h2 ((pk_lEQ w2 v2).mpr q)
        exact wp_mono (fin (stop (by unfold pl; omega))) (fun q d' hq => by cases q <;> exact hq)
theorem sort_eq (h : LsA m A d) (hR : Rf d.2.2) (hm : 1 ≤ m) : wp (Found_sort 58) d (fun _ d' => ∃ B, LsA m B d' ∧ frF d d' ∧ (∀ x, memA m B x ↔ memA m A x) ∧ srt B m) := by
  unfold Found_sort
  have h2 := h.2.1
  simp only [wp_mb, wp_ml, wp_gI, zk, zl, true_and, h.1, show (2 : Int32) = nI 2 from rfl, pk_div (show m < 2 ^ 31 by omega) (show 0 < 2 by omega) (by decide)]
  unfold Found_sort_7
  refine wp_lo (fun g s dd => s = nI g ∧ g ≤ 4096 ∧ ∃ B, LsA m B dd ∧ frF d dd ∧ (∀ x, memA m B x ↔ memA m A x) ∧ (g = 0 → srt B m)) ?_ (m := m / 2) ⟨rfl, by omega, A, h, frF_rf d, fun _ => Iff.rfl, fun q i j hij hj => by omega⟩
  intro g s dd ⟨e1, hg, B, hB, hf, hmm, hsr⟩
  subst e1
  unfold Found_sort_7_b
  by_cases hg0 : g = 0
  · subst hg0
    rw [if_pos (by decide)]
    exact wp_mr.mpr <| wp_mp.mpr ⟨B, hB, hf, hmm, hsr rfl⟩
  · rw [if_neg (show ¬ nI g ≤ 0 from fun q => by have := (nI_leI (b := 0) (by omega) (by omega)).mp q; omega)]
    have hnx : ∃ g2, g2 < g ∧ (if nI g = (2 : Int32) then (1 : Int32) else ((nI g * (5 : Int32)) / (11 : Int32))) = nI g2 ∧ (g2 = 0 → g = 1) := by
      by_cases e2 : g = 2
      · subst e2
        exact ⟨1, by omega, rfl, by omega⟩
      · refine ⟨g * 5 / 11, by omega, ?_, by omega⟩
        rw [if_neg (show ¬ nI g = (2 : Int32) from fun q => e2 ((nI_eq (b := 2) (by omega) (by omega)).mp q))]
        show nI g * nI 5 / nI 11 = _
        rw [pk_mul, pk_div (by omega) (by omega) (by omega)]
    obtain ⟨g2, n1, n2, n3⟩ := hnx
    unfold Found_sort_13
    refine wp_lo (fun k s dd => ∃ i, i + k = m + g ∧ g ≤ i ∧ s = nI i ∧ ∃ B, LsA m B dd ∧ frF d dd ∧ (∀ x, memA m B x ↔ memA m A x) ∧ (g = 1 → i ≤ m → srt B i) ∧ (g = 1 → m ≤ i → srt B m)) ?_ (m := m) ⟨g, by omega, by omega, rfl, B, hB, hf, hmm, fun g1 _ i j hi hj => by omega, fun g1 hm2 i j hi hj => by omega⟩
    intro k s dd ⟨i, e1, hgi, e2, B, hB, hf, hmm, hs1, hs2⟩
    subst e2
    have hRd : Rf dd.2.2 := by rw [hf.2.2]; exact hR
    unfold Found_sort_13_b
    simp only [wp_mb, wp_gI, zk, zl, true_and, hB.1]
    by_cases hmi : m ≤ i
    · rw [if_pos ((nI_leI (by omega) (by omega)).mpr hmi)]
      unfold Found_sort_48
      rw [n2]
      refine wp_mr.mpr (wp_mp.mpr ⟨g2, n1, rfl, by omega, B, hB, hf, hmm, fun q => hs2 (n3 q) hmi⟩)
    · rw [if_neg (fun q => hmi ((nI_leI (by omega) (by omega)).mp q))]
      simp only [wp_mb, wp_ml, wp_mp, wp_vc, zk, true_and]
      refine wp_mono (sink_eq hB hRd (by omega) (by omega) hg) (fun _ d' ⟨C, hC, hfC, hmC, hsC, _⟩ => ?_)
      refine ⟨k - 1, by omega, i + 1, by omega, by omega, nI_add i 1, C, hC, frF_tr hf hfC, fun x => (hmC x).trans (hmm x), fun g1 hi => hsC g1 (hs1 g1 (by omega)), fun g1 hi => ?_⟩
      have : m = i + 1 := by omega
      rw [this]
      exact hsC g1 (hs1 g1 (by omega))
def stri (A : Nat → NP) (k : Nat) : Prop := ∀ a b, a < b → b < k → (A a).1 < (A b).1
theorem drop_eq (h : LsA m A d) (hR : Rf d.2.2) (hm : 1 ≤ m) (hs : srt A m) : wp (Found_dropLike 58) d (fun _ d' => ∃ k B, 1 ≤ k ∧ LsA k B d' ∧ frF d d' ∧ stri B k ∧ (∀ j, j < k → memA m A (B j)) ∧ ∀ x, memA m A x → ∃ j, j < k ∧ (B j).1 = x.1 ∧ (B j).2 ≤ x.2) := by
  unfold Found_dropLike
  simp only [wp_ml]
  unfold Found_dropLike_4
  refine wp_up (fun i s dd => ∃ k C, s = (nI k, nI i) ∧ 1 ≤ k ∧ k ≤ i ∧ LsA m C dd ∧ frF d dd ∧ stri C k ∧ (∀ j, j < k → memA m A (C j)) ∧ (∀ x, x < i → ∃ j, j < k ∧ (C j).1 = (A x).1 ∧ (C j).2 ≤ (A x).2) ∧ (∀ x, i ≤ x → C x = A x) ∧ (C (k - 1)).1 = (A (i - 1)).1) m ?_ (i := 1) hm ⟨1, A, rfl, by omega, by omega, h, frF_rf d, fun a b hab hb => by omega, fun j hj => ⟨j, by omega, rfl⟩, fun x hx => ⟨0, by omega, by rw [show x = 0 by omega], by rw [show x = 0 by omega]; exact Nat.le_refl _⟩, fun _ _ => rfl, rfl⟩
  intro i s dd him ⟨k, C, e, hk, hki, hC, hf, hst, hin, hcov, hrest, hlast⟩
  subst e
  have hRd : Rf dd.2.2 := by rw [hf.2.2]; exact hR
  obtain ⟨c1, c2, c3⟩ := id hC
  unfold Found_dropLike_4_b
  simp only [wp_mb, wp_gI, zk, zl, true_and, c1]
  by_cases hmi : m ≤ i
  · rw [if_pos ((nI_leI (by omega) (by omega)).mpr hmi)]
    simp only [wp_mr, wp_mb, wp_pI, wp_mp, zk, zl, true_and]
    refine ⟨k, C, hk, ⟨u2_s dd.1 58 2 (nI k), by omega, fun j hj => ?_⟩, ⟨fun z a b => (u2_row dd.1 a _ _).trans (hf.1 z a b), hf.2⟩, hst, hin, fun x ⟨j, hj, ej⟩ => ?_⟩
    · have := c3 j (by omega)
      refine ⟨this.1, this.2.1, ?_, this.2.2.2⟩
      exact (congrFun (u2_row dd.1 (show 60 ≠ 58 by omega) 2 (nI k)) j).trans this.2.2.1
    · rw [← ej]
      exact hcov j (by omega)
  · rw [if_neg (fun q => hmi ((nI_leI (by omega) (by omega)).mp q))]
    obtain ⟨v1, v2, v3, v4⟩ := c3 i (by omega)
    obtain ⟨w1, w2, w3, w4⟩ := c3 (k - 1) (by omega)
    have eA := hrest i (Nat.le_refl _)
    simp only [wp_mb, wp_gR, wp_aL, zk, zl, true_and, hRd.1, show (1 : Int32) = nI 1 from rfl, pk_sub hk, nI_clamp (show i < 2 ^ 31 by omega), nI_clamp (show k - 1 < 2 ^ 31 by omega)]
    refine ⟨ib_nI (by omega) (by omega), ib_nI (by omega) (by omega), ?_⟩
    rw [v1, w1]
    have hss := hs (i - 1) i (by omega) (by omega)
    have hj0 : ∃ j, j < k ∧ (C j).1 = (A (i - 1)).1 ∧ (C j).2 ≤ (A (i - 1)).2 := hcov (i - 1) (by omega)
    obtain ⟨j0, j1, j2, j3⟩ := hj0
    have ej : j0 = k - 1 := by
      by_cases e : j0 = k - 1
      · exact e
      · have := hst j0 (k - 1) (by omega) (by omega)
        omega
    subst ej
    rw [eA] at v1 v2 v3 v4
    refine wp_if (fun h1 => ?_) (fun h1 => ?_)
    · rw [eA] at h1
      have h1 := (pk_lEQ v2 w2).mp h1
      unfold Found_dropLike_57
      simp only [wp_ml, wp_mp]
      refine ⟨by omega, k, C, ?_, hk, by omega, hC, hf, hst, hin, fun x hx => ?_, fun x hx => hrest x (by omega), ?_⟩
      · show (nI k, nI i + nI 1) = _
        rw [nI_add]
      · by_cases e : x = i
        · subst e
          unfold pl at hss
          exact ⟨k - 1, by omega, h1.symm, by omega⟩
        · exact hcov x (by omega)
      · rw [show i + 1 - 1 = i by omega, h1]
    · rw [eA] at h1
      have h1 : ¬ _ := fun q => h1 ((pk_lEQ v2 w2).mpr q)
      unfold Found_dropLike_57
      simp only [wp_mb, wp_ml, wp_mp, wp_gR, wp_aL, wp_aI, wp_sL, wp_sI, zk, zl, true_and, hRd.1, nI_clamp (show i < 2 ^ 31 by omega), nI_clamp (show k < 2 ^ 31 by omega)]
      refine ⟨ib_nI (by omega) (by omega), ib_nI (by omega) (by omega), ib_nI (by omega) (by omega), ib_nI (by omega) (by omega), by omega, k + 1, setA C k (A i), ?_, by omega, by omega, ?_, ?_, ?_, ?_, ?_, ?_, ?_⟩
      · rw [← nI_add, ← nI_add]; rfl
      · rw [v1, v3]
        exact ls_set hC v2 v4
      · exact frF_set hf _ _ _ _
      · intro a b hab hb
        by_cases eb : b = k
        · subst eb
          rw [setA_s, setA_n _ _ (by omega)]
          unfold pl at hss
          by_cases ea : a = b - 1
          · subst ea; omega
          · have := hst a (b - 1) (by omega) (by omega)
            omega
        · rw [setA_n _ _ (by omega), setA_n _ _ eb]
          exact hst a b hab (by omega)
      · intro j hj
        by_cases ej : j = k
        · subst ej
          rw [setA_s]
          exact ⟨i, by omega, rfl⟩
        · rw [setA_n _ _ ej]
          exact hin j (by omega)
      · intro x hx
        by_cases e : x = i
        · subst e
          exact ⟨k, by omega, by rw [setA_s], by rw [setA_s]; exact Nat.le_refl _⟩
        · obtain ⟨j, q1, q2⟩ := hcov x (by omega)
          exact ⟨j, by omega, by rw [setA_n _ _ (by omega)]; exact q2⟩
      · exact fun x hx => by rw [setA_n _ _ (by omega)]; exact hrest x (by omega)
      · rw [show k + 1 - 1 = k by omega, show i + 1 - 1 = i by omega, setA_s]
end
