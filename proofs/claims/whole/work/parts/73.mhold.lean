/-! ===== pure: whether a text holds, by the reference ===== -/
def hB (d : Dm) (dp : Int32) (X Y Z : Nat → Int32) : Dm := (fun i j => if i = 76 then X j else if i = 77 then Y j else if i = 78 then Z j else if i = 65 ∧ j = 26 then dp else d.1 i j, d.2)
section
variable {d : Dm} {dp : Int32} {X Y Z : Nat → Int32} {k : Nat}
theorem hB_n {x j : Nat} (h : x ≠ 76 ∧ x ≠ 77 ∧ x ≠ 78 ∧ ¬ (x = 65 ∧ j = 26)) : (hB d dp X Y Z).1 x j = d.1 x j := by
  unfold hB
  dsimp only
  rw [if_neg h.1, if_neg h.2.1, if_neg h.2.2.1, if_neg h.2.2.2]
theorem hB_76 (j : Nat) : (atM (hB d dp X Y Z) k).1 76 j = X j := by
  rw [atM_n _ _ (by omega)]; rfl
theorem hB_77 (j : Nat) : (atM (hB d dp X Y Z) k).1 77 j = Y j := by
  rw [atM_n _ _ (by omega)]; rfl
theorem hB_78 (j : Nat) : (atM (hB d dp X Y Z) k).1 78 j = Z j := by
  rw [atM_n _ _ (by omega)]; rfl
theorem hB_26 : (atM (hB d dp X Y Z) k).1 65 26 = dp := by
  rw [atM_n _ _ (by omega)]; rfl
theorem hB_w76 (j : Nat) (v : Int32) : ((u2 (atM (hB d dp X Y Z) k).1 76 j v, (atM (hB d dp X Y Z) k).2) : Dm) = atM (hB d dp (setA X j v) Y Z) k := by
  refine Prod.ext ?_ rfl
  funext a b
  show u2 (u2 (hB d dp X Y Z).1 65 21 (nI k)) 76 j v a b = u2 (hB d dp (setA X j v) Y Z).1 65 21 (nI k) a b
  unfold u2 hB setA
  dsimp only
  by_cases h1 : a = 76
  · subst h1
    by_cases h2 : b = j <;> simp [h2]
  · by_cases h3 : a = 65 ∧ b = 21 <;> simp [h1, h3]
theorem hB_w77 (j : Nat) (v : Int32) : ((u2 (atM (hB d dp X Y Z) k).1 77 j v, (atM (hB d dp X Y Z) k).2) : Dm) = atM (hB d dp X (setA Y j v) Z) k := by
  refine Prod.ext ?_ rfl
  funext a b
  show u2 (u2 (hB d dp X Y Z).1 65 21 (nI k)) 77 j v a b = u2 (hB d dp X (setA Y j v) Z).1 65 21 (nI k) a b
  unfold u2 hB setA
  dsimp only
  by_cases h1 : a = 77
  · subst h1
    by_cases h2 : b = j <;> simp [h2]
  · by_cases h3 : a = 65 ∧ b = 21 <;> simp [h1, h3]
theorem hB_w78 (j : Nat) (v : Int32) : ((u2 (atM (hB d dp X Y Z) k).1 78 j v, (atM (hB d dp X Y Z) k).2) : Dm) = atM (hB d dp X Y (setA Z j v)) k := by
  refine Prod.ext ?_ rfl
  funext a b
  show u2 (u2 (hB d dp X Y Z).1 65 21 (nI k)) 78 j v a b = u2 (hB d dp X Y (setA Z j v)).1 65 21 (nI k) a b
  unfold u2 hB setA
  dsimp only
  by_cases h1 : a = 78
  · subst h1
    by_cases h2 : b = j <;> simp [h2]
  · by_cases h3 : a = 65 ∧ b = 21 <;> simp [h1, h3]
theorem hB_w26 (v : Int32) : ((u2 (atM (hB d dp X Y Z) k).1 65 26 v, (atM (hB d dp X Y Z) k).2) : Dm) = atM (hB d v X Y Z) k := by
  refine Prod.ext ?_ rfl
  funext a b
  show u2 (u2 (hB d dp X Y Z).1 65 21 (nI k)) 65 26 v a b = u2 (hB d v X Y Z).1 65 21 (nI k) a b
  unfold u2 hB
  dsimp only
  by_cases h1 : a = 65
  · subst h1
    by_cases h2 : b = 26
    · subst h2; simp
    · simp [h2]
  · simp [h1]
theorem TX.hb {s : Bool} {B m : Nat} {t : Nat → Nat} (h : TX s B t m d) : TX s B t m (hB d dp X Y Z) := by
  obtain ⟨⟨h1, h2, h3, h4⟩, h5, h6, h7⟩ := h
  refine ⟨⟨h1, (hB_n (by omega)).trans h2, (hB_n (by omega)).trans h3, (hB_n (by omega)).trans h4⟩, h5, h6, fun i hi => ?_⟩
  rw [hB_n (by split <;> omega)]
  exact h7 i hi
theorem s76 {δ : Nat} {v : Int32} (hδ : δ < 61) (hv : v = 0 ∨ v = 1) : sZ ZF 76 (nI δ) v (atM (hB d dp X Y Z) k) = some ((), atM (hB d dp (setA X δ v) Y Z) k) := by
  apply wp_get
  rw [wp_sZ, nI_clamp (show δ < 2 ^ 31 by omega), hB_w76]
  exact ⟨⟨⟨rfl, ib_nI (n := 61) hδ (by omega)⟩, hv⟩, rfl, rfl⟩
theorem s77 {δ : Nat} {v : Int32} (hδ : δ < 61) (hv : v = 0 ∨ v = 1) : sZ ZF 77 (nI δ) v (atM (hB d dp X Y Z) k) = some ((), atM (hB d dp X (setA Y δ v) Z) k) := by
  apply wp_get
  rw [wp_sZ, nI_clamp (show δ < 2 ^ 31 by omega), hB_w77]
  exact ⟨⟨⟨rfl, ib_nI (n := 61) hδ (by omega)⟩, hv⟩, rfl, rfl⟩
theorem s78 {δ : Nat} {v : Int32} (hδ : δ < 61) (hv : v = 0 ∨ v = 1) : sZ ZF 78 (nI δ) v (atM (hB d dp X Y Z) k) = some ((), atM (hB d dp X Y (setA Z δ v)) k) := by
  apply wp_get
  rw [wp_sZ, nI_clamp (show δ < 2 ^ 31 by omega), hB_w78]
  exact ⟨⟨⟨rfl, ib_nI (n := 61) hδ (by omega)⟩, hv⟩, rfl, rfl⟩
theorem s26 {v : Int32} : pI ZF 12 26 65 v (atM (hB d dp X Y Z) k) = some ((), atM (hB d v X Y Z) k) := by
  apply wp_get
  rw [wp_pI, hB_w26]
  exact ⟨rfl, rfl, rfl⟩
theorem bI_ne (a b : Bool) : bI a = bI b ↔ a = b := by cases a <;> cases b <;> simp [bI]
theorem factor_eq (hR : MRf d.2.2) {δ : Nat} (hδ : δ < 61) {y z : Bool} (hy : Y δ = bI y) (hz : Z δ = bI z) (b : Bool) : Mod_factor 65 (bI b) (atM (hB d (nI δ) X Y Z) k) = some ((), atM (hB d (nI δ) X (setA Y δ (bI (y && (b ^^ z)))) (setA Z δ 0)) k) := by
  have hR' : ∀ {e : Dm}, e.2.2 = d.2.2 → MRf e.2.2 := fun he => by rw [he]; exact hR
  have r24 : ∀ {X Y Z dp}, (atM (hB d dp X Y Z) k).2.2 65 24 = 77 := fun {X Y Z dp} => hR.2.2.2.2.2.2.2.2.2.2.2.1
  have r25 : ∀ {X Y Z dp}, (atM (hB d dp X Y Z) k).2.2 65 25 = 78 := fun {X Y Z dp} => hR.2.2.2.2.2.2.2.2.2.2.2.2.1
  have fin : ∀ w : Bool, wp (Mod_factor_38 65 77 (nI δ) (bI w)) (atM (hB d (nI δ) X Y Z) k) (fun x y => x = () ∧ y = atM (hB d (nI δ) X (setA Y δ (bI w)) (setA Z δ 0)) k) := by
    intro w
    unfold Mod_factor_38
    rw [wp_mb, wp_eq (s77 hδ (bI_01' w))]
    simp only [wp_mb, wp_gR, wp_gI, zk, true_and, r25, hB_26]
    rw [wp_eq (s78 hδ (Or.inl rfl)), wp_mp]
  apply wp_get
  unfold Mod_factor Mod_factor_37
  simp only [wp_mb, wp_gR, wp_gI, wp_aI, zk, zl, true_and, r24, hB_26, nI_clamp (show δ < 2 ^ 31 by omega), hB_77, hy]
  refine ⟨ib_nI (by omega) (by omega), ?_⟩
  cases y with
  | false =>
    rw [if_pos (by decide)]
    exact wp_mono (fin false) (fun _ _ q => q.2)
  | true =>
    rw [if_neg (by decide)]
    simp only [wp_mb, wp_gR, wp_gI, wp_aI, zk, zl, true_and, r25, hB_26, nI_clamp (show δ < 2 ^ 31 by omega), hB_78, hz]
    refine ⟨ib_nI (by omega) (by omega), ?_⟩
    by_cases hbz : b = z
    · rw [if_pos ((bI_ne b z).mpr hbz)]
      have e : (true && (b ^^ z)) = false := by rw [hbz]; cases z <;> rfl
      rw [e]
      exact wp_mono (fin false) (fun _ _ q => q.2)
    · rw [if_neg (fun q => hbz ((bI_ne b z).mp q))]
      have e : (true && (b ^^ z)) = true := by cases b <;> cases z <;> simp_all
      rw [e]
      exact wp_mono (fin true) (fun _ _ q => q.2)
theorem open_eq (hR : MRf d.2.2) {δ : Nat} (hδ : δ < 61) (hdp : dp + 1 = nI δ) : Mod_openGroup 65 (atM (hB d dp X Y Z) k) = some ((), atM (hB d (nI δ) (setA X δ 0) (setA Y δ 1) (setA Z δ 0)) k) := by
  have r23 : ∀ {X Y Z dp}, (atM (hB d dp X Y Z) k).2.2 65 23 = 76 := fun {X Y Z dp} => hR.2.2.2.2.2.2.2.2.2.2.1
  have r24 : ∀ {X Y Z dp}, (atM (hB d dp X Y Z) k).2.2 65 24 = 77 := fun {X Y Z dp} => hR.2.2.2.2.2.2.2.2.2.2.2.1
  have r25 : ∀ {X Y Z dp}, (atM (hB d dp X Y Z) k).2.2 65 25 = 78 := fun {X Y Z dp} => hR.2.2.2.2.2.2.2.2.2.2.2.2.1
  apply wp_get
  unfold Mod_openGroup
  rw [wp_mb, wp_gI, hB_26, hdp]
  refine ⟨rfl, ?_⟩
  rw [wp_mb, wp_eq s26]
  simp only [wp_mb, wp_gR, wp_gI, zk, true_and, r23, hB_26]
  rw [wp_eq (s76 hδ (Or.inl rfl))]
  simp only [wp_mb, wp_gR, wp_gI, zk, true_and, r24, hB_26]
  rw [wp_eq (s77 hδ (Or.inr rfl))]
  simp only [wp_mb, wp_gR, wp_gI, zk, true_and, r25, hB_26]
  rw [wp_eq (s78 hδ (Or.inl rfl)), wp_mp]
end
def GRl : List Gr → (Nat → Int32) → (Nat → Int32) → (Nat → Int32) → Prop
  | [], _, _, _ => True
  | (o, a, n) :: g, X, Y, Z => X g.length = bI (o.getD false) ∧ Y g.length = bI (a.getD true) ∧ Z g.length = bI (decide (n % 2 = 1)) ∧ GRl g X Y Z
theorem GRl_cong {X Y Z X' Y' Z' : Nat → Int32} : ∀ {g : List Gr}, GRl g X Y Z → (∀ i, i < g.length → X' i = X i ∧ Y' i = Y i ∧ Z' i = Z i) → GRl g X' Y' Z'
  | [], _, _ => trivial
  | (o, a, n) :: g, h, hc => by
    have h0 := hc g.length (by simp)
    exact ⟨h0.1.trans h.1, h0.2.1.trans h.2.1, h0.2.2.trans h.2.2.1, GRl_cong h.2.2.2 (fun i hi => hc i (by simp; omega))⟩
def ARc (o a : Option Bool) (v : Bool) (g : List Gr) (X Y Z : Nat → Int32) : Prop := X g.length = bI (o.getD false) ∧ Y g.length = bI (anv a v) ∧ Z g.length = 0 ∧ GRl g X Y Z
theorem or_getD (o : Option Bool) (b : Bool) : (o.getD false || b) = orv o b := by cases o <;> simp [orv]
theorem an_getD (a : Option Bool) (n : Nat) (b : Bool) : (a.getD true && (b ^^ decide (n % 2 = 1))) = anv a (dnv n b) := by
  by_cases h : n % 2 = 1
  · cases a <;> cases b <;> simp [anv, dnv, h]
  · cases a <;> cases b <;> simp [anv, dnv, h]
