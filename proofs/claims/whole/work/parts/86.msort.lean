/-! ===== pure: the reference sorts ===== -/
def s87 (x _j : Nat) : Prop := x = 87
def BMl (wn sm : Nat) (B : Nat → Nat) (d : Dm) : Prop := d.1 65 40 = nI sm ∧ sm ≤ 8192 ∧ ∀ i, i < sm → d.1 87 i = nI (B i) ∧ B i < 2 ^ wn
def srtK (κ : Nat → Nat) (B : Nat → Nat) (k : Nat) : Prop := ∀ a b, a < b → b < k → κ (B a) ≤ κ (B b)
def KTb (κ : Nat → Nat) (wn : Nat) (d : Dm) : Prop := wn ≤ 12 ∧ ∀ c, c < 2 ^ wn → d.2.1 79 c = lN (κ c) ∧ κ c < 2 ^ 63
section
variable {κ : Nat → Nat} {wn sm : Nat} {B : Nat → Nat} {d : Dm}
theorem KTb.fr {S : Nat → Nat → Prop} {d' : Dm} (h : KTb κ wn d) (hf : frc S d d') (hS : ∀ j, ¬ S 79 j) : KTb κ wn d' := ⟨h.1, fun c hc => ⟨(hf.l (hS _)).trans (h.2 c hc).1, (h.2 c hc).2⟩⟩
theorem BMl_set (h : BMl wn sm B d) {i v : Nat} (hv : v < 2 ^ wn) : BMl wn sm (setA B i v) (u2 d.1 87 i (nI v), d.2) := by
  refine ⟨(u2_a d.1 (show (65 : Nat) ≠ 87 by omega) i (nI v) 40).trans h.1, h.2.1, fun j hj => ?_⟩
  show u2 d.1 87 i (nI v) 87 j = _ ∧ _
  by_cases e : j = i
  · rw [e, u2_s, setA_s]; exact ⟨rfl, hv⟩
  · rw [u2_k _ _ _ e, setA_n _ _ e]; exact h.2.2 j hj
theorem ins_eq (hR : MRf d.2.2) (hK : KTb κ wn d) (h : BMl wn sm B d) {fr gap : Nat} (hfr : fr < sm) (hg : 1 ≤ gap) (hg2 : gap ≤ 4096) : wp (Mod_findPlates_43 65 (nI gap) (nI fr) (nI (B fr)) (nI fr)) d (fun z d' => z = .inl (nI (fr + 1)) ∧ frc s87 d d' ∧ ∃ B', BMl wn sm B' d' ∧ (∀ x, memA sm B' x ↔ memA sm B x) ∧ (gap = 1 → srtK κ B fr → srtK κ B' (fr + 1)) ∧ ∀ j, fr < j → B' j = B j) := by
  have hsm := h.2.1
  have hBf := (h.2.2 fr hfr).2
  have hwn : 2 ^ wn ≤ 4096 := p31 hK.1
  have kf := hK.2 (B fr) hBf
  unfold Mod_findPlates_43
  refine wp_lo (fun i s dd => s = nI i ∧ i ≤ fr ∧ ∃ C, BMl wn sm C dd ∧ frc s87 d dd ∧ (∀ x, memA sm (setA C i (B fr)) x ↔ memA sm B x) ∧ (∀ j, fr < j → C j = B j) ∧ (gap = 1 → srtK κ B fr → (∀ a b, a < b → b ≤ fr → a ≠ i → b ≠ i → κ (C a) ≤ κ (C b)) ∧ ∀ b, i < b → b ≤ fr → κ (B fr) ≤ κ (C b))) ?_ (m := fr) ⟨rfl, Nat.le_refl _, B, h, frc_rf d, fun x => by rw [mem_id (i := fr)], fun _ _ => rfl, fun _ hs => ⟨fun a b h1 h2 h3 h4 => hs a b h1 (by omega), fun b h1 h2 => by omega⟩⟩
  intro i s dd ⟨e1, hi, C, hC, hf, hmem, hbey, hso⟩
  subst e1
  have hR2 := MRf_fr hR hf
  have hK2 := hK.fr hf (fun j => by unfold s87; omega)
  have r87 : dd.2.2 65 39 = 87 := hR2.2.2.2.2.2.2.2.2.2.2.2.2.2.2.2.2.2.2.2.2.2.1
  have r79 : dd.2.2 65 28 = 79 := hR2.2.2.2.2.2.2.2.2.2.2.2.2.2.1
  have fin : (gap = 1 → srtK κ B fr → ∀ a, a < i → κ (C a) ≤ κ (B fr)) → wp (mr (α := Int32) (Mod_findPlates_99 65 (nI gap) (nI fr) (nI (B fr)) (nI i))) dd (fun q d' => match q with
      | .inl a' => ∃ m', m' < i ∧ a' = nI m' ∧ m' ≤ fr ∧ ∃ C, BMl wn sm C d' ∧ frc s87 d d' ∧ (∀ x, memA sm (setA C m' (B fr)) x ↔ memA sm B x) ∧ (∀ j, fr < j → C j = B j) ∧ (gap = 1 → srtK κ B fr → (∀ a b, a < b → b ≤ fr → a ≠ m' → b ≠ m' → κ (C a) ≤ κ (C b)) ∧ ∀ b, m' < b → b ≤ fr → κ (B fr) ≤ κ (C b))
      | .inr z => z = .inl (nI (fr + 1)) ∧ frc s87 d d' ∧ ∃ B', BMl wn sm B' d' ∧ (∀ x, memA sm B' x ↔ memA sm B x) ∧ (gap = 1 → srtK κ B fr → srtK κ B' (fr + 1)) ∧ ∀ j, fr < j → B' j = B j) := by
    intro hlow
    unfold Mod_findPlates_99
    simp only [wp_mr, wp_mb, wp_gR, wp_sI, wp_ml, wp_mp, zk, zl, true_and, r87, nI_clamp (show i < 2 ^ 31 by omega), nI_1]
    refine ⟨ib_nI (by omega) (by omega), frc_I hf 87 i _ rfl, setA C i (B fr), BMl_set hC hBf, hmem, fun hg1 hs => ?_, fun j hj => by rw [setA_n _ _ (by omega)]; exact hbey j hj⟩
    obtain ⟨s1, s2⟩ := hso hg1 hs
    intro a b hab hb
    by_cases ea : a = i
    · subst ea
      rw [setA_s, setA_n _ _ (by omega)]
      exact s2 b hab (by omega)
    · by_cases eb : b = i
      · subst eb
        rw [setA_s, setA_n _ _ ea]
        exact hlow hg1 hs a hab
      · rw [setA_n _ _ ea, setA_n _ _ eb]
        exact s1 a b hab (by omega) ea eb
  unfold Mod_findPlates_43_b
  by_cases hlt : i < gap
  · rw [if_pos (nI_lt hlt (by omega))]
    exact wp_mono (fin (fun hg1 _ a ha => by omega)) (fun q d' hq => by cases q <;> exact hq)
  · rw [if_neg (nI_nlt (by omega) (by omega))]
    obtain ⟨w1, w2⟩ := hC.2.2 (i - gap) (by omega)
    have kw := hK2.2 (C (i - gap)) w2
    have kf2 := hK2.2 (B fr) hBf
    simp only [wp_mb, wp_gR, wp_aL, wp_aI, zk, zl, true_and, r87, r79, pk_sub (Nat.not_lt.mp hlt), nI_clamp (show i - gap < 2 ^ 31 by omega), w1, nI_clamp (show C (i - gap) < 2 ^ 31 by omega), nI_clamp (show B fr < 2 ^ 31 by omega), kw.1, kf2.1]
    refine ⟨ib_nI (by omega) (by omega), ib_nI (by omega) (by omega), ib_nI (by omega) (by omega), ?_⟩
    by_cases hle : κ (C (i - gap)) ≤ κ (B fr)
    · rw [if_pos ((pk_lLE kw.2 kf2.2).mpr hle)]
      refine wp_mono (fin (fun hg1 hs a ha => ?_)) (fun q d' hq => by cases q <;> exact hq)
      subst hg1
      by_cases ea : a = i - 1
      · subst ea; exact hle
      · exact Nat.le_trans ((hso rfl hs).1 a (i - 1) (by omega) (by omega) (by omega) (by omega)) hle
    · rw [if_neg (fun q => hle ((pk_lLE kw.2 kf2.2).mp q))]
      simp only [wp_mb, wp_gR, wp_aI, wp_sI, wp_ml, wp_mp, zk, zl, true_and, r87, nI_clamp (show i - gap < 2 ^ 31 by omega), nI_clamp (show i < 2 ^ 31 by omega), w1]
      refine ⟨ib_nI (by omega) (by omega), ib_nI (by omega) (by omega), i - gap, by omega, rfl, by omega, setA C i (C (i - gap)), BMl_set hC w2, frc_I hf 87 i _ rfl, ?_, ?_, ?_⟩
      · intro x
        rw [mem_swap (by omega) (by omega) (by omega)]
        exact hmem x
      · exact fun j hj => by rw [setA_n _ _ (by omega)]; exact hbey j hj
      · intro hg1 hs
        obtain ⟨s1, s2⟩ := hso hg1 hs
        subst hg1
        refine ⟨fun a b hab hb ha hb2 => ?_, fun b hab hb => ?_⟩
        · by_cases ea : a = i
          · subst ea
            rw [setA_s, setA_n _ _ (by omega)]
            exact s1 _ _ (by omega) hb (by omega) (by omega)
          · by_cases eb : b = i
            · subst eb
              rw [setA_s, setA_n _ _ ea]
              exact s1 _ _ (by omega) (by omega) (by omega) (by omega)
            · rw [setA_n _ _ ea, setA_n _ _ eb]
              exact s1 a b hab hb ea eb
        · by_cases eb : b = i
          · subst eb
            rw [setA_s]
            omega
          · rw [setA_n _ _ eb]
            exact s2 b (by omega) hb
def sRk (x j : Nat) : Prop := x = 87 ∨ x = 88 ∨ (x = 65 ∧ j = 42)
theorem rank_eq (hR : MRf d.2.2) (hK : KTb κ wn d) (h : BMl wn sm B d) (hm : 1 ≤ sm) (hs : srtK κ B sm) : wp (mb (pI ZF 12 42 65 (0 : Int32)) fun _ => ml (0 : Int32) fun x2 => Mod_findPlates_128 65 x2) d (fun _ d' => frc sRk d d' ∧ BMl wn sm B d' ∧ ∃ (s : Nat) (Rk : Nat → Nat), d'.1 65 42 = nI s ∧ (1 ≤ s ∧ s ≤ sm) ∧ (∀ j, j < s → d'.1 88 j = nI (Rk j) ∧ memA sm B (Rk j)) ∧ (∀ a b, a < b → b < s → κ (Rk a) < κ (Rk b)) ∧ ∀ i, i < sm → ∃ j, j < s ∧ κ (Rk j) = κ (B i)) := by
  have hsm := h.2.1
  have hwn : 2 ^ wn ≤ 4096 := p31 hK.1
  simp only [wp_mb, wp_pI, wp_ml, zk, true_and]
  unfold Mod_findPlates_128
  refine wp_up (fun i c dd => c = nI i ∧ frc sRk d dd ∧ BMl wn sm B dd ∧ ∃ (s : Nat) (Rk : Nat → Nat), dd.1 65 42 = nI s ∧ s ≤ i ∧ (0 < i → 1 ≤ s ∧ κ (Rk (s - 1)) = κ (B (i - 1))) ∧ (∀ j, j < s → dd.1 88 j = nI (Rk j) ∧ memA sm B (Rk j)) ∧ (∀ a b, a < b → b < s → κ (Rk a) < κ (Rk b)) ∧ ∀ x, x < i → ∃ j, j < s ∧ κ (Rk j) = κ (B x)) sm ?_ (i := 0) (by omega) ⟨rfl, fr_uI d 65 42 0 (Or.inr (Or.inr ⟨rfl, rfl⟩)), ⟨(u2_k d.1 65 65 (show (40 : Nat) ≠ 42 by omega) 0).trans h.1, hsm, fun j hj => ⟨(u2_a d.1 (show (87 : Nat) ≠ 65 by omega) 42 0 j).trans (h.2.2 j hj).1, (h.2.2 j hj).2⟩⟩, 0, fun _ => 0, u2_s d.1 65 42 0, Nat.le_refl _, fun hh => by omega, fun j hj => by omega, fun a b _ hb => by omega, fun x hx => by omega⟩
  intro i c dd hi ⟨e1, hf, hB, s, Rk, g1, g2, g3, g4, g5, g6⟩
  subst e1
  have hR2 := MRf_fr hR hf
  have hK2 := hK.fr hf (fun j => by unfold sRk; omega)
  have r87 : dd.2.2 65 39 = 87 := hR2.2.2.2.2.2.2.2.2.2.2.2.2.2.2.2.2.2.2.2.2.2.1
  have r88 : dd.2.2 65 41 = 88 := hR2.2.2.2.2.2.2.2.2.2.2.2.2.2.2.2.2.2.2.2.2.2.2
  have r79 : dd.2.2 65 28 = 79 := hR2.2.2.2.2.2.2.2.2.2.2.2.2.2.1
  unfold Mod_findPlates_128_b
  simp only [wp_mb, wp_gI, zk, true_and, hB.1]
  by_cases hx : i = sm
  · subst hx
    rw [if_pos (nI_le (Nat.le_refl _) (by omega))]
    simp only [wp_mr, wp_mp]
    exact ⟨hf, hB, s, Rk, g1, ⟨(g3 (by omega)).1, g2⟩, g4, g5, g6⟩
  · rw [if_neg (nI_ge (by omega) (by omega))]
    obtain ⟨b1, b2⟩ := hB.2.2 i (by omega)
    have ki := hK2.2 (B i) b2
    -- a new one is told
    have new : (0 < i → κ (B (i - 1)) ≠ κ (B i)) → wp (Mod_findPlates_168 65 (nI i)) dd (fun r d' => match r with
        | .inl a' => i < sm ∧ a' = nI (i + 1) ∧ frc sRk d d' ∧ BMl wn sm B d' ∧ ∃ (s : Nat) (Rk : Nat → Nat), d'.1 65 42 = nI s ∧ s ≤ i + 1 ∧ (0 < i + 1 → 1 ≤ s ∧ κ (Rk (s - 1)) = κ (B (i + 1 - 1))) ∧ (∀ j, j < s → d'.1 88 j = nI (Rk j) ∧ memA sm B (Rk j)) ∧ (∀ a b, a < b → b < s → κ (Rk a) < κ (Rk b)) ∧ ∀ x, x < i + 1 → ∃ j, j < s ∧ κ (Rk j) = κ (B x)
        | .inr _ => frc sRk d d' ∧ BMl wn sm B d' ∧ ∃ (s : Nat) (Rk : Nat → Nat), d'.1 65 42 = nI s ∧ (1 ≤ s ∧ s ≤ sm) ∧ (∀ j, j < s → d'.1 88 j = nI (Rk j) ∧ memA sm B (Rk j)) ∧ (∀ a b, a < b → b < s → κ (Rk a) < κ (Rk b)) ∧ ∀ i, i < sm → ∃ j, j < s ∧ κ (Rk j) = κ (B i)) := by
      intro hne
      unfold Mod_findPlates_168 Mod_findPlates_193
      have e42 : u2 dd.1 88 s (nI (B i)) 65 42 = nI s := by rw [u2_a _ (by omega)]; exact g1
      simp only [wp_mb, wp_gR, wp_gI, wp_aI, wp_sI, wp_pI, wp_ml, wp_mp, zk, zl, true_and, r87, r88, g1, nI_clamp (show i < 2 ^ 31 by omega), nI_clamp (show s < 2 ^ 31 by omega), b1, e42, nI_1]
      refine ⟨ib_nI (by omega) (by omega), ib_nI (by omega) (by omega), by omega, frc_I (frc_I hf 88 s _ (Or.inr (Or.inl rfl))) 65 42 _ (Or.inr (Or.inr ⟨rfl, rfl⟩)), ⟨?_, hsm, fun j hj => ⟨?_, (hB.2.2 j hj).2⟩⟩, s + 1, setA Rk s (B i), u2_s (u2 dd.1 88 s (nI (B i))) 65 42 (nI (s + 1)), by omega, fun _ => ⟨by omega, ?_⟩, fun j hj => ?_, fun a b hab hb => ?_, fun x hx => ?_⟩
      · show u2 (u2 dd.1 88 s (nI (B i))) 65 42 (nI (s + 1)) 65 40 = _
        rw [u2_k _ _ _ (by omega), u2_a _ (by omega)]; exact hB.1
      · show u2 (u2 dd.1 88 s (nI (B i))) 65 42 (nI (s + 1)) 87 j = _
        rw [u2_a _ (by omega), u2_a _ (by omega)]; exact (hB.2.2 j hj).1
      · rw [show s + 1 - 1 = s by omega, setA_s, show i + 1 - 1 = i by omega]
      · by_cases hjs : j = s
        · rw [hjs, setA_s, u2_a _ (by omega), u2_s]
          exact ⟨rfl, i, by omega, rfl⟩
        · rw [setA_n _ _ hjs, u2_a _ (by omega), u2_k _ _ _ hjs]
          exact g4 j (by omega)
      · by_cases hbs : b = s
        · subst hbs
          rw [setA_s, setA_n _ _ (by omega)]
          have hi0 : 0 < i := by omega
          have h3 := (g3 hi0).2
          have hle := hs (i - 1) i (by omega) (by omega)
          have hne' := hne hi0
          by_cases hab2 : a = b - 1
          · rw [hab2, h3]; omega
          · have := g5 a (b - 1) (by omega) (by omega)
            omega
        · rw [setA_n _ _ (by omega), setA_n _ _ hbs]
          exact g5 a b hab (by omega)
      · by_cases hxi : x = i
        · exact ⟨s, by omega, by rw [setA_s, hxi]⟩
        · obtain ⟨j, j1, j2⟩ := g6 x (by omega)
          exact ⟨j, by omega, by rw [setA_n _ _ (by omega)]; exact j2⟩
    by_cases hi0 : i = 0
    · rw [if_pos (show nI i = 0 by rw [hi0]; rfl)]
      exact wp_mono (new (fun hh => by omega)) (fun r d' hh => by cases r <;> exact hh)
    · rw [if_neg (nI_ne0 (by omega) (by omega))]
      obtain ⟨c1, c2⟩ := hB.2.2 (i - 1) (by omega)
      have kp := hK2.2 (B (i - 1)) c2
      have ei : nI i - (1 : Int32) = nI (i - 1) := by rw [show (1 : Int32) = nI 1 from rfl, pk_sub (by omega)]
      simp only [wp_mb, wp_gR, wp_aL, wp_aI, zk, zl, true_and, r87, r79, ei, nI_clamp (show i < 2 ^ 31 by omega), nI_clamp (show i - 1 < 2 ^ 31 by omega), b1, c1, nI_clamp (show B i < 2 ^ 31 by omega), nI_clamp (show B (i - 1) < 2 ^ 31 by omega), ki.1, kp.1]
      refine ⟨ib_nI (by omega) (by omega), ib_nI (by omega) (by omega), ib_nI (by omega) (by omega), ib_nI (by omega) (by omega), ?_⟩
      by_cases heq : κ (B i) = κ (B (i - 1))
      · rw [if_pos (by rw [heq])]
        unfold Mod_findPlates_193
        simp only [wp_ml, wp_mp, nI_1]
        obtain ⟨h31, h32⟩ := g3 (by omega)
        refine ⟨by omega, trivial, hf, hB, s, Rk, g1, by omega, fun _ => ⟨h31, by rw [show i + 1 - 1 = i by omega, heq]; exact h32⟩, g4, g5, fun x hx => ?_⟩
        by_cases hxi : x = i
        · exact ⟨s - 1, by omega, by rw [hxi, heq]; exact h32⟩
        · exact g6 x (by omega)
      · rw [if_neg (fun q => heq ((pk_lEQ ki.2 kp.2).mp q))]
        exact wp_mono (new (fun _ q => heq q.symm)) (fun r d' hh => by cases r <;> exact hh)
theorem msort_eq (hR : MRf d.2.2) (hK : KTb κ wn d) (h : BMl wn sm B d) (hm : 1 ≤ sm) : wp (Mod_findPlates_18 65 (3280 : Int32)) d (fun _ d' => frc sRk d d' ∧ ∃ B', BMl wn sm B' d' ∧ (∀ x, memA sm B' x ↔ memA sm B x) ∧ ∃ (s : Nat) (Rk : Nat → Nat), d'.1 65 42 = nI s ∧ (1 ≤ s ∧ s ≤ sm) ∧ (∀ j, j < s → d'.1 88 j = nI (Rk j) ∧ memA sm B' (Rk j)) ∧ (∀ a b, a < b → b < s → κ (Rk a) < κ (Rk b)) ∧ ∀ i, i < sm → ∃ j, j < s ∧ κ (Rk j) = κ (B' i)) := by
  have hsm := h.2.1
  unfold Mod_findPlates_18
  refine wp_lo (fun g c dd => c = nI g ∧ (g = 3280 ∨ g = 1093 ∨ g = 364 ∨ g = 121 ∨ g = 40 ∨ g = 13 ∨ g = 4 ∨ g = 1 ∨ g = 0) ∧ frc s87 d dd ∧ ∃ B', BMl wn sm B' dd ∧ (∀ x, memA sm B' x ↔ memA sm B x) ∧ (g = 0 → srtK κ B' sm)) ?_ (m := 3280) ⟨rfl, by omega, frc_rf d, B, h, fun _ => Iff.rfl, fun hh => by omega⟩
  intro g c dd ⟨e1, hg, hf, B1, hB1, hm1, hs1⟩
  subst e1
  have hR2 := MRf_fr hR hf
  have hK2 := hK.fr hf (fun j => by unfold s87; omega)
  unfold Mod_findPlates_18_b
  by_cases hg0 : g = 0
  · subst hg0
    rw [if_pos (by decide), wp_mr]
    refine wp_mono (rank_eq hR2 hK2 hB1 hm (hs1 rfl)) (fun _ d' ⟨k1, k2, k3⟩ => ?_)
    exact ⟨frc_t (frc_w hf fun _ _ h q => h (Or.inl q)) k1, B1, k2, hm1, k3⟩
  · rw [if_neg (nI_nle (by omega) (by omega))]
    unfold Mod_findPlates_24
    refine wp_lo (fun k c dd => ∃ i, i + k = sm + g ∧ g ≤ i ∧ c = nI i ∧ frc s87 d dd ∧ ∃ B', BMl wn sm B' dd ∧ (∀ x, memA sm B' x ↔ memA sm B x) ∧ (g = 1 → i ≤ sm → srtK κ B' i) ∧ (g = 1 → sm ≤ i → srtK κ B' sm)) ?_ (m := sm) ⟨g, by omega, by omega, rfl, hf, B1, hB1, hm1, fun g1 _ a b hab hb => by omega, fun g1 hm2 a b hab hb => by omega⟩
    intro k c d1 ⟨i, e1, hgi, e2, hf1, B2, hB2, hm2, hs2, hs3⟩
    subst e2
    have hR3 := MRf_fr hR hf1
    have hK3 := hK.fr hf1 (fun j => by unfold s87; omega)
    have r87 : d1.2.2 65 39 = 87 := hR3.2.2.2.2.2.2.2.2.2.2.2.2.2.2.2.2.2.2.2.2.2.1
    unfold Mod_findPlates_24_b
    simp only [wp_mb, wp_gI, zk, true_and, hB2.1]
    by_cases hx : sm ≤ i
    · rw [if_pos (nI_le hx (by omega))]
      simp only [wp_mr, wp_ml, wp_mp]
      refine ⟨g / 3, by omega, ?_, by omega, hf1, B2, hB2, hm2, fun hh => hs3 (by omega) hx⟩
      rw [show (3 : Int32) = nI 3 from rfl, pk_div (by omega) (by omega) (by omega)]
    · rw [if_neg (nI_ge (by omega) (by omega))]
      have b1 := (hB2.2.2 i (by omega)).1
      simp only [wp_mb, wp_gR, wp_aI, zk, zl, true_and, r87, nI_clamp (show i < 2 ^ 31 by omega), b1]
      refine ⟨ib_nI (by omega) (by omega), ?_⟩
      refine wp_mono (ins_eq hR3 hK3 hB2 (show i < sm by omega) (by omega) (by omega)) (fun z d' ⟨k1, k2, B3, k3, k4, k5, k6⟩ => ?_)
      subst k1
      refine ⟨k - 1, by omega, i + 1, by omega, by omega, rfl, frc_t hf1 k2, B3, k3, fun x => (k4 x).trans (hm2 x), fun g1 hi => k5 g1 (hs2 g1 (by omega)), fun g1 hi => ?_⟩
      have : sm = i + 1 := by omega
      rw [this]
      exact k5 g1 (hs2 g1 (by omega))
end
