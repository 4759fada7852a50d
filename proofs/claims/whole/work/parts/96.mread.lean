/-! ===== pure: texts read, rules and steps come, by the reference ===== -/
theorem nx_41 {sp : Bool} {q o q' : Nat} (h : nx sp q o 41 = some q') : 0 < o := by
  rcases Nat.eq_zero_or_pos o with h0 | h0
  · subst h0
    exfalso
    by_cases hq : q ≤ 12
    · have hqq : q = 0 ∨ q = 1 ∨ q = 2 ∨ q = 3 ∨ q = 4 ∨ q = 5 ∨ q = 6 ∨ q = 7 ∨ q = 8 ∨ q = 9 ∨ q = 10 ∨ q = 11 ∨ q = 12 := by omega
      rcases hqq with rfl | rfl | rfl | rfl | rfl | rfl | rfl | rfl | rfl | rfl | rfl | rfl | rfl <;> simp [nx, nxC, isL, isD, isM] at h
    · unfold nx at h
      rw [if_neg (by omega), if_neg (by omega), if_neg (by omega), if_neg (by omega), if_neg (by omega), if_neg (by omega), if_neg (by omega), if_neg (by omega), if_neg (by omega), if_neg (by omega), if_neg (by omega), if_neg (by omega)] at h
      simp [isD] at h
  · exact h0
def sRd (x j : Nat) : Prop := x = 65 ∧ (j = 17 ∨ j = 18)
theorem fP_Rd {d d' : Dm} (h : frc sRd d d') : frc sPl d d' := fP_w h fun x j hx => by unfold sRd at hx; unfold crM; omega
section
variable {r n ns A : Nat} {ac : Nat → Ac} {f : Pl} {ev : Nat → Pl → Bool} {sv : Nat → Pl → Pl} {t : Nat → Nat} {pn : Nat} {bc fc : Int32} {fd : Nat} {d : Dm} {sp : Bool}
theorem MJ.Rd {d' : Dm} (h : MJ r n ac f ev sv ns A t pn bc fc fd d) (hf : frc sRd d d') : MJ r n ac f ev sv ns A t pn bc fc fd d' := by
  refine h.P (fP_Rd hf) ⟨h.1.1.fr hf (fun x j hx q => by unfold crM at hx; unfold sRd at q; omega), ?_⟩
  rcases h.1.2 with h0 | ⟨h1, wa, wn, hT⟩
  · exact Or.inl ((hf.i (by unfold sRd; omega)).trans h0)
  · exact Or.inr ⟨(hf.i (by unfold sRd; omega)).trans h1, wa, wn, hT.fr hf (fun x j hx q => by unfold tbM at hx; unfold sRd at q; omega)⟩
def RTp (sp : Bool) (t : Nat → Nat) (pn : Nat) (d d' : Dm) : Prop := frc sRd d d' ∧ ∃ k, d'.1 65 17 = nI k ∧ GD sp t pn k ∧ ((d'.1 65 18 = 1 ∧ WH sp t pn) ∨ (d'.1 65 18 = 0 ∧ ¬ WH sp t pn))
theorem rt_103 (hg : Mg t pn d) {q o k : Nat} (hq : qs sp t k = some (q, o)) (hG : GD sp t pn k) : wp (Mod_readText_103 65 (bI sp) (nI q) (nI o) (nI k)) d (fun _ d' => RTp sp t pn d d') := by
  have hpn := hg.1
  obtain ⟨g1, g2, g3⟩ := hG
  obtain ⟨q1, q2⟩ := qs_le hq
  have e4 : ∀ v, u2 d.1 65 17 v 65 4 = nI pn := fun v => (u2_k _ _ _ (by omega) _).trans hg.2.1
  unfold Mod_readText_103
  simp only [wp_mb, wp_pI, wp_gI, zk, true_and, e4]
  have fin : ∀ b : Bool, (b = true ↔ WH sp t pn) → wp (Mod_readText_156 65 (bI b)) (u2 d.1 65 17 (nI k), d.2) (fun _ d' => RTp sp t pn d d') := by
    intro b hb
    unfold Mod_readText_156
    simp only [wp_mb, wp_pZ, wp_mp, zk, true_and]
    refine ⟨by cases b <;> simp [bI], frc_I (fr_uI d 65 17 _ ⟨rfl, Or.inl rfl⟩) 65 18 _ ⟨rfl, Or.inr rfl⟩, k, ?_, ⟨g1, g2, g3⟩, ?_⟩
    · exact (u2_k (u2 d.1 65 17 (nI k)) 65 65 (show (17 : Nat) ≠ 18 by omega) (bI b)).trans (u2_s d.1 65 17 (nI k))
    · have e18 : u2 (u2 d.1 65 17 (nI k)) 65 18 (bI b) 65 18 = bI b := u2_s _ _ _ _
      dsimp only
      rw [e18]
      cases b with
      | true => exact Or.inl ⟨rfl, hb.mp rfl⟩
      | false => exact Or.inr ⟨rfl, fun w => by cases hb.mpr w⟩
  have no : ¬ WH sp t pn → wp (Mod_readText_155 65) (u2 d.1 65 17 (nI k), d.2) (fun _ d' => RTp sp t pn d d') := fun hw => fin false ⟨(fun q => by cases q), fun q => absurd q hw⟩
  have yes : WH sp t pn → wp (Mod_readText_151 65) (u2 d.1 65 17 (nI k), d.2) (fun _ d' => RTp sp t pn d d') := fun hw => fin true ⟨fun _ => hw, fun _ => rfl⟩
  refine wp_if (fun h1 => wp_if (fun h0 => ?_) (fun h0 => ?_)) (fun h1 => ?_)
  · have hk : k = pn := (nI_eq (by omega) (by omega)).mp h1
    have ho : o = 0 := (nI_eq (b := 0) (by omega) (by omega)).mp h0
    subst hk; subst ho
    have hW : ∀ {p : Prop}, (p ↔ (if sp then (q = 11 ∨ q = 12) else (5 ≤ q ∧ q ≤ 7))) → (p → WH sp t k) ∧ (¬ p → ¬ WH sp t k) := fun {p} hp => by
      refine ⟨fun x => ⟨q, hq, hp.mp x⟩, fun x ⟨q', w1, w2⟩ => ?_⟩
      rw [hq] at w1
      cases w1
      exact x (hp.mpr w2)
    cases sp with
    | false =>
      rw [if_pos (by decide), wp_mb, wp_eq (Mod_in_eq _ _ _ _)]
      have hi := hW (p := (5 : Int32) ≤ nI q ∧ nI q ≤ 7) (by rw [if_neg (by decide)]; exact in_c (lo := 5) (hi := 7) (by omega) (by omega) (by omega))
      by_cases hx : (5 : Int32) ≤ nI q ∧ nI q ≤ 7
      · rw [if_pos hx, if_neg (by decide)]; exact yes (hi.1 hx)
      · rw [if_neg hx, if_pos rfl]; exact no (hi.2 hx)
    | true =>
      rw [if_neg (by decide), wp_mb, wp_eq (Mod_in_eq _ _ _ _)]
      have hi := hW (p := (11 : Int32) ≤ nI q ∧ nI q ≤ 12) (by
        rw [if_pos rfl]
        have := in_c (x := q) (lo := 11) (hi := 12) (by omega) (by omega) (by omega)
        exact this.trans (by omega))
      by_cases hx : (11 : Int32) ≤ nI q ∧ nI q ≤ 12
      · rw [if_pos hx, if_neg (by decide)]; exact yes (hi.1 hx)
      · rw [if_neg hx, if_pos rfl]; exact no (hi.2 hx)
  · have hk : k = pn := (nI_eq (by omega) (by omega)).mp h1
    subst hk
    refine no (fun ⟨q', w1, w2⟩ => ?_)
    rw [hq] at w1
    cases w1
    exact h0 rfl
  · have hk : k ≠ pn := fun e => h1 (by rw [e])
    refine no (fun ⟨q', w1, w2⟩ => ?_)
    rcases g3 with g3 | g3
    · exact hk g3
    · have := qs_up g3 (pn - (k + 1))
      rw [show k + 1 + (pn - (k + 1)) = pn by omega, w1] at this
      cases this
theorem readTextM (hR : MRf d.2.2) (hg : Mg t pn d) : wp (Mod_readText 65 (bI sp)) d (fun _ d' => RTp sp t pn d d') := by
  have hpn := hg.1
  have r69 : d.2.2 65 5 = 69 := hR.2.2.2.1
  unfold Mod_readText
  simp only [wp_ml]
  unfold Mod_readText_10
  refine wp_up (fun m s dd => dd = d ∧ ∃ q o k, k ≤ pn ∧ qs sp t k = some (q, o) ∧ ((m = k ∧ s = (nI q, nI o, nI k, 1)) ∨ (m = k + 1 ∧ k < pn ∧ qs sp t (k + 1) = none ∧ s = (nI q, nI o, nI k, 0)))) (pn + 1) ?_ (i := 0) (by omega) ⟨rfl, 0, 0, 0, by omega, rfl, Or.inl ⟨rfl, rfl⟩⟩
  intro m s dd hm ⟨e1, q, o, k, hk, hq, hs⟩
  subst e1
  obtain ⟨q1, q2⟩ := qs_le hq
  unfold Mod_readText_10_b
  have hend : GD sp t pn k → ∀ m : Nat, wp (mr (α := Int32 × Int32 × Int32 × Int32) (Mod_readText_103 65 (bI sp) (nI q) (nI o) (nI k))) dd (fun r' d' => match r' with
      | .inl a' => m < pn + 1 ∧ d' = dd ∧ ∃ q o k, k ≤ pn ∧ qs sp t k = some (q, o) ∧ ((m + 1 = k ∧ a' = (nI q, nI o, nI k, 1)) ∨ (m + 1 = k + 1 ∧ k < pn ∧ qs sp t (k + 1) = none ∧ a' = (nI q, nI o, nI k, 0)))
      | .inr _ => RTp sp t pn dd d') := fun hG m => by
    rw [wp_mr]
    exact rt_103 hg hq hG
  rcases hs with ⟨hmk, hs⟩ | ⟨hmk, hkp, hno, hs⟩
  · subst hmk; subst hs
    dsimp only
    simp only [wp_mb, wp_gI, zk, true_and, hg.2.1]
    by_cases hx : m = pn
    · rw [if_pos (nI_le (by omega) (by omega))]
      exact wp_mono (hend ⟨hk, ⟨_, hq⟩, Or.inl hx⟩ m) (fun r' d' h => by cases r' <;> exact h)
    · have hmp : m < pn := by omega
      obtain ⟨t1, t2⟩ := hg.2.2 m hmp
      rw [if_neg (nI_ge (by omega) (by omega)), if_neg (by decide)]
      simp only [wp_mb, wp_gR, wp_aI, wp_vc, zk, zl, true_and, r69, nI_clamp (show m < 2 ^ 31 by omega), t1, wp_eq (nextM (sp := sp) (d := dd) t2 (show o ≤ 60 by omega) q1)]
      refine ⟨ib_nI (by omega) (by omega), ?_⟩
      unfold Mod_readText_51
      cases hn : nx sp q o (t m) with
      | none =>
        rw [if_pos (show ltI none = (-1 : Int32) from rfl), if_pos rfl]
        unfold Mod_readText_100
        rw [wp_mp]
        exact ⟨by omega, rfl, q, o, m, by omega, hq, Or.inr ⟨rfl, hmp, qs_none hq hn, rfl⟩⟩
      | some q' =>
        have hq' := qs_some hq hn
        obtain ⟨q1', q2'⟩ := qs_le hq'
        have hne : ¬ ltI (some q') = (-1 : Int32) := by
          show ¬ nI q' = (-1 : Int32)
          intro h
          have : (0 : Int32) ≤ nI q' := nI_pos' (by omega)
          rw [h] at this
          exact absurd this (by decide)
        rw [if_neg hne, if_neg (by decide)]
        simp only [wp_mb, wp_gR, wp_aI, zk, zl, true_and, r69, nI_clamp (show m < 2 ^ 31 by omega), t1]
        refine ⟨ib_nI (by omega) (by omega), ?_⟩
        have fin : ∀ u : Int32, nI o + u = nI (nxO o (t m)) → wp (Mod_readText_92 65 (bI sp) (nI m) (1 : Int32) (ltI (some q')) (nI o) u) dd (fun r' d' => match r' with
            | .inl a' => m < pn + 1 ∧ d' = dd ∧ ∃ q o k, k ≤ pn ∧ qs sp t k = some (q, o) ∧ ((m + 1 = k ∧ a' = (nI q, nI o, nI k, 1)) ∨ (m + 1 = k + 1 ∧ k < pn ∧ qs sp t (k + 1) = none ∧ a' = (nI q, nI o, nI k, 0)))
            | .inr _ => RTp sp t pn dd d') := by
          intro u hu
          unfold Mod_readText_92 Mod_readText_100
          simp only [wp_ml, wp_mp, nI_1, hu]
          exact ⟨by omega, trivial, q', nxO o (t m), m + 1, by omega, hq', Or.inl ⟨rfl, rfl⟩⟩
        refine wp_if (fun h40 => ?_) (fun h40 => ?_)
        · have e40 : t m = 40 := (nI_c (n := 40) t2 (by omega)).mp h40
          exact wp_mono (fin 1 (by unfold nxO; rw [if_pos e40, nI_1])) (fun r' d' h => by cases r' <;> exact h)
        · have e40 : ¬ t m = 40 := fun k => h40 (by rw [k]; rfl)
          simp only [wp_mb, wp_gR, wp_aI, zk, zl, true_and, r69, nI_clamp (show m < 2 ^ 31 by omega), t1]
          refine ⟨ib_nI (by omega) (by omega), wp_mono (fin _ ?_) (fun r' d' h => by cases r' <;> exact h)⟩
          unfold nxO
          rw [if_neg e40]
          by_cases e41 : t m = 41
          · rw [e41] at hn
            have ho := nx_41 hn
            rw [if_pos e41, if_pos (show nI (t m) = (41 : Int32) by rw [e41]; rfl)]
            rw [show nI o + (-1 : Int32) = nI o - nI 1 by rw [Int32.sub_eq_add_neg]; rfl, pk_sub (by omega)]
          · rw [if_neg e41, if_neg (show ¬ nI (t m) = (41 : Int32) from fun k => e41 ((nI_c (n := 41) t2 (by omega)).mp k))]
            exact nI_add o 0
  · subst hs
    dsimp only
    simp only [wp_mb, wp_gI, zk, true_and, hg.2.1]
    have hG : GD sp t pn k := ⟨hk, ⟨_, hq⟩, Or.inr hno⟩
    refine wp_if (fun _ => ?_) (fun _ => ?_)
    · exact wp_mono (hend hG m) (fun r' d' h => by cases r' <;> exact h)
    · rw [if_pos trivial]
      exact wp_mono (hend hG m) (fun r' d' h => by cases r' <;> exact h)
theorem goodM (h : MJ r n ac f ev sv ns A t pn bc fc fd d) (x : Int32) : wp (Mod_good 65 x) d (fun z d' => (¬ (x = 0 ∨ x = 1) ∧ z = -102 ∧ d' = d) ∨ ((x = 0 ∨ x = 1) ∧ (∃ k, z = nI k ∧ GD (decide (x = 1)) t pn k) ∧ frc s65 d d' ∧ MJ r n ac f ev sv ns A t pn bc fc fd d')) := by
  unfold Mod_good
  simp only [wp_mb, wp_eq (Mod_in_eq _ _ _ _), in01]
  by_cases hx : x = 0 ∨ x = 1
  · rw [if_pos hx, if_neg (by decide)]
    have e : x = bI (decide (x = 1)) := by rcases hx with rfl | rfl <;> rfl
    simp only [wp_mb, wp_vc, zk, true_and]
    have := readTextM (sp := decide (x = 1)) h.1.1.1 h.2.1
    rw [← e] at this
    refine wp_mono this (fun _ d' ⟨a1, k, a2, a3, a4⟩ => ?_)
    simp only [wp_mb, wp_gI, wp_mp, zk, true_and]
    exact Or.inr ⟨hx, ⟨k, a2, a3⟩, f65_P (fP_Rd a1), h.Rd a1⟩
  · rw [if_neg hx, if_pos rfl, wp_mp]
    exact Or.inl ⟨hx, rfl, rfl⟩
end
