/-! ===== pure: fewest, by the class ===== -/
def BRc (k m : Nat → Nat) (P : Nat) (o : Option Nat) (d : Dm) : Prop := match o with
  | none => d.1 61 4 = -1 ∧ d.1 61 5 = -1
  | some b => d.1 61 4 = nI (k b) ∧ d.1 61 5 = nI (m b) ∧ ∀ i, i < 8 → d.1 64 i = nI (pd P b i)
def frP (d d' : Dm) : Prop := (∀ x, x ≠ 19 → x ≠ 34 → x ≠ 51 → x ≠ 61 → x ≠ 62 → x ≠ 63 → x ≠ 64 → d'.1 x = d.1 x) ∧ d'.2 = d.2
section
variable {r n ns st A : Nat} {ac : Nat → Ac} {f : Pl} {ev : Nat → Pl → Bool} {sv : Nat → Pl → Pl} {d : Dm} {b e : Nat}
theorem better_eq {k m : Nat → Nat} {P : Nat} {o : Option Nat} (hB : BRc k m P o d) {c : Nat} (hk : ∀ q, k q ≤ 1000) (hm : ∀ q, m q ≤ 7) : wp (Plac_isBetter 61 (nI (k c)) (nI (m c))) d (fun z d' => d' = d ∧ ((z = 1 ∧ Bt k m o c) ∨ (z = 0 ∧ ¬ Bt k m o c))) := by
  unfold Plac_isBetter
  cases o with
  | none =>
    simp only [wp_mb, wp_gI, zk, true_and, hB.1]
    rw [if_pos trivial, wp_mz]
    exact ⟨Or.inr rfl, rfl, Or.inl ⟨rfl, trivial⟩⟩
  | some q =>
    obtain ⟨g1, g2, g3⟩ := hB
    have k1 := hk q
    have k2 := hk c
    have m1 := hm q
    have m2 := hm c
    have hne : ¬ nI (k q) = (-1 : Int32) := fun w => by
      have : (0 : Int32) ≤ nI (k q) := nI_pos' (by omega)
      rw [w] at this
      exact absurd this (by decide)
    simp only [wp_mb, wp_gI, zk, true_and, g1]
    rw [if_neg hne]
    simp only [wp_mb, wp_gI, zk, true_and, g1]
    refine wp_if (fun w1 => ?_) (fun w1 => ?_)
    · rw [wp_mz]
      exact ⟨Or.inr rfl, rfl, Or.inl ⟨rfl, Or.inl ((nI_ltI (by omega) (by omega)).mp w1)⟩⟩
    · have w1' : ¬ k c < k q := fun w => w1 ((nI_ltI (by omega) (by omega)).mpr w)
      simp only [wp_mb, wp_gI, zk, true_and, g1]
      refine wp_if (fun w2 => ?_) (fun w2 => ?_)
      · have w2' : k c = k q := (nI_eq (by omega) (by omega)).mp w2
        simp only [wp_mb, wp_gI, zk, true_and, g2]
        refine wp_if (fun w3 => ?_) (fun w3 => ?_)
        · have w3' := (nI_leI (a := m q) (b := m c) (by omega) (by omega)).mp w3
          rw [wp_mz]
          exact ⟨Or.inl rfl, rfl, Or.inr ⟨rfl, fun w => w.elim w1' (fun w => by omega)⟩⟩
        · rw [wp_mz]
          refine ⟨Or.inr rfl, rfl, Or.inl ⟨rfl, Or.inr ⟨w2', ?_⟩⟩⟩
          exact Classical.byContradiction fun w => w3 ((nI_leI (by omega) (by omega)).mpr (by omega))
      · rw [wp_mz]
        exact ⟨Or.inl rfl, rfl, Or.inr ⟨rfl, fun w => w.elim w1' (fun w => w2 (by rw [w.1]))⟩⟩
theorem CX.P6 {d' : Dm} (h : CX r n ac f ev sv ns st A d) (h1 : ∀ x, x < 61 → d'.1 x = d.1 x) (h2 : d'.2 = d.2) : CX r n ac f ev sv ns st A d' := h.keep (fun x hx => h1 x (by omega)) h2
/-- the search under way -/
def SJ (r n : Nat) (ac : Nat → Ac) (f : Pl) (ev : Nat → Pl → Bool) (sv : Nat → Pl → Pl) (ns st A b e : Nat) (d : Dm) (c : Nat) (o : Option Nat) (d' : Dm) : Prop := ((∀ x, x ≠ 61 → x ≠ 63 → x ≠ 64 → d'.1 x = d.1 x) ∧ d'.2 = d.2) ∧ CX r n ac f ev sv ns st A d' ∧ WKp r n ac f ev sv ns (n + 1) d' ∧ d'.1 61 3 = nI (n - 1) ∧ (∀ i, i < 8 → d'.1 63 i = nI (pd (n - 1) c i)) ∧ BRc (kN (n - 1) b e) (mN (n - 1)) (n - 1) o d'
theorem search153 {d1 : Dm} {c : Nat} {o : Option Nat} (hJ : SJ r n ac f ev sv ns st A b e d c o d1) (hn : n ≤ 8) {u v w x y : Int32} : wp (Plac_search_153 61 3 u v w x (nI c)) d1 (fun z d2 => z = .inl (nI (c + 1)) ∧ SJ r n ac f ev sv ns st A b e d (c + 1) o d2) := by
  obtain ⟨⟨f1, f2⟩, hC, hW, h3, h63, hB⟩ := hJ
  unfold Plac_search_153
  simp only [wp_mb, wp_vc, zk, true_and]
  refine wp_mono (goOn_eq hC.1.1.2.2.2.2 (show n - 1 ≤ 7 by omega) h3 h63) (fun _ d2 ⟨⟨g1, g2⟩, g3⟩ => ?_)
  simp only [wp_ml, wp_mp, nI_1]
  refine ⟨trivial, ⟨fun x a b c => (g1 x b).trans (f1 x a b c), g2.trans f2⟩, hC.P6 (fun x hx => g1 x (by omega)) g2, fun a' k p q s => by rw [g1 62 (by omega)]; exact hW a' k p q s, by rw [g1 61 (by omega)]; exact h3, g3, ?_⟩
  cases o with
  | none => exact ⟨by rw [g1 61 (by omega)]; exact hB.1, by rw [g1 61 (by omega)]; exact hB.2⟩
  | some q => exact ⟨by rw [g1 61 (by omega)]; exact hB.1, by rw [g1 61 (by omega)]; exact hB.2.1, fun i hi => by rw [g1 64 (by omega)]; exact hB.2.2 i hi⟩
theorem search67 {d1 : Dm} (hJ : SJ r n ac f ev sv ns st A b e d 0 none d1) (hn : n ≤ 8) (hb : b ≤ 9) (he : e ≤ 99) : wp (Plac_search_67 61 3 (nI A) (nI b) (nI e) (nI (3 ^ (n - 1))) 0) d1 (fun _ d2 => SJ r n ac f ev sv ns st A b e d (3 ^ (n - 1)) (fwB r n ac f ev sv ns A b e (3 ^ (n - 1))) d2) := by
  have hT := p3 (show n - 1 ≤ 7 by omega)
  unfold Plac_search_67
  refine wp_up (fun c s dd => s = nI c ∧ SJ r n ac f ev sv ns st A b e d c (fwB r n ac f ev sv ns A b e c) dd) (3 ^ (n - 1)) ?_ (i := 0) (Nat.zero_le _) ⟨rfl, hJ⟩
  intro c s dd hc ⟨e1, hJ⟩
  subst e1
  unfold Plac_search_67_b
  by_cases hx : c = 3 ^ (n - 1)
  · rw [if_pos (nI_le (by omega) (by omega)), wp_mr, wp_mp]
    rw [← hx]; exact hJ
  · rw [if_neg (nI_ge (by omega) (by omega))]
    obtain ⟨⟨f1, f2⟩, hC, hW, h3, h63, hB⟩ := id hJ
    have hR : Rf dd.2.2 := hC.1.1.2.2.2.2
    have q1 := putOf_eq hR (show n - 1 ≤ 7 by omega) h3 h63 (v := 1) (by omega)
    have q2 := putOf_eq hR (show n - 1 ≤ 7 by omega) h3 h63 (v := 2) (by omega)
    have ek : nI (p1 (n - 1) c (n - 1)) * nI b + nI (p2 (n - 1) c (n - 1)) * nI e = nI (kN (n - 1) b e c) := by
      rw [pk_mul, pk_mul, nI_add]; unfold kN; rw [Nat.mul_comm b, Nat.mul_comm e]
    have em : nI (p1 (n - 1) c (n - 1)) + nI (p2 (n - 1) c (n - 1)) = nI (mN (n - 1) c) := by rw [nI_add]; rfl
    have q1' : Plac_putOf 61 1 dd = some (nI (p1 (n - 1) c (n - 1)), dd) := q1
    have q2' : Plac_putOf 61 2 dd = some (nI (p2 (n - 1) c (n - 1)), dd) := q2
    simp only [wp_mb, wp_vc, wp_ml, zk, true_and, wp_eq q1', wp_eq q2', ek, em]
    have hk : ∀ q, kN (n - 1) b e q ≤ 1000 := fun q => kN_le (show n - 1 ≤ 7 by omega) hb he
    have hm : ∀ q, mN (n - 1) q ≤ 7 := fun q => by have := p1_le (n - 1) q (n - 1); unfold mN; omega
    have no : ¬ (Bt (kN (n - 1) b e) (mN (n - 1)) (fwB r n ac f ev sv ns A b e c) c ∧ SafeG ac (vdS ac f n ev r sv ns) A (wm ac n) (pd (n - 1) c) n) → wp (Plac_search_153 61 3 (nI A) (nI b) (nI e) (nI (3 ^ (n - 1))) (nI c)) dd (fun z d' => match z with
        | .inl s => c < 3 ^ (n - 1) ∧ s = nI (c + 1) ∧ SJ r n ac f ev sv ns st A b e d (c + 1) (fwB r n ac f ev sv ns A b e (c + 1)) d'
        | .inr _ => SJ r n ac f ev sv ns st A b e d (3 ^ (n - 1)) (fwB r n ac f ev sv ns A b e (3 ^ (n - 1))) d') := by
      intro hno
      refine wp_mono (search153 hJ hn (y := 0)) (fun z d2 ⟨z1, z2⟩ => ?_)
      subst z1
      refine ⟨by omega, rfl, ?_⟩
      unfold fwB at z2 hno ⊢
      rw [fw_suc, cif_neg hno]
      exact z2
    refine wp_mono (better_eq hB hk hm (c := c)) (fun z d2 ⟨z1, z2⟩ => ?_)
    subst z1
    rcases z2 with ⟨z2, hbt⟩ | ⟨z2, hbt⟩
    · rw [if_neg (show ¬ z = 0 by rw [z2]; decide)]
      simp only [wp_mb, wp_vc, zk, true_and]
      refine wp_mono (csafe_eq hC hn hW (pt := pd (n - 1) c) (fun i hi => ⟨h63 i hi, pd_le _ _ _⟩) h3) (fun z d3 ⟨z3, z4⟩ => ?_)
      subst z3
      rcases z4 with ⟨z4, hs⟩ | ⟨z4, hs⟩
      · rw [if_neg (show ¬ z = 0 by rw [z4]; decide)]
        have c0 : (0 : Int32).toNatClampNeg = 0 := by decide
        have c8 : (8 : Int32).toNatClampNeg = 8 := by decide
        simp only [wp_mb, wp_pI, wp_gR, wp_ac, zk, zl, true_and, hR.1, c0, c8]
        refine ⟨⟨⟨by decide, by decide, by decide⟩, by omega, by omega, by omega⟩, ?_⟩
        generalize hD : ((cpF (u2 (u2 d3.1 61 4 (nI (kN (n - 1) b e c))) 61 5 (nI (mN (n - 1) c))) 63 64 0 0 8, d3.2) : Dm) = d4
        have k6 : ∀ x, x ≠ 61 → x ≠ 64 → d4.1 x = d3.1 x := fun x a b' => by
          rw [← hD]
          funext y
          show cpF (u2 (u2 d3.1 61 4 _) 61 5 _) 63 64 0 0 8 x y = _
          unfold cpF
          rw [if_neg (fun q => b' q.1), u2_a _ a, u2_a _ a]
        have k61 : ∀ y, y ≠ 4 → y ≠ 5 → d4.1 61 y = d3.1 61 y := fun y a b' => by
          rw [← hD]
          show cpF (u2 (u2 d3.1 61 4 _) 61 5 _) 63 64 0 0 8 61 y = _
          unfold cpF
          rw [if_neg (by omega), u2_k _ _ _ b', u2_k _ _ _ a]
        have k64 : ∀ y, y < 8 → d4.1 64 y = d3.1 63 y := fun y hy => by
          rw [← hD]
          show cpF (u2 (u2 d3.1 61 4 _) 61 5 _) 63 64 0 0 8 64 y = _
          unfold cpF
          rw [if_pos (by omega), u2_a _ (by omega), u2_a _ (by omega), Nat.zero_add, Nat.sub_zero]
        have hJ4 : SJ r n ac f ev sv ns st A b e d c (some c) d4 := by
          refine ⟨⟨fun x a b' c' => (k6 x a c').trans (f1 x a b' c'), by rw [← hD]; exact f2⟩, hC.P6 (fun x hx => k6 x (by omega) (by omega)) (by rw [← hD]), fun a' k p q s => by rw [k6 62 (by omega) (by omega)]; exact hW a' k p q s, by rw [k61 3 (by omega) (by omega)]; exact h3, fun i hi => by rw [k6 63 (by omega) (by omega)]; exact h63 i hi, ?_, ?_, fun i hi => by rw [k64 i hi]; exact h63 i hi⟩
          · rw [← hD]; rfl
          · rw [← hD]; rfl
        refine wp_mono (search153 hJ4 hn (y := 0)) (fun z d5 ⟨y1, y2⟩ => ?_)
        subst y1
        refine ⟨by omega, rfl, ?_⟩
        unfold fwB at hbt ⊢
        rw [fw_suc, cif_pos ⟨hbt, hs⟩]
        exact y2
      · rw [if_pos z4]
        exact wp_mono (no (fun q => hs q.2)) (fun z d' hh => by cases z <;> exact hh)
    · rw [if_pos z2]
      exact wp_mono (no (fun q => hbt q.1)) (fun z d' hh => by cases z <;> exact hh)
end
