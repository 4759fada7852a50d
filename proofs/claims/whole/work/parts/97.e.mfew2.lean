/-! ===== pure: the reference searches the placements ===== -/
def Bt (k m : Nat → Nat) (o : Option Nat) (c : Nat) : Prop := match o with
  | none => True
  | some b => k c < k b ∨ (k c = k b ∧ m c < m b)
theorem fw_suc {S : Nat → Prop} {k m : Nat → Nat} (c : Nat) : fw S k m (c + 1) = cif (Bt k m (fw S k m c) c ∧ S c) (some c) (fw S k m c) := by
  show (match fw S k m c with
    | none => cif (S c) (some c) none
    | some b => cif ((k c < k b ∨ (k c = k b ∧ m c < m b)) ∧ S c) (some c) (some b)) = _
  cases fw S k m c with
  | none =>
    by_cases hS : S c
    · rw [cif_pos (show Bt k m none c ∧ S c from ⟨trivial, hS⟩)]; exact cif_pos hS
    · rw [cif_neg (show ¬ (Bt k m none c ∧ S c) from fun q => hS q.2)]; exact cif_neg hS
  | some b => rfl
section
variable {r n ns A : Nat} {ac : Nat → Ac} {f : Pl} {ev : Nat → Pl → Bool} {sv : Nat → Pl → Pl} {t : Nat → Nat} {pn : Nat} {b e fd : Nat} {d : Dm} {wa : Nat → Nat} {wn : Nat}
def FJ (r n : Nat) (ac : Nat → Ac) (f : Pl) (ev : Nat → Pl → Bool) (sv : Nat → Pl → Pl) (ns A : Nat) (b e fd : Nat) (wa : Nat → Nat) (wn : Nat) (d d' : Dm) : Prop := frc sPl d d' ∧ MCo r n ac f ev sv ns A d' ∧ d'.1 65 27 = 1 ∧ LT r n ac f ev sv ns wa wn d' ∧ MK (nI b) (nI e) fd d'
theorem FJ.to {d1 d2 : Dm} {S : Nat → Nat → Prop} (h : FJ r n ac f ev sv ns A b e fd wa wn d d1) (hf : frc S d1 d2) (hS : ∀ x j, S x j → 65 ≤ x ∧ ¬ crM x j ∧ ¬ tbM x j) : FJ r n ac f ev sv ns A b e fd wa wn d d2 := by
  have hP : frc sPl d1 d2 := fP_w hf fun x j q => ⟨(hS x j q).1, (hS x j q).2.1⟩
  refine ⟨frc_t h.1 hP, h.2.1.fr hf (fun x j hx q => (hS x j q).2.1 hx), ?_, h.2.2.2.1.fr hf (fun x j hx q => (hS x j q).2.2 hx), h.2.2.2.2.fr hP (fun j a c => ns_P (by unfold crM; omega))⟩
  exact (hf.i (fun q => (hS 65 27 q).2.2 (by unfold tbM; omega))).trans h.2.2.1
theorem FJ.p85 {d1 d2 : Dm} (h : FJ r n ac f ev sv ns A b e fd wa wn d d1) (hf : frc (fun x _ => x = 85) d1 d2) : FJ r n ac f ev sv ns A b e fd wa wn d d2 := h.to hf fun x j q => by unfold crM tbM; omega
theorem FJ.Fs {d1 d2 : Dm} (h : FJ r n ac f ev sv ns A b e fd wa wn d d1) (hf : frc sFs d1 d2) : FJ r n ac f ev sv ns A b e fd wa wn d d2 := h.to hf fun x j q => ⟨by unfold sFs sSt sEp at q; omega, fun w => crM_Fs w q, fun w => tbM_Fs w q⟩
/-- a round's answer -/
def FQ (r n : Nat) (ac : Nat → Ac) (f : Pl) (ev : Nat → Pl → Bool) (sv : Nat → Pl → Pl) (ns A : Nat) (b e fd : Nat) (wa : Nat → Nat) (wn : Nat) (d : Dm) (c : Nat) (z : (Int32 × Int32 × Int32 × Int32) ⊕ Int32) (d' : Dm) : Prop := FJ r n ac f ev sv ns A b e fd wa wn d d' ∧ ∃ x y w, z = .inl (x, y, w, nI (c + 1)) ∧ BRm (kN (n - 1) b e) (mN (n - 1)) (fw (fun c => SafeG ac (vdS ac f n ev r sv ns) A (wm ac n) (pd (n - 1) c) n) (kN (n - 1) b e) (mN (n - 1)) (c + 1)) x y w
theorem few224 {d1 : Dm} (h : FJ r n ac f ev sv ns A b e fd wa wn d d1) {c : Nat} (hc : c < 2187) {x v2 v3 v4 v5 : Int32} (hB : BRm (kN (n - 1) b e) (mN (n - 1)) (fw (fun c => SafeG ac (vdS ac f n ev r sv ns) A (wm ac n) (pd (n - 1) c) n) (kN (n - 1) b e) (mN (n - 1)) c) v3 v4 v5) (hp : ∀ i, i < 12 → d1.1 85 i = nI (pd (n - 1) c i)) {u : Bool} (hu : u = true ↔ Bt (kN (n - 1) b e) (mN (n - 1)) (fw (fun c => SafeG ac (vdS ac f n ev r sv ns) A (wm ac n) (pd (n - 1) c) n) (kN (n - 1) b e) (mN (n - 1)) c) c) : wp (Mod_fewest_224 65 x v2 v3 v4 v5 (nI c) (nI (kN (n - 1) b e c)) (nI (mN (n - 1) c)) (bI u)) d1 (FQ r n ac f ev sv ns A b e fd wa wn d c) := by
  unfold Mod_fewest_224
  have no : ∀ d2, FJ r n ac f ev sv ns A b e fd wa wn d d2 → ¬ (Bt (kN (n - 1) b e) (mN (n - 1)) (fw (fun c => SafeG ac (vdS ac f n ev r sv ns) A (wm ac n) (pd (n - 1) c) n) (kN (n - 1) b e) (mN (n - 1)) c) c ∧ SafeG ac (vdS ac f n ev r sv ns) A (wm ac n) (pd (n - 1) c) n) → wp (Mod_fewest_250 65 x v2 v3 v4 v5 (nI c)) d2 (FQ r n ac f ev sv ns A b e fd wa wn d c) := by
    intro d2 h2 hn
    unfold Mod_fewest_250
    simp only [wp_ml, wp_mp, nI_1]
    refine ⟨h2, v3, v4, v5, rfl, ?_⟩
    rw [fw_suc, cif_neg hn]
    exact hB
  cases u with
  | false =>
    rw [if_pos (by decide)]
    exact no d1 h (fun q => by cases hu.mpr q.1)
  | true =>
    rw [if_neg (by decide)]
    simp only [wp_mb, wp_vc, zk, true_and]
    refine wp_mono (isSafeM h.2.1 h.2.2.2.1 (W := wm ac n) (ab := 0) (pt := pd (n - 1) c) (fun i hi => by rw [wm_bit]; simp [hi]) (by omega) (fun i _ hh => by simp at hh) (fun i hi => ⟨hp i hi, pd_le _ _ _⟩)) (fun z d2 ⟨a1, a2⟩ => ?_)
    have h2 := h.Fs a1
    rcases a2 with ⟨z1, hs⟩ | ⟨z0, hs⟩
    · rw [if_neg (show ¬ z = 0 by rw [z1]; decide)]
      unfold Mod_fewest_250
      simp only [wp_ml, wp_mp, nI_1]
      refine ⟨h2, nI c, nI (kN (n - 1) b e c), nI (mN (n - 1) c), rfl, ?_⟩
      rw [fw_suc, cif_pos ⟨hu.mp rfl, hs⟩]
      exact ⟨rfl, rfl, rfl⟩
    · rw [if_pos z0]
      exact no d2 h2 (fun q => hs q.2)
theorem few114 {d1 : Dm} (h : FJ r n ac f ev sv ns A b e fd wa wn d d1) (hn : n ≤ 8) (hb : b ≤ 9) (he : e ≤ 99) {c : Nat} (hc : c < 2187) {x v2 v3 v4 v5 : Int32} (hB : BRm (kN (n - 1) b e) (mN (n - 1)) (fw (fun c => SafeG ac (vdS ac f n ev r sv ns) A (wm ac n) (pd (n - 1) c) n) (kN (n - 1) b e) (mN (n - 1)) c) v3 v4 v5) (hp : ∀ i, i < 12 → d1.1 85 i = nI (pd (n - 1) c i)) : wp (Mod_fewest_114 65 x v2 v3 v4 v5 (nI c) (0, 0, 0)) d1 (FQ r n ac f ev sv ns A b e fd wa wn d c) := by
  have h1 := h.2.1.2.1.2.1
  have r85 : d1.2.2 65 35 = 85 := h.2.1.1.2.2.2.2.2.2.2.2.2.2.2.2.2.2.2.2.2.2.2.1
  unfold Mod_fewest_114
  refine wp_up (fun i s dd => s = (nI (b * p1 (n - 1) c i + e * p2 (n - 1) c i), nI (p1 (n - 1) c i + p2 (n - 1) c i), nI i) ∧ dd = d1) (n - 1) ?_ (i := 0) (by omega) ⟨rfl, rfl⟩
  intro i s dd hi ⟨e1, e2⟩
  subst e1; subst e2
  unfold Mod_fewest_114_b
  dsimp only
  simp only [wp_mb, wp_gI, zk, true_and, h1]
  by_cases hx : i = n - 1
  · rw [if_pos ((pred_le (by omega) (by omega)).mpr (by omega)), wp_mr, hx]
    have hkc := kN_le (c := c) (show n - 1 ≤ 7 by omega) hb he
    have hmc : mN (n - 1) c ≤ 7 := by have := p1_le (n - 1) c (n - 1); unfold mN; omega
    have go : ∀ u : Bool, (u = true ↔ Bt (kN (n - 1) b e) (mN (n - 1)) (fw (fun c => SafeG ac (vdS ac f n ev r sv ns) A (wm ac n) (pd (n - 1) c) n) (kN (n - 1) b e) (mN (n - 1)) c) c) → wp (Mod_fewest_224 65 x v2 v3 v4 v5 (nI c) (nI (kN (n - 1) b e c)) (nI (mN (n - 1) c)) (bI u)) dd (FQ r n ac f ev sv ns A b e fd wa wn d c) := fun u hu => few224 h hc hB hp hu
    cases hfw : fw (fun c => SafeG ac (vdS ac f n ev r sv ns) A (wm ac n) (pd (n - 1) c) n) (kN (n - 1) b e) (mN (n - 1)) c with
    | none =>
      rw [hfw] at hB go
      have e3 : v3 = -1 := hB
      rw [if_pos e3]
      exact go true ⟨fun _ => trivial, fun _ => rfl⟩
    | some q =>
      have hq := fw_lt hfw
      rw [hfw] at hB go
      obtain ⟨g1, g2, g3⟩ := hB
      have hkq := kN_le (c := q) (show n - 1 ≤ 7 by omega) hb he
      have hmq : mN (n - 1) q ≤ 7 := by have := p1_le (n - 1) q (n - 1); unfold mN; omega
      have hne : ¬ v3 = -1 := fun w => by
        have : (0 : Int32) ≤ nI q := nI_pos' (by omega)
        rw [← g1, w] at this
        exact absurd this (by decide)
      rw [if_neg hne]
      have l1 : nI (kN (n - 1) b e c) < v4 ↔ kN (n - 1) b e c < kN (n - 1) b e q := by rw [g2]; exact nI_ltI (by omega) (by omega)
      have l2 : nI (kN (n - 1) b e c) = v4 ↔ kN (n - 1) b e c = kN (n - 1) b e q := by rw [g2]; exact nI_eq (by omega) (by omega)
      have l3 : v5 ≤ nI (mN (n - 1) c) ↔ mN (n - 1) q ≤ mN (n - 1) c := by rw [g3]; exact nI_leI (by omega) (by omega)
      refine wp_if (fun w1 => ?_) (fun w1 => wp_if (fun w2 => wp_if (fun w3 => ?_) (fun w3 => ?_)) (fun w2 => ?_))
      · exact go true ⟨fun _ => Or.inl (l1.mp w1), fun _ => rfl⟩
      · refine go false ⟨(fun w => by cases w), fun w => ?_⟩
        rcases w with w | w
        · exact absurd (l1.mpr w) w1
        · have := l3.mp w3; omega
      · refine go true ⟨fun _ => Or.inr ⟨l2.mp w2, ?_⟩, fun _ => rfl⟩
        exact Classical.byContradiction fun w => w3 (l3.mpr (by omega))
      · refine go false ⟨(fun w => by cases w), fun w => ?_⟩
        rcases w with w | w
        · exact absurd (l1.mpr w) w1
        · exact absurd (l2.mpr w.1) w2
  · rw [if_neg (fun q => hx (by have := (pred_le (n := n) (i := i) (by omega) (by omega)).mp q; omega))]
    have hl := pd_le (n - 1) c i
    have s1 : p1 (n - 1) c (i + 1) = p1 (n - 1) c i + (if pd (n - 1) c i = 1 then 1 else 0) := by
      unfold p1; rw [fb_ct_succ]; by_cases h : pd (n - 1) c i = 1 <;> simp [h]
    have s2 : p2 (n - 1) c (i + 1) = p2 (n - 1) c i + (if pd (n - 1) c i = 2 then 1 else 0) := by
      unfold p2; rw [fb_ct_succ]; by_cases h : pd (n - 1) c i = 2 <;> simp [h]
    have p85 := hp i (by omega)
    have fin : ∀ q : Nat, b * p1 (n - 1) c i + e * p2 (n - 1) c i + q = b * p1 (n - 1) c (i + 1) + e * p2 (n - 1) c (i + 1) → wp (Mod_fewest_164 65 x v2 v3 v4 v5 (nI c) (nI (p1 (n - 1) c i + p2 (n - 1) c i)) (nI i) (nI (b * p1 (n - 1) c i + e * p2 (n - 1) c i)) (nI q)) dd (fun z d' => match z with
        | .inl a' => i < n - 1 ∧ a' = (nI (b * p1 (n - 1) c (i + 1) + e * p2 (n - 1) c (i + 1)), nI (p1 (n - 1) c (i + 1) + p2 (n - 1) c (i + 1)), nI (i + 1)) ∧ d' = dd
        | .inr z => FQ r n ac f ev sv ns A b e fd wa wn d c z d') := by
      intro q hq
      unfold Mod_fewest_164 Mod_fewest_184
      simp only [wp_ml, wp_mb, wp_gR, wp_aI, wp_mp, zk, zl, true_and, r85, nI_clamp (show i < 2 ^ 31 by omega), p85, nI_add, nI_1, hq]
      refine ⟨ib_nI (by omega) (by omega), by omega, ?_, trivial⟩
      have e5 : nI (p1 (n - 1) c i + p2 (n - 1) c i) + (if nI (pd (n - 1) c i) ≤ 0 then (0 : Int32) else 1) = nI (p1 (n - 1) c (i + 1) + p2 (n - 1) c (i + 1)) := by
        rw [s1, s2]
        rcases (show pd (n - 1) c i = 0 ∨ pd (n - 1) c i = 1 ∨ pd (n - 1) c i = 2 by omega) with w | w | w <;> rw [w]
        · rw [if_pos (by decide)]; exact nI_add _ 0
        · rw [if_neg (by decide), nI_1]; congr 1; simp; omega
        · rw [if_neg (by decide), nI_1]; congr 1
      rw [e5]
    simp only [wp_mb, wp_gR, wp_aI, zk, zl, true_and, r85, nI_clamp (show i < 2 ^ 31 by omega), p85]
    refine ⟨ib_nI (by omega) (by omega), ?_⟩
    rcases (show pd (n - 1) c i = 0 ∨ pd (n - 1) c i = 1 ∨ pd (n - 1) c i = 2 by omega) with w | w | w
    · rw [w, if_neg (by decide)]
      simp only [wp_mb, wp_gR, wp_aI, zk, zl, true_and, r85, nI_clamp (show i < 2 ^ 31 by omega), p85]
      refine ⟨ib_nI (by omega) (by omega), ?_⟩
      rw [w, if_neg (by decide)]
      exact wp_mono (fin 0 (by rw [s1, s2, w]; simp)) (fun z d' hh => by cases z <;> exact hh)
    · rw [w, if_pos (show nI 1 = (1 : Int32) from rfl)]
      simp only [wp_mb, wp_gI, zk, true_and, h.2.2.2.2.1]
      exact wp_mono (fin b (by rw [s1, s2, w, if_pos rfl, if_neg (by omega), Nat.mul_add, Nat.add_zero]; omega)) (fun z d' hh => by cases z <;> exact hh)
    · rw [w, if_neg (by decide)]
      simp only [wp_mb, wp_gR, wp_aI, zk, zl, true_and, r85, nI_clamp (show i < 2 ^ 31 by omega), p85]
      refine ⟨ib_nI (by omega) (by omega), ?_⟩
      rw [w, if_pos (show nI 2 = (2 : Int32) from rfl)]
      simp only [wp_mb, wp_gI, zk, true_and, h.2.2.2.2.2.1]
      exact wp_mono (fin e (by rw [s1, s2, w, if_neg (by omega), if_pos rfl, Nat.mul_add, Nat.mul_add]; omega)) (fun z d' hh => by cases z <;> exact hh)
end
