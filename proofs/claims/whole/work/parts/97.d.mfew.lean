/-! ===== pure: the fewest barriers and flushes, by the reference ===== -/
def pd (P c i : Nat) : Nat := if i < P then c / 3 ^ (P - 1 - i) % 3 else 0
theorem pd_le (P c i : Nat) : pd P c i ≤ 2 := by
  unfold pd
  split
  · have := Nat.mod_lt (c / 3 ^ (P - 1 - i)) (show 0 < 3 by omega); omega
  · omega
def p1 (P c i : Nat) : Nat := fb_ct (fun i => decide (pd P c i = 1)) i
def p2 (P c i : Nat) : Nat := fb_ct (fun i => decide (pd P c i = 2)) i
def kN (P b e c : Nat) : Nat := b * p1 P c P + e * p2 P c P
def mN (P c : Nat) : Nat := p1 P c P + p2 P c P
noncomputable def cif {α : Type} (p : Prop) (x y : α) : α := @ite α p (Classical.propDecidable p) x y
theorem cif_pos {α : Type} {p : Prop} {x y : α} (h : p) : cif p x y = x := @if_pos p (Classical.propDecidable p) h α x y
theorem cif_neg {α : Type} {p : Prop} {x y : α} (h : ¬ p) : cif p x y = y := @if_neg p (Classical.propDecidable p) h α x y
noncomputable def fw (S : Nat → Prop) (k m : Nat → Nat) : Nat → Option Nat
  | 0 => none
  | c + 1 => match fw S k m c with
    | none => cif (S c) (some c) none
    | some b => cif ((k c < k b ∨ (k c = k b ∧ m c < m b)) ∧ S c) (some c) (some b)
theorem fw_lt {S : Nat → Prop} {k m : Nat → Nat} : ∀ {c b : Nat}, fw S k m c = some b → b < c
  | 0, b, h => by cases h
  | c + 1, b, h => by
    simp only [fw] at h
    cases e : fw S k m c with
    | none =>
      rw [e] at h
      by_cases hS : S c
      · dsimp only at h; rw [cif_pos hS] at h; cases h; omega
      · dsimp only at h; rw [cif_neg hS] at h; cases h
    | some b' =>
      rw [e] at h
      have := fw_lt e
      by_cases hS : (k c < k b' ∨ (k c = k b' ∧ m c < m b')) ∧ S c
      · dsimp only at h; rw [cif_pos hS] at h; cases h; omega
      · dsimp only at h; rw [cif_neg hS] at h; cases h; omega
def fwZ (P : Nat) (k m : Nat → Nat) (o : Option Nat) (x : Int32) : Int32 := match o with
  | none => -1
  | some c => if x = 0 then nI (k c) else if x = 1 then nI (m c) else if P ≤ cl (x - 10) then -1 else nI (pd P c (cl (x - 10)))
def vX (x : Int32) : Prop := x = 0 ∨ x = 1 ∨ ∃ i, i < 7 ∧ x = nI (10 + i)
theorem vX_iff (x : Int32) : vX x ↔ ((0 ≤ x ∧ x ≤ 1) ∨ (10 ≤ x ∧ x ≤ 16)) := by
  unfold vX
  rw [in01]
  constructor
  · rintro (h | h | ⟨i, hi, h⟩)
    · exact Or.inl (Or.inl h)
    · exact Or.inl (Or.inr h)
    · subst h
      exact Or.inr ⟨nI_le (a := 10) (by omega) (by omega), nI_le (b := 16) (by omega) (by omega)⟩
  · rintro ((h | h) | ⟨h1, h2⟩)
    · exact Or.inl h
    · exact Or.inr (Or.inl h)
    · rcases ib_cases x (n := 16) (by omega) with hx | ⟨j, hj, hx⟩
      · exact absurd ⟨Int32.le_trans (by decide) h1, h2⟩ hx
      · subst hx
        have := (nI_leI (a := 10) (b := j) (by omega) (by omega)).mp h1
        exact Or.inr (Or.inr ⟨j - 10, by omega, by rw [show 10 + (j - 10) = j by omega]⟩)
theorem pred_le {n i : Nat} (hn : n < 2 ^ 31) (hi : i < 2 ^ 31) : (nI n - 1 ≤ nI i) ↔ n - 1 ≤ i := by
  rcases Nat.eq_zero_or_pos n with h | h
  · subst h
    exact ⟨fun _ => by omega, fun _ => Int32.le_trans (show nI 0 - 1 ≤ (0 : Int32) by decide) (nI_pos' hi)⟩
  · rw [show (1 : Int32) = nI 1 from rfl, pk_sub (by omega), nI_leI (by omega) (by omega)]
section
variable {r n ns A : Nat} {ac : Nat → Ac} {f : Pl} {ev : Nat → Pl → Bool} {sv : Nat → Pl → Pl} {t : Nat → Nat} {pn : Nat} {bc fc : Int32} {fd : Nat} {d : Dm}
theorem p3 {P : Nat} (h : P ≤ 7) : 3 ^ P ≤ 2187 := Nat.pow_le_pow_right (by omega) (n := 3) h
theorem putByM (hR : MRf d.2.2) (h1 : d.1 65 1 = nI n) (hn : n ≤ 8) {c : Nat} (hc : c < 2 ^ 31) : wp (Mod_putBy 65 (nI c)) d (fun _ d' => frc (fun x _ => x = 85) d d' ∧ ∀ i, i < 12 → d'.1 85 i = nI (pd (n - 1) c i)) := by
  unfold Mod_putBy
  simp only [wp_mb, wp_vc, zk, true_and]
  refine wp_mono (putNo_eq hR) (fun _ d1 ⟨f1, p1⟩ => ?_)
  simp only [wp_gI, wp_ml, zk, true_and, f1.i (show ¬ (65 : Nat) = 85 by omega), h1]
  unfold Mod_putBy_13
  generalize hP : n - 1 = P
  -- how far
  have key : ∀ (tt : Nat) (s : Int32 × Int32) (dd : Dm), tt ≤ P → s = (nI (c / 3 ^ tt), nI (P - tt) - 1) → frc (fun x _ => x = 85) d dd → (∀ i, i < 12 → dd.1 85 i = nI (if P - tt ≤ i then pd P c i else 0)) → wp (lo (fun (s : (Int32 × Int32)) => Mod_putBy_13_b 65 s.1 s.2) s) dd (fun _ d' => frc (fun x _ => x = 85) d d' ∧ ∀ i, i < 12 → d'.1 85 i = nI (pd P c i)) := by
    intro tt s dd htt hs hf hp
    refine wp_up (fun tt s dd => tt ≤ P ∧ s = (nI (c / 3 ^ tt), nI (P - tt) - 1) ∧ frc (fun x _ => x = 85) d dd ∧ (∀ i, i < 12 → dd.1 85 i = nI (if P - tt ≤ i then pd P c i else 0))) P ?_ (i := tt) htt ⟨htt, hs, hf, hp⟩
    intro q s dd hq ⟨h0, e1, hf, hp⟩
    subst e1
    unfold Mod_putBy_13_b
    dsimp only
    by_cases hx : q = P
    · subst hx
      rw [if_pos (show nI (q - q) - 1 < (0 : Int32) by rw [Nat.sub_self]; decide), wp_mr, wp_mp]
      refine ⟨hf, fun i hi => ?_⟩
      rw [hp i hi, if_pos (by omega)]
    · obtain ⟨u, hu⟩ : ∃ u, P - q = u + 1 := ⟨P - q - 1, by omega⟩
      have eu : nI (P - q) - 1 = nI u := by rw [hu]; exact nI_pred u
      rw [eu, if_neg (show ¬ nI u < (0 : Int32) from Int32.not_lt.mpr (nI_pos' (by omega)))]
      have r85 : dd.2.2 65 35 = 85 := (MRf_fr hR hf).2.2.2.2.2.2.2.2.2.2.2.2.2.2.2.2.2.2.2.1
      have hcl : c / 3 ^ q < 2 ^ 31 := Nat.lt_of_le_of_lt (Nat.div_le_self _ _) hc
      have em : nI (c / 3 ^ q) - nI (c / 3 ^ q) / (3 : Int32) * (3 : Int32) = nI (c / 3 ^ q % 3) := by
        rw [show (3 : Int32) = nI 3 from rfl]
        exact pk_rem hcl (by omega) (by omega)
      have ed : nI (c / 3 ^ q) / (3 : Int32) = nI (c / 3 ^ (q + 1)) := by
        rw [show (3 : Int32) = nI 3 from rfl, pk_div hcl (by omega) (by omega), Nat.div_div_eq_div_mul, Nat.pow_succ]
      have em2 : nI (c / 3 ^ q) - nI (c / 3 ^ (q + 1)) * (3 : Int32) = nI (c / 3 ^ q % 3) := by rw [← ed]; exact em
      have es : nI u + (-1 : Int32) = nI (P - (q + 1)) - 1 := by
        rw [show P - (q + 1) = u by omega, Int32.sub_eq_add_neg]
      simp only [wp_mb, wp_gR, wp_sI, wp_ml, wp_mp, zk, zl, true_and, r85, nI_clamp (show u < 2 ^ 31 by omega), em2, ed, es]
      refine ⟨ib_nI (by omega) (by omega), by omega, by omega, frc_I hf 85 _ _ rfl, fun i hi => ?_⟩
      by_cases hi2 : i = u
      · subst hi2
        rw [u2_s, if_pos (by omega)]
        unfold pd
        rw [if_pos (by omega), show P - 1 - i = q by omega]
      · rw [u2_k _ _ _ hi2, hp i hi]
        by_cases hi3 : P - q ≤ i
        · rw [if_pos hi3, if_pos (by omega)]
        · rw [if_neg hi3, if_neg (by omega)]
  have hstart : ∀ i, i < 12 → d1.1 85 i = nI (if P - 0 ≤ i then pd P c i else 0) := fun i hi => by
    rw [p1 i hi]
    by_cases hi2 : P ≤ i
    · rw [if_pos (by omega)]
      unfold pd
      rw [if_neg (by omega)]
    · rw [if_neg (by omega)]
  rcases Nat.eq_zero_or_pos n with hn0 | hn0
  · subst hn0
    have hP0 : P = 0 := by omega
    subst hP0
    refine wp_up (fun (_ : Nat) s dd => s = (nI c, nI 0 - (2 : Int32)) ∧ dd = d1) 0 ?_ (i := 0) (by omega) ⟨rfl, rfl⟩
    intro q s dd hq ⟨e1, e2⟩
    subst e1; subst e2
    unfold Mod_putBy_13_b
    dsimp only
    rw [if_pos (by decide), wp_mr, wp_mp]
    refine ⟨f1, fun i hi => ?_⟩
    rw [hstart i hi, if_pos (by omega)]
  · refine key 0 _ d1 (Nat.zero_le _) ?_ f1 hstart
    rw [Nat.pow_zero, Nat.div_one, Nat.sub_zero]
    congr 1
    rw [show (2 : Int32) = nI 2 from rfl, show (1 : Int32) = nI 1 from rfl]
    rcases Nat.lt_or_ge n 2 with h2 | h2
    · have : n = 1 := by omega
      subst this
      have : P = 0 := by omega
      subst this
      rfl
    · rw [pk_sub (by omega), pk_sub (by omega)]
      congr 1
      omega
/-- what stands in the reference as the best -/
def BRm (k m : Nat → Nat) (o : Option Nat) (x y w : Int32) : Prop := match o with
  | none => x = -1
  | some b => x = nI b ∧ y = nI (k b) ∧ w = nI (m b)
theorem p1_le (P c i : Nat) : p1 P c i + p2 P c i ≤ i := by
  unfold p1 p2
  have h1 := fb_ct_not (fun i => decide (pd P c i = 1)) i
  have h2 := fb_ct_sub (p := fun i => decide (pd P c i = 2)) (q := fun i => !decide (pd P c i = 1)) (n := i) (fun j _ hj => by
    rw [decide_eq_true_eq] at hj
    simp [hj])
  omega
theorem kN_le {P b e c : Nat} (hP : P ≤ 7) (hb : b ≤ 9) (he : e ≤ 99) : kN P b e c ≤ 1000 := by
  have h := p1_le P c P
  unfold kN
  have h1 : b * p1 P c P ≤ 9 * 7 := Nat.mul_le_mul hb (by omega)
  have h2 : e * p2 P c P ≤ 99 * 7 := Nat.mul_le_mul he (by omega)
  omega
end
