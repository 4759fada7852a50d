/-! ===== pure: the reference's sums ===== -/
def sT (s : VS) : Int := s.2.2.1
def sU (s : VS) : Int := s.2.2.2.1
def sM (s : VS) : Bool := s.2.2.2.2.1
def sX (s : VS) : Nat := s.2.2.2.2.2.1
def sRest (s : VS) : Gr × List Gr × Nat × Bool × Nat := (s.1, s.2.1, s.2.2.2.2.2.2.1, s.2.2.2.2.2.2.2.1, s.2.2.2.2.2.2.2.2)
def uT (q : Nat) (s : VS) : Int := if q = 0 then 0 else sT s
def uM (q : Nat) (s : VS) : Bool := if q = 0 then false else sM s
def usd (q : Nat) : Bool := decide (q = 4)
def aq (q : Nat) : Nat := if q ≤ 1 then 2 else q + 1
def uq (q : Nat) : Nat := if q ≤ 1 then 1 else q
def isU (q : Nat) : Prop := q = 0 ∨ q = 1 ∨ q = 4 ∨ q = 10
def uval (p : Pl) (c : Nat) : Nat := if isL c then p (c - 97) else c - 48
theorem un_step {p : Pl} {q c : Nat} (hq : isU q) (hc : isL c = true ∨ isD c = true) (s : VS) : sT (vst p q c s) = uT q s + sgn (uM q s ^^ usd q) (uval p c) ∧ sM (vst p q c s) = uM q s ∧ sRest (vst p q c s) = sRest s ∧ (isL c = false → sU (vst p q c s) = uT q s ∧ sX (vst p q c s) = c - 48) := by
  obtain ⟨⟨o, a, n⟩, g, T, U, m, x, R, v, tg⟩ := s
  have h33 : c ≠ 33 ∧ c ≠ 40 := by
    rcases hc with h | h
    · have := isL_iff.mp h; omega
    · have := isD_iff.mp h; omega
  rcases hq with rfl | rfl | rfl | rfl <;> cases hl : isL c <;> simp [vst, vun, hl, h33.1, h33.2, sT, sM, sRest, sU, sX, uT, uM, usd, uval]
theorem un_two {p : Pl} {q c : Nat} (hq : q = 3 ∨ q = 6 ∨ q = 12) (hc : isD c = true) (s : VS) : sT (vst p q c s) = sU s + sgn (sM s ^^ decide (q = 6)) ((10 * sX s + (c - 48) : Nat) : Int) ∧ sM (vst p q c s) = sM s ∧ sRest (vst p q c s) = sRest s := by
  obtain ⟨⟨o, a, n⟩, g, T, U, m, x, R, v, tg⟩ := s
  rcases hq with rfl | rfl | rfl <;> simp [vst, hc, sT, sM, sRest, sU, sX]
theorem un_sgn {p : Pl} {q c : Nat} (hq : q = 2 ∨ q = 3 ∨ q = 5 ∨ q = 6 ∨ q = 11 ∨ q = 12) (hc : c = 43 ∨ c = 45) (s : VS) : sT (vst p q c s) = sT s ∧ sM (vst p q c s) = decide (c = 45) ∧ sRest (vst p q c s) = sRest s := by
  obtain ⟨⟨o, a, n⟩, g, T, U, m, x, R, v, tg⟩ := s
  have hd : isD c = false := by rcases hc with rfl | rfl <;> decide
  rcases hq with rfl | rfl | rfl | rfl | rfl | rfl <;> simp [vst, hd, hc, sT, sM, sRest]
theorem nx_u {sp : Bool} {q o c : Nat} (hq : isU q) : (isL c = true → nx sp q o c = some (aq q)) ∧ (isL c = false → isD c = true → nx sp q o c = some (aq q + 1)) := by
  refine ⟨fun h => ?_, fun h1 h2 => ?_⟩
  · rcases hq with rfl | rfl | rfl | rfl <;> simp [nx, h, aq]
  · rcases hq with rfl | rfl | rfl | rfl <;> simp [nx, h1, h2, aq]
theorem nx_s {sp : Bool} {q o c : Nat} (hq : isU q) (hc : c = 43 ∨ c = 45) : nx sp (aq q) o c = some (uq q) ∧ nx sp (aq q + 1) o c = some (uq q) := by
  have hd : isD c = false := by rcases hc with rfl | rfl <;> decide
  rcases hq with rfl | rfl | rfl | rfl <;> simp [nx, hd, hc, aq, uq]
theorem nx_t {sp : Bool} {q o c : Nat} (hq : isU q) (hc : isD c = true) : nx sp (aq q + 1) o c = some (aq q) := by
  rcases hq with rfl | rfl | rfl | rfl <;> simp [nx, hc, aq]
theorem LD_o {c o : Nat} (h : isL c = true ∨ isD c = true) : nxO o c = o := by
  rcases h with h | h
  · have := isL_iff.mp h; exact nxO_o (by omega) (by omega)
  · have := isD_iff.mp h; exact nxO_o (by omega) (by omega)
section
variable {sb : Bool} {B m : Nat} {t : Nat → Nat} {d : Dm}
theorem s97 (h : TX sb B t m d) {k : Nat} (hk : k < 2 ^ 30) (al fa v : Int32) : Mod_sumHere_97 65 al fa v (atM d k) = some (.inl (al + fa * v, (if sgl t m k = 43 then (1 : Int32) else -1), (if sgl t m k = 43 ∨ sgl t m k = 45 then (1 : Int32) else 0)), atM d (if sgl t m k = 43 ∨ sgl t m k = 45 then k + 1 else k)) := by
  have hl := rc_lit (sgl_lt h k)
  have e43 : ∀ (x y : Int32), (if nI (sgl t m k) = (43 : Int32) then x else y) = if sgl t m k = 43 then x else y := fun x y => by
    by_cases hc : sgl t m k = 43
    · rw [if_pos hc, if_pos (hl.2.2.2.2.1.mpr hc)]
    · rw [if_neg hc, if_neg (fun q => hc (hl.2.2.2.2.1.mp q))]
  have fin : ∀ g : Int32, ∀ k', (if g = 0 then nI k + 0 else nI k + 1) = nI k' → wp (Mod_sumHere_127 65 (al + fa * v) g) (atM d k) (fun x y => x = .inl (al + fa * v, (if sgl t m k = 43 then (1 : Int32) else -1), g) ∧ y = atM d k') := by
    intro g k' hg
    unfold Mod_sumHere_127 Mod_sumHere_142 Mod_sumHere_157
    simp only [wp_mb, wp_vc, zk, true_and, wp_eq (sign_eq h hk), wp_gI, atM_at, wp_pI, wp_mp, e43]
    have eg : nI k + (if g = 0 then (0 : Int32) else 1) = nI k' := by rw [← hg]; split <;> rfl
    rw [eg, inc_at]
  apply wp_get
  unfold Mod_sumHere_97 Mod_sumHere_122
  simp only [wp_ml, wp_mb, wp_vc, zk, true_and, wp_eq (sign_eq h hk)]
  by_cases h43 : sgl t m k = 43
  · rw [if_pos (hl.2.2.2.2.1.mpr h43)]
    refine wp_mono (fin 1 (k + 1) (by rw [if_neg (by decide), nI_1])) (fun x y q => ?_)
    rw [q.1, q.2]
    simp [h43]
  · rw [if_neg (fun q => h43 (hl.2.2.2.2.1.mp q))]
    simp only [wp_mb, wp_vc, zk, true_and, wp_eq (sign_eq h hk)]
    by_cases h45 : sgl t m k = 45
    · rw [if_pos (hl.2.2.2.2.2.1.mpr h45)]
      refine wp_mono (fin 1 (k + 1) (by rw [if_neg (by decide), nI_1])) (fun x y q => ?_)
      rw [q.1, q.2]
      simp [h45]
    · rw [if_neg (fun q => h45 (hl.2.2.2.2.2.1.mp q))]
      refine wp_mono (fin 0 k (by rw [if_pos rfl]; exact nI_add k 0)) (fun x y q => ?_)
      rw [q.1, q.2]
      simp [h43, h45]
/-- a unit of one letter, or of two digits -/
theorem s52 (h : TX sb B t m d) {p : Pl} (hp75 : ∀ s, s < 8 → d.1 75 s = nI (p s)) {k : Nat} (hk : k < m) (hc : isL (t k) = true ∨ isD (t k) = true) (al fa : Int32) : ∃ k' w, (isL (t k) = true ∧ k' = k + 1 ∧ w = p (t k - 97) ∨ isL (t k) = false ∧ isD (sgl t m (k + 1)) = false ∧ k' = k + 1 ∧ w = t k - 48 ∨ isL (t k) = false ∧ isD (sgl t m (k + 1)) = true ∧ k' = k + 2 ∧ w = 10 * (t k - 48) + (sgl t m (k + 1) - 48)) ∧ ∀ Q, wp (Mod_sumHere_97 65 al fa (nI w)) (atM d k') Q → wp (Mod_sumHere_6_b 65 al fa 1) (atM d k) Q := by
  have hm := h.2.1
  have ek : sgl t m k = t k := if_pos hk
  have htk := (h.2.2.2 k hk).2
  have hR := h.1.1
  have hc2 := sgl_lt h (k + 1)
  by_cases hl : isL (t k) = true
  · have hl2 := isL_iff.mp hl
    have hd : isD (t k) = false := by
      cases e : isD (t k) with
      | false => rfl
      | true => have := isD_iff.mp e; omega
    refine ⟨k + 1, p (t k - 97), Or.inl ⟨hl, rfl, rfl⟩, fun Q hw => ?_⟩
    unfold Mod_sumHere_6_b
    rw [if_neg (by decide)]
    have e97 : nI (t k) - (97 : Int32) = nI (t k - 97) := by rw [show (97 : Int32) = nI 97 from rfl, pk_sub (by omega)]
    simp only [wp_mb, wp_vc, wp_gI, wp_pI, zk, true_and, wp_eq (sign_eq h (show k < 2 ^ 30 by omega)), ek, atM_at, nI_1, inc_at, wp_eq (mlet_eq htk _), hl]
    rw [if_neg (by decide)]
    have h75 : (atM d (k + 1)).1 75 (t k - 97) = nI (p (t k - 97)) := (atM_n d (k + 1) (by omega)).trans (hp75 _ (by omega))
    have hR16 : (atM d (k + 1)).2.2 65 16 = 75 := hR.2.2.2.2.2.2.2.2.2.1
    simp only [wp_mb, wp_gR, wp_aI, zk, zl, true_and, hR16, e97, nI_clamp (show t k - 97 < 2 ^ 31 by omega), h75]
    refine ⟨ib_nI (by omega) (by omega), ?_⟩
    unfold Mod_sumHere_52
    simp only [wp_mb, wp_eq (mdig_eq htk _), hd]
    rw [if_pos (by decide)]
    exact hw
  · have hl' : isL (t k) = false := by simpa using hl
    have hd : isD (t k) = true := hc.resolve_left hl
    have hd2 := isD_iff.mp hd
    have e48 : nI (t k) - (48 : Int32) = nI (t k - 48) := by rw [show (48 : Int32) = nI 48 from rfl, pk_sub (by omega)]
    by_cases hd3 : isD (sgl t m (k + 1)) = true
    · refine ⟨k + 2, 10 * (t k - 48) + (sgl t m (k + 1) - 48), Or.inr (Or.inr ⟨hl', hd3, rfl, rfl⟩), fun Q hw => ?_⟩
      have hd4 := isD_iff.mp hd3
      unfold Mod_sumHere_6_b
      rw [if_neg (by decide)]
      simp only [wp_mb, wp_vc, wp_gI, wp_pI, zk, true_and, wp_eq (sign_eq h (show k < 2 ^ 30 by omega)), ek, atM_at, nI_1, inc_at, wp_eq (mlet_eq htk _), hl']
      rw [if_pos (by decide)]
      unfold Mod_sumHere_52
      simp only [wp_mb, wp_eq (mdig_eq htk _), hd]
      rw [if_neg (by decide)]
      simp only [wp_mb, wp_vc, zk, true_and, wp_eq (sign_eq h (show k + 1 < 2 ^ 30 by omega)), wp_eq (mdig_eq hc2 _), hd3]
      rw [if_neg (by decide)]
      have ev : ((10 : Int32) * (nI (t k) - 48) + nI (sgl t m (k + 1))) - 48 = nI (10 * (t k - 48) + (sgl t m (k + 1) - 48)) := by
        rw [e48, show (10 : Int32) = nI 10 from rfl, pk_mul, nI_add, show (48 : Int32) = nI 48 from rfl, pk_sub (by omega)]
        congr 1
        omega
      simp only [wp_mb, wp_vc, wp_ml, wp_gI, wp_pI, zk, true_and, wp_eq (sign_eq h (show k + 1 < 2 ^ 30 by omega)), atM_at, nI_1, inc_at, ev]
      exact hw
    · have hd3' : isD (sgl t m (k + 1)) = false := by simpa using hd3
      refine ⟨k + 1, t k - 48, Or.inr (Or.inl ⟨hl', hd3', rfl, rfl⟩), fun Q hw => ?_⟩
      unfold Mod_sumHere_6_b
      rw [if_neg (by decide)]
      simp only [wp_mb, wp_vc, wp_gI, wp_pI, zk, true_and, wp_eq (sign_eq h (show k < 2 ^ 30 by omega)), ek, atM_at, nI_1, inc_at, wp_eq (mlet_eq htk _), hl']
      rw [if_pos (by decide)]
      unfold Mod_sumHere_52
      simp only [wp_mb, wp_eq (mdig_eq htk _), hd]
      rw [if_neg (by decide)]
      simp only [wp_mb, wp_vc, zk, true_and, wp_eq (sign_eq h (show k + 1 < 2 ^ 30 by omega)), wp_eq (mdig_eq hc2 _), hd3']
      rw [if_pos (by decide), e48]
      exact hw
end
