/-! ===== pure: a step's text; letters come ===== -/
theorem oI_99 {T : Int} (h1 : -2147483648 ≤ T) (h2 : T < 2147483648) : (0 ≤ Int32.ofInt T ∧ Int32.ofInt T ≤ 99) ↔ (0 ≤ T ∧ T ≤ 99) := by
  have h3 := fb_ofI h1 h2
  rw [fa_le, fa_le, h3]
  exact Iff.rfl
theorem cl_oI {T : Int} (h1 : -2147483648 ≤ T) (h2 : T < 2147483648) : cl (Int32.ofInt T) = T.toNat := by
  have h3 := fb_ofI h1 h2
  show (Int32.ofInt T).toInt.toNat = _
  rw [h3]
section
variable {I : Nat → Nat → Int32} {a b c e : Nat → Int32} {L : Nat → Nat → Int64} {R : Nat → Nat → Nat}
theorem whole_1 {q o k : Nat} {p : Pl} {s : VS} (h : RdI true q o k p a b c e s) (hq : q ≤ 12) (hk : k ≤ 60) (hsm : vsm k s) : wp (Read_isWhole 54) (u4 I a b c e, L, R) (fun z d' => d' = (u4 I a b c e, L, R) ∧ ((z = 0 ∧ ¬ (q = 11 ∨ q = 12)) ∨ (z = 1 ∧ (q = 11 ∨ q = 12) ∧ ∃ rs sz, rs ≤ sz ∧ sz ≤ 60 ∧ b 2 = nI rs ∧ b 1 = nI sz ∧ sv1 c rs sz (b 3) p = svV p s))) := by
  obtain ⟨⟨o1, a1, n1⟩, g, T, U, m, y, Rl, v, tg⟩ := s
  obtain ⟨ha4, sz, ⟨h1, h2, h3, h4, h5, h6⟩, hk2, hm, hr, hn7, hT, -, -, hS, ht⟩ := h
  have e8 : a 8 = 1 := h6
  have hTb : -2147483648 ≤ T ∧ T < 2147483648 := by simp only [vsm] at hsm; omega
  have e5 : ∀ j, (u4 I a b c e, L, R).1 54 j = a j := fun j => by show u4 I a b c e 54 j = a j; rw [u4_54]
  have k1 : ∀ Q : Int32 → Dm → Prop, (a 5 = (2 : Int32) → Q 1 (u4 I a b c e, L, R)) → (¬ a 5 = (2 : Int32) → Q 0 (u4 I a b c e, L, R)) → wp (Read_isWhole_21 54 (1 : Int32)) (u4 I a b c e, L, R) Q := by
    intro Q q1 q0
    unfold Read_isWhole_21
    rw [wp_mb, wp_gI]
    refine ⟨rfl, ?_⟩
    rw [e5, e8, if_neg (by decide), if_neg (by decide), wp_mb, wp_gI]
    refine ⟨rfl, ?_⟩
    rw [e5]
    exact wp_if (fun hz => wp_mz.mpr ⟨Or.inr rfl, q1 hz⟩) (fun hz => wp_mz.mpr ⟨Or.inl rfl, q0 hz⟩)
  have k0 : ∀ Q : Int32 → Dm → Prop, Q 0 (u4 I a b c e, L, R) → wp (Read_isWhole_21 54 (0 : Int32)) (u4 I a b c e, L, R) Q := by
    intro Q q0
    unfold Read_isWhole_21
    rw [wp_mb, wp_gI]
    refine ⟨rfl, ?_⟩
    rw [e5, e8, if_neg (by decide), if_pos rfl]
    exact wp_mz.mpr ⟨Or.inl rfl, q0⟩
  unfold Read_isWhole Read_isWhole_16
  rw [wp_mb, wp_gI]
  refine ⟨rfl, ?_⟩
  rw [e5, ha4]
  have hc : (q = 11 ∨ q = 12) ∨ (q = 2 ∨ q = 3 ∨ q = 5 ∨ q = 6) ∨ (q = 0 ∨ q = 1 ∨ q = 4 ∨ q = 7 ∨ q = 8 ∨ q = 9 ∨ q = 10) := by omega
  have b1 : (q = 11 ∨ q = 12) ∨ (q = 2 ∨ q = 3 ∨ q = 5 ∨ q = 6) → ∀ Q, wp (Read_isWhole_21 54 (1 : Int32)) (u4 I a b c e, L, R) Q → wp (if nI (nq q) = (2 : Int32) then Read_isWhole_21 54 (1 : Int32) else mb (gI ZF 7 4 54) fun x8 => if x8 = (3 : Int32) then Read_isWhole_21 54 (1 : Int32) else Read_isWhole_21 54 (0 : Int32)) (u4 I a b c e, L, R) Q := by
    intro hqq Q hw
    by_cases hx2 : nI (nq q) = (2 : Int32)
    · rw [if_pos hx2]; exact hw
    · rw [if_neg hx2, wp_mb, wp_gI]
      refine ⟨rfl, ?_⟩
      rw [e5, ha4]
      have hx3 : nI (nq q) = (3 : Int32) := by
        rcases hqq with (rfl | rfl) | (rfl | rfl | rfl | rfl)
        · rfl
        · exact absurd rfl hx2
        · rfl
        · exact absurd rfl hx2
        · rfl
        · exact absurd rfl hx2
      rw [if_pos hx3]
      exact hw
  rcases hc with hc | hc | hc
  · refine b1 (Or.inl hc) _ (k1 _ (fun _ => ⟨rfl, Or.inr ⟨rfl, hc, ?_⟩⟩) (fun hz => ?_))
    · obtain ⟨rs, r1, r2, r3, r4, -⟩ := hS (by omega)
      obtain ⟨t1, t2⟩ := ht (by omega)
      rw [if_neg (by omega)] at hk2
      refine ⟨rs, sz, r1, by omega, r2, h1, ?_⟩
      unfold sv1 svV
      dsimp only
      rw [r3, r4, t1]
      have e7 : nI tg &&& (7 : Int32) = nI tg := by
        rw [show (7 : Int32) = nI (2 ^ 3 - 1) from rfl, fa_mask, Nat.mod_eq_of_lt (by omega)]
      rw [e7, cl_nI (by omega), cl_oI hTb.1 hTb.2]
      cases v
      · rfl
      · rw [if_pos rfl, if_pos rfl]
        by_cases h9 : 0 ≤ T ∧ T ≤ 99
        · rw [if_pos h9, if_pos ((oI_99 hTb.1 hTb.2).mpr h9)]
        · rw [if_neg h9, if_neg (fun hh => h9 ((oI_99 hTb.1 hTb.2).mp hh))]
    · exfalso
      apply hz
      rw [(hm (by omega)).2]
      rcases hc with rfl | rfl <;> rfl
  · refine b1 (Or.inr hc) _ (k1 _ (fun hz => ?_) (fun _ => ⟨rfl, Or.inl ⟨rfl, by omega⟩⟩))
    exfalso
    rw [(hm (by omega)).2] at hz
    rcases hc with rfl | rfl | rfl | rfl <;> exact absurd hz (by decide)
  · have hx2 : ¬ nI (nq q) = (2 : Int32) := by rcases hc with rfl | rfl | rfl | rfl | rfl | rfl | rfl <;> decide
    have hx3 : ¬ nI (nq q) = (3 : Int32) := by rcases hc with rfl | rfl | rfl | rfl | rfl | rfl | rfl <;> decide
    rw [if_neg hx2, wp_mb, wp_gI]
    refine ⟨rfl, ?_⟩
    rw [e5, ha4, if_neg hx3]
    exact k0 _ ⟨rfl, Or.inl ⟨rfl, by omega⟩⟩
end
/-! letters told by a long -/
theorem cod_eq {N s : Nat} (hN : N < 2 ^ 64) (hs : s < 8) : ((((lN N).toUInt64 >>> (((8 : Int32) * nI s).toInt64.toUInt64 &&& Int64.toUInt64 63)).toInt64) &&& (255 : Int64)).toInt32 = nI (dg 256 N s) := by
  rw [i8, wb_shr (by omega) (by omega), show (255 : Int64) = lN (2 ^ 8 - 1) from rfl, wb_mask (Nat.lt_of_le_of_lt (Nat.div_le_self _ _) (by omega)) (by omega), lN_i, p8]
  rfl
def ltr (N : Nat) : Nat → Option Nat
  | 0 => some 0
  | k + 1 => match ltr N k with
    | none => none
    | some m => if 126 < dg 256 N k then none else if dg 256 N k = 0 then some m else if k ≤ m then some (m + 1) else none
theorem ltr_le {N : Nat} : ∀ {k m : Nat}, ltr N k = some m → m ≤ k ∧ (∀ i, i < m → dg 256 N i < 127)
  | 0, m, h => by simp only [ltr] at h; cases h; exact ⟨Nat.le_refl _, fun i hi => by omega⟩
  | k + 1, m, h => by
    simp only [ltr] at h
    cases e : ltr N k with
    | none => rw [e] at h; cases h
    | some m0 =>
      rw [e] at h
      have ih := ltr_le e
      by_cases h1 : 126 < dg 256 N k
      · simp [h1] at h
      · by_cases h2 : dg 256 N k = 0
        · simp [h2] at h
          rw [← h]
          exact ⟨by omega, ih.2⟩
        · by_cases h3 : k ≤ m0
          · simp [h1, h2, h3] at h
            rw [← h]
            refine ⟨by omega, fun i hi => ?_⟩
            by_cases hik : i = m0
            · rw [hik, show m0 = k by omega]; omega
            · exact ih.2 i (by omega)
          · simp [h1, h2, h3] at h
def ltI (x : Option Nat) : Int32 := match x with
  | none => -1
  | some m => nI m
theorem ltr_no {N k : Nat} (h : ltr N k = none) : ∀ m, ltr N (k + m) = none
  | 0 => h
  | m + 1 => by
    have := ltr_no h m
    rw [← Nat.add_assoc]
    simp only [ltr, this]
theorem codeIn_eq {N s : Nat} (hN : N < 2 ^ 64) (hs : s < 8) (d : Dm) : Page_codeIn (lN N) (nI s) d = some (nI (dg 256 N s), d) := by
  unfold Page_codeIn
  rw [cod_eq hN hs]
  rfl
theorem lettersIn_eq {N : Nat} (hN : N < 2 ^ 64) (d : Dm) : Page_lettersIn (lN N) d = some (ltI (ltr N 8), d) := by
  apply wp_get
  unfold Page_lettersIn
  simp only [wp_ml]
  unfold Page_lettersIn_4
  refine wp_up (fun k s dd => (∃ m, ltr N k = some m ∧ s = (nI m, nI k)) ∧ dd = d) 8 ?_ (i := 0) (by omega) ⟨⟨0, rfl, rfl⟩, rfl⟩
  intro k s dd hk ⟨⟨m, hm, e1⟩, e2⟩
  subst e1; subst e2
  have hmk := (ltr_le hm).1
  unfold Page_lettersIn_4_b
  dsimp only
  by_cases h8 : k = 8
  · subst h8
    rw [if_pos (by decide)]
    simp only [wp_mr, wp_mp]
    rw [hm]
    exact ⟨rfl, trivial⟩
  · rw [if_neg (show ¬ (8 : Int32) ≤ nI k from nI_ge (b := 8) (by omega) (by omega))]
    have hdl : dg 256 N k < 256 := Nat.mod_lt _ (by omega)
    simp only [wp_mb, wp_eq (codeIn_eq hN (show k < 8 by omega) _)]
    have stop : ltr N (k + 1) = none → wp (mr (α := Int32 × Int32) (mp (-1 : Int32))) dd (fun r d' => match r with
        | .inl a' => k < 8 ∧ (∃ m, ltr N (k + 1) = some m ∧ a' = (nI m, nI (k + 1))) ∧ d' = dd
        | .inr r => r = ltI (ltr N 8) ∧ d' = dd) := by
      intro hn
      simp only [wp_mr, wp_mp]
      have := ltr_no hn (8 - (k + 1))
      rw [show k + 1 + (8 - (k + 1)) = 8 by omega] at this
      rw [this]
      exact ⟨rfl, trivial⟩
    by_cases h1 : 126 < dg 256 N k
    · rw [if_pos (show (126 : Int32) < nI (dg 256 N k) from nI_lt (a := 126) h1 (by omega))]
      exact wp_mono (stop (by simp [ltr, hm, h1])) (fun r d' h => by cases r <;> exact h)
    · rw [if_neg (show ¬ (126 : Int32) < nI (dg 256 N k) from nI_nlt (a := 126) (by omega) (by omega))]
      by_cases h2 : dg 256 N k = 0
      · rw [if_pos (show nI (dg 256 N k) = 0 by rw [h2]; rfl)]
        unfold Page_lettersIn_36 Page_lettersIn_47
        simp only [wp_ml, wp_mp, nI_1]
        refine ⟨by omega, ⟨m, by simp [ltr, hm, h2], ?_⟩, trivial⟩
        rw [if_pos (show nI (dg 256 N k) = 0 by rw [h2]; rfl)]
        show (nI m + nI 0, nI (k + 1)) = _
        rw [nI_add, Nat.add_zero]
      · rw [if_neg (nI_ne0 (by omega) (by omega))]
        by_cases h3 : k ≤ m
        · rw [if_pos (nI_le h3 (by omega))]
          unfold Page_lettersIn_36 Page_lettersIn_47
          simp only [wp_ml, wp_mp, nI_1]
          refine ⟨by omega, ⟨m + 1, by simp [ltr, hm, h1, h2, h3], ?_⟩, trivial⟩
          rw [if_neg (nI_ne0 (by omega) (by omega)), nI_1]
        · rw [if_neg (nI_ge (by omega) (by omega))]
          exact wp_mono (stop (by simp [ltr, hm, h1, h2, h3])) (fun r d' h => by cases r <;> exact h)
/-- letters behind the page -/
def addL (t : Nat → Nat) (pn N : Nat) : Nat → Nat := fun i => if i < pn then t i else dg 256 N (i - pn)
theorem append_eq {t : Nat → Nat} {pn m N : Nat} {d : Dm} (hR : Rf d.2.2) (hN : N < 2 ^ 64) (hg : PG t pn d) (hm : m ≤ 8) (hpm : pn + m ≤ 60) (hl : ∀ i, i < m → dg 256 N i < 127) : wp (Page_append 52 (lN N) (nI m)) d (fun _ d' => PG (addL t pn N) (pn + m) d' ∧ (∀ x, x ≠ 52 → x ≠ 53 → d'.1 x = d.1 x) ∧ d'.2 = d.2) := by
  unfold Page_append
  simp only [wp_ml]
  unfold Page_append_3
  refine wp_up (fun k s dd => s = nI k ∧ PG (addL t pn N) (pn + k) dd ∧ (∀ x, x ≠ 52 → x ≠ 53 → dd.1 x = d.1 x) ∧ dd.2 = d.2) m ?_ (i := 0) (by omega) ⟨rfl, ⟨by omega, hg.2.1, fun i hi => ?_⟩, fun _ _ _ => rfl, rfl⟩
  · intro k s dd hk ⟨e1, h1, h2, h3⟩
    subst e1
    have hRd : Rf dd.2.2 := by rw [h3]; exact hR
    unfold Page_append_3_b
    by_cases hx : k = m
    · subst hx
      rw [if_pos (nI_le (Nat.le_refl _) (by omega))]
      simp only [wp_mr, wp_mp]
      exact ⟨h1, h2, h3⟩
    · rw [if_neg (nI_ge (by omega) (by omega))]
      simp only [wp_mb, wp_gI, zk, true_and, h1.2.1]
      rw [if_neg (show ¬ (60 : Int32) ≤ nI (pn + k) from nI_ge (b := 60) (by omega) (by omega))]
      have hlk := hl k (by omega)
      have ech : ((nI (dg 256 N k)).toUInt32 % 65536).toInt32.toUInt32.toUInt16.toUInt32.toInt32 = nI (dg 256 N k) := by
        rw [pk_char, pk_tn (by omega), Nat.mod_eq_of_lt (show dg 256 N k < 65536 by omega)]
        exact fb_char (by omega)
      have e52 : u2 dd.1 53 (pn + k) (nI (dg 256 N k)) 52 1 = nI (pn + k) := by rw [u2_a _ (by omega)]; exact h1.2.1
      simp only [wp_mb, wp_gI, wp_gR, wp_sC, wp_pI, wp_ml, wp_mp, zk, zl, true_and, hRd.1, h1.2.1, wp_eq (codeIn_eq hN (show k < 8 by omega) _), nI_clamp (show pn + k < 2 ^ 31 by omega), ech, e52, nI_1]
      refine ⟨ib_nI (by omega) (by omega), by omega, ⟨by omega, u2_s (u2 dd.1 53 (pn + k) (nI (dg 256 N k))) 52 1 (nI (pn + k + 1)), fun i hi => ?_⟩, fun x a b => ?_, h3⟩
      · show u2 (u2 dd.1 53 (pn + k) (nI (dg 256 N k))) 52 1 (nI (pn + k + 1)) 53 i = _ ∧ _
        rw [u2_a _ (by omega)]
        by_cases hi2 : i = pn + k
        · rw [hi2, u2_s]
          unfold addL
          rw [if_neg (by omega), show pn + k - pn = k by omega]
          exact ⟨rfl, by omega⟩
        · rw [u2_k _ _ _ hi2]
          exact h1.2.2 i (by omega)
      · show u2 (u2 dd.1 53 (pn + k) (nI (dg 256 N k))) 52 1 (nI (pn + k + 1)) x = _
        rw [u2_row _ a, u2_row _ b]
        exact h2 x a b
  · have := hg.2.2 i (by omega)
    unfold addL
    rw [if_pos (by omega)]
    exact this
theorem letters_eq {t : Nat → Nat} {pn N : Nat} {d : Dm} (hR : Rf d.2.2) (hN : N < 2 ^ 64) (hg : PG t pn d) : wp (Main_letters 1 (lN N)) d (fun z d' => (ltr N 8 = none ∧ z = -102 ∧ d' = d) ∨ ∃ m, ltr N 8 = some m ∧ ((60 < pn + m ∧ z = -104 ∧ d' = d) ∨ (pn + m ≤ 60 ∧ z = nI (pn + m) ∧ PG (addL t pn N) (pn + m) d' ∧ (∀ x, x ≠ 52 → x ≠ 53 → d'.1 x = d.1 x) ∧ d'.2 = d.2))) := by
  have hpn := hg.1
  unfold Main_letters
  simp only [wp_mb, wp_eq (lettersIn_eq hN d)]
  cases hl : ltr N 8 with
  | none =>
    rw [if_neg (show ¬ (0 : Int32) ≤ ltI none by decide)]
    exact wp_mp.mpr (Or.inl ⟨rfl, rfl, rfl⟩)
  | some m =>
    obtain ⟨l1, l2⟩ := ltr_le hl
    rw [if_pos (show (0 : Int32) ≤ ltI (some m) from nI_pos' (by omega))]
    simp only [wp_mb, wp_gI, wp_gR, zk, true_and, hR.1, hg.2.1]
    have e1 : nI pn + ltI (some m) = nI (pn + m) := nI_add pn m
    rw [e1]
    by_cases h6 : pn + m ≤ 60
    · rw [if_pos (show nI (pn + m) ≤ (60 : Int32) from nI_le (b := 60) h6 (by omega))]
      simp only [wp_mb, wp_gR, wp_vc, zk, true_and, hR.1]
      refine wp_mono (append_eq hR hN hg l1 h6 l2) (fun _ d' ⟨q1, q2, q3⟩ => ?_)
      have hRd : Rf d'.2.2 := by rw [q3]; exact hR
      simp only [wp_mb, wp_gI, wp_gR, wp_mp, zk, true_and, hRd.1, q1.2.1]
      exact Or.inr ⟨m, rfl, Or.inr ⟨h6, rfl, q1, q2, q3⟩⟩
    · rw [if_neg (show ¬ nI (pn + m) ≤ (60 : Int32) from nI_ge (a := 60) (by omega) (by omega))]
      exact wp_mp.mpr (Or.inr ⟨m, rfl, Or.inl ⟨by omega, rfl, rfl⟩⟩)
theorem blank_eq {t : Nat → Nat} {pn : Nat} {d : Dm} (hR : Rf d.2.2) (hg : PG t pn d) : Main_blank 1 d = some (nI pn, (u2 d.1 52 1 0, d.2)) := by
  apply wp_get
  unfold Main_blank
  simp only [wp_mb, wp_gI, wp_gR, wp_pI, wp_mp, zk, true_and, hR.1, hg.2.1]
