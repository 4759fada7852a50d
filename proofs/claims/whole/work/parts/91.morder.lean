/-! ===== pure: the epochs as stretches; order by the reference ===== -/
section
variable {ac : Nat → Ac} {n : Nat}
theorem wm_wr (ac : Nat → Ac) (a m : Nat) : wm ac a ||| wr ac a m = wm ac (a + m) := bits_eq fun i => by
  rw [Nat.testBit_or, wm_bit, wr_bit, wm_bit]
  cases hw : isw (ac i)
  · simp
  · simp
    omega
theorem wr_or (ac : Nat → Ac) (a m : Nat) (h : isw (ac (a + m)) = true) : wr ac a m ||| 2 ^ (a + m) = wr ac a (m + 1) := bits_eq fun i => by
  rw [Nat.testBit_or, wr_bit, wr_bit, Nat.testBit_two_pow]
  by_cases e : a + m = i
  · subst e; simp [h]
  · cases hw : isw (ac i)
    · simp [e]
    · simp [e]
      omega
theorem wr_no (ac : Nat → Ac) (a m : Nat) (h : isw (ac (a + m)) = false) : wr ac a (m + 1) = wr ac a m := by
  simp [wr, h]
/-- the epochs are stretches of acts -/
def SG (ac : Nat → Ac) (k q : Nat) (E : Nat → Nat) (rc : Nat) (σ : Nat → Nat) : Prop := σ 0 = blf ac k ∧ σ (q + 1) = k ∧ (∀ e, e ≤ q → σ e ≤ σ (e + 1)) ∧ rc = wm ac (σ 0) ∧ (∀ e, e ≤ q → E e = wr ac (σ e) (σ (e + 1) - σ e)) ∧ (∀ e, e ≤ q → ∀ x, σ e ≤ x → x < σ (e + 1) → eS ac x = σ e) ∧ eS ac k = σ q ∧ ∀ e, e < q → σ e < σ (e + 1) ∧ ise (ac (σ (e + 1) - 1)) = true
theorem SG.pre {k q : Nat} {E : Nat → Nat} {rc : Nat} {σ : Nat → Nat} (h : SG ac k q E rc σ) : ∀ e, e ≤ q + 1 → prE rc E e = wm ac (σ e)
  | 0, _ => h.2.2.2.1
  | e + 1, he => by
    simp only [prE]
    rw [h.pre e (by omega), h.2.2.2.2.1 e (by omega), wm_wr]
    have := h.2.2.1 e (by omega)
    rw [show σ e + (σ (e + 1) - σ e) = σ (e + 1) by omega]
theorem SG.mono {k q : Nat} {E : Nat → Nat} {rc : Nat} {σ : Nat → Nat} (h : SG ac k q E rc σ) {a : Nat} : ∀ {m : Nat}, a + m ≤ q + 1 → σ a ≤ σ (a + m)
  | 0, _ => Nat.le_refl _
  | m + 1, hm => Nat.le_trans (h.mono (m := m) (by omega)) (h.2.2.1 (a + m) (by omega))
theorem SG_0 : SG ac 0 0 (fun _ => 0) 0 (fun _ => 0) := by
  refine ⟨rfl, rfl, fun e _ => Nat.le_refl _, rfl, fun e _ => rfl, fun e _ x _ (h2 : x < 0) => by omega, rfl, fun e h => by omega⟩
theorem SG_st {k : Nat} (hk : k < n) {s : ST} {σ : Nat → Nat} (h : SG ac k s.2.2.1 s.2.2.2.1 s.2.2.2.2 σ) : ∃ τ, SG ac (k + 1) (mkS (om ac (wm ac n) k) (wrS (wm ac n) k s)).2.2.1 (mkS (om ac (wm ac n) k) (wrS (wm ac n) k s)).2.2.2.1 (mkS (om ac (wm ac n) k) (wrS (wm ac n) k s)).2.2.2.2 τ := by
  have hb : (wm ac n).testBit k = isw (ac k) := by rw [wm_bit]; simp [hk]
  have hpre := h.pre
  obtain ⟨p, P, q, E, rc⟩ := s
  dsimp only at h hpre
  obtain ⟨h1, h2, h3, h4, h5, h6, h7, h8⟩ := h
  have hq := h3 q (Nat.le_refl _)
  -- one more act in the last stretch
  have more : ∀ E', blf ac (k + 1) = blf ac k → eS ac (k + 1) = eS ac k → (∀ e, e < q → E' e = E e) → E' q = wr ac (σ q) (k + 1 - σ q) → SG ac (k + 1) q E' rc (setA σ (q + 1) (k + 1)) := by
    intro E' e1 e2 e3 e4
    have s0 : ∀ e, e ≤ q → setA σ (q + 1) (k + 1) e = σ e := fun e he => setA_n _ _ (by omega)
    have s1 : setA σ (q + 1) (k + 1) (q + 1) = k + 1 := setA_s _ _ _
    refine ⟨?_, s1, fun e he => ?_, ?_, fun e he => ?_, fun e he x => ?_, ?_, fun e he => ?_⟩
    · rw [s0 0 (by omega), h1, e1]
    · rw [s0 e he]
      by_cases hx : e = q
      · subst hx; rw [s1]; omega
      · rw [s0 _ (by omega)]; exact h3 e he
    · rw [s0 0 (by omega)]; exact h4
    · rw [s0 e he]
      by_cases hx : e = q
      · subst hx; rw [s1]; exact e4
      · rw [s0 _ (by omega), e3 e (by omega)]; exact h5 e he
    · rw [s0 e he]
      by_cases hx : e = q
      · subst hx
        rw [s1]
        intro x1 x2
        by_cases hxx : x = k
        · subst hxx; exact h7
        · exact h6 e he x x1 (by omega)
      · rw [s0 _ (by omega)]; exact h6 e he x
    · rw [s0 q (Nat.le_refl _), e2]; exact h7
    · rw [s0 e (by omega), s0 (e + 1) (by omega)]; exact h8 e he
  have hk1 : k + 1 - σ q = k - σ q + 1 := by omega
  have hk2 : σ q + (k - σ q) = k := by omega
  have hE := h5 q (Nat.le_refl _)
  rw [h2] at hE
  cases hw : isw (ac k) with
  | true =>
    obtain ⟨g1, g2, g3⟩ := isw_ise hw
    have hom : om ac (wm ac n) k = 0 := by unfold om; rw [if_pos (hb.trans hw)]
    rw [hom, mkS_0]
    unfold wrS
    rw [if_pos (hb.trans hw)]
    dsimp only
    refine ⟨_, more _ ?_ ?_ (fun e he => setA_n _ _ (by omega)) ?_⟩
    · simp [blf, g2]
    · simp [eS, g1]
    · rw [setA_s]
      show E q ||| 2 ^ k = _
      rw [hE, hk1, ← wr_or ac (σ q) (k - σ q) (by rw [hk2]; exact hw), hk2]
  | false =>
    have hwr : wrS (wm ac n) k ((p, P, q, E, rc) : ST) = (p, P, q, E, rc) := by
      unfold wrS
      rw [if_neg (by rw [hb, hw]; decide)]
    rw [hwr]
    have hno : wr ac (σ q) (k + 1 - σ q) = wr ac (σ q) (k - σ q) := by
      rw [hk1]; exact wr_no ac _ _ (by rw [hk2]; exact hw)
    have hnb : ¬ (wm ac n).testBit k = true := by rw [hb, hw]; decide
    by_cases a2 : ac k 0 = 2
    · have hom : om ac (wm ac n) k = 1 := by unfold om; rw [if_neg hnb, if_pos a2]
      rw [hom]
      unfold mkS
      dsimp only
      rw [if_neg (by decide), if_neg (by decide)]
      dsimp only
      have hise : ise (ac k) = true := by simp [ise, a2]
      have e1 : blf ac (k + 1) = blf ac k := by simp [blf, a2]
      have e2 : eS ac (k + 1) = k + 1 := by simp [eS, hise]
      obtain ⟨τ, t1, t2⟩ : ∃ τ : Nat → Nat, (∀ e, e ≤ q → τ e = σ e) ∧ ∀ e, q < e → τ e = k + 1 := ⟨fun e => if e ≤ q then σ e else k + 1, fun e he => if_pos he, fun e he => if_neg (by omega)⟩
      have t3 : τ (q + 1) = k + 1 := t2 _ (by omega)
      have t4 : τ (q + 1 + 1) = k + 1 := t2 _ (by omega)
      have t5 : τ q = σ q := t1 _ (Nat.le_refl _)
      have cs : ∀ e, e ≤ q + 1 → (e < q ∧ τ e = σ e ∧ τ (e + 1) = σ (e + 1)) ∨ e = q ∨ e = q + 1 := fun e he => by
        by_cases hx : e < q
        · exact Or.inl ⟨hx, t1 e (by omega), t1 (e + 1) (by omega)⟩
        · omega
      refine ⟨τ, ?_, t4, fun e he => ?_, ?_, fun e he => ?_, fun e he x x1 x2 => ?_, ?_, fun e he => ?_⟩
      · rw [t1 0 (by omega), h1, e1]
      · rcases cs e he with ⟨c1, c2, c3⟩ | rfl | rfl
        · rw [c2, c3]; exact h3 e (by omega)
        · rw [t5, t3]; omega
        · rw [t3, t4]; exact Nat.le_refl _
      · rw [t1 0 (by omega)]; exact h4
      · rcases cs e he with ⟨c1, c2, c3⟩ | rfl | rfl
        · rw [c2, c3, setA_n _ _ (by omega)]; exact h5 e (by omega)
        · rw [t5, t3, setA_n _ _ (by omega), hno]; exact hE
        · rw [t3, t4, setA_s, Nat.sub_self]; rfl
      · rcases cs e he with ⟨c1, c2, c3⟩ | rfl | rfl
        · rw [c2] at x1 ⊢; rw [c3] at x2; exact h6 e (by omega) x x1 x2
        · rw [t5] at x1 ⊢; rw [t3] at x2
          by_cases hxx : x = k
          · subst hxx; exact h7
          · exact h6 e (Nat.le_refl _) x x1 (by omega)
        · omega
      · rw [t3]; exact e2
      · rcases cs e (by omega) with ⟨c1, c2, c3⟩ | rfl | rfl
        · rw [c2, c3]; exact h8 e c1
        · rw [t5, t3]; exact ⟨by omega, hise⟩
        · omega
    · by_cases a3 : ac k 0 = 3
      · have hom : om ac (wm ac n) k = 2 := by unfold om; rw [if_neg hnb, if_neg a2, if_pos a3]
        rw [hom]
        unfold mkS
        dsimp only
        rw [if_neg (by decide), if_pos rfl]
        dsimp only
        have hise : ise (ac k) = true := by simp [ise, a3]
        refine ⟨fun _ => k + 1, by simp [blf, a3], rfl, fun e _ => Nat.le_refl _, ?_, fun e he => ?_, fun e _ x (x1 : k + 1 ≤ x) (x2 : x < k + 1) => by omega, by simp [eS, hise], fun e he => by omega⟩
        · rw [hpre (q + 1) (Nat.le_refl _), h2]
          simp [wm, hw]
        · rw [show e = 0 by omega, setA_s, Nat.sub_self]; rfl
      · have hom : om ac (wm ac n) k = 0 := by unfold om; rw [if_neg hnb, if_neg a2, if_neg a3]
        rw [hom, mkS_0]
        refine ⟨_, more E ?_ ?_ (fun e he => rfl) (by rw [hno]; exact hE)⟩
        · simp [blf, a3]
        · simp [eS, ise, a2, a3]
theorem SG_all : ∀ {k : Nat}, k ≤ n → ∃ σ, SG ac k (gS ac (wm ac n) (fun _ => 0) k).2.2.1 (gS ac (wm ac n) (fun _ => 0) k).2.2.2.1 (gS ac (wm ac n) (fun _ => 0) k).2.2.2.2 σ
  | 0, _ => ⟨_, SG_0⟩
  | k + 1, h => by
    obtain ⟨σ, hσ⟩ := SG_all (k := k) (by omega)
    simp only [gS]
    rw [mkS_0]
    exact SG_st h hσ
theorem eE_sp (ac : Nat → Ac) : ∀ (m i : Nat), (∀ y, i ≤ y → y < eE ac i m → ise (ac y) = false) ∧ (eE ac i m = i + m ∨ ise (ac (eE ac i m)) = true)
  | 0, i => ⟨fun y h1 h2 => by simp only [eE] at h2; omega, Or.inl rfl⟩
  | m + 1, i => by
    obtain ⟨h1, h2⟩ := eE_sp ac m (i + 1)
    simp only [eE]
    cases hi : ise (ac i) with
    | true =>
      rw [if_pos rfl]
      exact ⟨fun y a b => by omega, Or.inr hi⟩
    | false =>
      rw [if_neg (by decide)]
      refine ⟨fun y a b => ?_, ?_⟩
      · by_cases hx : y = i
        · subst hx; exact hi
        · exact h1 y (by omega) b
      · rcases h2 with h2 | h2
        · left; omega
        · exact Or.inr h2
section
variable {q : Nat} {E : Nat → Nat} {rc : Nat} {σ : Nat → Nat}
theorem SG.at (h : SG ac n q E rc σ) {e i : Nat} (he : e ≤ q) (hb : (E e).testBit i = true) : σ e ≤ i ∧ i < σ (e + 1) ∧ isw (ac i) = true ∧ eS ac i = σ e := by
  have hm := h.2.2.1 e he
  rw [h.2.2.2.2.1 e he, wr_bit] at hb
  simp at hb
  exact ⟨hb.1.1, by omega, hb.2, h.2.2.2.2.2.1 e he i hb.1.1 (by omega)⟩
theorem SG.ep (h : SG ac n q E rc σ) {e i : Nat} (he : e ≤ q) (h1 : σ e ≤ i) (h2 : i < σ (e + 1)) (hi : i < n) : E e = wr ac (σ e) (eE ac i (n - i) - σ e) := by
  obtain ⟨b1, b2⟩ := eE_b ac (n - i) i
  obtain ⟨c1, c2⟩ := eE_sp ac (n - i) i
  have hm := h.2.2.1 e he
  have htop : σ (e + 1) ≤ n := by
    have := h.mono (a := e + 1) (m := q - e) (by omega)
    rw [show e + 1 + (q - e) = q + 1 by omega, h.2.1] at this
    exact this
  rw [h.2.2.2.2.1 e he]
  refine bits_eq fun x => ?_
  rw [wr_bit, wr_bit]
  simp only [Bool.and_eq_true, decide_eq_true_eq]
  constructor
  · rintro ⟨⟨x1, x2⟩, x3⟩
    refine ⟨⟨x1, ?_⟩, x3⟩
    refine Classical.byContradiction fun hh => ?_
    have hE : eE ac i (n - i) ≤ x := by omega
    rcases c2 with c2 | c2
    · omega
    · have hne : eE ac i (n - i) ≠ x := fun q => by
        rw [q] at c2
        have := (isw_ise x3).1
        rw [c2] at this; cases this
      have := h.2.2.2.2.2.1 e he (eE ac i (n - i) + 1) (by omega) (by omega)
      simp only [eS, c2, if_true] at this
      omega
  · rintro ⟨⟨x1, x2⟩, x3⟩
    refine ⟨⟨x1, ?_⟩, x3⟩
    refine Classical.byContradiction fun hh => ?_
    by_cases hx : e = q
    · subst hx
      have := h.2.1
      omega
    · obtain ⟨g1, g2⟩ := h.2.2.2.2.2.2.2 e (by omega)
      have := c1 (σ (e + 1) - 1) (by omega) (by omega)
      rw [g2] at this; cases this
theorem SG.get (h : SG ac n q E rc σ) {i : Nat} (hi : i < n) (h1 : blf ac n ≤ i) : ∃ e, e ≤ q ∧ σ e ≤ i ∧ i < σ (e + 1) := by
  have hl : ∀ m, m ≤ q + 1 → i < σ m → ∃ e, e ≤ q ∧ σ e ≤ i ∧ i < σ (e + 1) := by
    intro m
    induction m with
    | zero => intro _ hh; rw [h.1] at hh; omega
    | succ m ih =>
      intro hm hh
      by_cases hx : i < σ m
      · exact ih (by omega) hx
      · exact ⟨m, by omega, by omega, hh⟩
  exact hl (q + 1) (Nat.le_refl _) (by rw [h.2.1]; exact hi)
theorem SG.uniq (h : SG ac n q E rc σ) {e e' i : Nat} (he : e ≤ q) (he' : e' ≤ q) (hlt : e < e') (h1 : σ e ≤ i) (h2 : i < σ (e + 1)) : σ e < σ e' := by
  have := h.mono (a := e + 1) (m := e' - (e + 1)) (by omega)
  rw [show e + 1 + (e' - (e + 1)) = e' by omega] at this
  omega
theorem SG.both (h : SG ac n q E rc σ) {i j : Nat} (hi : i < n) (hj : j < n) (wi : isw (ac i) = true) (wj : isw (ac j) = true) : (∃ e, e ≤ q ∧ (E e).testBit i = true ∧ (E e).testBit j = true) ↔ (eS ac i = eS ac j ∧ blf ac n ≤ eS ac i) := by
  constructor
  · rintro ⟨e, he, b1, b2⟩
    obtain ⟨x1, x2, x3, x4⟩ := h.at he b1
    obtain ⟨y1, y2, y3, y4⟩ := h.at he b2
    refine ⟨x4.trans y4.symm, ?_⟩
    rw [x4, ← h.1]
    have := h.mono (a := 0) (m := e) (by omega)
    rw [Nat.zero_add] at this
    exact this
  · rintro ⟨h1, h2⟩
    have li := eS_le ac i
    have lj := eS_le ac j
    obtain ⟨e, he, x1, x2⟩ := h.get hi (by omega)
    obtain ⟨e', he', y1, y2⟩ := h.get hj (by omega)
    have ei := h.2.2.2.2.2.1 e he i x1 x2
    have ej := h.2.2.2.2.2.1 e' he' j y1 y2
    have hee : e = e' := by
      rcases Nat.lt_trichotomy e e' with q1 | q1 | q1
      · have := h.uniq he he' q1 x1 x2; omega
      · exact q1
      · have := h.uniq he' he q1 y1 y2; omega
    subst hee
    refine ⟨e, he, ?_, ?_⟩
    · rw [h.2.2.2.2.1 e he, wr_bit]; simp [wi]; omega
    · rw [h.2.2.2.2.1 e he, wr_bit]; simp [wj]; omega
end
theorem fb_ct_rev (b : Nat → Bool) : ∀ M, fb_ct (fun t => b (M - 1 - t)) M = fb_ct b M
  | 0 => rfl
  | M + 1 => by
    have e := fb_ct_split (fun t => b (M + 1 - 1 - t)) 1 M
    rw [Nat.add_comm 1 M] at e
    rw [e, fb_ct_succ b M, ← fb_ct_rev b M, Nat.add_comm]
    congr 1
    · refine fb_ct_cong fun k _ => ?_
      show b (M + 1 - 1 - (1 + k)) = b (M - 1 - k)
      rw [show M + 1 - 1 - (1 + k) = M - 1 - k by omega]
    · show 0 + (if b (M + 1 - 1 - 0) = true then 1 else 0) = _
      rw [Nat.zero_add, Nat.sub_zero, Nat.add_sub_cancel]
end
