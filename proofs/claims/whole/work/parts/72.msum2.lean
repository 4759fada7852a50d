/-! ===== pure: the reference's sums, whole ===== -/
def qEnd (q : Nat) : Prop := (5 ≤ q ∧ q ≤ 7) ∨ q = 11 ∨ q = 12
theorem qs_step {sp : Bool} {p : Pl} {t : Nat → Nat} {k q o q' : Nat} (h : qs sp t k = some (q, o)) (hn : nx sp q o (t k) = some q') : qs sp t (k + 1) = some (q', nxO o (t k)) ∧ vv sp p t (k + 1) = vst p q (t k) (vv sp p t k) := by
  refine ⟨qs_some h hn, ?_⟩
  simp only [vv]
  rw [sq_eq h]
theorem isU_LD {sp : Bool} {q o c q' : Nat} (hq : q = 1 ∨ q = 4 ∨ q = 10) (h : nx sp q o c = some q') : isL c = true ∨ isD c = true := by
  by_cases hl : isL c = true
  · exact Or.inl hl
  · by_cases hd : isD c = true
    · exact Or.inr hd
    · rcases hq with rfl | rfl | rfl <;> simp [nx, hl, hd] at h
/-- a unit: states and values behind it -/
theorem un_run {sp : Bool} {p : Pl} {t : Nat → Nat} {m k q o k' w : Nat} (hq : isU q) (h : qs sp t k = some (q, o)) (hk : k < m) (hc : isL (t k) = true ∨ isD (t k) = true) (hw : isL (t k) = true ∧ k' = k + 1 ∧ w = p (t k - 97) ∨ isL (t k) = false ∧ isD (sgl t m (k + 1)) = false ∧ k' = k + 1 ∧ w = t k - 48 ∨ isL (t k) = false ∧ isD (sgl t m (k + 1)) = true ∧ k' = k + 2 ∧ w = 10 * (t k - 48) + (sgl t m (k + 1) - 48)) : k < k' ∧ k' ≤ m ∧ ∃ q', qs sp t k' = some (q', o) ∧ (q' = aq q ∨ (q' = aq q + 1 ∧ isD (sgl t m k') = false)) ∧ sT (vv sp p t k') = uT q (vv sp p t k) + sgn (uM q (vv sp p t k) ^^ usd q) w ∧ sM (vv sp p t k') = uM q (vv sp p t k) ∧ sRest (vv sp p t k') = sRest (vv sp p t k) := by
  have hu := un_step (p := p) hq hc (vv sp p t k)
  obtain ⟨u1, u2, u3, u4'⟩ := hu
  have hno := LD_o (o := o) hc
  rcases hw with ⟨hl, rfl, rfl⟩ | ⟨hl, hd, rfl, rfl⟩ | ⟨hl, hd, rfl, rfl⟩
  · obtain ⟨a1, a2⟩ := qs_step (p := p) h ((nx_u hq).1 hl)
    rw [hno] at a1
    refine ⟨by omega, by omega, aq q, a1, Or.inl rfl, ?_, by rw [a2]; exact u2, by rw [a2]; exact u3⟩
    rw [a2, u1]
    unfold uval
    rw [if_pos hl]
  · have hd0 : isD (t k) = true := hc.resolve_left (by simp [hl])
    obtain ⟨a1, a2⟩ := qs_step (p := p) h ((nx_u hq).2 hl hd0)
    rw [hno] at a1
    refine ⟨by omega, by omega, aq q + 1, a1, Or.inr ⟨rfl, hd⟩, ?_, by rw [a2]; exact u2, by rw [a2]; exact u3⟩
    rw [a2, u1]
    unfold uval
    rw [if_neg (by simp [hl])]
  · have hd0 : isD (t k) = true := hc.resolve_left (by simp [hl])
    obtain ⟨a1, a2⟩ := qs_step (p := p) h ((nx_u hq).2 hl hd0)
    rw [hno] at a1
    have hk1 : k + 1 < m := by
      by_cases hh : k + 1 < m
      · exact hh
      · unfold sgl at hd
        rw [if_neg hh] at hd
        exact absurd hd (by decide)
    have e1 : sgl t m (k + 1) = t (k + 1) := if_pos hk1
    rw [e1] at hd ⊢
    obtain ⟨b1, b2⟩ := qs_step (p := p) a1 (nx_t hq hd)
    rw [LD_o (Or.inr hd)] at b1
    obtain ⟨u5, u6⟩ := u4' hl
    have hq6 : aq q + 1 = 3 ∨ aq q + 1 = 6 ∨ aq q + 1 = 12 := by
      rcases hq with rfl | rfl | rfl | rfl <;> simp [aq]
    obtain ⟨c1, c2, c3⟩ := un_two (p := p) hq6 hd (vv sp p t (k + 1))
    have e6 : decide (aq q + 1 = 6) = usd q := by
      rcases hq with rfl | rfl | rfl | rfl <;> decide
    refine ⟨by omega, by omega, aq q, b1, Or.inl rfl, ?_, ?_, ?_⟩
    · rw [b2, c1, a2, u5, u6, u2, e6]
    · rw [b2, c2, a2]; exact u2
    · rw [b2, c3, a2]; exact u3
theorem sg_val (T T0 : Int) (w : Nat) (a b : Bool) : Int32.ofInt (sgn b (T - T0)) + Int32.ofInt (sgn a 1) * nI w = Int32.ofInt (sgn b (T + sgn (a ^^ b) w - T0)) := by
  rw [nI_oI, ← Int32.ofInt_mul, ← Int32.ofInt_add]
  congr 1
  cases a <;> cases b <;> simp [sgn] <;> omega
section
variable {sb sp : Bool} {B m : Nat} {t : Nat → Nat} {d : Dm} {p : Pl}
/-- what a sum comes to -/
def SQ (sp : Bool) (p : Pl) (t : Nat → Nat) (m : Nat) (d : Dm) (k0 q0 o0 : Nat) (z : Int32) (d' : Dm) : Prop := ∃ k q, k0 < k ∧ k ≤ m ∧ d' = atM d k ∧ qs sp t k = some (q, o0) ∧ (q = aq q0 ∨ (q = aq q0 + 1 ∧ isD (sgl t m k) = false)) ∧ ¬ (sgl t m k = 43 ∨ sgl t m k = 45) ∧ sRest (vv sp p t k) = sRest (vv sp p t k0) ∧ z = Int32.ofInt (sgn (usd q0) (sT (vv sp p t k) - uT q0 (vv sp p t k0)))
theorem sum_run (h : TX sb B t m d) (hp75 : ∀ s, s < 8 → d.1 75 s = nI (p s)) {qf oe : Nat} (hf : qs sp t m = some (qf, oe)) (hqf : qEnd qf) {k0 q0 o0 : Nat} (hk0 : k0 < m) (hq0 : qs sp t k0 = some (q0, o0)) (hU : isU q0) (hc0 : isL (t k0) = true ∨ isD (t k0) = true) (hM : uM q0 (vv sp p t k0) = false) : wp (Mod_sumHere 65) (atM d k0) (SQ sp p t m d k0 q0 o0) := by
  have hm := h.2.1
  unfold Mod_sumHere
  simp only [wp_ml]
  unfold Mod_sumHere_6
  refine wp_lo (fun μ (s : Int32 × Int32 × Int32) dd => (s.2.2 = 1 ∧ ∃ k q, μ = 2 * (m - k) + 1 ∧ k0 ≤ k ∧ k < m ∧ dd = atM d k ∧ qs sp t k = some (q, o0) ∧ isU q ∧ aq q = aq q0 ∧ usd q = usd q0 ∧ uq q = uq q0 ∧ (isL (t k) = true ∨ isD (t k) = true) ∧ sRest (vv sp p t k) = sRest (vv sp p t k0) ∧ s.1 = Int32.ofInt (sgn (usd q0) (uT q (vv sp p t k) - uT q0 (vv sp p t k0))) ∧ s.2.1 = Int32.ofInt (sgn (uM q (vv sp p t k)) 1)) ∨ (s.2.2 = 0 ∧ μ = 0 ∧ SQ sp p t m d k0 q0 o0 s.1 dd)) ?_ (m := 2 * (m - k0) + 1) (Or.inl ⟨rfl, k0, q0, rfl, Nat.le_refl _, hk0, rfl, hq0, hU, rfl, rfl, rfl, hc0, rfl, ?_, ?_⟩)
  · intro μ ⟨al, fa, go⟩ dd hI
    dsimp only at hI ⊢
    rcases hI with ⟨e1, k, q, hμ, hk1, hk2, e2, hq, hUq, haq, hus, huq, hc, hr, hal, hfa⟩ | ⟨e1, -, hS⟩
    · subst e1; subst e2; subst hal; subst hfa
      obtain ⟨k', w, hw, hgo⟩ := s52 h hp75 hk2 hc (Int32.ofInt (sgn (usd q0) (uT q (vv sp p t k) - uT q0 (vv sp p t k0)))) (Int32.ofInt (sgn (uM q (vv sp p t k)) 1))
      obtain ⟨w1, w2, q', w3, w4, w5, w6, w7⟩ := un_run hUq hq hk2 hc hw
      refine hgo _ ?_
      rw [wp_eq (s97 h (by omega) _ _ _), sg_val, ← hus, ← w5]
      by_cases hs : sgl t m k' = 43 ∨ sgl t m k' = 45
      · rw [if_pos hs, if_pos hs]
        have hk3 : k' < m := by
          by_cases hh : k' < m
          · exact hh
          · unfold sgl at hs
            rw [if_neg hh] at hs
            omega
        have ek : sgl t m k' = t k' := if_pos hk3
        rw [ek] at hs ⊢
        have hdn : isD (t k') = false := by rcases hs with e | e <;> rw [e] <;> decide
        have hnx : nx sp q' o0 (t k') = some (uq q) := by
          rcases w4 with rfl | ⟨rfl, -⟩
          · exact (nx_s hUq hs).1
          · exact (nx_s hUq hs).2
        obtain ⟨a1, a2⟩ := qs_step (p := p) w3 hnx
        rw [nxO_o (by omega) (by omega)] at a1
        have huv : uq q = 1 ∨ uq q = 4 ∨ uq q = 10 := by rcases hUq with rfl | rfl | rfl | rfl <;> decide
        have hk4 : k' + 1 < m := by
          by_cases hh : k' + 1 < m
          · exact hh
          · have : k' + 1 = m := by omega
            rw [this, hf] at a1
            have := Option.some.inj a1
            have h1 : qf = uq q := congrArg Prod.fst this
            unfold qEnd at hqf
            omega
        obtain ⟨q'', a3, a4⟩ := qs_go hf hk4 a1
        have hqs : q' = 2 ∨ q' = 3 ∨ q' = 5 ∨ q' = 6 ∨ q' = 11 ∨ q' = 12 := by
          rcases w4 with e | ⟨e, -⟩ <;> rcases hUq with rfl | rfl | rfl | rfl <;> simp [aq] at e <;> omega
        obtain ⟨s1, s2, s3⟩ := un_sgn (p := p) hqs hs (vv sp p t k')
        refine ⟨2 * (m - (k' + 1)) + 1, by omega, Or.inl ⟨rfl, k' + 1, uq q, rfl, by omega, hk4, rfl, a1, ?_, ?_, ?_, ?_, isU_LD huv a3, ?_, ?_, ?_⟩⟩
        · unfold isU; omega
        · rw [← haq]; rcases hUq with rfl | rfl | rfl | rfl <;> rfl
        · rcases hUq with rfl | rfl | rfl | rfl <;> rfl
        · rw [← huq]; rcases hUq with rfl | rfl | rfl | rfl <;> rfl
        · rw [a2, s3, w7, hr]
        · rw [a2, show uT (uq q) (vst p q' (t k') (vv sp p t k')) = sT (vv sp p t k') from (if_neg (by omega)).trans s1]
        · rw [a2, show uM (uq q) (vst p q' (t k') (vv sp p t k')) = decide (t k' = 45) from (if_neg (by omega)).trans s2]
          rcases hs with e | e <;> rw [e] <;> rfl
      · rw [if_neg hs, if_neg hs]
        refine ⟨0, by omega, Or.inr ⟨rfl, rfl, k', q', by omega, w2, rfl, w3, ?_, hs, by rw [w7, hr], ?_⟩⟩
        · rw [← haq]; exact w4
        · rw [hus]
    · subst e1
      unfold Mod_sumHere_6_b
      rw [if_pos rfl]
      simp only [wp_mr, wp_mp]
      exact hS
  · rw [Int.sub_self]
    cases usd q0 <;> rfl
  · rw [hM]; rfl
end
