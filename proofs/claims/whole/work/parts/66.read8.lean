/-! ===== pure: a page read, as a rule or a step ===== -/
theorem wp_all {α β : Type} {f : MM α} {d : Dm} {P : β → Prop} {Q : β → α → Dm → Prop} (hx : ∃ p, P p) (h : ∀ p, P p → wp f d (Q p)) : wp f d (fun a d' => ∀ p, P p → Q p a d') := by
  obtain ⟨p0, h0⟩ := hx
  obtain ⟨x, d', e1, -⟩ := h p0 h0
  refine ⟨x, d', e1, fun p hp => ?_⟩
  obtain ⟨y, d2, e2, q⟩ := h p hp
  rw [e1] at e2
  cases e2
  exact q
theorem okP_0 : okP (fun _ => 0) := ⟨fun _ => Nat.zero_lt_succ 99, fun _ _ => rfl⟩
/-- the page: pn letters t -/
def PG (t : Nat → Nat) (pn : Nat) (d : Dm) : Prop := pn ≤ 60 ∧ d.1 52 1 = nI pn ∧ ∀ i, i < pn → d.1 53 i = nI (t i) ∧ t i < 128
def GQ (sp : Bool) (t : Nat → Nat) (pn : Nat) (p : Pl) (d : Dm) (z : Int32) (d' : Dm) : Prop := ∃ k a b c e, z = nI k ∧ d' = (u4 d.1 a b c e, d.2) ∧ GD sp t pn k ∧ (k = pn → ∃ q o, qs sp t pn = some (q, o) ∧ RdI sp q o pn p a b c e (vv sp p t pn))
theorem good_eq {sp : Bool} {t : Nat → Nat} {pn : Nat} {p : Pl} {d : Dm} (hR : Rf d.2.2) (hg : PG t pn d) (hp : okP p) : wp (Read_goodOf 54 52 (bI sp)) d (GQ sp t pn p d) := by
  obtain ⟨hpn, h1, h2⟩ := hg
  have ed : d = (u4 d.1 (d.1 54) (d.1 55) (d.1 56) (d.1 57), d.2.1, d.2.2) := by rw [u4_id]
  generalize hI : d.1 = I at *
  generalize hL : d.2.1 = L at *
  generalize hRR : d.2.2 = R at *
  have ed2 : d.2 = (L, R) := by rw [← hL, ← hRR]
  unfold GQ
  rw [ed2, hI]
  rw [ed]
  unfold Read_goodOf Read_begin Text_clear
  simp only [wp_mb, wp_vc, wp_gR, wp_pI, wp_pZ, wp_mp, wp_ml, zk, true_and, hR.1, u2_54, u2_55]
  refine ⟨Or.inl trivial, bI_01' sp, ?_⟩
  unfold Read_goodOf_7
  refine wp_up (fun k s dd => s = nI k ∧ ∃ a b c e q o, dd = (u4 I a b c e, L, R) ∧ qs sp t k = some (q, o) ∧ RdI sp q o k p a b c e (vv sp p t k)) pn ?_ (i := 0) (by omega) ⟨rfl, _, _, _, _, 0, 0, rfl, rfl, ?_, ?_⟩
  · intro k s dd hk ⟨e1, a, b, c, e, q, o, e2, hq, hI2⟩
    subst e1; subst e2
    unfold Read_goodOf_7_b
    have n52 : u4 I a b c e 52 1 = nI pn := by rw [u4_n (by omega)]; exact h1
    simp only [wp_mb, wp_gI, zk, true_and, n52]
    by_cases hx : k = pn
    · subst hx
      rw [if_pos (nI_le (Nat.le_refl _) (by omega))]
      simp only [wp_mr, wp_mp]
      exact ⟨k, a, b, c, e, rfl, rfl, ⟨Nat.le_refl _, ⟨_, hq⟩, Or.inl rfl⟩, fun _ => ⟨q, o, hq, hI2⟩⟩
    · rw [if_neg (nI_ge (by omega) (by omega))]
      obtain ⟨l1, l2⟩ := h2 k (by omega)
      have n53 : u4 I a b c e 53 k = nI (t k) := by rw [u4_n (by omega)]; exact l1
      simp only [wp_mb, wp_gR, wp_aI, wp_vc, zk, zl, true_and, hR.1, nI_clamp (show k < 2 ^ 31 by omega), n53]
      refine ⟨ib_nI (by omega) (by omega), ?_⟩
      refine wp_mono (takes_eq hR hI2 (qs_le hq).1 (by omega) l2 (vv_sm hp hq)) (fun z d' ⟨a', b', c', e', e3, h3⟩ => ?_)
      subst e3
      cases hn : nx sp q o (t k) with
      | none =>
        rw [hn] at h3
        have h3' : z = 0 := h3
        rw [if_pos h3']
        simp only [wp_mr, wp_mp]
        exact ⟨k, a', b', c', e', rfl, rfl, ⟨hk, ⟨_, hq⟩, Or.inr (qs_none hq hn)⟩, fun hh => absurd hh hx⟩
      | some q' =>
        rw [hn] at h3
        have h3' : z = 1 ∧ RdI sp q' (nxO o (t k)) (k + 1) p a' b' c' e' (vst p q (t k) (vv sp p t k)) := h3
        rw [if_neg (show ¬ z = 0 by rw [h3'.1]; decide)]
        simp only [wp_ml, wp_mp, nI_1]
        refine ⟨by omega, trivial, a', b', c', e', q', nxO o (t k), rfl, qs_some hq hn, ?_⟩
        have := h3'.2
        simp only [vv]
        rw [sq_eq hq]
        exact this
  · simp [setA, nq]
    rfl
  · refine ⟨0, ⟨?_, ?_, trivial, ?_, rfl, ?_⟩, ?_, fun hh => by omega, fun hh => by omega, fun hh => by omega, fun _ => rfl, fun _ => rfl, fun hh => by omega, fun hh => by omega, fun hh => by omega⟩
    · simp [setA]; rfl
    · simp [setA, wg, wt]; rfl
    · simp [setA]; rfl
    · simp [setA]
    · simp [wg, wt]
def o8 (C : Prop) (x : Option Nat) : Prop := ∀ q, x = some q → 8 ≤ q → C
theorem o8_ite {C c : Prop} [Decidable c] {x y : Option Nat} (h1 : c → o8 C x) (h2 : ¬ c → o8 C y) : o8 C (if c then x else y) := by
  by_cases h : c
  · rw [if_pos h]; exact h1 h
  · rw [if_neg h]; exact h2 h
theorem o8_none {C : Prop} : o8 C none := fun q h => by cases h
theorem o8_some {C : Prop} {n : Nat} (h : n < 8) : o8 C (some n) := fun q e h2 => by cases e; omega
theorem nx_low {sp : Bool} {q o x z : Nat} (hq : q < 8) (h : nx sp q o x = some z) (h8 : 8 ≤ z) : o = 0 ∧ x = 58 := by
  have key : o8 (o = 0 ∧ x = 58) (nx sp q o x) := by
    unfold nx nxC
    repeat' (refine o8_ite (fun _ => ?_) (fun _ => ?_))
    all_goals first | exact o8_none | exact o8_some (by omega) | exact fun _ _ _ => by omega
  exact key z h h8
theorem nx_high {sp : Bool} {q o x z : Nat} (hq : 8 ≤ q) (hq2 : q ≤ 12) (h : nx sp q o x = some z) : x ≠ 40 := by
  intro hx
  subst hx
  have hc : q = 8 ∨ q = 9 ∨ q = 10 ∨ q = 11 ∨ q = 12 := by omega
  rcases hc with rfl | rfl | rfl | rfl | rfl <;> simp [nx, isL, isD] at h
theorem qs_8 {sp : Bool} {t : Nat → Nat} : ∀ {k q o : Nat}, qs sp t k = some (q, o) → 8 ≤ q → o = 0
  | 0, q, o, h, hq => by simp only [qs] at h; cases h; rfl
  | k + 1, q, o, h, hq => by
    obtain ⟨⟨q0, o0⟩, h0⟩ := qs_back h (Nat.le_succ k)
    obtain ⟨q1, hn, h1⟩ := qs_go h (Nat.lt_succ_self k) h0
    rw [h] at h1
    have e1 : q = q1 ∧ o = nxO o0 (t k) := by
      have := Option.some.inj h1
      exact ⟨congrArg Prod.fst this, congrArg Prod.snd this⟩
    by_cases h8 : 8 ≤ q0
    · have h3 := qs_8 h0 h8
      have h4 := nx_high h8 (qs_le h0).1 hn
      rw [e1.2, h3]
      unfold nxO
      rw [if_neg h4]
      split <;> rfl
    · obtain ⟨h3, h4⟩ := nx_low (by omega) hn (by omega)
      rw [e1.2, h4, nxO_o (by decide) (by decide)]
      exact h3
theorem wt_len : ∀ g : List Gr, g.length ≤ (wt g).length
  | [] => Nat.zero_le _
  | G :: g => by
    have := wt_len g
    simp only [wt, List.length_cons, List.length_append]
    omega
section
variable {I : Nat → Nat → Int32} {a b c e : Nat → Int32} {L : Nat → Nat → Int64} {R : Nat → Nat → Nat}
/-- a rule's code, and a step's -/
def RW (q : Nat) (p : Pl) (s : VS) (I : Nat → Nat → Int32) (L : Nat → Nat → Int64) (R : Nat → Nat → Nat) (d' : Dm) : Prop := ∃ a' b' c' e' rs, d' = (u4 I a' b' c' e', L, R) ∧ rs ≤ 60 ∧ b' 2 = nI rs ∧ hb (tE c' p rs) = rvV q s
theorem whole_0 (hR : Rf R) {q o k : Nat} {p : Pl} {s : VS} (h : RdI false q o k p a b c e s) (hq : q ≤ 12) (hk : k ≤ 60) (hsm : vsm k s) : wp (Read_isWhole 54) (u4 I a b c e, L, R) (fun z d' => (z = 0 ∧ ¬ (o = 0 ∧ 5 ≤ q ∧ q ≤ 7) ∧ ∃ a' b' c' e', d' = (u4 I a' b' c' e', L, R)) ∨ (z = 1 ∧ (o = 0 ∧ 5 ≤ q ∧ q ≤ 7) ∧ RW q p s I L R d')) := by
  obtain ⟨⟨o1, a1, n1⟩, g, T, U, m, y, Rl, v, tg⟩ := s
  obtain ⟨ha4, sz, ⟨h1, h2, h3, h4, h5, h6⟩, hk2, hm, hr, hn7, hT, hE, -, -, -⟩ := h
  have hok : o ≤ (wg (o1, a1, n1) ++ wt g).length := by
    have := wt_len g
    rw [List.length_append]
    omega
  have hb2 := bits_len2 (o1, a1, n1) g
  have hbl := bits_len g
  have hwl : ∀ n, (wg (o1, a1, n) ++ wt g).length = (wg (o1, a1, n)).length + (wt g).length := fun n => by simp
  -- behind the closing of a comparison
  have fin : ∀ (a2 b2 c2 : Nat → Int32) (s2 : Nat) (v2 : Bool), 5 ≤ q → q ≤ 7 → RdC p a2 b2 c2 e (wg (o1, a1, 0) ++ wt g) s2 (v2 :: (bg (o1, a1, 0) ++ bits g)) 0 → a2 4 = nI 4 → a2 3 = nI o → s2 + (wg (o1, a1, 0) ++ wt g).length ≤ 60 → rvV q ((o1, a1, n1), g, T, U, m, y, Rl, v, tg) = orv o1 (anv a1 v2) → wp (Read_isWhole_63 54) (u4 I a2 b2 c2 e, L, R) (fun z d' => (z = 0 ∧ ¬ (o = 0 ∧ 5 ≤ q ∧ q ≤ 7) ∧ ∃ a' b' c' e', d' = (u4 I a' b' c' e', L, R)) ∨ (z = 1 ∧ (o = 0 ∧ 5 ≤ q ∧ q ≤ 7) ∧ RW q p ((o1, a1, n1), g, T, U, m, y, Rl, v, tg) I L R d')) := by
    intro a2 b2 c2 s2 v2 q5 q7 hC f4 f3 fs hv
    unfold Read_isWhole_63
    simp only [wp_mb, wp_gI, zk, true_and, u4_54, f4]
    rw [if_pos (show nI 4 = (4 : Int32) from rfl)]
    simp only [wp_mb, wp_gI, zk, true_and, u4_54, f3]
    have := hwl 0
    by_cases ho : o = 0
    · rw [if_pos (show nI o = (0 : Int32) by rw [ho]; rfl)]
      simp only [wp_mb, wp_vc, zk, true_and]
      have hg0 : g = [] := List.eq_nil_of_length_eq_zero (by omega)
      have hbg : (bits g).length = 0 := by rw [hg0]; rfl
      refine wp_mono (closeT hR hC fs (by omega) ⟨(wt_head g).1, (wt_head g).2.1⟩) (fun _ d1 ⟨a3, b3, c3, s3, e3, g1, g2, g3, g4, g5⟩ => ?_)
      subst e3
      unfold Text_endRule
      simp only [wp_mb, wp_vc, wp_gR, wp_gI, wp_pI, wp_mp, wp_mz, zk, true_and, hR.1, u4_55, u2_55, g1.2.2.1]
      refine ⟨Or.inr trivial, Or.inr ⟨⟨ho, q5, q7⟩, _, _, _, _, s3, rfl, by omega, setA_s _ _ _, ?_⟩⟩
      rw [g1.2.2.2, hv]
      exact hb_sN (by omega)
    · rw [if_neg (nI_ne0 (by omega) (by omega)), wp_mz]
      exact ⟨Or.inl rfl, Or.inl ⟨rfl, fun hh => ho hh.1, _, _, _, _, rfl⟩⟩
  have no : ∀ n, a 4 = nI n → n ≠ 4 → n < 10 → ¬ (5 ≤ q ∧ q ≤ 7) → wp (Read_isWhole_63 54) (u4 I a b c e, L, R) (fun z d' => (z = 0 ∧ ¬ (o = 0 ∧ 5 ≤ q ∧ q ≤ 7) ∧ ∃ a' b' c' e', d' = (u4 I a' b' c' e', L, R)) ∨ (z = 1 ∧ (o = 0 ∧ 5 ≤ q ∧ q ≤ 7) ∧ RW q p ((o1, a1, n1), g, T, U, m, y, Rl, v, tg) I L R d')) := by
    intro n f4 hn hn2 hq5
    unfold Read_isWhole_63
    simp only [wp_mb, wp_gI, zk, true_and, u4_54, f4]
    rw [if_neg (show ¬ nI n = (4 : Int32) from fun q => hn ((nI_eq (b := 4) (by omega) (by omega)).mp q)), wp_mz]
    exact ⟨Or.inl rfl, Or.inl ⟨rfl, fun hh => hq5 hh.2, _, _, _, _, rfl⟩⟩
  have e8 : a 8 = 0 := h6
  unfold Read_isWhole Read_isWhole_16
  simp only [wp_mb, wp_gI, zk, true_and, u4_54, ha4]
  have hc : (q = 2 ∨ q = 3 ∨ q = 11 ∨ q = 12) ∨ (q = 5 ∨ q = 6) ∨ q = 7 ∨ (q = 0 ∨ q = 1 ∨ q = 4 ∨ q = 8 ∨ q = 9 ∨ q = 10) := by omega
  have b1 : (q = 2 ∨ q = 3 ∨ q = 11 ∨ q = 12) ∨ (q = 5 ∨ q = 6) → ∀ Q, wp (Read_isWhole_21 54 (1 : Int32)) (u4 I a b c e, L, R) Q → wp (if nI (nq q) = (2 : Int32) then Read_isWhole_21 54 (1 : Int32) else mb (gI ZF 7 4 54) fun x8 => if x8 = (3 : Int32) then Read_isWhole_21 54 (1 : Int32) else Read_isWhole_21 54 (0 : Int32)) (u4 I a b c e, L, R) Q := by
    intro hqq Q hw
    by_cases h2 : nI (nq q) = (2 : Int32)
    · rw [if_pos h2]; exact hw
    · rw [if_neg h2]
      simp only [wp_mb, wp_gI, zk, true_and, u4_54, ha4]
      have h3 : nI (nq q) = (3 : Int32) := by
        rcases hqq with (rfl | rfl | rfl | rfl) | (rfl | rfl)
        · rfl
        · exact absurd rfl h2
        · rfl
        · exact absurd rfl h2
        · rfl
        · exact absurd rfl h2
      rw [if_pos h3]
      exact hw
  have b0 : ¬ ((q = 2 ∨ q = 3 ∨ q = 11 ∨ q = 12) ∨ (q = 5 ∨ q = 6)) → ∀ Q, wp (Read_isWhole_63 54) (u4 I a b c e, L, R) Q → wp (if nI (nq q) = (2 : Int32) then Read_isWhole_21 54 (1 : Int32) else mb (gI ZF 7 4 54) fun x8 => if x8 = (3 : Int32) then Read_isWhole_21 54 (1 : Int32) else Read_isWhole_21 54 (0 : Int32)) (u4 I a b c e, L, R) Q := by
    intro hqq Q hw
    have hcc : q = 0 ∨ q = 1 ∨ q = 4 ∨ q = 7 ∨ q = 8 ∨ q = 9 ∨ q = 10 := by omega
    have h2 : ¬ nI (nq q) = (2 : Int32) := by rcases hcc with rfl | rfl | rfl | rfl | rfl | rfl | rfl <;> decide
    have h3 : ¬ nI (nq q) = (3 : Int32) := by rcases hcc with rfl | rfl | rfl | rfl | rfl | rfl | rfl <;> decide
    rw [if_neg h2]
    simp only [wp_mb, wp_gI, zk, true_and, u4_54, ha4]
    rw [if_neg h3]
    unfold Read_isWhole_21
    simp only [wp_mb, wp_gI, zk, true_and, u4_54, e8]
    rw [if_pos trivial]
    exact hw
  rcases hc with hc | hc | rfl | hc
  · refine b1 (Or.inl hc) _ ?_
    have h5 : ¬ a 5 = 1 := by
      rw [(hm (by omega)).2]
      rcases hc with rfl | rfl | rfl | rfl <;> decide
    unfold Read_isWhole_21
    simp only [wp_mb, wp_gI, zk, true_and, u4_54, e8, if_true]
    rw [if_neg (by decide), wp_mb, wp_gI]
    refine ⟨rfl, ?_⟩
    have e5 : (u4 I a b c e, L, R).1 54 5 = a 5 := by show u4 I a b c e 54 5 = a 5; rw [u4_54]
    rw [e5, if_neg h5]
    refine no (nq q) ha4 ?_ ?_ (by omega)
    · rcases hc with rfl | rfl | rfl | rfl <;> decide
    · rcases hc with rfl | rfl | rfl | rfl <;> decide
  · refine b1 (Or.inr hc) _ ?_
    have h5' : a 5 = 1 := by
      rw [(hm (by omega)).2]
      rcases hc with rfl | rfl <;> decide
    unfold Read_isWhole_21
    simp only [wp_mb, wp_gI, zk, true_and, u4_54, e8, if_true]
    rw [if_neg (by decide), wp_mb, wp_gI]
    refine ⟨rfl, ?_⟩
    have e5 : (u4 I a b c e, L, R).1 54 5 = a 5 := by show u4 I a b c e 54 5 = a 5; rw [u4_54]
    rw [e5, if_pos h5', wp_mb, wp_vc]
    refine ⟨rfl, ?_⟩
    have hE0 := hE (by omega)
    rw [if_neg (show ¬ q = 7 by omega)] at hE0
    rw [if_pos (by omega)] at hk2
    obtain ⟨r6, r60⟩ := hr (by omega)
    have hTb : -2147483648 ≤ T ∧ T < 2147483648 := by simp only [vsm] at hsm; omega
    refine wp_mono (closeC hR (⟨h2, h3, h1, hE0⟩ : RdC p a b c e (wg (o1, a1, n1) ++ wt g) sz (bits ((o1, a1, n1) :: g)) (Int32.ofInt T)) r6 r60 (by omega) hTb (by omega) (wt_head g).2.2) (fun _ d1 ⟨a2, b2, c2, s2, e2, q1, q2, q3, q4, q5⟩ => ?_)
    subst e2
    refine fin a2 b2 c2 s2 _ (by omega) (by omega) q1 q3 ((q2.1 3 (by omega) (by omega)).trans h4) (by omega) ?_
    simp [rvV, clo, hc]
  · refine b0 (by omega) _ ?_
    have hn0 : n1 = 0 := hn7 rfl
    subst hn0
    have hT0 := hT (by omega)
    subst hT0
    have hE0 := hE (by omega)
    rw [if_pos rfl] at hE0
    rw [if_neg (by omega)] at hk2
    exact fin a b c sz v (by omega) (by omega) ⟨h2, h3, h1, hE0⟩ ha4 h4 (by omega) (by simp [rvV, clo])
  · refine b0 (by omega) _ ?_
    refine no (nq q) ha4 ?_ ?_ (by omega)
    · rcases hc with rfl | rfl | rfl | rfl | rfl | rfl <;> decide
    · rcases hc with rfl | rfl | rfl | rfl | rfl | rfl <;> decide
end
