/-! ===== pure: the reference's plates, healing ===== -/
def MP (r n : Nat) (ac : Nat → Ac) (f : Pl) (d : Dm) : Prop := (n ≤ 12 ∧ okP f ∧ ∀ i, i < n → okA r (ac i)) ∧ d.1 65 1 = nI n ∧ (∀ s, s < 8 → d.1 66 s = nI (f s)) ∧ ∀ i, i < n → d.1 67 i = ac i 0 ∧ ∀ k, k < 4 → d.1 68 (4 * i + k) = ac i (k + 1)
def s75 (x _j : Nat) : Prop := x = 75
theorem fr_75 (d : Dm) (p : Pl) : frc s75 d (rw8 d.1 75 p, d.2) := ⟨fun x j hx => ⟨if_neg (fun q => hx q.1), rfl⟩, rfl⟩
theorem now_75 (d : Dm) (p : Pl) : nowP p (rw8 d.1 75 p, d.2) := fun s hs => rw8_row d.1 75 p hs
theorem rw8_i (I : Nat → Nat → Int32) {a b : Nat} (p : Pl) (h : b ≠ a) (j : Nat) : rw8 I a p b j = I b j := if_neg fun q => h q.1
section
variable {r n ns A : Nat} {ac : Nat → Ac} {f : Pl} {ev : Nat → Pl → Bool} {sv : Nat → Pl → Pl} {d : Dm} {p : Pl}
theorem lay_eq (hR : MRf d.2.2) {N : Nat} (hN : N < 10000000000000000) : Mod_lay 65 (lN N) d = some ((), (rw8 d.1 75 (dg 100 N), d.2)) := by
  have r75 : d.2.2 65 16 = 75 := hR.2.2.2.2.2.2.2.2.2.1
  apply wp_get
  unfold Mod_lay
  simp only [wp_ml]
  unfold Mod_lay_5
  refine wp_up (fun m s dd => s = (lN (N / 100 ^ m), nI m) ∧ dd = (fun i j => if i = 75 ∧ j < m then nI (dg 100 N j) else d.1 i j, d.2)) 8 ?_ (i := 0) (by omega) ⟨by rw [Nat.pow_zero, Nat.div_one]; rfl, by simp⟩
  intro m s dd hm ⟨e1, e2⟩
  subst e1; subst e2
  unfold Mod_lay_5_b
  dsimp only
  by_cases h8 : m = 8
  · subst h8
    rw [if_pos (by decide)]
    simp only [wp_mr, wp_mp, true_and]
    rfl
  · rw [if_neg (show ¬ (8 : Int32) ≤ nI m from nI_ge (b := 8) (by omega) (by omega))]
    have hb : N / 100 ^ m < 2 ^ 63 := Nat.lt_of_le_of_lt (Nat.div_le_self _ _) (by omega)
    have ed : (lN (N / 100 ^ m) - lN (N / 100 ^ m) / (100 : Int64) * (100 : Int64)).toInt32 = nI (dg 100 N m) := by
      rw [show (100 : Int64) = lN 100 from rfl, pk_lRem hb (by omega) (by omega), lN_i]; rfl
    simp only [wp_mb, wp_gR, wp_sI, wp_ml, wp_mp, zk, zl, true_and, r75, nI_clamp (show m < 2 ^ 31 by omega), ed]
    refine ⟨ib_nI (by omega) (by omega), by omega, ?_, ?_⟩
    · rw [show (100 : Int64) = lN 100 from rfl, pk_lDiv hb (by omega) (by omega), Nat.div_div_eq_div_mul, ← Nat.pow_succ, nI_1]
    · congr 1
      funext i j
      unfold u2
      by_cases h1 : i = 75 ∧ j = m
      · rw [if_pos h1, if_pos ⟨h1.1, by omega⟩, h1.2]
      · rw [if_neg h1]
        dsimp only
        by_cases h2 : i = 75 ∧ j < m
        · rw [if_pos h2, if_pos ⟨h2.1, by omega⟩]
        · rw [if_neg h2, if_neg (by omega)]
theorem layP (hR : MRf d.2.2) (hp : okP p) : Mod_lay 65 (lN (num p)) d = some ((), (rw8 d.1 75 p, d.2)) := by
  rw [lay_eq hR (num_lt hp)]
  have : dg 100 (num p) = p := num_inj (okP_dg (num_lt hp)) hp (num_dg (num_lt hp))
  rw [this]
theorem told_eq (hR : MRf d.2.2) (hp : okP p) (hn : nowP p d) : Mod_told 65 d = some (lN (num p), d) := by
  have r75 : d.2.2 65 16 = 75 := hR.2.2.2.2.2.2.2.2.2.1
  apply wp_get
  unfold Mod_told
  simp only [wp_ml]
  unfold Mod_told_5
  refine wp_up (fun m s dd => s = (lN (hz 100 p m), nI (8 - m) - 1) ∧ dd = d) 8 ?_ (i := 0) (by omega) ⟨rfl, rfl⟩
  intro m s dd hm ⟨e1, e2⟩
  subst e1; subst e2
  unfold Mod_told_5_b
  dsimp only
  by_cases h8 : m = 8
  · subst h8
    rw [if_pos (by decide)]
    simp only [wp_mr, wp_mp]
    exact ⟨rfl, trivial⟩
  · have e : nI (8 - m) - 1 = nI (7 - m) := by rw [show 8 - m = (7 - m) + 1 by omega]; exact nI_pred _
    rw [e, if_neg (nI_pos (by omega))]
    simp only [wp_mb, wp_gR, wp_aI, wp_ml, wp_mp, zk, zl, true_and, r75, nI_clamp (show 7 - m < 2 ^ 31 by omega), hn (7 - m) (by omega)]
    refine ⟨ib_nI (by omega) (by omega), by omega, ?_, trivial⟩
    have := hp.1 (7 - m)
    rw [show (100 : Int64) = lN 100 from rfl, lN_mul, nI_i64 (by omega), lN_add, show 8 - (m + 1) = 7 - m by omega, Int32.sub_eq_add_neg]
    simp only [hz]
    rw [Nat.mul_comm]
theorem plateM (hR : MRf d.2.2) (h : MP r n ac f d) {S : Nat} (hS : sub S (wm ac n)) (hS2 : S < 4096) : Mod_plateOf 65 (nI S) d = some (lN (num (pS ac f S n)), (rw8 d.1 75 (pS ac f S n), d.2)) := by
  obtain ⟨⟨hn, hf, hok⟩, e1, e66, eac⟩ := h
  have r75 : d.2.2 65 16 = 75 := hR.2.2.2.2.2.2.2.2.2.1
  have r66 : d.2.2 65 0 = 66 := hR.1
  have r67 : d.2.2 65 2 = 67 := hR.2.1
  have r68 : d.2.2 65 3 = 68 := hR.2.2.1
  apply wp_get
  unfold Mod_plateOf
  simp only [wp_ml]
  unfold Mod_plateOf_2
  refine wp_up (fun m s dd => s = nI m ∧ dd = (fun i j => if i = 75 ∧ j < m then nI (f j) else d.1 i j, d.2)) 8 ?_ (i := 0) (by omega) ⟨rfl, by simp⟩
  intro m s dd hm ⟨q1, q2⟩
  subst q1; subst q2
  unfold Mod_plateOf_2_b
  by_cases h8 : m = 8
  · subst h8
    rw [if_pos (by decide)]
    simp only [wp_mr, wp_ml]
    have e8 : ((fun i j => if i = 75 ∧ j < 8 then nI (f j) else d.1 i j, d.2) : Dm) = (rw8 d.1 75 f, d.2) := rfl
    rw [e8]
    unfold Mod_plateOf_28
    refine wp_up (fun i s dd => s = nI i ∧ dd = (rw8 d.1 75 (pS ac f S i), d.2)) n ?_ (i := 0) (by omega) ⟨rfl, rfl⟩
    intro i s dd hi ⟨q1, q2⟩
    subst q1; subst q2
    have hop := okP_pS hf hok hS i hi
    have e11 : rw8 d.1 75 (pS ac f S i) 65 1 = nI n := (rw8_i _ _ (by omega) _).trans e1
    unfold Mod_plateOf_28_b
    simp only [wp_mb, wp_gI, zk, true_and, e11]
    by_cases hx : i = n
    · subst hx
      rw [if_pos (nI_le (Nat.le_refl _) (by omega))]
      have hR' : MRf (rw8 d.1 75 (pS ac f S i), d.2).2.2 := hR
      simp only [wp_mr, wp_mb, wp_vc, zk, true_and, wp_eq (told_eq hR' hop (now_75 d _)), wp_mp]
    · rw [if_neg (nI_ge (by omega) (by omega))]
      obtain ⟨a0, a1⟩ := eac i (by omega)
      by_cases hb : S.testBit i = true
      · rw [if_pos ((bit_1 (by omega) (by omega)).mpr hb)]
        have hw : isw (ac i) = true := by
          have := hS i hb
          rw [wm_bit] at this
          simp at this
          exact this.2
        obtain ⟨o1, o2, o3⟩ := okA_w (hok i (by omega)) hw
        have e4 : (4 : Int32) * nI i = nI (4 * i) := by rw [show (4 : Int32) = nI 4 from rfl, pk_mul]
        have e41 : nI (4 * i) + (1 : Int32) = nI (4 * i + 1) := nI_add _ 1
        have e42 : nI (4 * i) + (2 : Int32) = nI (4 * i + 2) := nI_add _ 2
        have e43 : nI (4 * i) + (3 : Int32) = nI (4 * i + 3) := nI_add _ 3
        have b0 : ∀ I : Nat → Nat → Int32, (∀ x j, x ≠ 75 → I x j = d.1 x j) → I 67 i = ac i 0 ∧ I 68 (4 * i) = ac i 1 ∧ I 68 (4 * i + 1) = ac i 2 ∧ I 68 (4 * i + 2) = ac i 3 ∧ I 68 (4 * i + 3) = ac i 4 := fun I hI => ⟨(hI _ _ (by omega)).trans a0, (hI _ _ (by omega)).trans (a1 0 (by omega)), (hI _ _ (by omega)).trans (a1 1 (by omega)), (hI _ _ (by omega)).trans (a1 2 (by omega)), (hI _ _ (by omega)).trans (a1 3 (by omega))⟩
        have b1 := b0 (rw8 d.1 75 (pS ac f S i)) (fun x j hx => rw8_i _ _ hx j)
        have b2 := b0 (rw8 d.1 75 (pu (pS ac f S i) (cl (ac i 1)) (cl (ac i 2)))) (fun x j hx => rw8_i _ _ hx j)
        have st : u2 (rw8 d.1 75 (pS ac f S i)) 75 (cl (ac i 1)) (nI (cl (ac i 2))) = rw8 d.1 75 (pu (pS ac f S i) (cl (ac i 1)) (cl (ac i 2))) := u2_rw8 _ _ _ o1.1
        simp only [wp_mb, wp_gR, wp_aI, wp_sI, zk, zl, true_and, r75, r68, r67, e4, e41, nI_clamp (show 4 * i < 2 ^ 31 by omega), nI_clamp (show 4 * i + 1 < 2 ^ 31 by omega), nI_clamp (show i < 2 ^ 31 by omega), b1]
        rw [o1.2, o2.2]
        simp only [nI_clamp (show cl (ac i 1) < 2 ^ 31 by omega), st, b2]
        refine ⟨ib_nI (by omega) (by omega), ib_nI (by omega) (by omega), ib_nI (by omega) (by omega), ib_nI (by omega) (by omega), ?_⟩
        have fin : ∀ q : Pl, q = pS ac f S (i + 1) → wp (Mod_plateOf_103 65 (nI S) (nI i)) (rw8 d.1 75 q, d.2) (fun r d' => match r with
            | .inl a' => i < n ∧ a' = nI (i + 1) ∧ d' = (rw8 d.1 75 (pS ac f S (i + 1)), d.2)
            | .inr r => r = lN (num (pS ac f S n)) ∧ d' = (rw8 d.1 75 (pS ac f S n), d.2)) := by
          intro q hq
          subst hq
          unfold Mod_plateOf_103
          simp only [wp_ml, wp_mp, nI_1]
          exact ⟨by omega, trivial, trivial⟩
        by_cases hw1 : ac i 0 = 1
        · rw [if_pos hw1]
          obtain ⟨o4, o5⟩ := o3 hw1
          have st2 : u2 (rw8 d.1 75 (pu (pS ac f S i) (cl (ac i 1)) (cl (ac i 2)))) 75 (cl (ac i 3)) (nI (cl (ac i 4))) = rw8 d.1 75 (pu (pu (pS ac f S i) (cl (ac i 1)) (cl (ac i 2))) (cl (ac i 3)) (cl (ac i 4))) := u2_rw8 _ _ _ o4.1
          simp only [wp_mb, wp_gR, wp_aI, wp_sI, zk, zl, true_and, r75, r68, e4, e42, e43, nI_clamp (show 4 * i + 2 < 2 ^ 31 by omega), nI_clamp (show 4 * i + 3 < 2 ^ 31 by omega), b2]
          rw [o4.2.1, o5.2]
          simp only [nI_clamp (show cl (ac i 3) < 2 ^ 31 by omega), st2]
          refine ⟨ib_nI (by omega) (by omega), ib_nI (by omega) (by omega), ib_nI (by omega) (by omega), ?_⟩
          exact wp_mono (fin _ (by simp [pS, hb, lay, hw1])) (fun r d' hh => by cases r <;> exact hh)
        · rw [if_neg hw1]
          exact wp_mono (fin _ (by simp [pS, hb, lay, hw1])) (fun r d' hh => by cases r <;> exact hh)
      · rw [if_neg (fun q => hb ((bit_1 (by omega) (by omega)).mp q))]
        unfold Mod_plateOf_103
        simp only [wp_ml, wp_mp, nI_1]
        refine ⟨by omega, trivial, ?_⟩
        simp [pS, hb]
  · rw [if_neg (show ¬ (8 : Int32) ≤ nI m from nI_ge (b := 8) (by omega) (by omega))]
    have e66' : (if (66 : Nat) = 75 ∧ m < m then nI (f m) else d.1 66 m) = nI (f m) := by rw [if_neg (by omega)]; exact e66 m (by omega)
    simp only [wp_mb, wp_gR, wp_aI, wp_sI, wp_ml, wp_mp, zk, zl, true_and, r75, r66, nI_clamp (show m < 2 ^ 31 by omega)]
    refine ⟨ib_nI (by omega) (by omega), ib_nI (by omega) (by omega), by omega, nI_1 m, ?_⟩
    rw [e66']
    congr 1
    funext i j
    unfold u2
    by_cases h1 : i = 75 ∧ j = m
    · rw [if_pos h1, if_pos ⟨h1.1, by omega⟩, h1.2]
    · rw [if_neg h1]
      dsimp only
      by_cases h2 : i = 75 ∧ j < m
      · rw [if_pos h2, if_pos ⟨h2.1, by omega⟩]
      · rw [if_neg h2, if_neg (by omega)]
end
