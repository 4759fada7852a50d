/-! ===== pure: what may have reached; the first broken one ===== -/
def orN (V : Nat → Nat) (B F : Nat) : Nat → Nat
  | 0 => 0
  | m + 1 => orN V B F m ||| V (B ||| dep 12 F m)
def OV (V : Nat → Nat) (B F : Nat) : Nat := orN V B F (2 ^ pcn F 12)
theorem and_or_ne {a b D : Nat} : (a ||| b) &&& D ≠ 0 ↔ a &&& D ≠ 0 ∨ b &&& D ≠ 0 := by
  rw [Nat.and_or_distrib_right]
  constructor
  · intro h
    by_cases h1 : a &&& D = 0
    · right; intro h2; rw [h1, h2] at h; exact h rfl
    · exact Or.inl h1
  · intro h h2
    have h3 := Nat.or_eq_zero_iff.mp h2
    rcases h with h | h
    · exact h h3.1
    · exact h h3.2
theorem orN_ne {V : Nat → Nat} {B F D : Nat} : ∀ {m : Nat}, orN V B F m &&& D ≠ 0 ↔ ∃ i, i < m ∧ V (B ||| dep 12 F i) &&& D ≠ 0
  | 0 => by simp [orN]
  | m + 1 => by
    simp only [orN]
    rw [and_or_ne, orN_ne]
    constructor
    · rintro (⟨i, h1, h2⟩ | h)
      · exact ⟨i, by omega, h2⟩
      · exact ⟨m, by omega, h⟩
    · rintro ⟨i, h1, h2⟩
      by_cases e : i = m
      · subst e; exact Or.inr h2
      · exact Or.inl ⟨i, by omega, h2⟩
theorem OV_ne {V : Nat → Nat} {B F D : Nat} (hF : F < 4096) : OV V B F &&& D ≠ 0 ↔ ∃ T, sub T F ∧ V (B ||| T) &&& D ≠ 0 := by
  unfold OV
  rw [orN_ne]
  constructor
  · rintro ⟨i, -, h⟩
    exact ⟨_, sub_and.mpr (dep_and 12 F i), h⟩
  · rintro ⟨T, hT, h⟩
    obtain ⟨m, hm, e⟩ := dep_onto 12 F T hF (sub_and.mp hT)
    exact ⟨m, hm, by rw [e]; exact h⟩
theorem or_lt128 {a b : Nat} (ha : a < 128) (hb : b < 128) : a ||| b < 128 := Nat.or_lt_two_pow (n := 7) ha hb
def CE (r n : Nat) (ac : Nat → Ac) (f : Pl) (ev : Nat → Pl → Bool) (sv : Nat → Pl → Pl) (ns st : Nat) (d : Dm) : Prop := CP r n ac f d ∧ CR r ev d ∧ CH ns sv d ∧ CV (vdS ac f n ev r sv ns) st d
theorem sub_or {A B C : Nat} (h1 : sub A C) (h2 : sub B C) : sub (A ||| B) C := fun i hi => by
  rw [Nat.testBit_or, Bool.or_eq_true] at hi
  exact hi.elim (h1 i) (h2 i)
theorem sub_tr {A B C : Nat} (h1 : sub A B) (h2 : sub B C) : sub A C := fun i hi => h2 i (h1 i hi)
theorem sub_lt {A B k : Nat} (h : sub A B) (hB : B < 2 ^ k) : A < 2 ^ k := by
  rw [← sub_and.mp h]
  exact Nat.lt_of_le_of_lt Nat.and_le_right hB
section
variable {r n ns st : Nat} {ac : Nat → Ac} {f : Pl} {ev : Nat → Pl → Bool} {sv : Nat → Pl → Pl} {d : Dm}
theorem CE.fr {d' : Dm} (h : CE r n ac f ev sv ns st d) (hf : frV d d') (hc : CV (vdS ac f n ev r sv ns) st d') : CE r n ac f ev sv ns st d' := ⟨h.1.congr (fun x hx => hf.1 x (by omega) (by omega) (by omega)) (by rw [hf.2]) (by rw [hf.2]), h.2.1.congr (fun x hx => hf.1 x (by omega) (by omega) (by omega)), h.2.2.1.congr (fun x hx => hf.1 x (by omega) (by omega) (by omega)), hc⟩
theorem CE.of (h : CE r n ac f ev sv ns st d) {S : Nat} (hS : sub S (wm ac n)) : wp (Verd_of 2 (nI S)) d (fun x d' => x = nI (vdS ac f n ev r sv ns S) ∧ frV d d' ∧ CE r n ac f ev sv ns st d') := by
  have hn := h.1.1.1
  have hlt : S < 4096 := Nat.lt_of_lt_of_le (sub_lt hS (wm_lt ac n)) (p31 hn)
  exact wp_mono (of_eq h.1 h.2.1 h.2.2.1 h.2.2.2 hS hlt) (fun x d' q => ⟨q.1, q.2.1, h.fr q.2.1 q.2.2⟩)
theorem orN_lt {B F : Nat} (hr : r ≤ 6) : ∀ m, orN (vdS ac f n ev r sv ns) B F m < 128
  | 0 => by show 0 < 128; decide
  | m + 1 => or_lt128 (orN_lt hr m) (vd_lt hr)
theorem CE.each (h : CE r n ac f ev sv ns st d) {B F : Nat} (hB : sub B (wm ac n)) (hF : sub F (wm ac n)) : wp (Verd_ofEach 2 (nI B) (nI F)) d (fun x d' => x = nI (OV (vdS ac f n ev r sv ns) B F) ∧ frV d d' ∧ CE r n ac f ev sv ns st d') := by
  have hn := h.1.1.1
  have hr := h.2.1.1
  have hFl : F < 4096 := Nat.lt_of_lt_of_le (sub_lt hF (wm_lt ac n)) (p31 hn)
  unfold Verd_ofEach
  simp only [wp_mb, wp_eq (bc_eq hFl), wp_ml]
  have hpc := pcn_le 12 F
  rw [sh1 (by omega)]
  unfold Verd_ofEach_16
  refine wp_up (fun m s dd => s = (nI (orN (vdS ac f n ev r sv ns) B F m), nI (dep 12 F m), nI m) ∧ frV d dd ∧ CE r n ac f ev sv ns st dd) (2 ^ pcn F 12) ?_ (i := 0) (Nat.zero_le _) ⟨by rw [dep_0]; rfl, frV_rf d, h⟩
  intro m s dd hm ⟨e1, hf, hc⟩
  subst e1
  have h212 : 2 ^ pcn F 12 ≤ 4096 := p31 hpc
  unfold Verd_ofEach_16_b
  dsimp only
  by_cases hx : m = 2 ^ pcn F 12
  · subst hx
    rw [if_pos (nI_le (Nat.le_refl _) (by omega))]
    simp only [wp_mr, wp_mp]
    exact ⟨rfl, hf, hc⟩
  · rw [if_neg (nI_ge (by omega) (by omega))]
    rw [fa_or]
    simp only [wp_mb, wp_vc, zk, true_and]
    refine wp_mono (hc.of (S := B ||| dep 12 F m) (sub_or hB (sub_tr (sub_and.mpr (dep_and 12 F m)) hF))) (fun x d' q => ?_)
    obtain ⟨rfl, q2, q3⟩ := q
    simp only [wp_ml, wp_mb, wp_eq (nx_dep hFl), wp_mp, fa_or, nI_1]
    exact ⟨by omega, rfl, frV_tr hf q2, q3⟩
end
def ah (ac : Nat → Ac) (W : Nat) : Nat → Nat × Nat
  | 0 => (0, 0)
  | k + 1 => if W.testBit k then ((ah ac W k).1, (ah ac W k).2 ||| 2 ^ k) else if ise (ac k) then ((ah ac W k).1 ||| (ah ac W k).2, 0) else ah ac W k
def PS (ac : Nat → Ac) (W : Nat) : Nat → Nat → Prop
  | 0, T => T = 0
  | k + 1, T => if W.testBit k then PS ac W k T ∨ (∃ U, sub U (ah ac W k).2 ∧ T = (ah ac W k).1 ||| 2 ^ k ||| U) else if ac k 0 = 3 then T = (ah ac W k).1 ||| (ah ac W k).2 else PS ac W k T
def due (ac : Nat → Ac) (A k : Nat) : Nat := A ||| 64 ||| tl ac k
def BK (ac : Nat → Ac) (V : Nat → Nat) (A W k : Nat) : Prop := ∃ T, PS ac W k T ∧ V T &&& due ac A k ≠ 0
theorem ah_sub (ac : Nat → Ac) (W : Nat) : ∀ k, sub (ah ac W k).1 W ∧ sub (ah ac W k).2 W ∧ (ah ac W k).1 < 2 ^ k ∧ (ah ac W k).2 < 2 ^ k
  | 0 => ⟨fun i hi => by simp [ah] at hi, fun i hi => by simp [ah] at hi, by simp [ah], by simp [ah]⟩
  | k + 1 => by
    obtain ⟨h1, h2, h3, h4⟩ := ah_sub ac W k
    have e : 2 ^ k < 2 ^ (k + 1) := Nat.pow_lt_pow_right (by omega) (by omega)
    simp only [ah]
    split
    · next hb =>
      refine ⟨h1, sub_or h2 (fun i hi => ?_), by dsimp only; omega, Nat.or_lt_two_pow (by omega) e⟩
      rw [Nat.testBit_two_pow, decide_eq_true_eq] at hi
      rw [← hi]; exact hb
    · split
      · exact ⟨sub_or h1 h2, fun i hi => by simp at hi, Nat.or_lt_two_pow (by omega) (by omega), Nat.two_pow_pos _⟩
      · exact ⟨h1, h2, by omega, by omega⟩
theorem PS_sub {ac : Nat → Ac} {W : Nat} : ∀ {k T : Nat}, PS ac W k T → sub T W
  | 0, T, h => by rw [show T = 0 from h]; intro i hi; simp at hi
  | k + 1, T, h => by
    obtain ⟨h1, h2, h3, h4⟩ := ah_sub ac W k
    simp only [PS] at h
    split at h
    · next hb =>
      rcases h with h | ⟨U, hU, rfl⟩
      · exact PS_sub h
      · refine sub_or (sub_or h1 (fun i hi => ?_)) (sub_tr hU h2)
        rw [Nat.testBit_two_pow, decide_eq_true_eq] at hi
        rw [← hi]; exact hb
    · split at h
      · rw [h]; exact sub_or h1 h2
      · exact PS_sub h
theorem bit_and {W i : Nat} (hi : i < 31) : nI W &&& nI (2 ^ i) = if W.testBit i then nI (2 ^ i) else 0 := by
  cases h : W.testBit i with
  | false =>
    simp only [Bool.false_eq_true, if_false]
    exact (fa_bit hi).mpr h
  | true =>
    simp only [if_true]
    rw [fa_and]
    refine congrArg nI ?_
    apply Nat.eq_of_testBit_eq
    intro j
    rw [Nat.testBit_and, Nat.testBit_two_pow]
    by_cases e : i = j
    · subst e; simp [h]
    · simp [e]
section
variable {r n ns st : Nat} {ac : Nat → Ac} {f : Pl} {ev : Nat → Pl → Bool} {sv : Nat → Pl → Pl} {d : Dm}
theorem CE.first (h : CE r n ac f ev sv ns st d) {W A : Nat} (hW : sub W (wm ac n)) (hA : d.1 17 2 = nI A) (hA2 : A < 64) : wp (Verd_firstBroken 2 (nI W)) d (fun x d' => ((x = -1 ∧ ∀ k, k ≤ n → ¬ BK ac (vdS ac f n ev r sv ns) A W k) ∨ ∃ k, k ≤ n ∧ x = nI k ∧ BK ac (vdS ac f n ev r sv ns) A W k ∧ ∀ j, j < k → ¬ BK ac (vdS ac f n ev r sv ns) A W j) ∧ frV d d' ∧ CE r n ac f ev sv ns st d') := by
  have hn := h.1.1.1
  have hr := h.2.1.1
  have hR := h.1.2.2.2.2
  have hWl : W < 2 ^ 12 := Nat.lt_of_lt_of_le (sub_lt hW (wm_lt ac n)) (p31 hn)
  generalize hV : vdS ac f n ev r sv ns = V
  have hVl : ∀ S, V S < 128 := fun S => by rw [← hV]; exact vd_lt hr
  unfold Verd_firstBroken
  simp only [wp_mb, wp_gR, wp_gI, zk, true_and, hR.1, hA, wp_ml, wp_vc]
  rw [show (64 : Int32) = nI 64 from rfl, fa_or, show (0 : Int32) = nI 0 from rfl]
  refine wp_mono (h.of (S := 0) (fun i hi => by simp at hi)) (fun x d0 q => ?_)
  obtain ⟨rfl, q2, q3⟩ := q
  rw [hV]
  unfold Verd_firstBroken_26
  have htl : ∀ k, k ≤ n → tl ac k < 64 := by
    intro k hk
    induction k with
    | zero => show (0 : Nat) < 64; decide
    | succ k ih =>
      simp only [tl]
      split
      · next h4 =>
        rcases okA_t (h.1.1.2.2 k (by omega)) h4 with hc | hc
        · exact Nat.or_lt_two_pow (n := 6) (ih (by omega)) (Nat.pow_lt_pow_right (by omega) (by omega))
        · omega
      · exact ih (by omega)
  have hdl : ∀ k, k ≤ n → due ac A k < 128 := fun k hk => or_lt128 (or_lt128 (by omega) (by decide)) (Nat.lt_trans (htl k hk) (by decide))
  have test : ∀ {a b : Nat}, a < 128 → b < 128 → ((nI a &&& nI b) = 0 ↔ a &&& b = 0) := fun {a b} ha hb => by
    rw [fa_and, show (0 : Int32) = nI 0 from rfl, nI_eq (Nat.lt_of_le_of_lt Nat.and_le_left (by omega)) (by omega)]
  refine wp_up (fun i s dd => (∃ w, s = (nI (due ac A i), nI (ah ac W i).1, nI (ah ac W i).2, nI w, nI i) ∧ w < 128 ∧ (∀ D, w &&& D ≠ 0 ↔ ∃ T, PS ac W i T ∧ V T &&& D ≠ 0) ∧ (∀ j, j < i → ¬ BK ac V A W j) ∧ (0 < i → ¬ BK ac V A W i)) ∧ frV d dd ∧ CE r n ac f ev sv ns st dd) n ?_ (i := 0) (by omega) ⟨⟨V 0, by simp [due, tl, ah], hVl 0, fun D => ⟨fun hD => ⟨0, rfl, hD⟩, fun ⟨T, h1, h2⟩ => by rw [show T = 0 from h1] at h2; exact h2⟩, fun j hj => by omega, fun hj => by omega⟩, q2, q3⟩
  intro i s dd hi ⟨⟨w, e1, hw, hPw, hlt, hb0⟩, hf, hc⟩
  subst e1
  obtain ⟨a1, a2, a3, a4⟩ := ah_sub ac W i
  have hRd : Rf dd.2.2 := by rw [hf.2]; exact hR
  have hbk : BK ac V A W i ↔ w &&& due ac A i ≠ 0 := (hPw _).symm
  unfold Verd_firstBroken_26_b
  dsimp only
  simp only [wp_mb, wp_gR, wp_gI, zk, true_and, hRd.1, hc.1.2.1]
  have endd : wp (mr (α := (Int32 × Int32 × Int32 × Int32 × Int32)) (Verd_firstBroken_172 (nI (due ac A i)) (nI w))) dd (fun q d' => match q with
      | .inl a' => False
      | .inr x => (w &&& due ac A i = 0 ∧ x = -1 ∨ ¬ w &&& due ac A i = 0 ∧ x = 0) ∧ d' = dd) := by
    unfold Verd_firstBroken_172
    simp only [wp_mr, wp_ite, wp_mp, test hw (hdl i hi)]
    by_cases hz : w &&& due ac A i = 0
    · simp [hz]
    · simp [hz]
  by_cases hx : i = n
  · subst hx
    rw [if_pos (nI_le (Nat.le_refl _) (by omega))]
    refine wp_mono endd (fun q d' hq => ?_)
    cases q with
    | inl a' => exact hq.elim
    | inr x =>
      obtain ⟨hq, rfl⟩ := hq
      refine ⟨?_, hf, hc⟩
      rcases hq with ⟨hz, rfl⟩ | ⟨hz, rfl⟩
      · left
        refine ⟨rfl, fun k hk => ?_⟩
        by_cases e : k = i
        · subst e; rw [hbk]; simp [hz]
        · exact hlt k (by omega)
      · right
        by_cases e0 : i = 0
        · subst e0
          exact ⟨0, Nat.le_refl _, rfl, hbk.mpr hz, fun j hj => by omega⟩
        · exact absurd (hbk.mpr hz) (hb0 (by omega))
  · rw [if_neg (nI_ge (by omega) (by omega))]
    simp only [wp_ite, test hw (hdl i hi)]
    by_cases hz : w &&& due ac A i = 0
    · rw [if_pos hz]
      have hnb : ¬ BK ac V A W i := by rw [hbk]; simp [hz]
      obtain ⟨g1, g2, g3, g4, g5⟩ := hc.1.at (i := i) (by omega)
      simp only [wp_mb, wp_gR, wp_aR, wp_ml, zk, zl, true_and, hRd.1, nI_clamp (show i < 2 ^ 31 by omega)]
      refine ⟨ib_nI (by omega) (by omega), ?_⟩
      rw [sh1 (by omega), bit_and (by omega)]
      -- the end of a round
      have fin : ∀ (dd2 : Dm) (a e w2 D : Nat), frV d dd2 → CE r n ac f ev sv ns st dd2 → D = due ac A (i + 1) → a = (ah ac W (i + 1)).1 → e = (ah ac W (i + 1)).2 → w2 < 128 → (∀ D, w2 &&& D ≠ 0 ↔ ∃ T, PS ac W (i + 1) T ∧ V T &&& D ≠ 0) → wp (Verd_firstBroken_154 2 (nI W) (nI D) (nI a) (nI e) (nI w2) (nI i)) dd2 (fun q d' => match q with
          | .inl a' => i < n ∧ (∃ w, a' = (nI (due ac A (i + 1)), nI (ah ac W (i + 1)).1, nI (ah ac W (i + 1)).2, nI w, nI (i + 1)) ∧ w < 128 ∧ (∀ D, w &&& D ≠ 0 ↔ ∃ T, PS ac W (i + 1) T ∧ V T &&& D ≠ 0) ∧ (∀ j, j < i + 1 → ¬ BK ac V A W j) ∧ (0 < i + 1 → ¬ BK ac V A W (i + 1))) ∧ frV d d' ∧ CE r n ac f ev sv ns st d'
          | .inr x => ((x = -1 ∧ ∀ k, k ≤ n → ¬ BK ac V A W k) ∨ ∃ k, k ≤ n ∧ x = nI k ∧ BK ac V A W k ∧ ∀ j, j < k → ¬ BK ac V A W j) ∧ frV d d' ∧ CE r n ac f ev sv ns st d') := by
        intro dd2 a e w2 D hf2 hc2 e1 e2 e3 hw2 hP2
        subst e1; subst e2; subst e3
        have hbk2 : BK ac V A W (i + 1) ↔ w2 &&& due ac A (i + 1) ≠ 0 := (hP2 _).symm
        have hall : ∀ j, j < i + 1 → ¬ BK ac V A W j := fun j hj => by
          by_cases ej : j = i
          · rw [ej]; exact hnb
          · exact hlt j (by omega)
        unfold Verd_firstBroken_154
        simp only [wp_ite, test hw2 (hdl (i + 1) (by omega))]
        by_cases hz2 : w2 &&& due ac A (i + 1) = 0
        · rw [if_pos hz2]
          simp only [wp_ml, wp_mp, nI_1]
          exact ⟨by omega, ⟨w2, rfl, hw2, hP2, hall, fun _ => by rw [hbk2]; simp [hz2]⟩, hf2, hc2⟩
        · rw [if_neg hz2]
          simp only [wp_mr, wp_mp, nI_1]
          exact ⟨Or.inr ⟨i + 1, by omega, rfl, hbk2.mpr hz2, hall⟩, hf2, hc2⟩
      cases hbit : W.testBit i with
      | true =>
        have hisw : isw (ac i) = true := by
          have := hW i hbit
          rw [wm_bit] at this
          simp at this
          exact this.2
        have hne : ac i 0 ≠ 4 := by
          have : ac i 0 = 0 ∨ ac i 0 = 1 := by simpa [isw] using hisw
          intro q; rw [q] at this; exact absurd this (by decide)
        simp only [if_true]
        have h2i : 2 ^ i ≤ 4096 := p31 (by omega)
        rw [if_neg (nI_ne0 (Nat.two_pow_pos _) (by omega)), fa_or]
        have s1 : sub ((ah ac W i).1 ||| 2 ^ i) (wm ac n) := sub_or (sub_tr a1 hW) (fun j hj => by
          rw [Nat.testBit_two_pow, decide_eq_true_eq] at hj
          rw [← hj]; exact hW i hbit)
        simp only [wp_mb, wp_vc, zk, true_and]
        refine wp_mono (hc.each s1 (sub_tr a2 hW)) (fun x d2 q => ?_)
        obtain ⟨rfl, p2, p3⟩ := q
        rw [hV]
        simp only [wp_ml]
        rw [fa_or, fa_or]
        refine wp_mono (fin d2 (ah ac W i).1 ((ah ac W i).2 ||| 2 ^ i) (w ||| OV V ((ah ac W i).1 ||| 2 ^ i) (ah ac W i).2) _ (frV_tr hf p2) p3 (by simp [due, tl, hne]) (by simp [ah, hbit]) (by simp [ah, hbit]) (or_lt128 hw (by rw [← hV]; exact orN_lt hr _)) (fun D => ?_)) (fun q d' hq => by cases q <;> exact hq)
        rw [and_or_ne, hPw, OV_ne (sub_lt a2 hWl)]
        simp only [PS, hbit, if_true]
        constructor
        · rintro (⟨T, t1, t2⟩ | ⟨T, t1, t2⟩)
          · exact ⟨T, Or.inl t1, t2⟩
          · exact ⟨_, Or.inr ⟨T, t1, rfl⟩, t2⟩
        · rintro ⟨T, t1 | ⟨U, u1, rfl⟩, t2⟩
          · exact Or.inl ⟨T, t1, t2⟩
          · exact Or.inr ⟨U, u1, t2⟩
      | false =>
        simp only [Bool.false_eq_true, if_false, if_true]
        simp only [wp_mb, wp_vc, g2, true_and, wp_eq (act_ends g2), g4]
        cases hend : ise (ac i) with
        | false =>
          simp only [Bool.false_eq_true, if_false, if_true, wp_mb, wp_gI, g2, true_and, g5]
          have h3 : ac i 0 ≠ 3 := fun q => by simp [ise, q] at hend
          have hPS : ∀ T, PS ac W (i + 1) T ↔ PS ac W i T := fun T => by simp [PS, hbit, h3]
          have hah : ah ac W (i + 1) = ah ac W i := by simp [ah, hbit, hend]
          have hP2 : ∀ D, w &&& D ≠ 0 ↔ ∃ T, PS ac W (i + 1) T ∧ V T &&& D ≠ 0 := fun D => by simp only [hPS]; exact hPw D
          by_cases h4 : ac i 0 = 4
          · simp only [h4, if_true, wp_mb, wp_gI, g2, true_and, wp_ml]
            rw [hc.1.2.2.2.1 i (by omega) 1 (by omega)]
            rcases okA_t (h.1.1.2.2 i (by omega)) h4 with ⟨o1, o2⟩ | o
            · rw [o2, sh1 (by omega), fa_or]
              exact wp_mono (fin dd _ _ w _ hf hc (by simp [due, tl, h4, Nat.or_assoc]) (by rw [hah]) (by rw [hah]) hw hP2) (fun q d' hq => by cases q <;> exact hq)
            · omega
          · simp only [h4, if_false]
            exact wp_mono (fin dd _ _ w _ hf hc (by simp [due, tl, h4]) (by rw [hah]) (by rw [hah]) hw hP2) (fun q d' hq => by cases q <;> exact hq)
        | true =>
          simp only [if_true]
          rw [if_neg (by decide)]
          have h23 : ac i 0 = 2 ∨ ac i 0 = 3 := by simpa [ise] using hend
          have h4 : ac i 0 ≠ 4 := fun q => by rw [q] at h23; exact absurd h23 (by decide)
          simp only [wp_ml, wp_mb, wp_gI, g2, true_and, g5]
          rw [fa_or]
          have e1 : (ah ac W (i + 1)).1 = (ah ac W i).1 ||| (ah ac W i).2 := by simp [ah, hbit, hend]
          have e2 : (ah ac W (i + 1)).2 = 0 := by simp [ah, hbit, hend]
          unfold Verd_firstBroken_130
          by_cases h3 : ac i 0 = 3
          · simp only [h3, if_true, wp_mb, wp_vc, zk, true_and]
            refine wp_mono (hc.of (S := (ah ac W i).1 ||| (ah ac W i).2) (sub_or (sub_tr a1 hW) (sub_tr a2 hW))) (fun x d2 q => ?_)
            obtain ⟨rfl, p2, p3⟩ := q
            rw [hV]
            refine wp_mono (fin d2 _ 0 (V ((ah ac W i).1 ||| (ah ac W i).2)) _ (frV_tr hf p2) p3 (by simp [due, tl, h4]) e1.symm e2.symm (hVl _) (fun D => ?_)) (fun q d' hq => by cases q <;> exact hq)
            simp only [PS, hbit, h3, Bool.false_eq_true, if_false, if_true]
            exact ⟨fun hq => ⟨_, rfl, hq⟩, fun ⟨T, t1, t2⟩ => by rw [t1] at t2; exact t2⟩
          · simp only [h3, if_false]
            refine wp_mono (fin dd _ 0 w _ hf hc (by simp [due, tl, h4]) e1.symm e2.symm hw (fun D => ?_)) (fun q d' hq => by cases q <;> exact hq)
            simp only [PS, hbit, h3, Bool.false_eq_true, if_false]
            exact hPw D
    · rw [if_neg hz]
      refine wp_mono endd (fun q d' hq => ?_)
      cases q with
      | inl a' => exact hq.elim
      | inr x =>
        obtain ⟨hq, rfl⟩ := hq
        refine ⟨?_, hf, hc⟩
        rcases hq with ⟨hz2, rfl⟩ | ⟨hz2, rfl⟩
        · exact absurd hz2 hz
        · right
          by_cases e0 : i = 0
          · subst e0
            exact ⟨0, Nat.zero_le _, rfl, hbk.mpr hz, fun j hj => by omega⟩
          · exact absurd (hbk.mpr hz) (hb0 (by omega))
end
