/-! ===== pure: the reference cuts epochs ===== -/
def sEp (x j : Nat) : Prop := x = 86 ∨ (x = 65 ∧ (j = 37 ∨ j = 38))
def EM (q : Nat) (E : Nat → Nat) (rc : Nat) (d : Dm) : Prop := d.1 65 37 = nI (q + 1) ∧ d.1 65 38 = nI rc ∧ ∀ e, e ≤ q → d.1 86 e = nI (E e)
section
variable {r n : Nat} {ac : Nat → Ac} {f : Pl} {d : Dm} {q : Nat} {E : Nat → Nat} {rc : Nat}
theorem end_41 (hR : MRf d.2.2) {m q0 : Nat} (hm : m = 1 ∨ m = 2) (h37 : d.1 65 37 = nI q0) (hq : q0 ≤ 25) : Mod_endEpoch_41 65 (nI m) d = some ((), (u2 (u2 d.1 86 q0 0) 65 37 (nI (q0 + 1)), d.2)) := by
  have r86 : d.2.2 65 36 = 86 := hR.2.2.2.2.2.2.2.2.2.2.2.2.2.2.2.2.2.2.2.2.1
  apply wp_get
  unfold Mod_endEpoch_41
  rw [if_neg (nI_nle (by omega) (by omega))]
  have e37 : u2 d.1 86 q0 0 65 37 = nI q0 := by rw [u2_a _ (by omega)]; exact h37
  simp only [wp_mb, wp_gR, wp_gI, wp_sI, wp_pI, wp_mp, zk, zl, true_and, r86, h37, nI_clamp (show q0 < 2 ^ 31 by omega), e37, nI_1]
  exact ⟨ib_nI (by omega) (by omega), trivial⟩
theorem endEpoch_eq (hR : MRf d.2.2) (h : EM q E rc d) (hq : q ≤ 24) {m : Nat} (hm : m ≤ 2) : wp (Mod_endEpoch 65 (nI m)) d (fun _ d' => frc sEp d d' ∧ ((m = 0 ∧ EM q E rc d') ∨ (m = 1 ∧ EM (q + 1) (setA E (q + 1) 0) rc d') ∨ (m = 2 ∧ EM 0 (setA E 0 0) (prE rc E (q + 1)) d'))) := by
  obtain ⟨h1, h2, h3⟩ := id h
  have r86 : d.2.2 65 36 = 86 := hR.2.2.2.2.2.2.2.2.2.2.2.2.2.2.2.2.2.2.2.2.1
  unfold Mod_endEpoch
  have hc : m = 0 ∨ m = 1 ∨ m = 2 := by omega
  rcases hc with rfl | rfl | rfl
  · rw [if_neg (by decide)]
    unfold Mod_endEpoch_41
    rw [if_pos (by decide), wp_mp]
    exact ⟨frc_rf d, Or.inl ⟨rfl, h⟩⟩
  · rw [if_neg (by decide), wp_eq (end_41 hR (Or.inl rfl) h1 (by omega))]
    refine ⟨frc_I (fr_uI d 86 _ _ (Or.inl rfl)) 65 37 _ (Or.inr ⟨rfl, Or.inl rfl⟩), Or.inr (Or.inl ⟨rfl, u2_s (u2 d.1 86 (q + 1) 0) 65 37 (nI (q + 1 + 1)), ?_, fun e he => ?_⟩)⟩
    · show u2 (u2 d.1 86 (q + 1) 0) 65 37 (nI (q + 1 + 1)) 65 38 = _
      rw [u2_k _ _ _ (by omega), u2_a _ (by omega)]; exact h2
    · show u2 (u2 d.1 86 (q + 1) 0) 65 37 (nI (q + 1 + 1)) 86 e = _
      rw [u2_a _ (by omega)]
      by_cases hx : e = q + 1
      · rw [hx, u2_s, setA_s]; rfl
      · rw [u2_k _ _ _ hx, setA_n _ _ hx]; exact h3 e (by omega)
  · rw [if_pos (by decide)]
    simp only [wp_ml]
    unfold Mod_endEpoch_7
    refine wp_up (fun e s dd => s = nI e ∧ frc sEp d dd ∧ dd.1 65 37 = nI (q + 1) ∧ dd.1 65 38 = nI (prE rc E e) ∧ ∀ e, e ≤ q → dd.1 86 e = nI (E e)) (q + 1) ?_ (i := 0) (by omega) ⟨rfl, frc_rf d, h1, h2, h3⟩
    intro e s dd he ⟨e1, hf, g1, g2, g3⟩
    subst e1
    have hR2 := MRf_fr hR hf
    have r86' : dd.2.2 65 36 = 86 := hR2.2.2.2.2.2.2.2.2.2.2.2.2.2.2.2.2.2.2.2.2.1
    unfold Mod_endEpoch_7_b
    simp only [wp_mb, wp_gI, zk, true_and, g1]
    by_cases hx : e = q + 1
    · subst hx
      rw [if_pos (nI_le (Nat.le_refl _) (by omega))]
      simp only [wp_mr, wp_mb, wp_pI, zk, true_and]
      have hf2 : frc sEp d (u2 dd.1 65 37 0, dd.2) := frc_I hf 65 37 0 (Or.inr ⟨rfl, Or.inl rfl⟩)
      have hR3 := MRf_fr hR hf2
      rw [wp_eq (end_41 hR3 (m := 2) (q0 := 0) (Or.inr rfl) (u2_s dd.1 65 37 0) (by omega))]
      refine ⟨frc_I (frc_I hf2 86 0 0 (Or.inl rfl)) 65 37 _ (Or.inr ⟨rfl, Or.inl rfl⟩), Or.inr (Or.inr ⟨u2_s (u2 (u2 dd.1 65 37 0) 86 0 0) 65 37 (nI (0 + 1)), ?_, fun e he => ?_⟩)⟩
      · show u2 (u2 (u2 dd.1 65 37 0) 86 0 0) 65 37 (nI (0 + 1)) 65 38 = _
        rw [u2_k _ _ _ (by omega), u2_a _ (by omega), u2_k _ _ _ (by omega)]; exact g2
      · have : e = 0 := by omega
        subst this
        show u2 (u2 (u2 dd.1 65 37 0) 86 0 0) 65 37 (nI (0 + 1)) 86 0 = _
        rw [u2_a _ (by omega), u2_s, setA_s]; rfl
    · rw [if_neg (nI_ge (by omega) (by omega))]
      simp only [wp_mb, wp_gR, wp_gI, wp_aI, wp_pI, wp_ml, wp_mp, zk, zl, true_and, r86', g2, nI_clamp (show e < 2 ^ 31 by omega), g3 e (by omega), nI_1, fa_or]
      refine ⟨ib_nI (by omega) (by omega), by omega, frc_I hf 65 38 _ (Or.inr ⟨rfl, Or.inr rfl⟩), ?_, ?_, fun e' he' => ?_⟩
      · rw [u2_k _ _ _ (by omega)]; exact g1
      · rw [u2_s]; rfl
      · rw [u2_a _ (by omega)]; exact g3 e' he'
/-- epochs within the writes, counted -/
def EB (ac : Nat → Ac) (n : Nat) (wa : Nat → Nat) (wn i q : Nat) (E : Nat → Nat) (rc b : Nat) : Prop := q ≤ b ∧ (∀ e, e ≤ q → sub (E e) (wm ac n)) ∧ sub rc (wm ac n) ∧ pcn (cW wa (E q) wn) 12 ≤ i ∧ cN wa wn E (q + 1) ≤ 2 ^ i + b
theorem prE_sub {A : Nat} : ∀ {e : Nat}, (∀ j, j < e → sub (E j) A) → sub rc A → sub (prE rc E e) A
  | 0, _, h => h
  | e + 1, h1, h2 => sub_or (prE_sub (fun j hj => h1 j (by omega)) h2) (h1 e (by omega))
theorem mark_eq (hR : MRf d.2.2) {wa : Nat → Nat} {wn i b : Nat} {s : ST} (h : EM q E rc d) (hE : RE q E rc s) (hB : EB ac n wa wn i q E rc b) (hb : b ≤ 24) {m : Nat} (hm : m ≤ 2) : wp (Mod_endEpoch 65 (nI m)) d (fun _ d' => frc sEp d d' ∧ ∃ q' E' rc', EM q' E' rc' d' ∧ RE q' E' rc' (mkS m s) ∧ EB ac n wa wn i q' E' rc' (b + 1)) := by
  obtain ⟨b1, b2, b3, b4, b5⟩ := hB
  have hone : 1 ≤ 2 ^ i := Nat.one_le_two_pow
  refine wp_mono (endEpoch_eq hR h (by omega) hm) (fun _ d' ⟨hf, hc⟩ => ⟨hf, ?_⟩)
  rcases hc with ⟨rfl, h1⟩ | ⟨rfl, h1⟩ | ⟨rfl, h1⟩
  · exact ⟨q, E, rc, h1, hE, by omega, b2, b3, b4, by omega⟩
  · refine ⟨q + 1, _, rc, h1, RE_bar hE, by omega, fun e he => ?_, b3, ?_, ?_⟩
    · by_cases hx : e = q + 1
      · rw [hx, setA_s]; exact sub_0 _
      · rw [setA_n _ _ hx]; exact b2 e (by omega)
    · rw [setA_s, cW_0, pcn_0]; omega
    · have e1 : cN wa wn (setA E (q + 1) 0) (q + 1 + 1) = cN wa wn E (q + 1) + 1 := by
        show cN wa wn (setA E (q + 1) 0) (q + 1) + 2 ^ pcn (cW wa (setA E (q + 1) 0 (q + 1)) wn) 12 = _
        rw [setA_s, cW_0, pcn_0, cN_cong (E := E) (fun j hj => setA_n _ _ (by omega))]
      rw [e1]; omega
  · refine ⟨0, _, _, h1, RE_fl hE, by omega, fun e he => ?_, prE_sub (fun j hj => b2 j (by omega)) b3, ?_, ?_⟩
    · have : e = 0 := by omega
      rw [this, setA_s]; exact sub_0 _
    · rw [setA_s, cW_0, pcn_0]; omega
    · have e1 : cN wa wn (setA E 0 0) (0 + 1) = 1 := by
        show cN wa wn (setA E 0 0) 0 + 2 ^ pcn (cW wa (setA E 0 0 0) wn) 12 = 1
        rw [setA_s, cW_0, pcn_0]; rfl
      rw [e1]; omega
theorem cutE_eq (hR : MRf d.2.2) (hP : MP r n ac f d) {wa : Nat → Nat} {wn : Nat} (hA : WAp ac n wa wn) {W ab : Nat} (hW : ∀ i, i < n → W.testBit i = (isw (ac i) && !ab.testBit i)) (hab : ab < 2 ^ 31) (habw : ∀ i, i < n → ab.testBit i = true → isw (ac i) = true) {pt : Nat → Nat} (hpt : ∀ i, i < 12 → d.1 85 i = nI (pt i) ∧ pt i ≤ 2) {k : Nat} (hk : k ≤ n) : wp (Mod_cutEpochs 65 (nI k) (nI ab)) d (fun _ d' => frc sEp d d' ∧ ∃ q E rc, EM q E rc d' ∧ RE q E rc (hS ac W pt k) ∧ EB ac n wa wn k q E rc (2 * k)) := by
  have hn := hP.1.1
  have r86 : d.2.2 65 36 = 86 := hR.2.2.2.2.2.2.2.2.2.2.2.2.2.2.2.2.2.2.2.2.1
  unfold Mod_cutEpochs
  simp only [wp_mb, wp_gR, wp_pI, wp_sI, wp_ml, zk, zl, true_and, r86]
  refine ⟨⟨by decide, by decide⟩, ?_⟩
  have c0 : (0 : Int32).toNatClampNeg = 0 := by decide
  rw [c0]
  unfold Mod_cutEpochs_19
  have hf0 : frc sEp d (u2 (u2 (u2 d.1 65 38 0) 65 37 1) 86 0 0, d.2) := frc_I (frc_I (fr_uI d 65 38 0 (Or.inr ⟨rfl, Or.inr rfl⟩)) 65 37 1 (Or.inr ⟨rfl, Or.inl rfl⟩)) 86 0 0 (Or.inl rfl)
  refine wp_up (fun i s dd => s = nI i ∧ frc sEp d dd ∧ ∃ q E rc, EM q E rc dd ∧ RE q E rc (if i < k then gS ac W pt i else hS ac W pt k) ∧ EB ac n wa wn i q E rc (2 * i)) k ?_ (i := 0) (by omega) ⟨rfl, hf0, 0, fun _ => 0, 0, ⟨?_, ?_, fun e he => ?_⟩, ?_, by omega, fun e he => sub_0 _, sub_0 _, ?_, ?_⟩
  · intro i s dd hi ⟨e1, hf, q, E, rc, hEM, hRE, hEB⟩
    subst e1
    have hR2 := MRf_fr hR hf
    have hP2 : MP r n ac f dd := hP.fr hf (by unfold sEp; omega) (fun j => by unfold sEp; omega) (fun j => by unfold sEp; omega) (fun j => by unfold sEp; omega)
    have r86' : dd.2.2 65 36 = 86 := hR2.2.2.2.2.2.2.2.2.2.2.2.2.2.2.2.2.2.2.2.2.1
    have r85' : ∀ {e : Dm}, MRf e.2.2 → e.2.2 65 35 = 85 := fun h => h.2.2.2.2.2.2.2.2.2.2.2.2.2.2.2.2.2.2.2.1
    have r67 : ∀ {e : Dm}, MRf e.2.2 → e.2.2 65 2 = 67 := fun h => h.2.1
    unfold Mod_cutEpochs_19_b
    by_cases hx : i = k
    · subst hx
      rw [if_pos (nI_le (Nat.le_refl _) (by omega))]
      simp only [wp_mr, wp_mp]
      rw [if_neg (by omega)] at hRE
      exact ⟨hf, q, E, rc, hEM, hRE, hEB⟩
    · rw [if_neg (nI_ge (by omega) (by omega))]
      rw [if_pos (show i < k by omega)] at hRE
      have hik : i < n := by omega
      -- the marks
      have marks : ∀ (d1 : Dm) (m : Nat) (s1 : ST) (q1 : Nat) (E1 : Nat → Nat) (rc1 : Nat), frc sEp d d1 → m ≤ 2 → EM q1 E1 rc1 d1 → RE q1 E1 rc1 s1 → EB ac n wa wn (i + 1) q1 E1 rc1 (2 * i) → mkS m s1 = hS ac W pt (i + 1) → wp (Mod_cutEpochs_108 65 (nI k) (nI ab) (nI i) (nI m)) d1 (fun r d' => match r with
          | .inl a' => i < k ∧ a' = nI (i + 1) ∧ frc sEp d d' ∧ ∃ q E rc, EM q E rc d' ∧ RE q E rc (if i + 1 < k then gS ac W pt (i + 1) else hS ac W pt k) ∧ EB ac n wa wn (i + 1) q E rc (2 * (i + 1))
          | .inr _ => frc sEp d d' ∧ ∃ q E rc, EM q E rc d' ∧ RE q E rc (hS ac W pt k) ∧ EB ac n wa wn k q E rc (2 * k)) := by
        intro d1 m s1 q1 E1 rc1 hf1 hm h1 h2 h3 h4
        have hR3 := MRf_fr hR hf1
        have fin : ∀ m2 : Nat, m2 ≤ 2 → mkS m2 (hS ac W pt (i + 1)) = (if i + 1 < k then gS ac W pt (i + 1) else hS ac W pt k) → wp (Mod_cutEpochs_127 65 (nI k) (nI ab) (nI i) (nI m) (nI m2)) d1 (fun r d' => match r with
            | .inl a' => i < k ∧ a' = nI (i + 1) ∧ frc sEp d d' ∧ ∃ q E rc, EM q E rc d' ∧ RE q E rc (if i + 1 < k then gS ac W pt (i + 1) else hS ac W pt k) ∧ EB ac n wa wn (i + 1) q E rc (2 * (i + 1))
            | .inr _ => frc sEp d d' ∧ ∃ q E rc, EM q E rc d' ∧ RE q E rc (hS ac W pt k) ∧ EB ac n wa wn k q E rc (2 * k)) := by
          intro m2 hm2 hs2
          unfold Mod_cutEpochs_127
          simp only [wp_mb, wp_vc, zk, true_and]
          refine wp_mono (mark_eq hR3 h1 h2 h3 (by omega) hm) (fun _ d2 ⟨g1, q2, E2, rc2, g2, g3, g4⟩ => ?_)
          have hR4 := MRf_fr hR3 g1
          refine wp_mono (mark_eq hR4 g2 g3 g4 (by omega) hm2) (fun _ d3 ⟨k1, q3, E3, rc3, k2, k3, k4⟩ => ?_)
          simp only [wp_ml, wp_mp, nI_1]
          rw [h4, hs2] at k3
          exact ⟨by omega, trivial, frc_t hf1 (frc_t g1 k1), q3, E3, rc3, k2, k3, by rw [show 2 * (i + 1) = 2 * i + 1 + 1 by omega]; exact k4⟩
        unfold Mod_cutEpochs_108
        have ek : nI k - (1 : Int32) = nI (k - 1) := by rw [show (1 : Int32) = nI 1 from rfl, pk_sub (by omega)]
        rw [ek]
        by_cases hlast : k - 1 ≤ i
        · rw [if_pos (nI_le hlast (by omega))]
          refine wp_mono (fin 0 (by omega) ?_) (fun r d' hh => by cases r <;> exact hh)
          rw [mkS_0, if_neg (by omega), show i + 1 = k by omega]
        · rw [if_neg (nI_ge (by omega) (by omega))]
          obtain ⟨pt1, pt2⟩ := hpt i (by omega)
          have e85 : d1.1 85 i = nI (pt i) := (hf1.i (by unfold sEp; omega)).trans pt1
          simp only [wp_mb, wp_gR, wp_aI, zk, zl, true_and, r85' hR3, nI_clamp (show i < 2 ^ 31 by omega), e85]
          refine ⟨ib_nI (by omega) (by omega), ?_⟩
          refine wp_mono (fin (pt i) pt2 ?_) (fun r d' hh => by cases r <;> exact hh)
          rw [if_pos (by omega)]
          rfl
      have hs1 : mkS (om ac W i) (wrS W i (gS ac W pt i)) = hS ac W pt (i + 1) := rfl
      obtain ⟨b1, b2, b3, b4, b5⟩ := hEB
      have h2i : 2 ^ (i + 1) = 2 ^ i + 2 ^ i := by rw [Nat.pow_succ]; omega
      -- no write: the epochs stand
      have hp1 : 0 < 2 ^ i := Nat.two_pow_pos _
      have hEBu : EB ac n wa wn (i + 1) q E rc (2 * i) := ⟨b1, b2, b3, by omega, by omega⟩
      have noW : W.testBit i = false → ∀ m, om ac W i = m → m ≤ 2 → wp (Mod_cutEpochs_108 65 (nI k) (nI ab) (nI i) (nI m)) dd (fun r d' => match r with
          | .inl a' => i < k ∧ a' = nI (i + 1) ∧ frc sEp d d' ∧ ∃ q E rc, EM q E rc d' ∧ RE q E rc (if i + 1 < k then gS ac W pt (i + 1) else hS ac W pt k) ∧ EB ac n wa wn (i + 1) q E rc (2 * (i + 1))
          | .inr _ => frc sEp d d' ∧ ∃ q E rc, EM q E rc d' ∧ RE q E rc (hS ac W pt k) ∧ EB ac n wa wn k q E rc (2 * k)) := by
        intro hw m hom hm
        refine marks dd m (gS ac W pt i) q E rc hf hm hEM hRE hEBu ?_
        rw [← hs1, hom]
        unfold wrS
        rw [if_neg (by simp [hw])]
      have a0 := (hP2.2.2.2 i hik).1
      unfold Mod_cutEpochs_37
      cases hb : ab.testBit i with
      | true =>
        have hiw := habw i hik hb
        have hWi : W.testBit i = false := by rw [hW i hik, hb]; simp
        rw [if_neg (show ¬ ((nI ab >>> (nI i &&& 31)) &&& (1 : Int32)) = 0 by rw [bit_0 hab (by omega)]; simp [hb])]
        rw [if_pos rfl]
        unfold Mod_cutEpochs_69
        rw [if_pos rfl]
        unfold Mod_cutEpochs_88
        rw [if_pos rfl]
        unfold Mod_cutEpochs_107
        have h01 : ac i 0 = 0 ∨ ac i 0 = 1 := by simpa [isw] using hiw
        refine wp_mono (noW hWi 0 ?_ (by omega)) (fun r d' hh => by cases r <;> exact hh)
        unfold om
        rw [if_neg (by simp [hWi])]
        rcases h01 with e | e <;> rw [e] <;> rfl
      | false =>
        rw [if_pos ((bit_0 hab (by omega)).mpr hb), if_neg (by decide)]
        simp only [wp_mb, wp_vc, zk, true_and, wp_eq (isWriteM hR2 hP2 hik)]
        cases hiw : isw (ac i) with
        | true =>
          have hWi : W.testBit i = true := by rw [hW i hik, hb, hiw]; rfl
          rw [if_neg (by decide)]
          have eq1 : nI (q + 1) - (1 : Int32) = nI q := nI_pred q
          obtain ⟨m1, m2, m3⟩ := hEM
          simp only [wp_mb, wp_gR, wp_gI, wp_aI, wp_sI, zk, zl, true_and, r86', m1, eq1, nI_clamp (show q < 2 ^ 31 by omega), m3 q (Nat.le_refl _)]
          refine ⟨ib_nI (by omega) (by omega), ib_nI (by omega) (by omega), ?_⟩
          rw [sh1 (by omega), fa_or]
          generalize hd1 : ((u2 dd.1 86 q (nI (E q ||| 2 ^ i)), dd.2) : Dm) = d1
          have hf1 : frc sEp d d1 := by rw [← hd1]; exact frc_I hf 86 q _ (Or.inl rfl)
          have hR3 := MRf_fr hR hf1
          have a0' : d1.1 67 i = ac i 0 := (hf1.i (by unfold sEp; omega)).trans (hP.2.2.2 i hik).1
          have h01 : ac i 0 = 0 ∨ ac i 0 = 1 := by simpa [isw] using hiw
          obtain ⟨v, v1, v2⟩ := cW_pow hA hik hiw
          have hpc : pcn (cW wa (E q ||| 2 ^ i) wn) 12 ≤ pcn (cW wa (E q) wn) 12 + 1 := by rw [cW_or, v2]; exact pcn_or 12 _ v
          have hEM1 : EM q (setA E q (E q ||| 2 ^ i)) rc d1 := by
            rw [← hd1]
            refine ⟨?_, ?_, fun e he => ?_⟩
            · exact (u2_a dd.1 (show (65 : Nat) ≠ 86 by omega) q (nI (E q ||| 2 ^ i)) 37).trans m1
            · exact (u2_a dd.1 (show (65 : Nat) ≠ 86 by omega) q (nI (E q ||| 2 ^ i)) 38).trans m2
            · show u2 dd.1 86 q (nI (E q ||| 2 ^ i)) 86 e = _
              by_cases hx2 : e = q
              · rw [hx2, u2_s, setA_s]
              · rw [u2_k _ _ _ hx2, setA_n _ _ hx2]; exact m3 e he
          have hEB1 : EB ac n wa wn (i + 1) q (setA E q (E q ||| 2 ^ i)) rc (2 * i) := by
            refine ⟨b1, fun e he => ?_, b3, by rw [setA_s]; omega, ?_⟩
            · by_cases hx2 : e = q
              · rw [hx2, setA_s]
                refine sub_or (b2 q (Nat.le_refl _)) (fun j hj => ?_)
                rw [Nat.testBit_two_pow, decide_eq_true_eq] at hj
                rw [← hj, wm_bit]; simp [hik, hiw]
              · rw [setA_n _ _ hx2]; exact b2 e he
            · have e1 : cN wa wn (setA E q (E q ||| 2 ^ i)) (q + 1) = cN wa wn E q + 2 ^ pcn (cW wa (E q ||| 2 ^ i) wn) 12 := by
                show cN wa wn (setA E q (E q ||| 2 ^ i)) q + 2 ^ pcn (cW wa (setA E q (E q ||| 2 ^ i) q) wn) 12 = _
                rw [setA_s, cN_cong (E := E) (fun j hj => setA_n _ _ (by omega))]
              have e2 : cN wa wn E (q + 1) = cN wa wn E q + 2 ^ pcn (cW wa (E q) wn) 12 := rfl
              have e3 : 2 ^ pcn (cW wa (E q ||| 2 ^ i) wn) 12 ≤ 2 ^ (pcn (cW wa (E q) wn) 12 + 1) := Nat.pow_le_pow_right (by omega) hpc
              have e4 : 2 ^ pcn (cW wa (E q) wn) 12 ≤ 2 ^ i := Nat.pow_le_pow_right (by omega) b4
              rw [Nat.pow_succ] at e3
              omega
          have hom : om ac W i = 0 := by unfold om; rw [if_pos hWi]
          have go := marks d1 0 _ q _ rc hf1 (by omega) hEM1 (RE_wr hRE hWi) hEB1 (by rw [← hs1, hom])
          have n2 : ¬ ac i 0 = 2 := by rcases h01 with e | e <;> rw [e] <;> decide
          have n3 : ¬ ac i 0 = 3 := by rcases h01 with e | e <;> rw [e] <;> decide
          unfold Mod_cutEpochs_69
          rw [if_neg (by decide)]
          simp only [wp_mb, wp_gR, wp_aI, zk, zl, true_and, r67 hR3, nI_clamp (show i < 2 ^ 31 by omega), a0']
          refine ⟨ib_nI (by omega) (by omega), ?_⟩
          rw [if_neg n2]
          unfold Mod_cutEpochs_88
          rw [if_neg (by decide)]
          simp only [wp_mb, wp_gR, wp_aI, zk, zl, true_and, r67 hR3, nI_clamp (show i < 2 ^ 31 by omega), a0']
          refine ⟨ib_nI (by omega) (by omega), ?_⟩
          rw [if_neg n3]
          unfold Mod_cutEpochs_107
          exact wp_mono go (fun r d' hh => by cases r <;> exact hh)
        | false =>
          have hWi : W.testBit i = false := by rw [hW i hik, hiw]; rfl
          rw [if_pos (by decide)]
          unfold Mod_cutEpochs_69
          rw [if_neg (by decide)]
          simp only [wp_mb, wp_gR, wp_aI, zk, zl, true_and, r67 hR2, nI_clamp (show i < 2 ^ 31 by omega), a0]
          refine ⟨ib_nI (by omega) (by omega), ?_⟩
          by_cases h2 : ac i 0 = 2
          · rw [if_pos h2]
            exact wp_mono (noW hWi 1 (by simp [om, hWi, h2]) (by omega)) (fun r d' hh => by cases r <;> exact hh)
          · rw [if_neg h2]
            unfold Mod_cutEpochs_88
            rw [if_neg (by decide)]
            simp only [wp_mb, wp_gR, wp_aI, zk, zl, true_and, r67 hR2, nI_clamp (show i < 2 ^ 31 by omega), a0]
            refine ⟨ib_nI (by omega) (by omega), ?_⟩
            by_cases h3 : ac i 0 = 3
            · rw [if_pos h3]
              exact wp_mono (noW hWi 2 (by simp [om, hWi, h3]) (by omega)) (fun r d' hh => by cases r <;> exact hh)
            · rw [if_neg h3]
              unfold Mod_cutEpochs_107
              exact wp_mono (noW hWi 0 (by simp [om, hWi, h2, h3]) (by omega)) (fun r d' hh => by cases r <;> exact hh)
  · show u2 (u2 (u2 d.1 65 38 0) 65 37 1) 86 0 0 65 37 = _
    rw [u2_a _ (by omega), u2_s]; rfl
  · show u2 (u2 (u2 d.1 65 38 0) 65 37 1) 86 0 0 65 38 = _
    rw [u2_a _ (by omega), u2_k _ _ _ (by omega), u2_s]; rfl
  · have : e = 0 := by omega
    subst this
    exact u2_s (u2 (u2 d.1 65 38 0) 65 37 1) 86 0 0
  · by_cases hk0 : 0 < k
    · rw [if_pos hk0]; exact RE_0
    · rw [if_neg hk0]
      have : k = 0 := by omega
      subst this
      exact RE_0
  · rw [cW_0, pcn_0]; omega
  · show cN wa wn (fun _ => 0) 0 + 2 ^ pcn (cW wa 0 wn) 12 ≤ _
    rw [cW_0, pcn_0]
    simp [cN]
end
