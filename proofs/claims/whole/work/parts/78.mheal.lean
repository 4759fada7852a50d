/-! ===== pure: the reference's healing ===== -/
theorem vun_tg (p : Pl) (c : Nat) (B : Int) (s : Bool) (z : VS) : (vun p c B s z).2.2.2.2.2.2.2.2 = z.2.2.2.2.2.2.2.2 := by
  obtain ⟨G, g, T, U, m, x, R, v, tg⟩ := z
  unfold vun
  dsimp only
  split <;> rfl
theorem clo_tg (q : Nat) (z : VS) : (clo q z).2.2.2.2.2.2.2.2 = z.2.2.2.2.2.2.2.2 := by
  obtain ⟨⟨o, a, n⟩, g, T, U, m, x, R, v, tg⟩ := z
  unfold clo
  dsimp only
  split <;> rfl
theorem vclt (c : Nat) (z : VS) : (vcl c z).2.2.2.2.2.2.2.2 = z.2.2.2.2.2.2.2.2 := by
  obtain ⟨⟨o, a, n⟩, g, T, U, m, x, R, v, tg⟩ := z
  unfold vcl
  dsimp only
  split
  · rfl
  · split
    · rfl
    · split
      · cases g with
        | nil => rfl
        | cons G' g' => obtain ⟨o', a', n'⟩ := G'; rfl
      · rfl
theorem vcl_tg (c q : Nat) (z : VS) : (vcl c (clo q z)).2.2.2.2.2.2.2.2 = z.2.2.2.2.2.2.2.2 := (vclt c _).trans (clo_tg q z)
theorem vst_tg {p : Pl} {q c : Nat} {s : VS} (h8 : q = 8 → c - 97 ≤ 7) (h : s.2.2.2.2.2.2.2.2 ≤ 7) : (vst p q c s).2.2.2.2.2.2.2.2 ≤ 7 := by
  obtain ⟨⟨o, a, n⟩, g, T, U, m, x, R, v, tg⟩ := s
  simp only at h
  unfold vst
  dsimp only
  split
  · split
    · exact h
    · split
      · exact h
      · rw [vun_tg]; exact h
  · split
    · rw [vun_tg]; exact h
    · split
      · rw [vun_tg]; exact h
      · split
        · exact h
        · split
          · exact h
          · split
            · exact h
            · split
              · exact h
              · split
                · next hq => exact h8 hq
                · split
                  · exact h
                  · rw [vcl_tg]; exact h
theorem vv_tg {sp : Bool} {p : Pl} {t : Nat → Nat} : ∀ {k : Nat} {x : Nat × Nat}, qs sp t k = some x → (vv sp p t k).2.2.2.2.2.2.2.2 ≤ 7
  | 0, x, h => by simp [vv, vv0]
  | k + 1, x, h => by
    obtain ⟨⟨q, o⟩, hq⟩ := qs_back h (Nat.le_succ k)
    obtain ⟨q', hn, -⟩ := qs_go h (Nat.lt_succ_self k) hq
    simp only [vv]
    rw [sq_eq hq]
    refine vst_tg (fun e => ?_) (vv_tg hq)
    subst e
    by_cases hl : isL (t k) = true
    · have := isL_iff.mp hl; omega
    · simp [nx, hl] at hn
theorem okP_svP {t : Nat → Nat} {m : Nat} (hW : WH true t m) {p : Pl} (hp : okP p) : okP (svP t m p) := by
  obtain ⟨q, hq, -⟩ := hW
  have h := vv_tg (p := p) hq
  unfold svP
  generalize vv true p t m = s at h
  obtain ⟨G, g, T, U, mm, x, R, v, tg⟩ := s
  simp only at h
  unfold svV
  dsimp only
  split
  · split
    · next h99 => exact okP_pu hp (by omega) (by omega)
    · exact hp
  · exact hp
section
variable {r n ns A : Nat} {ac : Nat → Ac} {f : Pl} {ev : Nat → Pl → Bool} {sv : Nat → Pl → Pl} {d : Dm} {p : Pl}
theorem MS.okH (h : MS ns sv d) (hp : okP p) : ∀ m, m ≤ ns → okP (hl sv 0 m p)
  | 0, _ => hp
  | m + 1, hm => by
    obtain ⟨t, k, -, -, -, hW, hs⟩ := h.2.2 (0 + m) (by omega)
    have ih := h.okH hp m (by omega)
    simp only [hl]
    rw [← hs _ ih]
    exact okP_svP hW ih
theorem MS.fr {S : Nat → Nat → Prop} {d' : Dm} (h : MS ns sv d) (hf : frc S d d') (h1 : ¬ S 65 10) (h2 : ∀ j, ¬ S 74 j) (h3 : ∀ j, ¬ S 73 j) : MS ns sv d' := by
  refine ⟨h.1, (hf.i h1).trans h.2.1, fun j hj => ?_⟩
  obtain ⟨t, m, a1, a2, a3, a4, a5⟩ := h.2.2 j hj
  exact ⟨t, m, a1, (hf.i (h2 _)).trans a2, fun i hi => ⟨(hf.i (h3 _)).trans (a3 i hi).1, (a3 i hi).2⟩, a4, a5⟩
theorem MR.fr {S : Nat → Nat → Prop} {d' : Dm} (h : MR r ev A d) (hf : frc S d d') (h1 : ¬ S 65 6) (h2 : ∀ j, ¬ S 72 j) (h3 : ∀ j, ¬ S 71 j) (h4 : ∀ j, ¬ S 70 j) : MR r ev A d' := by
  refine ⟨h.1, (hf.i h1).trans h.2.1, fun j hj => ?_⟩
  obtain ⟨b, t, m, a1, a2, a3, a4, a5⟩ := h.2.2 j hj
  exact ⟨(hf.i (h2 _)).trans b, t, m, a1, (hf.i (h3 _)).trans a2, fun i hi => ⟨(hf.i (h4 _)).trans (a3 i hi).1, (a3 i hi).2⟩, a4, a5⟩
theorem MP.fr {S : Nat → Nat → Prop} {d' : Dm} (h : MP r n ac f d) (hf : frc S d d') (h1 : ¬ S 65 1) (h2 : ∀ j, ¬ S 66 j) (h3 : ∀ j, ¬ S 67 j) (h4 : ∀ j, ¬ S 68 j) : MP r n ac f d' := ⟨h.1, (hf.i h1).trans h.2.1, fun s hs => (hf.i (h2 _)).trans (h.2.2.1 s hs), fun i hi => ⟨(hf.i (h3 _)).trans (h.2.2.2 i hi).1, fun k hk => (hf.i (h4 _)).trans ((h.2.2.2 i hi).2 k hk)⟩⟩
theorem sN_no {x j : Nat} (h : x ≠ 75 ∧ x ≠ 76 ∧ x ≠ 77 ∧ x ≠ 78 ∧ ¬ (x = 65 ∧ ((19 ≤ j ∧ j ≤ 22) ∨ j = 26))) : ¬ sNw x j := by
  unfold sNw sE
  omega
theorem MS.fN {d' : Dm} (h : MS ns sv d) (hf : frc sNw d d') : MS ns sv d' := h.fr hf (sN_no (by omega)) (fun j => sN_no (by omega)) (fun j => sN_no (by omega))
theorem MR.fN {d' : Dm} (h : MR r ev A d) (hf : frc sNw d d') : MR r ev A d' := h.fr hf (sN_no (by omega)) (fun j => sN_no (by omega)) (fun j => sN_no (by omega)) (fun j => sN_no (by omega))
theorem MP.fN {d' : Dm} (h : MP r n ac f d) (hf : frc sNw d d') : MP r n ac f d' := h.fr hf (sN_no (by omega)) (fun j => sN_no (by omega)) (fun j => sN_no (by omega)) (fun j => sN_no (by omega))
theorem MRf_fr {S : Nat → Nat → Prop} {d' : Dm} (hR : MRf d.2.2) (hf : frc S d d') : MRf d'.2.2 := by rw [hf.2]; exact hR
theorem fN_75 (d : Dm) (p : Pl) : frc sNw d (rw8 d.1 75 p, d.2) := frc_w (fr_75 d p) fun _ _ h q => h (Or.inl q)
theorem healM (hR : MRf d.2.2) (hM : MS ns sv d) (hp : okP p) : wp (Mod_healed 65 (lN (num p))) d (fun z d' => z = lN (num (hl sv 0 ns p)) ∧ nowP (hl sv 0 ns p) d' ∧ frc sNw d d') := by
  have hns := hM.1
  unfold Mod_healed
  simp only [wp_mb, wp_vc, wp_ml, zk, true_and, wp_eq (layP hR hp)]
  unfold Mod_healed_7
  refine wp_up (fun k s dd => s = nI k ∧ nowP (hl sv 0 k p) dd ∧ frc sNw d dd) ns ?_ (i := 0) (by omega) ⟨rfl, now_75 d p, fN_75 d p⟩
  intro k s dd hk ⟨e1, h1, h2⟩
  subst e1
  have hM2 := hM.fN h2
  have hR2 := MRf_fr hR h2
  unfold Mod_healed_7_b
  simp only [wp_mb, wp_gI, zk, true_and, hM2.2.1]
  by_cases hx : k = ns
  · subst hx
    rw [if_pos (nI_le (Nat.le_refl _) (by omega))]
    simp only [wp_mr, wp_mb, wp_vc, zk, true_and, wp_eq (told_eq hR2 (hM.okH hp k (Nat.le_refl _)) h1), wp_mp]
    exact ⟨h1, h2⟩
  · rw [if_neg (nI_ge (by omega) (by omega))]
    simp only [wp_mb, wp_vc, zk, true_and]
    refine wp_mono (stepNow_eq hR2 hM2 (show k < ns by omega) (hM.okH hp k hk) h1) (fun _ d1 ⟨a1, a2⟩ => ?_)
    simp only [wp_ml, wp_mp, nI_1]
    refine ⟨by omega, trivial, ?_, frc_t h2 a2⟩
    have e : hl sv 0 (k + 1) p = sv k (hl sv 0 k p) := by simp [hl]
    rw [e]
    exact a1
theorem cutM (hR : MRf d.2.2) (hM : MS ns sv d) (hp : okP p) {j : Nat} (hj : j ≤ ns) : wp (Mod_cutAt 65 (lN (num p)) (nI j)) d (fun z d' => z = lN (num (hl sv 0 ns (hl sv 0 j p))) ∧ frc sNw d d') := by
  have hns := hM.1
  unfold Mod_cutAt
  simp only [wp_mb, wp_vc, wp_ml, zk, true_and, wp_eq (layP hR hp)]
  unfold Mod_cutAt_8
  refine wp_up (fun k s dd => s = nI k ∧ nowP (hl sv 0 k p) dd ∧ frc sNw d dd) j ?_ (i := 0) (by omega) ⟨rfl, now_75 d p, fN_75 d p⟩
  intro k s dd hk ⟨e1, h1, h2⟩
  subst e1
  have hM2 := hM.fN h2
  have hR2 := MRf_fr hR h2
  unfold Mod_cutAt_8_b
  by_cases hx : k = j
  · subst hx
    rw [if_pos (nI_le (Nat.le_refl _) (by omega))]
    have hok := hM.okH hp k (by omega)
    simp only [wp_mr, wp_mb, wp_vc, zk, true_and, wp_eq (told_eq hR2 hok h1)]
    refine wp_mono (healM hR2 hM2 hok) (fun z d1 ⟨a1, _, a3⟩ => ?_)
    exact wp_mp.mpr ⟨a1, frc_t h2 a3⟩
  · rw [if_neg (nI_ge (by omega) (by omega))]
    simp only [wp_mb, wp_vc, zk, true_and]
    refine wp_mono (stepNow_eq hR2 hM2 (show k < ns by omega) (hM.okH hp k (by omega)) h1) (fun _ d1 ⟨a1, a2⟩ => ?_)
    simp only [wp_ml, wp_mp, nI_1]
    refine ⟨by omega, trivial, ?_, frc_t h2 a2⟩
    have e : hl sv 0 (k + 1) p = sv k (hl sv 0 k p) := by simp [hl]
    rw [e]
    exact a1
theorem lN_num {p q : Pl} (hp : okP p) (hq : okP q) : lN (num p) = lN (num q) ↔ p = q := by
  have h1 := num_lt hp
  have h2 := num_lt hq
  rw [pk_lEQ (by omega) (by omega)]
  exact ⟨num_inj hp hq, fun h => by rw [h]⟩
theorem steadyM (hR : MRf d.2.2) (hM : MS ns sv d) (hp : okP p) : wp (Mod_isSteady 65 (lN (num p))) d (fun z d' => z = bI (sd sv ns p) ∧ frc sNw d d') := by
  have hns := hM.1
  have hok := hM.okH hp
  unfold Mod_isSteady
  simp only [wp_mb, wp_vc, wp_ml, zk, true_and]
  refine wp_mono (healM hR hM hp) (fun z d1 ⟨a1, _, a3⟩ => ?_)
  subst a1
  unfold Mod_isSteady_12
  refine wp_up (fun k (s : Int32 × Int32) dd => s.2 = nI k ∧ frc sNw d dd ∧ ((s.1 = 1 ∧ ∀ j, j < k → hl sv 0 ns (hl sv 0 j p) = hl sv 0 ns p) ∨ (s.1 = 0 ∧ ¬ sdy sv ns p))) (ns + 1) ?_ (i := 0) (by omega) ⟨rfl, a3, Or.inl ⟨rfl, fun j hj => by omega⟩⟩
  intro k ⟨s1, s2⟩ dd hk ⟨e1, h1, h2⟩
  dsimp only at e1 h2
  subst e1
  have hM2 := hM.fN h1
  have hR2 := MRf_fr hR h1
  unfold Mod_isSteady_12_b
  simp only [wp_mb, wp_gI, zk, true_and, hM2.2.1]
  by_cases hx : ns < k
  · rw [if_pos (nI_lt hx (by omega)), wp_mr, wp_mz]
    rcases h2 with ⟨h2, h3⟩ | ⟨h2, h3⟩
    · subst h2
      rw [sd_iff.mpr (fun j hj => h3 j (by omega))]
      exact ⟨Or.inr rfl, rfl, h1⟩
    · subst h2
      have : sd sv ns p = false := by
        cases e : sd sv ns p with
        | false => rfl
        | true => exact absurd (sd_iff.mp e) h3
      rw [this]
      exact ⟨Or.inl rfl, rfl, h1⟩
  · rw [if_neg (nI_nlt (by omega) (by omega))]
    rcases h2 with ⟨h2, h3⟩ | ⟨h2, h3⟩
    · subst h2
      rw [if_neg (by decide)]
      simp only [wp_mb, wp_vc, zk, true_and]
      refine wp_mono (cutM hR2 hM2 hp (show k ≤ ns by omega)) (fun z d2 ⟨b1, b2⟩ => ?_)
      unfold Mod_isSteady_43
      simp only [wp_ml, wp_mp, nI_1]
      refine ⟨by omega, trivial, frc_t h1 b2, ?_⟩
      rw [b1]
      have hcut := hM.okH (hok k (by omega)) ns (Nat.le_refl _)
      by_cases heq : hl sv 0 ns (hl sv 0 k p) = hl sv 0 ns p
      · refine Or.inl ⟨if_pos ((lN_num hcut (hok ns (Nat.le_refl _))).mpr heq), fun j hj => ?_⟩
        by_cases hjk : j = k
        · rw [hjk]; exact heq
        · exact h3 j (by omega)
      · exact Or.inr ⟨if_neg (fun q => heq ((lN_num hcut (hok ns (Nat.le_refl _))).mp q)), fun q => heq (q k (by omega))⟩
    · subst h2
      rw [if_pos rfl, wp_mr, wp_mz]
      have : sd sv ns p = false := by
        cases e : sd sv ns p with
        | false => rfl
        | true => exact absurd (sd_iff.mp e) h3
      rw [this]
      exact ⟨Or.inl rfl, rfl, h1⟩
/-- rules that hold, as bits -/
def rb (ev : Nat → Pl → Bool) (p : Pl) : Nat → Nat
  | 0 => 0
  | j + 1 => rb ev p j + if ev j p then 2 ^ j else 0
theorem rb_lt (ev : Nat → Pl → Bool) (p : Pl) : ∀ j, rb ev p j < 2 ^ j
  | 0 => by simp [rb]
  | j + 1 => by
    have := rb_lt ev p j
    simp only [rb, Nat.pow_succ]
    split <;> omega
theorem rulesM (hR : MRf d.2.2) (hM : MR r ev A d) (hp : okP p) (hn : nowP p d) : wp (Mod_rulesNow 65) d (fun z d' => z = nI (rb ev p r) ∧ frc sE d d') := by
  have hr := hM.1
  have sEN : ∀ {d d'}, frc sE d d' → frc sNw d d' := fun h => frc_w h fun _ _ h q => h (Or.inr q)
  unfold Mod_rulesNow
  simp only [wp_ml]
  unfold Mod_rulesNow_4
  refine wp_up (fun k s dd => s = (nI (rb ev p k), nI k) ∧ frc sE d dd) r ?_ (i := 0) (by omega) ⟨rfl, frc_rf d⟩
  intro k s dd hk ⟨e1, h1⟩
  subst e1
  have hM2 := hM.fN (sEN h1)
  have hR2 := MRf_fr hR h1
  have hn2 : nowP p dd := fun s hs => (h1.i (by unfold sE; omega)).trans (hn s hs)
  unfold Mod_rulesNow_4_b
  dsimp only
  simp only [wp_mb, wp_gI, zk, true_and, hM2.2.1]
  by_cases hx : k = r
  · subst hx
    rw [if_pos (nI_le (Nat.le_refl _) (by omega))]
    simp only [wp_mr, wp_mp]
    exact ⟨trivial, h1⟩
  · rw [if_neg (nI_ge (by omega) (by omega))]
    simp only [wp_mb, wp_vc, zk, true_and]
    refine wp_mono (holdsNow_eq hR2 hM2 (show k < r by omega) hp hn2) (fun z d1 ⟨a1, a2⟩ => ?_)
    subst a1
    unfold Mod_rulesNow_28
    simp only [wp_ml, wp_mp, nI_1]
    refine ⟨by omega, ?_, frc_t h1 a2⟩
    have hlt := rb_lt ev p k
    cases hv : ev k p with
    | true =>
      rw [if_neg (by decide), sh1 (by omega), or_add hlt]
      simp [rb, hv]
    | false =>
      rw [if_pos (by decide), or_0]
      simp [rb, hv]
end
