/-! ===== pure: the reader's small methods ===== -/
def WS : List Nat → (Nat → Int32) → Prop
  | [], _ => True
  | x :: l, e => e l.length = nI x ∧ x < 128 ∧ WS l e
theorem WS_cong {e e' : Nat → Int32} : ∀ {l : List Nat}, WS l e → (∀ i, i < l.length → e' i = e i) → WS l e'
  | [], _, _ => trivial
  | x :: l, h, hc => ⟨(hc l.length (by simp)).trans h.1, h.2.1, WS_cong h.2.2 (fun i hi => hc i (by simp; omega))⟩
theorem WS_app {e : Nat → Int32} : ∀ {l l' : List Nat}, WS (l ++ l') e → WS l' e
  | [], _, h => h
  | _ :: l, l', h => WS_app (l := l) h.2.2
section
variable {I : Nat → Nat → Int32} {a b c e : Nat → Int32} {L : Nat → Nat → Int64} {R : Nat → Nat → Nat}
theorem emit_eq (hR : Rf R) {v1 v2 w : Int32} {sz : Nat} (hb : b 1 = nI sz) (hs : sz < 60) (hw : (v1 <<< ((8 : Int32) &&& 31)) ||| v2 = w) : Text_emit 55 v1 v2 (u4 I a b c e, L, R) = some ((), (u4 I a (setA b 1 (nI (sz + 1))) (setA c sz w) e, L, R)) := by
  apply wp_get
  unfold Text_emit
  simp only [wp_mb, wp_gI, wp_gR, zk, true_and, u4_55, hb, hR.1]
  rw [if_neg (show ¬ (60 : Int32) ≤ nI sz from nI_ge (b := 60) hs (by omega))]
  simp only [wp_mb, wp_gI, wp_gR, wp_sI, wp_pI, wp_mp, zk, zl, true_and, u4_55, u4_56, hb, hR.1, nI_clamp (show sz < 2 ^ 31 by omega), u2_56, u2_55, hw, nI_1]
  exact ⟨ib_nI (by omega) (by omega), trivial⟩
theorem keep_eq (hR : Rf R) {n x : Nat} (ha : a 2 = nI n) (hn : n < 60) (hx : x < 128) : Read_keep 54 (nI x) (u4 I a b c e, L, R) = some ((), (u4 I (setA a 2 (nI (n + 1))) b c (setA e n (nI x)), L, R)) := by
  apply wp_get
  unfold Read_keep
  simp only [wp_mb, wp_gI, wp_gR, zk, true_and, u4_54, ha, hR.1]
  rw [if_neg (show ¬ (60 : Int32) ≤ nI n from nI_ge (b := 60) hn (by omega))]
  simp only [wp_mb, wp_gI, wp_gR, wp_sC, wp_pI, wp_mp, zk, zl, true_and, u4_54, u4_57, ha, hR.1, nI_clamp (show n < 2 ^ 31 by omega), u2_57, u2_54, nI_1, fb_char (show x < 65536 by omega)]
  exact ⟨ib_nI (by omega) (by omega), trivial⟩
/-- the waiting signs, the code's size, what the code has come to -/
def RdC (p : Pl) (a b c e : Nat → Int32) (W : List Nat) (sz : Nat) (l : List Bool) (T : Int32) : Prop := a 2 = nI W.length ∧ WS W e ∧ b 1 = nI sz ∧ tE c p sz = (lN (sN l), T)
theorem rel_no (hR : Rf R) {p : Pl} {W : List Nat} {sz : Nat} {l : List Bool} {T v2 : Int32} {x : Nat} (h : RdC p a b c e W sz l T) (hW : W.length ≤ 60) (hx : x < 128) (hh : W.head? ≠ some x) : Read_release 54 (nI x) v2 (u4 I a b c e, L, R) = some ((), (u4 I a b c e, L, R)) := by
  obtain ⟨h1, h2, h3, h4⟩ := h
  apply wp_get
  unfold Read_release
  simp only [wp_mb, wp_gI, wp_gR, zk, true_and, u4_54, h1, hR.1]
  cases W with
  | nil =>
    rw [if_pos (by decide)]
    simp only [wp_mp]
  | cons y W =>
    simp only [List.length_cons] at h1 hW ⊢
    rw [if_neg (nI_nle (by omega) (by omega))]
    simp only [wp_mb, wp_gI, wp_gR, wp_aI, zk, zl, true_and, u4_54, u4_57, h1, hR.1, nI_pred, nI_clamp (show W.length < 2 ^ 31 by omega), h2.1]
    refine ⟨ib_nI (by omega) (by omega), ?_⟩
    rw [if_neg (fun q => hh (by rw [(nI_eq (by have := h2.2.1; omega) (by omega)).mp q]; rfl))]
    simp only [wp_mp]
theorem rel_yes (hR : Rf R) {p : Pl} {W : List Nat} {sz : Nat} {l : List Bool} {T v2 w : Int32} {x : Nat} (h : RdC p a b c e (x :: W) sz l T) (hW : W.length < 60) (hs : sz < 60) (hw : (v2 <<< ((8 : Int32) &&& 31)) ||| (0 : Int32) = w) : Read_release 54 (nI x) v2 (u4 I a b c e, L, R) = some ((), (u4 I (setA a 2 (nI W.length)) (setA b 1 (nI (sz + 1))) (setA c sz w) e, L, R)) := by
  obtain ⟨h1, h2, h3, h4⟩ := h
  apply wp_get
  unfold Read_release
  simp only [List.length_cons] at h1
  simp only [wp_mb, wp_gI, wp_gR, zk, true_and, u4_54, h1, hR.1]
  rw [if_neg (nI_nle (by omega) (by omega))]
  simp only [wp_mb, wp_gI, wp_gR, wp_aI, zk, zl, true_and, u4_54, u4_57, h1, hR.1, nI_pred, nI_clamp (show W.length < 2 ^ 31 by omega), h2.1, if_true]
  refine ⟨ib_nI (by omega) (by omega), ?_⟩
  simp only [wp_mb, wp_gI, wp_gR, wp_pI, wp_vc, wp_mp, zk, zl, true_and, u4_54, h1, hR.1, nI_pred, u2_54, wp_eq (emit_eq hR (I := I) (a := setA a 2 (nI W.length)) (c := c) (e := e) (L := L) h3 hs hw)]
def bg : Gr → List Bool
  | (o, a, _) => (match a with | none => [] | some x => [x]) ++ (match o with | none => [] | some x => [x])
def bits : List Gr → List Bool
  | [] => []
  | G :: g => bg G ++ bits g
def wg : Gr → List Nat
  | (o, a, n) => List.replicate n 33 ++ ((match a with | none => [] | some _ => [38]) ++ (match o with | none => [] | some _ => [124]))
def wt : List Gr → List Nat
  | [] => []
  | G :: g => 40 :: (wg G ++ wt g)
theorem bg_len (G : Gr) : (bg G).length ≤ (wg G).length := by
  obtain ⟨o, a, n⟩ := G
  cases o <;> cases a <;> simp [bg, wg] <;> omega
theorem bits_len : ∀ g : List Gr, (bits g).length ≤ (wt g).length
  | [] => by simp [bits, wt]
  | G :: g => by
    have h1 := bits_len g
    have h2 := bg_len G
    simp [bits, wt]
    omega
theorem wt_head (g : List Gr) : (wt g).head? ≠ some 38 ∧ (wt g).head? ≠ some 124 ∧ (wt g).head? ≠ some 33 := by
  cases g <;> simp [wt]
/-- what a change of the reader's rows leaves -/
def kpR (a b c a' b' c' : Nat → Int32) (sz : Nat) : Prop := (∀ j, j ≠ 2 → j ≠ 4 → a' j = a j) ∧ (∀ j, j ≠ 1 → b' j = b j) ∧ ∀ i, i < sz → c' i = c i
theorem kpR_rf (a b c : Nat → Int32) (sz : Nat) : kpR a b c a b c sz := ⟨fun _ _ _ => rfl, fun _ _ => rfl, fun _ _ => rfl⟩
theorem kpR_tr {a b c a1 b1 c1 a2 b2 c2 : Nat → Int32} {sz sz1 : Nat} (h : kpR a b c a1 b1 c1 sz) (h2 : kpR a1 b1 c1 a2 b2 c2 sz1) (hs : sz ≤ sz1) : kpR a b c a2 b2 c2 sz := ⟨fun j x y => (h2.1 j x y).trans (h.1 j x y), fun j x => (h2.2.1 j x).trans (h.2.1 j x), fun i x => (h2.2.2 i (by omega)).trans (h.2.2 i x)⟩
theorem RdC_pop {p : Pl} {W : List Nat} {x sz : Nat} {l l' : List Bool} {T T' w : Int32} (h : RdC p a b c e (x :: W) sz l T) (ht : tStep w p (lN (sN l), T) = (lN (sN l'), T')) : RdC p (setA a 2 (nI W.length)) (setA b 1 (nI (sz + 1))) (setA c sz w) e W (sz + 1) l' T' := by
  obtain ⟨h1, h2, h3, h4⟩ := h
  exact ⟨setA_s _ _ _, h2.2.2, setA_s _ _ _, by rw [tE_push, h4, ht]⟩
theorem kpR_pop (x y w : Int32) (sz : Nat) : kpR a b c (setA a 2 x) (setA b 1 y) (setA c sz w) sz := ⟨fun j h _ => setA_n _ _ h, fun j h => setA_n _ _ h, fun i h => setA_n _ _ (by omega)⟩
/-- what a method of the reader leaves -/
def RQ (I : Nat → Nat → Int32) (L : Nat → Nat → Int64) (R : Nat → Nat → Nat) (p : Pl) (a b c e : Nat → Int32) (sz : Nat) (W : List Nat) (n : Nat) (l : List Bool) (T : Int32) (d' : Dm) : Prop := ∃ a' b' c' s', d' = (u4 I a' b' c' e, L, R) ∧ RdC p a' b' c' e W s' l T ∧ kpR a b c a' b' c' sz ∧ a' 4 = a 4 ∧ s' + W.length = n ∧ sz ≤ s'
theorem relO (hR : Rf R) {p : Pl} {o : Option Bool} {W : List Nat} {sz : Nat} {l : List Bool} {T : Int32} {v : Bool} (h : RdC p a b c e (wg (o, none, 0) ++ W) sz (v :: (bg (o, none, 0) ++ l)) T) (hs : sz + (wg (o, none, 0) ++ W).length ≤ 60) (hl : l.length < 60) (hW : W.head? ≠ some 124) : wp (Read_release 54 (124 : Int32) (9 : Int32)) (u4 I a b c e, L, R) (fun _ d' => RQ I L R p a b c e sz W (sz + (wg (o, none, 0) ++ W).length) (orv o v :: l) T d') := by
  rw [show (124 : Int32) = nI 124 from rfl]
  cases o with
  | none =>
    rw [wp_eq (rel_no hR (I := I) (L := L) (v2 := 9) h (by omega) (show 124 < 128 by decide) (by simpa [wg] using hW))]
    exact ⟨a, b, c, sz, rfl, by simpa [wg, bg, orv] using h, kpR_rf _ _ _ _, rfl, by simp [wg], Nat.le_refl _⟩
  | some x =>
    have h' : RdC p a b c e (124 :: W) sz (v :: x :: l) T := by simpa [wg, bg] using h
    have hs' : sz + (W.length + 1) ≤ 60 := by simpa [wg, Nat.add_comm, Nat.add_left_comm] using hs
    rw [wp_eq (rel_yes hR (I := I) (L := L) (v2 := 9) (w := wrd 9 0) h' (by omega) (by omega) (by decide +kernel))]
    exact ⟨_, _, _, sz + 1, rfl, RdC_pop h' (ts_orr p x v l T (by omega)), kpR_pop _ _ _ _, setA_n _ _ (by omega), by simp [wg]; omega, by omega⟩
theorem relA (hR : Rf R) {p : Pl} {o av : Option Bool} {W : List Nat} {sz : Nat} {l : List Bool} {T : Int32} {v : Bool} (h : RdC p a b c e (wg (o, av, 0) ++ W) sz (v :: (bg (o, av, 0) ++ l)) T) (hs : sz + (wg (o, av, 0) ++ W).length ≤ 60) (hl : l.length < 60) (hW : W.head? ≠ some 38) : wp (Read_release 54 (38 : Int32) (8 : Int32)) (u4 I a b c e, L, R) (fun _ d' => RQ I L R p a b c e sz (wg (o, none, 0) ++ W) (sz + (wg (o, av, 0) ++ W).length) (anv av v :: (bg (o, none, 0) ++ l)) T d') := by
  rw [show (38 : Int32) = nI 38 from rfl]
  cases av with
  | none =>
    have h0 : (wg (o, none, 0) ++ W).head? ≠ some 38 := by
      cases o with
      | none => simpa [wg] using hW
      | some b => simp [wg]
    rw [wp_eq (rel_no hR (I := I) (L := L) (v2 := 8) h (by omega) (show 38 < 128 by decide) h0)]
    exact ⟨a, b, c, sz, rfl, h, kpR_rf _ _ _ _, rfl, rfl, Nat.le_refl _⟩
  | some y =>
    have h' : RdC p a b c e (38 :: (wg (o, none, 0) ++ W)) sz (v :: y :: (bg (o, none, 0) ++ l)) T := by simpa [wg, bg] using h
    have hlen : (wg (o, some y, 0) ++ W).length = (wg (o, none, 0) ++ W).length + 1 := by simp [wg]
    rw [hlen] at hs ⊢
    have hbl : (bg (o, none, 0) ++ l).length < 62 := by cases o <;> simp [bg] <;> omega
    rw [wp_eq (rel_yes hR (I := I) (L := L) (v2 := 8) (w := wrd 8 0) h' (by omega) (by omega) (by decide +kernel))]
    exact ⟨_, _, _, sz + 1, rfl, RdC_pop h' (ts_both p y v (bg (o, none, 0) ++ l) T hbl), kpR_pop _ _ _ _, setA_n _ _ (by omega), by omega, by omega⟩
theorem closeT (hR : Rf R) {p : Pl} {o av : Option Bool} {W : List Nat} {sz : Nat} {l : List Bool} {T : Int32} {v : Bool} (h : RdC p a b c e (wg (o, av, 0) ++ W) sz (v :: (bg (o, av, 0) ++ l)) T) (hs : sz + (wg (o, av, 0) ++ W).length ≤ 60) (hl : l.length < 60) (hW : W.head? ≠ some 38 ∧ W.head? ≠ some 124) : wp (Read_closeTerms 54) (u4 I a b c e, L, R) (fun _ d' => RQ I L R p a b c e sz W (sz + (wg (o, av, 0) ++ W).length) (orv o (anv av v) :: l) T d') := by
  unfold Read_closeTerms
  simp only [wp_mb, wp_vc, zk, true_and]
  refine wp_mono (relA hR h hs hl hW.1) (fun _ d1 ⟨a1, b1, c1, s1, e1, h1, k1, f1, n1, m1⟩ => ?_)
  subst e1
  refine wp_mono (relO hR h1 (by omega) hl hW.2) (fun _ d2 ⟨a2, b2, c2, s2, e2, h2, k2, f2, n2, m2⟩ => ?_)
  exact wp_mp.mpr ⟨a2, b2, c2, s2, e2, h2, kpR_tr k1 k2 m1, f2.trans f1, by omega, by omega⟩
theorem dnv_s (n : Nat) (v : Bool) : dnv n (!v) = dnv (n + 1) v := by
  unfold dnv
  by_cases h : n % 2 = 1
  · rw [if_pos h, if_neg (by omega)]; simp
  · rw [if_neg h, if_pos (by omega)]
/-- all signs of denial that stand ahead of a factor -/
theorem closeF (hR : Rf R) {p : Pl} {W : List Nat} {l : List Bool} {T : Int32} (hW : W.head? ≠ some 33) : ∀ {n sz : Nat} {v : Bool} {a b c : Nat → Int32}, RdC p a b c e (List.replicate n 33 ++ W) sz (v :: l) T → sz + (n + W.length) ≤ 60 → wp (Read_closeFactor 54) (u4 I a b c e, L, R) (fun _ d' => ∃ a' b' c', d' = (u4 I a' b' c' e, L, R) ∧ RdC p a' b' c' e W (sz + n) (dnv n v :: l) T ∧ kpR a b c a' b' c' sz ∧ a' 4 = 4) := by
  intro n
  induction n with
  | zero =>
    intro sz v a b c h hs
    simp only [List.replicate_zero, List.nil_append] at h
    obtain ⟨h1, h2, h3, h4⟩ := id h
    unfold Read_closeFactor Read_closeFactor_0
    apply wp_lo1
    unfold Read_closeFactor_0_b Read_closeFactor_46
    have fin : ∃ a' b' c', ((u4 I (setA a 4 4) b c e, L, R) : Dm) = (u4 I a' b' c' e, L, R) ∧ RdC p a' b' c' e W (sz + 0) (dnv 0 v :: l) T ∧ kpR a b c a' b' c' sz ∧ a' 4 = 4 := ⟨_, b, c, rfl, ⟨(setA_n _ _ (by omega)).trans h1, h2, h3, h4⟩, ⟨fun j x y => setA_n _ _ y, fun _ _ => rfl, fun _ _ => rfl⟩, setA_s _ _ _⟩
    simp only [wp_mb, wp_gI, wp_gR, zk, true_and, u4_54, h1, hR.1]
    cases W with
    | nil =>
      rw [if_pos (by decide)]
      simp only [wp_mr, wp_mb, wp_pI, wp_mp, zk, true_and, u2_54]
      exact fin
    | cons y W =>
      simp only [List.length_cons] at h1 hs ⊢
      rw [if_neg (nI_nle (by omega) (by omega))]
      simp only [wp_mb, wp_gI, wp_gR, wp_aI, zk, zl, true_and, u4_54, u4_57, h1, hR.1, nI_pred, nI_clamp (show W.length < 2 ^ 31 by omega), h2.1]
      refine ⟨ib_nI (by omega) (by omega), ?_⟩
      rw [if_neg (fun q => hW (by rw [(nI_eq (b := 33) (by have := h2.2.1; omega) (by omega)).mp q]; rfl))]
      simp only [wp_mr, wp_mb, wp_pI, wp_mp, zk, true_and, u2_54]
      exact fin
  | succ n ih =>
    intro sz v a b c h hs
    have h' : RdC p a b c e (33 :: (List.replicate n 33 ++ W)) sz (v :: l) T := by simpa [List.replicate_succ] using h
    obtain ⟨h1, h2, h3, h4⟩ := id h'
    have hlen : (List.replicate n 33 ++ W).length = n + W.length := by simp
    unfold Read_closeFactor Read_closeFactor_0
    apply wp_lo1
    unfold Read_closeFactor_0_b
    simp only [List.length_cons] at h1
    simp only [wp_mb, wp_gI, wp_gR, zk, true_and, u4_54, h1, hR.1]
    rw [if_neg (nI_nle (by omega) (by omega))]
    simp only [wp_mb, wp_gI, wp_gR, wp_aI, zk, zl, true_and, u4_54, u4_57, h1, hR.1, nI_pred, nI_clamp (show (List.replicate n 33 ++ W).length < 2 ^ 31 by omega), h2.1]
    refine ⟨ib_nI (by omega) (by omega), ?_⟩
    rw [if_pos (show nI 33 = (33 : Int32) from rfl)]
    simp only [wp_mb, wp_gI, wp_gR, wp_pI, wp_vc, wp_mp, zk, zl, true_and, u4_54, h1, hR.1, nI_pred, u2_54, wp_eq (emit_eq hR (I := I) (a := setA a 2 (nI (List.replicate n 33 ++ W).length)) (c := c) (e := e) (L := L) (v1 := 7) (v2 := 0) (w := wrd 7 0) h3 (by omega) (by decide +kernel))]
    have h5 := RdC_pop h' (ts_not p v l T)
    have h6 := ih h5 (by omega)
    unfold Read_closeFactor Read_closeFactor_0 at h6
    refine wp_mono h6 (fun _ d' ⟨a', b', c', e1, q1, q2, q3⟩ => ?_)
    rw [dnv_s, show sz + 1 + n = sz + (n + 1) by omega] at q1
    exact ⟨a', b', c', e1, q1, kpR_tr (kpR_pop _ _ _ _) q2 (by omega), q3⟩
theorem closeC (hR : Rf R) {p : Pl} {o av : Option Bool} {n Rl sz : Nat} {W : List Nat} {l : List Bool} {T : Int} (h : RdC p a b c e (wg (o, av, n) ++ W) sz l (Int32.ofInt T)) (h6 : a 6 = nI Rl) (hRl : 60 ≤ Rl ∧ Rl ≤ 62) (hs : sz + (wg (o, av, n) ++ W).length + 1 ≤ 60) (hT : -2147483648 ≤ T ∧ T < 2147483648) (hl : l.length < 60) (hW : W.head? ≠ some 33) : wp (Read_closeComparison 54) (u4 I a b c e, L, R) (fun _ d' => ∃ a' b' c' s', d' = (u4 I a' b' c' e, L, R) ∧ RdC p a' b' c' e (wg (o, av, 0) ++ W) s' (dnv n (cmpV Rl T) :: l) 0 ∧ kpR a b c a' b' c' sz ∧ a' 4 = 4 ∧ s' + (wg (o, av, 0) ++ W).length = sz + (wg (o, av, n) ++ W).length + 1 ∧ sz ≤ s') := by
  obtain ⟨h1, h2, h3, h4⟩ := id h
  have e0 : wg (o, av, n) ++ W = List.replicate n 33 ++ (wg (o, av, 0) ++ W) := by simp [wg]
  have hh : (wg (o, av, 0) ++ W).head? ≠ some 33 := by
    cases av with
    | none =>
      cases o with
      | none => simpa [wg] using hW
      | some x => simp [wg]
    | some x => simp [wg]
  have hlen : (wg (o, av, n) ++ W).length = n + (wg (o, av, 0) ++ W).length := by rw [e0]; simp
  have go : ∀ t1 : Int32, (t1 <<< ((8 : Int32) &&& 31)) ||| (0 : Int32) = wrd (kdR Rl) 0 → wp (Read_closeComparison_32 54 55 t1) (u4 I a b c e, L, R) (fun _ d' => ∃ a' b' c' s', d' = (u4 I a' b' c' e, L, R) ∧ RdC p a' b' c' e (wg (o, av, 0) ++ W) s' (dnv n (cmpV Rl T) :: l) 0 ∧ kpR a b c a' b' c' sz ∧ a' 4 = 4 ∧ s' + (wg (o, av, 0) ++ W).length = sz + (wg (o, av, n) ++ W).length + 1 ∧ sz ≤ s') := by
    intro t1 ht
    unfold Read_closeComparison_32
    simp only [wp_mb, wp_vc, zk, true_and, wp_eq (emit_eq hR (I := I) (a := a) (c := c) (e := e) (L := L) h3 (by omega) ht)]
    have h5 : RdC p a (setA b 1 (nI (sz + 1))) (setA c sz (wrd (kdR Rl) 0)) e (List.replicate n 33 ++ (wg (o, av, 0) ++ W)) (sz + 1) (cmpV Rl T :: l) 0 := by
      rw [← e0]
      exact ⟨h1, h2, setA_s _ _ _, by rw [tE_push, h4, ts_cmp p Rl l hT.1 hT.2 (by omega)]⟩
    refine wp_mono (closeF hR hh h5 (by omega)) (fun _ d' ⟨a', b', c', e1, q1, q2, q3⟩ => ?_)
    exact wp_mp.mpr ⟨a', b', c', _, e1, q1, kpR_tr (⟨fun _ _ _ => rfl, fun j x => setA_n _ _ x, fun i x => setA_n _ _ (by omega)⟩ : kpR a b c a (setA b 1 (nI (sz + 1))) (setA c sz (wrd (kdR Rl) 0)) sz) q2 (by omega), q3, by omega, by omega⟩
  unfold Read_closeComparison
  simp only [wp_mb, wp_gI, wp_gR, zk, true_and, u4_54, h6, hR.1]
  have hc : Rl = 60 ∨ Rl = 61 ∨ Rl = 62 := by omega
  rcases hc with rfl | rfl | rfl
  · rw [if_pos (show nI 60 = (60 : Int32) from rfl)]
    exact go 4 (by decide +kernel)
  · rw [if_neg (show ¬ nI 61 = (60 : Int32) by decide)]
    simp only [wp_mb, wp_gI, zk, true_and, u4_54, h6]
    rw [if_pos (show nI 61 = (61 : Int32) from rfl)]
    exact go 5 (by decide +kernel)
  · rw [if_neg (show ¬ nI 62 = (60 : Int32) by decide)]
    simp only [wp_mb, wp_gI, zk, true_and, u4_54, h6]
    rw [if_neg (show ¬ nI 62 = (61 : Int32) by decide)]
    exact go 6 (by decide +kernel)
end
