/-! ===== pure: the law's loop ===== -/
section
variable {α : Type} {d : Dm}
theorem wp_sw1 {Q : α → Dm → Prop} {x lo : Int32} {g e : MM α} {gs : List (MM α)} (h1 : wp g d Q) (h2 : wp (sw x (lo + 1) gs e) d Q) : wp (sw x lo (g :: gs) e) d Q := by
  show wp (if x = lo then g else sw x (lo + 1) gs e) d Q
  exact wp_if (fun _ => h1) (fun _ => h2)
theorem wp_x {xs : Nat → Int32} {n : Nat} {i : Int32} {Q : Int32 → Dm → Prop} (h : ib i n) : wp (xl xs n i) d Q ↔ Q (xs i.toNatClampNeg) d := wp_xl.trans (and_iff_right h)
theorem lN_all (y : Int64) : ∃ N, N < 2 ^ 64 ∧ y = lN N := ⟨y.toBitVec.toNat, y.toBitVec.isLt, Int64.toBitVec_inj.1 (by
  show y.toBitVec = BitVec.ofNat 64 y.toBitVec.toNat
  rw [BitVec.ofNat_toNat, BitVec.setWidth_eq])⟩
theorem ok_lettersA {k : Nat} (h : KI k d) (y : Int64) : OK1 k (Main_letters 1 y) (Mod_letters 65 y) d := by
  obtain ⟨N, hN, rfl⟩ := lN_all y
  exact ok_letters h hN
theorem br {k : Nat} {C M : MM α} {Q : Int32 ⊕ Int32 → Dm → Prop} (h : OK1 k C M d) {dec : ∀ z z' : α, Decidable (z = z')} {g b : MM (Int32 ⊕ Int32)} (hg : ∀ d2, KI (k + 1) d2 → wp g d2 Q) : wp C d (fun z d1 => wp M d1 (fun z' d2 => wp (@ite _ (z = z') (dec z z') g b) d2 Q)) := by
  refine wp_mono h (fun z d1 h1 => wp_mono h1 (fun z' d2 ⟨e, hK⟩ => ?_))
  rw [if_pos e]
  exact hg d2 hK
end
theorem law_body {xs : Nat → Int32} {L m : Nat} {d : Dm} (hm : 5 * m + 5 ≤ L) (hL : L ≤ 2560) (hK : KI m d) : wp (Law_law_18_b xs L 1000 1 65 (nI (5 * m))) d (fun r d' => r = .inl (nI (5 * (m + 1))) ∧ KI (m + 1) d') := by
  have hk : m < 90000 := by omega
  have i0 : ib (nI (5 * m)) L := ib_nI (by omega) (by omega)
  have i1 : ib (nI (5 * m) + 1) L := by rw [show (1 : Int32) = nI 1 from rfl, nI_add]; exact ib_nI (by omega) (by omega)
  have i2 : ib (nI (5 * m) + 2) L := by rw [show (2 : Int32) = nI 2 from rfl, nI_add]; exact ib_nI (by omega) (by omega)
  have i3 : ib (nI (5 * m) + 3) L := by rw [show (3 : Int32) = nI 3 from rfl, nI_add]; exact ib_nI (by omega) (by omega)
  have i4 : ib (nI (5 * m) + 4) L := by rw [show (4 : Int32) = nI 4 from rfl, nI_add]; exact ib_nI (by omega) (by omega)
  have fin : ∀ d2, KI (m + 1) d2 → wp (Law_law_1208 xs L 1000 1 65 (nI (5 * m))) d2 (fun r d' => r = .inl (nI (5 * (m + 1))) ∧ KI (m + 1) d') := fun d2 h => by
    unfold Law_law_1208
    refine wp_ml.mpr (wp_mp.mpr ⟨?_, h⟩)
    rw [show (5 : Int32) = nI 5 from rfl, nI_add, show 5 * m + 5 = 5 * (m + 1) from by omega]
  unfold Law_law_18_b
  rw [if_neg (by
    rw [show Int32.ofNat L = nI ((L - 5) + 5) from by rw [show L - 5 + 5 = L from by omega]; rfl, show (5 : Int32) = nI 5 from rfl, ← nI_add, Int32.add_sub_cancel]
    exact nI_nlt (by omega) (by omega))]
  refine wp_mb.mpr ((wp_x i0).mpr ?_)
  refine wp_sw1 (by
    simp only [wp_mb, wp_x i1, wp_x i2, wp_x i3, wp_x i4, wp_vc, zk, true_and]
    exact br (ok_sector hK hk _ _) fin) ?_
  refine wp_sw1 (by
    simp only [wp_mb, wp_x i1, wp_x i2, wp_x i3, wp_x i4, wp_vc, zk, true_and]
    exact br (ok_write hK hk _ _) fin) ?_
  refine wp_sw1 (by
    simp only [wp_mb, wp_x i1, wp_x i2, wp_x i3, wp_x i4, wp_vc, zk, true_and]
    exact br (ok_whole hK hk _ _ _ _) fin) ?_
  refine wp_sw1 (by
    simp only [wp_mb, wp_x i1, wp_x i2, wp_x i3, wp_x i4, wp_vc, zk, true_and]
    exact br (ok_barrier hK hk) fin) ?_
  refine wp_sw1 (by
    simp only [wp_mb, wp_x i1, wp_x i2, wp_x i3, wp_x i4, wp_vc, zk, true_and]
    exact br (ok_flush hK hk) fin) ?_
  refine wp_sw1 (by
    simp only [wp_mb, wp_x i1, wp_x i2, wp_x i3, wp_x i4, wp_vc, zk, true_and]
    exact br (ok_tell hK hk _) fin) ?_
  refine wp_sw1 (by
    simp only [wp_mb, wp_x i1, wp_x i2, wp_x i3, wp_x i4, wp_vc, zk, true_and]
    exact br (ok_undo hK hk) fin) ?_
  refine wp_sw1 (by
    simp only [wp_mb, wp_x i1, wp_x i2, wp_x i3, wp_x i4, wp_vc, zk, true_and]
    exact br (ok_swap hK hk _ _) fin) ?_
  refine wp_sw1 (by
    simp only [wp_mb, wp_x i1, wp_x i2, wp_x i3, wp_x i4, wp_vc, zk, true_and]
    exact br (ok_act hK _ _) fin) ?_
  refine wp_sw1 (by
    simp only [wp_mb, wp_x i1, wp_x i2, wp_x i3, wp_x i4, wp_vc, zk, true_and]
    exact br (ok_end hK) fin) ?_
  refine wp_sw1 (by
    simp only [wp_mb, wp_x i1, wp_x i2, wp_x i3, wp_x i4, wp_vc, zk, true_and]
    exact br (ok_lettersA hK _) fin) ?_
  refine wp_sw1 (by
    simp only [wp_mb, wp_x i1, wp_x i2, wp_x i3, wp_x i4, wp_vc, zk, true_and]
    exact br (ok_blank hK) fin) ?_
  refine wp_sw1 (by
    simp only [wp_mb, wp_x i1, wp_x i2, wp_x i3, wp_x i4, wp_vc, zk, true_and]
    exact br (ok_good hK _) fin) ?_
  refine wp_sw1 (by
    simp only [wp_mb, wp_x i1, wp_x i2, wp_x i3, wp_x i4, wp_vc, zk, true_and]
    exact br (ok_rule hK hk) fin) ?_
  refine wp_sw1 (by
    simp only [wp_mb, wp_x i1, wp_x i2, wp_x i3, wp_x i4, wp_vc, zk, true_and]
    exact br (ok_step hK hk) fin) ?_
  refine wp_sw1 (by
    simp only [wp_mb, wp_x i1, wp_x i2, wp_x i3, wp_x i4, wp_vc, zk, true_and]
    exact br (ok_bare hK hk) fin) ?_
  refine wp_sw1 (by
    unfold Law_law_592 Law_law_614
    simp only [wp_mb, wp_x i1, wp_x i2, wp_vc, zk, true_and]
    refine br (ok_always hK _ _ ?_) fin
    split
    · exact Or.inl rfl
    · exact Or.inr rfl) ?_
  refine wp_sw1 (by
    simp only [wp_mb, wp_x i1, wp_x i2, wp_x i3, wp_x i4, wp_vc, zk, true_and]
    exact br (ok_holds hK _ _) fin) ?_
  refine wp_sw1 (by
    simp only [wp_mb, wp_x i1, wp_x i2, wp_x i3, wp_x i4, wp_vc, zk, true_and]
    exact br (ok_found hK _) fin) ?_
  refine wp_sw1 (by
    simp only [wp_mb, wp_x i1, wp_x i2, wp_x i3, wp_x i4, wp_vc, zk, true_and]
    exact br (ok_plate hK _ _) fin) ?_
  refine wp_sw1 (by
    simp only [wp_mb, wp_x i1, wp_x i2, wp_x i3, wp_x i4, wp_vc, zk, true_and]
    exact br (ok_heal hK _) fin) ?_
  refine wp_sw1 (by
    simp only [wp_mb, wp_x i1, wp_x i2, wp_x i3, wp_x i4, wp_vc, zk, true_and]
    exact br (ok_cut hK _ _) fin) ?_
  refine wp_sw1 (by
    simp only [wp_mb, wp_x i1, wp_x i2, wp_x i3, wp_x i4, wp_vc, zk, true_and]
    exact br (ok_steady hK _) fin) ?_
  refine wp_sw1 (by
    simp only [wp_mb, wp_x i1, wp_x i2, wp_x i3, wp_x i4, wp_vc, zk, true_and]
    exact br (ok_kept hK _ _ _) fin) ?_
  refine wp_sw1 (by
    simp only [wp_mb, wp_x i1, wp_x i2, wp_x i3, wp_x i4, wp_vc, zk, true_and]
    exact br (ok_broken hK _) fin) ?_
  refine wp_sw1 (by
    simp only [wp_mb, wp_x i1, wp_x i2, wp_x i3, wp_x i4, wp_vc, zk, true_and]
    exact br (ok_bounds hK _ _ _) fin) ?_
  refine wp_sw1 (by
    simp only [wp_mb, wp_x i1, wp_x i2, wp_x i3, wp_x i4, wp_vc, zk, true_and]
    exact br (ok_safe hK) fin) ?_
  refine wp_sw1 (by
    simp only [wp_mb, wp_x i1, wp_x i2, wp_x i3, wp_x i4, wp_vc, zk, true_and]
    exact br (ok_shortest hK _) fin) ?_
  refine wp_sw1 (by
    simp only [wp_mb, wp_x i1, wp_x i2, wp_x i3, wp_x i4, wp_vc, zk, true_and]
    exact br (ok_cost hK _ _) fin) ?_
  refine wp_sw1 (by
    simp only [wp_mb, wp_x i1, wp_x i2, wp_x i3, wp_x i4, wp_vc, zk, true_and]
    exact br (ok_fewest hK _) fin) ?_
  refine wp_sw1 (by
    simp only [wp_mb, wp_x i1, wp_x i2, wp_x i3, wp_x i4, wp_vc, zk, true_and]
    exact br (ok_needless hK) fin) ?_
  refine wp_sw1 (by
    simp only [wp_mb, wp_x i1, wp_x i2, wp_x i3, wp_x i4, wp_vc, zk, true_and]
    exact br (ok_order hK _ _ _) fin) ?_
  refine wp_sw1 (by
    simp only [wp_mb, wp_x i1, wp_x i2, wp_x i3, wp_x i4, wp_vc, zk, true_and]
    exact br (ok_count hK _) fin) ?_
  refine wp_sw1 (by
    simp only [wp_mb, wp_x i1, wp_x i2, wp_x i3, wp_x i4, wp_vc, zk, true_and]
    exact br (ok_digest hK) fin) ?_
  exact fin d hK.up
theorem law_loop {xs : Nat → Int32} {L : Nat} {d : Dm} (hL : L ≤ 2560) (hK : KI 0 d) : wp (Law_law_18 xs L 1000 1 65 (0 : Int32)) d (fun z _ => z = 1) := by
  unfold Law_law_18
  refine wp_up (fun m v d => v = nI (5 * m) ∧ KI m d) 512 ?_ (i := 0) (by omega) ⟨rfl, hK⟩
  rintro m v d hm ⟨rfl, hK⟩
  by_cases h5 : 5 * m + 5 ≤ L
  · refine wp_mono (law_body h5 hL hK) (fun r d' ⟨e, h⟩ => ?_)
    subst e
    exact ⟨by omega, rfl, h⟩
  · unfold Law_law_18_b
    rw [if_pos (by
      by_cases hl : 5 ≤ L
      · rw [show Int32.ofNat L = nI ((L - 5) + 5) from by rw [show L - 5 + 5 = L from by omega]; rfl, show (5 : Int32) = nI 5 from rfl, ← nI_add, Int32.add_sub_cancel]
        exact nI_lt (by omega) (by omega)
      · refine Int32.lt_of_lt_of_le ?_ (nI_pos' (show 5 * m < 2 ^ 31 by omega))
        have : L = 0 ∨ L = 1 ∨ L = 2 ∨ L = 3 ∨ L = 4 := by omega
        rcases this with rfl | rfl | rfl | rfl | rfl <;> decide)]
    exact wp_mr.mpr (wp_mz.mpr ⟨Or.inr rfl, rfl⟩)
