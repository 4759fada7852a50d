/-! ===== pure: digest of the program ===== -/
section
variable {r n ns st A : Nat} {ac : Nat → Ac} {f : Pl} {ev : Nat → Pl → Bool} {sv : Nat → Pl → Pl} {d : Dm}
theorem part_eq {q k : Nat} (hq : ZF.2.1 q = 1) (hk : k < 5) : Act_part q (nI k) d = some (d.1 q k, d) := by
  apply wp_get
  unfold Act_part
  have hk2 : k = 0 ∨ k = 1 ∨ k = 2 ∨ k = 3 ∨ k = 4 := by omega
  rcases hk2 with rfl | rfl | rfl | rfl | rfl
  · rw [sw_0]; simp only [wp_mb, wp_gI, wp_mp, hq, true_and]
  · rw [sw_1]; simp only [wp_mb, wp_gI, wp_mp, hq, true_and]
  · rw [sw_2]; simp only [wp_mb, wp_gI, wp_mp, hq, true_and]
  · rw [sw_3]; simp only [wp_mb, wp_gI, wp_mp, hq, true_and]
  · rw [sw_4]; simp only [wp_mb, wp_gI, wp_mp, hq, true_and]
/-- the acts' parts, mixed in -/
def dgA (ac : Nat → Ac) (h : Int64) : Nat → Int64
  | 0 => h
  | m + 1 => dgC (ac m) (dgA ac h m) 5
theorem dig_20 (h : CX r n ac f ev sv ns st A d) {i : Nat} (hi : i < n) (k : Int64) : Main_digestProgram_20 1 (nI i) (k, 0) d = some (.inl (dgC (ac i) k 5, nI (i + 1)), d) := by
  have hR := h.1.1.2.2.2.2
  have hn := h.1.1.1.1
  have hac := h.1.1.2.2.2.1 i hi
  obtain ⟨a1, a2, -⟩ := h.1.1.at hi
  apply wp_get
  unfold Main_digestProgram_20
  refine wp_up (fun m s dd => s = (dgC (ac i) k m, nI m) ∧ dd = d) 5 ?_ (i := 0) (by omega) ⟨rfl, rfl⟩
  intro m s dd hm ⟨e1, e2⟩
  subst e1; subst e2
  unfold Main_digestProgram_20_b Main_mix
  by_cases h5 : m = 5
  · subst h5
    rw [if_pos (show (4 : Int32) < nI 5 by decide)]
    simp only [wp_mr, wp_ml, wp_mp]
    exact ⟨by rw [← nI_add]; rfl, trivial⟩
  · rw [if_neg (show ¬ (4 : Int32) < nI m from fun q => by have := (nI_ltI (a := 4) (by omega) (by omega)).mp q; omega)]
    simp only [wp_mb, wp_ml, wp_gR, wp_aR, wp_vc, wp_mp, zk, zl, true_and, hR.1, a2, nI_clamp (show i < 2 ^ 31 by omega), wp_eq (part_eq (d := dd) a2 (show m < 5 by omega)), hac m (show m < 5 by omega)]
    exact ⟨ib_nI (by omega) (by omega), by omega, by rw [← nI_add]; rfl, trivial⟩
theorem dig_prog (h : CX r n ac f ev sv ns st A d) (k : Int64) : Main_digestProgram 1 k d = some ((31 : Int64) * dgA ac k n + lN (num (pS ac f (wm ac n) n)), d) := by
  have hR := h.1.1.2.2.2.2
  have hn := h.1.1.1.1
  have hw := wm_lt ac n
  have h12 := p31 hn
  apply wp_get
  unfold Main_digestProgram Main_digestProgram_5
  simp only [wp_ml]
  refine wp_up (fun m s dd => s = (dgA ac k m, nI m) ∧ dd = d) n ?_ (i := 0) (by omega) ⟨rfl, rfl⟩
  intro m s dd hm ⟨e1, e2⟩
  subst e1; subst e2
  unfold Main_digestProgram_5_b Main_mix
  simp only [wp_mb, wp_gR, wp_gI, zk, zl, true_and, hR.1, h.1.1.2.1]
  by_cases hnm : n ≤ m
  · rw [if_pos ((nI_leI (by omega) (by omega)).mpr hnm)]
    rw [show m = n by omega]
    simp only [wp_mr, wp_mb, wp_gR, wp_vc, wp_mp, zk, zl, true_and, hR.1, wp_eq (writes_eq h.1.1), wp_eq (plateOf_eq h.1.1 wm_rf (show wm ac n < 4096 by omega)), wp_eq (num_of (okP_pS h.1.1.1.2.1 h.1.1.1.2.2 wm_rf n (Nat.le_refl _)))]
  · rw [if_neg (fun q => hnm ((nI_leI (by omega) (by omega)).mp q))]
    simp only [wp_ml]
    exact (wp_eq (dig_20 h (show m < n by omega) _)).mpr ⟨by omega, rfl, rfl⟩
end
