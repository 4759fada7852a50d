/-! ===== pure: digest, its single loops ===== -/
def dgC (g : Nat → Int32) (h : Int64) : Nat → Int64
  | 0 => h
  | m + 1 => (31 : Int64) * dgC g h m + (g m).toInt64
section
variable {r n ns st A : Nat} {ac : Nat → Ac} {f : Pl} {ev : Nat → Pl → Bool} {sv : Nat → Pl → Pl} {d : Dm}
theorem dig_216 (h : CX r n ac f ev sv ns st A d) {pn fd : Nat} (hp : d.1 52 1 = nI pn) (hf : d.1 1 10 = nI fd) (k : Int64) : Main_digest_216 1 (k, 0) d = some (dgC (fun m => cnS n r ns pn fd ac (nI m)) k 7, d) := by
  apply wp_get
  unfold Main_digest_216
  refine wp_up (fun m s dd => s = (dgC (fun m => cnS n r ns pn fd ac (nI m)) k m, nI m) ∧ dd = d) 7 ?_ (i := 0) (by omega) ⟨rfl, rfl⟩
  intro m s dd hm ⟨e1, e2⟩
  subst e1; subst e2
  unfold Main_digest_216_b Main_mix
  by_cases h7 : m = 7
  · subst h7
    rw [if_pos (show (6 : Int32) < nI 7 by decide)]
    exact wp_mr.mpr (wp_mp.mpr ⟨rfl, rfl⟩)
  · rw [if_neg (show ¬ (6 : Int32) < nI m from fun q => by have := (nI_ltI (a := 6) (by omega) (by omega)).mp q; omega)]
    simp only [wp_mb, wp_ml, wp_vc, wp_mp, zk, true_and, wp_eq (count_eq h hp hf (nI m))]
    exact ⟨by omega, by rw [← nI_add]; rfl, trivial⟩
end
/-! the page's loop -/
section
variable {r n ns st A : Nat} {ac : Nat → Ac} {f : Pl} {ev : Nat → Pl → Bool} {sv : Nat → Pl → Pl} {d : Dm}
theorem dig_179 (h : CX r n ac f ev sv ns st A d) {pn fd : Nat} (hpn : pn ≤ 60) (hp : d.1 52 1 = nI pn) (hf : d.1 1 10 = nI fd) (k : Int64) : Main_digest_179 1 (k, 0) d = some (dgC (fun m => cnS n r ns pn fd ac (nI m)) (dgC (d.1 53) k pn) 7, d) := by
  have hR := h.1.1.2.2.2.2
  apply wp_get
  unfold Main_digest_179
  refine wp_up (fun m s dd => s = (dgC (d.1 53) k m, nI m) ∧ dd = d) pn ?_ (i := 0) (by omega) ⟨rfl, rfl⟩
  intro m s dd hm ⟨e1, e2⟩
  subst e1; subst e2
  unfold Main_digest_179_b Main_mix
  simp only [wp_mb, wp_gR, wp_gI, zk, zl, true_and, hR.1, hp]
  by_cases hmp : pn ≤ m
  · rw [if_pos ((nI_leI (by omega) (by omega)).mpr hmp)]
    rw [show m = pn by omega]
    refine wp_mr.mpr ?_
    simp only [wp_ml, wp_eq (dig_216 h hp hf _)]
    exact ⟨trivial, trivial⟩
  · rw [if_neg (fun q => hmp ((nI_leI (by omega) (by omega)).mp q))]
    simp only [wp_mb, wp_ml, wp_gR, wp_aI, wp_mp, zk, zl, true_and, hR.1, nI_clamp (show m < 2 ^ 31 by omega)]
    exact ⟨ib_nI (by omega) (by omega), by omega, by rw [← nI_add]; rfl, trivial⟩
end
