/-! ===== pure: digest, whole ===== -/
def dgR (A : Nat) (ev : Nat → Pl → Bool) (f : Pl) (h : Int64) : Nat → Int64
  | 0 => h
  | j + 1 => (31 : Int64) * ((31 : Int64) * dgR A ev f h j + (nI (if A.testBit j then 1 else 0)).toInt64) + (nI (if ev j f then 1 else 0)).toInt64
section
variable {r n ns st A : Nat} {ac : Nat → Ac} {f : Pl} {ev : Nat → Pl → Bool} {sv : Nat → Pl → Pl} {d : Dm}
noncomputable def dgS (r n : Nat) (ac : Nat → Ac) (f : Pl) (ev : Nat → Pl → Bool) (sv : Nat → Pl → Pl) (ns A pn fd : Nat) (pg : Nat → Int32) (bc fc : Int32) : Int64 := dgC (fun m => cnS n r ns pn fd ac (nI m)) (dgC pg ((31 : Int64) * ((31 : Int64) * ((31 : Int64) * dgC (fun m => nI (szN ac f n m)) (dgR A ev f ((31 : Int64) * dgA ac ((31 : Int64) * 269 + lN (num f)) n + lN (num (pS ac f (wm ac n) n))) r) (n + 1) + lN (num (hl sv 0 ns f))) + bc.toInt64) + fc.toInt64) pn) 7
theorem digest_eq (h : CX r n ac f ev sv ns st A d) {pn fd : Nat} (hpn : pn ≤ 60) (hp : d.1 52 1 = nI pn) (hf : d.1 1 10 = nI fd) : wp (Main_digest 1) d (fun z d' => frX d d' ∧ CX r n ac f ev sv ns st A d' ∧ z = dgS r n ac f ev sv ns A pn fd (d.1 53) (d.1 1 8) (d.1 1 9)) := by
  have hR := h.1.1.2.2.2.2
  have hn := h.1.1.1.1
  have hr := h.1.2.1.1
  have hA := h.2.1.2
  have hok := h.1.1.1.2.1
  have hf2 := frV_19 d f
  have hd := h.V1 hf2 (rw8_ne d.1 f (show 51 ≠ 19 by omega))
  have hRd := hd.1.1.2.2.2.2
  have e1 := hf2.1 1 (by omega) (by omega) (by omega)
  have e52 := hf2.1 52 (by omega) (by omega) (by omega)
  have e53 := hf2.1 53 (by omega) (by omega) (by omega)
  have hfb := fb_lt ev f r
  have h2r : 2 ^ r ≤ 2 ^ 6 := Nat.pow_le_pow_right (by omega) hr
  unfold Main_digest Main_mix
  simp only [wp_mb, wp_ml, wp_gR, wp_gL, wp_vc, wp_mp, zk, zl, true_and, hR.1, h.1.1.2.2.1, wp_eq (num_of hok), wp_eq (dig_prog h _), wp_eq (failing_eq h.1.2.1 hR hok)]
  unfold Main_digest_39
  refine wp_up (fun m s dd => s = (dgR A ev f ((31 : Int64) * dgA ac ((31 : Int64) * 269 + lN (num f)) n + lN (num (pS ac f (wm ac n) n))) m, nI m) ∧ dd = (rw8 d.1 19 f, d.2)) r ?_ (i := 0) (by omega) ⟨rfl, rfl⟩
  intro m s dd hm ⟨e3, e4⟩
  subst e3; subst e4
  unfold Main_digest_39_b Main_mix
  simp only [wp_mb, wp_gR, wp_gI, zk, zl, true_and, hR.1]
  rw [show rw8 d.1 19 f 17 1 = nI r from hd.1.2.1.2.1]
  by_cases hrm : r ≤ m
  · rw [if_pos ((nI_leI (by omega) (by omega)).mpr hrm)]
    rw [show m = r by omega]
    simp only [wp_mr, wp_ml]
    refine wp_mono (dig_92 (fd := fd) hd hpn (by rw [e52]; exact hp) (by rw [e1]; exact hf) _) (fun z d' ⟨q1, q2, q3⟩ => ⟨frX_tr (frX_V hf2) q1, q2, ?_⟩)
    rw [e53, e1] at q3
    exact q3
  · rw [if_neg (fun q => hrm ((nI_leI (by omega) (by omega)).mp q))]
    have h17 : rw8 d.1 19 f 17 2 = nI A := hd.2.1.1
    simp only [wp_mb, wp_ml, wp_gR, wp_gI, wp_mp, zk, zl, true_and, hR.1, h17, bit_eq (show A < 2 ^ 31 by omega) (show m < 31 by omega), not_bit (show fb ev f r < 2 ^ 31 by omega) (show m < 31 by omega), fb_bit (show m < r by omega)]
    refine ⟨by omega, ?_, trivial⟩
    rw [← nI_add, dgR]
    cases ev m f <;> rfl
end
