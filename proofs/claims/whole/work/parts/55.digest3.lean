/-! ===== pure: digest, the sizes ===== -/
section
variable {r n ns st A : Nat} {ac : Nat → Ac} {f : Pl} {ev : Nat → Pl → Bool} {sv : Nat → Pl → Pl} {d : Dm}
theorem dig_92 (h : CX r n ac f ev sv ns st A d) {pn fd : Nat} (hpn : pn ≤ 60) (hp : d.1 52 1 = nI pn) (hf : d.1 1 10 = nI fd) (k : Int64) : wp (Main_digest_92 1 (k, 0)) d (fun z d' => frX d d' ∧ CX r n ac f ev sv ns st A d' ∧ z = dgC (fun m => cnS n r ns pn fd ac (nI m)) (dgC (d.1 53) ((31 : Int64) * ((31 : Int64) * ((31 : Int64) * dgC (fun m => nI (szN ac f n m)) k (n + 1) + lN (num (hl sv 0 ns f))) + (d.1 1 8).toInt64) + (d.1 1 9).toInt64) pn) 7) := by
  have hn := h.1.1.1.1
  unfold Main_digest_92
  refine wp_up (fun m s dd => s = (dgC (fun m => nI (szN ac f n m)) k m, nI m) ∧ frX d dd ∧ CX r n ac f ev sv ns st A dd) (n + 1) ?_ (i := 0) (by omega) ⟨rfl, frX_rf d, h⟩
  intro m s dd hm ⟨e1, hfr, hd⟩
  subst e1
  have hRd := hd.1.1.2.2.2.2
  unfold Main_digest_92_b Main_mix
  simp only [wp_mb, wp_gR, wp_gI, zk, zl, true_and, hRd.1, hd.1.1.2.1]
  by_cases hnm : n < m
  · rw [if_pos (nI_lt hnm (by omega))]
    rw [show m = n + 1 by omega]
    have hok := hd.1.1.1.2.1
    have hf2 := frV_34 dd (hl sv 0 ns f)
    have hd2 := hd.V1 hf2 (rw8_ne dd.1 (hl sv 0 ns f) (show 51 ≠ 34 by omega))
    have hfx := frX_tr hfr (frX_V hf2)
    have e1 := hfx.1 1 (by omega) (by omega) (by omega) (by omega) (by omega)
    have e52 := hfx.1 52 (by omega) (by omega) (by omega) (by omega) (by omega)
    have e53 := hfx.1 53 (by omega) (by omega) (by omega) (by omega) (by omega)
    simp only [wp_mr, wp_mb, wp_ml, wp_gR, wp_gI, wp_gL, wp_vc, wp_mp, zk, zl, true_and, hRd.1, hd.1.1.2.2.1, wp_eq (healed_eq hd.1.2.2.1 hRd hok), wp_eq (num_of (okP_hl hd.1.2.2.1 hok ns (show 0 + ns ≤ ns by omega)))]
    refine (wp_eq (dig_179 hd2 hpn (by rw [e52]; exact hp) (by rw [e1]; exact hf) _)).mpr ⟨hfx, hd2, ?_⟩
    rw [e53]
    have e18 : rw8 dd.1 34 (hl sv 0 ns f) 1 = d.1 1 := e1
    rw [e18]
  · rw [if_neg (fun q => hnm ((nI_ltI (by omega) (by omega)).mp q))]
    simp only [wp_mb, wp_ml, wp_gR, wp_vc, zk, zl, true_and, hRd.1]
    refine wp_mono (hd.fill (show m ≤ n by omega)) (fun _ d2 ⟨a, b, s, E, c, e⟩ => ?_)
    have hR2 := b.1.1.2.2.2.2
    simp only [wp_mb, wp_ml, wp_gR, wp_gI, wp_mp, zk, zl, true_and, hR2.1, c.1]
    refine ⟨by omega, ?_, frX_tr hfr (frX_F a), b⟩
    rw [← nI_add, dgC, szN_eq e.LQ]
    rfl
end
