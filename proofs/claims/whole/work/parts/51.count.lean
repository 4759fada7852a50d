/-! ===== pure: count ===== -/
section
variable {r n ns st A : Nat} {ac : Nat → Ac} {f : Pl} {ev : Nat → Pl → Bool} {sv : Nat → Pl → Pl} {d : Dm}
def cnS (n r ns pn fd : Nat) (ac : Nat → Ac) (x : Int32) : Int32 := if x = 0 then nI n else if x = 1 then nI r else if x = 2 then nI ns else if x = 3 then nI pn else if x = 4 then nI (ew ac n).1 else if x = 5 then nI (pcn (wm ac n) 12) else if x = 6 then nI fd else -102
theorem count_eq (h : CX r n ac f ev sv ns st A d) {pn fd : Nat} (hp : d.1 52 1 = nI pn) (hf : d.1 1 10 = nI fd) (x : Int32) : Main_count 1 x d = some (cnS n r ns pn fd ac x, d) := by
  apply wp_get
  have hR := h.1.1.2.2.2.2
  have hn := h.1.1.1.1
  have hw := wm_lt ac n
  have h12 := p31 hn
  unfold Main_count cnS
  simp only [sw, show (0 : Int32) + 1 = 1 from rfl, show (1 : Int32) + 1 = 2 from rfl, show (2 : Int32) + 1 = 3 from rfl, show (3 : Int32) + 1 = 4 from rfl, show (4 : Int32) + 1 = 5 from rfl, show (5 : Int32) + 1 = 6 from rfl]
  refine wp_if (fun h0 => ?_) (fun h0 => ?_)
  · rw [if_pos h0]
    simp only [wp_mb, wp_gR, wp_gI, wp_mp, zk, zl, true_and, hR.1, h.1.1.2.1]
  rw [if_neg h0]
  refine wp_if (fun h0 => ?_) (fun h0 => ?_)
  · rw [if_pos h0]
    simp only [wp_mb, wp_gR, wp_gI, wp_mp, zk, zl, true_and, hR.1, h.1.2.1.2.1]
  rw [if_neg h0]
  refine wp_if (fun h0 => ?_) (fun h0 => ?_)
  · rw [if_pos h0]
    simp only [wp_mb, wp_gR, wp_gI, wp_mp, zk, zl, true_and, hR.1, h.1.2.2.1.2.1]
  rw [if_neg h0]
  refine wp_if (fun h0 => ?_) (fun h0 => ?_)
  · rw [if_pos h0]
    simp only [wp_mb, wp_gR, wp_gI, wp_mp, zk, zl, true_and, hR.1, hp]
  rw [if_neg h0]
  refine wp_if (fun h0 => ?_) (fun h0 => ?_)
  · rw [if_pos h0]
    simp only [wp_mb, wp_gR, wp_vc, wp_mp, zk, zl, true_and, hR.1, wp_eq (ew_eq h.1.1)]
  rw [if_neg h0]
  refine wp_if (fun h0 => ?_) (fun h0 => ?_)
  · rw [if_pos h0]
    simp only [wp_mb, wp_gR, wp_vc, wp_mp, zk, zl, true_and, hR.1, wp_eq (writes_eq h.1.1), wp_eq (bc_eq (show wm ac n < 4096 by omega))]
  rw [if_neg h0]
  refine wp_if (fun h0 => ?_) (fun h0 => ?_)
  · rw [if_pos h0]
    simp only [wp_mb, wp_gI, wp_mp, zk, zl, true_and, hf]
  rw [if_neg h0]
  exact wp_mp.mpr ⟨rfl, rfl⟩
end
