/-! ===== pure: what changes the program ===== -/
def frY (d d' : Dm) : Prop := ∀ x, (x = 1 ∨ (52 ≤ x ∧ x ≤ 57) ∨ 61 ≤ x) → d'.1 x = d.1 x ∧ d'.2.1 x = d.2.1 x ∧ d'.2.2 x = d.2.2 x
theorem frY_rf (d : Dm) : frY d d := fun _ _ => ⟨rfl, rfl, rfl⟩
theorem frY_tr {d d' d'' : Dm} (h : frY d d') (h2 : frY d' d'') : frY d d'' := fun x hx => ⟨(h2 x hx).1.trans (h x hx).1, (h2 x hx).2.1.trans (h x hx).2.1, (h2 x hx).2.2.trans (h x hx).2.2⟩
theorem frX.Y {d d' : Dm} (h : frX d d') : frY d d' := fun x hx => ⟨h.1 x (by omega) (by omega) (by omega) (by omega) (by omega), h.2.1 x (by omega), by rw [h.2.2]⟩
section
variable {r n ns st A : Nat} {ac : Nat → Ac} {f : Pl} {ev : Nat → Pl → Bool} {sv : Nat → Pl → Pl} {d : Dm}
theorem CV.forget {V V' : Nat → Nat} {d' : Dm} (h : CV V st d) (hst : st < 100000) (h2 : d'.1 2 4 = nI (st + 1)) (h51 : d'.1 51 = d.1 51) : CV V' (st + 1) d' := ⟨by omega, by omega, h2, fun i hi => by
  obtain ⟨k, v, a, b, c, _⟩ := h.2.2.2 i hi
  exact ⟨k, v, by rw [h51]; exact a, by omega, c, fun e => by omega⟩⟩
theorem forget_eq {d1 : Dm} {n' : Nat} {ac' : Nat → Ac} {f' : Pl} (h : CX r n ac f ev sv ns st A d) (hP : CP r n' ac' f' d1) (hk : ∀ x, (17 ≤ x ∧ x ≤ 51) ∨ x = 2 → d1.1 x = d.1 x) (hst : st < 100000) : wp (Main_forgetFound 1) d1 (fun _ d2 => CX r n' ac' f' ev sv ns (st + 1) A d2 ∧ frY d1 d2) := by
  have hR := hP.2.2.2.2
  unfold Main_forgetFound Found_forget Verd_forget
  simp only [wp_mb, wp_gR, wp_gI, wp_pI, wp_vc, wp_mp, zk, zl, true_and, hR.1]
  have e2 : u2 d1.1 58 3 (-1) 2 4 = nI st := (congrFun (u2_row d1.1 (show 2 ≠ 58 by omega) 3 (-1)) 4).trans ((congrFun (hk 2 (by omega)) 4).trans h.1.2.2.2.2.2.1)
  rw [e2]
  have hne : ∀ x, x ≠ 58 → x ≠ 2 → u2 (u2 d1.1 58 3 (-1)) 2 4 (nI st + 1) x = d1.1 x := fun x a b => (u2_row _ b _ _).trans (u2_row _ a _ _)
  refine ⟨⟨⟨hP.congr (fun x hx => hne x (by omega) (by omega)) rfl rfl, h.1.2.1.congr (fun x hx => (hne x (by omega) (by omega)).trans (hk x (by omega))), h.1.2.2.1.congr (fun x hx => (hne x (by omega) (by omega)).trans (hk x (by omega))), h.1.2.2.2.forget hst ?_ ((hne 51 (by omega) (by omega)).trans (hk 51 (by omega)))⟩, ⟨?_, h.2.1.2⟩, Or.inl ?_⟩, fun x hx => ⟨hne x (by omega) (by omega), rfl, rfl⟩⟩
  · exact (u2_s (u2 d1.1 58 3 (-1)) 2 4 (nI st + 1)).trans (nI_add st 1)
  · exact (congrFun ((hne 17 (by omega) (by omega)).trans (hk 17 (by omega))) 2).trans h.2.1.1
  · exact (congrFun (u2_row (u2 d1.1 58 3 (-1)) (show 58 ≠ 2 by omega) 4 (nI st + 1)) 3).trans (u2_s d1.1 58 3 (-1))
def wr5 (I : Nat → Nat → Int32) (q : Nat) (a : Ac) : Nat → Nat → Int32 := u2 (u2 (u2 (u2 (u2 I q 0 (a 0)) q 1 (a 1)) q 2 (a 2)) q 3 (a 3)) q 4 (a 4)
theorem wr5_ne (I : Nat → Nat → Int32) {q x : Nat} (a : Ac) (h : x ≠ q) : wr5 I q a x = I x := by
  unfold wr5
  rw [u2_row _ h, u2_row _ h, u2_row _ h, u2_row _ h, u2_row _ h]
theorem wr5_eq (I : Nat → Nat → Int32) (q : Nat) (a : Ac) {k : Nat} (hk : k < 5) : wr5 I q a q k = a k := by
  unfold wr5
  have : k = 0 ∨ k = 1 ∨ k = 2 ∨ k = 3 ∨ k = 4 := by omega
  rcases this with rfl | rfl | rfl | rfl | rfl
  · rw [u2_k _ _ _ (by omega), u2_k _ _ _ (by omega), u2_k _ _ _ (by omega), u2_k _ _ _ (by omega), u2_s]
  · rw [u2_k _ _ _ (by omega), u2_k _ _ _ (by omega), u2_k _ _ _ (by omega), u2_s]
  · rw [u2_k _ _ _ (by omega), u2_k _ _ _ (by omega), u2_s]
  · rw [u2_k _ _ _ (by omega), u2_s]
  · rw [u2_s]
end
