/-! ===== pure: both sides answer alike, call by call ===== -/
def OK1 {α : Type} (k : Nat) (C M : MM α) (d : Dm) : Prop := wp C d (fun z d1 => wp M d1 (fun z' d2 => z = z' ∧ KI (k + 1) d2))
theorem KI.up {k : Nat} {d : Dm} (h : KI k d) : KI (k + 1) d := by
  obtain ⟨r, n, ac, f, ev, sv, ns, st, A, t, pn, b, e, fd, h1, h2, h3, h4⟩ := h
  exact ⟨r, n, ac, f, ev, sv, ns, st, A, t, pn, b, e, fd, h1, h2, by omega, h4⟩
section
variable {r n ns st A : Nat} {ac : Nat → Ac} {f : Pl} {ev : Nat → Pl → Bool} {sv : Nat → Pl → Pl} {t : Nat → Nat} {pn b e fd k : Nat} {d d' : Dm}
theorem KI.mk (h1 : CI r n ac f ev sv ns st A t pn (nI b) (nI e) fd d) (h2 : MJ r n ac f ev sv ns A t pn (nI b) (nI e) fd d) (h3 : st ≤ k + 1) (h4 : b ≤ 9 ∧ e ≤ 99 ∧ fd ≤ 12) : KI k d := ⟨r, n, ac, f, ev, sv, ns, st, A, t, pn, b, e, fd, h1, h2, h3, h4⟩
/-- a call that only asks -/
theorem ok_read {α : Type} {C M : MM α} {R : α → Prop} (h1 : CI r n ac f ev sv ns st A t pn (nI b) (nI e) fd d) (h2 : MJ r n ac f ev sv ns A t pn (nI b) (nI e) fd d) (h3 : st ≤ k + 1) (h4 : b ≤ 9 ∧ e ≤ 99 ∧ fd ≤ 12) (hC : wp C d (fun z d' => frX d d' ∧ CX r n ac f ev sv ns st A d' ∧ R z)) (hM : ∀ d1, MX r n ac f ev sv ns A d1 → wp M d1 (fun z d' => frc sPl d1 d' ∧ MX r n ac f ev sv ns A d' ∧ R z)) (hR : ∀ x y, R x → R y → x = y) : OK1 k C M d := by
  refine wp_mono hC (fun z d1 ⟨a1, a2, a3⟩ => ?_)
  have m1 := h2.cls a1.c
  have c1 := h1.X a1 a2
  refine wp_mono (hM d1 m1.1) (fun z' d2 ⟨b1, b2, b3⟩ => ?_)
  exact ⟨hR _ _ a3 b3, KI.mk (c1.ref (f65_P b1)) (m1.P b1 b2) (by omega) h4⟩
/-- an act comes -/
theorem ok_add {C M : MM Int32} {a : Ac} (h1 : CI r n ac f ev sv ns st A t pn (nI b) (nI e) fd d) (h2 : MJ r n ac f ev sv ns A t pn (nI b) (nI e) fd d) (h3 : st ≤ k + 1) (h4 : b ≤ 9 ∧ e ≤ 99 ∧ fd ≤ 12) {z : Int32} {d1 : Dm} (hA : AA r n ac f ev sv ns st A a d z d1) {z' : Int32} {d2 : Dm} (hm : MJ r n ac f ev sv ns A t pn (nI b) (nI e) fd d1 → AAm r n ac f ev sv ns A t pn (nI b) (nI e) fd a d1 z' d2) : z = z' ∧ KI (k + 1) d2 := by
  obtain ⟨a1, a2⟩ := hA
  have m1 := h2.cls a1.c
  rcases a2 with ⟨q1, q2, q3⟩ | ⟨q1, q2, q3⟩
  · subst q3
    rcases hm m1 with ⟨w1, w2, w3⟩ | ⟨w1, w2, w3⟩
    · subst w3
      exact ⟨q2.trans w2.symm, KI.mk h1 h2 (by omega) h4⟩
    · omega
  · rcases hm m1 with ⟨w1, w2, w3⟩ | ⟨w1, w2, w3, w4⟩
    · omega
    · exact ⟨q2.trans w2.symm, KI.mk ((h1.Y a1 q3).ref w3) w4 (by omega) h4⟩
end
