/-! ===== pure: both sides stand for the same ===== -/
def CI (r n : Nat) (ac : Nat → Ac) (f : Pl) (ev : Nat → Pl → Bool) (sv : Nat → Pl → Pl) (ns st A : Nat) (t : Nat → Nat) (pn : Nat) (bc fc : Int32) (fd : Nat) (d : Dm) : Prop := CX r n ac f ev sv ns st A d ∧ PG t pn d ∧ CK bc fc d ∧ d.1 1 10 = nI fd
section
variable {r n ns st A : Nat} {ac : Nat → Ac} {f : Pl} {ev : Nat → Pl → Bool} {sv : Nat → Pl → Pl} {t : Nat → Nat} {pn : Nat} {bc fc : Int32} {fd : Nat} {d d' : Dm}
/-- the reference moves: the class's side stands -/
theorem CI.ref (h : CI r n ac f ev sv ns st A t pn bc fc fd d) (hf : frc s65 d d') : CI r n ac f ev sv ns st A t pn bc fc fd d' := by
  have h1 : ∀ x, x < 65 → d'.1 x = d.1 x := fun x hx => funext fun j => (hf.1 x j (fun q => by unfold s65 at q; omega)).1
  have h2 : ∀ x, x < 65 → d'.2.1 x = d.2.1 x := fun x hx => funext fun j => (hf.1 x j (fun q => by unfold s65 at q; omega)).2
  obtain ⟨hX, hg, hc, hF⟩ := h
  refine ⟨?_, ⟨hg.1, by rw [h1 52 (by omega)]; exact hg.2.1, fun i hi => by rw [h1 53 (by omega)]; exact hg.2.2 i hi⟩, ⟨by rw [h1 1 (by omega)]; exact hc.1, by rw [h1 1 (by omega)]; exact hc.2⟩, by rw [h1 1 (by omega)]; exact hF⟩
  refine ⟨⟨hX.1.1.congr (fun x hx => h1 x (by omega)) (by rw [h2 3 (by omega)]) hf.2, hX.1.2.1.congr (fun x hx => h1 x (by omega)), hX.1.2.2.1.congr (fun x hx => h1 x (by omega)), hX.1.2.2.2.congr (h1 2 (by omega)) (h1 51 (by omega))⟩, ⟨by rw [h1 17 (by omega)]; exact hX.2.1.1, hX.2.1.2⟩, ?_⟩
  have hF2 := hX.2.2
  unfold cFi at hF2 ⊢
  rw [h1 58 (by omega)]
  exact hF2.imp id (fun ⟨k, a, b, s, E, c, e⟩ => ⟨k, a, b, s, E, c.mov (by rw [h1 58 (by omega)]) (by rw [h2 59 (by omega)]) (h1 60 (by omega)), e⟩)
/-- the class moves: the reference's side stands -/
theorem MJ.cls (h : MJ r n ac f ev sv ns A t pn bc fc fd d) (hf : ∀ x, 65 ≤ x → d'.1 x = d.1 x ∧ d'.2.1 x = d.2.1 x ∧ d'.2.2 x = d.2.2 x) : MJ r n ac f ev sv ns A t pn bc fc fd d' := by
  have h0 : frc (fun x _ => x < 65) d (d'.1, d'.2.1, d.2.2) := ⟨fun x j hx => ⟨congrFun (hf x (Nat.le_of_not_lt hx)).1 j, congrFun (hf x (Nat.le_of_not_lt hx)).2.1 j⟩, rfl⟩
  have hX := h.1.fco h0 (fun x j hx q => by unfold coM at hx; omega)
  have hR : MRf d'.2.2 := by
    have := h.1.1.1
    unfold MRf at this ⊢
    rw [(hf 65 (Nat.le_refl _)).2.2]
    exact this
  have hg := h.2.1.fr h0 (by omega) (fun j => by omega)
  have hk := h.2.2.fr h0 (fun j a b => by omega)
  exact ⟨⟨⟨hR, hX.1.2⟩, hX.2⟩, hg, hk⟩
theorem frX.c (h : frX d d') : ∀ x, 65 ≤ x → d'.1 x = d.1 x ∧ d'.2.1 x = d.2.1 x ∧ d'.2.2 x = d.2.2 x := fun x hx => ⟨h.1 x (by omega) (by omega) (by omega) (by omega) (by omega), h.2.1 x (by omega), by rw [h.2.2]⟩
theorem frY.c (h : frY d d') : ∀ x, 65 ≤ x → d'.1 x = d.1 x ∧ d'.2.1 x = d.2.1 x ∧ d'.2.2 x = d.2.2 x := fun x hx => h x (by omega)
theorem frZ.c (h : frZ d d') : ∀ x, 65 ≤ x → d'.1 x = d.1 x ∧ d'.2.1 x = d.2.1 x ∧ d'.2.2 x = d.2.2 x := fun x hx => h x (by omega)
theorem CI.X (h : CI r n ac f ev sv ns st A t pn bc fc fd d) (hf : frX d d') (hX : CX r n ac f ev sv ns st A d') : CI r n ac f ev sv ns st A t pn bc fc fd d' := by
  have h1 : ∀ x, (x = 1 ∨ x = 52 ∨ x = 53) → d'.1 x = d.1 x := fun x hx => hf.1 x (by omega) (by omega) (by omega) (by omega) (by omega)
  obtain ⟨_, hg, hc, hF⟩ := h
  exact ⟨hX, ⟨hg.1, by rw [h1 52 (by omega)]; exact hg.2.1, fun i hi => by rw [h1 53 (by omega)]; exact hg.2.2 i hi⟩, ⟨by rw [h1 1 (by omega)]; exact hc.1, by rw [h1 1 (by omega)]; exact hc.2⟩, by rw [h1 1 (by omega)]; exact hF⟩
theorem CI.Y {r' n' ns' st' A' : Nat} {ac' : Nat → Ac} {f' : Pl} {ev' : Nat → Pl → Bool} {sv' : Nat → Pl → Pl} (h : CI r n ac f ev sv ns st A t pn bc fc fd d) (hf : frY d d') (hX : CX r' n' ac' f' ev' sv' ns' st' A' d') : CI r' n' ac' f' ev' sv' ns' st' A' t pn bc fc fd d' := by
  have h1 : ∀ x, (x = 1 ∨ x = 52 ∨ x = 53) → d'.1 x = d.1 x := fun x hx => (hf x (by omega)).1
  obtain ⟨_, hg, hc, hF⟩ := h
  exact ⟨hX, ⟨hg.1, by rw [h1 52 (by omega)]; exact hg.2.1, fun i hi => by rw [h1 53 (by omega)]; exact hg.2.2 i hi⟩, ⟨by rw [h1 1 (by omega)]; exact hc.1, by rw [h1 1 (by omega)]; exact hc.2⟩, by rw [h1 1 (by omega)]; exact hF⟩
end
/-- both sides after k calls -/
def KI (k : Nat) (d : Dm) : Prop := ∃ r n ac f ev sv ns st A t pn b e fd, CI r n ac f ev sv ns st A t pn (nI b) (nI e) fd d ∧ MJ r n ac f ev sv ns A t pn (nI b) (nI e) fd d ∧ st ≤ k + 1 ∧ b ≤ 9 ∧ e ≤ 99 ∧ fd ≤ 12
