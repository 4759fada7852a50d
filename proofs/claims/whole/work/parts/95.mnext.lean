/-! ===== pure: the reference reads a text letter by letter ===== -/
section
variable {sp : Bool} {o c : Nat} {d : Dm}
theorem bI_if {α : Type} (b : Bool) (x y : α) : (if bI b = 0 then x else y) = if b then y else x := by cases b <;> rfl
theorem wp_lI {Q : Int32 → Dm → Prop} {x : Int32} {y : Option Nat} (h : x = ltI y) : wp (mp x) d Q ↔ Q (ltI y) d := by rw [wp_mp, h]
theorem n315 {q : Nat} (hc : c < 128) (hq : q ≤ 12) : Mod_next_315 (nI q) (nI c) d = some (ltI (if q = 9 ∧ c = 61 then some 10 else none), d) := by
  apply wp_get
  unfold Mod_next_315
  refine wp_if (fun h => ?_) (fun h => ?_)
  · have hq9 : q = 9 := (nI_c (n := 9) (by omega) (by omega)).mp h
    refine wp_if (fun h2 => ?_) (fun h2 => ?_)
    · rw [if_pos ⟨hq9, (nI_c (n := 61) hc (by omega)).mp h2⟩, wp_mp]; exact ⟨rfl, rfl⟩
    · rw [if_neg (fun k => h2 ((nI_c (n := 61) hc (by omega)).mpr k.2)), wp_mp]; exact ⟨rfl, rfl⟩
  · rw [if_neg (fun k => h ((nI_c (n := 9) (by omega) (by omega)).mpr k.1)), wp_mp]; exact ⟨rfl, rfl⟩
theorem n246 (hc : c < 128) (ho : o ≤ 60) {u : Bool} (hu : u = true ↔ (c = 41 ∧ 0 < o)) : Mod_next_246 (nI c) (bI sp) (nI o) (bI u) d = some (ltI (nxC sp o c), d) := by
  apply wp_get
  unfold Mod_next_246 nxC
  refine wp_if (fun h => ?_) (fun h38 => wp_if (fun h => ?_) (fun h124 => ?_))
  · rw [if_pos (Or.inl ((nI_c (n := 38) hc (by omega)).mp h)), wp_mp]; exact ⟨rfl, rfl⟩
  · rw [if_pos (Or.inr ((nI_c (n := 124) hc (by omega)).mp h)), wp_mp]; exact ⟨rfl, rfl⟩
  · rw [if_neg (show ¬ (c = 38 ∨ c = 124) from fun q => q.elim (fun q => h38 ((nI_c (n := 38) hc (by omega)).mpr q)) (fun q => h124 ((nI_c (n := 124) hc (by omega)).mpr q)))]
    cases u with
    | true =>
      rw [if_neg (by decide), if_pos (hu.mp rfl), wp_mp]
      exact ⟨rfl, rfl⟩
    | false =>
      rw [if_pos (by decide), if_neg (show ¬ (c = 41 ∧ 0 < o) from fun q => by cases hu.mpr q)]
      refine wp_if (fun h58 => wp_if (fun h0 => wp_if (fun h1 => ?_) (fun h1 => ?_)) (fun h0 => ?_)) (fun h58 => ?_)
      · have e1 : sp = true := by cases sp with
          | true => rfl
          | false => exact absurd h1 (by decide)
        have e0 : o = 0 := (nI_c (n := 0) (by omega) (by omega)).mp h0
        rw [if_pos ⟨(nI_c (n := 58) hc (by omega)).mp h58, e0, e1⟩, wp_mp]; exact ⟨rfl, rfl⟩
      · rw [if_neg (fun q => h1 (by rw [q.2.2]; rfl)), wp_mp]; exact ⟨rfl, rfl⟩
      · rw [if_neg (fun q => h0 (by rw [q.2.1]; rfl)), wp_mp]; exact ⟨rfl, rfl⟩
      · rw [if_neg (fun q => h58 ((nI_c (n := 58) hc (by omega)).mpr q.1)), wp_mp]; exact ⟨rfl, rfl⟩
theorem n220 {q : Nat} (hc : c < 128) (ho : o ≤ 60) (hq : 5 ≤ q ∧ q ≤ 7) : Mod_next_220 (nI q) (nI c) (bI sp) (nI o) d = some (ltI (nxC sp o c), d) := by
  apply wp_get
  unfold Mod_next_220
  rw [wp_mb, wp_eq (Mod_in_eq _ _ _ _), if_pos (show (5 : Int32) ≤ nI q ∧ nI q ≤ 7 from (in_c (lo := 5) (hi := 7) (by omega) (by omega) (by omega)).mpr hq), if_neg (by decide)]
  have go : ∀ u : Bool, (u = true ↔ (c = 41 ∧ 0 < o)) → wp (Mod_next_246 (nI c) (bI sp) (nI o) (bI u)) d (fun x d' => x = ltI (nxC sp o c) ∧ d' = d) := fun u hu => by
    rw [wp_eq (n246 hc ho hu)]; exact ⟨rfl, rfl⟩
  refine wp_if (fun h => wp_if (fun h1 => ?_) (fun h1 => ?_)) (fun h => ?_)
  · refine go false ⟨(fun q => by cases q), fun q => ?_⟩
    have := (nI_leI (a := o) (b := 0) (by omega) (by omega)).mp h1
    omega
  · refine go true ⟨fun _ => ⟨(nI_c (n := 41) hc (by omega)).mp h, ?_⟩, fun _ => rfl⟩
    rcases Nat.eq_zero_or_pos o with q | q
    · subst q; exact absurd (by decide) h1
    · exact q
  · exact go false ⟨(fun q => by cases q), fun q => absurd ((nI_c (n := 41) hc (by omega)).mpr q.1) h⟩
theorem n220o {q : Nat} (hc : c < 128) (hq12 : q ≤ 12) (hq : ¬ (5 ≤ q ∧ q ≤ 7)) : Mod_next_220 (nI q) (nI c) (bI sp) (nI o) d = some (ltI (if q = 8 ∧ isL c = true then some 9 else if q = 9 ∧ c = 61 then some 10 else none), d) := by
  apply wp_get
  unfold Mod_next_220
  rw [wp_mb, wp_eq (Mod_in_eq _ _ _ _), if_neg (show ¬ ((5 : Int32) ≤ nI q ∧ nI q ≤ 7) from fun k => hq ((in_c (lo := 5) (hi := 7) (by omega) (by omega) (by omega)).mp k)), if_pos rfl]
  refine wp_if (fun h => ?_) (fun h => ?_)
  · have hq8 : q = 8 := (nI_c (n := 8) (by omega) (by omega)).mp h
    rw [wp_mb, wp_eq (mlet_eq hc d)]
    cases hL : isL c with
    | true =>
      rw [if_neg (by decide), if_pos ⟨hq8, rfl⟩, wp_mp]
      exact ⟨rfl, rfl⟩
    | false =>
      rw [if_pos (by decide), if_neg (fun k => by cases k.2), wp_eq (n315 hc hq12)]
      exact ⟨rfl, rfl⟩
  · rw [if_neg (fun k => h ((nI_c (n := 8) (by omega) (by omega)).mpr k.1)), wp_eq (n315 hc hq12)]
    exact ⟨rfl, rfl⟩
theorem n160 (hc : c < 128) (u : Bool) : Mod_next_160 (nI c) (bI u) d = some (ltI (if u then some 1 else if isM c then some 4 else none), d) := by
  apply wp_get
  unfold Mod_next_160
  cases u with
  | true => rw [if_neg (by decide), wp_mp]; exact ⟨rfl, rfl⟩
  | false =>
    rw [if_pos (by decide), wp_mb, wp_eq (mmark_eq hc d)]
    cases hM : isM c with
    | true => rw [if_neg (by decide), wp_mp]; exact ⟨rfl, rfl⟩
    | false => rw [if_pos (by decide), wp_mp]; exact ⟨rfl, rfl⟩
def s43 (c : Nat) : Bool := decide (c = 43 ∨ c = 45)
theorem n131 {q : Nat} (hc : c < 128) (hq : q ≤ 12) : Mod_next_131 (nI q) (nI c) (bI sp) (nI o) = Mod_next_148 (nI q) (nI c) (bI sp) (nI o) (bI (s43 c)) := by
  unfold Mod_next_131 Mod_next_143 s43
  by_cases h1 : c = 43
  · subst h1; rfl
  · by_cases h2 : c = 45
    · subst h2; rfl
    · rw [if_neg (show ¬ nI c = (43 : Int32) from fun k => h1 ((nI_c (n := 43) hc (by omega)).mp k)), if_neg (show ¬ nI c = (45 : Int32) from fun k => h2 ((nI_c (n := 45) hc (by omega)).mp k)), decide_eq_false (by omega)]
      rfl
theorem n85 {q : Nat} (hc : c < 128) (ho : o ≤ 60) (hq : q ≤ 12) (h0 : q = 0 ∨ q = 1 ∨ q = 4 ∨ q = 10 → isL c = false ∧ isD c = false) : Mod_next_85 (nI q) (nI c) (bI sp) (nI o) d = some (ltI (nx sp q o c), d) := by
  -- with no digit taken
  have k131 : (q = 0 → c ≠ 33 ∧ c ≠ 40) → (q = 3 ∨ q = 6 ∨ q = 12 → isD c = false) → Mod_next_131 (nI q) (nI c) (bI sp) (nI o) d = some (ltI (nx sp q o c), d) := by
    intro a1 a2
    rw [n131 hc hq]
    have hs : ∀ {α : Type} (x y : α), (if c = 43 ∨ c = 45 then x else y) = if s43 c then x else y := fun x y => by
      unfold s43
      by_cases h : c = 43 ∨ c = 45
      · rw [if_pos h, decide_eq_true h, if_pos rfl]
      · rw [if_neg h, decide_eq_false h, if_neg (by decide)]
    generalize s43 c = u at hs
    have hqq : q = 0 ∨ q = 1 ∨ q = 2 ∨ q = 3 ∨ q = 4 ∨ q = 5 ∨ q = 6 ∨ q = 7 ∨ q = 8 ∨ q = 9 ∨ q = 10 ∨ q = 11 ∨ q = 12 := by omega
    rcases hqq with rfl | rfl | rfl | rfl | rfl | rfl | rfl | rfl | rfl | rfl | rfl | rfl | rfl
    · show Mod_next_220 (nI 0) (nI c) (bI sp) (nI o) d = _
      rw [n220o hc (by omega) (by omega)]
      obtain ⟨b1, b2⟩ := h0 (by omega)
      obtain ⟨b3, b4⟩ := a1 rfl
      simp [nx, b1, b2, b3, b4]
    · show Mod_next_220 (nI 1) (nI c) (bI sp) (nI o) d = _
      rw [n220o hc (by omega) (by omega)]
      obtain ⟨b1, b2⟩ := h0 (by omega)
      simp [nx, b1, b2]
    · show Mod_next_160 (nI c) (bI u) d = _
      rw [n160 hc]
      simp only [nx, hs]
      rfl
    · show Mod_next_160 (nI c) (bI u) d = _
      rw [n160 hc]
      have b2 := a2 (by omega)
      simp [nx, hs, b2]
    · show Mod_next_220 (nI 4) (nI c) (bI sp) (nI o) d = _
      rw [n220o hc (by omega) (by omega)]
      obtain ⟨b1, b2⟩ := h0 (by omega)
      simp [nx, b1, b2]
    · cases u with
      | true =>
        show mp (4 : Int32) d = _
        simp [nx, hs]; rfl
      | false =>
        show Mod_next_220 (nI 5) (nI c) (bI sp) (nI o) d = _
        rw [n220 hc ho (by omega)]
        simp [nx, hs]
    · have b2 := a2 (by omega)
      cases u with
      | true =>
        show mp (4 : Int32) d = _
        simp [nx, hs, b2]; rfl
      | false =>
        show Mod_next_220 (nI 6) (nI c) (bI sp) (nI o) d = _
        rw [n220 hc ho (by omega)]
        simp [nx, hs, b2]
    · show Mod_next_220 (nI 7) (nI c) (bI sp) (nI o) d = _
      rw [n220 hc ho (by omega)]
      simp [nx]
    · show Mod_next_220 (nI 8) (nI c) (bI sp) (nI o) d = _
      rw [n220o hc (by omega) (by omega)]
      simp [nx]
    · show Mod_next_220 (nI 9) (nI c) (bI sp) (nI o) d = _
      rw [n220o hc (by omega) (by omega)]
      simp [nx]
    · show Mod_next_220 (nI 10) (nI c) (bI sp) (nI o) d = _
      rw [n220o hc (by omega) (by omega)]
      obtain ⟨b1, b2⟩ := h0 (by omega)
      simp [nx, b1, b2]
    · cases u with
      | true =>
        show mp (10 : Int32) d = _
        simp [nx, hs]; rfl
      | false =>
        show Mod_next_220 (nI 11) (nI c) (bI sp) (nI o) d = _
        rw [n220o hc (by omega) (by omega)]
        simp [nx, hs]
    · have b2 := a2 (by omega)
      cases u with
      | true =>
        show mp (10 : Int32) d = _
        simp [nx, hs, b2]; rfl
      | false =>
        show Mod_next_220 (nI 12) (nI c) (bI sp) (nI o) d = _
        rw [n220o hc (by omega) (by omega)]
        simp [nx, hs, b2]
  have k103 : (q = 0 → c ≠ 33 ∧ c ≠ 40) → Mod_next_103 (nI q) (nI c) (bI sp) (nI o) d = some (ltI (nx sp q o c), d) := by
    intro a1
    by_cases hq3 : q = 3 ∨ q = 6 ∨ q = 12
    · have e1 : Mod_next_103 (nI q) (nI c) (bI sp) (nI o) = Mod_next_120 (nI q) (nI c) (bI sp) (nI o) := by rcases hq3 with rfl | rfl | rfl <;> rfl
      rw [e1]
      apply wp_get
      unfold Mod_next_120
      rw [wp_mb, wp_eq (mdig_eq hc d)]
      cases hD : isD c with
      | true =>
        rw [if_neg (by decide), wp_mp]
        refine ⟨?_, rfl⟩
        rcases hq3 with rfl | rfl | rfl <;> simp [nx, hD] <;> rfl
      | false =>
        rw [if_pos (by decide), wp_eq (k131 a1 (fun _ => hD))]
        exact ⟨rfl, rfl⟩
    · have e1 : Mod_next_103 (nI q) (nI c) (bI sp) (nI o) = Mod_next_131 (nI q) (nI c) (bI sp) (nI o) := by
        unfold Mod_next_103
        rw [if_neg (show ¬ nI q = (3 : Int32) from fun k => hq3 (Or.inl ((nI_c (n := 3) (by omega) (by omega)).mp k))), if_neg (show ¬ nI q = (6 : Int32) from fun k => hq3 (Or.inr (Or.inl ((nI_c (n := 6) (by omega) (by omega)).mp k)))), if_neg (show ¬ nI q = (12 : Int32) from fun k => hq3 (Or.inr (Or.inr ((nI_c (n := 12) (by omega) (by omega)).mp k))))]
      rw [e1]
      exact k131 a1 (fun k => absurd k hq3)
  unfold Mod_next_85
  by_cases hq0 : q = 0
  · subst hq0
    rw [if_pos (show nI 0 = (0 : Int32) from rfl)]
    obtain ⟨b1, b2⟩ := h0 (by omega)
    by_cases h33 : c = 33
    · subst h33; rfl
    · by_cases h40 : c = 40
      · subst h40; rfl
      · rw [if_neg (show ¬ nI c = (33 : Int32) from fun k => h33 ((nI_c (n := 33) hc (by omega)).mp k)), if_neg (show ¬ nI c = (40 : Int32) from fun k => h40 ((nI_c (n := 40) hc (by omega)).mp k))]
        exact k103 (fun _ => ⟨h33, h40⟩)
  · rw [if_neg (show ¬ nI q = (0 : Int32) from fun k => hq0 ((nI_c (n := 0) (by omega) (by omega)).mp k))]
    exact k103 (fun k => absurd k hq0)
theorem nextM {q : Nat} (hc : c < 128) (ho : o ≤ 60) (hq : q ≤ 12) : Mod_next 65 (nI q) (nI c) (bI sp) (nI o) d = some (ltI (nx sp q o c), d) := by
  unfold Mod_next
  by_cases hx : q = 0 ∨ q = 1 ∨ q = 4 ∨ q = 10
  · have e1 : ∃ b : Nat, (b = 2 ∨ b = 5 ∨ b = 11) ∧ (∀ a, isL c = true → nx sp q a c = some b) ∧ (∀ a, isL c = false → isD c = true → nx sp q a c = some (b + 1)) ∧ Mod_next_e (nI q) (nI c) (bI sp) (nI o) = (mb (Mod_isLetter (nI c)) fun r6 => if r6 = 0 then (mb (Mod_isDigit (nI c)) fun r5 => if r5 = 0 then Mod_next_85 (nI q) (nI c) (bI sp) (nI o) else mp (nI b + (1 : Int32))) else mp (nI b)) := by
      rcases hx with rfl | rfl | rfl | rfl
      · exact ⟨2, Or.inl rfl, fun a h => by simp [nx, h], fun a h h2 => by simp [nx, h, h2], rfl⟩
      · exact ⟨2, Or.inl rfl, fun a h => by simp [nx, h], fun a h h2 => by simp [nx, h, h2], rfl⟩
      · exact ⟨5, Or.inr (Or.inl rfl), fun a h => by simp [nx, h], fun a h h2 => by simp [nx, h, h2], rfl⟩
      · exact ⟨11, Or.inr (Or.inr rfl), fun a h => by simp [nx, h], fun a h h2 => by simp [nx, h, h2], rfl⟩
    obtain ⟨b, hb, b1, b2, b3⟩ := e1
    rw [b3]
    apply wp_get
    rw [wp_mb, wp_eq (mlet_eq hc d)]
    cases hL : isL c with
    | true =>
      rw [if_neg (by decide), wp_mp, b1 o hL]
      exact ⟨rfl, rfl⟩
    | false =>
      rw [if_pos (by decide), wp_mb, wp_eq (mdig_eq hc d)]
      cases hD : isD c with
      | true =>
        rw [if_neg (by decide), wp_mp, b2 o hL hD]
        exact ⟨nI_add b 1, rfl⟩
      | false =>
        rw [if_pos (by decide), wp_eq (n85 hc ho hq (fun _ => ⟨hL, hD⟩))]
        exact ⟨rfl, rfl⟩
  · have e1 : Mod_next_e (nI q) (nI c) (bI sp) (nI o) = Mod_next_85 (nI q) (nI c) (bI sp) (nI o) := by
      have hqq : q = 2 ∨ q = 3 ∨ q = 5 ∨ q = 6 ∨ q = 7 ∨ q = 8 ∨ q = 9 ∨ q = 11 ∨ q = 12 := by omega
      rcases hqq with rfl | rfl | rfl | rfl | rfl | rfl | rfl | rfl | rfl <;> rfl
    rw [e1]
    exact n85 hc ho hq (fun k => absurd k hx)
end
