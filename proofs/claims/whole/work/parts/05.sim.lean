/-! ===== the words, the world, the judgement Sm ===== -/
def TT : List Cond := lw_tbl.filter goodWord
theorem tt_at {w : Cond} (i : Nat) (h : lw_tbl[i]? = some w) (hg : goodWord w = true) : w ∈ TT := List.mem_filter.mpr ⟨List.mem_of_getElem? h, hg⟩
theorem tt_good {w : Cond} (h : w ∈ TT) : (w.onTables && w.keeps) = true ∨ ∃ ty, w = .arrayClass ty := good_of_word (List.mem_filter.mp h).2
theorem gi_tt {b : Cond} {w0 : Cond} (h0 : w0 ∈ TT) : GoodIn (b :: TT) (w0 :: TT) := fun w hw => by
  rcases List.mem_cons.mp hw with rfl | h
  · exact ⟨List.mem_cons_of_mem _ h0, tt_good h0⟩
  · exact ⟨List.mem_cons_of_mem _ h, tt_good h⟩
theorem gi_t0 {w0 : Cond} (h0 : w0 ∈ TT) : GoodIn TT (w0 :: TT) := fun w hw => by
  rcases List.mem_cons.mp hw with rfl | h
  · exact ⟨h0, tt_good h0⟩
  · exact ⟨h, tt_good h⟩
def cnF (ci : Nat) : Nat := match ci with
  | 0 => 5 | 1 => 4 | 2 => 3 | 3 => 2 | 4 => 6 | 5 => 3 | 6 => 9 | 7 => 4 | 8 => 4 | 9 => 5 | 10 => 11 | 11 => 44 | _ => 0
def ctF (ci : Nat) : Nat → FieldType := match ci with
  | 0 => tyX0 | 1 => tyX1 | 2 => tyX2 | 3 => tyX3 | 4 => tyX4 | 5 => tyX5 | 6 => tyX6 | 7 => tyX7 | 8 => tyX8 | 9 => tyX9 | 10 => tyX10 | _ => tyX11
def ro (ad : Nat → Nat) (a : Nat) : Option Nat := if a = 0 then none else some (ad a)
def rv (ad : Nat → Nat) (a : Nat) : Value := va_rf (ro ad a)
theorem rv_0 {ad : Nat → Nat} {a : Nat} (h : a = 0) : rv ad a = .null := by simp [rv, ro, h, va_rf]
theorem rv_n {ad : Nat → Nat} {a : Nat} (h : a ≠ 0) : rv ad a = .ref (ad a) := by simp [rv, ro, h, va_rf]
def fv (ad : Nat → Nat) (d : Dm) (a k : Nat) (ty : FieldType) : Value := match ty with
  | .long => .long (d.2.1 a k)
  | .object _ => rv ad (d.2.2 a k)
  | .array _ => rv ad (d.2.2 a k)
  | _ => .int (d.1 a k)
def fl (ad : Nat → Nat) (d : Dm) (a ci : Nat) : List Value := (List.range (cnF ci)).map (fun k => fv ad d a k (ctF ci k))
def wc (cy : Nat → ClassId) (ad : Nat → Nat) (Z : Zt) (d : Dm) (a : Nat) : va_E :=
  if Z.2.1 a ≤ 12 then .inr (Z.2.1 a - 1, fl ad d a (Z.2.1 a - 1))
  else if Z.2.1 a = 24 then .inl (cy 24, Z.2.2 a, .inr (.inl (d.2.1 a)))
  else if Z.2.1 a ≤ 25 then .inl (cy (Z.2.1 a), Z.2.2 a, .inl (d.1 a))
  else .inl (cy (Z.2.1 a), Z.2.2 a, .inr (.inr (.inr (.inr (fun k => ro ad (d.2.2 a k))))))
def wd (cy : Nat → ClassId) (ad : Nat → Nat) (Z : Zt) (d : Dm) : va_W := (List.range Z.1).map (fun i => (ad (i + 1), wc cy ad Z d (i + 1)))
theorem wd_at {cy : Nat → ClassId} {ad : Nat → Nat} {Z : Zt} {d : Dm} {a : Nat} (h : 1 ≤ a) (h2 : a ≤ Z.1) : (wd cy ad Z d)[a - 1]? = some (ad a, wc cy ad Z d a) := by
  have e : a - 1 + 1 = a := by omega
  simp [wd, List.getElem?_range (show a - 1 < Z.1 by omega), e]
theorem wd_set {cy : Nat → ClassId} {ad : Nat → Nat} {Z : Zt} {d d' : Dm} {a : Nat} {e : va_E} (h : 1 ≤ a) (he : wc cy ad Z d' a = e) (ho : ∀ b, b ≠ a → wc cy ad Z d' b = wc cy ad Z d b) : (wd cy ad Z d).set (a - 1) (ad a, e) = wd cy ad Z d' := by
  apply List.ext_getElem?
  intro i
  simp only [wd, List.getElem?_set, List.getElem?_map, List.length_map, List.length_range]
  by_cases hi : a - 1 = i
  · subst hi
    by_cases hl : a - 1 < Z.1
    · have e1 : a - 1 + 1 = a := by omega
      rw [if_pos rfl, if_pos hl, List.getElem?_range hl]
      simp [e1, he]
    · rw [if_pos rfl, if_neg hl, List.getElem?_eq_none (by simp; omega)]
      rfl
  · rw [if_neg hi]
    by_cases hl : i < Z.1
    · rw [List.getElem?_range hl]
      simp only [Option.map_some]
      rw [ho (i + 1) (by omega)]
    · rw [List.getElem?_eq_none (by simp; omega)]
      rfl
def tysF (cy : Nat → ClassId) : List (ClassId × FieldType) := [(cy 21, .byte), (cy 22, .char), (cy 23, .int), (cy 24, .long), (cy 25, .boolean), (cy 26, .object RX0), (cy 27, .object RX8)]
def cv (ad : Nat → Nat) (v : Value) : Value := match v with
  | .ref a => rv ad a
  | v => v
def cw (ad : Nat → Nat) (q : Nat × Value) : Nat × Value := (q.1, cv ad q.2)
def nestW : List (String × Nat × MethodName × String) := lw_tbl.filterMap (fun w => match w with
  | .methodLinkNest a i x h => some (a, i, x, h)
  | _ => none)
def Wd (U : State) : Prop := (∀ q ∈ nestW, va_Nw (.methodLinkNest q.1 q.2.1 q.2.2.1 q.2.2.2) U) ∧ va_AO RX0 U ∧ va_AO RX8 U
theorem Wd.warm {s U : State} (hW : s.WarmedH U.vm) (h : Wd s) : Wd U := ⟨fun q hq => va_Nw.warmM hW (h.1 q hq), va_AO.moved hW.alike h.2.1, va_AO.moved hW.alike h.2.2⟩
theorem Wd.same {u U : State} (e : u.vm = U.vm) (h : Wd u) : Wd U := ⟨fun q hq => va_Nw.same rfl e (h.1 q hq), va_AO.moved (by rw [e]; exact Vm.Alike.refl U.vm) h.2.1, va_AO.moved (by rw [e]; exact Vm.Alike.refl U.vm) h.2.2⟩
abbrev GT : Type := Program × Launch × Env × State × MethodId × Array Value × List Frame × Method × Code × (State → Prop) × (Nat → Prop) × (Nat → ClassId) × va_G
def Cx (G : GT) (R : Room) (cc : ByteArray) (nL : Nat) (own : String) : Prop := match G with
  | (p, _, _, s, m, args, _, meth, c, _, A, cy, D) => p.tables.exec = Jvm.exec ∧ c.code = cc ∧ c.maxLocals = nL ∧ s.vm.findClass own = some m.cls ∧ (∀ w ∈ TT, w.before args s = true) ∧ va_K D vwCl (tysF cy) s ∧ Wd s ∧ (∀ q, s.heap.size ≤ q → A q) ∧ meth.locks = false
def Vk (ad : Nat → Nat) (Z : Zt) : Prop := (∀ a b, 1 ≤ a → a ≤ Z.1 → 1 ≤ b → b ≤ Z.1 → ad a = ad b → a = b) ∧ ∀ a, Z.2.1 a ≠ 0 → 1 ≤ a ∧ a ≤ Z.1
def Vx (G : GT) (R : Room) (ad : Nat → Nat) (Z : Zt) (ck : Nat × Nat) : Prop := Vk ad Z ∧ (match G with
  | (_, _, _, _, _, _, _, _, _, _, A, _, _) => ∀ a, 1 ≤ a → a ≤ Z.1 → A (ad a)) ∧ ck.1 ≤ R.cells ∧ ck.2 ≤ R.slots
def Sm {ρ : Type} (G : GT) (R : Room) (ad : Nat → Nat) (Z : Zt) (ck : Nat × Nat) (K : ρ → Dm → Prop) (pc : Nat) (L : List (Nat × Value)) (st : List Value) (f : MM ρ) : Prop := match G with
  | (p, l, e, s, m, args, below, meth, c, Q, A, cy, D) => ∀ (d : Dm) (r : ρ) (d' : Dm), f d = some (r, d') → K r d' → ∀ (H : Heap) (locs : List Loc) (ls : Array Slot), lv_has ls c.maxLocals (L.map (cw ad)) → va_P D vwCl (wd cy ad Z d) H → va_S A s.heap H locs → W p l e R s m args below meth c H locs ck.1 ck.2 Q (F0 m pc ls (st.map (cv ad)))
theorem vk_D {A : Nat → Prop} {cy : Nat → ClassId} {ad : Nat → Nat} {Z : Zt} {d : Dm} (h : Vk ad Z) (hA : ∀ a, 1 ≤ a → a ≤ Z.1 → A (ad a)) : va_D A (wd cy ad Z d) := by
  constructor
  · intro i j p q hi hj e
    simp only [wd, List.getElem?_map, Option.map_eq_some_iff] at hi hj
    obtain ⟨i', hi', rfl⟩ := hi
    obtain ⟨j', hj', rfl⟩ := hj
    obtain ⟨hil, hi2⟩ := List.getElem?_eq_some_iff.mp hi'
    obtain ⟨hjl, hj2⟩ := List.getElem?_eq_some_iff.mp hj'
    simp only [List.length_range, List.getElem_range] at hil hi2 hjl hj2
    have := h.1 (i' + 1) (j' + 1) (by omega) (by omega) (by omega) (by omega) e
    omega
  · intro k q hk
    simp only [wd, List.getElem?_map, Option.map_eq_some_iff] at hk
    obtain ⟨i', hi', rfl⟩ := hk
    obtain ⟨hil, hi2⟩ := List.getElem?_eq_some_iff.mp hi'
    simp only [List.length_range, List.getElem_range] at hil hi2
    exact hA (i' + 1) (by omega) (by omega)
def lk : List (Nat × Value) → Nat → Option Value
  | [], _ => none
  | q :: t, i => bif Nat.beq q.1 i then some q.2 else lk t i
theorem lk_mem : ∀ {L : List (Nat × Value)} {i : Nat} {v : Value}, lk L i = some v → (i, v) ∈ L
  | [], _, _, h => by cases h
  | q :: t, i, v, h => by
    simp only [lk] at h
    cases hb : Nat.beq q.1 i with
    | true =>
      rw [hb] at h
      simp only [cond_true, Option.some.injEq] at h
      have := Nat.eq_of_beq_eq_true hb
      subst this; subst h
      exact List.mem_cons_self
    | false =>
      rw [hb] at h
      exact List.mem_cons_of_mem _ (lk_mem h)
theorem lk_at {ad : Nat → Nat} {ls : Array Slot} {n : Nat} {L : List (Nat × Value)} {i : Nat} {v : Value} (h : lv_has ls n (L.map (cw ad))) (hk : lk L i = some v) : ls[i]? = some (.val (cv ad v)) := h.2.2 (i, cv ad v) (List.mem_map.mpr ⟨(i, v), lk_mem hk, rfl⟩)
def pkL (L : List (Nat × Value)) (is : List Nat) : List (Nat × Value) := is.filterMap (fun i => (lk L i).map (fun v => (i, v)))
theorem pkL_has {ad : Nat → Nat} {ls : Array Slot} {n : Nat} {L : List (Nat × Value)} (is : List Nat) (h : lv_has ls n (L.map (cw ad))) : lv_has ls n ((pkL L is).map (cw ad)) := by
  refine ⟨h.1, h.2.1, fun q hq => ?_⟩
  obtain ⟨x, hx, rfl⟩ := List.mem_map.mp hq
  obtain ⟨i, -, hi⟩ := List.mem_filterMap.mp hx
  obtain ⟨v, hv, rfl⟩ := Option.map_eq_some_iff.mp hi
  exact lk_at h hv
def st1 (L : List (Nat × Value)) (i : Nat) (v : Value) : List (Nat × Value) := (i, v) :: L.filter (fun q => !(Nat.beq q.1 i) && !(Nat.beq (q.1 + 1) i && Nat.beq q.2.category 2))
def st2 (L : List (Nat × Value)) (i : Nat) (v : Value) : List (Nat × Value) := (i, v) :: L.filter (fun q => !(Nat.beq q.1 i) && (!(Nat.beq q.1 (i + 1)) && !(Nat.beq (q.1 + 1) i && Nat.beq q.2.category 2)))
theorem beq_n (a b : Nat) : Nat.beq a b = (a == b) := by
  rw [Bool.eq_iff_iff]
  simp [Nat.beq_eq]
theorem cv_cat (ad : Nat → Nat) (v : Value) : (cv ad v).category = v.category := by
  cases v <;> first | rfl | (show (rv ad _).category = _; unfold rv ro; split <;> rfl)
theorem st1_map (ad : Nat → Nat) (L : List (Nat × Value)) (i : Nat) (v : Value) : (i, cv ad v) :: (L.map (cw ad)).filter (fun q => !(q.1 == i) && !(q.1 + 1 == i && q.2.category == 2)) = (st1 L i v).map (cw ad) := by
  simp only [st1, List.map_cons, List.filter_map, beq_n]
  congr 2
  apply List.filter_congr
  intro q _
  simp [cw, cv_cat]
theorem st2_map (ad : Nat → Nat) (L : List (Nat × Value)) (i : Nat) (v : Value) : (i, cv ad v) :: (L.map (cw ad)).filter (fun q => !(q.1 == i) && (!(q.1 == i + 1) && !(q.1 + 1 == i && q.2.category == 2))) = (st2 L i v).map (cw ad) := by
  simp only [st2, List.map_cons, List.filter_map, beq_n]
  congr 2
  apply List.filter_congr
  intro q _
  simp [cw, cv_cat]
