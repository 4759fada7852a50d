/-! ===== contracts, calls, returns ===== -/
def PW (D : va_G) (cy : Nat → ClassId) (ad : Nat → Nat) (Z : Zt) (d : Dm) (sz : Nat) (U : State) : Prop := U.heap.size = sz ∧ va_P D vwCl (wd cy ad Z d) U.heap ∧ va_K D vwCl (tysF cy) U ∧ Wd U
theorem pw_blind {D : va_G} {cy : Nat → ClassId} {ad : Nat → Nat} {Z : Zt} {d : Dm} {sz : Nat} {av : List Value} : FrameBlind (va_Pc av (PW D cy ad Z d sz)) := fun a U g mk q => by
  obtain ⟨q0, q1, qP, qK, qW⟩ := q
  exact ⟨q0, q1, qP, va_K.moved (u := U) (U := U.calling g mk a) (Vm.Alike.refl U.vm) qK, Wd.same rfl qW⟩
def MI (Z : Zt) (y : MethodName) (bc : ByteArray) (mL : Nat) (ty : FieldType) (rm : Room) (As : List Value) (F : MM Int32) : Prop := ∀ (l : Launch) (D : va_G) (cy : Nat → ClassId) (ad : Nat → Nat) (d : Dm) (r : Int32) (d' : Dm), F d = some (r, d') → Vk ad Z → ∀ sz, Met l y (.code y bc mL (some ty) :: TT) rm (va_Pc (As.map (cv ad)) (PW D cy ad Z d sz)) (va_Qi (fun (r' : Int32) (_ : Unit) => r' = r) (fun _ t => va_P D vwCl (wd cy ad Z d') t.heap) (va_A (wd cy ad Z d) sz)) 0 0 (va_A (wd cy ad Z d) sz)
def ML (Z : Zt) (y : MethodName) (bc : ByteArray) (mL : Nat) (rm : Room) (As : List Value) (F : MM Int64) : Prop := ∀ (l : Launch) (D : va_G) (cy : Nat → ClassId) (ad : Nat → Nat) (d : Dm) (r : Int64) (d' : Dm), F d = some (r, d') → Vk ad Z → ∀ sz, Met l y (.code y bc mL (some .long) :: TT) rm (va_Pc (As.map (cv ad)) (PW D cy ad Z d sz)) (va_Ql (fun (r' : Int64) (_ : Unit) => r' = r) (fun _ t => va_P D vwCl (wd cy ad Z d') t.heap) (va_A (wd cy ad Z d) sz)) 0 0 (va_A (wd cy ad Z d) sz)
def MV (Z : Zt) (y : MethodName) (bc : ByteArray) (mL : Nat) (rm : Room) (As : List Value) (F : MM Unit) : Prop := ∀ (l : Launch) (D : va_G) (cy : Nat → ClassId) (ad : Nat → Nat) (d : Dm) (r : Unit) (d' : Dm), F d = some (r, d') → Vk ad Z → ∀ sz, Met l y (.code y bc mL none :: TT) rm (va_Pc (As.map (cv ad)) (PW D cy ad Z d sz)) (va_Qv (fun (_ : Unit) => True) (fun _ t => va_P D vwCl (wd cy ad Z d') t.heap) (va_A (wd cy ad Z d) sz)) 0 0 (va_A (wd cy ad Z d) sz)
theorem wd_A {A : Nat → Prop} {cy : Nat → ClassId} {ad : Nat → Nat} {Z : Zt} {d : Dm} {H0 H : Heap} {locs : List Loc} (h : ∀ a, 1 ≤ a → a ≤ Z.1 → A (ad a)) (hS : va_S A H0 H locs) (hA : ∀ q, H0.size ≤ q → A q) : ∀ q, va_A (wd cy ad Z d) H.size q → A q := by
  intro q hq
  rcases hq with ⟨k, e, hk⟩ | hq
  · simp only [wd, List.getElem?_map, Option.map_eq_some_iff] at hk
    obtain ⟨i', hi', he⟩ := hk
    obtain ⟨hil, hi2⟩ := List.getElem?_eq_some_iff.mp hi'
    simp only [List.length_range, List.getElem_range] at hil hi2
    cases he
    exact h (i' + 1) (by omega) (by omega)
  · exact hA q (Nat.le_trans hS.1 hq)
def LC (own : String) (idx : Nat) (y : MethodName) (bc : ByteArray) (mL : Nat) (ret : Option FieldType) (n : Nat) : Prop := Cond.methodLink own idx y ∈ TT ∧ Cond.initialized y.cls ∈ TT ∧ Cond.code y bc mL ret ∈ TT ∧ (y.cls ≠ "java/lang/invoke/MethodHandle" ∧ y.cls ≠ "java/lang/invoke/VarHandle" ∧ (parseMethodDescriptor y.desc).map (fun d => d.parameters.length) = some n)
def LN (own : String) (idx : Nat) (y : MethodName) (host : String) (bc : ByteArray) (mL : Nat) (ret : Option FieldType) (n : Nat) : Prop := (own, idx, y, host) ∈ nestW ∧ Cond.initialized y.cls ∈ TT ∧ Cond.code y bc mL ret ∈ TT ∧ (y.cls ≠ "java/lang/invoke/MethodHandle" ∧ y.cls ≠ "java/lang/invoke/VarHandle" ∧ (parseMethodDescriptor y.desc).map (fun d => d.parameters.length) = some n)
def RF (R rm : Room) (mL : Nat) : Prop := rm.cells = 0 ∧ rm.slots = 0 ∧ rm.frames + 1 ≤ R.frames ∧ 8 + (mL + 11) + rm.locals ≤ R.locals
theorem cat_map {ad : Nat → Nat} {st : List Value} : ((st.map (cv ad)).map fun v => v.category) = st.map fun v => v.category := by
  rw [List.map_map]
  exact List.map_congr_left (fun v _ => cv_cat ad v)
theorem fb_add1 (k : Int32) (h : k.toInt < 2 ^ 31 - 1) : (k + 1).toInt = k.toInt + 1 := by
  rw [Int32.toInt_add, show (1 : Int32).toInt = 1 from rfl]
  have := Int32.le_toInt k
  rw [Int.bmod_eq_of_le (by omega) (by omega)]
section
variable {ρ : Type} {G : GT} {R : Room} {ad : Nat → Nat} {Z : Zt} {ck : Nat × Nat} {K : ρ → Dm → Prop} {pc nL : Nat} {cc : ByteArray} {own : String} {L : List (Nat × Value)} {st : List Value} {f : MM ρ}
theorem s_vI (C : Cx G R cc nL own) (hV : Vx G R ad Z ck) {idx ci n mL : Nat} {y : MethodName} {bc : ByteArray} {ty : FieldType} {rm : Room} {q : vw_C} (hC : vwCl[ci]? = some q) (hci : ci < 12) (hL : LC own idx y bc mL (some ty) n) (hs : Cond.instanceMethod y ∈ TT ∧ Cond.selects q.1 y y ∈ TT) {a : Nat} {As stk : List Value} {F : MM Int32} {kf : Int32 → MM ρ} (hM : MI Z y bc mL ty rm (.ref a :: As) F) (hn : As.length = n) (hrm : RF R rm mL) (hst : stk = As.reverse ++ .ref a :: st) (hcat : (st.map fun v => v.category).sum ≤ 8) (hd : decode cc pc = .ok (.invokevirtual idx, 3)) (kk : ∀ r, Sm G R ad Z ck K (pc + 3) L (.int r :: st) (kf r)) : Sm G R ad Z ck K pc L stk (mb (vc Z (ci + 1) a F) kf) := by
  subst hst
  obtain ⟨p, l, e, s, m, args, below, meth, c, Q, A, cy, D⟩ := G
  obtain ⟨hx, hb, hml, hown, hts, hTy, hWd, hA, hlk⟩ := C
  obtain ⟨hVk, hVA, hVc⟩ := hV
  have hVA : ∀ a, 1 ≤ a → a ≤ Z.1 → A (ad a) := hVA
  intro d r d' hf hK H locs ls hl hP hS
  obtain ⟨x, d1, h1, h2⟩ := mb_some hf
  have hk : Z.2.1 a = ci + 1 := by
    unfold vc at h1
    by_cases q : Z.2.1 a = ci + 1
    · exact q
    · rw [if_neg q] at h1; cases h1
  have h1 : F d = some (x, d1) := by
    unfold vc at h1
    rw [if_pos hk] at h1
    exact h1
  obtain ⟨hz, hr⟩ := ref_st hVk (a := a) (by omega)
  have hstk : (As.reverse ++ .ref a :: st).map (cv ad) = (As.map (cv ad)).reverse ++ .ref (ad a) :: st.map (cv ad) := by
    rw [List.map_append, List.map_reverse, List.map_cons, hr]
  rw [hstk]
  have hMet := hM l D cy ad d x d1 h1 hVk H.size
  rw [List.map_cons, hr] at hMet
  have hFc := wd_A (cy := cy) (d := d) hVA hS hA
  refine va_calli (va_runV (As := As.map (cv ad)) (rest := st.map (cv ad)) (n := n) ⟨hx, hb, hml, hown, hts⟩ hMet ⟨callB_of n hts (gi_t0 hL.2.2.1) rfl hrm.1 hrm.2.1 (hts _ hL.2.1) (hts _ hL.1) hL.2.2.2 hrm.2.2, hts _ hs.1, hts _ hs.2⟩ ⟨pw_blind, va_recv hTy hP hC ((wd_at hz.1 hz.2).trans (by rw [wc_obj hk hci])), fun U hU hW => ⟨rfl, by rw [hU], by rw [hU]; exact hP, va_K.moved hW.alike hTy, hWd.warm hW⟩⟩ rfl (by rw [List.length_map]; exact hn) (hl.1.trans hml) rfl (lv_room (by rw [cat_map]; exact hcat)) hd ⟨hVc.1, hVc.2⟩) hS (fun q _ h => hFc q h) hFc (fun r_ u t H1 locs1 ht hvm hw hB hz1 hk1 hS1 => ?_)
  subst hw
  rw [ht] at hB
  exact kk _ d1 r d' h2 hK H1 locs1 ls hl hB hS1
theorem s_sI (C : Cx G R cc nL own) (hV : Vx G R ad Z ck) {idx n mL : Nat} {y : MethodName} {bc : ByteArray} {ty : FieldType} {rm : Room} (hL : LC own idx y bc mL (some ty) n) (hs : Cond.static y ∈ TT) {As stk : List Value} {F : MM Int32} {kf : Int32 → MM ρ} (hM : MI Z y bc mL ty rm As F) (hn : As.length = n) (hrm : RF R rm mL) (hst : stk = As.reverse ++ st) (hcat : (st.map fun v => v.category).sum ≤ 8) (hd : decode cc pc = .ok (.invokestatic idx, 3)) (kk : ∀ r, Sm G R ad Z ck K (pc + 3) L (.int r :: st) (kf r)) : Sm G R ad Z ck K pc L stk (mb F kf) := by
  subst hst
  obtain ⟨p, l, e, s, m, args, below, meth, c, Q, A, cy, D⟩ := G
  obtain ⟨hx, hb, hml, hown, hts, hTy, hWd, hA, hlk⟩ := C
  obtain ⟨hVk, hVA, hVc⟩ := hV
  have hVA : ∀ a, 1 ≤ a → a ≤ Z.1 → A (ad a) := hVA
  intro d r d' hf hK H locs ls hl hP hS
  obtain ⟨x, d1, h1, h2⟩ := mb_some hf
  have hstk : (As.reverse ++ st).map (cv ad) = (As.map (cv ad)).reverse ++ st.map (cv ad) := by
    rw [List.map_append, List.map_reverse]
  rw [hstk]
  have hMet := hM l D cy ad d x d1 h1 hVk H.size
  have hFc := wd_A (cy := cy) (d := d) hVA hS hA
  refine va_calli (va_runS (As := As.map (cv ad)) (rest := st.map (cv ad)) (n := n) ⟨hx, hb, hml, hown, hts⟩ hMet ⟨callB_of n hts (gi_t0 hL.2.2.1) rfl hrm.1 hrm.2.1 (hts _ hL.2.1) (hts _ hL.1) hL.2.2.2 hrm.2.2, hts _ hs⟩ ⟨pw_blind, fun U hU hW => ⟨rfl, by rw [hU], by rw [hU]; exact hP, va_K.moved hW.alike hTy, hWd.warm hW⟩⟩ rfl (by rw [List.length_map]; exact hn) (hl.1.trans hml) rfl (lv_room (by rw [cat_map]; exact hcat)) hd ⟨hVc.1, hVc.2⟩) hS (fun q _ h => hFc q h) hFc (fun r_ u t H1 locs1 ht hvm hw hB hz1 hk1 hS1 => ?_)
  subst hw
  rw [ht] at hB
  exact kk _ d1 r d' h2 hK H1 locs1 ls hl hB hS1
theorem s_sIN (C : Cx G R cc nL own) (hV : Vx G R ad Z ck) {idx n mL : Nat} {y : MethodName} {bc : ByteArray} {ty : FieldType} {rm : Room} {host : String} (hL : LN own idx y host bc mL (some ty) n) (hs : Cond.static y ∈ TT) {As stk : List Value} {F : MM Int32} {kf : Int32 → MM ρ} (hM : MI Z y bc mL ty rm As F) (hn : As.length = n) (hrm : RF R rm mL) (hst : stk = As.reverse ++ st) (hcat : (st.map fun v => v.category).sum ≤ 8) (hd : decode cc pc = .ok (.invokestatic idx, 3)) (kk : ∀ r, Sm G R ad Z ck K (pc + 3) L (.int r :: st) (kf r)) : Sm G R ad Z ck K pc L stk (mb F kf) := by
  subst hst
  obtain ⟨p, l, e, s, m, args, below, meth, c, Q, A, cy, D⟩ := G
  obtain ⟨hx, hb, hml, hown, hts, hTy, hWd, hA, hlk⟩ := C
  obtain ⟨hVk, hVA, hVc⟩ := hV
  have hVA : ∀ a, 1 ≤ a → a ≤ Z.1 → A (ad a) := hVA
  intro d r d' hf hK H locs ls hl hP hS
  obtain ⟨x, d1, h1, h2⟩ := mb_some hf
  have hstk : (As.reverse ++ st).map (cv ad) = (As.map (cv ad)).reverse ++ st.map (cv ad) := by
    rw [List.map_append, List.map_reverse]
  rw [hstk]
  have hMet := hM l D cy ad d x d1 h1 hVk H.size
  have hFc := wd_A (cy := cy) (d := d) hVA hS hA
  refine va_calli (va_runSN (As := As.map (cv ad)) (rest := st.map (cv ad)) (n := n) ⟨hx, hb, hml, hown, hts⟩ hMet ⟨va_cnB n hts (gi_t0 hL.2.2.1) rfl hrm.1 hrm.2.1 (hWd.1 _ hL.1) (hts _ hL.2.1) hL.2.2.2 hrm.2.2, hts _ hs, trivial⟩ ⟨pw_blind, fun U hU hW => ⟨rfl, by rw [hU], by rw [hU]; exact hP, va_K.moved hW.alike hTy, hWd.warm hW⟩⟩ rfl (by rw [List.length_map]; exact hn) (hl.1.trans hml) rfl (lv_room (by rw [cat_map]; exact hcat)) hd ⟨hVc.1, hVc.2⟩) hS (fun q _ h => hFc q h) hFc (fun r_ u t H1 locs1 ht hvm hw hB hz1 hk1 hS1 => ?_)
  subst hw
  rw [ht] at hB
  exact kk _ d1 r d' h2 hK H1 locs1 ls hl hB hS1
theorem s_vL (C : Cx G R cc nL own) (hV : Vx G R ad Z ck) {idx ci n mL : Nat} {y : MethodName} {bc : ByteArray} {rm : Room} {q : vw_C} (hC : vwCl[ci]? = some q) (hci : ci < 12) (hL : LC own idx y bc mL (some .long) n) (hs : Cond.instanceMethod y ∈ TT ∧ Cond.selects q.1 y y ∈ TT) {a : Nat} {As stk : List Value} {F : MM Int64} {kf : Int64 → MM ρ} (hM : ML Z y bc mL rm (.ref a :: As) F) (hn : As.length = n) (hrm : RF R rm mL) (hst : stk = As.reverse ++ .ref a :: st) (hcat : (st.map fun v => v.category).sum ≤ 8) (hd : decode cc pc = .ok (.invokevirtual idx, 3)) (kk : ∀ r, Sm G R ad Z ck K (pc + 3) L (.long r :: st) (kf r)) : Sm G R ad Z ck K pc L stk (mb (vc Z (ci + 1) a F) kf) := by
  subst hst
  obtain ⟨p, l, e, s, m, args, below, meth, c, Q, A, cy, D⟩ := G
  obtain ⟨hx, hb, hml, hown, hts, hTy, hWd, hA, hlk⟩ := C
  obtain ⟨hVk, hVA, hVc⟩ := hV
  have hVA : ∀ a, 1 ≤ a → a ≤ Z.1 → A (ad a) := hVA
  intro d r d' hf hK H locs ls hl hP hS
  obtain ⟨x, d1, h1, h2⟩ := mb_some hf
  have hk : Z.2.1 a = ci + 1 := by
    unfold vc at h1
    by_cases q : Z.2.1 a = ci + 1
    · exact q
    · rw [if_neg q] at h1; cases h1
  have h1 : F d = some (x, d1) := by
    unfold vc at h1
    rw [if_pos hk] at h1
    exact h1
  obtain ⟨hz, hr⟩ := ref_st hVk (a := a) (by omega)
  have hstk : (As.reverse ++ .ref a :: st).map (cv ad) = (As.map (cv ad)).reverse ++ .ref (ad a) :: st.map (cv ad) := by
    rw [List.map_append, List.map_reverse, List.map_cons, hr]
  rw [hstk]
  have hMet := hM l D cy ad d x d1 h1 hVk H.size
  rw [List.map_cons, hr] at hMet
  have hFc := wd_A (cy := cy) (d := d) hVA hS hA
  refine va_calll (va_runV (As := As.map (cv ad)) (rest := st.map (cv ad)) (n := n) ⟨hx, hb, hml, hown, hts⟩ hMet ⟨callB_of n hts (gi_t0 hL.2.2.1) rfl hrm.1 hrm.2.1 (hts _ hL.2.1) (hts _ hL.1) hL.2.2.2 hrm.2.2, hts _ hs.1, hts _ hs.2⟩ ⟨pw_blind, va_recv hTy hP hC ((wd_at hz.1 hz.2).trans (by rw [wc_obj hk hci])), fun U hU hW => ⟨rfl, by rw [hU], by rw [hU]; exact hP, va_K.moved hW.alike hTy, hWd.warm hW⟩⟩ rfl (by rw [List.length_map]; exact hn) (hl.1.trans hml) rfl (lv_room (by rw [cat_map]; exact hcat)) hd ⟨hVc.1, hVc.2⟩) hS (fun q _ h => hFc q h) hFc (fun r_ u t H1 locs1 ht hvm hw hB hz1 hk1 hS1 => ?_)
  subst hw
  rw [ht] at hB
  exact kk _ d1 r d' h2 hK H1 locs1 ls hl hB hS1
theorem s_sL (C : Cx G R cc nL own) (hV : Vx G R ad Z ck) {idx n mL : Nat} {y : MethodName} {bc : ByteArray} {rm : Room} (hL : LC own idx y bc mL (some .long) n) (hs : Cond.static y ∈ TT) {As stk : List Value} {F : MM Int64} {kf : Int64 → MM ρ} (hM : ML Z y bc mL rm As F) (hn : As.length = n) (hrm : RF R rm mL) (hst : stk = As.reverse ++ st) (hcat : (st.map fun v => v.category).sum ≤ 8) (hd : decode cc pc = .ok (.invokestatic idx, 3)) (kk : ∀ r, Sm G R ad Z ck K (pc + 3) L (.long r :: st) (kf r)) : Sm G R ad Z ck K pc L stk (mb F kf) := by
  subst hst
  obtain ⟨p, l, e, s, m, args, below, meth, c, Q, A, cy, D⟩ := G
  obtain ⟨hx, hb, hml, hown, hts, hTy, hWd, hA, hlk⟩ := C
  obtain ⟨hVk, hVA, hVc⟩ := hV
  have hVA : ∀ a, 1 ≤ a → a ≤ Z.1 → A (ad a) := hVA
  intro d r d' hf hK H locs ls hl hP hS
  obtain ⟨x, d1, h1, h2⟩ := mb_some hf
  have hstk : (As.reverse ++ st).map (cv ad) = (As.map (cv ad)).reverse ++ st.map (cv ad) := by
    rw [List.map_append, List.map_reverse]
  rw [hstk]
  have hMet := hM l D cy ad d x d1 h1 hVk H.size
  have hFc := wd_A (cy := cy) (d := d) hVA hS hA
  refine va_calll (va_runS (As := As.map (cv ad)) (rest := st.map (cv ad)) (n := n) ⟨hx, hb, hml, hown, hts⟩ hMet ⟨callB_of n hts (gi_t0 hL.2.2.1) rfl hrm.1 hrm.2.1 (hts _ hL.2.1) (hts _ hL.1) hL.2.2.2 hrm.2.2, hts _ hs⟩ ⟨pw_blind, fun U hU hW => ⟨rfl, by rw [hU], by rw [hU]; exact hP, va_K.moved hW.alike hTy, hWd.warm hW⟩⟩ rfl (by rw [List.length_map]; exact hn) (hl.1.trans hml) rfl (lv_room (by rw [cat_map]; exact hcat)) hd ⟨hVc.1, hVc.2⟩) hS (fun q _ h => hFc q h) hFc (fun r_ u t H1 locs1 ht hvm hw hB hz1 hk1 hS1 => ?_)
  subst hw
  rw [ht] at hB
  exact kk _ d1 r d' h2 hK H1 locs1 ls hl hB hS1
theorem s_sLN (C : Cx G R cc nL own) (hV : Vx G R ad Z ck) {idx n mL : Nat} {y : MethodName} {bc : ByteArray} {rm : Room} {host : String} (hL : LN own idx y host bc mL (some .long) n) (hs : Cond.static y ∈ TT) {As stk : List Value} {F : MM Int64} {kf : Int64 → MM ρ} (hM : ML Z y bc mL rm As F) (hn : As.length = n) (hrm : RF R rm mL) (hst : stk = As.reverse ++ st) (hcat : (st.map fun v => v.category).sum ≤ 8) (hd : decode cc pc = .ok (.invokestatic idx, 3)) (kk : ∀ r, Sm G R ad Z ck K (pc + 3) L (.long r :: st) (kf r)) : Sm G R ad Z ck K pc L stk (mb F kf) := by
  subst hst
  obtain ⟨p, l, e, s, m, args, below, meth, c, Q, A, cy, D⟩ := G
  obtain ⟨hx, hb, hml, hown, hts, hTy, hWd, hA, hlk⟩ := C
  obtain ⟨hVk, hVA, hVc⟩ := hV
  have hVA : ∀ a, 1 ≤ a → a ≤ Z.1 → A (ad a) := hVA
  intro d r d' hf hK H locs ls hl hP hS
  obtain ⟨x, d1, h1, h2⟩ := mb_some hf
  have hstk : (As.reverse ++ st).map (cv ad) = (As.map (cv ad)).reverse ++ st.map (cv ad) := by
    rw [List.map_append, List.map_reverse]
  rw [hstk]
  have hMet := hM l D cy ad d x d1 h1 hVk H.size
  have hFc := wd_A (cy := cy) (d := d) hVA hS hA
  refine va_calll (va_runSN (As := As.map (cv ad)) (rest := st.map (cv ad)) (n := n) ⟨hx, hb, hml, hown, hts⟩ hMet ⟨va_cnB n hts (gi_t0 hL.2.2.1) rfl hrm.1 hrm.2.1 (hWd.1 _ hL.1) (hts _ hL.2.1) hL.2.2.2 hrm.2.2, hts _ hs, trivial⟩ ⟨pw_blind, fun U hU hW => ⟨rfl, by rw [hU], by rw [hU]; exact hP, va_K.moved hW.alike hTy, hWd.warm hW⟩⟩ rfl (by rw [List.length_map]; exact hn) (hl.1.trans hml) rfl (lv_room (by rw [cat_map]; exact hcat)) hd ⟨hVc.1, hVc.2⟩) hS (fun q _ h => hFc q h) hFc (fun r_ u t H1 locs1 ht hvm hw hB hz1 hk1 hS1 => ?_)
  subst hw
  rw [ht] at hB
  exact kk _ d1 r d' h2 hK H1 locs1 ls hl hB hS1
theorem s_vV (C : Cx G R cc nL own) (hV : Vx G R ad Z ck) {idx ci n mL : Nat} {y : MethodName} {bc : ByteArray} {rm : Room} {q : vw_C} (hC : vwCl[ci]? = some q) (hci : ci < 12) (hL : LC own idx y bc mL none n) (hs : Cond.instanceMethod y ∈ TT ∧ Cond.selects q.1 y y ∈ TT) {a : Nat} {As stk : List Value} {F : MM Unit} {kf : Unit → MM ρ} (hM : MV Z y bc mL rm (.ref a :: As) F) (hn : As.length = n) (hrm : RF R rm mL) (hst : stk = As.reverse ++ .ref a :: st) (hcat : (st.map fun v => v.category).sum ≤ 8) (hd : decode cc pc = .ok (.invokevirtual idx, 3)) (kk : Sm G R ad Z ck K (pc + 3) L st (kf ())) : Sm G R ad Z ck K pc L stk (mb (vc Z (ci + 1) a F) kf) := by
  subst hst
  obtain ⟨p, l, e, s, m, args, below, meth, c, Q, A, cy, D⟩ := G
  obtain ⟨hx, hb, hml, hown, hts, hTy, hWd, hA, hlk⟩ := C
  obtain ⟨hVk, hVA, hVc⟩ := hV
  have hVA : ∀ a, 1 ≤ a → a ≤ Z.1 → A (ad a) := hVA
  intro d r d' hf hK H locs ls hl hP hS
  obtain ⟨x, d1, h1, h2⟩ := mb_some hf
  have hk : Z.2.1 a = ci + 1 := by
    unfold vc at h1
    by_cases q : Z.2.1 a = ci + 1
    · exact q
    · rw [if_neg q] at h1; cases h1
  have h1 : F d = some (x, d1) := by
    unfold vc at h1
    rw [if_pos hk] at h1
    exact h1
  obtain ⟨hz, hr⟩ := ref_st hVk (a := a) (by omega)
  have hstk : (As.reverse ++ .ref a :: st).map (cv ad) = (As.map (cv ad)).reverse ++ .ref (ad a) :: st.map (cv ad) := by
    rw [List.map_append, List.map_reverse, List.map_cons, hr]
  rw [hstk]
  have hMet := hM l D cy ad d x d1 h1 hVk H.size
  rw [List.map_cons, hr] at hMet
  have hFc := wd_A (cy := cy) (d := d) hVA hS hA
  refine va_callv (va_runV (As := As.map (cv ad)) (rest := st.map (cv ad)) (n := n) ⟨hx, hb, hml, hown, hts⟩ hMet ⟨callB_of n hts (gi_t0 hL.2.2.1) rfl hrm.1 hrm.2.1 (hts _ hL.2.1) (hts _ hL.1) hL.2.2.2 hrm.2.2, hts _ hs.1, hts _ hs.2⟩ ⟨pw_blind, va_recv hTy hP hC ((wd_at hz.1 hz.2).trans (by rw [wc_obj hk hci])), fun U hU hW => ⟨rfl, by rw [hU], by rw [hU]; exact hP, va_K.moved hW.alike hTy, hWd.warm hW⟩⟩ rfl (by rw [List.length_map]; exact hn) (hl.1.trans hml) rfl (lv_room (by rw [cat_map]; exact hcat)) hd ⟨hVc.1, hVc.2⟩) hS (fun q _ h => hFc q h) hFc (fun u t H1 locs1 ht hvm hw hB hz1 hk1 hS1 => ?_)
  rw [ht] at hB
  exact kk d1 r d' h2 hK H1 locs1 ls hl hB hS1
theorem s_sV (C : Cx G R cc nL own) (hV : Vx G R ad Z ck) {idx n mL : Nat} {y : MethodName} {bc : ByteArray} {rm : Room} (hL : LC own idx y bc mL none n) (hs : Cond.static y ∈ TT) {As stk : List Value} {F : MM Unit} {kf : Unit → MM ρ} (hM : MV Z y bc mL rm As F) (hn : As.length = n) (hrm : RF R rm mL) (hst : stk = As.reverse ++ st) (hcat : (st.map fun v => v.category).sum ≤ 8) (hd : decode cc pc = .ok (.invokestatic idx, 3)) (kk : Sm G R ad Z ck K (pc + 3) L st (kf ())) : Sm G R ad Z ck K pc L stk (mb F kf) := by
  subst hst
  obtain ⟨p, l, e, s, m, args, below, meth, c, Q, A, cy, D⟩ := G
  obtain ⟨hx, hb, hml, hown, hts, hTy, hWd, hA, hlk⟩ := C
  obtain ⟨hVk, hVA, hVc⟩ := hV
  have hVA : ∀ a, 1 ≤ a → a ≤ Z.1 → A (ad a) := hVA
  intro d r d' hf hK H locs ls hl hP hS
  obtain ⟨x, d1, h1, h2⟩ := mb_some hf
  have hstk : (As.reverse ++ st).map (cv ad) = (As.map (cv ad)).reverse ++ st.map (cv ad) := by
    rw [List.map_append, List.map_reverse]
  rw [hstk]
  have hMet := hM l D cy ad d x d1 h1 hVk H.size
  have hFc := wd_A (cy := cy) (d := d) hVA hS hA
  refine va_callv (va_runS (As := As.map (cv ad)) (rest := st.map (cv ad)) (n := n) ⟨hx, hb, hml, hown, hts⟩ hMet ⟨callB_of n hts (gi_t0 hL.2.2.1) rfl hrm.1 hrm.2.1 (hts _ hL.2.1) (hts _ hL.1) hL.2.2.2 hrm.2.2, hts _ hs⟩ ⟨pw_blind, fun U hU hW => ⟨rfl, by rw [hU], by rw [hU]; exact hP, va_K.moved hW.alike hTy, hWd.warm hW⟩⟩ rfl (by rw [List.length_map]; exact hn) (hl.1.trans hml) rfl (lv_room (by rw [cat_map]; exact hcat)) hd ⟨hVc.1, hVc.2⟩) hS (fun q _ h => hFc q h) hFc (fun u t H1 locs1 ht hvm hw hB hz1 hk1 hS1 => ?_)
  rw [ht] at hB
  exact kk d1 r d' h2 hK H1 locs1 ls hl hB hS1
theorem s_sVN (C : Cx G R cc nL own) (hV : Vx G R ad Z ck) {idx n mL : Nat} {y : MethodName} {bc : ByteArray} {rm : Room} {host : String} (hL : LN own idx y host bc mL none n) (hs : Cond.static y ∈ TT) {As stk : List Value} {F : MM Unit} {kf : Unit → MM ρ} (hM : MV Z y bc mL rm As F) (hn : As.length = n) (hrm : RF R rm mL) (hst : stk = As.reverse ++ st) (hcat : (st.map fun v => v.category).sum ≤ 8) (hd : decode cc pc = .ok (.invokestatic idx, 3)) (kk : Sm G R ad Z ck K (pc + 3) L st (kf ())) : Sm G R ad Z ck K pc L stk (mb F kf) := by
  subst hst
  obtain ⟨p, l, e, s, m, args, below, meth, c, Q, A, cy, D⟩ := G
  obtain ⟨hx, hb, hml, hown, hts, hTy, hWd, hA, hlk⟩ := C
  obtain ⟨hVk, hVA, hVc⟩ := hV
  have hVA : ∀ a, 1 ≤ a → a ≤ Z.1 → A (ad a) := hVA
  intro d r d' hf hK H locs ls hl hP hS
  obtain ⟨x, d1, h1, h2⟩ := mb_some hf
  have hstk : (As.reverse ++ st).map (cv ad) = (As.map (cv ad)).reverse ++ st.map (cv ad) := by
    rw [List.map_append, List.map_reverse]
  rw [hstk]
  have hMet := hM l D cy ad d x d1 h1 hVk H.size
  have hFc := wd_A (cy := cy) (d := d) hVA hS hA
  refine va_callv (va_runSN (As := As.map (cv ad)) (rest := st.map (cv ad)) (n := n) ⟨hx, hb, hml, hown, hts⟩ hMet ⟨va_cnB n hts (gi_t0 hL.2.2.1) rfl hrm.1 hrm.2.1 (hWd.1 _ hL.1) (hts _ hL.2.1) hL.2.2.2 hrm.2.2, hts _ hs, trivial⟩ ⟨pw_blind, fun U hU hW => ⟨rfl, by rw [hU], by rw [hU]; exact hP, va_K.moved hW.alike hTy, hWd.warm hW⟩⟩ rfl (by rw [List.length_map]; exact hn) (hl.1.trans hml) rfl (lv_room (by rw [cat_map]; exact hcat)) hd ⟨hVc.1, hVc.2⟩) hS (fun q _ h => hFc q h) hFc (fun u t H1 locs1 ht hvm hw hB hz1 hk1 hS1 => ?_)
  rw [ht] at hB
  exact kk d1 r d' h2 hK H1 locs1 ls hl hB hS1
def RtI (G : GT) (R : Room) (ad : Nat → Nat) (Z : Zt) (ck : Nat × Nat) (cc : ByteArray) (ty : FieldType) (K : Int32 → Dm → Prop) : Prop := match G with
  | (p, l, e, s, m, args, below, meth, c, Q, A, cy, D) => ∀ (pc : Nat) (v : Int32) (d : Dm) (H : Heap) (locs : List Loc) (ls : Array Slot), decode cc pc = .ok (.ireturn, 1) → narrow ty (.int v) = .int v → K v d → va_P D vwCl (wd cy ad Z d) H → va_S A s.heap H locs → W p l e R s m args below meth c H locs ck.1 ck.2 Q (F0 m pc ls [.int v])
def RtL (G : GT) (R : Room) (ad : Nat → Nat) (Z : Zt) (ck : Nat × Nat) (cc : ByteArray) (K : Int64 → Dm → Prop) : Prop := match G with
  | (p, l, e, s, m, args, below, meth, c, Q, A, cy, D) => ∀ (pc : Nat) (v : Int64) (d : Dm) (H : Heap) (locs : List Loc) (ls : Array Slot), decode cc pc = .ok (.lreturn, 1) → K v d → va_P D vwCl (wd cy ad Z d) H → va_S A s.heap H locs → W p l e R s m args below meth c H locs ck.1 ck.2 Q (F0 m pc ls [.long v])
def RtV (G : GT) (R : Room) (ad : Nat → Nat) (Z : Zt) (ck : Nat × Nat) (cc : ByteArray) (K : Unit → Dm → Prop) : Prop := match G with
  | (p, l, e, s, m, args, below, meth, c, Q, A, cy, D) => ∀ (pc : Nat) (d : Dm) (H : Heap) (locs : List Loc) (ls : Array Slot), decode cc pc = .ok (.return_, 1) → K () d → va_P D vwCl (wd cy ad Z d) H → va_S A s.heap H locs → W p l e R s m args below meth c H locs ck.1 ck.2 Q (F0 m pc ls [])
theorem s_ireti {K : Int32 → Dm → Prop} (hR : RtI G R ad Z ck cc .int K) {v : Int32} (hd : decode cc pc = .ok (.ireturn, 1)) : Sm G R ad Z ck K pc L [.int v] (mp v) := by
  obtain ⟨p, l, e, s, m, args, below, meth, c, Q, A, cy, D⟩ := G
  intro d r d' hf hK H locs ls hl hP hS
  unfold mp at hf
  cases hf
  exact hR pc _ _ H locs ls hd rfl hK hP hS
theorem s_iretz {K : Int32 → Dm → Prop} (hR : RtI G R ad Z ck cc .boolean K) {v : Int32} (hd : decode cc pc = .ok (.ireturn, 1)) : Sm G R ad Z ck K pc L [.int v] (mz v) := by
  obtain ⟨p, l, e, s, m, args, below, meth, c, Q, A, cy, D⟩ := G
  intro d r d' hf hK H locs ls hl hP hS
  unfold mz at hf
  obtain ⟨h, he⟩ := some_if hf
  cases he
  exact hR pc _ _ H locs ls hd (by rcases h with e | e <;> rw [e] <;> rfl) hK hP hS
theorem s_lret {K : Int64 → Dm → Prop} (hR : RtL G R ad Z ck cc K) {v : Int64} (hd : decode cc pc = .ok (.lreturn, 1)) : Sm G R ad Z ck K pc L [.long v] (mp v) := by
  obtain ⟨p, l, e, s, m, args, below, meth, c, Q, A, cy, D⟩ := G
  intro d r d' hf hK H locs ls hl hP hS
  unfold mp at hf
  cases hf
  exact hR pc _ _ H locs ls hd hK hP hS
theorem s_vret {K : Unit → Dm → Prop} (hR : RtV G R ad Z ck cc K) (hd : decode cc pc = .ok (.return_, 1)) : Sm G R ad Z ck K pc L [] (mp ()) := by
  obtain ⟨p, l, e, s, m, args, below, meth, c, Q, A, cy, D⟩ := G
  intro d r d' hf hK H locs ls hl hP hS
  unfold mp at hf
  cases hf
  exact hR pc _ H locs ls hd hK hP hS
theorem sw_at {x : Int32} {gs : List (MM ρ)} {g : MM ρ} : ∀ (k : Int32) (i : Nat), x.toInt = k.toInt + i → k.toInt + gs.length < 2 ^ 31 → i < gs.length → ∃ h, gs[i]? = some h ∧ sw x k gs g = h := by
  induction gs with
  | nil => intro k i _ _ h; simp at h
  | cons h t ih =>
    intro k i hx hb hi
    cases i with
    | zero => exact ⟨h, rfl, if_pos (Int32.toInt_inj.mp (by rw [hx]; omega))⟩
    | succ i =>
      simp only [List.length_cons] at hi hb
      have hk1 : (k + 1).toInt = k.toInt + 1 := fb_add1 k (by have := Int32.le_toInt k; omega)
      obtain ⟨h', e1, e2⟩ := ih (k + 1) i (by rw [hk1, hx]; omega) (by rw [hk1]; omega) (by omega)
      refine ⟨h', by simpa using e1, ?_⟩
      unfold sw
      rw [if_neg (fun q => by rw [q] at hx; omega)]
      exact e2
theorem sw_out {x : Int32} {gs : List (MM ρ)} {g : MM ρ} : ∀ {k : Int32}, (x.toInt < k.toInt ∨ k.toInt + gs.length ≤ x.toInt) → k.toInt + gs.length < 2 ^ 31 → sw x k gs g = g := by
  induction gs with
  | nil => intro k _ _; rfl
  | cons h t ih =>
    intro k hx hb
    simp only [List.length_cons] at hx hb
    have hk1 : (k + 1).toInt = k.toInt + 1 := fb_add1 k (by have := Int32.le_toInt k; omega)
    unfold sw
    rw [if_neg (fun q => by rw [q] at hx; omega)]
    exact ih (by rw [hk1]; omega) (by rw [hk1]; omega)
theorem s_tsw (C : Cx G R cc nL own) {dflt lo hi : Int} {offs : Array Int} {len : Nat} {x k : Int32} {gs : List (MM ρ)} (hk : k.toInt = lo) (hb : lo + gs.length < 2 ^ 31) (hh : hi = lo + gs.length - 1) (hd : decode cc pc = .ok (.tableswitch dflt lo hi offs, len)) (tgt : Nat) (ht : (pc : Int) + dflt = (tgt : Int)) (kd : Sm G R ad Z ck K tgt L st f) (kg : ∀ (i : Nat) (g : MM ρ), gs[i]? = some g → ∃ (off : Int) (t : Nat), offs[i]? = some off ∧ (pc : Int) + off = (t : Int) ∧ Sm G R ad Z ck K t L st g) : Sm G R ad Z ck K pc L (.int x :: st) (sw x k gs f) := by
  by_cases hin : lo ≤ x.toInt ∧ x.toInt ≤ hi
  · have hi2 : (x.toInt - lo).toNat < gs.length := by omega
    obtain ⟨g, e1, e2⟩ := sw_at (x := x) (gs := gs) (g := f) k (x.toInt - lo).toNat (by omega) (by omega) hi2
    obtain ⟨off, t, h1, h2, h3⟩ := kg _ g e1
    rw [e2]
    obtain ⟨p, l, e, s, m, args, below, meth, c, Q, A, cy, D⟩ := G
    obtain ⟨hx, hb, hml, hown, hts, hTy, hWd, hA, hlk⟩ := C
    intro d r d' hf hK H locs ls hl hP hS
    exact lv_tableIn hx hb hd (by omega) (by omega) h1 h2 (h3 d r d' hf hK H locs ls hl hP hS)
  · rw [sw_out (by omega) (by omega)]
    obtain ⟨p, l, e, s, m, args, below, meth, c, Q, A, cy, D⟩ := G
    obtain ⟨hx, hb, hml, hown, hts, hTy, hWd, hA, hlk⟩ := C
    intro d r d' hf hK H locs ls hl hP hS
    exact lv_tableOut hx hb hd (by omega) ht (kd d r d' hf hK H locs ls hl hP hS)
end
theorem args_map (ad : Nat → Nat) : ∀ (As : List Value) (i : Nat), lv_args i (As.map (cv ad)) = (lv_args i As).map (cw ad)
  | [], _ => rfl
  | v :: vs, i => by
    simp only [List.map_cons, lv_args, cv_cat]
    rw [args_map ad vs]
    rfl
theorem sl_len (ad : Nat → Nat) : ∀ (As : List Value), (lg_sl (As.map (cv ad))).length = (As.map fun v => v.category).sum
  | [] => rfl
  | v :: vs => by
    have ih := sl_len ad vs
    unfold lg_sl at ih ⊢
    rw [List.map_cons, List.flatMap_cons, List.length_append, ih, List.map_cons, List.sum_cons, cv_cat]
    rcases lv_cat v with h | h <;> simp [h]
theorem mi_of {Z : Zt} {y : MethodName} {bc : ByteArray} {mL : Nat} {ty : FieldType} {rm : Room} {As : List Value} {F : MM Int32} {L0 : List (Nat × Value)} (hpl : plainName y.cls = true) (hlen : (As.map fun v => v.category).sum ≤ mL) (hL0 : lv_args 0 As = L0) (hb : ∀ (G : GT) (ad : Nat → Nat) (K : Int32 → Dm → Prop), Cx G rm bc mL y.cls → Vx G rm ad Z (0, 0) → RtI G rm ad Z (0, 0) bc ty K → Sm G rm ad Z (0, 0) K 0 L0 [] F) : MI Z y bc mL ty rm As F := by
  intro l D cy ad d r d' hF hVk sz
  refine Met.ofW (cc := bc) (maxL := mL) hpl rfl ?_
  intro p e s m args below meth c s₁ B hml hv
  obtain ⟨rfl, hsz, hP, hK, hWd⟩ := hv
  have hts : ∀ w ∈ TT, w.before ((As.map (cv ad)).toArray) s = true := fun w hw => atoms_spec B.pre w (List.mem_cons_of_mem _ hw)
  subst hsz
  have hl := lv_entry (As.map (cv ad)) (n := mL) (by rw [sl_len]; exact hlen)
  rw [lg_entry_eq]
  generalize (lg_sl (As.map (cv ad)) ++ List.replicate (mL - (lg_sl (As.map (cv ad))).length) Slot.unset).toArray = ls at hl ⊢
  rw [args_map, hL0, ← hml] at hl
  refine hb (p, l, e, s, m, (As.map (cv ad)).toArray, below, meth, c, MQ below (va_Qi (fun (r' : Int32) (_ : Unit) => r' = r) (fun _ t => va_P D vwCl (wd cy ad Z d') t.heap) (va_A (wd cy ad Z d) s.heap.size)) (As.map (cv ad)).toArray s 0 0 (va_A (wd cy ad Z d) s.heap.size), va_A (wd cy ad Z d) s.heap.size, cy, D) ad (fun x dd => x = r ∧ dd = d') ⟨B.exec, B.bytes, hml, findClass_of_methodNamed B.named, hts, hK, hWd, fun q h => Or.inr h, B.notSynchronized⟩ ⟨hVk, ?_, Nat.zero_le _, Nat.zero_le _⟩ ?_ d r d' hF ⟨rfl, rfl⟩ s.heap [] ls hl hP va_S.rf
  · intro a h1 h2
    exact Or.inl ⟨a - 1, _, wd_at h1 h2⟩
  · show ∀ _, _
    intro pc v dd H locs ls hdg hnar hK hP hS
    obtain ⟨rfl, rfl⟩ := hK
    exact W.zret B.exec B.bytes B.returns hnar (fun t ht hW => ⟨⟨v, (), rfl, rfl, by show va_P D vwCl _ t.heap; rw [ht]; exact hP⟩, hS.F ht⟩) hS.2.2 hdg B.notSynchronized
theorem ml_of {Z : Zt} {y : MethodName} {bc : ByteArray} {mL : Nat} {rm : Room} {As : List Value} {F : MM Int64} {L0 : List (Nat × Value)} (hpl : plainName y.cls = true) (hlen : (As.map fun v => v.category).sum ≤ mL) (hL0 : lv_args 0 As = L0) (hb : ∀ (G : GT) (ad : Nat → Nat) (K : Int64 → Dm → Prop), Cx G rm bc mL y.cls → Vx G rm ad Z (0, 0) → RtL G rm ad Z (0, 0) bc K → Sm G rm ad Z (0, 0) K 0 L0 [] F) : ML Z y bc mL rm As F := by
  intro l D cy ad d r d' hF hVk sz
  refine Met.ofW (cc := bc) (maxL := mL) hpl rfl ?_
  intro p e s m args below meth c s₁ B hml hv
  obtain ⟨rfl, hsz, hP, hK, hWd⟩ := hv
  have hts : ∀ w ∈ TT, w.before ((As.map (cv ad)).toArray) s = true := fun w hw => atoms_spec B.pre w (List.mem_cons_of_mem _ hw)
  subst hsz
  have hl := lv_entry (As.map (cv ad)) (n := mL) (by rw [sl_len]; exact hlen)
  rw [lg_entry_eq]
  generalize (lg_sl (As.map (cv ad)) ++ List.replicate (mL - (lg_sl (As.map (cv ad))).length) Slot.unset).toArray = ls at hl ⊢
  rw [args_map, hL0, ← hml] at hl
  refine hb (p, l, e, s, m, (As.map (cv ad)).toArray, below, meth, c, MQ below (va_Ql (fun (r' : Int64) (_ : Unit) => r' = r) (fun _ t => va_P D vwCl (wd cy ad Z d') t.heap) (va_A (wd cy ad Z d) s.heap.size)) (As.map (cv ad)).toArray s 0 0 (va_A (wd cy ad Z d) s.heap.size), va_A (wd cy ad Z d) s.heap.size, cy, D) ad (fun x dd => x = r ∧ dd = d') ⟨B.exec, B.bytes, hml, findClass_of_methodNamed B.named, hts, hK, hWd, fun q h => Or.inr h, B.notSynchronized⟩ ⟨hVk, ?_, Nat.zero_le _, Nat.zero_le _⟩ ?_ d r d' hF ⟨rfl, rfl⟩ s.heap [] ls hl hP va_S.rf
  · intro a h1 h2
    exact Or.inl ⟨a - 1, _, wd_at h1 h2⟩
  · show ∀ _, _
    intro pc v dd H locs ls hdg hK hP hS
    obtain ⟨rfl, rfl⟩ := hK
    exact W.lret B.exec B.bytes B.returns (fun t ht hW => ⟨⟨v, (), rfl, rfl, by show va_P D vwCl _ t.heap; rw [ht]; exact hP⟩, hS.F ht⟩) hS.2.2 hdg B.notSynchronized
theorem mv_of {Z : Zt} {y : MethodName} {bc : ByteArray} {mL : Nat} {rm : Room} {As : List Value} {F : MM Unit} {L0 : List (Nat × Value)} (hpl : plainName y.cls = true) (hlen : (As.map fun v => v.category).sum ≤ mL) (hL0 : lv_args 0 As = L0) (hb : ∀ (G : GT) (ad : Nat → Nat) (K : Unit → Dm → Prop), Cx G rm bc mL y.cls → Vx G rm ad Z (0, 0) → RtV G rm ad Z (0, 0) bc K → Sm G rm ad Z (0, 0) K 0 L0 [] F) : MV Z y bc mL rm As F := by
  intro l D cy ad d r d' hF hVk sz
  refine Met.ofW (cc := bc) (maxL := mL) hpl rfl ?_
  intro p e s m args below meth c s₁ B hml hv
  obtain ⟨rfl, hsz, hP, hK, hWd⟩ := hv
  have hts : ∀ w ∈ TT, w.before ((As.map (cv ad)).toArray) s = true := fun w hw => atoms_spec B.pre w (List.mem_cons_of_mem _ hw)
  subst hsz
  have hl := lv_entry (As.map (cv ad)) (n := mL) (by rw [sl_len]; exact hlen)
  rw [lg_entry_eq]
  generalize (lg_sl (As.map (cv ad)) ++ List.replicate (mL - (lg_sl (As.map (cv ad))).length) Slot.unset).toArray = ls at hl ⊢
  rw [args_map, hL0, ← hml] at hl
  refine hb (p, l, e, s, m, (As.map (cv ad)).toArray, below, meth, c, MQ below (va_Qv (fun (_ : Unit) => True) (fun _ t => va_P D vwCl (wd cy ad Z d') t.heap) (va_A (wd cy ad Z d) s.heap.size)) (As.map (cv ad)).toArray s 0 0 (va_A (wd cy ad Z d) s.heap.size), va_A (wd cy ad Z d) s.heap.size, cy, D) ad (fun x dd => x = r ∧ dd = d') ⟨B.exec, B.bytes, hml, findClass_of_methodNamed B.named, hts, hK, hWd, fun q h => Or.inr h, B.notSynchronized⟩ ⟨hVk, ?_, Nat.zero_le _, Nat.zero_le _⟩ ?_ d r d' hF ⟨rfl, rfl⟩ s.heap [] ls hl hP va_S.rf
  · intro a h1 h2
    exact Or.inl ⟨a - 1, _, wd_at h1 h2⟩
  · show ∀ _, _
    intro pc dd H locs ls hdg hK hP hS
    obtain ⟨-, rfl⟩ := hK
    exact W.vret B.exec B.bytes B.returns (fun t ht hW => ⟨⟨(), rfl, trivial, by show va_P D vwCl _ t.heap; rw [ht]; exact hP⟩, hS.F ht⟩) hS.2.2 hdg B.notSynchronized
