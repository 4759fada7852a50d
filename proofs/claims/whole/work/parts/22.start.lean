/-! THE CLAIM OUT OF ONE WALK OF THE LAW'S BODY. Your part is whole_start (and what it stands on); all else here is the same for every law, but numbers. -/
def R_law : String := "LeftStatesLaw"
def lw_P (b : Addr) (xs : List Int32) (args : Array Value) (s : State) : Prop := args = #[.ref b] ∧ s.IntsAt b xs ∧ xs.length ≤ 2560 ∧ (Jvm.Cond.and given_1 narrow_1).before args s = true
def lw_Q (_ : Array Value) (s : State) (o : Outcome) (t : State) : Prop := o = .returned (some (.int 1)) ∧ Framed s o t [] 600000 7302250
def lw_Z (below : List Frame) (a : Array Value) (s : State) : State → Prop := fun t => ∃ o, t.status = .running ∧ Ended t below o ∧ lw_Q a s o t
/-- the law's own end, with 1 on the stack, nothing written that was there before, its room as the claim has it -/
theorem lw_ret {p : Program} {l : Launch} {e : Env} {s : State} {m : MethodId} {below : List Frame} {meth : Method} {c : Code} {b : Nat} (hx : p.tables.exec = Jvm.exec) (hb : c.code = code) (hr : meth.sig.returnType = ret) (hlocks : meth.locks = false) {pc : Nat} {H : Heap} {ls : Array Slot} (hdg : decode code pc = .ok (.ireturn, 1)) : W p l e room_1 s m #[Value.ref b] below meth c H [] 600000 7302250 (lw_Z below #[Value.ref b] s) (F0 m pc ls [.int 1]) := by
  intro T hT X
  obtain ⟨fs, hret, hrun, hended, hW, hframe⟩ := X.leave (v := some (.int 1)) (hlocks := hlocks) (fun h => by rw [hr] at h; cases h)
  have hmeth' : T.vm.method? m = some meth := X.method'
  refine ⟨T.setFrames fs, ?_, .returned (some (.int 1)), hrun, hended, rfl, ⟨_, rfl⟩, hW, hframe⟩
  jvm_step X.here [X.here.top, hx, hb, hdg, hmeth', hr, ret, narrow_b1]
  (try refine ⟨rfl, ?_⟩); (try refine ⟨rfl, ?_⟩)
  first | (intro acts; rw [hret _ acts rfl rfl rfl]) | rw [hret _ _ rfl rfl rfl]
  exact Steps.refl _
/-- what holds at the law's entry: the machine, the code, the tables' words (any of lw_tbl by 'hts w (by decide +kernel)'), the script of L ints xs at the cell b, what the Statement gives of the start (any of its parts by flat_of_before) -/
def lw_At (p : Program) (s : State) (m : MethodId) (meth : Method) (c : Code) (b L : Nat) (xs : Nat → Int32) : Prop :=
  p.tables.exec = Jvm.exec ∧ c.code = code ∧ meth.sig.returnType = ret ∧ c.maxLocals = 4 ∧ s.vm.findClass R_law = some m.cls ∧ (∀ w ∈ lw_tbl, w.before #[Value.ref b] s = true) ∧ va_X b L xs s s.heap ∧ b < s.heap.size ∧ meth.locks = false ∧ (Jvm.Cond.and given_1 narrow_1).before #[Value.ref b] s = true
/-! ===== from the law's entry to the pure goal ===== -/
theorem iw_0 : Cond.instantiable RX0 5 ∈ TT := tt_at (w := Cond.instantiable RX0 5) 105 (by decide +kernel) (by decide +kernel)
theorem iw_1 : Cond.instantiable RX1 4 ∈ TT := tt_at (w := Cond.instantiable RX1 4) 293 (by decide +kernel) (by decide +kernel)
theorem iw_2 : Cond.instantiable RX2 3 ∈ TT := tt_at (w := Cond.instantiable RX2 3) 198 (by decide +kernel) (by decide +kernel)
theorem iw_3 : Cond.instantiable RX3 2 ∈ TT := tt_at (w := Cond.instantiable RX3 2) 238 (by decide +kernel) (by decide +kernel)
theorem iw_4 : Cond.instantiable RX4 6 ∈ TT := tt_at (w := Cond.instantiable RX4 6) 316 (by decide +kernel) (by decide +kernel)
theorem iw_5 : Cond.instantiable RX5 3 ∈ TT := tt_at (w := Cond.instantiable RX5 3) 98 (by decide +kernel) (by decide +kernel)
theorem iw_6 : Cond.instantiable RX6 9 ∈ TT := tt_at (w := Cond.instantiable RX6 9) 256 (by decide +kernel) (by decide +kernel)
theorem iw_7 : Cond.instantiable RX7 4 ∈ TT := tt_at (w := Cond.instantiable RX7 4) 152 (by decide +kernel) (by decide +kernel)
theorem iw_8 : Cond.instantiable RX8 4 ∈ TT := tt_at (w := Cond.instantiable RX8 4) 159 (by decide +kernel) (by decide +kernel)
theorem iw_9 : Cond.instantiable RX9 5 ∈ TT := tt_at (w := Cond.instantiable RX9 5) 92 (by decide +kernel) (by decide +kernel)
theorem iw_10 : Cond.instantiable RX10 11 ∈ TT := tt_at (w := Cond.instantiable RX10 11) 84 (by decide +kernel) (by decide +kernel)
theorem iw_11 : Cond.instantiable RX11 44 ∈ TT := tt_at (w := Cond.instantiable RX11 44) 899 (by decide +kernel) (by decide +kernel)
theorem ao_X0 : Cond.arrayOver (.object RX0) ∈ lw_tbl := List.mem_of_getElem? (i := 104) (by decide +kernel)
theorem ao_X8 : Cond.arrayOver (.object RX8) ∈ lw_tbl := List.mem_of_getElem? (i := 158) (by decide +kernel)
theorem cl_L_7 : Cond.classLink RL 7 RX10 ∈ TT ∧ Cond.instantiable RX10 11 ∈ TT ∧ Cond.initialized RX10 ∈ TT := ⟨tt_at (w := Cond.classLink RL 7 RX10) 83 (by decide +kernel) (by decide +kernel), iw_10, tt_at (w := Cond.initialized RX10) 67 (by decide +kernel) (by decide +kernel)⟩
theorem cl_L_10 : Cond.classLink RL 10 RX11 ∈ TT ∧ Cond.instantiable RX11 44 ∈ TT ∧ Cond.initialized RX11 ∈ TT := ⟨tt_at (w := Cond.classLink RL 10 RX11) 898 (by decide +kernel) (by decide +kernel), iw_11, tt_at (w := Cond.initialized RX11) 78 (by decide +kernel) (by decide +kernel)⟩
theorem li_L_9 : LC RL 9 yX10_init cX10_init 1 none 0 ∨ ∃ host, LN RL 9 yX10_init host cX10_init 1 none 0 := Or.inl ⟨tt_at (w := Cond.methodLink RL 9 yX10_init) 85 (by decide +kernel) (by decide +kernel), tt_at (w := Cond.initialized yX10_init.cls) 67 (by decide +kernel) (by decide +kernel), tt_at (w := Cond.code yX10_init cX10_init 1 none) 87 (by decide +kernel) (by decide +kernel), by decide +kernel⟩
theorem iy_Main_init : yX10_init.name = "<init>" ∧ Cond.instanceMethod yX10_init ∈ TT := ⟨rfl, tt_at (w := Cond.instanceMethod yX10_init) 86 (by decide +kernel) (by decide +kernel)⟩
theorem li_L_12 : LC RL 12 yX11_init cX11_init 1 none 0 ∨ ∃ host, LN RL 12 yX11_init host cX11_init 1 none 0 := Or.inl ⟨tt_at (w := Cond.methodLink RL 12 yX11_init) 900 (by decide +kernel) (by decide +kernel), tt_at (w := Cond.initialized yX11_init.cls) 78 (by decide +kernel) (by decide +kernel), tt_at (w := Cond.code yX11_init cX11_init 1 none) 902 (by decide +kernel) (by decide +kernel), by decide +kernel⟩
theorem iy_Mod_init : yX11_init.name = "<init>" ∧ Cond.instanceMethod yX11_init ∈ TT := ⟨rfl, tt_at (w := Cond.instanceMethod yX11_init) 901 (by decide +kernel) (by decide +kernel)⟩
def d00 : Dm := (fun _ _ => 0, fun _ _ => 0, fun _ _ => 0)
def dS : Dm := ct_Mod_init (nwD (ct_Main_init (nwD d00 1)) 65)
theorem cl_00 : Cl d00 0 := fun _ _ => Nat.le_refl 0
theorem zp_zf : ZP 88 = ZF := by
  unfold ZP ZF
  have h1 : (fun a => if a ≤ 88 then kfl.getD a 0 else 0) = fun a => kfl.getD a 0 := funext fun a => by
    by_cases h : a ≤ 88
    · rw [if_pos h]
    · rw [if_neg h, List.getD_eq_getElem?_getD, List.getElem?_eq_none (by show 89 ≤ a; omega)]; rfl
  have h2 : (fun a => if a ≤ 88 then lfl.getD a 0 else 0) = fun a => lfl.getD a 0 := funext fun a => by
    by_cases h : a ≤ 88
    · rw [if_pos h]
    · rw [if_neg h, List.getD_eq_getElem?_getD, List.getElem?_eq_none (by show 89 ≤ a; omega)]; rfl
  rw [h1, h2]
theorem kn_all {s : State} {args : Array Value} (h : ∀ w ∈ TT, w.before args s = true) : ∀ c : Nat, ∃ p : ClassId × (Nat → Nat), ∀ q : vw_C, vwCl[c]? = some q → u_Kn s q.1 q.2.1 q.2.2 p.1 p.2 := by
  intro c
  match c with
  | 0 =>
    obtain ⟨cC, iS, hk⟩ := u_known (C := RX0) (T := TX0) (N := 5) h uw_0 (h _ iw_0)
    exact ⟨(cC, iS), fun q hq => by cases hq; exact hk⟩
  | 1 =>
    obtain ⟨cC, iS, hk⟩ := u_known (C := RX1) (T := TX1) (N := 4) h uw_1 (h _ iw_1)
    exact ⟨(cC, iS), fun q hq => by cases hq; exact hk⟩
  | 2 =>
    obtain ⟨cC, iS, hk⟩ := u_known (C := RX2) (T := TX2) (N := 3) h uw_2 (h _ iw_2)
    exact ⟨(cC, iS), fun q hq => by cases hq; exact hk⟩
  | 3 =>
    obtain ⟨cC, iS, hk⟩ := u_known (C := RX3) (T := TX3) (N := 2) h uw_3 (h _ iw_3)
    exact ⟨(cC, iS), fun q hq => by cases hq; exact hk⟩
  | 4 =>
    obtain ⟨cC, iS, hk⟩ := u_known (C := RX4) (T := TX4) (N := 6) h uw_4 (h _ iw_4)
    exact ⟨(cC, iS), fun q hq => by cases hq; exact hk⟩
  | 5 =>
    obtain ⟨cC, iS, hk⟩ := u_known (C := RX5) (T := TX5) (N := 3) h uw_5 (h _ iw_5)
    exact ⟨(cC, iS), fun q hq => by cases hq; exact hk⟩
  | 6 =>
    obtain ⟨cC, iS, hk⟩ := u_known (C := RX6) (T := TX6) (N := 9) h uw_6 (h _ iw_6)
    exact ⟨(cC, iS), fun q hq => by cases hq; exact hk⟩
  | 7 =>
    obtain ⟨cC, iS, hk⟩ := u_known (C := RX7) (T := TX7) (N := 4) h uw_7 (h _ iw_7)
    exact ⟨(cC, iS), fun q hq => by cases hq; exact hk⟩
  | 8 =>
    obtain ⟨cC, iS, hk⟩ := u_known (C := RX8) (T := TX8) (N := 4) h uw_8 (h _ iw_8)
    exact ⟨(cC, iS), fun q hq => by cases hq; exact hk⟩
  | 9 =>
    obtain ⟨cC, iS, hk⟩ := u_known (C := RX9) (T := TX9) (N := 5) h uw_9 (h _ iw_9)
    exact ⟨(cC, iS), fun q hq => by cases hq; exact hk⟩
  | 10 =>
    obtain ⟨cC, iS, hk⟩ := u_known (C := RX10) (T := TX10) (N := 11) h uw_10 (h _ iw_10)
    exact ⟨(cC, iS), fun q hq => by cases hq; exact hk⟩
  | 11 =>
    obtain ⟨cC, iS, hk⟩ := u_known (C := RX11) (T := TX11) (N := 44) h uw_11 (h _ iw_11)
    exact ⟨(cC, iS), fun q hq => by cases hq; exact hk⟩
  | c + 12 => exact ⟨(0, fun _ => 0), fun q hq => by simp [vwCl] at hq⟩
theorem ar_one {s : State} {args : Array Value} {ty : FieldType} (hp : ∀ C, ty ≠ .object C) (h : (Cond.arrayClass ty).before args s = true) : ∃ cA, ArrOfT s cA ty ∧ va_RA s cA ty := by
  obtain ⟨c, k, comp, h1, h2, h3⟩ := Cond.arrayClass_spec h
  refine ⟨c, fun n z => ⟨fun k h => (by cases h), k, h2, comp, h3⟩, ?_⟩
  cases ty with
  | object C => exact absurd rfl (hp C)
  | _ => exact h1
theorem ar_obj {s : State} {C : String} (h : va_AO C s) : ∃ cA, ArrOfT s cA (.object C) ∧ va_RA s cA (.object C) := by
  obtain ⟨comp, c, k, h1, h2, h3, h4, h5⟩ := Cond.arrayOver_spec h
  exact ⟨c, fun n z => ⟨fun k h => (by cases h), k, h3, comp, h4⟩, k, comp, h3, h4, h1, h5⟩
theorem eqd_to {ρ : Type} {G : GT} {R : Room} {ad : Nat → Nat} {Z : Zt} {ck : Nat × Nat} {K : ρ → Dm → Prop} {pc : Nat} {L : List (Nat × Value)} {st : List Value} {f : MM ρ} {d d' : Dm} {r : ρ} (h : f d = some (r, d')) (hK : K r d') (k : Sm G R ad Z ck K pc L st f) : Sm G R ad Z ck KT pc L st (eqd d) := by
  obtain ⟨p, l, e, s, m, args, below, meth, c, Q, A, cy, D⟩ := G
  intro d0 r0 d1 hf _ H locs ls hl hP hS
  obtain ⟨rfl, -⟩ := eqd_some hf
  exact k d0 r d' h hK H locs ls hl hP hS
set_option maxHeartbeats 4000000 in
set_option maxRecDepth 20000 in
theorem start_of (goal : ∀ (xs : Nat → Int32) (L : Nat), L ≤ 2560 → ∃ d', Law_law_18 xs L 1000 1 65 (0 : Int32) dS = some (1, d')) {p : Program} {e : Env} {s : State} {m : MethodId} {below : List Frame} {meth : Method} {c : Code} (l : Launch) {b L : Nat} {xs : Nat → Int32} (hL : L ≤ 2560) (C0 : lw_At p s m meth c b L xs) : W p l e room_1 s m #[Value.ref b] below meth c s.heap [] 0 0 (lw_Z below #[Value.ref b] s) (entryFrame m ([Value.ref b] : List Value).toArray 4) := by
  obtain ⟨hx, hb, hr, hml, hown, hts, hX, hbl, hlocks, hgv⟩ := C0
  have htT : ∀ w ∈ TT, w.before #[Value.ref b] s = true := fun w h => hts w (List.mem_filter.mp h).1
  obtain ⟨fD, hfD⟩ := Classical.axiomOfChoice (kn_all htT)
  have a26 : va_AO RX0 s := va_AO.of (hts _ ao_X0)
  have a27 : va_AO RX8 s := va_AO.of (hts _ ao_X8)
  obtain ⟨c21, k21⟩ := ar_one (fun C h => by cases h) (htT _ aw_byte)
  obtain ⟨c22, k22⟩ := ar_one (fun C h => by cases h) (htT _ aw_char)
  obtain ⟨c23, k23⟩ := ar_one (fun C h => by cases h) (htT _ aw_int)
  obtain ⟨c24, k24⟩ := ar_one (fun C h => by cases h) (htT _ aw_long)
  obtain ⟨c25, k25⟩ := ar_one (fun C h => by cases h) (htT _ aw_boolean)
  obtain ⟨c26, k26⟩ := ar_obj a26
  obtain ⟨c27, k27⟩ := ar_obj a27
  obtain ⟨cy, e21, e22, e23, e24, e25, e26, e27⟩ : ∃ cy : Nat → ClassId, cy 21 = c21 ∧ cy 22 = c22 ∧ cy 23 = c23 ∧ cy 24 = c24 ∧ cy 25 = c25 ∧ cy 26 = c26 ∧ cy 27 = c27 := ⟨fun k => if k = 21 then c21 else if k = 22 then c22 else if k = 23 then c23 else if k = 24 then c24 else if k = 25 then c25 else if k = 26 then c26 else c27, rfl, rfl, rfl, rfl, rfl, rfl, rfl⟩
  have hK : va_K (fun c => (fD c).1, fun c => (fD c).2) vwCl (tysF cy) s := by
    refine ⟨fun c q hq => hfD c q hq, fun k q hq => ?_⟩
    match k, hq with
    | 0, hq => cases hq; rw [e21]; exact k21
    | 1, hq => cases hq; rw [e22]; exact k22
    | 2, hq => cases hq; rw [e23]; exact k23
    | 3, hq => cases hq; rw [e24]; exact k24
    | 4, hq => cases hq; rw [e25]; exact k25
    | 5, hq => cases hq; rw [e26]; exact k26
    | 6, hq => cases hq; rw [e27]; exact k27
    | k + 7, hq => simp [tysF] at hq
  have hWd : Wd s := by
    refine ⟨fun q hq => ?_, a26, a27⟩
    obtain ⟨w, hw, hm⟩ := List.mem_filterMap.mp hq
    cases w <;> simp only [Option.some.injEq, reduceCtorEq] at hm
    subst hm
    exact va_Nw.of rfl (hts _ hw)
  obtain ⟨ad, had⟩ : ∃ ad : Nat → Nat, ad 1000 = b := ⟨fun _ => b, rfl⟩
  obtain ⟨ad0, hz⟩ : ∃ a0 : Nat → Nat, a0 = ad := ⟨_, rfl⟩
  have hag : ∀ i, (i ≤ 0 ∨ 88 < i) → ad i = ad0 i := fun i _ => by rw [hz]
  rw [← hz] at had
  clear hz
  have hl := lv_entry ([Value.ref b]) (n := 4) (Nat.le_of_ble_eq_true rfl)
  rw [lg_entry_eq]
  generalize (lg_sl ([Value.ref b]) ++ List.replicate (4 - (lg_sl ([Value.ref b])).length) Slot.unset).toArray = ls at hl ⊢
  have hl0 : lv_has ls c.maxLocals (([(0, Value.ref 1000)] : List (Nat × Value)).map (cw ad)) := by
    rw [hml]
    show lv_has ls 4 [(0, rv ad 1000)]
    rw [rv_n (by decide), hag 1000 (Or.inr (by decide)), had]
    exact hl
  have C : Cx (p, l, e, s, m, #[Value.ref b], below, meth, c, lw_Z below #[Value.ref b] s, fun q : Nat => s.heap.size ≤ q, cy, (fun c => (fD c).1, fun c => (fD c).2)) room_1 cL_law 4 RL := ⟨hx, hb, hml, hown, htT, hK, hWd, fun _ h => h, hlocks⟩
  have hV : Vx (p, l, e, s, m, #[Value.ref b], below, meth, c, lw_Z below #[Value.ref b] s, fun q : Nat => s.heap.size ≤ q, cy, (fun c => (fD c).1, fun c => (fD c).2)) room_1 ad (ZP 0) (0, 0) := by
    refine ⟨⟨fun a b h1 h2 => absurd h2 (by show ¬ a ≤ 0; omega), fun a h => ?_⟩, fun a h1 h2 => absurd h2 (by show ¬ a ≤ 0; omega), Nat.zero_le _, Nat.zero_le _⟩
    exfalso
    apply h
    show (if a ≤ 0 then kfl.getD a 0 else 0) = 0
    split
    · next q => rw [Nat.le_zero.mp q]; rfl
    · rfl
  have hP : va_P (fun c => (fD c).1, fun c => (fD c).2) vwCl (wd cy ad (ZP 0) d00) s.heap := fun k q h => by simp [wd, ZP] at h
  refine (show Sm (p, l, e, s, m, #[Value.ref b], below, meth, c, lw_Z below #[Value.ref b] s, fun q : Nat => s.heap.size ≤ q, cy, (fun c => (fD c).1, fun c => (fD c).2)) room_1 ad (ZP 0) (0, 0) KT 0 [(0, .ref 1000)] [] (eqd d00) from ?_) d00 () d00 (eqd_self _) trivial s.heap [] ls hl0 hP va_S.rf
  clear hl hl0 hP
  generalize hG : (p, l, e, s, m, #[Value.ref b], below, meth, c, lw_Z below #[Value.ref b] s, fun q : Nat => s.heap.size ≤ q, cy, (fun c => (fD c).1, fun c => (fD c).2)) = G at C hV ⊢
  have hcl := cl_00
  refine c_newP C 1 rfl 0 0 hV cf_10 cl_L_7 df_10 rfl rfl hcl ⟨by simp [rfs], by simp [rfs]⟩ 1 11 ⟨rfl, rfl⟩ ⟨Nat.le_of_ble_eq_true rfl, Nat.le_of_ble_eq_true rfl⟩ dL_law_0 (fun q1 hV => ?_)
  have hag := ag_up (q := q1) (i := 1) hag (by decide) (by decide)
  have hcl := Cl_nw hcl 1
  refine s_dupr C dL_law_3 ?_
  refine c_callP C (k' := 64) 1 11 hV li_L_9 iy_Main_init (by decide) (mct_Main_init _ hcl) ⟨rfl, rfl, Nat.le_of_ble_eq_true rfl, Nat.le_of_ble_eq_true rfl⟩ ⟨by simp [rfs], by simp [rfs]⟩ (Nat.le_of_ble_eq_true rfl) 64 13614 ⟨rfl, rfl⟩ ⟨Nat.le_of_ble_eq_true rfl, Nat.le_of_ble_eq_true rfl⟩ dL_law_4 (fun ad hag2 hV => ?_)
  have hag := ag_call hag hag2 (by decide) (by decide)
  clear hag2
  have hcl := cl_ct_Main_init hcl
  refine s_astore_n C (L' := [(1, .ref 1), (0, .ref 1000)]) (by decide) rfl dL_law_7 ?_
  refine c_newP C 65 rfl 64 13614 hV cf_11 cl_L_10 df_11 rfl rfl hcl ⟨by simp [rfs], by simp [rfs]⟩ 65 13658 ⟨rfl, rfl⟩ ⟨Nat.le_of_ble_eq_true rfl, Nat.le_of_ble_eq_true rfl⟩ dL_law_8 (fun q65 hV => ?_)
  have hag := ag_up (q := q65) (i := 65) hag (by decide) (by decide)
  have hcl := Cl_nw hcl 65
  refine s_dupr C dL_law_11 ?_
  refine c_callP C (k' := 88) 65 13658 hV li_L_12 iy_Mod_init (by decide) (mct_Mod_init _ hcl) ⟨rfl, rfl, Nat.le_of_ble_eq_true rfl, Nat.le_of_ble_eq_true rfl⟩ ⟨by simp [rfs], by simp [rfs]⟩ (Nat.le_of_ble_eq_true rfl) 88 51751 ⟨rfl, rfl⟩ ⟨Nat.le_of_ble_eq_true rfl, Nat.le_of_ble_eq_true rfl⟩ dL_law_12 (fun ad hag2 hV => ?_)
  have hag := ag_call hag hag2 (by decide) (by decide)
  clear hag2
  refine s_astore_n C (L' := [(2, .ref 65), (1, .ref 1), (0, .ref 1000)]) (by decide) rfl dL_law_15 ?_
  refine s_iconst C (0 : Int32) (by decide) dL_law_16 ?_
  refine s_istore_n C (L' := [(3, .int 0), (2, .ref 65), (1, .ref 1), (0, .ref 1000)]) (by decide) rfl dL_law_17 ?_
  have hb1 : ad 1000 = b := (hag 1000 (by decide)).trans had
  rw [zp_zf] at hV ⊢
  obtain ⟨d', hd'⟩ := goal xs L hL
  refine eqd_to (K := fun r _ => r = 1) hd' rfl ?_
  refine s_weak [0, 1, 2, 3] rfl (sm_Law_law_18 C hV ?_ 1000 1 65 0 ?_)
  · subst hG
    show ∀ _, _
    intro pc v dd H locs ls hdg hnar hK1 hP hS
    subst hK1
    refine va_forget (fun q hq => hS.2.2 q hq) ?_
    refine W.widen (k := 600000) (n := 7302250) (Nat.le_of_ble_eq_true rfl) (Nat.le_of_ble_eq_true rfl) ?_
    exact lw_ret hx hb hr hlocks hdg
  · subst hG
    exact ⟨by decide, by rw [hb1]; exact hX, by rw [hb1]; exact hbl, by rw [hb1]; exact Nat.not_le.mpr hbl⟩
