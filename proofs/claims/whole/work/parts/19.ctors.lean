theorem zpk {k a c : Nat} (h : a ≤ k) (e : kfl.getD a 0 = c) : (ZP k).2.1 a = c := (if_pos h).trans e
theorem zpl {k a c : Nat} (h : a ≤ k) (e : lfl.getD a 0 = c) : (ZP k).2.2 a = c := (if_pos h).trans e
section
variable {G : GT} {R : Room} {ad : Nat → Nat} {ck : Nat × Nat} {pc nL : Nat} {cc : ByteArray} {own : String} {L : List (Nat × Value)} {st : List Value} {d : Dm}
theorem c_newP (C : Cx G R cc nL own) {k : Nat} (k' : Nat) (hk : k' = k + 1) (c1 c2 : Nat) (hV : Vx G R ad (ZP k) (c1, c2)) {idx ci N : Nat} {Cn : String} {T : u_T} (hcf : CF ci Cn T N) (hw : Cond.classLink own idx Cn ∈ TT ∧ Cond.instantiable Cn N ∈ TT ∧ Cond.initialized Cn ∈ TT) (hdf : ∀ j, j < N → defaultValue (ctF ci j) = fv0 (ctF ci j)) (h1 : kfl.getD k' 0 = ci + 1) (h2 : lfl.getD k' 0 = 0) (hcl : Cl d k) (hrf : okr k k' L st) (e1 e2 : Nat) (he : e1 = c1 + 1 ∧ e2 = c2 + N) (hrm : e1 ≤ R.cells ∧ e2 ≤ R.slots) (hd : decode cc pc = .ok (.new idx, 3))
    (kk : ∀ q, Vx G R (va_up ad k' q) (ZP k') (e1, e2) → Sm G R (va_up ad k' q) (ZP k') (e1, e2) KT (pc + 3) L (.ref k' :: st) (eqd (nwD d k'))) : Sm G R ad (ZP k) (c1, c2) KT pc L st (eqd d) := by
  obtain ⟨rfl, rfl⟩ := he
  subst hk
  exact c_new (Z := ZP k) (Z' := ZP (k + 1)) C hV hcf hw hdf (zp_s h1 h2) hcl hrf hrm hd kk
theorem c_newaP (C : Cx G R cc nL own) {k : Nat} (k' : Nat) (hk : k' = k + 1) (c1 c2 : Nat) (hV : Vx G R ad (ZP k) (c1, c2)) {at_ : ArrayType} {ty : FieldType} (hty : newarray.typeOf at_ = ty) (kd ln t0 : Nat) (hkd : (kd = 21 ∧ ty = .byte ∧ t0 = 0) ∨ (kd = 22 ∧ ty = .char ∧ t0 = 1) ∨ (kd = 23 ∧ ty = .int ∧ t0 = 2) ∨ (kd = 24 ∧ ty = .long ∧ t0 = 3) ∨ (kd = 25 ∧ ty = .boolean ∧ t0 = 4)) (hw : Cond.arrayClass ty ∈ TT) {n : Int32} (hn : ¬ n < 0) (hN : n.toNatClampNeg = ln) (hby : ln * 8 ≤ 536870912) (h1 : kfl.getD k' 0 = kd) (h2 : lfl.getD k' 0 = ln) (hcl : Cl d k) (hrf : okr k k' L st) (e1 e2 : Nat) (he : e1 = c1 + 1 ∧ e2 = c2 + ln) (hrm : e1 ≤ R.cells ∧ e2 ≤ R.slots) (hd : decode cc pc = .ok (.newarray at_, 2))
    (kk : ∀ q, Vx G R (va_up ad k' q) (ZP k') (e1, e2) → Sm G R (va_up ad k' q) (ZP k') (e1, e2) KT (pc + 2) L (.ref k' :: st) (eqd (nwD d k'))) : Sm G R ad (ZP k) (c1, c2) KT pc L (.int n :: st) (eqd d) := by
  obtain ⟨rfl, rfl⟩ := he
  subst hk
  exact c_newa (Z := ZP k) (Z' := ZP (k + 1)) C hV hty hkd hw hn hN hby (zp_s h1 h2) hcl hrf hrm hd kk
theorem c_newqP (C : Cx G R cc nL own) {k : Nat} (k' : Nat) (hk : k' = k + 1) (c1 c2 : Nat) (hV : Vx G R ad (ZP k) (c1, c2)) {idx : Nat} (kd ln t0 : Nat) {Cn : String} (hkd : (kd = 26 ∧ Cn = RX0 ∧ t0 = 5) ∨ (kd = 27 ∧ Cn = RX8 ∧ t0 = 6)) (hw : Cond.classLink own idx Cn ∈ TT) {n : Int32} (hn : ¬ n < 0) (hN : n.toNatClampNeg = ln) (hby : ln * 4 ≤ 536870912) (h1 : kfl.getD k' 0 = kd) (h2 : lfl.getD k' 0 = ln) (hcl : Cl d k) (hrf : okr k k' L st) (e1 e2 : Nat) (he : e1 = c1 + 1 ∧ e2 = c2 + ln) (hrm : e1 ≤ R.cells ∧ e2 ≤ R.slots) (hd : decode cc pc = .ok (.anewarray idx, 3))
    (kk : ∀ q, Vx G R (va_up ad k' q) (ZP k') (e1, e2) → Sm G R (va_up ad k' q) (ZP k') (e1, e2) KT (pc + 3) L (.ref k' :: st) (eqd (nwD d k'))) : Sm G R ad (ZP k) (c1, c2) KT pc L (.int n :: st) (eqd d) := by
  obtain ⟨rfl, rfl⟩ := he
  subst hk
  exact c_newq (Z := ZP k) (Z' := ZP (k + 1)) C hV hkd hw hn hN hby (zp_s h1 h2) hcl hrf hrm hd kk
theorem c_callP (C : Cx G R cc nL own) {k k' : Nat} (c1 c2 : Nat) (hV : Vx G R ad (ZP k) (c1, c2)) {idx mL mc ms a : Nat} {y : MethodName} {bc : ByteArray} {rm : Room} {d1 : Dm} (hL : LC own idx y bc mL none 0 ∨ ∃ host, LN own idx y host bc mL none 0) (hy : y.name = "<init>" ∧ Cond.instanceMethod y ∈ TT) (ha : (ZP k).2.1 a ≠ 0) (hM : MC (ZP k) (ZP k') y bc mL rm mc ms a d d1) (hrm : RI R rm mL mc ms) (hrf : okr k k' L st) (hcat : (st.map fun v => v.category).sum ≤ 8) (e1 e2 : Nat) (he : e1 = c1 + mc ∧ e2 = c2 + ms) (hck : e1 ≤ R.cells ∧ e2 ≤ R.slots) (hd : decode cc pc = .ok (.invokespecial idx, 3)) (kk : ∀ ad' : Nat → Nat, (∀ i, (i ≤ k ∨ k' < i) → ad' i = ad i) → Vx G R ad' (ZP k') (e1, e2) → Sm G R ad' (ZP k') (e1, e2) KT (pc + 3) L st (eqd d1)) : Sm G R ad (ZP k) (c1, c2) KT pc L (.ref a :: st) (eqd d) := by
  obtain ⟨rfl, rfl⟩ := he
  exact c_call (Z := ZP k) (Z' := ZP k') C hV hL hy ha hM hrm hrf hcat hck hd kk
end
abbrev rc_Text_init : Room := { frames := 1, cells := 1, slots := 60, locals := 20 }
abbrev rc_Act_init : Room := { frames := 1, cells := 0, slots := 0, locals := 20 }
def ct_Text (k : Nat) (d : Dm) : Dm := pId (pId (pId (pRd (nwD d (k + 1)) k 0 (k + 1)) k 1 0) k 2 0) k 3 0
theorem cl_ct_Text (k : Nat) {d : Dm} (hcl : Cl d k) : Cl (ct_Text k d) (k + 1) := Cl_pI (Cl_pI (Cl_pI (Cl_pR (Cl_nw hcl (k + 1)) k 0 (Nat.le_refl _)) k 1 0) k 2 0) k 3 0
theorem mct_Act (k : Nat) (h9 : kfl.getD k 0 = 1) (hk : 1 ≤ k) (d : Dm) : MC (ZP k) (ZP k) yX0_init cX0_init 1 rc_Act_init 0 0 k d d := by
  refine mc_of (by decide +kernel) rfl (by decide) ?_
  intro G ad C hI hV hR
  refine s_aload_n C rfl dX0_init_0 ?_
  refine c_objI C (by omega) oi_X0_3 ⟨Nat.le_of_ble_eq_true rfl, Nat.le_of_ble_eq_true rfl⟩ dX0_init_1 ?_
  exact c_ret hR (fun _ _ => rfl) hV dX0_init_4
theorem mct_Text (k : Nat) (h9 : kfl.getD k 0 = 9) (h23 : kfl.getD (k + 1) 0 = 23) (h60 : lfl.getD (k + 1) 0 = 60) (hk : 1 ≤ k) (d : Dm) (hcl : Cl d k) : MC (ZP k) (ZP (k + 1)) yX8_init cX8_init 1 rc_Text_init 1 60 k d (ct_Text k d) := by
  refine mc_of (by decide +kernel) rfl (by decide) ?_
  intro G ad C hI hV hR
  refine s_aload_n C rfl dX8_init_0 ?_
  refine c_objI C (by omega) oi_X8_3 ⟨Nat.le_of_ble_eq_true rfl, Nat.le_of_ble_eq_true rfl⟩ dX8_init_1 ?_
  refine s_aload_n C rfl dX8_init_4 ?_
  refine s_bipush C (60 : Int32) (by decide) dX8_init_5 ?_
  refine c_newaP C (k + 1) rfl 0 0 (at_ := .int) (ty := .int) hV rfl 23 60 2 (by simp) aw_int (by decide) (by decide) (Nat.le_of_ble_eq_true rfl) h23 h60 hcl ⟨by simp [rfs], by simp [rfs]⟩ 1 60 ⟨rfl, rfl⟩ ⟨Nat.le_of_ble_eq_true rfl, Nat.le_of_ble_eq_true rfl⟩ dX8_init_7 (fun q hV => ?_)
  have e9 : (ZP (k + 1)).2.1 k = 9 := zpk (by omega) h9
  have e23 : (ZP (k + 1)).2.1 (k + 1) = 23 := zpk (Nat.le_refl _) h23
  refine c_putR C hI hV ff_X8_9 (fun _ _ _ => rfl) (fun _ => ⟨rfl, rfl⟩) e9 (by omega) dX8_init_9 ?_
  refine s_aload_n C rfl dX8_init_12 ?_
  refine s_iconst C (0 : Int32) (by decide) dX8_init_13 ?_
  refine c_putI C hV fw_X8_15 rfl (fun _ _ _ => rfl) e9 (by decide) (by decide) dX8_init_14 ?_
  refine s_aload_n C rfl dX8_init_17 ?_
  refine s_iconst C (0 : Int32) (by decide) dX8_init_18 ?_
  refine c_putI C hV fw_X8_19 rfl (fun _ _ _ => rfl) e9 (by decide) (by decide) dX8_init_19 ?_
  refine s_aload_n C rfl dX8_init_22 ?_
  refine s_iconst C (0 : Int32) (by decide) dX8_init_23 ?_
  refine c_putI C hV fw_X8_22 rfl (fun _ _ _ => rfl) e9 (by decide) (by decide) dX8_init_24 ?_
  exact c_ret hR (ag_up (n := k) (m := k + 1) (fun _ _ => rfl) (by omega) (Nat.le_refl _)) hV dX8_init_27
abbrev rc_Prog_init : Room := { frames := 2, cells := 13, slots := 72, locals := 40 }
def ct_Prog_init (d : Dm) : Dm := pRd (nwD (pRd (nwD (pRd (nwD (pRd (nwD (pRd (nwD (pRd (nwD (pRd (nwD (pRd (nwD (pRd (nwD (pRd (nwD (pRd (nwD (pRd (nwD (pLd (pId (pRd (nwD (d) 4) 3 0 4) 3 1 (0)) 3 2 (0)) 5) 4 0 5) 6) 4 1 6) 7) 4 2 7) 8) 4 3 8) 9) 4 4 9) 10) 4 5 10) 11) 4 6 11) 12) 4 7 12) 13) 4 8 13) 14) 4 9 14) 15) 4 10 15) 16) 4 11 16
theorem cl_ct_Prog_init {d : Dm} (hcl : Cl d 3) : Cl (ct_Prog_init d) 16 := by
  have hcl := Cl_nw hcl 4
  have hcl := Cl_pR hcl 3 0 (x := 4) (by decide)
  have hcl := Cl_pI hcl 3 1 (0)
  have hcl := Cl_pL hcl 3 2 (0)
  have hcl := Cl_nw hcl 5
  have hcl := Cl_pR hcl 4 0 (x := 5) (by decide)
  have hcl := Cl_nw hcl 6
  have hcl := Cl_pR hcl 4 1 (x := 6) (by decide)
  have hcl := Cl_nw hcl 7
  have hcl := Cl_pR hcl 4 2 (x := 7) (by decide)
  have hcl := Cl_nw hcl 8
  have hcl := Cl_pR hcl 4 3 (x := 8) (by decide)
  have hcl := Cl_nw hcl 9
  have hcl := Cl_pR hcl 4 4 (x := 9) (by decide)
  have hcl := Cl_nw hcl 10
  have hcl := Cl_pR hcl 4 5 (x := 10) (by decide)
  have hcl := Cl_nw hcl 11
  have hcl := Cl_pR hcl 4 6 (x := 11) (by decide)
  have hcl := Cl_nw hcl 12
  have hcl := Cl_pR hcl 4 7 (x := 12) (by decide)
  have hcl := Cl_nw hcl 13
  have hcl := Cl_pR hcl 4 8 (x := 13) (by decide)
  have hcl := Cl_nw hcl 14
  have hcl := Cl_pR hcl 4 9 (x := 14) (by decide)
  have hcl := Cl_nw hcl 15
  have hcl := Cl_pR hcl 4 10 (x := 15) (by decide)
  have hcl := Cl_nw hcl 16
  have hcl := Cl_pR hcl 4 11 (x := 16) (by decide)
  exact hcl
set_option maxRecDepth 20000 in
theorem mct_Prog_init (d : Dm) (hcl : Cl d 3) : MC (ZP 3) (ZP 16) yX5_init cX5_init 2 rc_Prog_init 13 72 3 d (ct_Prog_init d) := by
  refine mc_of (by decide +kernel) rfl (by decide) ?_
  intro G ad C hI hV hR
  obtain ⟨ad0, had⟩ : ∃ a0 : Nat → Nat, a0 = ad := ⟨_, rfl⟩
  rw [← had] at hR
  have hag : ∀ i, (i ≤ 3 ∨ 16 < i) → ad i = ad0 i := fun i _ => by rw [had]
  clear had
  refine s_aload_n C rfl dX5_init_0 ?_
  refine c_objI C (by decide) oi_X5_3 ⟨Nat.le_of_ble_eq_true rfl, Nat.le_of_ble_eq_true rfl⟩ dX5_init_1 ?_
  refine s_aload_n C rfl dX5_init_4 ?_
  refine s_bipush C (12 : Int32) (by decide) dX5_init_5 ?_
  refine c_newqP C 4 rfl 0 0 hV 26 12 5 (by simp) cq_X5_9 (by decide) (by decide) (Nat.le_of_ble_eq_true rfl) rfl rfl hcl ⟨by simp [rfs], by simp [rfs]⟩ 1 12 ⟨rfl, rfl⟩ ⟨Nat.le_of_ble_eq_true rfl, Nat.le_of_ble_eq_true rfl⟩ dX5_init_7 (fun q4 hV => ?_)
  have hag := ag_up (q := q4) (i := 4) hag (by decide) (by decide)
  have hcl := Cl_nw hcl 4
  refine c_putR C hI hV ff_X5_11 (fun _ _ _ => rfl) (fun _ => ⟨rfl, rfl⟩) rfl (by decide) dX5_init_10 ?_
  have hcl := Cl_pR hcl 3 0 (x := 4) (by decide)
  refine s_aload_n C rfl dX5_init_13 ?_
  refine s_iconst C (0 : Int32) (by decide) dX5_init_14 ?_
  refine c_putI C hV fw_X5_17 rfl (fun _ _ _ => rfl) rfl (by decide) (by decide) dX5_init_15 ?_
  have hcl := Cl_pI hcl 3 1 (0 : Int32)
  refine s_aload_n C rfl dX5_init_18 ?_
  refine s_lconst C (0 : Int64) (by decide) dX5_init_19 ?_
  refine c_putL C hV fw_X5_21 rfl rfl dX5_init_20 ?_
  have hcl := Cl_pL hcl 3 2 (0 : Int64)
  refine s_iconst C (0 : Int32) (by decide) dX5_init_23 ?_
  refine s_istore_n C (L' := [(1, .int (0 : Int32)), (0, .ref 3)]) (by decide) rfl dX5_init_24 ?_
  refine s_iload_n C rfl dX5_init_25 ?_
  refine s_bipush C (12 : Int32) (by decide) dX5_init_26 ?_
  refine s_icmp_geF C (by decide) 50 (by decide) dX5_init_28 ?_
  refine s_aload_n C rfl dX5_init_31 ?_
  refine c_getR C hV fl_X5_11 (fun _ _ _ => rfl) rfl 4 rfl dX5_init_32 ?_
  refine s_iload_n C rfl dX5_init_35 ?_
  refine c_newP C 5 rfl 1 12 hV cf_0 cl_X5_9 df_0 rfl rfl hcl ⟨by simp [rfs], by simp [rfs]⟩ 2 17 ⟨rfl, rfl⟩ ⟨Nat.le_of_ble_eq_true rfl, Nat.le_of_ble_eq_true rfl⟩ dX5_init_36 (fun q5 hV => ?_)
  have hag := ag_up (q := q5) (i := 5) hag (by decide) (by decide)
  have hcl := Cl_nw hcl 5
  refine s_dupr C dX5_init_39 ?_
  refine c_callP C (k' := 5) 2 17 hV li_X5_25 iy_Act_init (by decide) (mct_Act 5 rfl (by decide) _) ⟨rfl, rfl, Nat.le_of_ble_eq_true rfl, Nat.le_of_ble_eq_true rfl⟩ ⟨by simp [rfs], by simp [rfs]⟩ (Nat.le_of_ble_eq_true rfl) 2 17 ⟨rfl, rfl⟩ ⟨Nat.le_of_ble_eq_true rfl, Nat.le_of_ble_eq_true rfl⟩ dX5_init_40 (fun ad hag2 hV => ?_)
  have hag := ag_call hag hag2 (by decide) (by decide)
  clear hag2
  have hcl := hcl
  refine c_aast C hV (kd := 26) (ek := 1) (by decide) 0 (by decide) rfl (by decide) rfl dX5_init_43 ?_
  have hcl := Cl_pR hcl 4 0 (x := 5) (by decide)
  refine s_iincK C (1 : Int32) (L' := [(1, .int (1 : Int32)), (0, .ref 3)]) (by decide) rfl (by decide) rfl dX5_init_44 ?_
  refine s_goto C 25 (by decide) dX5_init_47 ?_
  refine s_iload_n C rfl dX5_init_25 ?_
  refine s_bipush C (12 : Int32) (by decide) dX5_init_26 ?_
  refine s_icmp_geF C (by decide) 50 (by decide) dX5_init_28 ?_
  refine s_aload_n C rfl dX5_init_31 ?_
  refine c_getR C hV fl_X5_11 (fun _ _ _ => rfl) rfl 4 rfl dX5_init_32 ?_
  refine s_iload_n C rfl dX5_init_35 ?_
  refine c_newP C 6 rfl 2 17 hV cf_0 cl_X5_9 df_0 rfl rfl hcl ⟨by simp [rfs], by simp [rfs]⟩ 3 22 ⟨rfl, rfl⟩ ⟨Nat.le_of_ble_eq_true rfl, Nat.le_of_ble_eq_true rfl⟩ dX5_init_36 (fun q6 hV => ?_)
  have hag := ag_up (q := q6) (i := 6) hag (by decide) (by decide)
  have hcl := Cl_nw hcl 6
  refine s_dupr C dX5_init_39 ?_
  refine c_callP C (k' := 6) 3 22 hV li_X5_25 iy_Act_init (by decide) (mct_Act 6 rfl (by decide) _) ⟨rfl, rfl, Nat.le_of_ble_eq_true rfl, Nat.le_of_ble_eq_true rfl⟩ ⟨by simp [rfs], by simp [rfs]⟩ (Nat.le_of_ble_eq_true rfl) 3 22 ⟨rfl, rfl⟩ ⟨Nat.le_of_ble_eq_true rfl, Nat.le_of_ble_eq_true rfl⟩ dX5_init_40 (fun ad hag2 hV => ?_)
  have hag := ag_call hag hag2 (by decide) (by decide)
  clear hag2
  have hcl := hcl
  refine c_aast C hV (kd := 26) (ek := 1) (by decide) 1 (by decide) rfl (by decide) rfl dX5_init_43 ?_
  have hcl := Cl_pR hcl 4 1 (x := 6) (by decide)
  refine s_iincK C (2 : Int32) (L' := [(1, .int (2 : Int32)), (0, .ref 3)]) (by decide) rfl (by decide) rfl dX5_init_44 ?_
  refine s_goto C 25 (by decide) dX5_init_47 ?_
  refine s_iload_n C rfl dX5_init_25 ?_
  refine s_bipush C (12 : Int32) (by decide) dX5_init_26 ?_
  refine s_icmp_geF C (by decide) 50 (by decide) dX5_init_28 ?_
  refine s_aload_n C rfl dX5_init_31 ?_
  refine c_getR C hV fl_X5_11 (fun _ _ _ => rfl) rfl 4 rfl dX5_init_32 ?_
  refine s_iload_n C rfl dX5_init_35 ?_
  refine c_newP C 7 rfl 3 22 hV cf_0 cl_X5_9 df_0 rfl rfl hcl ⟨by simp [rfs], by simp [rfs]⟩ 4 27 ⟨rfl, rfl⟩ ⟨Nat.le_of_ble_eq_true rfl, Nat.le_of_ble_eq_true rfl⟩ dX5_init_36 (fun q7 hV => ?_)
  have hag := ag_up (q := q7) (i := 7) hag (by decide) (by decide)
  have hcl := Cl_nw hcl 7
  refine s_dupr C dX5_init_39 ?_
  refine c_callP C (k' := 7) 4 27 hV li_X5_25 iy_Act_init (by decide) (mct_Act 7 rfl (by decide) _) ⟨rfl, rfl, Nat.le_of_ble_eq_true rfl, Nat.le_of_ble_eq_true rfl⟩ ⟨by simp [rfs], by simp [rfs]⟩ (Nat.le_of_ble_eq_true rfl) 4 27 ⟨rfl, rfl⟩ ⟨Nat.le_of_ble_eq_true rfl, Nat.le_of_ble_eq_true rfl⟩ dX5_init_40 (fun ad hag2 hV => ?_)
  have hag := ag_call hag hag2 (by decide) (by decide)
  clear hag2
  have hcl := hcl
  refine c_aast C hV (kd := 26) (ek := 1) (by decide) 2 (by decide) rfl (by decide) rfl dX5_init_43 ?_
  have hcl := Cl_pR hcl 4 2 (x := 7) (by decide)
  refine s_iincK C (3 : Int32) (L' := [(1, .int (3 : Int32)), (0, .ref 3)]) (by decide) rfl (by decide) rfl dX5_init_44 ?_
  refine s_goto C 25 (by decide) dX5_init_47 ?_
  refine s_iload_n C rfl dX5_init_25 ?_
  refine s_bipush C (12 : Int32) (by decide) dX5_init_26 ?_
  refine s_icmp_geF C (by decide) 50 (by decide) dX5_init_28 ?_
  refine s_aload_n C rfl dX5_init_31 ?_
  refine c_getR C hV fl_X5_11 (fun _ _ _ => rfl) rfl 4 rfl dX5_init_32 ?_
  refine s_iload_n C rfl dX5_init_35 ?_
  refine c_newP C 8 rfl 4 27 hV cf_0 cl_X5_9 df_0 rfl rfl hcl ⟨by simp [rfs], by simp [rfs]⟩ 5 32 ⟨rfl, rfl⟩ ⟨Nat.le_of_ble_eq_true rfl, Nat.le_of_ble_eq_true rfl⟩ dX5_init_36 (fun q8 hV => ?_)
  have hag := ag_up (q := q8) (i := 8) hag (by decide) (by decide)
  have hcl := Cl_nw hcl 8
  refine s_dupr C dX5_init_39 ?_
  refine c_callP C (k' := 8) 5 32 hV li_X5_25 iy_Act_init (by decide) (mct_Act 8 rfl (by decide) _) ⟨rfl, rfl, Nat.le_of_ble_eq_true rfl, Nat.le_of_ble_eq_true rfl⟩ ⟨by simp [rfs], by simp [rfs]⟩ (Nat.le_of_ble_eq_true rfl) 5 32 ⟨rfl, rfl⟩ ⟨Nat.le_of_ble_eq_true rfl, Nat.le_of_ble_eq_true rfl⟩ dX5_init_40 (fun ad hag2 hV => ?_)
  have hag := ag_call hag hag2 (by decide) (by decide)
  clear hag2
  have hcl := hcl
  refine c_aast C hV (kd := 26) (ek := 1) (by decide) 3 (by decide) rfl (by decide) rfl dX5_init_43 ?_
  have hcl := Cl_pR hcl 4 3 (x := 8) (by decide)
  refine s_iincK C (4 : Int32) (L' := [(1, .int (4 : Int32)), (0, .ref 3)]) (by decide) rfl (by decide) rfl dX5_init_44 ?_
  refine s_goto C 25 (by decide) dX5_init_47 ?_
  refine s_iload_n C rfl dX5_init_25 ?_
  refine s_bipush C (12 : Int32) (by decide) dX5_init_26 ?_
  refine s_icmp_geF C (by decide) 50 (by decide) dX5_init_28 ?_
  refine s_aload_n C rfl dX5_init_31 ?_
  refine c_getR C hV fl_X5_11 (fun _ _ _ => rfl) rfl 4 rfl dX5_init_32 ?_
  refine s_iload_n C rfl dX5_init_35 ?_
  refine c_newP C 9 rfl 5 32 hV cf_0 cl_X5_9 df_0 rfl rfl hcl ⟨by simp [rfs], by simp [rfs]⟩ 6 37 ⟨rfl, rfl⟩ ⟨Nat.le_of_ble_eq_true rfl, Nat.le_of_ble_eq_true rfl⟩ dX5_init_36 (fun q9 hV => ?_)
  have hag := ag_up (q := q9) (i := 9) hag (by decide) (by decide)
  have hcl := Cl_nw hcl 9
  refine s_dupr C dX5_init_39 ?_
  refine c_callP C (k' := 9) 6 37 hV li_X5_25 iy_Act_init (by decide) (mct_Act 9 rfl (by decide) _) ⟨rfl, rfl, Nat.le_of_ble_eq_true rfl, Nat.le_of_ble_eq_true rfl⟩ ⟨by simp [rfs], by simp [rfs]⟩ (Nat.le_of_ble_eq_true rfl) 6 37 ⟨rfl, rfl⟩ ⟨Nat.le_of_ble_eq_true rfl, Nat.le_of_ble_eq_true rfl⟩ dX5_init_40 (fun ad hag2 hV => ?_)
  have hag := ag_call hag hag2 (by decide) (by decide)
  clear hag2
  have hcl := hcl
  refine c_aast C hV (kd := 26) (ek := 1) (by decide) 4 (by decide) rfl (by decide) rfl dX5_init_43 ?_
  have hcl := Cl_pR hcl 4 4 (x := 9) (by decide)
  refine s_iincK C (5 : Int32) (L' := [(1, .int (5 : Int32)), (0, .ref 3)]) (by decide) rfl (by decide) rfl dX5_init_44 ?_
  refine s_goto C 25 (by decide) dX5_init_47 ?_
  refine s_iload_n C rfl dX5_init_25 ?_
  refine s_bipush C (12 : Int32) (by decide) dX5_init_26 ?_
  refine s_icmp_geF C (by decide) 50 (by decide) dX5_init_28 ?_
  refine s_aload_n C rfl dX5_init_31 ?_
  refine c_getR C hV fl_X5_11 (fun _ _ _ => rfl) rfl 4 rfl dX5_init_32 ?_
  refine s_iload_n C rfl dX5_init_35 ?_
  refine c_newP C 10 rfl 6 37 hV cf_0 cl_X5_9 df_0 rfl rfl hcl ⟨by simp [rfs], by simp [rfs]⟩ 7 42 ⟨rfl, rfl⟩ ⟨Nat.le_of_ble_eq_true rfl, Nat.le_of_ble_eq_true rfl⟩ dX5_init_36 (fun q10 hV => ?_)
  have hag := ag_up (q := q10) (i := 10) hag (by decide) (by decide)
  have hcl := Cl_nw hcl 10
  refine s_dupr C dX5_init_39 ?_
  refine c_callP C (k' := 10) 7 42 hV li_X5_25 iy_Act_init (by decide) (mct_Act 10 rfl (by decide) _) ⟨rfl, rfl, Nat.le_of_ble_eq_true rfl, Nat.le_of_ble_eq_true rfl⟩ ⟨by simp [rfs], by simp [rfs]⟩ (Nat.le_of_ble_eq_true rfl) 7 42 ⟨rfl, rfl⟩ ⟨Nat.le_of_ble_eq_true rfl, Nat.le_of_ble_eq_true rfl⟩ dX5_init_40 (fun ad hag2 hV => ?_)
  have hag := ag_call hag hag2 (by decide) (by decide)
  clear hag2
  have hcl := hcl
  refine c_aast C hV (kd := 26) (ek := 1) (by decide) 5 (by decide) rfl (by decide) rfl dX5_init_43 ?_
  have hcl := Cl_pR hcl 4 5 (x := 10) (by decide)
  refine s_iincK C (6 : Int32) (L' := [(1, .int (6 : Int32)), (0, .ref 3)]) (by decide) rfl (by decide) rfl dX5_init_44 ?_
  refine s_goto C 25 (by decide) dX5_init_47 ?_
  refine s_iload_n C rfl dX5_init_25 ?_
  refine s_bipush C (12 : Int32) (by decide) dX5_init_26 ?_
  refine s_icmp_geF C (by decide) 50 (by decide) dX5_init_28 ?_
  refine s_aload_n C rfl dX5_init_31 ?_
  refine c_getR C hV fl_X5_11 (fun _ _ _ => rfl) rfl 4 rfl dX5_init_32 ?_
  refine s_iload_n C rfl dX5_init_35 ?_
  refine c_newP C 11 rfl 7 42 hV cf_0 cl_X5_9 df_0 rfl rfl hcl ⟨by simp [rfs], by simp [rfs]⟩ 8 47 ⟨rfl, rfl⟩ ⟨Nat.le_of_ble_eq_true rfl, Nat.le_of_ble_eq_true rfl⟩ dX5_init_36 (fun q11 hV => ?_)
  have hag := ag_up (q := q11) (i := 11) hag (by decide) (by decide)
  have hcl := Cl_nw hcl 11
  refine s_dupr C dX5_init_39 ?_
  refine c_callP C (k' := 11) 8 47 hV li_X5_25 iy_Act_init (by decide) (mct_Act 11 rfl (by decide) _) ⟨rfl, rfl, Nat.le_of_ble_eq_true rfl, Nat.le_of_ble_eq_true rfl⟩ ⟨by simp [rfs], by simp [rfs]⟩ (Nat.le_of_ble_eq_true rfl) 8 47 ⟨rfl, rfl⟩ ⟨Nat.le_of_ble_eq_true rfl, Nat.le_of_ble_eq_true rfl⟩ dX5_init_40 (fun ad hag2 hV => ?_)
  have hag := ag_call hag hag2 (by decide) (by decide)
  clear hag2
  have hcl := hcl
  refine c_aast C hV (kd := 26) (ek := 1) (by decide) 6 (by decide) rfl (by decide) rfl dX5_init_43 ?_
  have hcl := Cl_pR hcl 4 6 (x := 11) (by decide)
  refine s_iincK C (7 : Int32) (L' := [(1, .int (7 : Int32)), (0, .ref 3)]) (by decide) rfl (by decide) rfl dX5_init_44 ?_
  refine s_goto C 25 (by decide) dX5_init_47 ?_
  refine s_iload_n C rfl dX5_init_25 ?_
  refine s_bipush C (12 : Int32) (by decide) dX5_init_26 ?_
  refine s_icmp_geF C (by decide) 50 (by decide) dX5_init_28 ?_
  refine s_aload_n C rfl dX5_init_31 ?_
  refine c_getR C hV fl_X5_11 (fun _ _ _ => rfl) rfl 4 rfl dX5_init_32 ?_
  refine s_iload_n C rfl dX5_init_35 ?_
  refine c_newP C 12 rfl 8 47 hV cf_0 cl_X5_9 df_0 rfl rfl hcl ⟨by simp [rfs], by simp [rfs]⟩ 9 52 ⟨rfl, rfl⟩ ⟨Nat.le_of_ble_eq_true rfl, Nat.le_of_ble_eq_true rfl⟩ dX5_init_36 (fun q12 hV => ?_)
  have hag := ag_up (q := q12) (i := 12) hag (by decide) (by decide)
  have hcl := Cl_nw hcl 12
  refine s_dupr C dX5_init_39 ?_
  refine c_callP C (k' := 12) 9 52 hV li_X5_25 iy_Act_init (by decide) (mct_Act 12 rfl (by decide) _) ⟨rfl, rfl, Nat.le_of_ble_eq_true rfl, Nat.le_of_ble_eq_true rfl⟩ ⟨by simp [rfs], by simp [rfs]⟩ (Nat.le_of_ble_eq_true rfl) 9 52 ⟨rfl, rfl⟩ ⟨Nat.le_of_ble_eq_true rfl, Nat.le_of_ble_eq_true rfl⟩ dX5_init_40 (fun ad hag2 hV => ?_)
  have hag := ag_call hag hag2 (by decide) (by decide)
  clear hag2
  have hcl := hcl
  refine c_aast C hV (kd := 26) (ek := 1) (by decide) 7 (by decide) rfl (by decide) rfl dX5_init_43 ?_
  have hcl := Cl_pR hcl 4 7 (x := 12) (by decide)
  refine s_iincK C (8 : Int32) (L' := [(1, .int (8 : Int32)), (0, .ref 3)]) (by decide) rfl (by decide) rfl dX5_init_44 ?_
  refine s_goto C 25 (by decide) dX5_init_47 ?_
  refine s_iload_n C rfl dX5_init_25 ?_
  refine s_bipush C (12 : Int32) (by decide) dX5_init_26 ?_
  refine s_icmp_geF C (by decide) 50 (by decide) dX5_init_28 ?_
  refine s_aload_n C rfl dX5_init_31 ?_
  refine c_getR C hV fl_X5_11 (fun _ _ _ => rfl) rfl 4 rfl dX5_init_32 ?_
  refine s_iload_n C rfl dX5_init_35 ?_
  refine c_newP C 13 rfl 9 52 hV cf_0 cl_X5_9 df_0 rfl rfl hcl ⟨by simp [rfs], by simp [rfs]⟩ 10 57 ⟨rfl, rfl⟩ ⟨Nat.le_of_ble_eq_true rfl, Nat.le_of_ble_eq_true rfl⟩ dX5_init_36 (fun q13 hV => ?_)
  have hag := ag_up (q := q13) (i := 13) hag (by decide) (by decide)
  have hcl := Cl_nw hcl 13
  refine s_dupr C dX5_init_39 ?_
  refine c_callP C (k' := 13) 10 57 hV li_X5_25 iy_Act_init (by decide) (mct_Act 13 rfl (by decide) _) ⟨rfl, rfl, Nat.le_of_ble_eq_true rfl, Nat.le_of_ble_eq_true rfl⟩ ⟨by simp [rfs], by simp [rfs]⟩ (Nat.le_of_ble_eq_true rfl) 10 57 ⟨rfl, rfl⟩ ⟨Nat.le_of_ble_eq_true rfl, Nat.le_of_ble_eq_true rfl⟩ dX5_init_40 (fun ad hag2 hV => ?_)
  have hag := ag_call hag hag2 (by decide) (by decide)
  clear hag2
  have hcl := hcl
  refine c_aast C hV (kd := 26) (ek := 1) (by decide) 8 (by decide) rfl (by decide) rfl dX5_init_43 ?_
  have hcl := Cl_pR hcl 4 8 (x := 13) (by decide)
  refine s_iincK C (9 : Int32) (L' := [(1, .int (9 : Int32)), (0, .ref 3)]) (by decide) rfl (by decide) rfl dX5_init_44 ?_
  refine s_goto C 25 (by decide) dX5_init_47 ?_
  refine s_iload_n C rfl dX5_init_25 ?_
  refine s_bipush C (12 : Int32) (by decide) dX5_init_26 ?_
  refine s_icmp_geF C (by decide) 50 (by decide) dX5_init_28 ?_
  refine s_aload_n C rfl dX5_init_31 ?_
  refine c_getR C hV fl_X5_11 (fun _ _ _ => rfl) rfl 4 rfl dX5_init_32 ?_
  refine s_iload_n C rfl dX5_init_35 ?_
  refine c_newP C 14 rfl 10 57 hV cf_0 cl_X5_9 df_0 rfl rfl hcl ⟨by simp [rfs], by simp [rfs]⟩ 11 62 ⟨rfl, rfl⟩ ⟨Nat.le_of_ble_eq_true rfl, Nat.le_of_ble_eq_true rfl⟩ dX5_init_36 (fun q14 hV => ?_)
  have hag := ag_up (q := q14) (i := 14) hag (by decide) (by decide)
  have hcl := Cl_nw hcl 14
  refine s_dupr C dX5_init_39 ?_
  refine c_callP C (k' := 14) 11 62 hV li_X5_25 iy_Act_init (by decide) (mct_Act 14 rfl (by decide) _) ⟨rfl, rfl, Nat.le_of_ble_eq_true rfl, Nat.le_of_ble_eq_true rfl⟩ ⟨by simp [rfs], by simp [rfs]⟩ (Nat.le_of_ble_eq_true rfl) 11 62 ⟨rfl, rfl⟩ ⟨Nat.le_of_ble_eq_true rfl, Nat.le_of_ble_eq_true rfl⟩ dX5_init_40 (fun ad hag2 hV => ?_)
  have hag := ag_call hag hag2 (by decide) (by decide)
  clear hag2
  have hcl := hcl
  refine c_aast C hV (kd := 26) (ek := 1) (by decide) 9 (by decide) rfl (by decide) rfl dX5_init_43 ?_
  have hcl := Cl_pR hcl 4 9 (x := 14) (by decide)
  refine s_iincK C (10 : Int32) (L' := [(1, .int (10 : Int32)), (0, .ref 3)]) (by decide) rfl (by decide) rfl dX5_init_44 ?_
  refine s_goto C 25 (by decide) dX5_init_47 ?_
  refine s_iload_n C rfl dX5_init_25 ?_
  refine s_bipush C (12 : Int32) (by decide) dX5_init_26 ?_
  refine s_icmp_geF C (by decide) 50 (by decide) dX5_init_28 ?_
  refine s_aload_n C rfl dX5_init_31 ?_
  refine c_getR C hV fl_X5_11 (fun _ _ _ => rfl) rfl 4 rfl dX5_init_32 ?_
  refine s_iload_n C rfl dX5_init_35 ?_
  refine c_newP C 15 rfl 11 62 hV cf_0 cl_X5_9 df_0 rfl rfl hcl ⟨by simp [rfs], by simp [rfs]⟩ 12 67 ⟨rfl, rfl⟩ ⟨Nat.le_of_ble_eq_true rfl, Nat.le_of_ble_eq_true rfl⟩ dX5_init_36 (fun q15 hV => ?_)
  have hag := ag_up (q := q15) (i := 15) hag (by decide) (by decide)
  have hcl := Cl_nw hcl 15
  refine s_dupr C dX5_init_39 ?_
  refine c_callP C (k' := 15) 12 67 hV li_X5_25 iy_Act_init (by decide) (mct_Act 15 rfl (by decide) _) ⟨rfl, rfl, Nat.le_of_ble_eq_true rfl, Nat.le_of_ble_eq_true rfl⟩ ⟨by simp [rfs], by simp [rfs]⟩ (Nat.le_of_ble_eq_true rfl) 12 67 ⟨rfl, rfl⟩ ⟨Nat.le_of_ble_eq_true rfl, Nat.le_of_ble_eq_true rfl⟩ dX5_init_40 (fun ad hag2 hV => ?_)
  have hag := ag_call hag hag2 (by decide) (by decide)
  clear hag2
  have hcl := hcl
  refine c_aast C hV (kd := 26) (ek := 1) (by decide) 10 (by decide) rfl (by decide) rfl dX5_init_43 ?_
  have hcl := Cl_pR hcl 4 10 (x := 15) (by decide)
  refine s_iincK C (11 : Int32) (L' := [(1, .int (11 : Int32)), (0, .ref 3)]) (by decide) rfl (by decide) rfl dX5_init_44 ?_
  refine s_goto C 25 (by decide) dX5_init_47 ?_
  refine s_iload_n C rfl dX5_init_25 ?_
  refine s_bipush C (12 : Int32) (by decide) dX5_init_26 ?_
  refine s_icmp_geF C (by decide) 50 (by decide) dX5_init_28 ?_
  refine s_aload_n C rfl dX5_init_31 ?_
  refine c_getR C hV fl_X5_11 (fun _ _ _ => rfl) rfl 4 rfl dX5_init_32 ?_
  refine s_iload_n C rfl dX5_init_35 ?_
  refine c_newP C 16 rfl 12 67 hV cf_0 cl_X5_9 df_0 rfl rfl hcl ⟨by simp [rfs], by simp [rfs]⟩ 13 72 ⟨rfl, rfl⟩ ⟨Nat.le_of_ble_eq_true rfl, Nat.le_of_ble_eq_true rfl⟩ dX5_init_36 (fun q16 hV => ?_)
  have hag := ag_up (q := q16) (i := 16) hag (by decide) (by decide)
  have hcl := Cl_nw hcl 16
  refine s_dupr C dX5_init_39 ?_
  refine c_callP C (k' := 16) 13 72 hV li_X5_25 iy_Act_init (by decide) (mct_Act 16 rfl (by decide) _) ⟨rfl, rfl, Nat.le_of_ble_eq_true rfl, Nat.le_of_ble_eq_true rfl⟩ ⟨by simp [rfs], by simp [rfs]⟩ (Nat.le_of_ble_eq_true rfl) 13 72 ⟨rfl, rfl⟩ ⟨Nat.le_of_ble_eq_true rfl, Nat.le_of_ble_eq_true rfl⟩ dX5_init_40 (fun ad hag2 hV => ?_)
  have hag := ag_call hag hag2 (by decide) (by decide)
  clear hag2
  have hcl := hcl
  refine c_aast C hV (kd := 26) (ek := 1) (by decide) 11 (by decide) rfl (by decide) rfl dX5_init_43 ?_
  have hcl := Cl_pR hcl 4 11 (x := 16) (by decide)
  refine s_iincK C (12 : Int32) (L' := [(1, .int (12 : Int32)), (0, .ref 3)]) (by decide) rfl (by decide) rfl dX5_init_44 ?_
  refine s_goto C 25 (by decide) dX5_init_47 ?_
  refine s_iload_n C rfl dX5_init_25 ?_
  refine s_bipush C (12 : Int32) (by decide) dX5_init_26 ?_
  refine s_icmp_geT C (by decide) 50 (by decide) dX5_init_28 ?_
  exact c_ret hR hag hV dX5_init_50
abbrev rc_Rule_init : Room := { frames := 2, cells := 14, slots := 398, locals := 40 }
def ct_Rule_init (d : Dm) : Dm := pRd (ct_Text 30 (nwD (pRd (ct_Text 28 (nwD (pRd (ct_Text 26 (nwD (pRd (ct_Text 24 (nwD (pRd (ct_Text 22 (nwD (pRd (ct_Text 20 (nwD (pRd (nwD (pId (pId (pRd (nwD (d) 18) 17 0 18) 17 1 (0)) 17 2 (0)) 19) 17 3 19) 20)) 18 0 20) 22)) 18 1 22) 24)) 18 2 24) 26)) 18 3 26) 28)) 18 4 28) 30)) 18 5 30
theorem cl_ct_Rule_init {d : Dm} (hcl : Cl d 17) : Cl (ct_Rule_init d) 31 := by
  have hcl := Cl_nw hcl 18
  have hcl := Cl_pR hcl 17 0 (x := 18) (by decide)
  have hcl := Cl_pI hcl 17 1 (0)
  have hcl := Cl_pI hcl 17 2 (0)
  have hcl := Cl_nw hcl 19
  have hcl := Cl_pR hcl 17 3 (x := 19) (by decide)
  have hcl := Cl_nw hcl 20
  have hcl := cl_ct_Text 20 hcl
  have hcl := Cl_pR hcl 18 0 (x := 20) (by decide)
  have hcl := Cl_nw hcl 22
  have hcl := cl_ct_Text 22 hcl
  have hcl := Cl_pR hcl 18 1 (x := 22) (by decide)
  have hcl := Cl_nw hcl 24
  have hcl := cl_ct_Text 24 hcl
  have hcl := Cl_pR hcl 18 2 (x := 24) (by decide)
  have hcl := Cl_nw hcl 26
  have hcl := cl_ct_Text 26 hcl
  have hcl := Cl_pR hcl 18 3 (x := 26) (by decide)
  have hcl := Cl_nw hcl 28
  have hcl := cl_ct_Text 28 hcl
  have hcl := Cl_pR hcl 18 4 (x := 28) (by decide)
  have hcl := Cl_nw hcl 30
  have hcl := cl_ct_Text 30 hcl
  have hcl := Cl_pR hcl 18 5 (x := 30) (by decide)
  exact hcl
set_option maxRecDepth 20000 in
theorem mct_Rule_init (d : Dm) (hcl : Cl d 17) : MC (ZP 17) (ZP 31) yX7_init cX7_init 2 rc_Rule_init 14 398 17 d (ct_Rule_init d) := by
  refine mc_of (by decide +kernel) rfl (by decide) ?_
  intro G ad C hI hV hR
  obtain ⟨ad0, had⟩ : ∃ a0 : Nat → Nat, a0 = ad := ⟨_, rfl⟩
  rw [← had] at hR
  have hag : ∀ i, (i ≤ 17 ∨ 31 < i) → ad i = ad0 i := fun i _ => by rw [had]
  clear had
  refine s_aload_n C rfl dX7_init_0 ?_
  refine c_objI C (by decide) oi_X7_3 ⟨Nat.le_of_ble_eq_true rfl, Nat.le_of_ble_eq_true rfl⟩ dX7_init_1 ?_
  refine s_aload_n C rfl dX7_init_4 ?_
  refine s_bipush C (6 : Int32) (by decide) dX7_init_5 ?_
  refine c_newqP C 18 rfl 0 0 hV 27 6 6 (by simp) cq_X7_9 (by decide) (by decide) (Nat.le_of_ble_eq_true rfl) rfl rfl hcl ⟨by simp [rfs], by simp [rfs]⟩ 1 6 ⟨rfl, rfl⟩ ⟨Nat.le_of_ble_eq_true rfl, Nat.le_of_ble_eq_true rfl⟩ dX7_init_7 (fun q18 hV => ?_)
  have hag := ag_up (q := q18) (i := 18) hag (by decide) (by decide)
  have hcl := Cl_nw hcl 18
  refine c_putR C hI hV ff_X7_11 (fun _ _ _ => rfl) (fun _ => ⟨rfl, rfl⟩) rfl (by decide) dX7_init_10 ?_
  have hcl := Cl_pR hcl 17 0 (x := 18) (by decide)
  refine s_aload_n C rfl dX7_init_13 ?_
  refine s_iconst C (0 : Int32) (by decide) dX7_init_14 ?_
  refine c_putI C hV fw_X7_17 rfl (fun _ _ _ => rfl) rfl (by decide) (by decide) dX7_init_15 ?_
  have hcl := Cl_pI hcl 17 1 (0 : Int32)
  refine s_aload_n C rfl dX7_init_18 ?_
  refine s_iconst C (0 : Int32) (by decide) dX7_init_19 ?_
  refine c_putI C hV fw_X7_21 rfl (fun _ _ _ => rfl) rfl (by decide) (by decide) dX7_init_20 ?_
  have hcl := Cl_pI hcl 17 2 (0 : Int32)
  refine s_aload_n C rfl dX7_init_23 ?_
  refine s_bipush C (8 : Int32) (by decide) dX7_init_24 ?_
  refine c_newaP C 19 rfl 1 6 (at_ := .int) (ty := .int) hV rfl 23 8 2 (by simp) aw_int (by decide) (by decide) (Nat.le_of_ble_eq_true rfl) rfl rfl hcl ⟨by simp [rfs], by simp [rfs]⟩ 2 14 ⟨rfl, rfl⟩ ⟨Nat.le_of_ble_eq_true rfl, Nat.le_of_ble_eq_true rfl⟩ dX7_init_26 (fun q19 hV => ?_)
  have hag := ag_up (q := q19) (i := 19) hag (by decide) (by decide)
  have hcl := Cl_nw hcl 19
  refine c_putR C hI hV ff_X7_24 (fun _ _ _ => rfl) (fun _ => ⟨rfl, rfl⟩) rfl (by decide) dX7_init_28 ?_
  have hcl := Cl_pR hcl 17 3 (x := 19) (by decide)
  refine s_iconst C (0 : Int32) (by decide) dX7_init_31 ?_
  refine s_istore_n C (L' := [(1, .int (0 : Int32)), (0, .ref 17)]) (by decide) rfl dX7_init_32 ?_
  refine s_iload_n C rfl dX7_init_33 ?_
  refine s_bipush C (6 : Int32) (by decide) dX7_init_34 ?_
  refine s_icmp_geF C (by decide) 58 (by decide) dX7_init_36 ?_
  refine s_aload_n C rfl dX7_init_39 ?_
  refine c_getR C hV fl_X7_11 (fun _ _ _ => rfl) rfl 18 rfl dX7_init_40 ?_
  refine s_iload_n C rfl dX7_init_43 ?_
  refine c_newP C 20 rfl 2 14 hV cf_8 cl_X7_9 df_8 rfl rfl hcl ⟨by simp [rfs], by simp [rfs]⟩ 3 18 ⟨rfl, rfl⟩ ⟨Nat.le_of_ble_eq_true rfl, Nat.le_of_ble_eq_true rfl⟩ dX7_init_44 (fun q20 hV => ?_)
  have hag := ag_up (q := q20) (i := 20) hag (by decide) (by decide)
  have hcl := Cl_nw hcl 20
  refine s_dupr C dX7_init_47 ?_
  refine c_callP C (k' := 21) 3 18 hV li_X7_28 iy_Text_init (by decide) (mct_Text 20 rfl rfl rfl (by decide) _ hcl) ⟨rfl, rfl, Nat.le_of_ble_eq_true rfl, Nat.le_of_ble_eq_true rfl⟩ ⟨by simp [rfs], by simp [rfs]⟩ (Nat.le_of_ble_eq_true rfl) 4 78 ⟨rfl, rfl⟩ ⟨Nat.le_of_ble_eq_true rfl, Nat.le_of_ble_eq_true rfl⟩ dX7_init_48 (fun ad hag2 hV => ?_)
  have hag := ag_call hag hag2 (by decide) (by decide)
  clear hag2
  have hcl := cl_ct_Text 20 hcl
  refine c_aast C hV (kd := 27) (ek := 9) (by decide) 0 (by decide) rfl (by decide) rfl dX7_init_51 ?_
  have hcl := Cl_pR hcl 18 0 (x := 20) (by decide)
  refine s_iincK C (1 : Int32) (L' := [(1, .int (1 : Int32)), (0, .ref 17)]) (by decide) rfl (by decide) rfl dX7_init_52 ?_
  refine s_goto C 33 (by decide) dX7_init_55 ?_
  refine s_iload_n C rfl dX7_init_33 ?_
  refine s_bipush C (6 : Int32) (by decide) dX7_init_34 ?_
  refine s_icmp_geF C (by decide) 58 (by decide) dX7_init_36 ?_
  refine s_aload_n C rfl dX7_init_39 ?_
  refine c_getR C hV fl_X7_11 (fun _ _ _ => rfl) rfl 18 rfl dX7_init_40 ?_
  refine s_iload_n C rfl dX7_init_43 ?_
  refine c_newP C 22 rfl 4 78 hV cf_8 cl_X7_9 df_8 rfl rfl hcl ⟨by simp [rfs], by simp [rfs]⟩ 5 82 ⟨rfl, rfl⟩ ⟨Nat.le_of_ble_eq_true rfl, Nat.le_of_ble_eq_true rfl⟩ dX7_init_44 (fun q22 hV => ?_)
  have hag := ag_up (q := q22) (i := 22) hag (by decide) (by decide)
  have hcl := Cl_nw hcl 22
  refine s_dupr C dX7_init_47 ?_
  refine c_callP C (k' := 23) 5 82 hV li_X7_28 iy_Text_init (by decide) (mct_Text 22 rfl rfl rfl (by decide) _ hcl) ⟨rfl, rfl, Nat.le_of_ble_eq_true rfl, Nat.le_of_ble_eq_true rfl⟩ ⟨by simp [rfs], by simp [rfs]⟩ (Nat.le_of_ble_eq_true rfl) 6 142 ⟨rfl, rfl⟩ ⟨Nat.le_of_ble_eq_true rfl, Nat.le_of_ble_eq_true rfl⟩ dX7_init_48 (fun ad hag2 hV => ?_)
  have hag := ag_call hag hag2 (by decide) (by decide)
  clear hag2
  have hcl := cl_ct_Text 22 hcl
  refine c_aast C hV (kd := 27) (ek := 9) (by decide) 1 (by decide) rfl (by decide) rfl dX7_init_51 ?_
  have hcl := Cl_pR hcl 18 1 (x := 22) (by decide)
  refine s_iincK C (2 : Int32) (L' := [(1, .int (2 : Int32)), (0, .ref 17)]) (by decide) rfl (by decide) rfl dX7_init_52 ?_
  refine s_goto C 33 (by decide) dX7_init_55 ?_
  refine s_iload_n C rfl dX7_init_33 ?_
  refine s_bipush C (6 : Int32) (by decide) dX7_init_34 ?_
  refine s_icmp_geF C (by decide) 58 (by decide) dX7_init_36 ?_
  refine s_aload_n C rfl dX7_init_39 ?_
  refine c_getR C hV fl_X7_11 (fun _ _ _ => rfl) rfl 18 rfl dX7_init_40 ?_
  refine s_iload_n C rfl dX7_init_43 ?_
  refine c_newP C 24 rfl 6 142 hV cf_8 cl_X7_9 df_8 rfl rfl hcl ⟨by simp [rfs], by simp [rfs]⟩ 7 146 ⟨rfl, rfl⟩ ⟨Nat.le_of_ble_eq_true rfl, Nat.le_of_ble_eq_true rfl⟩ dX7_init_44 (fun q24 hV => ?_)
  have hag := ag_up (q := q24) (i := 24) hag (by decide) (by decide)
  have hcl := Cl_nw hcl 24
  refine s_dupr C dX7_init_47 ?_
  refine c_callP C (k' := 25) 7 146 hV li_X7_28 iy_Text_init (by decide) (mct_Text 24 rfl rfl rfl (by decide) _ hcl) ⟨rfl, rfl, Nat.le_of_ble_eq_true rfl, Nat.le_of_ble_eq_true rfl⟩ ⟨by simp [rfs], by simp [rfs]⟩ (Nat.le_of_ble_eq_true rfl) 8 206 ⟨rfl, rfl⟩ ⟨Nat.le_of_ble_eq_true rfl, Nat.le_of_ble_eq_true rfl⟩ dX7_init_48 (fun ad hag2 hV => ?_)
  have hag := ag_call hag hag2 (by decide) (by decide)
  clear hag2
  have hcl := cl_ct_Text 24 hcl
  refine c_aast C hV (kd := 27) (ek := 9) (by decide) 2 (by decide) rfl (by decide) rfl dX7_init_51 ?_
  have hcl := Cl_pR hcl 18 2 (x := 24) (by decide)
  refine s_iincK C (3 : Int32) (L' := [(1, .int (3 : Int32)), (0, .ref 17)]) (by decide) rfl (by decide) rfl dX7_init_52 ?_
  refine s_goto C 33 (by decide) dX7_init_55 ?_
  refine s_iload_n C rfl dX7_init_33 ?_
  refine s_bipush C (6 : Int32) (by decide) dX7_init_34 ?_
  refine s_icmp_geF C (by decide) 58 (by decide) dX7_init_36 ?_
  refine s_aload_n C rfl dX7_init_39 ?_
  refine c_getR C hV fl_X7_11 (fun _ _ _ => rfl) rfl 18 rfl dX7_init_40 ?_
  refine s_iload_n C rfl dX7_init_43 ?_
  refine c_newP C 26 rfl 8 206 hV cf_8 cl_X7_9 df_8 rfl rfl hcl ⟨by simp [rfs], by simp [rfs]⟩ 9 210 ⟨rfl, rfl⟩ ⟨Nat.le_of_ble_eq_true rfl, Nat.le_of_ble_eq_true rfl⟩ dX7_init_44 (fun q26 hV => ?_)
  have hag := ag_up (q := q26) (i := 26) hag (by decide) (by decide)
  have hcl := Cl_nw hcl 26
  refine s_dupr C dX7_init_47 ?_
  refine c_callP C (k' := 27) 9 210 hV li_X7_28 iy_Text_init (by decide) (mct_Text 26 rfl rfl rfl (by decide) _ hcl) ⟨rfl, rfl, Nat.le_of_ble_eq_true rfl, Nat.le_of_ble_eq_true rfl⟩ ⟨by simp [rfs], by simp [rfs]⟩ (Nat.le_of_ble_eq_true rfl) 10 270 ⟨rfl, rfl⟩ ⟨Nat.le_of_ble_eq_true rfl, Nat.le_of_ble_eq_true rfl⟩ dX7_init_48 (fun ad hag2 hV => ?_)
  have hag := ag_call hag hag2 (by decide) (by decide)
  clear hag2
  have hcl := cl_ct_Text 26 hcl
  refine c_aast C hV (kd := 27) (ek := 9) (by decide) 3 (by decide) rfl (by decide) rfl dX7_init_51 ?_
  have hcl := Cl_pR hcl 18 3 (x := 26) (by decide)
  refine s_iincK C (4 : Int32) (L' := [(1, .int (4 : Int32)), (0, .ref 17)]) (by decide) rfl (by decide) rfl dX7_init_52 ?_
  refine s_goto C 33 (by decide) dX7_init_55 ?_
  refine s_iload_n C rfl dX7_init_33 ?_
  refine s_bipush C (6 : Int32) (by decide) dX7_init_34 ?_
  refine s_icmp_geF C (by decide) 58 (by decide) dX7_init_36 ?_
  refine s_aload_n C rfl dX7_init_39 ?_
  refine c_getR C hV fl_X7_11 (fun _ _ _ => rfl) rfl 18 rfl dX7_init_40 ?_
  refine s_iload_n C rfl dX7_init_43 ?_
  refine c_newP C 28 rfl 10 270 hV cf_8 cl_X7_9 df_8 rfl rfl hcl ⟨by simp [rfs], by simp [rfs]⟩ 11 274 ⟨rfl, rfl⟩ ⟨Nat.le_of_ble_eq_true rfl, Nat.le_of_ble_eq_true rfl⟩ dX7_init_44 (fun q28 hV => ?_)
  have hag := ag_up (q := q28) (i := 28) hag (by decide) (by decide)
  have hcl := Cl_nw hcl 28
  refine s_dupr C dX7_init_47 ?_
  refine c_callP C (k' := 29) 11 274 hV li_X7_28 iy_Text_init (by decide) (mct_Text 28 rfl rfl rfl (by decide) _ hcl) ⟨rfl, rfl, Nat.le_of_ble_eq_true rfl, Nat.le_of_ble_eq_true rfl⟩ ⟨by simp [rfs], by simp [rfs]⟩ (Nat.le_of_ble_eq_true rfl) 12 334 ⟨rfl, rfl⟩ ⟨Nat.le_of_ble_eq_true rfl, Nat.le_of_ble_eq_true rfl⟩ dX7_init_48 (fun ad hag2 hV => ?_)
  have hag := ag_call hag hag2 (by decide) (by decide)
  clear hag2
  have hcl := cl_ct_Text 28 hcl
  refine c_aast C hV (kd := 27) (ek := 9) (by decide) 4 (by decide) rfl (by decide) rfl dX7_init_51 ?_
  have hcl := Cl_pR hcl 18 4 (x := 28) (by decide)
  refine s_iincK C (5 : Int32) (L' := [(1, .int (5 : Int32)), (0, .ref 17)]) (by decide) rfl (by decide) rfl dX7_init_52 ?_
  refine s_goto C 33 (by decide) dX7_init_55 ?_
  refine s_iload_n C rfl dX7_init_33 ?_
  refine s_bipush C (6 : Int32) (by decide) dX7_init_34 ?_
  refine s_icmp_geF C (by decide) 58 (by decide) dX7_init_36 ?_
  refine s_aload_n C rfl dX7_init_39 ?_
  refine c_getR C hV fl_X7_11 (fun _ _ _ => rfl) rfl 18 rfl dX7_init_40 ?_
  refine s_iload_n C rfl dX7_init_43 ?_
  refine c_newP C 30 rfl 12 334 hV cf_8 cl_X7_9 df_8 rfl rfl hcl ⟨by simp [rfs], by simp [rfs]⟩ 13 338 ⟨rfl, rfl⟩ ⟨Nat.le_of_ble_eq_true rfl, Nat.le_of_ble_eq_true rfl⟩ dX7_init_44 (fun q30 hV => ?_)
  have hag := ag_up (q := q30) (i := 30) hag (by decide) (by decide)
  have hcl := Cl_nw hcl 30
  refine s_dupr C dX7_init_47 ?_
  refine c_callP C (k' := 31) 13 338 hV li_X7_28 iy_Text_init (by decide) (mct_Text 30 rfl rfl rfl (by decide) _ hcl) ⟨rfl, rfl, Nat.le_of_ble_eq_true rfl, Nat.le_of_ble_eq_true rfl⟩ ⟨by simp [rfs], by simp [rfs]⟩ (Nat.le_of_ble_eq_true rfl) 14 398 ⟨rfl, rfl⟩ ⟨Nat.le_of_ble_eq_true rfl, Nat.le_of_ble_eq_true rfl⟩ dX7_init_48 (fun ad hag2 hV => ?_)
  have hag := ag_call hag hag2 (by decide) (by decide)
  clear hag2
  have hcl := cl_ct_Text 30 hcl
  refine c_aast C hV (kd := 27) (ek := 9) (by decide) 5 (by decide) rfl (by decide) rfl dX7_init_51 ?_
  have hcl := Cl_pR hcl 18 5 (x := 30) (by decide)
  refine s_iincK C (6 : Int32) (L' := [(1, .int (6 : Int32)), (0, .ref 17)]) (by decide) rfl (by decide) rfl dX7_init_52 ?_
  refine s_goto C 33 (by decide) dX7_init_55 ?_
  refine s_iload_n C rfl dX7_init_33 ?_
  refine s_bipush C (6 : Int32) (by decide) dX7_init_34 ?_
  refine s_icmp_geT C (by decide) 58 (by decide) dX7_init_36 ?_
  exact c_ret hR hag hV dX7_init_58
abbrev rc_Heal_init : Room := { frames := 2, cells := 18, slots := 528, locals := 40 }
def ct_Heal_init (d : Dm) : Dm := pRd (ct_Text 49 (nwD (pRd (ct_Text 47 (nwD (pRd (ct_Text 45 (nwD (pRd (ct_Text 43 (nwD (pRd (ct_Text 41 (nwD (pRd (ct_Text 39 (nwD (pRd (ct_Text 37 (nwD (pRd (ct_Text 35 (nwD (pRd (nwD (pId (pRd (nwD (d) 33) 32 0 33) 32 1 (0)) 34) 32 2 34) 35)) 33 0 35) 37)) 33 1 37) 39)) 33 2 39) 41)) 33 3 41) 43)) 33 4 43) 45)) 33 5 45) 47)) 33 6 47) 49)) 33 7 49
theorem cl_ct_Heal_init {d : Dm} (hcl : Cl d 32) : Cl (ct_Heal_init d) 50 := by
  have hcl := Cl_nw hcl 33
  have hcl := Cl_pR hcl 32 0 (x := 33) (by decide)
  have hcl := Cl_pI hcl 32 1 (0)
  have hcl := Cl_nw hcl 34
  have hcl := Cl_pR hcl 32 2 (x := 34) (by decide)
  have hcl := Cl_nw hcl 35
  have hcl := cl_ct_Text 35 hcl
  have hcl := Cl_pR hcl 33 0 (x := 35) (by decide)
  have hcl := Cl_nw hcl 37
  have hcl := cl_ct_Text 37 hcl
  have hcl := Cl_pR hcl 33 1 (x := 37) (by decide)
  have hcl := Cl_nw hcl 39
  have hcl := cl_ct_Text 39 hcl
  have hcl := Cl_pR hcl 33 2 (x := 39) (by decide)
  have hcl := Cl_nw hcl 41
  have hcl := cl_ct_Text 41 hcl
  have hcl := Cl_pR hcl 33 3 (x := 41) (by decide)
  have hcl := Cl_nw hcl 43
  have hcl := cl_ct_Text 43 hcl
  have hcl := Cl_pR hcl 33 4 (x := 43) (by decide)
  have hcl := Cl_nw hcl 45
  have hcl := cl_ct_Text 45 hcl
  have hcl := Cl_pR hcl 33 5 (x := 45) (by decide)
  have hcl := Cl_nw hcl 47
  have hcl := cl_ct_Text 47 hcl
  have hcl := Cl_pR hcl 33 6 (x := 47) (by decide)
  have hcl := Cl_nw hcl 49
  have hcl := cl_ct_Text 49 hcl
  have hcl := Cl_pR hcl 33 7 (x := 49) (by decide)
  exact hcl
set_option maxRecDepth 20000 in
theorem mct_Heal_init (d : Dm) (hcl : Cl d 32) : MC (ZP 32) (ZP 50) yX2_init cX2_init 2 rc_Heal_init 18 528 32 d (ct_Heal_init d) := by
  refine mc_of (by decide +kernel) rfl (by decide) ?_
  intro G ad C hI hV hR
  obtain ⟨ad0, had⟩ : ∃ a0 : Nat → Nat, a0 = ad := ⟨_, rfl⟩
  rw [← had] at hR
  have hag : ∀ i, (i ≤ 32 ∨ 50 < i) → ad i = ad0 i := fun i _ => by rw [had]
  clear had
  refine s_aload_n C rfl dX2_init_0 ?_
  refine c_objI C (by decide) oi_X2_3 ⟨Nat.le_of_ble_eq_true rfl, Nat.le_of_ble_eq_true rfl⟩ dX2_init_1 ?_
  refine s_aload_n C rfl dX2_init_4 ?_
  refine s_bipush C (8 : Int32) (by decide) dX2_init_5 ?_
  refine c_newqP C 33 rfl 0 0 hV 27 8 6 (by simp) cq_X2_9 (by decide) (by decide) (Nat.le_of_ble_eq_true rfl) rfl rfl hcl ⟨by simp [rfs], by simp [rfs]⟩ 1 8 ⟨rfl, rfl⟩ ⟨Nat.le_of_ble_eq_true rfl, Nat.le_of_ble_eq_true rfl⟩ dX2_init_7 (fun q33 hV => ?_)
  have hag := ag_up (q := q33) (i := 33) hag (by decide) (by decide)
  have hcl := Cl_nw hcl 33
  refine c_putR C hI hV ff_X2_11 (fun _ _ _ => rfl) (fun _ => ⟨rfl, rfl⟩) rfl (by decide) dX2_init_10 ?_
  have hcl := Cl_pR hcl 32 0 (x := 33) (by decide)
  refine s_aload_n C rfl dX2_init_13 ?_
  refine s_iconst C (0 : Int32) (by decide) dX2_init_14 ?_
  refine c_putI C hV fw_X2_17 rfl (fun _ _ _ => rfl) rfl (by decide) (by decide) dX2_init_15 ?_
  have hcl := Cl_pI hcl 32 1 (0 : Int32)
  refine s_aload_n C rfl dX2_init_18 ?_
  refine s_bipush C (8 : Int32) (by decide) dX2_init_19 ?_
  refine c_newaP C 34 rfl 1 8 (at_ := .int) (ty := .int) hV rfl 23 8 2 (by simp) aw_int (by decide) (by decide) (Nat.le_of_ble_eq_true rfl) rfl rfl hcl ⟨by simp [rfs], by simp [rfs]⟩ 2 16 ⟨rfl, rfl⟩ ⟨Nat.le_of_ble_eq_true rfl, Nat.le_of_ble_eq_true rfl⟩ dX2_init_21 (fun q34 hV => ?_)
  have hag := ag_up (q := q34) (i := 34) hag (by decide) (by decide)
  have hcl := Cl_nw hcl 34
  refine c_putR C hI hV ff_X2_21 (fun _ _ _ => rfl) (fun _ => ⟨rfl, rfl⟩) rfl (by decide) dX2_init_23 ?_
  have hcl := Cl_pR hcl 32 2 (x := 34) (by decide)
  refine s_iconst C (0 : Int32) (by decide) dX2_init_26 ?_
  refine s_istore_n C (L' := [(1, .int (0 : Int32)), (0, .ref 32)]) (by decide) rfl dX2_init_27 ?_
  refine s_iload_n C rfl dX2_init_28 ?_
  refine s_bipush C (8 : Int32) (by decide) dX2_init_29 ?_
  refine s_icmp_geF C (by decide) 53 (by decide) dX2_init_31 ?_
  refine s_aload_n C rfl dX2_init_34 ?_
  refine c_getR C hV fl_X2_11 (fun _ _ _ => rfl) rfl 33 rfl dX2_init_35 ?_
  refine s_iload_n C rfl dX2_init_38 ?_
  refine c_newP C 35 rfl 2 16 hV cf_8 cl_X2_9 df_8 rfl rfl hcl ⟨by simp [rfs], by simp [rfs]⟩ 3 20 ⟨rfl, rfl⟩ ⟨Nat.le_of_ble_eq_true rfl, Nat.le_of_ble_eq_true rfl⟩ dX2_init_39 (fun q35 hV => ?_)
  have hag := ag_up (q := q35) (i := 35) hag (by decide) (by decide)
  have hcl := Cl_nw hcl 35
  refine s_dupr C dX2_init_42 ?_
  refine c_callP C (k' := 36) 3 20 hV li_X2_25 iy_Text_init (by decide) (mct_Text 35 rfl rfl rfl (by decide) _ hcl) ⟨rfl, rfl, Nat.le_of_ble_eq_true rfl, Nat.le_of_ble_eq_true rfl⟩ ⟨by simp [rfs], by simp [rfs]⟩ (Nat.le_of_ble_eq_true rfl) 4 80 ⟨rfl, rfl⟩ ⟨Nat.le_of_ble_eq_true rfl, Nat.le_of_ble_eq_true rfl⟩ dX2_init_43 (fun ad hag2 hV => ?_)
  have hag := ag_call hag hag2 (by decide) (by decide)
  clear hag2
  have hcl := cl_ct_Text 35 hcl
  refine c_aast C hV (kd := 27) (ek := 9) (by decide) 0 (by decide) rfl (by decide) rfl dX2_init_46 ?_
  have hcl := Cl_pR hcl 33 0 (x := 35) (by decide)
  refine s_iincK C (1 : Int32) (L' := [(1, .int (1 : Int32)), (0, .ref 32)]) (by decide) rfl (by decide) rfl dX2_init_47 ?_
  refine s_goto C 28 (by decide) dX2_init_50 ?_
  refine s_iload_n C rfl dX2_init_28 ?_
  refine s_bipush C (8 : Int32) (by decide) dX2_init_29 ?_
  refine s_icmp_geF C (by decide) 53 (by decide) dX2_init_31 ?_
  refine s_aload_n C rfl dX2_init_34 ?_
  refine c_getR C hV fl_X2_11 (fun _ _ _ => rfl) rfl 33 rfl dX2_init_35 ?_
  refine s_iload_n C rfl dX2_init_38 ?_
  refine c_newP C 37 rfl 4 80 hV cf_8 cl_X2_9 df_8 rfl rfl hcl ⟨by simp [rfs], by simp [rfs]⟩ 5 84 ⟨rfl, rfl⟩ ⟨Nat.le_of_ble_eq_true rfl, Nat.le_of_ble_eq_true rfl⟩ dX2_init_39 (fun q37 hV => ?_)
  have hag := ag_up (q := q37) (i := 37) hag (by decide) (by decide)
  have hcl := Cl_nw hcl 37
  refine s_dupr C dX2_init_42 ?_
  refine c_callP C (k' := 38) 5 84 hV li_X2_25 iy_Text_init (by decide) (mct_Text 37 rfl rfl rfl (by decide) _ hcl) ⟨rfl, rfl, Nat.le_of_ble_eq_true rfl, Nat.le_of_ble_eq_true rfl⟩ ⟨by simp [rfs], by simp [rfs]⟩ (Nat.le_of_ble_eq_true rfl) 6 144 ⟨rfl, rfl⟩ ⟨Nat.le_of_ble_eq_true rfl, Nat.le_of_ble_eq_true rfl⟩ dX2_init_43 (fun ad hag2 hV => ?_)
  have hag := ag_call hag hag2 (by decide) (by decide)
  clear hag2
  have hcl := cl_ct_Text 37 hcl
  refine c_aast C hV (kd := 27) (ek := 9) (by decide) 1 (by decide) rfl (by decide) rfl dX2_init_46 ?_
  have hcl := Cl_pR hcl 33 1 (x := 37) (by decide)
  refine s_iincK C (2 : Int32) (L' := [(1, .int (2 : Int32)), (0, .ref 32)]) (by decide) rfl (by decide) rfl dX2_init_47 ?_
  refine s_goto C 28 (by decide) dX2_init_50 ?_
  refine s_iload_n C rfl dX2_init_28 ?_
  refine s_bipush C (8 : Int32) (by decide) dX2_init_29 ?_
  refine s_icmp_geF C (by decide) 53 (by decide) dX2_init_31 ?_
  refine s_aload_n C rfl dX2_init_34 ?_
  refine c_getR C hV fl_X2_11 (fun _ _ _ => rfl) rfl 33 rfl dX2_init_35 ?_
  refine s_iload_n C rfl dX2_init_38 ?_
  refine c_newP C 39 rfl 6 144 hV cf_8 cl_X2_9 df_8 rfl rfl hcl ⟨by simp [rfs], by simp [rfs]⟩ 7 148 ⟨rfl, rfl⟩ ⟨Nat.le_of_ble_eq_true rfl, Nat.le_of_ble_eq_true rfl⟩ dX2_init_39 (fun q39 hV => ?_)
  have hag := ag_up (q := q39) (i := 39) hag (by decide) (by decide)
  have hcl := Cl_nw hcl 39
  refine s_dupr C dX2_init_42 ?_
  refine c_callP C (k' := 40) 7 148 hV li_X2_25 iy_Text_init (by decide) (mct_Text 39 rfl rfl rfl (by decide) _ hcl) ⟨rfl, rfl, Nat.le_of_ble_eq_true rfl, Nat.le_of_ble_eq_true rfl⟩ ⟨by simp [rfs], by simp [rfs]⟩ (Nat.le_of_ble_eq_true rfl) 8 208 ⟨rfl, rfl⟩ ⟨Nat.le_of_ble_eq_true rfl, Nat.le_of_ble_eq_true rfl⟩ dX2_init_43 (fun ad hag2 hV => ?_)
  have hag := ag_call hag hag2 (by decide) (by decide)
  clear hag2
  have hcl := cl_ct_Text 39 hcl
  refine c_aast C hV (kd := 27) (ek := 9) (by decide) 2 (by decide) rfl (by decide) rfl dX2_init_46 ?_
  have hcl := Cl_pR hcl 33 2 (x := 39) (by decide)
  refine s_iincK C (3 : Int32) (L' := [(1, .int (3 : Int32)), (0, .ref 32)]) (by decide) rfl (by decide) rfl dX2_init_47 ?_
  refine s_goto C 28 (by decide) dX2_init_50 ?_
  refine s_iload_n C rfl dX2_init_28 ?_
  refine s_bipush C (8 : Int32) (by decide) dX2_init_29 ?_
  refine s_icmp_geF C (by decide) 53 (by decide) dX2_init_31 ?_
  refine s_aload_n C rfl dX2_init_34 ?_
  refine c_getR C hV fl_X2_11 (fun _ _ _ => rfl) rfl 33 rfl dX2_init_35 ?_
  refine s_iload_n C rfl dX2_init_38 ?_
  refine c_newP C 41 rfl 8 208 hV cf_8 cl_X2_9 df_8 rfl rfl hcl ⟨by simp [rfs], by simp [rfs]⟩ 9 212 ⟨rfl, rfl⟩ ⟨Nat.le_of_ble_eq_true rfl, Nat.le_of_ble_eq_true rfl⟩ dX2_init_39 (fun q41 hV => ?_)
  have hag := ag_up (q := q41) (i := 41) hag (by decide) (by decide)
  have hcl := Cl_nw hcl 41
  refine s_dupr C dX2_init_42 ?_
  refine c_callP C (k' := 42) 9 212 hV li_X2_25 iy_Text_init (by decide) (mct_Text 41 rfl rfl rfl (by decide) _ hcl) ⟨rfl, rfl, Nat.le_of_ble_eq_true rfl, Nat.le_of_ble_eq_true rfl⟩ ⟨by simp [rfs], by simp [rfs]⟩ (Nat.le_of_ble_eq_true rfl) 10 272 ⟨rfl, rfl⟩ ⟨Nat.le_of_ble_eq_true rfl, Nat.le_of_ble_eq_true rfl⟩ dX2_init_43 (fun ad hag2 hV => ?_)
  have hag := ag_call hag hag2 (by decide) (by decide)
  clear hag2
  have hcl := cl_ct_Text 41 hcl
  refine c_aast C hV (kd := 27) (ek := 9) (by decide) 3 (by decide) rfl (by decide) rfl dX2_init_46 ?_
  have hcl := Cl_pR hcl 33 3 (x := 41) (by decide)
  refine s_iincK C (4 : Int32) (L' := [(1, .int (4 : Int32)), (0, .ref 32)]) (by decide) rfl (by decide) rfl dX2_init_47 ?_
  refine s_goto C 28 (by decide) dX2_init_50 ?_
  refine s_iload_n C rfl dX2_init_28 ?_
  refine s_bipush C (8 : Int32) (by decide) dX2_init_29 ?_
  refine s_icmp_geF C (by decide) 53 (by decide) dX2_init_31 ?_
  refine s_aload_n C rfl dX2_init_34 ?_
  refine c_getR C hV fl_X2_11 (fun _ _ _ => rfl) rfl 33 rfl dX2_init_35 ?_
  refine s_iload_n C rfl dX2_init_38 ?_
  refine c_newP C 43 rfl 10 272 hV cf_8 cl_X2_9 df_8 rfl rfl hcl ⟨by simp [rfs], by simp [rfs]⟩ 11 276 ⟨rfl, rfl⟩ ⟨Nat.le_of_ble_eq_true rfl, Nat.le_of_ble_eq_true rfl⟩ dX2_init_39 (fun q43 hV => ?_)
  have hag := ag_up (q := q43) (i := 43) hag (by decide) (by decide)
  have hcl := Cl_nw hcl 43
  refine s_dupr C dX2_init_42 ?_
  refine c_callP C (k' := 44) 11 276 hV li_X2_25 iy_Text_init (by decide) (mct_Text 43 rfl rfl rfl (by decide) _ hcl) ⟨rfl, rfl, Nat.le_of_ble_eq_true rfl, Nat.le_of_ble_eq_true rfl⟩ ⟨by simp [rfs], by simp [rfs]⟩ (Nat.le_of_ble_eq_true rfl) 12 336 ⟨rfl, rfl⟩ ⟨Nat.le_of_ble_eq_true rfl, Nat.le_of_ble_eq_true rfl⟩ dX2_init_43 (fun ad hag2 hV => ?_)
  have hag := ag_call hag hag2 (by decide) (by decide)
  clear hag2
  have hcl := cl_ct_Text 43 hcl
  refine c_aast C hV (kd := 27) (ek := 9) (by decide) 4 (by decide) rfl (by decide) rfl dX2_init_46 ?_
  have hcl := Cl_pR hcl 33 4 (x := 43) (by decide)
  refine s_iincK C (5 : Int32) (L' := [(1, .int (5 : Int32)), (0, .ref 32)]) (by decide) rfl (by decide) rfl dX2_init_47 ?_
  refine s_goto C 28 (by decide) dX2_init_50 ?_
  refine s_iload_n C rfl dX2_init_28 ?_
  refine s_bipush C (8 : Int32) (by decide) dX2_init_29 ?_
  refine s_icmp_geF C (by decide) 53 (by decide) dX2_init_31 ?_
  refine s_aload_n C rfl dX2_init_34 ?_
  refine c_getR C hV fl_X2_11 (fun _ _ _ => rfl) rfl 33 rfl dX2_init_35 ?_
  refine s_iload_n C rfl dX2_init_38 ?_
  refine c_newP C 45 rfl 12 336 hV cf_8 cl_X2_9 df_8 rfl rfl hcl ⟨by simp [rfs], by simp [rfs]⟩ 13 340 ⟨rfl, rfl⟩ ⟨Nat.le_of_ble_eq_true rfl, Nat.le_of_ble_eq_true rfl⟩ dX2_init_39 (fun q45 hV => ?_)
  have hag := ag_up (q := q45) (i := 45) hag (by decide) (by decide)
  have hcl := Cl_nw hcl 45
  refine s_dupr C dX2_init_42 ?_
  refine c_callP C (k' := 46) 13 340 hV li_X2_25 iy_Text_init (by decide) (mct_Text 45 rfl rfl rfl (by decide) _ hcl) ⟨rfl, rfl, Nat.le_of_ble_eq_true rfl, Nat.le_of_ble_eq_true rfl⟩ ⟨by simp [rfs], by simp [rfs]⟩ (Nat.le_of_ble_eq_true rfl) 14 400 ⟨rfl, rfl⟩ ⟨Nat.le_of_ble_eq_true rfl, Nat.le_of_ble_eq_true rfl⟩ dX2_init_43 (fun ad hag2 hV => ?_)
  have hag := ag_call hag hag2 (by decide) (by decide)
  clear hag2
  have hcl := cl_ct_Text 45 hcl
  refine c_aast C hV (kd := 27) (ek := 9) (by decide) 5 (by decide) rfl (by decide) rfl dX2_init_46 ?_
  have hcl := Cl_pR hcl 33 5 (x := 45) (by decide)
  refine s_iincK C (6 : Int32) (L' := [(1, .int (6 : Int32)), (0, .ref 32)]) (by decide) rfl (by decide) rfl dX2_init_47 ?_
  refine s_goto C 28 (by decide) dX2_init_50 ?_
  refine s_iload_n C rfl dX2_init_28 ?_
  refine s_bipush C (8 : Int32) (by decide) dX2_init_29 ?_
  refine s_icmp_geF C (by decide) 53 (by decide) dX2_init_31 ?_
  refine s_aload_n C rfl dX2_init_34 ?_
  refine c_getR C hV fl_X2_11 (fun _ _ _ => rfl) rfl 33 rfl dX2_init_35 ?_
  refine s_iload_n C rfl dX2_init_38 ?_
  refine c_newP C 47 rfl 14 400 hV cf_8 cl_X2_9 df_8 rfl rfl hcl ⟨by simp [rfs], by simp [rfs]⟩ 15 404 ⟨rfl, rfl⟩ ⟨Nat.le_of_ble_eq_true rfl, Nat.le_of_ble_eq_true rfl⟩ dX2_init_39 (fun q47 hV => ?_)
  have hag := ag_up (q := q47) (i := 47) hag (by decide) (by decide)
  have hcl := Cl_nw hcl 47
  refine s_dupr C dX2_init_42 ?_
  refine c_callP C (k' := 48) 15 404 hV li_X2_25 iy_Text_init (by decide) (mct_Text 47 rfl rfl rfl (by decide) _ hcl) ⟨rfl, rfl, Nat.le_of_ble_eq_true rfl, Nat.le_of_ble_eq_true rfl⟩ ⟨by simp [rfs], by simp [rfs]⟩ (Nat.le_of_ble_eq_true rfl) 16 464 ⟨rfl, rfl⟩ ⟨Nat.le_of_ble_eq_true rfl, Nat.le_of_ble_eq_true rfl⟩ dX2_init_43 (fun ad hag2 hV => ?_)
  have hag := ag_call hag hag2 (by decide) (by decide)
  clear hag2
  have hcl := cl_ct_Text 47 hcl
  refine c_aast C hV (kd := 27) (ek := 9) (by decide) 6 (by decide) rfl (by decide) rfl dX2_init_46 ?_
  have hcl := Cl_pR hcl 33 6 (x := 47) (by decide)
  refine s_iincK C (7 : Int32) (L' := [(1, .int (7 : Int32)), (0, .ref 32)]) (by decide) rfl (by decide) rfl dX2_init_47 ?_
  refine s_goto C 28 (by decide) dX2_init_50 ?_
  refine s_iload_n C rfl dX2_init_28 ?_
  refine s_bipush C (8 : Int32) (by decide) dX2_init_29 ?_
  refine s_icmp_geF C (by decide) 53 (by decide) dX2_init_31 ?_
  refine s_aload_n C rfl dX2_init_34 ?_
  refine c_getR C hV fl_X2_11 (fun _ _ _ => rfl) rfl 33 rfl dX2_init_35 ?_
  refine s_iload_n C rfl dX2_init_38 ?_
  refine c_newP C 49 rfl 16 464 hV cf_8 cl_X2_9 df_8 rfl rfl hcl ⟨by simp [rfs], by simp [rfs]⟩ 17 468 ⟨rfl, rfl⟩ ⟨Nat.le_of_ble_eq_true rfl, Nat.le_of_ble_eq_true rfl⟩ dX2_init_39 (fun q49 hV => ?_)
  have hag := ag_up (q := q49) (i := 49) hag (by decide) (by decide)
  have hcl := Cl_nw hcl 49
  refine s_dupr C dX2_init_42 ?_
  refine c_callP C (k' := 50) 17 468 hV li_X2_25 iy_Text_init (by decide) (mct_Text 49 rfl rfl rfl (by decide) _ hcl) ⟨rfl, rfl, Nat.le_of_ble_eq_true rfl, Nat.le_of_ble_eq_true rfl⟩ ⟨by simp [rfs], by simp [rfs]⟩ (Nat.le_of_ble_eq_true rfl) 18 528 ⟨rfl, rfl⟩ ⟨Nat.le_of_ble_eq_true rfl, Nat.le_of_ble_eq_true rfl⟩ dX2_init_43 (fun ad hag2 hV => ?_)
  have hag := ag_call hag hag2 (by decide) (by decide)
  clear hag2
  have hcl := cl_ct_Text 49 hcl
  refine c_aast C hV (kd := 27) (ek := 9) (by decide) 7 (by decide) rfl (by decide) rfl dX2_init_46 ?_
  have hcl := Cl_pR hcl 33 7 (x := 49) (by decide)
  refine s_iincK C (8 : Int32) (L' := [(1, .int (8 : Int32)), (0, .ref 32)]) (by decide) rfl (by decide) rfl dX2_init_47 ?_
  refine s_goto C 28 (by decide) dX2_init_50 ?_
  refine s_iload_n C rfl dX2_init_28 ?_
  refine s_bipush C (8 : Int32) (by decide) dX2_init_29 ?_
  refine s_icmp_geT C (by decide) 53 (by decide) dX2_init_31 ?_
  exact c_ret hR hag hV dX2_init_53
abbrev rc_Verd_init : Room := { frames := 3, cells := 49, slots := 5104, locals := 61 }
def ct_Verd_init (d : Dm) : Dm := pId (pRd (nwD (pRd (ct_Heal_init (nwD (pRd (ct_Rule_init (nwD (pRd (ct_Prog_init (nwD (d) 3)) 2 0 3) 17)) 2 1 17) 32)) 2 2 32) 51) 2 3 51) 2 4 (1)
theorem cl_ct_Verd_init {d : Dm} (hcl : Cl d 2) : Cl (ct_Verd_init d) 51 := by
  have hcl := Cl_nw hcl 3
  have hcl := cl_ct_Prog_init  hcl
  have hcl := Cl_pR hcl 2 0 (x := 3) (by decide)
  have hcl := Cl_nw hcl 17
  have hcl := cl_ct_Rule_init  hcl
  have hcl := Cl_pR hcl 2 1 (x := 17) (by decide)
  have hcl := Cl_nw hcl 32
  have hcl := cl_ct_Heal_init  hcl
  have hcl := Cl_pR hcl 2 2 (x := 32) (by decide)
  have hcl := Cl_nw hcl 51
  have hcl := Cl_pR hcl 2 3 (x := 51) (by decide)
  have hcl := Cl_pI hcl 2 4 (1)
  exact hcl
set_option maxRecDepth 20000 in
theorem mct_Verd_init (d : Dm) (hcl : Cl d 2) : MC (ZP 2) (ZP 51) yX9_init cX9_init 1 rc_Verd_init 49 5104 2 d (ct_Verd_init d) := by
  refine mc_of (by decide +kernel) rfl (by decide) ?_
  intro G ad C hI hV hR
  obtain ⟨ad0, had⟩ : ∃ a0 : Nat → Nat, a0 = ad := ⟨_, rfl⟩
  rw [← had] at hR
  have hag : ∀ i, (i ≤ 2 ∨ 51 < i) → ad i = ad0 i := fun i _ => by rw [had]
  clear had
  refine s_aload_n C rfl dX9_init_0 ?_
  refine c_objI C (by decide) oi_X9_3 ⟨Nat.le_of_ble_eq_true rfl, Nat.le_of_ble_eq_true rfl⟩ dX9_init_1 ?_
  refine s_aload_n C rfl dX9_init_4 ?_
  refine c_newP C 3 rfl 0 0 hV cf_5 cl_X9_9 df_5 rfl rfl hcl ⟨by simp [rfs], by simp [rfs]⟩ 1 3 ⟨rfl, rfl⟩ ⟨Nat.le_of_ble_eq_true rfl, Nat.le_of_ble_eq_true rfl⟩ dX9_init_5 (fun q3 hV => ?_)
  have hag := ag_up (q := q3) (i := 3) hag (by decide) (by decide)
  have hcl := Cl_nw hcl 3
  refine s_dupr C dX9_init_8 ?_
  refine c_callP C (k' := 16) 1 3 hV li_X9_11 iy_Prog_init (by decide) (mct_Prog_init _ hcl) ⟨rfl, rfl, Nat.le_of_ble_eq_true rfl, Nat.le_of_ble_eq_true rfl⟩ ⟨by simp [rfs], by simp [rfs]⟩ (Nat.le_of_ble_eq_true rfl) 14 75 ⟨rfl, rfl⟩ ⟨Nat.le_of_ble_eq_true rfl, Nat.le_of_ble_eq_true rfl⟩ dX9_init_9 (fun ad hag2 hV => ?_)
  have hag := ag_call hag hag2 (by decide) (by decide)
  clear hag2
  have hcl := cl_ct_Prog_init hcl
  refine c_putR C hI hV ff_X9_12 (fun _ _ _ => rfl) (fun _ => ⟨rfl, rfl⟩) rfl (by decide) dX9_init_12 ?_
  have hcl := Cl_pR hcl 2 0 (x := 3) (by decide)
  refine s_aload_n C rfl dX9_init_15 ?_
  refine c_newP C 17 rfl 14 75 hV cf_7 cl_X9_18 df_7 rfl rfl hcl ⟨by simp [rfs], by simp [rfs]⟩ 15 79 ⟨rfl, rfl⟩ ⟨Nat.le_of_ble_eq_true rfl, Nat.le_of_ble_eq_true rfl⟩ dX9_init_16 (fun q17 hV => ?_)
  have hag := ag_up (q := q17) (i := 17) hag (by decide) (by decide)
  have hcl := Cl_nw hcl 17
  refine s_dupr C dX9_init_19 ?_
  refine c_callP C (k' := 31) 15 79 hV li_X9_20 iy_Rule_init (by decide) (mct_Rule_init _ hcl) ⟨rfl, rfl, Nat.le_of_ble_eq_true rfl, Nat.le_of_ble_eq_true rfl⟩ ⟨by simp [rfs], by simp [rfs]⟩ (Nat.le_of_ble_eq_true rfl) 29 477 ⟨rfl, rfl⟩ ⟨Nat.le_of_ble_eq_true rfl, Nat.le_of_ble_eq_true rfl⟩ dX9_init_20 (fun ad hag2 hV => ?_)
  have hag := ag_call hag hag2 (by decide) (by decide)
  clear hag2
  have hcl := cl_ct_Rule_init hcl
  refine c_putR C hI hV ff_X9_21 (fun _ _ _ => rfl) (fun _ => ⟨rfl, rfl⟩) rfl (by decide) dX9_init_23 ?_
  have hcl := Cl_pR hcl 2 1 (x := 17) (by decide)
  refine s_aload_n C rfl dX9_init_26 ?_
  refine c_newP C 32 rfl 29 477 hV cf_2 cl_X9_25 df_2 rfl rfl hcl ⟨by simp [rfs], by simp [rfs]⟩ 30 480 ⟨rfl, rfl⟩ ⟨Nat.le_of_ble_eq_true rfl, Nat.le_of_ble_eq_true rfl⟩ dX9_init_27 (fun q32 hV => ?_)
  have hag := ag_up (q := q32) (i := 32) hag (by decide) (by decide)
  have hcl := Cl_nw hcl 32
  refine s_dupr C dX9_init_30 ?_
  refine c_callP C (k' := 50) 30 480 hV li_X9_27 iy_Heal_init (by decide) (mct_Heal_init _ hcl) ⟨rfl, rfl, Nat.le_of_ble_eq_true rfl, Nat.le_of_ble_eq_true rfl⟩ ⟨by simp [rfs], by simp [rfs]⟩ (Nat.le_of_ble_eq_true rfl) 48 1008 ⟨rfl, rfl⟩ ⟨Nat.le_of_ble_eq_true rfl, Nat.le_of_ble_eq_true rfl⟩ dX9_init_31 (fun ad hag2 hV => ?_)
  have hag := ag_call hag hag2 (by decide) (by decide)
  clear hag2
  have hcl := cl_ct_Heal_init hcl
  refine c_putR C hI hV ff_X9_28 (fun _ _ _ => rfl) (fun _ => ⟨rfl, rfl⟩) rfl (by decide) dX9_init_34 ?_
  have hcl := Cl_pR hcl 2 2 (x := 32) (by decide)
  refine s_aload_n C rfl dX9_init_37 ?_
  refine s_sipush C (4096 : Int32) (by decide) dX9_init_38 ?_
  refine c_newaP C 51 rfl 48 1008 (at_ := .int) (ty := .int) hV rfl 23 4096 2 (by simp) aw_int (by decide) (by decide) (Nat.le_of_ble_eq_true rfl) rfl rfl hcl ⟨by simp [rfs], by simp [rfs]⟩ 49 5104 ⟨rfl, rfl⟩ ⟨Nat.le_of_ble_eq_true rfl, Nat.le_of_ble_eq_true rfl⟩ dX9_init_41 (fun q51 hV => ?_)
  have hag := ag_up (q := q51) (i := 51) hag (by decide) (by decide)
  have hcl := Cl_nw hcl 51
  refine c_putR C hI hV ff_X9_32 (fun _ _ _ => rfl) (fun _ => ⟨rfl, rfl⟩) rfl (by decide) dX9_init_43 ?_
  have hcl := Cl_pR hcl 2 3 (x := 51) (by decide)
  refine s_aload_n C rfl dX9_init_46 ?_
  refine s_iconst C (1 : Int32) (by decide) dX9_init_47 ?_
  refine c_putI C hV fw_X9_36 rfl (fun _ _ _ => rfl) rfl (by decide) (by decide) dX9_init_48 ?_
  have hcl := Cl_pI hcl 2 4 (1 : Int32)
  exact c_ret hR hag hV dX9_init_51
abbrev rc_Page_init : Room := { frames := 1, cells := 1, slots := 60, locals := 20 }
def ct_Page_init (d : Dm) : Dm := pId (pRd (nwD (d) 53) 52 0 53) 52 1 (0)
theorem cl_ct_Page_init {d : Dm} (hcl : Cl d 52) : Cl (ct_Page_init d) 53 := by
  have hcl := Cl_nw hcl 53
  have hcl := Cl_pR hcl 52 0 (x := 53) (by decide)
  have hcl := Cl_pI hcl 52 1 (0)
  exact hcl
set_option maxRecDepth 20000 in
theorem mct_Page_init (d : Dm) (hcl : Cl d 52) : MC (ZP 52) (ZP 53) yX3_init cX3_init 1 rc_Page_init 1 60 52 d (ct_Page_init d) := by
  refine mc_of (by decide +kernel) rfl (by decide) ?_
  intro G ad C hI hV hR
  obtain ⟨ad0, had⟩ : ∃ a0 : Nat → Nat, a0 = ad := ⟨_, rfl⟩
  rw [← had] at hR
  have hag : ∀ i, (i ≤ 52 ∨ 53 < i) → ad i = ad0 i := fun i _ => by rw [had]
  clear had
  refine s_aload_n C rfl dX3_init_0 ?_
  refine c_objI C (by decide) oi_X3_3 ⟨Nat.le_of_ble_eq_true rfl, Nat.le_of_ble_eq_true rfl⟩ dX3_init_1 ?_
  refine s_aload_n C rfl dX3_init_4 ?_
  refine s_bipush C (60 : Int32) (by decide) dX3_init_5 ?_
  refine c_newaP C 53 rfl 0 0 (at_ := .char) (ty := .char) hV rfl 22 60 1 (by simp) aw_char (by decide) (by decide) (Nat.le_of_ble_eq_true rfl) rfl rfl hcl ⟨by simp [rfs], by simp [rfs]⟩ 1 60 ⟨rfl, rfl⟩ ⟨Nat.le_of_ble_eq_true rfl, Nat.le_of_ble_eq_true rfl⟩ dX3_init_7 (fun q53 hV => ?_)
  have hag := ag_up (q := q53) (i := 53) hag (by decide) (by decide)
  have hcl := Cl_nw hcl 53
  refine c_putR C hI hV ff_X3_9 (fun _ _ _ => rfl) (fun _ => ⟨rfl, rfl⟩) rfl (by decide) dX3_init_9 ?_
  have hcl := Cl_pR hcl 52 0 (x := 53) (by decide)
  refine s_aload_n C rfl dX3_init_12 ?_
  refine s_iconst C (0 : Int32) (by decide) dX3_init_13 ?_
  refine c_putI C hV fw_X3_15 rfl (fun _ _ _ => rfl) rfl (by decide) (by decide) dX3_init_14 ?_
  have hcl := Cl_pI hcl 52 1 (0 : Int32)
  exact c_ret hR hag hV dX3_init_17
abbrev rc_Read_init : Room := { frames := 2, cells := 3, slots := 124, locals := 40 }
def ct_Read_init (d : Dm) : Dm := pId (pId (pId (pId (pId (pId (pId (pRd (nwD (pRd (ct_Text 55 (nwD (d) 55)) 54 0 55) 57) 54 1 57) 54 2 (0)) 54 3 (0)) 54 4 (0)) 54 5 (0)) 54 6 (61)) 54 7 (0)) 54 8 (0)
theorem cl_ct_Read_init {d : Dm} (hcl : Cl d 54) : Cl (ct_Read_init d) 57 := by
  have hcl := Cl_nw hcl 55
  have hcl := cl_ct_Text 55 hcl
  have hcl := Cl_pR hcl 54 0 (x := 55) (by decide)
  have hcl := Cl_nw hcl 57
  have hcl := Cl_pR hcl 54 1 (x := 57) (by decide)
  have hcl := Cl_pI hcl 54 2 (0)
  have hcl := Cl_pI hcl 54 3 (0)
  have hcl := Cl_pI hcl 54 4 (0)
  have hcl := Cl_pI hcl 54 5 (0)
  have hcl := Cl_pI hcl 54 6 (61)
  have hcl := Cl_pI hcl 54 7 (0)
  have hcl := Cl_pI hcl 54 8 (0)
  exact hcl
set_option maxRecDepth 20000 in
theorem mct_Read_init (d : Dm) (hcl : Cl d 54) : MC (ZP 54) (ZP 57) yX6_init cX6_init 1 rc_Read_init 3 124 54 d (ct_Read_init d) := by
  refine mc_of (by decide +kernel) rfl (by decide) ?_
  intro G ad C hI hV hR
  obtain ⟨ad0, had⟩ : ∃ a0 : Nat → Nat, a0 = ad := ⟨_, rfl⟩
  rw [← had] at hR
  have hag : ∀ i, (i ≤ 54 ∨ 57 < i) → ad i = ad0 i := fun i _ => by rw [had]
  clear had
  refine s_aload_n C rfl dX6_init_0 ?_
  refine c_objI C (by decide) oi_X6_3 ⟨Nat.le_of_ble_eq_true rfl, Nat.le_of_ble_eq_true rfl⟩ dX6_init_1 ?_
  refine s_aload_n C rfl dX6_init_4 ?_
  refine c_newP C 55 rfl 0 0 hV cf_8 cl_X6_9 df_8 rfl rfl hcl ⟨by simp [rfs], by simp [rfs]⟩ 1 4 ⟨rfl, rfl⟩ ⟨Nat.le_of_ble_eq_true rfl, Nat.le_of_ble_eq_true rfl⟩ dX6_init_5 (fun q55 hV => ?_)
  have hag := ag_up (q := q55) (i := 55) hag (by decide) (by decide)
  have hcl := Cl_nw hcl 55
  refine s_dupr C dX6_init_8 ?_
  refine c_callP C (k' := 56) 1 4 hV li_X6_11 iy_Text_init (by decide) (mct_Text 55 rfl rfl rfl (by decide) _ hcl) ⟨rfl, rfl, Nat.le_of_ble_eq_true rfl, Nat.le_of_ble_eq_true rfl⟩ ⟨by simp [rfs], by simp [rfs]⟩ (Nat.le_of_ble_eq_true rfl) 2 64 ⟨rfl, rfl⟩ ⟨Nat.le_of_ble_eq_true rfl, Nat.le_of_ble_eq_true rfl⟩ dX6_init_9 (fun ad hag2 hV => ?_)
  have hag := ag_call hag hag2 (by decide) (by decide)
  clear hag2
  have hcl := cl_ct_Text 55 hcl
  refine c_putR C hI hV ff_X6_12 (fun _ _ _ => rfl) (fun _ => ⟨rfl, rfl⟩) rfl (by decide) dX6_init_12 ?_
  have hcl := Cl_pR hcl 54 0 (x := 55) (by decide)
  refine s_aload_n C rfl dX6_init_15 ?_
  refine s_bipush C (60 : Int32) (by decide) dX6_init_16 ?_
  refine c_newaP C 57 rfl 2 64 (at_ := .char) (ty := .char) hV rfl 22 60 1 (by simp) aw_char (by decide) (by decide) (Nat.le_of_ble_eq_true rfl) rfl rfl hcl ⟨by simp [rfs], by simp [rfs]⟩ 3 124 ⟨rfl, rfl⟩ ⟨Nat.le_of_ble_eq_true rfl, Nat.le_of_ble_eq_true rfl⟩ dX6_init_18 (fun q57 hV => ?_)
  have hag := ag_up (q := q57) (i := 57) hag (by decide) (by decide)
  have hcl := Cl_nw hcl 57
  refine c_putR C hI hV ff_X6_18 (fun _ _ _ => rfl) (fun _ => ⟨rfl, rfl⟩) rfl (by decide) dX6_init_20 ?_
  have hcl := Cl_pR hcl 54 1 (x := 57) (by decide)
  refine s_aload_n C rfl dX6_init_23 ?_
  refine s_iconst C (0 : Int32) (by decide) dX6_init_24 ?_
  refine c_putI C hV fw_X6_22 rfl (fun _ _ _ => rfl) rfl (by decide) (by decide) dX6_init_25 ?_
  have hcl := Cl_pI hcl 54 2 (0 : Int32)
  refine s_aload_n C rfl dX6_init_28 ?_
  refine s_iconst C (0 : Int32) (by decide) dX6_init_29 ?_
  refine c_putI C hV fw_X6_26 rfl (fun _ _ _ => rfl) rfl (by decide) (by decide) dX6_init_30 ?_
  have hcl := Cl_pI hcl 54 3 (0 : Int32)
  refine s_aload_n C rfl dX6_init_33 ?_
  refine s_iconst C (0 : Int32) (by decide) dX6_init_34 ?_
  refine c_putI C hV fw_X6_29 rfl (fun _ _ _ => rfl) rfl (by decide) (by decide) dX6_init_35 ?_
  have hcl := Cl_pI hcl 54 4 (0 : Int32)
  refine s_aload_n C rfl dX6_init_38 ?_
  refine s_iconst C (0 : Int32) (by decide) dX6_init_39 ?_
  refine c_putI C hV fw_X6_32 rfl (fun _ _ _ => rfl) rfl (by decide) (by decide) dX6_init_40 ?_
  have hcl := Cl_pI hcl 54 5 (0 : Int32)
  refine s_aload_n C rfl dX6_init_43 ?_
  refine s_bipush C (61 : Int32) (by decide) dX6_init_44 ?_
  refine c_putI C hV fw_X6_35 rfl (fun _ _ _ => rfl) rfl (by decide) (by decide) dX6_init_46 ?_
  have hcl := Cl_pI hcl 54 6 (61 : Int32)
  refine s_aload_n C rfl dX6_init_49 ?_
  refine s_iconst C (0 : Int32) (by decide) dX6_init_50 ?_
  refine c_putI C hV fw_X6_39 rfl (fun _ _ _ => rfl) rfl (by decide) (by decide) dX6_init_51 ?_
  have hcl := Cl_pI hcl 54 7 (0 : Int32)
  refine s_aload_n C rfl dX6_init_54 ?_
  refine s_iconst C (0 : Int32) (by decide) dX6_init_55 ?_
  refine c_putI C hV fw_X6_43 rfl (fun _ _ _ => rfl) rfl (by decide) (by decide) dX6_init_56 ?_
  have hcl := Cl_pI hcl 54 8 (0 : Int32)
  exact c_ret hR hag hV dX6_init_59
abbrev rc_Found_init : Room := { frames := 1, cells := 2, slots := 8192, locals := 20 }
def ct_Found_init (d : Dm) : Dm := pId (pId (pRd (nwD (pRd (nwD (d) 59) 58 0 59) 60) 58 1 60) 58 2 (0)) 58 3 (-1)
theorem cl_ct_Found_init {d : Dm} (hcl : Cl d 58) : Cl (ct_Found_init d) 60 := by
  have hcl := Cl_nw hcl 59
  have hcl := Cl_pR hcl 58 0 (x := 59) (by decide)
  have hcl := Cl_nw hcl 60
  have hcl := Cl_pR hcl 58 1 (x := 60) (by decide)
  have hcl := Cl_pI hcl 58 2 (0)
  have hcl := Cl_pI hcl 58 3 (-1)
  exact hcl
set_option maxRecDepth 20000 in
theorem mct_Found_init (d : Dm) (hcl : Cl d 58) : MC (ZP 58) (ZP 60) yX1_init cX1_init 1 rc_Found_init 2 8192 58 d (ct_Found_init d) := by
  refine mc_of (by decide +kernel) rfl (by decide) ?_
  intro G ad C hI hV hR
  obtain ⟨ad0, had⟩ : ∃ a0 : Nat → Nat, a0 = ad := ⟨_, rfl⟩
  rw [← had] at hR
  have hag : ∀ i, (i ≤ 58 ∨ 60 < i) → ad i = ad0 i := fun i _ => by rw [had]
  clear had
  refine s_aload_n C rfl dX1_init_0 ?_
  refine c_objI C (by decide) oi_X1_3 ⟨Nat.le_of_ble_eq_true rfl, Nat.le_of_ble_eq_true rfl⟩ dX1_init_1 ?_
  refine s_aload_n C rfl dX1_init_4 ?_
  refine s_sipush C (4096 : Int32) (by decide) dX1_init_5 ?_
  refine c_newaP C 59 rfl 0 0 (at_ := .long) (ty := .long) hV rfl 24 4096 3 (by simp) aw_long (by decide) (by decide) (Nat.le_of_ble_eq_true rfl) rfl rfl hcl ⟨by simp [rfs], by simp [rfs]⟩ 1 4096 ⟨rfl, rfl⟩ ⟨Nat.le_of_ble_eq_true rfl, Nat.le_of_ble_eq_true rfl⟩ dX1_init_8 (fun q59 hV => ?_)
  have hag := ag_up (q := q59) (i := 59) hag (by decide) (by decide)
  have hcl := Cl_nw hcl 59
  refine c_putR C hI hV ff_X1_9 (fun _ _ _ => rfl) (fun _ => ⟨rfl, rfl⟩) rfl (by decide) dX1_init_10 ?_
  have hcl := Cl_pR hcl 58 0 (x := 59) (by decide)
  refine s_aload_n C rfl dX1_init_13 ?_
  refine s_sipush C (4096 : Int32) (by decide) dX1_init_14 ?_
  refine c_newaP C 60 rfl 1 4096 (at_ := .int) (ty := .int) hV rfl 23 4096 2 (by simp) aw_int (by decide) (by decide) (Nat.le_of_ble_eq_true rfl) rfl rfl hcl ⟨by simp [rfs], by simp [rfs]⟩ 2 8192 ⟨rfl, rfl⟩ ⟨Nat.le_of_ble_eq_true rfl, Nat.le_of_ble_eq_true rfl⟩ dX1_init_17 (fun q60 hV => ?_)
  have hag := ag_up (q := q60) (i := 60) hag (by decide) (by decide)
  have hcl := Cl_nw hcl 60
  refine c_putR C hI hV ff_X1_15 (fun _ _ _ => rfl) (fun _ => ⟨rfl, rfl⟩) rfl (by decide) dX1_init_19 ?_
  have hcl := Cl_pR hcl 58 1 (x := 60) (by decide)
  refine s_aload_n C rfl dX1_init_22 ?_
  refine s_iconst C (0 : Int32) (by decide) dX1_init_23 ?_
  refine c_putI C hV fw_X1_19 rfl (fun _ _ _ => rfl) rfl (by decide) (by decide) dX1_init_24 ?_
  have hcl := Cl_pI hcl 58 2 (0 : Int32)
  refine s_aload_n C rfl dX1_init_27 ?_
  refine s_iconst C ((-1) : Int32) (by decide) dX1_init_28 ?_
  refine c_putI C hV fw_X1_23 rfl (fun _ _ _ => rfl) rfl (by decide) (by decide) dX1_init_29 ?_
  have hcl := Cl_pI hcl 58 3 ((-1) : Int32)
  exact c_ret hR hag hV dX1_init_32
abbrev rc_Plac_init : Room := { frames := 1, cells := 3, slots := 97, locals := 20 }
def ct_Plac_init (d : Dm) : Dm := pId (pId (pId (pRd (nwD (pRd (nwD (pRd (nwD (d) 62) 61 0 62) 63) 61 1 63) 64) 61 2 64) 61 3 (0)) 61 4 (-1)) 61 5 (-1)
theorem cl_ct_Plac_init {d : Dm} (hcl : Cl d 61) : Cl (ct_Plac_init d) 64 := by
  have hcl := Cl_nw hcl 62
  have hcl := Cl_pR hcl 61 0 (x := 62) (by decide)
  have hcl := Cl_nw hcl 63
  have hcl := Cl_pR hcl 61 1 (x := 63) (by decide)
  have hcl := Cl_nw hcl 64
  have hcl := Cl_pR hcl 61 2 (x := 64) (by decide)
  have hcl := Cl_pI hcl 61 3 (0)
  have hcl := Cl_pI hcl 61 4 (-1)
  have hcl := Cl_pI hcl 61 5 (-1)
  exact hcl
set_option maxRecDepth 20000 in
theorem mct_Plac_init (d : Dm) (hcl : Cl d 61) : MC (ZP 61) (ZP 64) yX4_init cX4_init 1 rc_Plac_init 3 97 61 d (ct_Plac_init d) := by
  refine mc_of (by decide +kernel) rfl (by decide) ?_
  intro G ad C hI hV hR
  obtain ⟨ad0, had⟩ : ∃ a0 : Nat → Nat, a0 = ad := ⟨_, rfl⟩
  rw [← had] at hR
  have hag : ∀ i, (i ≤ 61 ∨ 64 < i) → ad i = ad0 i := fun i _ => by rw [had]
  clear had
  refine s_aload_n C rfl dX4_init_0 ?_
  refine c_objI C (by decide) oi_X4_3 ⟨Nat.le_of_ble_eq_true rfl, Nat.le_of_ble_eq_true rfl⟩ dX4_init_1 ?_
  refine s_aload_n C rfl dX4_init_4 ?_
  refine s_bipush C (81 : Int32) (by decide) dX4_init_5 ?_
  refine c_newaP C 62 rfl 0 0 (at_ := .int) (ty := .int) hV rfl 23 81 2 (by simp) aw_int (by decide) (by decide) (Nat.le_of_ble_eq_true rfl) rfl rfl hcl ⟨by simp [rfs], by simp [rfs]⟩ 1 81 ⟨rfl, rfl⟩ ⟨Nat.le_of_ble_eq_true rfl, Nat.le_of_ble_eq_true rfl⟩ dX4_init_7 (fun q62 hV => ?_)
  have hag := ag_up (q := q62) (i := 62) hag (by decide) (by decide)
  have hcl := Cl_nw hcl 62
  refine c_putR C hI hV ff_X4_11 (fun _ _ _ => rfl) (fun _ => ⟨rfl, rfl⟩) rfl (by decide) dX4_init_9 ?_
  have hcl := Cl_pR hcl 61 0 (x := 62) (by decide)
  refine s_aload_n C rfl dX4_init_12 ?_
  refine s_bipush C (8 : Int32) (by decide) dX4_init_13 ?_
  refine c_newaP C 63 rfl 1 81 (at_ := .int) (ty := .int) hV rfl 23 8 2 (by simp) aw_int (by decide) (by decide) (Nat.le_of_ble_eq_true rfl) rfl rfl hcl ⟨by simp [rfs], by simp [rfs]⟩ 2 89 ⟨rfl, rfl⟩ ⟨Nat.le_of_ble_eq_true rfl, Nat.le_of_ble_eq_true rfl⟩ dX4_init_15 (fun q63 hV => ?_)
  have hag := ag_up (q := q63) (i := 63) hag (by decide) (by decide)
  have hcl := Cl_nw hcl 63
  refine c_putR C hI hV ff_X4_15 (fun _ _ _ => rfl) (fun _ => ⟨rfl, rfl⟩) rfl (by decide) dX4_init_17 ?_
  have hcl := Cl_pR hcl 61 1 (x := 63) (by decide)
  refine s_aload_n C rfl dX4_init_20 ?_
  refine s_bipush C (8 : Int32) (by decide) dX4_init_21 ?_
  refine c_newaP C 64 rfl 2 89 (at_ := .int) (ty := .int) hV rfl 23 8 2 (by simp) aw_int (by decide) (by decide) (Nat.le_of_ble_eq_true rfl) rfl rfl hcl ⟨by simp [rfs], by simp [rfs]⟩ 3 97 ⟨rfl, rfl⟩ ⟨Nat.le_of_ble_eq_true rfl, Nat.le_of_ble_eq_true rfl⟩ dX4_init_23 (fun q64 hV => ?_)
  have hag := ag_up (q := q64) (i := 64) hag (by decide) (by decide)
  have hcl := Cl_nw hcl 64
  refine c_putR C hI hV ff_X4_18 (fun _ _ _ => rfl) (fun _ => ⟨rfl, rfl⟩) rfl (by decide) dX4_init_25 ?_
  have hcl := Cl_pR hcl 61 2 (x := 64) (by decide)
  refine s_aload_n C rfl dX4_init_28 ?_
  refine s_iconst C (0 : Int32) (by decide) dX4_init_29 ?_
  refine c_putI C hV fw_X4_21 rfl (fun _ _ _ => rfl) rfl (by decide) (by decide) dX4_init_30 ?_
  have hcl := Cl_pI hcl 61 3 (0 : Int32)
  refine s_aload_n C rfl dX4_init_33 ?_
  refine s_iconst C ((-1) : Int32) (by decide) dX4_init_34 ?_
  refine c_putI C hV fw_X4_25 rfl (fun _ _ _ => rfl) rfl (by decide) (by decide) dX4_init_35 ?_
  have hcl := Cl_pI hcl 61 4 ((-1) : Int32)
  refine s_aload_n C rfl dX4_init_38 ?_
  refine s_iconst C ((-1) : Int32) (by decide) dX4_init_39 ?_
  refine c_putI C hV fw_X4_28 rfl (fun _ _ _ => rfl) rfl (by decide) (by decide) dX4_init_40 ?_
  have hcl := Cl_pI hcl 61 5 ((-1) : Int32)
  exact c_ret hR hag hV dX4_init_43
abbrev rc_Main_init : Room := { frames := 4, cells := 63, slots := 13603, locals := 81 }
def ct_Main_init (d : Dm) : Dm := pId (pId (pId (pRd (ct_Plac_init (nwD (pRd (ct_Found_init (nwD (pRd (ct_Read_init (nwD (pRd (ct_Page_init (nwD (pRd (pRd (pRd (pRd (ct_Verd_init (nwD (d) 2)) 1 0 2) 1 1 3) 1 2 17) 1 3 32) 52)) 1 4 52) 54)) 1 5 54) 58)) 1 6 58) 61)) 1 7 61) 1 8 (1)) 1 9 (5)) 1 10 (0)
theorem cl_ct_Main_init {d : Dm} (hcl : Cl d 1) : Cl (ct_Main_init d) 64 := by
  have hcl := Cl_nw hcl 2
  have hcl := cl_ct_Verd_init  hcl
  have hcl := Cl_pR hcl 1 0 (x := 2) (by decide)
  have hcl := Cl_pR hcl 1 1 (x := 3) (by decide)
  have hcl := Cl_pR hcl 1 2 (x := 17) (by decide)
  have hcl := Cl_pR hcl 1 3 (x := 32) (by decide)
  have hcl := Cl_nw hcl 52
  have hcl := cl_ct_Page_init  hcl
  have hcl := Cl_pR hcl 1 4 (x := 52) (by decide)
  have hcl := Cl_nw hcl 54
  have hcl := cl_ct_Read_init  hcl
  have hcl := Cl_pR hcl 1 5 (x := 54) (by decide)
  have hcl := Cl_nw hcl 58
  have hcl := cl_ct_Found_init  hcl
  have hcl := Cl_pR hcl 1 6 (x := 58) (by decide)
  have hcl := Cl_nw hcl 61
  have hcl := cl_ct_Plac_init  hcl
  have hcl := Cl_pR hcl 1 7 (x := 61) (by decide)
  have hcl := Cl_pI hcl 1 8 (1)
  have hcl := Cl_pI hcl 1 9 (5)
  have hcl := Cl_pI hcl 1 10 (0)
  exact hcl
set_option maxRecDepth 20000 in
theorem mct_Main_init (d : Dm) (hcl : Cl d 1) : MC (ZP 1) (ZP 64) yX10_init cX10_init 1 rc_Main_init 63 13603 1 d (ct_Main_init d) := by
  refine mc_of (by decide +kernel) rfl (by decide) ?_
  intro G ad C hI hV hR
  obtain ⟨ad0, had⟩ : ∃ a0 : Nat → Nat, a0 = ad := ⟨_, rfl⟩
  rw [← had] at hR
  have hag : ∀ i, (i ≤ 1 ∨ 64 < i) → ad i = ad0 i := fun i _ => by rw [had]
  clear had
  refine s_aload_n C rfl dX10_init_0 ?_
  refine c_objI C (by decide) oi_X10_3 ⟨Nat.le_of_ble_eq_true rfl, Nat.le_of_ble_eq_true rfl⟩ dX10_init_1 ?_
  refine s_aload_n C rfl dX10_init_4 ?_
  refine c_newP C 2 rfl 0 0 hV cf_9 cl_X10_9 df_9 rfl rfl hcl ⟨by simp [rfs], by simp [rfs]⟩ 1 5 ⟨rfl, rfl⟩ ⟨Nat.le_of_ble_eq_true rfl, Nat.le_of_ble_eq_true rfl⟩ dX10_init_5 (fun q2 hV => ?_)
  have hag := ag_up (q := q2) (i := 2) hag (by decide) (by decide)
  have hcl := Cl_nw hcl 2
  refine s_dupr C dX10_init_8 ?_
  refine c_callP C (k' := 51) 1 5 hV li_X10_11 iy_Verd_init (by decide) (mct_Verd_init _ hcl) ⟨rfl, rfl, Nat.le_of_ble_eq_true rfl, Nat.le_of_ble_eq_true rfl⟩ ⟨by simp [rfs], by simp [rfs]⟩ (Nat.le_of_ble_eq_true rfl) 50 5109 ⟨rfl, rfl⟩ ⟨Nat.le_of_ble_eq_true rfl, Nat.le_of_ble_eq_true rfl⟩ dX10_init_9 (fun ad hag2 hV => ?_)
  have hag := ag_call hag hag2 (by decide) (by decide)
  clear hag2
  have hcl := cl_ct_Verd_init hcl
  refine c_putR C hI hV ff_X10_12 (fun _ _ _ => rfl) (fun _ => ⟨rfl, rfl⟩) rfl (by decide) dX10_init_12 ?_
  have hcl := Cl_pR hcl 1 0 (x := 2) (by decide)
  refine s_aload_n C rfl dX10_init_15 ?_
  refine s_aload_n C rfl dX10_init_16 ?_
  refine c_getR C hV fl_X10_12 (fun _ _ _ => rfl) rfl 2 rfl dX10_init_17 ?_
  refine c_getR C hV fl_X10_16 (fun _ _ _ => rfl) rfl 3 rfl dX10_init_20 ?_
  refine c_putR C hI hV ff_X10_20 (fun _ _ _ => rfl) (fun _ => ⟨rfl, rfl⟩) rfl (by decide) dX10_init_23 ?_
  have hcl := Cl_pR hcl 1 1 (x := 3) (by decide)
  refine s_aload_n C rfl dX10_init_26 ?_
  refine s_aload_n C rfl dX10_init_27 ?_
  refine c_getR C hV fl_X10_12 (fun _ _ _ => rfl) rfl 2 rfl dX10_init_28 ?_
  refine c_getR C hV fl_X10_21 (fun _ _ _ => rfl) rfl 17 rfl dX10_init_31 ?_
  refine c_putR C hI hV ff_X10_25 (fun _ _ _ => rfl) (fun _ => ⟨rfl, rfl⟩) rfl (by decide) dX10_init_34 ?_
  have hcl := Cl_pR hcl 1 2 (x := 17) (by decide)
  refine s_aload_n C rfl dX10_init_37 ?_
  refine s_aload_n C rfl dX10_init_38 ?_
  refine c_getR C hV fl_X10_12 (fun _ _ _ => rfl) rfl 2 rfl dX10_init_39 ?_
  refine c_getR C hV fl_X10_26 (fun _ _ _ => rfl) rfl 32 rfl dX10_init_42 ?_
  refine c_putR C hI hV ff_X10_30 (fun _ _ _ => rfl) (fun _ => ⟨rfl, rfl⟩) rfl (by decide) dX10_init_45 ?_
  have hcl := Cl_pR hcl 1 3 (x := 32) (by decide)
  refine s_aload_n C rfl dX10_init_48 ?_
  refine c_newP C 52 rfl 50 5109 hV cf_3 cl_X10_31 df_3 rfl rfl hcl ⟨by simp [rfs], by simp [rfs]⟩ 51 5111 ⟨rfl, rfl⟩ ⟨Nat.le_of_ble_eq_true rfl, Nat.le_of_ble_eq_true rfl⟩ dX10_init_49 (fun q52 hV => ?_)
  have hag := ag_up (q := q52) (i := 52) hag (by decide) (by decide)
  have hcl := Cl_nw hcl 52
  refine s_dupr C dX10_init_52 ?_
  refine c_callP C (k' := 53) 51 5111 hV li_X10_33 iy_Page_init (by decide) (mct_Page_init _ hcl) ⟨rfl, rfl, Nat.le_of_ble_eq_true rfl, Nat.le_of_ble_eq_true rfl⟩ ⟨by simp [rfs], by simp [rfs]⟩ (Nat.le_of_ble_eq_true rfl) 52 5171 ⟨rfl, rfl⟩ ⟨Nat.le_of_ble_eq_true rfl, Nat.le_of_ble_eq_true rfl⟩ dX10_init_53 (fun ad hag2 hV => ?_)
  have hag := ag_call hag hag2 (by decide) (by decide)
  clear hag2
  have hcl := cl_ct_Page_init hcl
  refine c_putR C hI hV ff_X10_34 (fun _ _ _ => rfl) (fun _ => ⟨rfl, rfl⟩) rfl (by decide) dX10_init_56 ?_
  have hcl := Cl_pR hcl 1 4 (x := 52) (by decide)
  refine s_aload_n C rfl dX10_init_59 ?_
  refine c_newP C 54 rfl 52 5171 hV cf_6 cl_X10_38 df_6 rfl rfl hcl ⟨by simp [rfs], by simp [rfs]⟩ 53 5180 ⟨rfl, rfl⟩ ⟨Nat.le_of_ble_eq_true rfl, Nat.le_of_ble_eq_true rfl⟩ dX10_init_60 (fun q54 hV => ?_)
  have hag := ag_up (q := q54) (i := 54) hag (by decide) (by decide)
  have hcl := Cl_nw hcl 54
  refine s_dupr C dX10_init_63 ?_
  refine c_callP C (k' := 57) 53 5180 hV li_X10_40 iy_Read_init (by decide) (mct_Read_init _ hcl) ⟨rfl, rfl, Nat.le_of_ble_eq_true rfl, Nat.le_of_ble_eq_true rfl⟩ ⟨by simp [rfs], by simp [rfs]⟩ (Nat.le_of_ble_eq_true rfl) 56 5304 ⟨rfl, rfl⟩ ⟨Nat.le_of_ble_eq_true rfl, Nat.le_of_ble_eq_true rfl⟩ dX10_init_64 (fun ad hag2 hV => ?_)
  have hag := ag_call hag hag2 (by decide) (by decide)
  clear hag2
  have hcl := cl_ct_Read_init hcl
  refine c_putR C hI hV ff_X10_41 (fun _ _ _ => rfl) (fun _ => ⟨rfl, rfl⟩) rfl (by decide) dX10_init_67 ?_
  have hcl := Cl_pR hcl 1 5 (x := 54) (by decide)
  refine s_aload_n C rfl dX10_init_70 ?_
  refine c_newP C 58 rfl 56 5304 hV cf_1 cl_X10_45 df_1 rfl rfl hcl ⟨by simp [rfs], by simp [rfs]⟩ 57 5308 ⟨rfl, rfl⟩ ⟨Nat.le_of_ble_eq_true rfl, Nat.le_of_ble_eq_true rfl⟩ dX10_init_71 (fun q58 hV => ?_)
  have hag := ag_up (q := q58) (i := 58) hag (by decide) (by decide)
  have hcl := Cl_nw hcl 58
  refine s_dupr C dX10_init_74 ?_
  refine c_callP C (k' := 60) 57 5308 hV li_X10_47 iy_Found_init (by decide) (mct_Found_init _ hcl) ⟨rfl, rfl, Nat.le_of_ble_eq_true rfl, Nat.le_of_ble_eq_true rfl⟩ ⟨by simp [rfs], by simp [rfs]⟩ (Nat.le_of_ble_eq_true rfl) 59 13500 ⟨rfl, rfl⟩ ⟨Nat.le_of_ble_eq_true rfl, Nat.le_of_ble_eq_true rfl⟩ dX10_init_75 (fun ad hag2 hV => ?_)
  have hag := ag_call hag hag2 (by decide) (by decide)
  clear hag2
  have hcl := cl_ct_Found_init hcl
  refine c_putR C hI hV ff_X10_48 (fun _ _ _ => rfl) (fun _ => ⟨rfl, rfl⟩) rfl (by decide) dX10_init_78 ?_
  have hcl := Cl_pR hcl 1 6 (x := 58) (by decide)
  refine s_aload_n C rfl dX10_init_81 ?_
  refine c_newP C 61 rfl 59 13500 hV cf_4 cl_X10_52 df_4 rfl rfl hcl ⟨by simp [rfs], by simp [rfs]⟩ 60 13506 ⟨rfl, rfl⟩ ⟨Nat.le_of_ble_eq_true rfl, Nat.le_of_ble_eq_true rfl⟩ dX10_init_82 (fun q61 hV => ?_)
  have hag := ag_up (q := q61) (i := 61) hag (by decide) (by decide)
  have hcl := Cl_nw hcl 61
  refine s_dupr C dX10_init_85 ?_
  refine c_callP C (k' := 64) 60 13506 hV li_X10_54 iy_Plac_init (by decide) (mct_Plac_init _ hcl) ⟨rfl, rfl, Nat.le_of_ble_eq_true rfl, Nat.le_of_ble_eq_true rfl⟩ ⟨by simp [rfs], by simp [rfs]⟩ (Nat.le_of_ble_eq_true rfl) 63 13603 ⟨rfl, rfl⟩ ⟨Nat.le_of_ble_eq_true rfl, Nat.le_of_ble_eq_true rfl⟩ dX10_init_86 (fun ad hag2 hV => ?_)
  have hag := ag_call hag hag2 (by decide) (by decide)
  clear hag2
  have hcl := cl_ct_Plac_init hcl
  refine c_putR C hI hV ff_X10_55 (fun _ _ _ => rfl) (fun _ => ⟨rfl, rfl⟩) rfl (by decide) dX10_init_89 ?_
  have hcl := Cl_pR hcl 1 7 (x := 61) (by decide)
  refine s_aload_n C rfl dX10_init_92 ?_
  refine s_iconst C (1 : Int32) (by decide) dX10_init_93 ?_
  refine c_putI C hV fw_X10_59 rfl (fun _ _ _ => rfl) rfl (by decide) (by decide) dX10_init_94 ?_
  have hcl := Cl_pI hcl 1 8 (1 : Int32)
  refine s_aload_n C rfl dX10_init_97 ?_
  refine s_iconst C (5 : Int32) (by decide) dX10_init_98 ?_
  refine c_putI C hV fw_X10_63 rfl (fun _ _ _ => rfl) rfl (by decide) (by decide) dX10_init_99 ?_
  have hcl := Cl_pI hcl 1 9 (5 : Int32)
  refine s_aload_n C rfl dX10_init_102 ?_
  refine s_iconst C (0 : Int32) (by decide) dX10_init_103 ?_
  refine c_putI C hV fw_X10_66 rfl (fun _ _ _ => rfl) rfl (by decide) (by decide) dX10_init_104 ?_
  have hcl := Cl_pI hcl 1 10 (0 : Int32)
  exact c_ret hR hag hV dX10_init_107
abbrev rc_Mod_init : Room := { frames := 1, cells := 23, slots := 38093, locals := 20 }
def ct_Mod_init (d : Dm) : Dm := pRd (nwD (pRd (nwD (pRd (nwD (pRd (nwD (pRd (nwD (pRd (nwD (pRd (nwD (pRd (nwD (pRd (nwD (pRd (nwD (pRd (nwD (pRd (nwD (pRd (nwD (pRd (nwD (pId (pId (pRd (nwD (pRd (nwD (pRd (nwD (pRd (nwD (pRd (nwD (pRd (nwD (pRd (nwD (pRd (nwD (pRd (nwD (d) 66) 65 0 66) 67) 65 2 67) 68) 65 3 68) 69) 65 5 69) 70) 65 7 70) 71) 65 8 71) 72) 65 9 72) 73) 65 11 73) 74) 65 12 74) 65 13 (1)) 65 14 (5)) 75) 65 16 75) 76) 65 23 76) 77) 65 24 77) 78) 65 25 78) 79) 65 28 79) 80) 65 29 80) 81) 65 30 81) 82) 65 31 82) 83) 65 32 83) 84) 65 33 84) 85) 65 35 85) 86) 65 36 86) 87) 65 39 87) 88) 65 41 88
theorem cl_ct_Mod_init {d : Dm} (hcl : Cl d 65) : Cl (ct_Mod_init d) 88 := by
  have hcl := Cl_nw hcl 66
  have hcl := Cl_pR hcl 65 0 (x := 66) (by decide)
  have hcl := Cl_nw hcl 67
  have hcl := Cl_pR hcl 65 2 (x := 67) (by decide)
  have hcl := Cl_nw hcl 68
  have hcl := Cl_pR hcl 65 3 (x := 68) (by decide)
  have hcl := Cl_nw hcl 69
  have hcl := Cl_pR hcl 65 5 (x := 69) (by decide)
  have hcl := Cl_nw hcl 70
  have hcl := Cl_pR hcl 65 7 (x := 70) (by decide)
  have hcl := Cl_nw hcl 71
  have hcl := Cl_pR hcl 65 8 (x := 71) (by decide)
  have hcl := Cl_nw hcl 72
  have hcl := Cl_pR hcl 65 9 (x := 72) (by decide)
  have hcl := Cl_nw hcl 73
  have hcl := Cl_pR hcl 65 11 (x := 73) (by decide)
  have hcl := Cl_nw hcl 74
  have hcl := Cl_pR hcl 65 12 (x := 74) (by decide)
  have hcl := Cl_pI hcl 65 13 (1)
  have hcl := Cl_pI hcl 65 14 (5)
  have hcl := Cl_nw hcl 75
  have hcl := Cl_pR hcl 65 16 (x := 75) (by decide)
  have hcl := Cl_nw hcl 76
  have hcl := Cl_pR hcl 65 23 (x := 76) (by decide)
  have hcl := Cl_nw hcl 77
  have hcl := Cl_pR hcl 65 24 (x := 77) (by decide)
  have hcl := Cl_nw hcl 78
  have hcl := Cl_pR hcl 65 25 (x := 78) (by decide)
  have hcl := Cl_nw hcl 79
  have hcl := Cl_pR hcl 65 28 (x := 79) (by decide)
  have hcl := Cl_nw hcl 80
  have hcl := Cl_pR hcl 65 29 (x := 80) (by decide)
  have hcl := Cl_nw hcl 81
  have hcl := Cl_pR hcl 65 30 (x := 81) (by decide)
  have hcl := Cl_nw hcl 82
  have hcl := Cl_pR hcl 65 31 (x := 82) (by decide)
  have hcl := Cl_nw hcl 83
  have hcl := Cl_pR hcl 65 32 (x := 83) (by decide)
  have hcl := Cl_nw hcl 84
  have hcl := Cl_pR hcl 65 33 (x := 84) (by decide)
  have hcl := Cl_nw hcl 85
  have hcl := Cl_pR hcl 65 35 (x := 85) (by decide)
  have hcl := Cl_nw hcl 86
  have hcl := Cl_pR hcl 65 36 (x := 86) (by decide)
  have hcl := Cl_nw hcl 87
  have hcl := Cl_pR hcl 65 39 (x := 87) (by decide)
  have hcl := Cl_nw hcl 88
  have hcl := Cl_pR hcl 65 41 (x := 88) (by decide)
  exact hcl
set_option maxRecDepth 20000 in
theorem mct_Mod_init (d : Dm) (hcl : Cl d 65) : MC (ZP 65) (ZP 88) yX11_init cX11_init 1 rc_Mod_init 23 38093 65 d (ct_Mod_init d) := by
  refine mc_of (by decide +kernel) rfl (by decide) ?_
  intro G ad C hI hV hR
  obtain ⟨ad0, had⟩ : ∃ a0 : Nat → Nat, a0 = ad := ⟨_, rfl⟩
  rw [← had] at hR
  have hag : ∀ i, (i ≤ 65 ∨ 88 < i) → ad i = ad0 i := fun i _ => by rw [had]
  clear had
  refine s_aload_n C rfl dX11_init_0 ?_
  refine c_objI C (by decide) oi_X11_1 ⟨Nat.le_of_ble_eq_true rfl, Nat.le_of_ble_eq_true rfl⟩ dX11_init_1 ?_
  refine s_aload_n C rfl dX11_init_4 ?_
  refine s_bipush C (8 : Int32) (by decide) dX11_init_5 ?_
  refine c_newaP C 66 rfl 0 0 (at_ := .int) (ty := .int) hV rfl 23 8 2 (by simp) aw_int (by decide) (by decide) (Nat.le_of_ble_eq_true rfl) rfl rfl hcl ⟨by simp [rfs], by simp [rfs]⟩ 1 8 ⟨rfl, rfl⟩ ⟨Nat.le_of_ble_eq_true rfl, Nat.le_of_ble_eq_true rfl⟩ dX11_init_7 (fun q66 hV => ?_)
  have hag := ag_up (q := q66) (i := 66) hag (by decide) (by decide)
  have hcl := Cl_nw hcl 66
  refine c_putR C hI hV ff_X11_7 (fun _ _ _ => rfl) (fun _ => ⟨rfl, rfl⟩) rfl (by decide) dX11_init_9 ?_
  have hcl := Cl_pR hcl 65 0 (x := 66) (by decide)
  refine s_aload_n C rfl dX11_init_12 ?_
  refine s_bipush C (12 : Int32) (by decide) dX11_init_13 ?_
  refine c_newaP C 67 rfl 1 8 (at_ := .int) (ty := .int) hV rfl 23 12 2 (by simp) aw_int (by decide) (by decide) (Nat.le_of_ble_eq_true rfl) rfl rfl hcl ⟨by simp [rfs], by simp [rfs]⟩ 2 20 ⟨rfl, rfl⟩ ⟨Nat.le_of_ble_eq_true rfl, Nat.le_of_ble_eq_true rfl⟩ dX11_init_15 (fun q67 hV => ?_)
  have hag := ag_up (q := q67) (i := 67) hag (by decide) (by decide)
  have hcl := Cl_nw hcl 67
  refine c_putR C hI hV ff_X11_13 (fun _ _ _ => rfl) (fun _ => ⟨rfl, rfl⟩) rfl (by decide) dX11_init_17 ?_
  have hcl := Cl_pR hcl 65 2 (x := 67) (by decide)
  refine s_aload_n C rfl dX11_init_20 ?_
  refine s_bipush C (48 : Int32) (by decide) dX11_init_21 ?_
  refine c_newaP C 68 rfl 2 20 (at_ := .int) (ty := .int) hV rfl 23 48 2 (by simp) aw_int (by decide) (by decide) (Nat.le_of_ble_eq_true rfl) rfl rfl hcl ⟨by simp [rfs], by simp [rfs]⟩ 3 68 ⟨rfl, rfl⟩ ⟨Nat.le_of_ble_eq_true rfl, Nat.le_of_ble_eq_true rfl⟩ dX11_init_23 (fun q68 hV => ?_)
  have hag := ag_up (q := q68) (i := 68) hag (by decide) (by decide)
  have hcl := Cl_nw hcl 68
  refine c_putR C hI hV ff_X11_16 (fun _ _ _ => rfl) (fun _ => ⟨rfl, rfl⟩) rfl (by decide) dX11_init_25 ?_
  have hcl := Cl_pR hcl 65 3 (x := 68) (by decide)
  refine s_aload_n C rfl dX11_init_28 ?_
  refine s_bipush C (60 : Int32) (by decide) dX11_init_29 ?_
  refine c_newaP C 69 rfl 3 68 (at_ := .byte) (ty := .byte) hV rfl 21 60 0 (by simp) aw_byte (by decide) (by decide) (Nat.le_of_ble_eq_true rfl) rfl rfl hcl ⟨by simp [rfs], by simp [rfs]⟩ 4 128 ⟨rfl, rfl⟩ ⟨Nat.le_of_ble_eq_true rfl, Nat.le_of_ble_eq_true rfl⟩ dX11_init_31 (fun q69 hV => ?_)
  have hag := ag_up (q := q69) (i := 69) hag (by decide) (by decide)
  have hcl := Cl_nw hcl 69
  refine c_putR C hI hV ff_X11_19 (fun _ _ _ => rfl) (fun _ => ⟨rfl, rfl⟩) rfl (by decide) dX11_init_33 ?_
  have hcl := Cl_pR hcl 65 5 (x := 69) (by decide)
  refine s_aload_n C rfl dX11_init_36 ?_
  refine s_sipush C (360 : Int32) (by decide) dX11_init_37 ?_
  refine c_newaP C 70 rfl 4 128 (at_ := .byte) (ty := .byte) hV rfl 21 360 0 (by simp) aw_byte (by decide) (by decide) (Nat.le_of_ble_eq_true rfl) rfl rfl hcl ⟨by simp [rfs], by simp [rfs]⟩ 5 488 ⟨rfl, rfl⟩ ⟨Nat.le_of_ble_eq_true rfl, Nat.le_of_ble_eq_true rfl⟩ dX11_init_40 (fun q70 hV => ?_)
  have hag := ag_up (q := q70) (i := 70) hag (by decide) (by decide)
  have hcl := Cl_nw hcl 70
  refine c_putR C hI hV ff_X11_23 (fun _ _ _ => rfl) (fun _ => ⟨rfl, rfl⟩) rfl (by decide) dX11_init_42 ?_
  have hcl := Cl_pR hcl 65 7 (x := 70) (by decide)
  refine s_aload_n C rfl dX11_init_45 ?_
  refine s_bipush C (6 : Int32) (by decide) dX11_init_46 ?_
  refine c_newaP C 71 rfl 5 488 (at_ := .int) (ty := .int) hV rfl 23 6 2 (by simp) aw_int (by decide) (by decide) (Nat.le_of_ble_eq_true rfl) rfl rfl hcl ⟨by simp [rfs], by simp [rfs]⟩ 6 494 ⟨rfl, rfl⟩ ⟨Nat.le_of_ble_eq_true rfl, Nat.le_of_ble_eq_true rfl⟩ dX11_init_48 (fun q71 hV => ?_)
  have hag := ag_up (q := q71) (i := 71) hag (by decide) (by decide)
  have hcl := Cl_nw hcl 71
  refine c_putR C hI hV ff_X11_26 (fun _ _ _ => rfl) (fun _ => ⟨rfl, rfl⟩) rfl (by decide) dX11_init_50 ?_
  have hcl := Cl_pR hcl 65 8 (x := 71) (by decide)
  refine s_aload_n C rfl dX11_init_53 ?_
  refine s_bipush C (6 : Int32) (by decide) dX11_init_54 ?_
  refine c_newaP C 72 rfl 6 494 (at_ := .boolean) (ty := .boolean) hV rfl 25 6 4 (by simp) aw_boolean (by decide) (by decide) (Nat.le_of_ble_eq_true rfl) rfl rfl hcl ⟨by simp [rfs], by simp [rfs]⟩ 7 500 ⟨rfl, rfl⟩ ⟨Nat.le_of_ble_eq_true rfl, Nat.le_of_ble_eq_true rfl⟩ dX11_init_56 (fun q72 hV => ?_)
  have hag := ag_up (q := q72) (i := 72) hag (by decide) (by decide)
  have hcl := Cl_nw hcl 72
  refine c_putR C hI hV ff_X11_29 (fun _ _ _ => rfl) (fun _ => ⟨rfl, rfl⟩) rfl (by decide) dX11_init_58 ?_
  have hcl := Cl_pR hcl 65 9 (x := 72) (by decide)
  refine s_aload_n C rfl dX11_init_61 ?_
  refine s_sipush C (480 : Int32) (by decide) dX11_init_62 ?_
  refine c_newaP C 73 rfl 7 500 (at_ := .byte) (ty := .byte) hV rfl 21 480 0 (by simp) aw_byte (by decide) (by decide) (Nat.le_of_ble_eq_true rfl) rfl rfl hcl ⟨by simp [rfs], by simp [rfs]⟩ 8 980 ⟨rfl, rfl⟩ ⟨Nat.le_of_ble_eq_true rfl, Nat.le_of_ble_eq_true rfl⟩ dX11_init_65 (fun q73 hV => ?_)
  have hag := ag_up (q := q73) (i := 73) hag (by decide) (by decide)
  have hcl := Cl_nw hcl 73
  refine c_putR C hI hV ff_X11_33 (fun _ _ _ => rfl) (fun _ => ⟨rfl, rfl⟩) rfl (by decide) dX11_init_67 ?_
  have hcl := Cl_pR hcl 65 11 (x := 73) (by decide)
  refine s_aload_n C rfl dX11_init_70 ?_
  refine s_bipush C (8 : Int32) (by decide) dX11_init_71 ?_
  refine c_newaP C 74 rfl 8 980 (at_ := .int) (ty := .int) hV rfl 23 8 2 (by simp) aw_int (by decide) (by decide) (Nat.le_of_ble_eq_true rfl) rfl rfl hcl ⟨by simp [rfs], by simp [rfs]⟩ 9 988 ⟨rfl, rfl⟩ ⟨Nat.le_of_ble_eq_true rfl, Nat.le_of_ble_eq_true rfl⟩ dX11_init_73 (fun q74 hV => ?_)
  have hag := ag_up (q := q74) (i := 74) hag (by decide) (by decide)
  have hcl := Cl_nw hcl 74
  refine c_putR C hI hV ff_X11_36 (fun _ _ _ => rfl) (fun _ => ⟨rfl, rfl⟩) rfl (by decide) dX11_init_75 ?_
  have hcl := Cl_pR hcl 65 12 (x := 74) (by decide)
  refine s_aload_n C rfl dX11_init_78 ?_
  refine s_iconst C (1 : Int32) (by decide) dX11_init_79 ?_
  refine c_putI C hV fw_X11_39 rfl (fun _ _ _ => rfl) rfl (by decide) (by decide) dX11_init_80 ?_
  have hcl := Cl_pI hcl 65 13 (1 : Int32)
  refine s_aload_n C rfl dX11_init_83 ?_
  refine s_iconst C (5 : Int32) (by decide) dX11_init_84 ?_
  refine c_putI C hV fw_X11_43 rfl (fun _ _ _ => rfl) rfl (by decide) (by decide) dX11_init_85 ?_
  have hcl := Cl_pI hcl 65 14 (5 : Int32)
  refine s_aload_n C rfl dX11_init_88 ?_
  refine s_bipush C (8 : Int32) (by decide) dX11_init_89 ?_
  refine c_newaP C 75 rfl 9 988 (at_ := .int) (ty := .int) hV rfl 23 8 2 (by simp) aw_int (by decide) (by decide) (Nat.le_of_ble_eq_true rfl) rfl rfl hcl ⟨by simp [rfs], by simp [rfs]⟩ 10 996 ⟨rfl, rfl⟩ ⟨Nat.le_of_ble_eq_true rfl, Nat.le_of_ble_eq_true rfl⟩ dX11_init_91 (fun q75 hV => ?_)
  have hag := ag_up (q := q75) (i := 75) hag (by decide) (by decide)
  have hcl := Cl_nw hcl 75
  refine c_putR C hI hV ff_X11_46 (fun _ _ _ => rfl) (fun _ => ⟨rfl, rfl⟩) rfl (by decide) dX11_init_93 ?_
  have hcl := Cl_pR hcl 65 16 (x := 75) (by decide)
  refine s_aload_n C rfl dX11_init_96 ?_
  refine s_bipush C (61 : Int32) (by decide) dX11_init_97 ?_
  refine c_newaP C 76 rfl 10 996 (at_ := .boolean) (ty := .boolean) hV rfl 25 61 4 (by simp) aw_boolean (by decide) (by decide) (Nat.le_of_ble_eq_true rfl) rfl rfl hcl ⟨by simp [rfs], by simp [rfs]⟩ 11 1057 ⟨rfl, rfl⟩ ⟨Nat.le_of_ble_eq_true rfl, Nat.le_of_ble_eq_true rfl⟩ dX11_init_99 (fun q76 hV => ?_)
  have hag := ag_up (q := q76) (i := 76) hag (by decide) (by decide)
  have hcl := Cl_nw hcl 76
  refine c_putR C hI hV ff_X11_49 (fun _ _ _ => rfl) (fun _ => ⟨rfl, rfl⟩) rfl (by decide) dX11_init_101 ?_
  have hcl := Cl_pR hcl 65 23 (x := 76) (by decide)
  refine s_aload_n C rfl dX11_init_104 ?_
  refine s_bipush C (61 : Int32) (by decide) dX11_init_105 ?_
  refine c_newaP C 77 rfl 11 1057 (at_ := .boolean) (ty := .boolean) hV rfl 25 61 4 (by simp) aw_boolean (by decide) (by decide) (Nat.le_of_ble_eq_true rfl) rfl rfl hcl ⟨by simp [rfs], by simp [rfs]⟩ 12 1118 ⟨rfl, rfl⟩ ⟨Nat.le_of_ble_eq_true rfl, Nat.le_of_ble_eq_true rfl⟩ dX11_init_107 (fun q77 hV => ?_)
  have hag := ag_up (q := q77) (i := 77) hag (by decide) (by decide)
  have hcl := Cl_nw hcl 77
  refine c_putR C hI hV ff_X11_52 (fun _ _ _ => rfl) (fun _ => ⟨rfl, rfl⟩) rfl (by decide) dX11_init_109 ?_
  have hcl := Cl_pR hcl 65 24 (x := 77) (by decide)
  refine s_aload_n C rfl dX11_init_112 ?_
  refine s_bipush C (61 : Int32) (by decide) dX11_init_113 ?_
  refine c_newaP C 78 rfl 12 1118 (at_ := .boolean) (ty := .boolean) hV rfl 25 61 4 (by simp) aw_boolean (by decide) (by decide) (Nat.le_of_ble_eq_true rfl) rfl rfl hcl ⟨by simp [rfs], by simp [rfs]⟩ 13 1179 ⟨rfl, rfl⟩ ⟨Nat.le_of_ble_eq_true rfl, Nat.le_of_ble_eq_true rfl⟩ dX11_init_115 (fun q78 hV => ?_)
  have hag := ag_up (q := q78) (i := 78) hag (by decide) (by decide)
  have hcl := Cl_nw hcl 78
  refine c_putR C hI hV ff_X11_55 (fun _ _ _ => rfl) (fun _ => ⟨rfl, rfl⟩) rfl (by decide) dX11_init_117 ?_
  have hcl := Cl_pR hcl 65 25 (x := 78) (by decide)
  refine s_aload_n C rfl dX11_init_120 ?_
  refine s_sipush C (4096 : Int32) (by decide) dX11_init_121 ?_
  refine c_newaP C 79 rfl 13 1179 (at_ := .long) (ty := .long) hV rfl 24 4096 3 (by simp) aw_long (by decide) (by decide) (Nat.le_of_ble_eq_true rfl) rfl rfl hcl ⟨by simp [rfs], by simp [rfs]⟩ 14 5275 ⟨rfl, rfl⟩ ⟨Nat.le_of_ble_eq_true rfl, Nat.le_of_ble_eq_true rfl⟩ dX11_init_124 (fun q79 hV => ?_)
  have hag := ag_up (q := q79) (i := 79) hag (by decide) (by decide)
  have hcl := Cl_nw hcl 79
  refine c_putR C hI hV ff_X11_58 (fun _ _ _ => rfl) (fun _ => ⟨rfl, rfl⟩) rfl (by decide) dX11_init_126 ?_
  have hcl := Cl_pR hcl 65 28 (x := 79) (by decide)
  refine s_aload_n C rfl dX11_init_129 ?_
  refine s_sipush C (4096 : Int32) (by decide) dX11_init_130 ?_
  refine c_newaP C 80 rfl 14 5275 (at_ := .long) (ty := .long) hV rfl 24 4096 3 (by simp) aw_long (by decide) (by decide) (Nat.le_of_ble_eq_true rfl) rfl rfl hcl ⟨by simp [rfs], by simp [rfs]⟩ 15 9371 ⟨rfl, rfl⟩ ⟨Nat.le_of_ble_eq_true rfl, Nat.le_of_ble_eq_true rfl⟩ dX11_init_133 (fun q80 hV => ?_)
  have hag := ag_up (q := q80) (i := 80) hag (by decide) (by decide)
  have hcl := Cl_nw hcl 80
  refine c_putR C hI hV ff_X11_62 (fun _ _ _ => rfl) (fun _ => ⟨rfl, rfl⟩) rfl (by decide) dX11_init_135 ?_
  have hcl := Cl_pR hcl 65 29 (x := 80) (by decide)
  refine s_aload_n C rfl dX11_init_138 ?_
  refine s_sipush C (4096 : Int32) (by decide) dX11_init_139 ?_
  refine c_newaP C 81 rfl 15 9371 (at_ := .int) (ty := .int) hV rfl 23 4096 2 (by simp) aw_int (by decide) (by decide) (Nat.le_of_ble_eq_true rfl) rfl rfl hcl ⟨by simp [rfs], by simp [rfs]⟩ 16 13467 ⟨rfl, rfl⟩ ⟨Nat.le_of_ble_eq_true rfl, Nat.le_of_ble_eq_true rfl⟩ dX11_init_142 (fun q81 hV => ?_)
  have hag := ag_up (q := q81) (i := 81) hag (by decide) (by decide)
  have hcl := Cl_nw hcl 81
  refine c_putR C hI hV ff_X11_65 (fun _ _ _ => rfl) (fun _ => ⟨rfl, rfl⟩) rfl (by decide) dX11_init_144 ?_
  have hcl := Cl_pR hcl 65 30 (x := 81) (by decide)
  refine s_aload_n C rfl dX11_init_147 ?_
  refine s_sipush C (4096 : Int32) (by decide) dX11_init_148 ?_
  refine c_newaP C 82 rfl 16 13467 (at_ := .int) (ty := .int) hV rfl 23 4096 2 (by simp) aw_int (by decide) (by decide) (Nat.le_of_ble_eq_true rfl) rfl rfl hcl ⟨by simp [rfs], by simp [rfs]⟩ 17 17563 ⟨rfl, rfl⟩ ⟨Nat.le_of_ble_eq_true rfl, Nat.le_of_ble_eq_true rfl⟩ dX11_init_151 (fun q82 hV => ?_)
  have hag := ag_up (q := q82) (i := 82) hag (by decide) (by decide)
  have hcl := Cl_nw hcl 82
  refine c_putR C hI hV ff_X11_68 (fun _ _ _ => rfl) (fun _ => ⟨rfl, rfl⟩) rfl (by decide) dX11_init_153 ?_
  have hcl := Cl_pR hcl 65 31 (x := 82) (by decide)
  refine s_aload_n C rfl dX11_init_156 ?_
  refine s_sipush C (4096 : Int32) (by decide) dX11_init_157 ?_
  refine c_newaP C 83 rfl 17 17563 (at_ := .boolean) (ty := .boolean) hV rfl 25 4096 4 (by simp) aw_boolean (by decide) (by decide) (Nat.le_of_ble_eq_true rfl) rfl rfl hcl ⟨by simp [rfs], by simp [rfs]⟩ 18 21659 ⟨rfl, rfl⟩ ⟨Nat.le_of_ble_eq_true rfl, Nat.le_of_ble_eq_true rfl⟩ dX11_init_160 (fun q83 hV => ?_)
  have hag := ag_up (q := q83) (i := 83) hag (by decide) (by decide)
  have hcl := Cl_nw hcl 83
  refine c_putR C hI hV ff_X11_71 (fun _ _ _ => rfl) (fun _ => ⟨rfl, rfl⟩) rfl (by decide) dX11_init_162 ?_
  have hcl := Cl_pR hcl 65 32 (x := 83) (by decide)
  refine s_aload_n C rfl dX11_init_165 ?_
  refine s_bipush C (12 : Int32) (by decide) dX11_init_166 ?_
  refine c_newaP C 84 rfl 18 21659 (at_ := .int) (ty := .int) hV rfl 23 12 2 (by simp) aw_int (by decide) (by decide) (Nat.le_of_ble_eq_true rfl) rfl rfl hcl ⟨by simp [rfs], by simp [rfs]⟩ 19 21671 ⟨rfl, rfl⟩ ⟨Nat.le_of_ble_eq_true rfl, Nat.le_of_ble_eq_true rfl⟩ dX11_init_168 (fun q84 hV => ?_)
  have hag := ag_up (q := q84) (i := 84) hag (by decide) (by decide)
  have hcl := Cl_nw hcl 84
  refine c_putR C hI hV ff_X11_74 (fun _ _ _ => rfl) (fun _ => ⟨rfl, rfl⟩) rfl (by decide) dX11_init_170 ?_
  have hcl := Cl_pR hcl 65 33 (x := 84) (by decide)
  refine s_aload_n C rfl dX11_init_173 ?_
  refine s_bipush C (12 : Int32) (by decide) dX11_init_174 ?_
  refine c_newaP C 85 rfl 19 21671 (at_ := .int) (ty := .int) hV rfl 23 12 2 (by simp) aw_int (by decide) (by decide) (Nat.le_of_ble_eq_true rfl) rfl rfl hcl ⟨by simp [rfs], by simp [rfs]⟩ 20 21683 ⟨rfl, rfl⟩ ⟨Nat.le_of_ble_eq_true rfl, Nat.le_of_ble_eq_true rfl⟩ dX11_init_176 (fun q85 hV => ?_)
  have hag := ag_up (q := q85) (i := 85) hag (by decide) (by decide)
  have hcl := Cl_nw hcl 85
  refine c_putR C hI hV ff_X11_77 (fun _ _ _ => rfl) (fun _ => ⟨rfl, rfl⟩) rfl (by decide) dX11_init_178 ?_
  have hcl := Cl_pR hcl 65 35 (x := 85) (by decide)
  refine s_aload_n C rfl dX11_init_181 ?_
  refine s_bipush C (26 : Int32) (by decide) dX11_init_182 ?_
  refine c_newaP C 86 rfl 20 21683 (at_ := .int) (ty := .int) hV rfl 23 26 2 (by simp) aw_int (by decide) (by decide) (Nat.le_of_ble_eq_true rfl) rfl rfl hcl ⟨by simp [rfs], by simp [rfs]⟩ 21 21709 ⟨rfl, rfl⟩ ⟨Nat.le_of_ble_eq_true rfl, Nat.le_of_ble_eq_true rfl⟩ dX11_init_184 (fun q86 hV => ?_)
  have hag := ag_up (q := q86) (i := 86) hag (by decide) (by decide)
  have hcl := Cl_nw hcl 86
  refine c_putR C hI hV ff_X11_80 (fun _ _ _ => rfl) (fun _ => ⟨rfl, rfl⟩) rfl (by decide) dX11_init_186 ?_
  have hcl := Cl_pR hcl 65 36 (x := 86) (by decide)
  refine s_aload_n C rfl dX11_init_189 ?_
  refine s_sipush C (8192 : Int32) (by decide) dX11_init_190 ?_
  refine c_newaP C 87 rfl 21 21709 (at_ := .int) (ty := .int) hV rfl 23 8192 2 (by simp) aw_int (by decide) (by decide) (Nat.le_of_ble_eq_true rfl) rfl rfl hcl ⟨by simp [rfs], by simp [rfs]⟩ 22 29901 ⟨rfl, rfl⟩ ⟨Nat.le_of_ble_eq_true rfl, Nat.le_of_ble_eq_true rfl⟩ dX11_init_193 (fun q87 hV => ?_)
  have hag := ag_up (q := q87) (i := 87) hag (by decide) (by decide)
  have hcl := Cl_nw hcl 87
  refine c_putR C hI hV ff_X11_83 (fun _ _ _ => rfl) (fun _ => ⟨rfl, rfl⟩) rfl (by decide) dX11_init_195 ?_
  have hcl := Cl_pR hcl 65 39 (x := 87) (by decide)
  refine s_aload_n C rfl dX11_init_198 ?_
  refine s_sipush C (8192 : Int32) (by decide) dX11_init_199 ?_
  refine c_newaP C 88 rfl 22 29901 (at_ := .int) (ty := .int) hV rfl 23 8192 2 (by simp) aw_int (by decide) (by decide) (Nat.le_of_ble_eq_true rfl) rfl rfl hcl ⟨by simp [rfs], by simp [rfs]⟩ 23 38093 ⟨rfl, rfl⟩ ⟨Nat.le_of_ble_eq_true rfl, Nat.le_of_ble_eq_true rfl⟩ dX11_init_202 (fun q88 hV => ?_)
  have hag := ag_up (q := q88) (i := 88) hag (by decide) (by decide)
  have hcl := Cl_nw hcl 88
  refine c_putR C hI hV ff_X11_86 (fun _ _ _ => rfl) (fun _ => ⟨rfl, rfl⟩) rfl (by decide) dX11_init_204 ?_
  have hcl := Cl_pR hcl 65 41 (x := 88) (by decide)
  exact c_ret hR hag hV dX11_init_207
