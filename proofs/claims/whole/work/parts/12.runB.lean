noncomputable def Read_begin (v0 : Nat) (v1 : Int32) : MM Unit :=
  mb (gR ZF 7 0 v0) fun x1 =>
  mb (vc ZF 9 x1 (Text_clear x1)) fun _ =>
  mb (pI ZF 7 2 v0 (0 : Int32)) fun _ =>
  mb (pI ZF 7 3 v0 (0 : Int32)) fun _ =>
  mb (pI ZF 7 4 v0 (0 : Int32)) fun _ =>
  mb (pI ZF 7 5 v0 (0 : Int32)) fun _ =>
  mb (pZ ZF 7 7 v0 (0 : Int32)) fun _ =>
  mb (pZ ZF 7 8 v0 v1) fun _ =>
  mp ()
set_option maxRecDepth 20000 in
theorem sm_Read_begin {G : GT} {ad : Nat → Nat} {K : Unit → Dm → Prop} (C : Cx G rm_Read_begin cX6_begin 2 RX6) (hV : Vx G rm_Read_begin ad ZF (0, 0)) (hR : RtV G rm_Read_begin ad ZF (0, 0) cX6_begin K) (v0 : Nat) (v1 : Int32) : Sm G rm_Read_begin ad ZF (0, 0) K 0 [(0, .ref v0), (1, .int v1)] [] (Read_begin v0 v1) := by
  unfold Read_begin
  refine s_aload_n C rfl dX6_begin_0 ?_
  refine s_getR C hV fl_X6_12 (fun _ _ _ => rfl) dX6_begin_1 (fun x1 => ?_)
  refine s_wV C hV lv_X6_62 (st := []) (met_Text_clear x1) rf_Read_begin_Text_clear rfl rfl (Nat.le_of_ble_eq_true rfl) dX6_begin_4 ?_
  refine s_aload_n C rfl dX6_begin_7 ?_
  refine s_iconst C (0 : Int32) (by decide) dX6_begin_8 ?_
  refine s_putI C hV fw_X6_22 rfl dX6_begin_9 ?_
  refine s_aload_n C rfl dX6_begin_12 ?_
  refine s_iconst C (0 : Int32) (by decide) dX6_begin_13 ?_
  refine s_putI C hV fw_X6_26 rfl dX6_begin_14 ?_
  refine s_aload_n C rfl dX6_begin_17 ?_
  refine s_iconst C (0 : Int32) (by decide) dX6_begin_18 ?_
  refine s_putI C hV fw_X6_29 rfl dX6_begin_19 ?_
  refine s_aload_n C rfl dX6_begin_22 ?_
  refine s_iconst C (0 : Int32) (by decide) dX6_begin_23 ?_
  refine s_putI C hV fw_X6_32 rfl dX6_begin_24 ?_
  refine s_aload_n C rfl dX6_begin_27 ?_
  refine s_iconst C (0 : Int32) (by decide) dX6_begin_28 ?_
  refine s_putZ C hV fw_X6_39 rfl dX6_begin_29 ?_
  refine s_aload_n C rfl dX6_begin_32 ?_
  refine s_iload_n C rfl dX6_begin_33 ?_
  refine s_putZ C hV fw_X6_43 rfl dX6_begin_34 ?_
  exact s_vret hR dX6_begin_37
set_option maxRecDepth 20000 in
theorem met_Read_begin (v0 : Nat) (v1 : Int32) : MV ZF yX6_begin cX6_begin 2 rm_Read_begin [.ref v0, .int v1] (Read_begin v0 v1) :=
  mv_of (L0 := [(0, .ref v0), (1, .int v1)]) (by decide +kernel) (Nat.le_of_ble_eq_true rfl) rfl (fun G ad K C hV hR => sm_Read_begin C hV hR v0 v1)

noncomputable def Read_isDigit (v0 : Int32) : MM Int32 :=
  if v0 < (48 : Int32) then
  mz (0 : Int32)
  else
  if (57 : Int32) < v0 then
  mz (0 : Int32)
  else
  mz (1 : Int32)
set_option maxRecDepth 20000 in
theorem sm_Read_isDigit {G : GT} {ad : Nat → Nat} {K : Int32 → Dm → Prop} (C : Cx G rm_Read_isDigit cX6_isDigit 1 RX6) (hV : Vx G rm_Read_isDigit ad ZF (0, 0)) (hR : RtI G rm_Read_isDigit ad ZF (0, 0) cX6_isDigit .boolean K) (v0 : Int32) : Sm G rm_Read_isDigit ad ZF (0, 0) K 0 [(0, .int v0)] [] (Read_isDigit v0) := by
  unfold Read_isDigit
  refine s_iload_n C rfl dX6_isDigit_0 ?_
  refine s_bipush C (48 : Int32) (by decide) dX6_isDigit_1 ?_
  refine s_icmp_lt C 16 (by decide) dX6_isDigit_3 ?_ ?_
  · refine s_iconst C (0 : Int32) (by decide) dX6_isDigit_16 ?_
    exact s_iretz hR dX6_isDigit_17
  · refine s_iload_n C rfl dX6_isDigit_6 ?_
    refine s_bipush C (57 : Int32) (by decide) dX6_isDigit_7 ?_
    refine s_icmp_gt C 16 (by decide) dX6_isDigit_9 ?_ ?_
    · refine s_iconst C (0 : Int32) (by decide) dX6_isDigit_16 ?_
      exact s_iretz hR dX6_isDigit_17
    · refine s_iconst C (1 : Int32) (by decide) dX6_isDigit_12 ?_
      refine s_goto C 17 (by decide) dX6_isDigit_13 ?_
      exact s_iretz hR dX6_isDigit_17
set_option maxRecDepth 20000 in
theorem met_Read_isDigit (v0 : Int32) : MI ZF yX6_isDigit cX6_isDigit 1 .boolean rm_Read_isDigit [.int v0] (Read_isDigit v0) :=
  mi_of (L0 := [(0, .int v0)]) (by decide +kernel) (Nat.le_of_ble_eq_true rfl) rfl (fun G ad K C hV hR => sm_Read_isDigit C hV hR v0)

noncomputable def Read_endsComparison_28 (v0 : Nat) (v1 : Int32) (t0 : Int32) : MM Int32 :=
  if t0 = 0 then
  mz (0 : Int32)
  else
  mb (gI ZF 7 5 v0) fun x2 =>
  if x2 = (1 : Int32) then
  if v1 = (43 : Int32) then
  mz (0 : Int32)
  else
  if v1 = (45 : Int32) then
  mz (0 : Int32)
  else
  mz (1 : Int32)
  else
  mz (0 : Int32)
noncomputable def Read_endsComparison_23 (v0 : Nat) (v1 : Int32) : MM Int32 :=
  Read_endsComparison_28 v0 v1 (1 : Int32)
noncomputable def Read_endsComparison_27 (v0 : Nat) (v1 : Int32) : MM Int32 :=
  Read_endsComparison_28 v0 v1 (0 : Int32)
noncomputable def Read_endsComparison (v0 : Nat) (v1 : Int32) : MM Int32 :=
  mb (gI ZF 7 4 v0) fun x1 =>
  if x1 = (3 : Int32) then
  Read_endsComparison_23 v0 v1
  else
  mb (gI ZF 7 4 v0) fun x3 =>
  if x3 = (2 : Int32) then
  mb ((Read_isDigit v1)) fun r4 =>
  if r4 = 0 then
  Read_endsComparison_23 v0 v1
  else
  Read_endsComparison_27 v0 v1
  else
  Read_endsComparison_27 v0 v1
set_option maxRecDepth 20000 in
theorem sm_Read_endsComparison_28 {G : GT} {ad : Nat → Nat} {K : Int32 → Dm → Prop} (C : Cx G rm_Read_endsComparison cX6_endsComparison 3 RX6) (hV : Vx G rm_Read_endsComparison ad ZF (0, 0)) (hR : RtI G rm_Read_endsComparison ad ZF (0, 0) cX6_endsComparison .boolean K) (v0 : Nat) (v1 : Int32) (t0 : Int32) : Sm G rm_Read_endsComparison ad ZF (0, 0) K 28 [(0, .ref v0), (1, .int v1)] [.int t0] (Read_endsComparison_28 v0 v1 t0) := by
  unfold Read_endsComparison_28
  refine s_istore_n C (L' := [(2, .int t0), (0, .ref v0), (1, .int v1)]) (by decide) rfl dX6_endsComparison_28 ?_
  refine s_iload_n C rfl dX6_endsComparison_29 ?_
  refine s_if_eq C 57 (by decide) dX6_endsComparison_30 ?_ ?_
  · refine s_iconst C (0 : Int32) (by decide) dX6_endsComparison_57 ?_
    exact s_iretz hR dX6_endsComparison_58
  · refine s_aload_n C rfl dX6_endsComparison_33 ?_
    refine s_getI C hV fl_X6_32 (fun _ _ _ => rfl) dX6_endsComparison_34 (fun x2 => ?_)
    refine s_iconst C (1 : Int32) (by decide) dX6_endsComparison_37 ?_
    refine s_icmp_ne C 57 (by decide) dX6_endsComparison_38 ?_ ?_
    · refine s_iconst C (0 : Int32) (by decide) dX6_endsComparison_57 ?_
      exact s_iretz hR dX6_endsComparison_58
    · refine s_iload_n C rfl dX6_endsComparison_41 ?_
      refine s_bipush C (43 : Int32) (by decide) dX6_endsComparison_42 ?_
      refine s_icmp_eq C 57 (by decide) dX6_endsComparison_44 ?_ ?_
      · refine s_iconst C (0 : Int32) (by decide) dX6_endsComparison_57 ?_
        exact s_iretz hR dX6_endsComparison_58
      · refine s_iload_n C rfl dX6_endsComparison_47 ?_
        refine s_bipush C (45 : Int32) (by decide) dX6_endsComparison_48 ?_
        refine s_icmp_eq C 57 (by decide) dX6_endsComparison_50 ?_ ?_
        · refine s_iconst C (0 : Int32) (by decide) dX6_endsComparison_57 ?_
          exact s_iretz hR dX6_endsComparison_58
        · refine s_iconst C (1 : Int32) (by decide) dX6_endsComparison_53 ?_
          refine s_goto C 58 (by decide) dX6_endsComparison_54 ?_
          exact s_iretz hR dX6_endsComparison_58
set_option maxRecDepth 20000 in
theorem sm_Read_endsComparison_23 {G : GT} {ad : Nat → Nat} {K : Int32 → Dm → Prop} (C : Cx G rm_Read_endsComparison cX6_endsComparison 3 RX6) (hV : Vx G rm_Read_endsComparison ad ZF (0, 0)) (hR : RtI G rm_Read_endsComparison ad ZF (0, 0) cX6_endsComparison .boolean K) (v0 : Nat) (v1 : Int32) : Sm G rm_Read_endsComparison ad ZF (0, 0) K 23 [(0, .ref v0), (1, .int v1)] [] (Read_endsComparison_23 v0 v1) := by
  unfold Read_endsComparison_23
  refine s_iconst C (1 : Int32) (by decide) dX6_endsComparison_23 ?_
  refine s_goto C 28 (by decide) dX6_endsComparison_24 ?_
  exact s_weak [0, 1] rfl (sm_Read_endsComparison_28 C hV hR v0 v1 (1 : Int32))
set_option maxRecDepth 20000 in
theorem sm_Read_endsComparison_27 {G : GT} {ad : Nat → Nat} {K : Int32 → Dm → Prop} (C : Cx G rm_Read_endsComparison cX6_endsComparison 3 RX6) (hV : Vx G rm_Read_endsComparison ad ZF (0, 0)) (hR : RtI G rm_Read_endsComparison ad ZF (0, 0) cX6_endsComparison .boolean K) (v0 : Nat) (v1 : Int32) : Sm G rm_Read_endsComparison ad ZF (0, 0) K 27 [(0, .ref v0), (1, .int v1)] [] (Read_endsComparison_27 v0 v1) := by
  unfold Read_endsComparison_27
  refine s_iconst C (0 : Int32) (by decide) dX6_endsComparison_27 ?_
  exact s_weak [0, 1] rfl (sm_Read_endsComparison_28 C hV hR v0 v1 (0 : Int32))
set_option maxRecDepth 20000 in
theorem sm_Read_endsComparison {G : GT} {ad : Nat → Nat} {K : Int32 → Dm → Prop} (C : Cx G rm_Read_endsComparison cX6_endsComparison 3 RX6) (hV : Vx G rm_Read_endsComparison ad ZF (0, 0)) (hR : RtI G rm_Read_endsComparison ad ZF (0, 0) cX6_endsComparison .boolean K) (v0 : Nat) (v1 : Int32) : Sm G rm_Read_endsComparison ad ZF (0, 0) K 0 [(0, .ref v0), (1, .int v1)] [] (Read_endsComparison v0 v1) := by
  unfold Read_endsComparison
  refine s_aload_n C rfl dX6_endsComparison_0 ?_
  refine s_getI C hV fl_X6_29 (fun _ _ _ => rfl) dX6_endsComparison_1 (fun x1 => ?_)
  refine s_iconst C (3 : Int32) (by decide) dX6_endsComparison_4 ?_
  refine s_icmp_eq C 23 (by decide) dX6_endsComparison_5 ?_ ?_
  · exact s_weak [0, 1] rfl (sm_Read_endsComparison_23 C hV hR v0 v1)
  · refine s_aload_n C rfl dX6_endsComparison_8 ?_
    refine s_getI C hV fl_X6_29 (fun _ _ _ => rfl) dX6_endsComparison_9 (fun x3 => ?_)
    refine s_iconst C (2 : Int32) (by decide) dX6_endsComparison_12 ?_
    refine s_icmp_ne C 27 (by decide) dX6_endsComparison_13 ?_ ?_
    · exact s_weak [0, 1] rfl (sm_Read_endsComparison_27 C hV hR v0 v1)
    · refine s_iload_n C rfl dX6_endsComparison_16 ?_
      refine s_uI C hV ls_X6_83 (st := []) (met_Read_isDigit v1) rf_Read_endsComparison_Read_isDigit rfl rfl (Nat.le_of_ble_eq_true rfl) dX6_endsComparison_17 (fun r4 => ?_)
      refine s_if_ne C 27 (by decide) dX6_endsComparison_20 ?_ ?_
      · exact s_weak [0, 1] rfl (sm_Read_endsComparison_27 C hV hR v0 v1)
      · exact s_weak [0, 1] rfl (sm_Read_endsComparison_23 C hV hR v0 v1)
set_option maxRecDepth 20000 in
theorem met_Read_endsComparison (v0 : Nat) (v1 : Int32) : MI ZF yX6_endsComparison cX6_endsComparison 3 .boolean rm_Read_endsComparison [.ref v0, .int v1] (Read_endsComparison v0 v1) :=
  mi_of (L0 := [(0, .ref v0), (1, .int v1)]) (by decide +kernel) (Nat.le_of_ble_eq_true rfl) rfl (fun G ad K C hV hR => sm_Read_endsComparison C hV hR v0 v1)

noncomputable def Read_closeFactor_46 (v0 : Nat) : MM Unit :=
  mb (pI ZF 7 4 v0 (4 : Int32)) fun _ =>
  mp ()
noncomputable def Read_closeFactor_0_b (v0 : Nat) : MM (Unit ⊕ Unit) :=
  mb (gI ZF 7 2 v0) fun x1 =>
  if x1 ≤ 0 then
  mr (Read_closeFactor_46 v0)
  else
  mb (gR ZF 7 1 v0) fun x2 =>
  mb (gI ZF 7 2 v0) fun x3 =>
  mb (aI ZF 22 x2 (x3 - (1 : Int32))) fun x4 =>
  if x4 = (33 : Int32) then
  mb (gI ZF 7 2 v0) fun x5 =>
  mb (pI ZF 7 2 v0 (x5 - (1 : Int32))) fun _ =>
  mb (gR ZF 7 0 v0) fun x6 =>
  mb (vc ZF 9 x6 (Text_emit x6 (7 : Int32) (0 : Int32))) fun _ =>
  mp (.inl ())
  else
  mr (Read_closeFactor_46 v0)
noncomputable def Read_closeFactor_0 (v0 : Nat) (s : Unit) : MM Unit := lo (fun (s : Unit) => Read_closeFactor_0_b v0) s
noncomputable def Read_closeFactor (v0 : Nat) : MM Unit := Read_closeFactor_0 v0 ()
set_option maxRecDepth 20000 in
theorem sm_Read_closeFactor_46 {G : GT} {ad : Nat → Nat} {K : Unit → Dm → Prop} (C : Cx G rm_Read_closeFactor cX6_closeFactor 1 RX6) (hV : Vx G rm_Read_closeFactor ad ZF (0, 0)) (hR : RtV G rm_Read_closeFactor ad ZF (0, 0) cX6_closeFactor K) (v0 : Nat) : Sm G rm_Read_closeFactor ad ZF (0, 0) K 46 [(0, .ref v0)] [] (Read_closeFactor_46 v0) := by
  unfold Read_closeFactor_46
  refine s_aload_n C rfl dX6_closeFactor_46 ?_
  refine s_iconst C (4 : Int32) (by decide) dX6_closeFactor_47 ?_
  refine s_putI C hV fw_X6_29 rfl dX6_closeFactor_48 ?_
  exact s_vret hR dX6_closeFactor_51
set_option maxRecDepth 20000 in
theorem sm_Read_closeFactor_0_b {G : GT} {ad : Nat → Nat} {K : Unit → Dm → Prop} (C : Cx G rm_Read_closeFactor cX6_closeFactor 1 RX6) (hV : Vx G rm_Read_closeFactor ad ZF (0, 0)) (hR : RtV G rm_Read_closeFactor ad ZF (0, 0) cX6_closeFactor K) (v0 : Nat) : Sm G rm_Read_closeFactor ad ZF (0, 0) (lpK G rm_Read_closeFactor ad ZF (0, 0) 0 (fun (s : Unit) => [(0, .ref v0)]) K) 0 [(0, .ref v0)] [] (Read_closeFactor_0_b v0) := by
  unfold Read_closeFactor_0_b
  refine s_aload_n C rfl dX6_closeFactor_0 ?_
  refine s_getI C hV fl_X6_22 (fun _ _ _ => rfl) dX6_closeFactor_1 (fun x1 => ?_)
  refine s_if_le C 46 (by decide) dX6_closeFactor_4 ?_ ?_
  · refine s_exit ?_
    exact s_weak [0] rfl (sm_Read_closeFactor_46 C hV hR v0)
  · refine s_aload_n C rfl dX6_closeFactor_7 ?_
    refine s_getR C hV fl_X6_18 (fun _ _ _ => rfl) dX6_closeFactor_8 (fun x2 => ?_)
    refine s_aload_n C rfl dX6_closeFactor_11 ?_
    refine s_getI C hV fl_X6_22 (fun _ _ _ => rfl) dX6_closeFactor_12 (fun x3 => ?_)
    refine s_iconst C (1 : Int32) (by decide) dX6_closeFactor_15 ?_
    refine s_isub C dX6_closeFactor_16 ?_
    refine s_caload C hV dX6_closeFactor_17 (fun x4 => ?_)
    refine s_bipush C (33 : Int32) (by decide) dX6_closeFactor_18 ?_
    refine s_icmp_ne C 46 (by decide) dX6_closeFactor_20 ?_ ?_
    · refine s_exit ?_
      exact s_weak [0] rfl (sm_Read_closeFactor_46 C hV hR v0)
    · refine s_aload_n C rfl dX6_closeFactor_23 ?_
      refine s_dupr C dX6_closeFactor_24 ?_
      refine s_getI C hV fl_X6_22 (fun _ _ _ => rfl) dX6_closeFactor_25 (fun x5 => ?_)
      refine s_iconst C (1 : Int32) (by decide) dX6_closeFactor_28 ?_
      refine s_isub C dX6_closeFactor_29 ?_
      refine s_putI C hV fw_X6_22 rfl dX6_closeFactor_30 ?_
      refine s_aload_n C rfl dX6_closeFactor_33 ?_
      refine s_getR C hV fl_X6_12 (fun _ _ _ => rfl) dX6_closeFactor_34 (fun x6 => ?_)
      refine s_bipush C (7 : Int32) (by decide) dX6_closeFactor_37 ?_
      refine s_iconst C (0 : Int32) (by decide) dX6_closeFactor_39 ?_
      refine s_wV C hV lv_X6_108 (st := []) (met_Text_emit x6 (7 : Int32) (0 : Int32)) rf_Read_closeFactor_Text_emit rfl rfl (Nat.le_of_ble_eq_true rfl) dX6_closeFactor_40 ?_
      refine s_goto C 0 (by decide) dX6_closeFactor_43 ?_
      exact s_back [0] () rfl
set_option maxRecDepth 20000 in
theorem sm_Read_closeFactor_0 {G : GT} {ad : Nat → Nat} {K : Unit → Dm → Prop} (C : Cx G rm_Read_closeFactor cX6_closeFactor 1 RX6) (hV : Vx G rm_Read_closeFactor ad ZF (0, 0)) (hR : RtV G rm_Read_closeFactor ad ZF (0, 0) cX6_closeFactor K) (v0 : Nat) (s : Unit) : Sm G rm_Read_closeFactor ad ZF (0, 0) K 0 ((fun (s : Unit) => [(0, .ref v0)]) s) [] (Read_closeFactor_0 v0 s) :=
  s_loop (en := (fun (s : Unit) => [(0, .ref v0)])) (fun s => sm_Read_closeFactor_0_b C hV hR v0) s
set_option maxRecDepth 20000 in
theorem met_Read_closeFactor (v0 : Nat) : MV ZF yX6_closeFactor cX6_closeFactor 1 rm_Read_closeFactor [.ref v0] (Read_closeFactor v0) :=
  mv_of (L0 := [(0, .ref v0)]) (by decide +kernel) (Nat.le_of_ble_eq_true rfl) rfl (fun G ad K C hV hR => s_weak [0] rfl (sm_Read_closeFactor_0 C hV hR v0 ()))

noncomputable def Read_closeComparison_32 (v0 : Nat) (t0 : Nat) (t1 : Int32) : MM Unit :=
  mb (vc ZF 9 t0 (Text_emit t0 t1 (0 : Int32))) fun _ =>
  mb (vc ZF 7 v0 (Read_closeFactor v0)) fun _ =>
  mp ()
noncomputable def Read_closeComparison (v0 : Nat) : MM Unit :=
  mb (gR ZF 7 0 v0) fun x1 =>
  mb (gI ZF 7 6 v0) fun x2 =>
  if x2 = (60 : Int32) then
  Read_closeComparison_32 v0 x1 (4 : Int32)
  else
  mb (gI ZF 7 6 v0) fun x3 =>
  Read_closeComparison_32 v0 x1 (if x3 = (61 : Int32) then (5 : Int32) else (6 : Int32))
set_option maxRecDepth 20000 in
theorem sm_Read_closeComparison_32 {G : GT} {ad : Nat → Nat} {K : Unit → Dm → Prop} (C : Cx G rm_Read_closeComparison cX6_closeComparison 1 RX6) (hV : Vx G rm_Read_closeComparison ad ZF (0, 0)) (hR : RtV G rm_Read_closeComparison ad ZF (0, 0) cX6_closeComparison K) (v0 : Nat) (t0 : Nat) (t1 : Int32) : Sm G rm_Read_closeComparison ad ZF (0, 0) K 32 [(0, .ref v0)] [.int t1, .ref t0] (Read_closeComparison_32 v0 t0 t1) := by
  unfold Read_closeComparison_32
  refine s_iconst C (0 : Int32) (by decide) dX6_closeComparison_32 ?_
  refine s_wV C hV lv_X6_108 (st := []) (met_Text_emit t0 t1 (0 : Int32)) rf_Read_closeComparison_Text_emit rfl rfl (Nat.le_of_ble_eq_true rfl) dX6_closeComparison_33 ?_
  refine s_aload_n C rfl dX6_closeComparison_36 ?_
  refine s_wV C hV lv_X6_126 (st := []) (met_Read_closeFactor v0) rf_Read_closeComparison_Read_closeFactor rfl rfl (Nat.le_of_ble_eq_true rfl) dX6_closeComparison_37 ?_
  exact s_vret hR dX6_closeComparison_40
set_option maxRecDepth 20000 in
theorem sm_Read_closeComparison {G : GT} {ad : Nat → Nat} {K : Unit → Dm → Prop} (C : Cx G rm_Read_closeComparison cX6_closeComparison 1 RX6) (hV : Vx G rm_Read_closeComparison ad ZF (0, 0)) (hR : RtV G rm_Read_closeComparison ad ZF (0, 0) cX6_closeComparison K) (v0 : Nat) : Sm G rm_Read_closeComparison ad ZF (0, 0) K 0 [(0, .ref v0)] [] (Read_closeComparison v0) := by
  unfold Read_closeComparison
  refine s_aload_n C rfl dX6_closeComparison_0 ?_
  refine s_getR C hV fl_X6_12 (fun _ _ _ => rfl) dX6_closeComparison_1 (fun x1 => ?_)
  refine s_aload_n C rfl dX6_closeComparison_4 ?_
  refine s_getI C hV fl_X6_35 (fun _ _ _ => rfl) dX6_closeComparison_5 (fun x2 => ?_)
  refine s_bipush C (60 : Int32) (by decide) dX6_closeComparison_8 ?_
  refine s_icmp_ne C 17 (by decide) dX6_closeComparison_10 ?_ ?_
  · refine s_aload_n C rfl dX6_closeComparison_17 ?_
    refine s_getI C hV fl_X6_35 (fun _ _ _ => rfl) dX6_closeComparison_18 (fun x3 => ?_)
    refine s_bipush C (61 : Int32) (by decide) dX6_closeComparison_21 ?_
    refine s_ite (g := fun z => Read_closeComparison_32 v0 x1 z) ?_
    refine s_icmp_ne C 30 (by decide) dX6_closeComparison_23 ?_ ?_
    · refine s_bipush C (6 : Int32) (by decide) dX6_closeComparison_30 ?_
      exact s_weak [0] rfl (sm_Read_closeComparison_32 C hV hR v0 x1 (6 : Int32))
    · refine s_iconst C (5 : Int32) (by decide) dX6_closeComparison_26 ?_
      refine s_goto C 32 (by decide) dX6_closeComparison_27 ?_
      exact s_weak [0] rfl (sm_Read_closeComparison_32 C hV hR v0 x1 (5 : Int32))
  · refine s_iconst C (4 : Int32) (by decide) dX6_closeComparison_13 ?_
    refine s_goto C 32 (by decide) dX6_closeComparison_14 ?_
    exact s_weak [0] rfl (sm_Read_closeComparison_32 C hV hR v0 x1 (4 : Int32))
set_option maxRecDepth 20000 in
theorem met_Read_closeComparison (v0 : Nat) : MV ZF yX6_closeComparison cX6_closeComparison 1 rm_Read_closeComparison [.ref v0] (Read_closeComparison v0) :=
  mv_of (L0 := [(0, .ref v0)]) (by decide +kernel) (Nat.le_of_ble_eq_true rfl) rfl (fun G ad K C hV hR => sm_Read_closeComparison C hV hR v0)

noncomputable def Read_keep (v0 : Nat) (v1 : Int32) : MM Unit :=
  mb (gI ZF 7 2 v0) fun x1 =>
  if (60 : Int32) ≤ x1 then
  mp ()
  else
  mb (gR ZF 7 1 v0) fun x2 =>
  mb (gI ZF 7 2 v0) fun x3 =>
  mb (sC ZF x2 x3 v1) fun _ =>
  mb (gI ZF 7 2 v0) fun x4 =>
  mb (pI ZF 7 2 v0 (x4 + (1 : Int32))) fun _ =>
  mp ()
set_option maxRecDepth 20000 in
theorem sm_Read_keep {G : GT} {ad : Nat → Nat} {K : Unit → Dm → Prop} (C : Cx G rm_Read_keep cX6_keep 2 RX6) (hV : Vx G rm_Read_keep ad ZF (0, 0)) (hR : RtV G rm_Read_keep ad ZF (0, 0) cX6_keep K) (v0 : Nat) (v1 : Int32) : Sm G rm_Read_keep ad ZF (0, 0) K 0 [(0, .ref v0), (1, .int v1)] [] (Read_keep v0 v1) := by
  unfold Read_keep
  refine s_aload_n C rfl dX6_keep_0 ?_
  refine s_getI C hV fl_X6_22 (fun _ _ _ => rfl) dX6_keep_1 (fun x1 => ?_)
  refine s_bipush C (60 : Int32) (by decide) dX6_keep_4 ?_
  refine s_icmp_ge C 29 (by decide) dX6_keep_6 ?_ ?_
  · exact s_vret hR dX6_keep_29
  · refine s_aload_n C rfl dX6_keep_9 ?_
    refine s_getR C hV fl_X6_18 (fun _ _ _ => rfl) dX6_keep_10 (fun x2 => ?_)
    refine s_aload_n C rfl dX6_keep_13 ?_
    refine s_getI C hV fl_X6_22 (fun _ _ _ => rfl) dX6_keep_14 (fun x3 => ?_)
    refine s_iload_n C rfl dX6_keep_17 ?_
    refine s_castore C hV dX6_keep_18 ?_
    refine s_aload_n C rfl dX6_keep_19 ?_
    refine s_dupr C dX6_keep_20 ?_
    refine s_getI C hV fl_X6_22 (fun _ _ _ => rfl) dX6_keep_21 (fun x4 => ?_)
    refine s_iconst C (1 : Int32) (by decide) dX6_keep_24 ?_
    refine s_iadd C dX6_keep_25 ?_
    refine s_putI C hV fw_X6_22 rfl dX6_keep_26 ?_
    exact s_vret hR dX6_keep_29
set_option maxRecDepth 20000 in
theorem met_Read_keep (v0 : Nat) (v1 : Int32) : MV ZF yX6_keep cX6_keep 2 rm_Read_keep [.ref v0, .int v1] (Read_keep v0 v1) :=
  mv_of (L0 := [(0, .ref v0), (1, .int v1)]) (by decide +kernel) (Nat.le_of_ble_eq_true rfl) rfl (fun G ad K C hV hR => sm_Read_keep C hV hR v0 v1)

noncomputable def Read_isLetter (v0 : Int32) : MM Int32 :=
  if v0 < (97 : Int32) then
  mz (0 : Int32)
  else
  if (104 : Int32) < v0 then
  mz (0 : Int32)
  else
  mz (1 : Int32)
set_option maxRecDepth 20000 in
theorem sm_Read_isLetter {G : GT} {ad : Nat → Nat} {K : Int32 → Dm → Prop} (C : Cx G rm_Read_isLetter cX6_isLetter 1 RX6) (hV : Vx G rm_Read_isLetter ad ZF (0, 0)) (hR : RtI G rm_Read_isLetter ad ZF (0, 0) cX6_isLetter .boolean K) (v0 : Int32) : Sm G rm_Read_isLetter ad ZF (0, 0) K 0 [(0, .int v0)] [] (Read_isLetter v0) := by
  unfold Read_isLetter
  refine s_iload_n C rfl dX6_isLetter_0 ?_
  refine s_bipush C (97 : Int32) (by decide) dX6_isLetter_1 ?_
  refine s_icmp_lt C 16 (by decide) dX6_isLetter_3 ?_ ?_
  · refine s_iconst C (0 : Int32) (by decide) dX6_isLetter_16 ?_
    exact s_iretz hR dX6_isLetter_17
  · refine s_iload_n C rfl dX6_isLetter_6 ?_
    refine s_bipush C (104 : Int32) (by decide) dX6_isLetter_7 ?_
    refine s_icmp_gt C 16 (by decide) dX6_isLetter_9 ?_ ?_
    · refine s_iconst C (0 : Int32) (by decide) dX6_isLetter_16 ?_
      exact s_iretz hR dX6_isLetter_17
    · refine s_iconst C (1 : Int32) (by decide) dX6_isLetter_12 ?_
      refine s_goto C 17 (by decide) dX6_isLetter_13 ?_
      exact s_iretz hR dX6_isLetter_17
set_option maxRecDepth 20000 in
theorem met_Read_isLetter (v0 : Int32) : MI ZF yX6_isLetter cX6_isLetter 1 .boolean rm_Read_isLetter [.int v0] (Read_isLetter v0) :=
  mi_of (L0 := [(0, .int v0)]) (by decide +kernel) (Nat.le_of_ble_eq_true rfl) rfl (fun G ad K C hV hR => sm_Read_isLetter C hV hR v0)

noncomputable def Read_takesUnit_80 (v0 : Nat) (v1 : Int32) (t0 : Nat) (t1 : Int32) : MM Int32 :=
  mb (vc ZF 9 t0 (Text_emit t0 t1 (v1 - (48 : Int32)))) fun _ =>
  mb (pI ZF 7 4 v0 (2 : Int32)) fun _ =>
  mz (1 : Int32)
noncomputable def Read_takesUnit_46 (v0 : Nat) (v1 : Int32) (t0 : Nat) (t1 : Int32) : MM Int32 :=
  mb (vc ZF 9 t0 (Text_emit t0 t1 (v1 - (97 : Int32)))) fun _ =>
  mb (pI ZF 7 4 v0 (3 : Int32)) fun _ =>
  mz (1 : Int32)
noncomputable def Read_takesUnit_25 (v0 : Nat) (v1 : Int32) (t0 : Int32) : MM Int32 :=
  mb ((Read_isLetter v1)) fun r3 =>
  if r3 = 0 then
  mb ((Read_isDigit v1)) fun r4 =>
  if r4 = 0 then
  mz (0 : Int32)
  else
  mb (gR ZF 7 0 v0) fun x5 =>
  Read_takesUnit_80 v0 v1 x5 (if t0 = 0 then (0 : Int32) else (1 : Int32))
  else
  mb (gR ZF 7 0 v0) fun x6 =>
  Read_takesUnit_46 v0 v1 x6 (if t0 = 0 then (2 : Int32) else (3 : Int32))
noncomputable def Read_takesUnit_17 (v0 : Nat) (v1 : Int32) (t0 : Int32) (t1 : Int32) : MM Int32 :=
  Read_takesUnit_25 v0 v1 (if t0 = t1 then (0 : Int32) else (1 : Int32))
noncomputable def Read_takesUnit (v0 : Nat) (v1 : Int32) : MM Int32 :=
  mb (gI ZF 7 7 v0) fun x1 =>
  mb (gI ZF 7 5 v0) fun x2 =>
  Read_takesUnit_17 v0 v1 x1 (if x2 = (1 : Int32) then (1 : Int32) else (0 : Int32))
set_option maxRecDepth 20000 in
theorem sm_Read_takesUnit_80 {G : GT} {ad : Nat → Nat} {K : Int32 → Dm → Prop} (C : Cx G rm_Read_takesUnit cX6_takesUnit 3 RX6) (hV : Vx G rm_Read_takesUnit ad ZF (0, 0)) (hR : RtI G rm_Read_takesUnit ad ZF (0, 0) cX6_takesUnit .boolean K) (v0 : Nat) (v1 : Int32) (t0 : Nat) (t1 : Int32) : Sm G rm_Read_takesUnit ad ZF (0, 0) K 80 [(0, .ref v0), (1, .int v1)] [.int t1, .ref t0] (Read_takesUnit_80 v0 v1 t0 t1) := by
  unfold Read_takesUnit_80
  refine s_iload_n C rfl dX6_takesUnit_80 ?_
  refine s_bipush C (48 : Int32) (by decide) dX6_takesUnit_81 ?_
  refine s_isub C dX6_takesUnit_83 ?_
  refine s_wV C hV lv_X6_108 (st := []) (met_Text_emit t0 t1 (v1 - (48 : Int32))) rf_Read_takesUnit_Text_emit rfl rfl (Nat.le_of_ble_eq_true rfl) dX6_takesUnit_84 ?_
  refine s_aload_n C rfl dX6_takesUnit_87 ?_
  refine s_iconst C (2 : Int32) (by decide) dX6_takesUnit_88 ?_
  refine s_putI C hV fw_X6_29 rfl dX6_takesUnit_89 ?_
  refine s_iconst C (1 : Int32) (by decide) dX6_takesUnit_92 ?_
  exact s_iretz hR dX6_takesUnit_93
set_option maxRecDepth 20000 in
theorem sm_Read_takesUnit_46 {G : GT} {ad : Nat → Nat} {K : Int32 → Dm → Prop} (C : Cx G rm_Read_takesUnit cX6_takesUnit 3 RX6) (hV : Vx G rm_Read_takesUnit ad ZF (0, 0)) (hR : RtI G rm_Read_takesUnit ad ZF (0, 0) cX6_takesUnit .boolean K) (v0 : Nat) (v1 : Int32) (t0 : Nat) (t1 : Int32) : Sm G rm_Read_takesUnit ad ZF (0, 0) K 46 [(0, .ref v0), (1, .int v1)] [.int t1, .ref t0] (Read_takesUnit_46 v0 v1 t0 t1) := by
  unfold Read_takesUnit_46
  refine s_iload_n C rfl dX6_takesUnit_46 ?_
  refine s_bipush C (97 : Int32) (by decide) dX6_takesUnit_47 ?_
  refine s_isub C dX6_takesUnit_49 ?_
  refine s_wV C hV lv_X6_108 (st := []) (met_Text_emit t0 t1 (v1 - (97 : Int32))) rf_Read_takesUnit_Text_emit rfl rfl (Nat.le_of_ble_eq_true rfl) dX6_takesUnit_50 ?_
  refine s_aload_n C rfl dX6_takesUnit_53 ?_
  refine s_iconst C (3 : Int32) (by decide) dX6_takesUnit_54 ?_
  refine s_putI C hV fw_X6_29 rfl dX6_takesUnit_55 ?_
  refine s_iconst C (1 : Int32) (by decide) dX6_takesUnit_58 ?_
  exact s_iretz hR dX6_takesUnit_59
set_option maxRecDepth 20000 in
theorem sm_Read_takesUnit_25 {G : GT} {ad : Nat → Nat} {K : Int32 → Dm → Prop} (C : Cx G rm_Read_takesUnit cX6_takesUnit 3 RX6) (hV : Vx G rm_Read_takesUnit ad ZF (0, 0)) (hR : RtI G rm_Read_takesUnit ad ZF (0, 0) cX6_takesUnit .boolean K) (v0 : Nat) (v1 : Int32) (t0 : Int32) : Sm G rm_Read_takesUnit ad ZF (0, 0) K 25 [(0, .ref v0), (1, .int v1)] [.int t0] (Read_takesUnit_25 v0 v1 t0) := by
  unfold Read_takesUnit_25
  refine s_istore_n C (L' := [(2, .int t0), (0, .ref v0), (1, .int v1)]) (by decide) rfl dX6_takesUnit_25 ?_
  refine s_iload_n C rfl dX6_takesUnit_26 ?_
  refine s_uI C hV ls_X6_105 (st := []) (met_Read_isLetter v1) rf_Read_takesUnit_Read_isLetter rfl rfl (Nat.le_of_ble_eq_true rfl) dX6_takesUnit_27 (fun r3 => ?_)
  refine s_if_eq C 60 (by decide) dX6_takesUnit_30 ?_ ?_
  · refine s_iload_n C rfl dX6_takesUnit_60 ?_
    refine s_uI C hV ls_X6_83 (st := []) (met_Read_isDigit v1) rf_Read_takesUnit_Read_isDigit rfl rfl (Nat.le_of_ble_eq_true rfl) dX6_takesUnit_61 (fun r4 => ?_)
    refine s_if_eq C 94 (by decide) dX6_takesUnit_64 ?_ ?_
    · refine s_iconst C (0 : Int32) (by decide) dX6_takesUnit_94 ?_
      exact s_iretz hR dX6_takesUnit_95
    · refine s_aload_n C rfl dX6_takesUnit_67 ?_
      refine s_getR C hV fl_X6_12 (fun _ _ _ => rfl) dX6_takesUnit_68 (fun x5 => ?_)
      refine s_iload_n C rfl dX6_takesUnit_71 ?_
      refine s_ite (g := fun z => Read_takesUnit_80 v0 v1 x5 z) ?_
      refine s_if_eq C 79 (by decide) dX6_takesUnit_72 ?_ ?_
      · refine s_iconst C (0 : Int32) (by decide) dX6_takesUnit_79 ?_
        exact s_weak [0, 1] rfl (sm_Read_takesUnit_80 C hV hR v0 v1 x5 (0 : Int32))
      · refine s_iconst C (1 : Int32) (by decide) dX6_takesUnit_75 ?_
        refine s_goto C 80 (by decide) dX6_takesUnit_76 ?_
        exact s_weak [0, 1] rfl (sm_Read_takesUnit_80 C hV hR v0 v1 x5 (1 : Int32))
  · refine s_aload_n C rfl dX6_takesUnit_33 ?_
    refine s_getR C hV fl_X6_12 (fun _ _ _ => rfl) dX6_takesUnit_34 (fun x6 => ?_)
    refine s_iload_n C rfl dX6_takesUnit_37 ?_
    refine s_ite (g := fun z => Read_takesUnit_46 v0 v1 x6 z) ?_
    refine s_if_eq C 45 (by decide) dX6_takesUnit_38 ?_ ?_
    · refine s_iconst C (2 : Int32) (by decide) dX6_takesUnit_45 ?_
      exact s_weak [0, 1] rfl (sm_Read_takesUnit_46 C hV hR v0 v1 x6 (2 : Int32))
    · refine s_iconst C (3 : Int32) (by decide) dX6_takesUnit_41 ?_
      refine s_goto C 46 (by decide) dX6_takesUnit_42 ?_
      exact s_weak [0, 1] rfl (sm_Read_takesUnit_46 C hV hR v0 v1 x6 (3 : Int32))
set_option maxRecDepth 20000 in
theorem sm_Read_takesUnit_17 {G : GT} {ad : Nat → Nat} {K : Int32 → Dm → Prop} (C : Cx G rm_Read_takesUnit cX6_takesUnit 3 RX6) (hV : Vx G rm_Read_takesUnit ad ZF (0, 0)) (hR : RtI G rm_Read_takesUnit ad ZF (0, 0) cX6_takesUnit .boolean K) (v0 : Nat) (v1 : Int32) (t0 : Int32) (t1 : Int32) : Sm G rm_Read_takesUnit ad ZF (0, 0) K 17 [(0, .ref v0), (1, .int v1)] [.int t1, .int t0] (Read_takesUnit_17 v0 v1 t0 t1) := by
  unfold Read_takesUnit_17
  refine s_ite (g := fun z => Read_takesUnit_25 v0 v1 z) ?_
  refine s_icmp_eq C 24 (by decide) dX6_takesUnit_17 ?_ ?_
  · refine s_iconst C (0 : Int32) (by decide) dX6_takesUnit_24 ?_
    exact s_weak [0, 1] rfl (sm_Read_takesUnit_25 C hV hR v0 v1 (0 : Int32))
  · refine s_iconst C (1 : Int32) (by decide) dX6_takesUnit_20 ?_
    refine s_goto C 25 (by decide) dX6_takesUnit_21 ?_
    exact s_weak [0, 1] rfl (sm_Read_takesUnit_25 C hV hR v0 v1 (1 : Int32))
set_option maxRecDepth 20000 in
theorem sm_Read_takesUnit {G : GT} {ad : Nat → Nat} {K : Int32 → Dm → Prop} (C : Cx G rm_Read_takesUnit cX6_takesUnit 3 RX6) (hV : Vx G rm_Read_takesUnit ad ZF (0, 0)) (hR : RtI G rm_Read_takesUnit ad ZF (0, 0) cX6_takesUnit .boolean K) (v0 : Nat) (v1 : Int32) : Sm G rm_Read_takesUnit ad ZF (0, 0) K 0 [(0, .ref v0), (1, .int v1)] [] (Read_takesUnit v0 v1) := by
  unfold Read_takesUnit
  refine s_aload_n C rfl dX6_takesUnit_0 ?_
  refine s_getI C hV fl_X6_39 (fun _ _ _ => rfl) dX6_takesUnit_1 (fun x1 => ?_)
  refine s_aload_n C rfl dX6_takesUnit_4 ?_
  refine s_getI C hV fl_X6_32 (fun _ _ _ => rfl) dX6_takesUnit_5 (fun x2 => ?_)
  refine s_iconst C (1 : Int32) (by decide) dX6_takesUnit_8 ?_
  refine s_ite (g := fun z => Read_takesUnit_17 v0 v1 x1 z) ?_
  refine s_icmp_ne C 16 (by decide) dX6_takesUnit_9 ?_ ?_
  · refine s_iconst C (0 : Int32) (by decide) dX6_takesUnit_16 ?_
    exact s_weak [0, 1] rfl (sm_Read_takesUnit_17 C hV hR v0 v1 x1 (0 : Int32))
  · refine s_iconst C (1 : Int32) (by decide) dX6_takesUnit_12 ?_
    refine s_goto C 17 (by decide) dX6_takesUnit_13 ?_
    exact s_weak [0, 1] rfl (sm_Read_takesUnit_17 C hV hR v0 v1 x1 (1 : Int32))
set_option maxRecDepth 20000 in
theorem met_Read_takesUnit (v0 : Nat) (v1 : Int32) : MI ZF yX6_takesUnit cX6_takesUnit 3 .boolean rm_Read_takesUnit [.ref v0, .int v1] (Read_takesUnit v0 v1) :=
  mi_of (L0 := [(0, .ref v0), (1, .int v1)]) (by decide +kernel) (Nat.le_of_ble_eq_true rfl) rfl (fun G ad K C hV hR => sm_Read_takesUnit C hV hR v0 v1)

noncomputable def Read_takesFactor_28 (v0 : Nat) (v1 : Int32) (t0 : Nat) (t1 : Int32) (t2 : Int32) : MM Int32 :=
  mb (pI ZF 7 3 t0 (t1 + t2)) fun _ =>
  mb (vc ZF 7 v0 (Read_keep v0 v1)) fun _ =>
  mz (1 : Int32)
noncomputable def Read_takesFactor_12 (v0 : Nat) (v1 : Int32) : MM Int32 :=
  mb (gI ZF 7 3 v0) fun x1 =>
  Read_takesFactor_28 v0 v1 v0 x1 (if v1 = (40 : Int32) then (1 : Int32) else (0 : Int32))
noncomputable def Read_takesFactor (v0 : Nat) (v1 : Int32) : MM Int32 :=
  if v1 = (33 : Int32) then
  Read_takesFactor_12 v0 v1
  else
  if v1 = (40 : Int32) then
  Read_takesFactor_12 v0 v1
  else
  mb (pI ZF 7 5 v0 (0 : Int32)) fun _ =>
  mb (pZ ZF 7 7 v0 (0 : Int32)) fun _ =>
  mb (vc ZF 7 v0 (Read_takesUnit v0 v1)) fun r2 =>
  mz r2
set_option maxRecDepth 20000 in
theorem sm_Read_takesFactor_28 {G : GT} {ad : Nat → Nat} {K : Int32 → Dm → Prop} (C : Cx G rm_Read_takesFactor cX6_takesFactor 2 RX6) (hV : Vx G rm_Read_takesFactor ad ZF (0, 0)) (hR : RtI G rm_Read_takesFactor ad ZF (0, 0) cX6_takesFactor .boolean K) (v0 : Nat) (v1 : Int32) (t0 : Nat) (t1 : Int32) (t2 : Int32) : Sm G rm_Read_takesFactor ad ZF (0, 0) K 28 [(0, .ref v0), (1, .int v1)] [.int t2, .int t1, .ref t0] (Read_takesFactor_28 v0 v1 t0 t1 t2) := by
  unfold Read_takesFactor_28
  refine s_iadd C dX6_takesFactor_28 ?_
  refine s_putI C hV fw_X6_26 rfl dX6_takesFactor_29 ?_
  refine s_aload_n C rfl dX6_takesFactor_32 ?_
  refine s_iload_n C rfl dX6_takesFactor_33 ?_
  refine s_wV C hV lv_X6_101 (st := []) (met_Read_keep v0 v1) rf_Read_takesFactor_Read_keep rfl rfl (Nat.le_of_ble_eq_true rfl) dX6_takesFactor_34 ?_
  refine s_iconst C (1 : Int32) (by decide) dX6_takesFactor_37 ?_
  exact s_iretz hR dX6_takesFactor_38
set_option maxRecDepth 20000 in
theorem sm_Read_takesFactor_12 {G : GT} {ad : Nat → Nat} {K : Int32 → Dm → Prop} (C : Cx G rm_Read_takesFactor cX6_takesFactor 2 RX6) (hV : Vx G rm_Read_takesFactor ad ZF (0, 0)) (hR : RtI G rm_Read_takesFactor ad ZF (0, 0) cX6_takesFactor .boolean K) (v0 : Nat) (v1 : Int32) : Sm G rm_Read_takesFactor ad ZF (0, 0) K 12 [(0, .ref v0), (1, .int v1)] [] (Read_takesFactor_12 v0 v1) := by
  unfold Read_takesFactor_12
  refine s_aload_n C rfl dX6_takesFactor_12 ?_
  refine s_dupr C dX6_takesFactor_13 ?_
  refine s_getI C hV fl_X6_26 (fun _ _ _ => rfl) dX6_takesFactor_14 (fun x1 => ?_)
  refine s_iload_n C rfl dX6_takesFactor_17 ?_
  refine s_bipush C (40 : Int32) (by decide) dX6_takesFactor_18 ?_
  refine s_ite (g := fun z => Read_takesFactor_28 v0 v1 v0 x1 z) ?_
  refine s_icmp_ne C 27 (by decide) dX6_takesFactor_20 ?_ ?_
  · refine s_iconst C (0 : Int32) (by decide) dX6_takesFactor_27 ?_
    exact s_weak [0, 1] rfl (sm_Read_takesFactor_28 C hV hR v0 v1 v0 x1 (0 : Int32))
  · refine s_iconst C (1 : Int32) (by decide) dX6_takesFactor_23 ?_
    refine s_goto C 28 (by decide) dX6_takesFactor_24 ?_
    exact s_weak [0, 1] rfl (sm_Read_takesFactor_28 C hV hR v0 v1 v0 x1 (1 : Int32))
set_option maxRecDepth 20000 in
theorem sm_Read_takesFactor {G : GT} {ad : Nat → Nat} {K : Int32 → Dm → Prop} (C : Cx G rm_Read_takesFactor cX6_takesFactor 2 RX6) (hV : Vx G rm_Read_takesFactor ad ZF (0, 0)) (hR : RtI G rm_Read_takesFactor ad ZF (0, 0) cX6_takesFactor .boolean K) (v0 : Nat) (v1 : Int32) : Sm G rm_Read_takesFactor ad ZF (0, 0) K 0 [(0, .ref v0), (1, .int v1)] [] (Read_takesFactor v0 v1) := by
  unfold Read_takesFactor
  refine s_iload_n C rfl dX6_takesFactor_0 ?_
  refine s_bipush C (33 : Int32) (by decide) dX6_takesFactor_1 ?_
  refine s_icmp_eq C 12 (by decide) dX6_takesFactor_3 ?_ ?_
  · exact s_weak [0, 1] rfl (sm_Read_takesFactor_12 C hV hR v0 v1)
  · refine s_iload_n C rfl dX6_takesFactor_6 ?_
    refine s_bipush C (40 : Int32) (by decide) dX6_takesFactor_7 ?_
    refine s_icmp_ne C 39 (by decide) dX6_takesFactor_9 ?_ ?_
    · refine s_aload_n C rfl dX6_takesFactor_39 ?_
      refine s_iconst C (0 : Int32) (by decide) dX6_takesFactor_40 ?_
      refine s_putI C hV fw_X6_32 rfl dX6_takesFactor_41 ?_
      refine s_aload_n C rfl dX6_takesFactor_44 ?_
      refine s_iconst C (0 : Int32) (by decide) dX6_takesFactor_45 ?_
      refine s_putZ C hV fw_X6_39 rfl dX6_takesFactor_46 ?_
      refine s_aload_n C rfl dX6_takesFactor_49 ?_
      refine s_iload_n C rfl dX6_takesFactor_50 ?_
      refine s_wI C hV lv_X6_80 (st := []) (met_Read_takesUnit v0 v1) rf_Read_takesFactor_Read_takesUnit rfl rfl (Nat.le_of_ble_eq_true rfl) dX6_takesFactor_51 (fun r2 => ?_)
      exact s_iretz hR dX6_takesFactor_54
    · exact s_weak [0, 1] rfl (sm_Read_takesFactor_12 C hV hR v0 v1)
set_option maxRecDepth 20000 in
theorem met_Read_takesFactor (v0 : Nat) (v1 : Int32) : MI ZF yX6_takesFactor cX6_takesFactor 2 .boolean rm_Read_takesFactor [.ref v0, .int v1] (Read_takesFactor v0 v1) :=
  mi_of (L0 := [(0, .ref v0), (1, .int v1)]) (by decide +kernel) (Nat.le_of_ble_eq_true rfl) rfl (fun G ad K C hV hR => sm_Read_takesFactor C hV hR v0 v1)

noncomputable def Read_takesSecondDigit (v0 : Nat) (v1 : Int32) : MM Int32 :=
  mb (gR ZF 7 0 v0) fun x1 =>
  mb (vc ZF 9 x1 (Text_widen x1 (v1 - (48 : Int32)))) fun _ =>
  mb (pI ZF 7 4 v0 (3 : Int32)) fun _ =>
  mz (1 : Int32)
set_option maxRecDepth 20000 in
theorem sm_Read_takesSecondDigit {G : GT} {ad : Nat → Nat} {K : Int32 → Dm → Prop} (C : Cx G rm_Read_takesSecondDigit cX6_takesSecondDigit 2 RX6) (hV : Vx G rm_Read_takesSecondDigit ad ZF (0, 0)) (hR : RtI G rm_Read_takesSecondDigit ad ZF (0, 0) cX6_takesSecondDigit .boolean K) (v0 : Nat) (v1 : Int32) : Sm G rm_Read_takesSecondDigit ad ZF (0, 0) K 0 [(0, .ref v0), (1, .int v1)] [] (Read_takesSecondDigit v0 v1) := by
  unfold Read_takesSecondDigit
  refine s_aload_n C rfl dX6_takesSecondDigit_0 ?_
  refine s_getR C hV fl_X6_12 (fun _ _ _ => rfl) dX6_takesSecondDigit_1 (fun x1 => ?_)
  refine s_iload_n C rfl dX6_takesSecondDigit_4 ?_
  refine s_bipush C (48 : Int32) (by decide) dX6_takesSecondDigit_5 ?_
  refine s_isub C dX6_takesSecondDigit_7 ?_
  refine s_wV C hV lv_X6_112 (st := []) (met_Text_widen x1 (v1 - (48 : Int32))) rf_Read_takesSecondDigit_Text_widen rfl rfl (Nat.le_of_ble_eq_true rfl) dX6_takesSecondDigit_8 ?_
  refine s_aload_n C rfl dX6_takesSecondDigit_11 ?_
  refine s_iconst C (3 : Int32) (by decide) dX6_takesSecondDigit_12 ?_
  refine s_putI C hV fw_X6_29 rfl dX6_takesSecondDigit_13 ?_
  refine s_iconst C (1 : Int32) (by decide) dX6_takesSecondDigit_16 ?_
  exact s_iretz hR dX6_takesSecondDigit_17
set_option maxRecDepth 20000 in
theorem met_Read_takesSecondDigit (v0 : Nat) (v1 : Int32) : MI ZF yX6_takesSecondDigit cX6_takesSecondDigit 2 .boolean rm_Read_takesSecondDigit [.ref v0, .int v1] (Read_takesSecondDigit v0 v1) :=
  mi_of (L0 := [(0, .ref v0), (1, .int v1)]) (by decide +kernel) (Nat.le_of_ble_eq_true rfl) rfl (fun G ad K C hV hR => sm_Read_takesSecondDigit C hV hR v0 v1)

noncomputable def Read_takesBehindUnit_24 (v0 : Nat) (t0 : Nat) (t1 : Int32) : MM Int32 :=
  mb (pZ ZF 7 7 t0 t1) fun _ =>
  mb (pI ZF 7 4 v0 (1 : Int32)) fun _ =>
  mz (1 : Int32)
noncomputable def Read_takesBehindUnit_12 (v0 : Nat) (v1 : Int32) : MM Int32 :=
  Read_takesBehindUnit_24 v0 v0 (if v1 = (45 : Int32) then (1 : Int32) else (0 : Int32))
noncomputable def Read_takesBehindUnit_59 (v0 : Nat) (v1 : Int32) : MM Int32 :=
  mb (pC ZF 7 6 v0 v1) fun _ =>
  mb (pI ZF 7 5 v0 (1 : Int32)) fun _ =>
  mb (pZ ZF 7 7 v0 (0 : Int32)) fun _ =>
  mb (pI ZF 7 4 v0 (1 : Int32)) fun _ =>
  mz (1 : Int32)
noncomputable def Read_takesBehindUnit (v0 : Nat) (v1 : Int32) : MM Int32 :=
  if v1 = (43 : Int32) then
  Read_takesBehindUnit_12 v0 v1
  else
  if v1 = (45 : Int32) then
  Read_takesBehindUnit_12 v0 v1
  else
  mb (gI ZF 7 5 v0) fun x1 =>
  if x1 = 0 then
  if v1 = (60 : Int32) then
  Read_takesBehindUnit_59 v0 v1
  else
  if v1 = (61 : Int32) then
  Read_takesBehindUnit_59 v0 v1
  else
  if v1 = (62 : Int32) then
  Read_takesBehindUnit_59 v0 v1
  else
  mz (0 : Int32)
  else
  mz (0 : Int32)
set_option maxRecDepth 20000 in
theorem sm_Read_takesBehindUnit_24 {G : GT} {ad : Nat → Nat} {K : Int32 → Dm → Prop} (C : Cx G rm_Read_takesBehindUnit cX6_takesBehindUnit 2 RX6) (hV : Vx G rm_Read_takesBehindUnit ad ZF (0, 0)) (hR : RtI G rm_Read_takesBehindUnit ad ZF (0, 0) cX6_takesBehindUnit .boolean K) (v0 : Nat) (t0 : Nat) (t1 : Int32) : Sm G rm_Read_takesBehindUnit ad ZF (0, 0) K 24 [(0, .ref v0)] [.int t1, .ref t0] (Read_takesBehindUnit_24 v0 t0 t1) := by
  unfold Read_takesBehindUnit_24
  refine s_putZ C hV fw_X6_39 rfl dX6_takesBehindUnit_24 ?_
  refine s_aload_n C rfl dX6_takesBehindUnit_27 ?_
  refine s_iconst C (1 : Int32) (by decide) dX6_takesBehindUnit_28 ?_
  refine s_putI C hV fw_X6_29 rfl dX6_takesBehindUnit_29 ?_
  refine s_iconst C (1 : Int32) (by decide) dX6_takesBehindUnit_32 ?_
  exact s_iretz hR dX6_takesBehindUnit_33
set_option maxRecDepth 20000 in
theorem sm_Read_takesBehindUnit_12 {G : GT} {ad : Nat → Nat} {K : Int32 → Dm → Prop} (C : Cx G rm_Read_takesBehindUnit cX6_takesBehindUnit 2 RX6) (hV : Vx G rm_Read_takesBehindUnit ad ZF (0, 0)) (hR : RtI G rm_Read_takesBehindUnit ad ZF (0, 0) cX6_takesBehindUnit .boolean K) (v0 : Nat) (v1 : Int32) : Sm G rm_Read_takesBehindUnit ad ZF (0, 0) K 12 [(0, .ref v0), (1, .int v1)] [] (Read_takesBehindUnit_12 v0 v1) := by
  unfold Read_takesBehindUnit_12
  refine s_aload_n C rfl dX6_takesBehindUnit_12 ?_
  refine s_iload_n C rfl dX6_takesBehindUnit_13 ?_
  refine s_bipush C (45 : Int32) (by decide) dX6_takesBehindUnit_14 ?_
  refine s_ite (g := fun z => Read_takesBehindUnit_24 v0 v0 z) ?_
  refine s_icmp_ne C 23 (by decide) dX6_takesBehindUnit_16 ?_ ?_
  · refine s_iconst C (0 : Int32) (by decide) dX6_takesBehindUnit_23 ?_
    exact s_weak [0] rfl (sm_Read_takesBehindUnit_24 C hV hR v0 v0 (0 : Int32))
  · refine s_iconst C (1 : Int32) (by decide) dX6_takesBehindUnit_19 ?_
    refine s_goto C 24 (by decide) dX6_takesBehindUnit_20 ?_
    exact s_weak [0] rfl (sm_Read_takesBehindUnit_24 C hV hR v0 v0 (1 : Int32))
set_option maxRecDepth 20000 in
theorem sm_Read_takesBehindUnit_59 {G : GT} {ad : Nat → Nat} {K : Int32 → Dm → Prop} (C : Cx G rm_Read_takesBehindUnit cX6_takesBehindUnit 2 RX6) (hV : Vx G rm_Read_takesBehindUnit ad ZF (0, 0)) (hR : RtI G rm_Read_takesBehindUnit ad ZF (0, 0) cX6_takesBehindUnit .boolean K) (v0 : Nat) (v1 : Int32) : Sm G rm_Read_takesBehindUnit ad ZF (0, 0) K 59 [(0, .ref v0), (1, .int v1)] [] (Read_takesBehindUnit_59 v0 v1) := by
  unfold Read_takesBehindUnit_59
  refine s_aload_n C rfl dX6_takesBehindUnit_59 ?_
  refine s_iload_n C rfl dX6_takesBehindUnit_60 ?_
  refine s_putC C hV fw_X6_35 rfl dX6_takesBehindUnit_61 ?_
  refine s_aload_n C rfl dX6_takesBehindUnit_64 ?_
  refine s_iconst C (1 : Int32) (by decide) dX6_takesBehindUnit_65 ?_
  refine s_putI C hV fw_X6_32 rfl dX6_takesBehindUnit_66 ?_
  refine s_aload_n C rfl dX6_takesBehindUnit_69 ?_
  refine s_iconst C (0 : Int32) (by decide) dX6_takesBehindUnit_70 ?_
  refine s_putZ C hV fw_X6_39 rfl dX6_takesBehindUnit_71 ?_
  refine s_aload_n C rfl dX6_takesBehindUnit_74 ?_
  refine s_iconst C (1 : Int32) (by decide) dX6_takesBehindUnit_75 ?_
  refine s_putI C hV fw_X6_29 rfl dX6_takesBehindUnit_76 ?_
  refine s_iconst C (1 : Int32) (by decide) dX6_takesBehindUnit_79 ?_
  exact s_iretz hR dX6_takesBehindUnit_80
set_option maxRecDepth 20000 in
theorem sm_Read_takesBehindUnit {G : GT} {ad : Nat → Nat} {K : Int32 → Dm → Prop} (C : Cx G rm_Read_takesBehindUnit cX6_takesBehindUnit 2 RX6) (hV : Vx G rm_Read_takesBehindUnit ad ZF (0, 0)) (hR : RtI G rm_Read_takesBehindUnit ad ZF (0, 0) cX6_takesBehindUnit .boolean K) (v0 : Nat) (v1 : Int32) : Sm G rm_Read_takesBehindUnit ad ZF (0, 0) K 0 [(0, .ref v0), (1, .int v1)] [] (Read_takesBehindUnit v0 v1) := by
  unfold Read_takesBehindUnit
  refine s_iload_n C rfl dX6_takesBehindUnit_0 ?_
  refine s_bipush C (43 : Int32) (by decide) dX6_takesBehindUnit_1 ?_
  refine s_icmp_eq C 12 (by decide) dX6_takesBehindUnit_3 ?_ ?_
  · exact s_weak [0, 1] rfl (sm_Read_takesBehindUnit_12 C hV hR v0 v1)
  · refine s_iload_n C rfl dX6_takesBehindUnit_6 ?_
    refine s_bipush C (45 : Int32) (by decide) dX6_takesBehindUnit_7 ?_
    refine s_icmp_ne C 34 (by decide) dX6_takesBehindUnit_9 ?_ ?_
    · refine s_aload_n C rfl dX6_takesBehindUnit_34 ?_
      refine s_getI C hV fl_X6_32 (fun _ _ _ => rfl) dX6_takesBehindUnit_35 (fun x1 => ?_)
      refine s_if_ne C 81 (by decide) dX6_takesBehindUnit_38 ?_ ?_
      · refine s_iconst C (0 : Int32) (by decide) dX6_takesBehindUnit_81 ?_
        exact s_iretz hR dX6_takesBehindUnit_82
      · refine s_iload_n C rfl dX6_takesBehindUnit_41 ?_
        refine s_bipush C (60 : Int32) (by decide) dX6_takesBehindUnit_42 ?_
        refine s_icmp_eq C 59 (by decide) dX6_takesBehindUnit_44 ?_ ?_
        · exact s_weak [0, 1] rfl (sm_Read_takesBehindUnit_59 C hV hR v0 v1)
        · refine s_iload_n C rfl dX6_takesBehindUnit_47 ?_
          refine s_bipush C (61 : Int32) (by decide) dX6_takesBehindUnit_48 ?_
          refine s_icmp_eq C 59 (by decide) dX6_takesBehindUnit_50 ?_ ?_
          · exact s_weak [0, 1] rfl (sm_Read_takesBehindUnit_59 C hV hR v0 v1)
          · refine s_iload_n C rfl dX6_takesBehindUnit_53 ?_
            refine s_bipush C (62 : Int32) (by decide) dX6_takesBehindUnit_54 ?_
            refine s_icmp_ne C 81 (by decide) dX6_takesBehindUnit_56 ?_ ?_
            · refine s_iconst C (0 : Int32) (by decide) dX6_takesBehindUnit_81 ?_
              exact s_iretz hR dX6_takesBehindUnit_82
            · exact s_weak [0, 1] rfl (sm_Read_takesBehindUnit_59 C hV hR v0 v1)
    · exact s_weak [0, 1] rfl (sm_Read_takesBehindUnit_12 C hV hR v0 v1)
set_option maxRecDepth 20000 in
theorem met_Read_takesBehindUnit (v0 : Nat) (v1 : Int32) : MI ZF yX6_takesBehindUnit cX6_takesBehindUnit 2 .boolean rm_Read_takesBehindUnit [.ref v0, .int v1] (Read_takesBehindUnit v0 v1) :=
  mi_of (L0 := [(0, .ref v0), (1, .int v1)]) (by decide +kernel) (Nat.le_of_ble_eq_true rfl) rfl (fun G ad K C hV hR => sm_Read_takesBehindUnit C hV hR v0 v1)

noncomputable def Read_release (v0 : Nat) (v1 : Int32) (v2 : Int32) : MM Unit :=
  mb (gI ZF 7 2 v0) fun x1 =>
  if x1 ≤ 0 then
  mp ()
  else
  mb (gR ZF 7 1 v0) fun x2 =>
  mb (gI ZF 7 2 v0) fun x3 =>
  mb (aI ZF 22 x2 (x3 - (1 : Int32))) fun x4 =>
  if x4 = v1 then
  mb (gI ZF 7 2 v0) fun x5 =>
  mb (pI ZF 7 2 v0 (x5 - (1 : Int32))) fun _ =>
  mb (gR ZF 7 0 v0) fun x6 =>
  mb (vc ZF 9 x6 (Text_emit x6 v2 (0 : Int32))) fun _ =>
  mp ()
  else
  mp ()
set_option maxRecDepth 20000 in
theorem sm_Read_release {G : GT} {ad : Nat → Nat} {K : Unit → Dm → Prop} (C : Cx G rm_Read_release cX6_release 3 RX6) (hV : Vx G rm_Read_release ad ZF (0, 0)) (hR : RtV G rm_Read_release ad ZF (0, 0) cX6_release K) (v0 : Nat) (v1 : Int32) (v2 : Int32) : Sm G rm_Read_release ad ZF (0, 0) K 0 [(0, .ref v0), (1, .int v1), (2, .int v2)] [] (Read_release v0 v1 v2) := by
  unfold Read_release
  refine s_aload_n C rfl dX6_release_0 ?_
  refine s_getI C hV fl_X6_22 (fun _ _ _ => rfl) dX6_release_1 (fun x1 => ?_)
  refine s_if_le C 41 (by decide) dX6_release_4 ?_ ?_
  · exact s_vret hR dX6_release_41
  · refine s_aload_n C rfl dX6_release_7 ?_
    refine s_getR C hV fl_X6_18 (fun _ _ _ => rfl) dX6_release_8 (fun x2 => ?_)
    refine s_aload_n C rfl dX6_release_11 ?_
    refine s_getI C hV fl_X6_22 (fun _ _ _ => rfl) dX6_release_12 (fun x3 => ?_)
    refine s_iconst C (1 : Int32) (by decide) dX6_release_15 ?_
    refine s_isub C dX6_release_16 ?_
    refine s_caload C hV dX6_release_17 (fun x4 => ?_)
    refine s_iload_n C rfl dX6_release_18 ?_
    refine s_icmp_ne C 41 (by decide) dX6_release_19 ?_ ?_
    · exact s_vret hR dX6_release_41
    · refine s_aload_n C rfl dX6_release_22 ?_
      refine s_dupr C dX6_release_23 ?_
      refine s_getI C hV fl_X6_22 (fun _ _ _ => rfl) dX6_release_24 (fun x5 => ?_)
      refine s_iconst C (1 : Int32) (by decide) dX6_release_27 ?_
      refine s_isub C dX6_release_28 ?_
      refine s_putI C hV fw_X6_22 rfl dX6_release_29 ?_
      refine s_aload_n C rfl dX6_release_32 ?_
      refine s_getR C hV fl_X6_12 (fun _ _ _ => rfl) dX6_release_33 (fun x6 => ?_)
      refine s_iload_n C rfl dX6_release_36 ?_
      refine s_iconst C (0 : Int32) (by decide) dX6_release_37 ?_
      refine s_wV C hV lv_X6_108 (st := []) (met_Text_emit x6 v2 (0 : Int32)) rf_Read_release_Text_emit rfl rfl (Nat.le_of_ble_eq_true rfl) dX6_release_38 ?_
      exact s_vret hR dX6_release_41
set_option maxRecDepth 20000 in
theorem met_Read_release (v0 : Nat) (v1 : Int32) (v2 : Int32) : MV ZF yX6_release cX6_release 3 rm_Read_release [.ref v0, .int v1, .int v2] (Read_release v0 v1 v2) :=
  mv_of (L0 := [(0, .ref v0), (1, .int v1), (2, .int v2)]) (by decide +kernel) (Nat.le_of_ble_eq_true rfl) rfl (fun G ad K C hV hR => sm_Read_release C hV hR v0 v1 v2)

noncomputable def Read_closeTerms (v0 : Nat) : MM Unit :=
  mb (vc ZF 7 v0 (Read_release v0 (38 : Int32) (8 : Int32))) fun _ =>
  mb (vc ZF 7 v0 (Read_release v0 (124 : Int32) (9 : Int32))) fun _ =>
  mp ()
set_option maxRecDepth 20000 in
theorem sm_Read_closeTerms {G : GT} {ad : Nat → Nat} {K : Unit → Dm → Prop} (C : Cx G rm_Read_closeTerms cX6_closeTerms 1 RX6) (hV : Vx G rm_Read_closeTerms ad ZF (0, 0)) (hR : RtV G rm_Read_closeTerms ad ZF (0, 0) cX6_closeTerms K) (v0 : Nat) : Sm G rm_Read_closeTerms ad ZF (0, 0) K 0 [(0, .ref v0)] [] (Read_closeTerms v0) := by
  unfold Read_closeTerms
  refine s_aload_n C rfl dX6_closeTerms_0 ?_
  refine s_bipush C (38 : Int32) (by decide) dX6_closeTerms_1 ?_
  refine s_bipush C (8 : Int32) (by decide) dX6_closeTerms_3 ?_
  refine s_wV C hV lv_X6_116 (st := []) (met_Read_release v0 (38 : Int32) (8 : Int32)) rf_Read_closeTerms_Read_release rfl rfl (Nat.le_of_ble_eq_true rfl) dX6_closeTerms_5 ?_
  refine s_aload_n C rfl dX6_closeTerms_8 ?_
  refine s_bipush C (124 : Int32) (by decide) dX6_closeTerms_9 ?_
  refine s_bipush C (9 : Int32) (by decide) dX6_closeTerms_11 ?_
  refine s_wV C hV lv_X6_116 (st := []) (met_Read_release v0 (124 : Int32) (9 : Int32)) rf_Read_closeTerms_Read_release rfl rfl (Nat.le_of_ble_eq_true rfl) dX6_closeTerms_13 ?_
  exact s_vret hR dX6_closeTerms_16
set_option maxRecDepth 20000 in
theorem met_Read_closeTerms (v0 : Nat) : MV ZF yX6_closeTerms cX6_closeTerms 1 rm_Read_closeTerms [.ref v0] (Read_closeTerms v0) :=
  mv_of (L0 := [(0, .ref v0)]) (by decide +kernel) (Nat.le_of_ble_eq_true rfl) rfl (fun G ad K C hV hR => sm_Read_closeTerms C hV hR v0)

noncomputable def Read_takesBehindFactor_77 (v0 : Nat) (v1 : Int32) : MM Int32 :=
  if v1 = (58 : Int32) then
  mb (gI ZF 7 8 v0) fun x1 =>
  if x1 = 0 then
  mz (0 : Int32)
  else
  mb (gI ZF 7 3 v0) fun x2 =>
  if x2 = 0 then
  mb (vc ZF 7 v0 (Read_closeTerms v0)) fun _ =>
  mb (gR ZF 7 0 v0) fun x3 =>
  mb (vc ZF 9 x3 (Text_endRule x3)) fun _ =>
  mb (pI ZF 7 4 v0 (5 : Int32)) fun _ =>
  mz (1 : Int32)
  else
  mz (0 : Int32)
  else
  mz (0 : Int32)
noncomputable def Read_takesBehindFactor_117 (v0 : Nat) (v1 : Int32) : MM Int32 :=
  mb (vc ZF 7 v0 (Read_keep v0 v1)) fun _ =>
  mb (pI ZF 7 4 v0 (0 : Int32)) fun _ =>
  mz (1 : Int32)
noncomputable def Read_takesBehindFactor (v0 : Nat) (v1 : Int32) : MM Int32 :=
  if v1 = (38 : Int32) then
  mb (vc ZF 7 v0 (Read_release v0 (38 : Int32) (8 : Int32))) fun _ =>
  Read_takesBehindFactor_117 v0 v1
  else
  if v1 = (124 : Int32) then
  mb (vc ZF 7 v0 (Read_closeTerms v0)) fun _ =>
  Read_takesBehindFactor_117 v0 v1
  else
  if v1 = (41 : Int32) then
  mb (gI ZF 7 3 v0) fun x4 =>
  if x4 ≤ 0 then
  Read_takesBehindFactor_77 v0 v1
  else
  mb (vc ZF 7 v0 (Read_closeTerms v0)) fun _ =>
  mb (gI ZF 7 3 v0) fun x5 =>
  mb (pI ZF 7 3 v0 (x5 - (1 : Int32))) fun _ =>
  mb (gI ZF 7 2 v0) fun x6 =>
  mb (pI ZF 7 2 v0 (if (0 : Int32) < (x6 - (1 : Int32)) then (x6 - (1 : Int32)) else (0 : Int32))) fun _ =>
  mb (vc ZF 7 v0 (Read_closeFactor v0)) fun _ =>
  mz (1 : Int32)
  else
  Read_takesBehindFactor_77 v0 v1
set_option maxRecDepth 20000 in
theorem sm_Read_takesBehindFactor_77 {G : GT} {ad : Nat → Nat} {K : Int32 → Dm → Prop} (C : Cx G rm_Read_takesBehindFactor cX6_takesBehindFactor 2 RX6) (hV : Vx G rm_Read_takesBehindFactor ad ZF (0, 0)) (hR : RtI G rm_Read_takesBehindFactor ad ZF (0, 0) cX6_takesBehindFactor .boolean K) (v0 : Nat) (v1 : Int32) : Sm G rm_Read_takesBehindFactor ad ZF (0, 0) K 77 [(0, .ref v0), (1, .int v1)] [] (Read_takesBehindFactor_77 v0 v1) := by
  unfold Read_takesBehindFactor_77
  refine s_iload_n C rfl dX6_takesBehindFactor_77 ?_
  refine s_bipush C (58 : Int32) (by decide) dX6_takesBehindFactor_78 ?_
  refine s_icmp_ne C 115 (by decide) dX6_takesBehindFactor_80 ?_ ?_
  · refine s_iconst C (0 : Int32) (by decide) dX6_takesBehindFactor_115 ?_
    exact s_iretz hR dX6_takesBehindFactor_116
  · refine s_aload_n C rfl dX6_takesBehindFactor_83 ?_
    refine s_getI C hV fl_X6_43 (fun _ _ _ => rfl) dX6_takesBehindFactor_84 (fun x1 => ?_)
    refine s_if_eq C 115 (by decide) dX6_takesBehindFactor_87 ?_ ?_
    · refine s_iconst C (0 : Int32) (by decide) dX6_takesBehindFactor_115 ?_
      exact s_iretz hR dX6_takesBehindFactor_116
    · refine s_aload_n C rfl dX6_takesBehindFactor_90 ?_
      refine s_getI C hV fl_X6_26 (fun _ _ _ => rfl) dX6_takesBehindFactor_91 (fun x2 => ?_)
      refine s_if_ne C 115 (by decide) dX6_takesBehindFactor_94 ?_ ?_
      · refine s_iconst C (0 : Int32) (by decide) dX6_takesBehindFactor_115 ?_
        exact s_iretz hR dX6_takesBehindFactor_116
      · refine s_aload_n C rfl dX6_takesBehindFactor_97 ?_
        refine s_wV C hV lv_X6_68 (st := []) (met_Read_closeTerms v0) rf_Read_takesBehindFactor_Read_closeTerms rfl rfl (Nat.le_of_ble_eq_true rfl) dX6_takesBehindFactor_98 ?_
        refine s_aload_n C rfl dX6_takesBehindFactor_101 ?_
        refine s_getR C hV fl_X6_12 (fun _ _ _ => rfl) dX6_takesBehindFactor_102 (fun x3 => ?_)
        refine s_wV C hV lv_X6_71 (st := []) (met_Text_endRule x3) rf_Read_takesBehindFactor_Text_endRule rfl rfl (Nat.le_of_ble_eq_true rfl) dX6_takesBehindFactor_105 ?_
        refine s_aload_n C rfl dX6_takesBehindFactor_108 ?_
        refine s_iconst C (5 : Int32) (by decide) dX6_takesBehindFactor_109 ?_
        refine s_putI C hV fw_X6_29 rfl dX6_takesBehindFactor_110 ?_
        refine s_iconst C (1 : Int32) (by decide) dX6_takesBehindFactor_113 ?_
        exact s_iretz hR dX6_takesBehindFactor_114
set_option maxRecDepth 20000 in
theorem sm_Read_takesBehindFactor_117 {G : GT} {ad : Nat → Nat} {K : Int32 → Dm → Prop} (C : Cx G rm_Read_takesBehindFactor cX6_takesBehindFactor 2 RX6) (hV : Vx G rm_Read_takesBehindFactor ad ZF (0, 0)) (hR : RtI G rm_Read_takesBehindFactor ad ZF (0, 0) cX6_takesBehindFactor .boolean K) (v0 : Nat) (v1 : Int32) : Sm G rm_Read_takesBehindFactor ad ZF (0, 0) K 117 [(0, .ref v0), (1, .int v1)] [] (Read_takesBehindFactor_117 v0 v1) := by
  unfold Read_takesBehindFactor_117
  refine s_aload_n C rfl dX6_takesBehindFactor_117 ?_
  refine s_iload_n C rfl dX6_takesBehindFactor_118 ?_
  refine s_wV C hV lv_X6_101 (st := []) (met_Read_keep v0 v1) rf_Read_takesBehindFactor_Read_keep rfl rfl (Nat.le_of_ble_eq_true rfl) dX6_takesBehindFactor_119 ?_
  refine s_aload_n C rfl dX6_takesBehindFactor_122 ?_
  refine s_iconst C (0 : Int32) (by decide) dX6_takesBehindFactor_123 ?_
  refine s_putI C hV fw_X6_29 rfl dX6_takesBehindFactor_124 ?_
  refine s_iconst C (1 : Int32) (by decide) dX6_takesBehindFactor_127 ?_
  exact s_iretz hR dX6_takesBehindFactor_128
set_option maxRecDepth 20000 in
theorem sm_Read_takesBehindFactor {G : GT} {ad : Nat → Nat} {K : Int32 → Dm → Prop} (C : Cx G rm_Read_takesBehindFactor cX6_takesBehindFactor 2 RX6) (hV : Vx G rm_Read_takesBehindFactor ad ZF (0, 0)) (hR : RtI G rm_Read_takesBehindFactor ad ZF (0, 0) cX6_takesBehindFactor .boolean K) (v0 : Nat) (v1 : Int32) : Sm G rm_Read_takesBehindFactor ad ZF (0, 0) K 0 [(0, .ref v0), (1, .int v1)] [] (Read_takesBehindFactor v0 v1) := by
  unfold Read_takesBehindFactor
  refine s_iload_n C rfl dX6_takesBehindFactor_0 ?_
  refine s_bipush C (38 : Int32) (by decide) dX6_takesBehindFactor_1 ?_
  refine s_icmp_ne C 17 (by decide) dX6_takesBehindFactor_3 ?_ ?_
  · refine s_iload_n C rfl dX6_takesBehindFactor_17 ?_
    refine s_bipush C (124 : Int32) (by decide) dX6_takesBehindFactor_18 ?_
    refine s_icmp_ne C 30 (by decide) dX6_takesBehindFactor_20 ?_ ?_
    · refine s_iload_n C rfl dX6_takesBehindFactor_30 ?_
      refine s_bipush C (41 : Int32) (by decide) dX6_takesBehindFactor_31 ?_
      refine s_icmp_ne C 77 (by decide) dX6_takesBehindFactor_33 ?_ ?_
      · exact s_weak [0, 1] rfl (sm_Read_takesBehindFactor_77 C hV hR v0 v1)
      · refine s_aload_n C rfl dX6_takesBehindFactor_36 ?_
        refine s_getI C hV fl_X6_26 (fun _ _ _ => rfl) dX6_takesBehindFactor_37 (fun x4 => ?_)
        refine s_if_le C 77 (by decide) dX6_takesBehindFactor_40 ?_ ?_
        · exact s_weak [0, 1] rfl (sm_Read_takesBehindFactor_77 C hV hR v0 v1)
        · refine s_aload_n C rfl dX6_takesBehindFactor_43 ?_
          refine s_wV C hV lv_X6_68 (st := []) (met_Read_closeTerms v0) rf_Read_takesBehindFactor_Read_closeTerms rfl rfl (Nat.le_of_ble_eq_true rfl) dX6_takesBehindFactor_44 ?_
          refine s_aload_n C rfl dX6_takesBehindFactor_47 ?_
          refine s_dupr C dX6_takesBehindFactor_48 ?_
          refine s_getI C hV fl_X6_26 (fun _ _ _ => rfl) dX6_takesBehindFactor_49 (fun x5 => ?_)
          refine s_iconst C (1 : Int32) (by decide) dX6_takesBehindFactor_52 ?_
          refine s_isub C dX6_takesBehindFactor_53 ?_
          refine s_putI C hV fw_X6_26 rfl dX6_takesBehindFactor_54 ?_
          refine s_aload_n C rfl dX6_takesBehindFactor_57 ?_
          refine s_iconst C (0 : Int32) (by decide) dX6_takesBehindFactor_58 ?_
          refine s_aload_n C rfl dX6_takesBehindFactor_59 ?_
          refine s_getI C hV fl_X6_22 (fun _ _ _ => rfl) dX6_takesBehindFactor_60 (fun x6 => ?_)
          refine s_iconst C (1 : Int32) (by decide) dX6_takesBehindFactor_63 ?_
          refine s_isub C dX6_takesBehindFactor_64 ?_
          refine s_mmax C hV mm_X6_120 ⟨Nat.le_of_ble_eq_true rfl, Nat.le_of_ble_eq_true rfl⟩ dX6_takesBehindFactor_65 ?_
          refine s_putI C hV fw_X6_22 rfl dX6_takesBehindFactor_68 ?_
          refine s_aload_n C rfl dX6_takesBehindFactor_71 ?_
          refine s_wV C hV lv_X6_126 (st := []) (met_Read_closeFactor v0) rf_Read_takesBehindFactor_Read_closeFactor rfl rfl (Nat.le_of_ble_eq_true rfl) dX6_takesBehindFactor_72 ?_
          refine s_iconst C (1 : Int32) (by decide) dX6_takesBehindFactor_75 ?_
          exact s_iretz hR dX6_takesBehindFactor_76
    · refine s_aload_n C rfl dX6_takesBehindFactor_23 ?_
      refine s_wV C hV lv_X6_68 (st := []) (met_Read_closeTerms v0) rf_Read_takesBehindFactor_Read_closeTerms rfl rfl (Nat.le_of_ble_eq_true rfl) dX6_takesBehindFactor_24 ?_
      refine s_goto C 117 (by decide) dX6_takesBehindFactor_27 ?_
      exact s_weak [0, 1] rfl (sm_Read_takesBehindFactor_117 C hV hR v0 v1)
  · refine s_aload_n C rfl dX6_takesBehindFactor_6 ?_
    refine s_bipush C (38 : Int32) (by decide) dX6_takesBehindFactor_7 ?_
    refine s_bipush C (8 : Int32) (by decide) dX6_takesBehindFactor_9 ?_
    refine s_wV C hV lv_X6_116 (st := []) (met_Read_release v0 (38 : Int32) (8 : Int32)) rf_Read_takesBehindFactor_Read_release rfl rfl (Nat.le_of_ble_eq_true rfl) dX6_takesBehindFactor_11 ?_
    refine s_goto C 117 (by decide) dX6_takesBehindFactor_14 ?_
    exact s_weak [0, 1] rfl (sm_Read_takesBehindFactor_117 C hV hR v0 v1)
set_option maxRecDepth 20000 in
theorem met_Read_takesBehindFactor (v0 : Nat) (v1 : Int32) : MI ZF yX6_takesBehindFactor cX6_takesBehindFactor 2 .boolean rm_Read_takesBehindFactor [.ref v0, .int v1] (Read_takesBehindFactor v0 v1) :=
  mi_of (L0 := [(0, .ref v0), (1, .int v1)]) (by decide +kernel) (Nat.le_of_ble_eq_true rfl) rfl (fun G ad K C hV hR => sm_Read_takesBehindFactor C hV hR v0 v1)

noncomputable def Read_takesTarget (v0 : Nat) (v1 : Int32) : MM Int32 :=
  mb ((Read_isLetter v1)) fun r1 =>
  if r1 = 0 then
  mz (0 : Int32)
  else
  mb (gR ZF 7 0 v0) fun x2 =>
  mb (pI ZF 9 3 x2 (v1 - (97 : Int32))) fun _ =>
  mb (pI ZF 7 4 v0 (6 : Int32)) fun _ =>
  mz (1 : Int32)
set_option maxRecDepth 20000 in
theorem sm_Read_takesTarget {G : GT} {ad : Nat → Nat} {K : Int32 → Dm → Prop} (C : Cx G rm_Read_takesTarget cX6_takesTarget 2 RX6) (hV : Vx G rm_Read_takesTarget ad ZF (0, 0)) (hR : RtI G rm_Read_takesTarget ad ZF (0, 0) cX6_takesTarget .boolean K) (v0 : Nat) (v1 : Int32) : Sm G rm_Read_takesTarget ad ZF (0, 0) K 0 [(0, .ref v0), (1, .int v1)] [] (Read_takesTarget v0 v1) := by
  unfold Read_takesTarget
  refine s_iload_n C rfl dX6_takesTarget_0 ?_
  refine s_uI C hV ls_X6_105 (st := []) (met_Read_isLetter v1) rf_Read_takesTarget_Read_isLetter rfl rfl (Nat.le_of_ble_eq_true rfl) dX6_takesTarget_1 (fun r1 => ?_)
  refine s_if_ne C 9 (by decide) dX6_takesTarget_4 ?_ ?_
  · refine s_aload_n C rfl dX6_takesTarget_9 ?_
    refine s_getR C hV fl_X6_12 (fun _ _ _ => rfl) dX6_takesTarget_10 (fun x2 => ?_)
    refine s_iload_n C rfl dX6_takesTarget_13 ?_
    refine s_bipush C (97 : Int32) (by decide) dX6_takesTarget_14 ?_
    refine s_isub C dX6_takesTarget_16 ?_
    refine s_putI C hV fw_X6_129 rfl dX6_takesTarget_17 ?_
    refine s_aload_n C rfl dX6_takesTarget_20 ?_
    refine s_bipush C (6 : Int32) (by decide) dX6_takesTarget_21 ?_
    refine s_putI C hV fw_X6_29 rfl dX6_takesTarget_23 ?_
    refine s_iconst C (1 : Int32) (by decide) dX6_takesTarget_26 ?_
    exact s_iretz hR dX6_takesTarget_27
  · refine s_iconst C (0 : Int32) (by decide) dX6_takesTarget_7 ?_
    exact s_iretz hR dX6_takesTarget_8
set_option maxRecDepth 20000 in
theorem met_Read_takesTarget (v0 : Nat) (v1 : Int32) : MI ZF yX6_takesTarget cX6_takesTarget 2 .boolean rm_Read_takesTarget [.ref v0, .int v1] (Read_takesTarget v0 v1) :=
  mi_of (L0 := [(0, .ref v0), (1, .int v1)]) (by decide +kernel) (Nat.le_of_ble_eq_true rfl) rfl (fun G ad K C hV hR => sm_Read_takesTarget C hV hR v0 v1)

noncomputable def Read_takesEquals (v0 : Nat) (v1 : Int32) : MM Int32 :=
  if v1 = (61 : Int32) then
  mb (pI ZF 7 5 v0 (2 : Int32)) fun _ =>
  mb (pZ ZF 7 7 v0 (0 : Int32)) fun _ =>
  mb (pI ZF 7 4 v0 (1 : Int32)) fun _ =>
  mz (1 : Int32)
  else
  mz (0 : Int32)
set_option maxRecDepth 20000 in
theorem sm_Read_takesEquals {G : GT} {ad : Nat → Nat} {K : Int32 → Dm → Prop} (C : Cx G rm_Read_takesEquals cX6_takesEquals 2 RX6) (hV : Vx G rm_Read_takesEquals ad ZF (0, 0)) (hR : RtI G rm_Read_takesEquals ad ZF (0, 0) cX6_takesEquals .boolean K) (v0 : Nat) (v1 : Int32) : Sm G rm_Read_takesEquals ad ZF (0, 0) K 0 [(0, .ref v0), (1, .int v1)] [] (Read_takesEquals v0 v1) := by
  unfold Read_takesEquals
  refine s_iload_n C rfl dX6_takesEquals_0 ?_
  refine s_bipush C (61 : Int32) (by decide) dX6_takesEquals_1 ?_
  refine s_icmp_eq C 8 (by decide) dX6_takesEquals_3 ?_ ?_
  · refine s_aload_n C rfl dX6_takesEquals_8 ?_
    refine s_iconst C (2 : Int32) (by decide) dX6_takesEquals_9 ?_
    refine s_putI C hV fw_X6_32 rfl dX6_takesEquals_10 ?_
    refine s_aload_n C rfl dX6_takesEquals_13 ?_
    refine s_iconst C (0 : Int32) (by decide) dX6_takesEquals_14 ?_
    refine s_putZ C hV fw_X6_39 rfl dX6_takesEquals_15 ?_
    refine s_aload_n C rfl dX6_takesEquals_18 ?_
    refine s_iconst C (1 : Int32) (by decide) dX6_takesEquals_19 ?_
    refine s_putI C hV fw_X6_29 rfl dX6_takesEquals_20 ?_
    refine s_iconst C (1 : Int32) (by decide) dX6_takesEquals_23 ?_
    exact s_iretz hR dX6_takesEquals_24
  · refine s_iconst C (0 : Int32) (by decide) dX6_takesEquals_6 ?_
    exact s_iretz hR dX6_takesEquals_7
set_option maxRecDepth 20000 in
theorem met_Read_takesEquals (v0 : Nat) (v1 : Int32) : MI ZF yX6_takesEquals cX6_takesEquals 2 .boolean rm_Read_takesEquals [.ref v0, .int v1] (Read_takesEquals v0 v1) :=
  mi_of (L0 := [(0, .ref v0), (1, .int v1)]) (by decide +kernel) (Nat.le_of_ble_eq_true rfl) rfl (fun G ad K C hV hR => sm_Read_takesEquals C hV hR v0 v1)

noncomputable def Read_takes_12 (v0 : Nat) (v1 : Int32) : MM Int32 :=
  mb (gI ZF 7 4 v0) fun x2 =>
  sw x2 (0 : Int32) [(
  mb (vc ZF 7 v0 (Read_takesFactor v0 v1)) fun r4 =>
  mz r4),
(
  mb (vc ZF 7 v0 (Read_takesUnit v0 v1)) fun r5 =>
  mz r5),
(
  mb ((Read_isDigit v1)) fun r6 =>
  if r6 = 0 then
  mb (vc ZF 7 v0 (Read_takesBehindUnit v0 v1)) fun r7 =>
  mz r7
  else
  mb (vc ZF 7 v0 (Read_takesSecondDigit v0 v1)) fun r8 =>
  mz r8),
(
  mb (vc ZF 7 v0 (Read_takesBehindUnit v0 v1)) fun r9 =>
  mz r9),
(
  mb (vc ZF 7 v0 (Read_takesBehindFactor v0 v1)) fun r10 =>
  mz r10),
(
  mb (vc ZF 7 v0 (Read_takesTarget v0 v1)) fun r11 =>
  mz r11)] (
  mb (vc ZF 7 v0 (Read_takesEquals v0 v1)) fun r3 =>
  mz r3)
noncomputable def Read_takes (v0 : Nat) (v1 : Int32) : MM Int32 :=
  mb (vc ZF 7 v0 (Read_endsComparison v0 v1)) fun r1 =>
  if r1 = 0 then
  Read_takes_12 v0 v1
  else
  mb (vc ZF 7 v0 (Read_closeComparison v0)) fun _ =>
  Read_takes_12 v0 v1
set_option maxRecDepth 20000 in
theorem sm_Read_takes_12 {G : GT} {ad : Nat → Nat} {K : Int32 → Dm → Prop} (C : Cx G rm_Read_takes cX6_takes 2 RX6) (hV : Vx G rm_Read_takes ad ZF (0, 0)) (hR : RtI G rm_Read_takes ad ZF (0, 0) cX6_takes .boolean K) (v0 : Nat) (v1 : Int32) : Sm G rm_Read_takes ad ZF (0, 0) K 12 [(0, .ref v0), (1, .int v1)] [] (Read_takes_12 v0 v1) := by
  unfold Read_takes_12
  refine s_aload_n C rfl dX6_takes_12 ?_
  refine s_getI C hV fl_X6_29 (fun _ _ _ => rfl) dX6_takes_13 (fun x2 => ?_)
  refine s_tsw C (k := (0 : Int32)) (by decide) (by simp) (by simp) dX6_takes_16 107 (by decide) ?_ ?_
  · refine s_aload_n C rfl dX6_takes_107 ?_
    refine s_iload_n C rfl dX6_takes_108 ?_
    refine s_wI C hV lv_X6_98 (st := []) (met_Read_takesEquals v0 v1) rf_Read_takes_Read_takesEquals rfl rfl (Nat.le_of_ble_eq_true rfl) dX6_takes_109 (fun r3 => ?_)
    exact s_iretz hR dX6_takes_112
  · intro i g hg
    match i, hg with
    | 0, hg =>
      cases hg
      refine ⟨40, 56, rfl, by decide, ?_⟩
      refine s_aload_n C rfl dX6_takes_56 ?_
      refine s_iload_n C rfl dX6_takes_57 ?_
      refine s_wI C hV lv_X6_77 (st := []) (met_Read_takesFactor v0 v1) rf_Read_takes_Read_takesFactor rfl rfl (Nat.le_of_ble_eq_true rfl) dX6_takes_58 (fun r4 => ?_)
      exact s_iretz hR dX6_takes_61
    | 1, hg =>
      cases hg
      refine ⟨46, 62, rfl, by decide, ?_⟩
      refine s_aload_n C rfl dX6_takes_62 ?_
      refine s_iload_n C rfl dX6_takes_63 ?_
      refine s_wI C hV lv_X6_80 (st := []) (met_Read_takesUnit v0 v1) rf_Read_takes_Read_takesUnit rfl rfl (Nat.le_of_ble_eq_true rfl) dX6_takes_64 (fun r5 => ?_)
      exact s_iretz hR dX6_takes_67
    | 2, hg =>
      cases hg
      refine ⟨52, 68, rfl, by decide, ?_⟩
      refine s_iload_n C rfl dX6_takes_68 ?_
      refine s_uI C hV ls_X6_83 (st := []) (met_Read_isDigit v1) rf_Read_takes_Read_isDigit rfl rfl (Nat.le_of_ble_eq_true rfl) dX6_takes_69 (fun r6 => ?_)
      refine s_if_eq C 83 (by decide) dX6_takes_72 ?_ ?_
      · refine s_aload_n C rfl dX6_takes_83 ?_
        refine s_iload_n C rfl dX6_takes_84 ?_
        refine s_wI C hV lv_X6_89 (st := []) (met_Read_takesBehindUnit v0 v1) rf_Read_takes_Read_takesBehindUnit rfl rfl (Nat.le_of_ble_eq_true rfl) dX6_takes_85 (fun r7 => ?_)
        exact s_iretz hR dX6_takes_88
      · refine s_aload_n C rfl dX6_takes_75 ?_
        refine s_iload_n C rfl dX6_takes_76 ?_
        refine s_wI C hV lv_X6_86 (st := []) (met_Read_takesSecondDigit v0 v1) rf_Read_takes_Read_takesSecondDigit rfl rfl (Nat.le_of_ble_eq_true rfl) dX6_takes_77 (fun r8 => ?_)
        refine s_goto C 88 (by decide) dX6_takes_80 ?_
        exact s_iretz hR dX6_takes_88
    | 3, hg =>
      cases hg
      refine ⟨73, 89, rfl, by decide, ?_⟩
      refine s_aload_n C rfl dX6_takes_89 ?_
      refine s_iload_n C rfl dX6_takes_90 ?_
      refine s_wI C hV lv_X6_89 (st := []) (met_Read_takesBehindUnit v0 v1) rf_Read_takes_Read_takesBehindUnit rfl rfl (Nat.le_of_ble_eq_true rfl) dX6_takes_91 (fun r9 => ?_)
      exact s_iretz hR dX6_takes_94
    | 4, hg =>
      cases hg
      refine ⟨79, 95, rfl, by decide, ?_⟩
      refine s_aload_n C rfl dX6_takes_95 ?_
      refine s_iload_n C rfl dX6_takes_96 ?_
      refine s_wI C hV lv_X6_92 (st := []) (met_Read_takesBehindFactor v0 v1) rf_Read_takes_Read_takesBehindFactor rfl rfl (Nat.le_of_ble_eq_true rfl) dX6_takes_97 (fun r10 => ?_)
      exact s_iretz hR dX6_takes_100
    | 5, hg =>
      cases hg
      refine ⟨85, 101, rfl, by decide, ?_⟩
      refine s_aload_n C rfl dX6_takes_101 ?_
      refine s_iload_n C rfl dX6_takes_102 ?_
      refine s_wI C hV lv_X6_95 (st := []) (met_Read_takesTarget v0 v1) rf_Read_takes_Read_takesTarget rfl rfl (Nat.le_of_ble_eq_true rfl) dX6_takes_103 (fun r11 => ?_)
      exact s_iretz hR dX6_takes_106
    | i + 6, hg => cases hg
set_option maxRecDepth 20000 in
theorem sm_Read_takes {G : GT} {ad : Nat → Nat} {K : Int32 → Dm → Prop} (C : Cx G rm_Read_takes cX6_takes 2 RX6) (hV : Vx G rm_Read_takes ad ZF (0, 0)) (hR : RtI G rm_Read_takes ad ZF (0, 0) cX6_takes .boolean K) (v0 : Nat) (v1 : Int32) : Sm G rm_Read_takes ad ZF (0, 0) K 0 [(0, .ref v0), (1, .int v1)] [] (Read_takes v0 v1) := by
  unfold Read_takes
  refine s_aload_n C rfl dX6_takes_0 ?_
  refine s_iload_n C rfl dX6_takes_1 ?_
  refine s_wI C hV lv_X6_74 (st := []) (met_Read_endsComparison v0 v1) rf_Read_takes_Read_endsComparison rfl rfl (Nat.le_of_ble_eq_true rfl) dX6_takes_2 (fun r1 => ?_)
  refine s_if_eq C 12 (by decide) dX6_takes_5 ?_ ?_
  · exact s_weak [0, 1] rfl (sm_Read_takes_12 C hV hR v0 v1)
  · refine s_aload_n C rfl dX6_takes_8 ?_
    refine s_wV C hV lv_X6_65 (st := []) (met_Read_closeComparison v0) rf_Read_takes_Read_closeComparison rfl rfl (Nat.le_of_ble_eq_true rfl) dX6_takes_9 ?_
    exact s_weak [0, 1] rfl (sm_Read_takes_12 C hV hR v0 v1)
set_option maxRecDepth 20000 in
theorem met_Read_takes (v0 : Nat) (v1 : Int32) : MI ZF yX6_takes cX6_takes 2 .boolean rm_Read_takes [.ref v0, .int v1] (Read_takes v0 v1) :=
  mi_of (L0 := [(0, .ref v0), (1, .int v1)]) (by decide +kernel) (Nat.le_of_ble_eq_true rfl) rfl (fun G ad K C hV hR => sm_Read_takes C hV hR v0 v1)

noncomputable def Read_goodOf_7_b (v0 : Nat) (v1 : Nat) (v3 : Int32) : MM (Int32 ⊕ Int32) :=
  mb (gI ZF 4 1 v1) fun x2 =>
  if x2 ≤ v3 then
  mr (
  mp v3)
  else
  mb (gR ZF 4 0 v1) fun x3 =>
  mb (aI ZF 22 x3 v3) fun x4 =>
  mb (vc ZF 7 v0 (Read_takes v0 x4)) fun r5 =>
  if r5 = 0 then
  mr (
  mp v3)
  else
  ml (v3 + (1 : Int32)) fun x6 =>
  mp (.inl x6)
noncomputable def Read_goodOf_7 (v0 : Nat) (v1 : Nat) (s : Int32) : MM Int32 := lo (fun (s : Int32) => Read_goodOf_7_b v0 v1 s) s
noncomputable def Read_goodOf (v0 : Nat) (v1 : Nat) (v2 : Int32) : MM Int32 :=
  mb (vc ZF 7 v0 (Read_begin v0 v2)) fun _ =>
  ml (0 : Int32) fun x1 =>
  Read_goodOf_7 v0 v1 x1
set_option maxRecDepth 20000 in
theorem sm_Read_goodOf_7_b {G : GT} {ad : Nat → Nat} {K : Int32 → Dm → Prop} (C : Cx G rm_Read_goodOf cX6_goodOf 4 RX6) (hV : Vx G rm_Read_goodOf ad ZF (0, 0)) (hR : RtI G rm_Read_goodOf ad ZF (0, 0) cX6_goodOf .int K) (v0 : Nat) (v1 : Nat) (v3 : Int32) : Sm G rm_Read_goodOf ad ZF (0, 0) (lpK G rm_Read_goodOf ad ZF (0, 0) 7 (fun (s : Int32) => [(0, .ref v0), (1, .ref v1), (3, .int s)]) K) 7 [(0, .ref v0), (1, .ref v1), (3, .int v3)] [] (Read_goodOf_7_b v0 v1 v3) := by
  unfold Read_goodOf_7_b
  refine s_iload_n C rfl dX6_goodOf_7 ?_
  refine s_aload_n C rfl dX6_goodOf_8 ?_
  refine s_getI C hV fl_X6_50 (fun _ _ _ => rfl) dX6_goodOf_9 (fun x2 => ?_)
  refine s_icmp_ge C 34 (by decide) dX6_goodOf_12 ?_ ?_
  · refine s_exit ?_
    refine s_iload_n C rfl dX6_goodOf_34 ?_
    exact s_ireti hR dX6_goodOf_35
  · refine s_aload_n C rfl dX6_goodOf_15 ?_
    refine s_aload_n C rfl dX6_goodOf_16 ?_
    refine s_getR C hV fl_X6_55 (fun _ _ _ => rfl) dX6_goodOf_17 (fun x3 => ?_)
    refine s_iload_n C rfl dX6_goodOf_20 ?_
    refine s_caload C hV dX6_goodOf_21 (fun x4 => ?_)
    refine s_wI C hV lv_X6_58 (st := []) (met_Read_takes v0 x4) rf_Read_goodOf_Read_takes rfl rfl (Nat.le_of_ble_eq_true rfl) dX6_goodOf_22 (fun r5 => ?_)
    refine s_if_eq C 34 (by decide) dX6_goodOf_25 ?_ ?_
    · refine s_exit ?_
      refine s_iload_n C rfl dX6_goodOf_34 ?_
      exact s_ireti hR dX6_goodOf_35
    · refine s_iinc C (L' := fun x6 => [(3, .int x6), (0, .ref v0), (1, .ref v1)]) (1 : Int32) (by decide) rfl (by decide) (fun _ => rfl) dX6_goodOf_28 (fun x6 => ?_)
      refine s_goto C 7 (by decide) dX6_goodOf_31 ?_
      exact s_back [0, 1, 3] x6 rfl
set_option maxRecDepth 20000 in
theorem sm_Read_goodOf_7 {G : GT} {ad : Nat → Nat} {K : Int32 → Dm → Prop} (C : Cx G rm_Read_goodOf cX6_goodOf 4 RX6) (hV : Vx G rm_Read_goodOf ad ZF (0, 0)) (hR : RtI G rm_Read_goodOf ad ZF (0, 0) cX6_goodOf .int K) (v0 : Nat) (v1 : Nat) (s : Int32) : Sm G rm_Read_goodOf ad ZF (0, 0) K 7 ((fun (s : Int32) => [(0, .ref v0), (1, .ref v1), (3, .int s)]) s) [] (Read_goodOf_7 v0 v1 s) :=
  s_loop (en := (fun (s : Int32) => [(0, .ref v0), (1, .ref v1), (3, .int s)])) (fun s => sm_Read_goodOf_7_b C hV hR v0 v1 s) s
set_option maxRecDepth 20000 in
theorem sm_Read_goodOf {G : GT} {ad : Nat → Nat} {K : Int32 → Dm → Prop} (C : Cx G rm_Read_goodOf cX6_goodOf 4 RX6) (hV : Vx G rm_Read_goodOf ad ZF (0, 0)) (hR : RtI G rm_Read_goodOf ad ZF (0, 0) cX6_goodOf .int K) (v0 : Nat) (v1 : Nat) (v2 : Int32) : Sm G rm_Read_goodOf ad ZF (0, 0) K 0 [(0, .ref v0), (1, .ref v1), (2, .int v2)] [] (Read_goodOf v0 v1 v2) := by
  unfold Read_goodOf
  refine s_aload_n C rfl dX6_goodOf_0 ?_
  refine s_iload_n C rfl dX6_goodOf_1 ?_
  refine s_wV C hV lv_X6_46 (st := []) (met_Read_begin v0 v2) rf_Read_goodOf_Read_begin rfl rfl (Nat.le_of_ble_eq_true rfl) dX6_goodOf_2 ?_
  refine s_iconst C (0 : Int32) (by decide) dX6_goodOf_5 ?_
  refine s_leti (fun x1 => ?_)
  refine s_istore_n C (L' := [(3, .int x1), (0, .ref v0), (1, .ref v1), (2, .int v2)]) (by decide) rfl dX6_goodOf_6 ?_
  exact s_weak [0, 1, 3] rfl (sm_Read_goodOf_7 C hV hR v0 v1 x1)
set_option maxRecDepth 20000 in
theorem met_Read_goodOf (v0 : Nat) (v1 : Nat) (v2 : Int32) : MI ZF yX6_goodOf cX6_goodOf 4 .int rm_Read_goodOf [.ref v0, .ref v1, .int v2] (Read_goodOf v0 v1 v2) :=
  mi_of (L0 := [(0, .ref v0), (1, .ref v1), (2, .int v2)]) (by decide +kernel) (Nat.le_of_ble_eq_true rfl) rfl (fun G ad K C hV hR => sm_Read_goodOf C hV hR v0 v1 v2)

noncomputable def Read_isWhole_63 (v0 : Nat) : MM Int32 :=
  mb (gI ZF 7 4 v0) fun x3 =>
  if x3 = (4 : Int32) then
  mb (gI ZF 7 3 v0) fun x4 =>
  if x4 = 0 then
  mb (vc ZF 7 v0 (Read_closeTerms v0)) fun _ =>
  mb (gR ZF 7 0 v0) fun x5 =>
  mb (vc ZF 9 x5 (Text_endRule x5)) fun _ =>
  mz (1 : Int32)
  else
  mz (0 : Int32)
  else
  mz (0 : Int32)
noncomputable def Read_isWhole_21 (v0 : Nat) (t0 : Int32) : MM Int32 :=
  mb (gI ZF 7 8 v0) fun x2 =>
  if x2 = 0 then
  if t0 = 0 then
  Read_isWhole_63 v0
  else
  mb (gI ZF 7 5 v0) fun x6 =>
  if x6 = (1 : Int32) then
  mb (vc ZF 7 v0 (Read_closeComparison v0)) fun _ =>
  Read_isWhole_63 v0
  else
  Read_isWhole_63 v0
  else
  if t0 = 0 then
  mz (0 : Int32)
  else
  mb (gI ZF 7 5 v0) fun x7 =>
  if x7 = (2 : Int32) then
  mz (1 : Int32)
  else
  mz (0 : Int32)
noncomputable def Read_isWhole_16 (v0 : Nat) : MM Int32 :=
  Read_isWhole_21 v0 (1 : Int32)
noncomputable def Read_isWhole (v0 : Nat) : MM Int32 :=
  mb (gI ZF 7 4 v0) fun x1 =>
  if x1 = (2 : Int32) then
  Read_isWhole_16 v0
  else
  mb (gI ZF 7 4 v0) fun x8 =>
  if x8 = (3 : Int32) then
  Read_isWhole_16 v0
  else
  Read_isWhole_21 v0 (0 : Int32)
set_option maxRecDepth 20000 in
theorem sm_Read_isWhole_63 {G : GT} {ad : Nat → Nat} {K : Int32 → Dm → Prop} (C : Cx G rm_Read_isWhole cX6_isWhole 2 RX6) (hV : Vx G rm_Read_isWhole ad ZF (0, 0)) (hR : RtI G rm_Read_isWhole ad ZF (0, 0) cX6_isWhole .boolean K) (v0 : Nat) : Sm G rm_Read_isWhole ad ZF (0, 0) K 63 [(0, .ref v0)] [] (Read_isWhole_63 v0) := by
  unfold Read_isWhole_63
  refine s_aload_n C rfl dX6_isWhole_63 ?_
  refine s_getI C hV fl_X6_29 (fun _ _ _ => rfl) dX6_isWhole_64 (fun x3 => ?_)
  refine s_iconst C (4 : Int32) (by decide) dX6_isWhole_67 ?_
  refine s_icmp_ne C 78 (by decide) dX6_isWhole_68 ?_ ?_
  · refine s_iconst C (0 : Int32) (by decide) dX6_isWhole_78 ?_
    exact s_iretz hR dX6_isWhole_79
  · refine s_aload_n C rfl dX6_isWhole_71 ?_
    refine s_getI C hV fl_X6_26 (fun _ _ _ => rfl) dX6_isWhole_72 (fun x4 => ?_)
    refine s_if_eq C 80 (by decide) dX6_isWhole_75 ?_ ?_
    · refine s_aload_n C rfl dX6_isWhole_80 ?_
      refine s_wV C hV lv_X6_68 (st := []) (met_Read_closeTerms v0) rf_Read_isWhole_Read_closeTerms rfl rfl (Nat.le_of_ble_eq_true rfl) dX6_isWhole_81 ?_
      refine s_aload_n C rfl dX6_isWhole_84 ?_
      refine s_getR C hV fl_X6_12 (fun _ _ _ => rfl) dX6_isWhole_85 (fun x5 => ?_)
      refine s_wV C hV lv_X6_71 (st := []) (met_Text_endRule x5) rf_Read_isWhole_Text_endRule rfl rfl (Nat.le_of_ble_eq_true rfl) dX6_isWhole_88 ?_
      refine s_iconst C (1 : Int32) (by decide) dX6_isWhole_91 ?_
      exact s_iretz hR dX6_isWhole_92
    · refine s_iconst C (0 : Int32) (by decide) dX6_isWhole_78 ?_
      exact s_iretz hR dX6_isWhole_79
set_option maxRecDepth 20000 in
theorem sm_Read_isWhole_21 {G : GT} {ad : Nat → Nat} {K : Int32 → Dm → Prop} (C : Cx G rm_Read_isWhole cX6_isWhole 2 RX6) (hV : Vx G rm_Read_isWhole ad ZF (0, 0)) (hR : RtI G rm_Read_isWhole ad ZF (0, 0) cX6_isWhole .boolean K) (v0 : Nat) (t0 : Int32) : Sm G rm_Read_isWhole ad ZF (0, 0) K 21 [(0, .ref v0)] [.int t0] (Read_isWhole_21 v0 t0) := by
  unfold Read_isWhole_21
  refine s_istore_n C (L' := [(1, .int t0), (0, .ref v0)]) (by decide) rfl dX6_isWhole_21 ?_
  refine s_aload_n C rfl dX6_isWhole_22 ?_
  refine s_getI C hV fl_X6_43 (fun _ _ _ => rfl) dX6_isWhole_23 (fun x2 => ?_)
  refine s_if_eq C 47 (by decide) dX6_isWhole_26 ?_ ?_
  · refine s_iload_n C rfl dX6_isWhole_47 ?_
    refine s_if_eq C 63 (by decide) dX6_isWhole_48 ?_ ?_
    · exact s_weak [0] rfl (sm_Read_isWhole_63 C hV hR v0)
    · refine s_aload_n C rfl dX6_isWhole_51 ?_
      refine s_getI C hV fl_X6_32 (fun _ _ _ => rfl) dX6_isWhole_52 (fun x6 => ?_)
      refine s_iconst C (1 : Int32) (by decide) dX6_isWhole_55 ?_
      refine s_icmp_ne C 63 (by decide) dX6_isWhole_56 ?_ ?_
      · exact s_weak [0] rfl (sm_Read_isWhole_63 C hV hR v0)
      · refine s_aload_n C rfl dX6_isWhole_59 ?_
        refine s_wV C hV lv_X6_65 (st := []) (met_Read_closeComparison v0) rf_Read_isWhole_Read_closeComparison rfl rfl (Nat.le_of_ble_eq_true rfl) dX6_isWhole_60 ?_
        exact s_weak [0] rfl (sm_Read_isWhole_63 C hV hR v0)
  · refine s_iload_n C rfl dX6_isWhole_29 ?_
    refine s_if_eq C 45 (by decide) dX6_isWhole_30 ?_ ?_
    · refine s_iconst C (0 : Int32) (by decide) dX6_isWhole_45 ?_
      exact s_iretz hR dX6_isWhole_46
    · refine s_aload_n C rfl dX6_isWhole_33 ?_
      refine s_getI C hV fl_X6_32 (fun _ _ _ => rfl) dX6_isWhole_34 (fun x7 => ?_)
      refine s_iconst C (2 : Int32) (by decide) dX6_isWhole_37 ?_
      refine s_icmp_ne C 45 (by decide) dX6_isWhole_38 ?_ ?_
      · refine s_iconst C (0 : Int32) (by decide) dX6_isWhole_45 ?_
        exact s_iretz hR dX6_isWhole_46
      · refine s_iconst C (1 : Int32) (by decide) dX6_isWhole_41 ?_
        refine s_goto C 46 (by decide) dX6_isWhole_42 ?_
        exact s_iretz hR dX6_isWhole_46
set_option maxRecDepth 20000 in
theorem sm_Read_isWhole_16 {G : GT} {ad : Nat → Nat} {K : Int32 → Dm → Prop} (C : Cx G rm_Read_isWhole cX6_isWhole 2 RX6) (hV : Vx G rm_Read_isWhole ad ZF (0, 0)) (hR : RtI G rm_Read_isWhole ad ZF (0, 0) cX6_isWhole .boolean K) (v0 : Nat) : Sm G rm_Read_isWhole ad ZF (0, 0) K 16 [(0, .ref v0)] [] (Read_isWhole_16 v0) := by
  unfold Read_isWhole_16
  refine s_iconst C (1 : Int32) (by decide) dX6_isWhole_16 ?_
  refine s_goto C 21 (by decide) dX6_isWhole_17 ?_
  exact s_weak [0] rfl (sm_Read_isWhole_21 C hV hR v0 (1 : Int32))
set_option maxRecDepth 20000 in
theorem sm_Read_isWhole {G : GT} {ad : Nat → Nat} {K : Int32 → Dm → Prop} (C : Cx G rm_Read_isWhole cX6_isWhole 2 RX6) (hV : Vx G rm_Read_isWhole ad ZF (0, 0)) (hR : RtI G rm_Read_isWhole ad ZF (0, 0) cX6_isWhole .boolean K) (v0 : Nat) : Sm G rm_Read_isWhole ad ZF (0, 0) K 0 [(0, .ref v0)] [] (Read_isWhole v0) := by
  unfold Read_isWhole
  refine s_aload_n C rfl dX6_isWhole_0 ?_
  refine s_getI C hV fl_X6_29 (fun _ _ _ => rfl) dX6_isWhole_1 (fun x1 => ?_)
  refine s_iconst C (2 : Int32) (by decide) dX6_isWhole_4 ?_
  refine s_icmp_eq C 16 (by decide) dX6_isWhole_5 ?_ ?_
  · exact s_weak [0] rfl (sm_Read_isWhole_16 C hV hR v0)
  · refine s_aload_n C rfl dX6_isWhole_8 ?_
    refine s_getI C hV fl_X6_29 (fun _ _ _ => rfl) dX6_isWhole_9 (fun x8 => ?_)
    refine s_iconst C (3 : Int32) (by decide) dX6_isWhole_12 ?_
    refine s_icmp_ne C 20 (by decide) dX6_isWhole_13 ?_ ?_
    · refine s_iconst C (0 : Int32) (by decide) dX6_isWhole_20 ?_
      exact s_weak [0] rfl (sm_Read_isWhole_21 C hV hR v0 (0 : Int32))
    · exact s_weak [0] rfl (sm_Read_isWhole_16 C hV hR v0)
set_option maxRecDepth 20000 in
theorem met_Read_isWhole (v0 : Nat) : MI ZF yX6_isWhole cX6_isWhole 2 .boolean rm_Read_isWhole [.ref v0] (Read_isWhole v0) :=
  mi_of (L0 := [(0, .ref v0)]) (by decide +kernel) (Nat.le_of_ble_eq_true rfl) rfl (fun G ad K C hV hR => sm_Read_isWhole C hV hR v0)

noncomputable def Plac_weigh_98 (v0 : Nat) (v1 : Nat) (v2 : Nat) (v3 : Int32) (v4 : Int32) (v5 : Int32) (v6 : Int32) (v7 : Int32) : MM ((Int32 × Int32) ⊕ (Int32 ⊕ Unit)) :=
  mb (gR ZF 5 0 v0) fun x11 =>
  mb (sI ZF x11 (((v4 * (9 : Int32)) + v7) + (1 : Int32)) v6) fun _ =>
  ml (v7 + (1 : Int32)) fun x12 =>
  mp (.inl (v6, x12))
noncomputable def Plac_weigh_55_b (v0 : Nat) (v1 : Nat) (v2 : Nat) (v3 : Int32) (v4 : Int32) (v5 : Int32) (v6 : Int32) (v7 : Int32) : MM ((Int32 × Int32) ⊕ (Int32 ⊕ Unit)) :=
  if v3 ≤ v7 then
  mr (
  ml (v4 + (1 : Int32)) fun x7 =>
  mp (.inl x7))
  else
  mb (gR ZF 6 0 v1) fun x8 =>
  mb (aR ZF 26 x8 v7) fun x9 =>
  mb (vc ZF 1 x9 (Act_writes x9)) fun r10 =>
  if r10 = 0 then
  Plac_weigh_98 v0 v1 v2 v3 v4 v5 v6 v7
  else
  mb (vc ZF 6 v1 (Prog_writesWithin v1 v4 v7)) fun r13 =>
  mb (vc ZF 10 v2 (Verd_ofEach v2 (v5 ||| ((1 : Int32) <<< (v7 &&& 31))) r13)) fun r14 =>
  ml (v6 ||| r14) fun x15 =>
  Plac_weigh_98 v0 v1 v2 v3 v4 v5 x15 v7
noncomputable def Plac_weigh_55 (v0 : Nat) (v1 : Nat) (v2 : Nat) (v3 : Int32) (v4 : Int32) (v5 : Int32) (s : (Int32 × Int32)) : MM (Int32 ⊕ Unit) := lo (fun (s : (Int32 × Int32)) => Plac_weigh_55_b v0 v1 v2 v3 v4 v5 s.1 s.2) s
noncomputable def Plac_weigh_13_b (v0 : Nat) (v1 : Nat) (v2 : Nat) (v3 : Int32) (v4 : Int32) : MM (Int32 ⊕ Unit) :=
  if v3 < v4 then
  mr (
  mp ())
  else
  mb (vc ZF 6 v1 (Prog_writesWithin v1 (0 : Int32) v4)) fun r4 =>
  mb (vc ZF 10 v2 (Verd_of v2 r4)) fun r5 =>
  mb (gR ZF 5 0 v0) fun x6 =>
  mb (sI ZF x6 ((v4 * (9 : Int32)) + v4) r5) fun _ =>
  Plac_weigh_55 v0 v1 v2 v3 v4 r4 (r5, v4)
noncomputable def Plac_weigh_13 (v0 : Nat) (v1 : Nat) (v2 : Nat) (v3 : Int32) (s : Int32) : MM Unit := lo (fun (s : Int32) => Plac_weigh_13_b v0 v1 v2 v3 s) s
noncomputable def Plac_weigh (v0 : Nat) (v1 : Nat) (v2 : Nat) : MM Unit :=
  mb (gI ZF 6 1 v1) fun x1 =>
  ml (if (8 : Int32) < x1 then (8 : Int32) else x1) fun x2 =>
  ml (0 : Int32) fun x3 =>
  Plac_weigh_13 v0 v1 v2 x2 x3
set_option maxRecDepth 20000 in
theorem sm_Plac_weigh_98 {G : GT} {ad : Nat → Nat} {K : Unit → Dm → Prop} (C : Cx G rm_Plac_weigh cX4_weigh 8 RX4) (hV : Vx G rm_Plac_weigh ad ZF (0, 0)) (hR : RtV G rm_Plac_weigh ad ZF (0, 0) cX4_weigh K) (v0 : Nat) (v1 : Nat) (v2 : Nat) (v3 : Int32) (v4 : Int32) (v5 : Int32) (v6 : Int32) (v7 : Int32) : Sm G rm_Plac_weigh ad ZF (0, 0) (lpK G rm_Plac_weigh ad ZF (0, 0) 55 (fun (s : (Int32 × Int32)) => [(0, .ref v0), (1, .ref v1), (2, .ref v2), (3, .int v3), (4, .int v4), (5, .int v5), (6, .int s.1), (7, .int s.2)]) (lpK G rm_Plac_weigh ad ZF (0, 0) 13 (fun (s : Int32) => [(0, .ref v0), (1, .ref v1), (2, .ref v2), (3, .int v3), (4, .int s)]) K)) 98 [(0, .ref v0), (1, .ref v1), (2, .ref v2), (3, .int v3), (4, .int v4), (5, .int v5), (6, .int v6), (7, .int v7)] [] (Plac_weigh_98 v0 v1 v2 v3 v4 v5 v6 v7) := by
  unfold Plac_weigh_98
  refine s_aload_n C rfl dX4_weigh_98 ?_
  refine s_getR C hV fl_X4_11 (fun _ _ _ => rfl) dX4_weigh_99 (fun x11 => ?_)
  refine s_iload C rfl dX4_weigh_102 ?_
  refine s_bipush C (9 : Int32) (by decide) dX4_weigh_104 ?_
  refine s_imul C dX4_weigh_106 ?_
  refine s_iload C rfl dX4_weigh_107 ?_
  refine s_iadd C dX4_weigh_109 ?_
  refine s_iconst C (1 : Int32) (by decide) dX4_weigh_110 ?_
  refine s_iadd C dX4_weigh_111 ?_
  refine s_iload C rfl dX4_weigh_112 ?_
  refine s_iastore C hV dX4_weigh_114 ?_
  refine s_iinc C (L' := fun x12 => [(7, .int x12), (0, .ref v0), (1, .ref v1), (2, .ref v2), (3, .int v3), (4, .int v4), (5, .int v5), (6, .int v6)]) (1 : Int32) (by decide) rfl (by decide) (fun _ => rfl) dX4_weigh_115 (fun x12 => ?_)
  refine s_goto C 55 (by decide) dX4_weigh_118 ?_
  exact s_back [0, 1, 2, 3, 4, 5, 6, 7] (v6, x12) rfl
set_option maxRecDepth 20000 in
theorem sm_Plac_weigh_55_b {G : GT} {ad : Nat → Nat} {K : Unit → Dm → Prop} (C : Cx G rm_Plac_weigh cX4_weigh 8 RX4) (hV : Vx G rm_Plac_weigh ad ZF (0, 0)) (hR : RtV G rm_Plac_weigh ad ZF (0, 0) cX4_weigh K) (v0 : Nat) (v1 : Nat) (v2 : Nat) (v3 : Int32) (v4 : Int32) (v5 : Int32) (v6 : Int32) (v7 : Int32) : Sm G rm_Plac_weigh ad ZF (0, 0) (lpK G rm_Plac_weigh ad ZF (0, 0) 55 (fun (s : (Int32 × Int32)) => [(0, .ref v0), (1, .ref v1), (2, .ref v2), (3, .int v3), (4, .int v4), (5, .int v5), (6, .int s.1), (7, .int s.2)]) (lpK G rm_Plac_weigh ad ZF (0, 0) 13 (fun (s : Int32) => [(0, .ref v0), (1, .ref v1), (2, .ref v2), (3, .int v3), (4, .int s)]) K)) 55 [(0, .ref v0), (1, .ref v1), (2, .ref v2), (3, .int v3), (4, .int v4), (5, .int v5), (6, .int v6), (7, .int v7)] [] (Plac_weigh_55_b v0 v1 v2 v3 v4 v5 v6 v7) := by
  unfold Plac_weigh_55_b
  refine s_iload C rfl dX4_weigh_55 ?_
  refine s_iload_n C rfl dX4_weigh_57 ?_
  refine s_icmp_ge C 121 (by decide) dX4_weigh_58 ?_ ?_
  · refine s_exit ?_
    refine s_iinc C (L' := fun x7 => [(4, .int x7), (0, .ref v0), (1, .ref v1), (2, .ref v2), (3, .int v3), (5, .int v5), (6, .int v6), (7, .int v7)]) (1 : Int32) (by decide) rfl (by decide) (fun _ => rfl) dX4_weigh_121 (fun x7 => ?_)
    refine s_goto C 13 (by decide) dX4_weigh_124 ?_
    exact s_back [0, 1, 2, 3, 4] x7 rfl
  · refine s_aload_n C rfl dX4_weigh_61 ?_
    refine s_getR C hV fl_X4_51 (fun _ _ _ => rfl) dX4_weigh_62 (fun x8 => ?_)
    refine s_iload C rfl dX4_weigh_65 ?_
    refine s_aaloadA C hV dX4_weigh_67 (fun x9 => ?_)
    refine s_wI C hV lv_X4_55 (st := []) (met_Act_writes x9) rf_Plac_weigh_Act_writes rfl rfl (Nat.le_of_ble_eq_true rfl) dX4_weigh_68 (fun r10 => ?_)
    refine s_if_eq C 98 (by decide) dX4_weigh_71 ?_ ?_
    · exact s_weak [0, 1, 2, 3, 4, 5, 6, 7] rfl (sm_Plac_weigh_98 C hV hR v0 v1 v2 v3 v4 v5 v6 v7)
    · refine s_iload C rfl dX4_weigh_74 ?_
      refine s_aload_n C rfl dX4_weigh_76 ?_
      refine s_iload C rfl dX4_weigh_77 ?_
      refine s_iconst C (1 : Int32) (by decide) dX4_weigh_79 ?_
      refine s_iload C rfl dX4_weigh_80 ?_
      refine s_ishl C dX4_weigh_82 ?_
      refine s_ior C dX4_weigh_83 ?_
      refine s_aload_n C rfl dX4_weigh_84 ?_
      refine s_iload C rfl dX4_weigh_85 ?_
      refine s_iload C rfl dX4_weigh_87 ?_
      refine s_wI C hV lv_X4_42 (st := [.int (v5 ||| ((1 : Int32) <<< (v7 &&& 31))), .ref v2, .int v6]) (met_Prog_writesWithin v1 v4 v7) rf_Plac_weigh_Prog_writesWithin rfl rfl (Nat.le_of_ble_eq_true rfl) dX4_weigh_89 (fun r13 => ?_)
      refine s_wI C hV lv_X4_61 (st := [.int v6]) (met_Verd_ofEach v2 (v5 ||| ((1 : Int32) <<< (v7 &&& 31))) r13) rf_Plac_weigh_Verd_ofEach rfl rfl (Nat.le_of_ble_eq_true rfl) dX4_weigh_92 (fun r14 => ?_)
      refine s_ior C dX4_weigh_95 ?_
      refine s_leti (fun x15 => ?_)
      refine s_istore C (L' := [(6, .int x15), (0, .ref v0), (1, .ref v1), (2, .ref v2), (3, .int v3), (4, .int v4), (5, .int v5), (7, .int v7)]) (by decide) rfl dX4_weigh_96 ?_
      exact s_weak [0, 1, 2, 3, 4, 5, 6, 7] rfl (sm_Plac_weigh_98 C hV hR v0 v1 v2 v3 v4 v5 x15 v7)
set_option maxRecDepth 20000 in
theorem sm_Plac_weigh_55 {G : GT} {ad : Nat → Nat} {K : Unit → Dm → Prop} (C : Cx G rm_Plac_weigh cX4_weigh 8 RX4) (hV : Vx G rm_Plac_weigh ad ZF (0, 0)) (hR : RtV G rm_Plac_weigh ad ZF (0, 0) cX4_weigh K) (v0 : Nat) (v1 : Nat) (v2 : Nat) (v3 : Int32) (v4 : Int32) (v5 : Int32) (s : (Int32 × Int32)) : Sm G rm_Plac_weigh ad ZF (0, 0) (lpK G rm_Plac_weigh ad ZF (0, 0) 13 (fun (s : Int32) => [(0, .ref v0), (1, .ref v1), (2, .ref v2), (3, .int v3), (4, .int s)]) K) 55 ((fun (s : (Int32 × Int32)) => [(0, .ref v0), (1, .ref v1), (2, .ref v2), (3, .int v3), (4, .int v4), (5, .int v5), (6, .int s.1), (7, .int s.2)]) s) [] (Plac_weigh_55 v0 v1 v2 v3 v4 v5 s) :=
  s_loop (en := (fun (s : (Int32 × Int32)) => [(0, .ref v0), (1, .ref v1), (2, .ref v2), (3, .int v3), (4, .int v4), (5, .int v5), (6, .int s.1), (7, .int s.2)])) (fun s => sm_Plac_weigh_55_b C hV hR v0 v1 v2 v3 v4 v5 s.1 s.2) s
set_option maxRecDepth 20000 in
theorem sm_Plac_weigh_13_b {G : GT} {ad : Nat → Nat} {K : Unit → Dm → Prop} (C : Cx G rm_Plac_weigh cX4_weigh 8 RX4) (hV : Vx G rm_Plac_weigh ad ZF (0, 0)) (hR : RtV G rm_Plac_weigh ad ZF (0, 0) cX4_weigh K) (v0 : Nat) (v1 : Nat) (v2 : Nat) (v3 : Int32) (v4 : Int32) : Sm G rm_Plac_weigh ad ZF (0, 0) (lpK G rm_Plac_weigh ad ZF (0, 0) 13 (fun (s : Int32) => [(0, .ref v0), (1, .ref v1), (2, .ref v2), (3, .int v3), (4, .int s)]) K) 13 [(0, .ref v0), (1, .ref v1), (2, .ref v2), (3, .int v3), (4, .int v4)] [] (Plac_weigh_13_b v0 v1 v2 v3 v4) := by
  unfold Plac_weigh_13_b
  refine s_iload C rfl dX4_weigh_13 ?_
  refine s_iload_n C rfl dX4_weigh_15 ?_
  refine s_icmp_gt C 127 (by decide) dX4_weigh_16 ?_ ?_
  · refine s_exit ?_
    exact s_vret hR dX4_weigh_127
  · refine s_aload_n C rfl dX4_weigh_19 ?_
    refine s_iconst C (0 : Int32) (by decide) dX4_weigh_20 ?_
    refine s_iload C rfl dX4_weigh_21 ?_
    refine s_wI C hV lv_X4_42 (st := []) (met_Prog_writesWithin v1 (0 : Int32) v4) rf_Plac_weigh_Prog_writesWithin rfl rfl (Nat.le_of_ble_eq_true rfl) dX4_weigh_23 (fun r4 => ?_)
    refine s_istore C (L' := [(5, .int r4), (0, .ref v0), (1, .ref v1), (2, .ref v2), (3, .int v3), (4, .int v4)]) (by decide) rfl dX4_weigh_26 ?_
    refine s_aload_n C rfl dX4_weigh_28 ?_
    refine s_iload C rfl dX4_weigh_29 ?_
    refine s_wI C hV lv_X4_45 (st := []) (met_Verd_of v2 r4) rf_Plac_weigh_Verd_of rfl rfl (Nat.le_of_ble_eq_true rfl) dX4_weigh_31 (fun r5 => ?_)
    refine s_istore C (L' := [(6, .int r5), (5, .int r4), (0, .ref v0), (1, .ref v1), (2, .ref v2), (3, .int v3), (4, .int v4)]) (by decide) rfl dX4_weigh_34 ?_
    refine s_aload_n C rfl dX4_weigh_36 ?_
    refine s_getR C hV fl_X4_11 (fun _ _ _ => rfl) dX4_weigh_37 (fun x6 => ?_)
    refine s_iload C rfl dX4_weigh_40 ?_
    refine s_bipush C (9 : Int32) (by decide) dX4_weigh_42 ?_
    refine s_imul C dX4_weigh_44 ?_
    refine s_iload C rfl dX4_weigh_45 ?_
    refine s_iadd C dX4_weigh_47 ?_
    refine s_iload C rfl dX4_weigh_48 ?_
    refine s_iastore C hV dX4_weigh_50 ?_
    refine s_iload C rfl dX4_weigh_51 ?_
    refine s_istore C (L' := [(7, .int v4), (6, .int r5), (5, .int r4), (0, .ref v0), (1, .ref v1), (2, .ref v2), (3, .int v3), (4, .int v4)]) (by decide) rfl dX4_weigh_53 ?_
    exact s_weak [0, 1, 2, 3, 4, 5, 6, 7] rfl (sm_Plac_weigh_55 C hV hR v0 v1 v2 v3 v4 r4 (r5, v4))
set_option maxRecDepth 20000 in
theorem sm_Plac_weigh_13 {G : GT} {ad : Nat → Nat} {K : Unit → Dm → Prop} (C : Cx G rm_Plac_weigh cX4_weigh 8 RX4) (hV : Vx G rm_Plac_weigh ad ZF (0, 0)) (hR : RtV G rm_Plac_weigh ad ZF (0, 0) cX4_weigh K) (v0 : Nat) (v1 : Nat) (v2 : Nat) (v3 : Int32) (s : Int32) : Sm G rm_Plac_weigh ad ZF (0, 0) K 13 ((fun (s : Int32) => [(0, .ref v0), (1, .ref v1), (2, .ref v2), (3, .int v3), (4, .int s)]) s) [] (Plac_weigh_13 v0 v1 v2 v3 s) :=
  s_loop (en := (fun (s : Int32) => [(0, .ref v0), (1, .ref v1), (2, .ref v2), (3, .int v3), (4, .int s)])) (fun s => sm_Plac_weigh_13_b C hV hR v0 v1 v2 v3 s) s
set_option maxRecDepth 20000 in
theorem sm_Plac_weigh {G : GT} {ad : Nat → Nat} {K : Unit → Dm → Prop} (C : Cx G rm_Plac_weigh cX4_weigh 8 RX4) (hV : Vx G rm_Plac_weigh ad ZF (0, 0)) (hR : RtV G rm_Plac_weigh ad ZF (0, 0) cX4_weigh K) (v0 : Nat) (v1 : Nat) (v2 : Nat) : Sm G rm_Plac_weigh ad ZF (0, 0) K 0 [(0, .ref v0), (1, .ref v1), (2, .ref v2)] [] (Plac_weigh v0 v1 v2) := by
  unfold Plac_weigh
  refine s_aload_n C rfl dX4_weigh_0 ?_
  refine s_getI C hV fl_X4_31 (fun _ _ _ => rfl) dX4_weigh_1 (fun x1 => ?_)
  refine s_bipush C (8 : Int32) (by decide) dX4_weigh_4 ?_
  refine s_mmin C hV mm_X4_36 ⟨Nat.le_of_ble_eq_true rfl, Nat.le_of_ble_eq_true rfl⟩ dX4_weigh_6 ?_
  refine s_leti (fun x2 => ?_)
  refine s_istore_n C (L' := [(3, .int x2), (0, .ref v0), (1, .ref v1), (2, .ref v2)]) (by decide) rfl dX4_weigh_9 ?_
  refine s_iconst C (0 : Int32) (by decide) dX4_weigh_10 ?_
  refine s_leti (fun x3 => ?_)
  refine s_istore C (L' := [(4, .int x3), (3, .int x2), (0, .ref v0), (1, .ref v1), (2, .ref v2)]) (by decide) rfl dX4_weigh_11 ?_
  exact s_weak [0, 1, 2, 3, 4] rfl (sm_Plac_weigh_13 C hV hR v0 v1 v2 x2 x3)
set_option maxRecDepth 20000 in
theorem met_Plac_weigh (v0 : Nat) (v1 : Nat) (v2 : Nat) : MV ZF yX4_weigh cX4_weigh 8 rm_Plac_weigh [.ref v0, .ref v1, .ref v2] (Plac_weigh v0 v1 v2) :=
  mv_of (L0 := [(0, .ref v0), (1, .ref v1), (2, .ref v2)]) (by decide +kernel) (Nat.le_of_ble_eq_true rfl) rfl (fun G ad K C hV hR => sm_Plac_weigh C hV hR v0 v1 v2)

noncomputable def Plac_putOf_28 (v0 : Nat) (v1 : Int32) (v3 : Int32) (t0 : Int32) (t1 : Int32) : MM ((Int32 × Int32) ⊕ Int32) :=
  ml (t0 + t1) fun x6 =>
  ml (v3 + (1 : Int32)) fun x7 =>
  mp (.inl (x6, x7))
noncomputable def Plac_putOf_4_b (v0 : Nat) (v1 : Int32) (v2 : Int32) (v3 : Int32) : MM ((Int32 × Int32) ⊕ Int32) :=
  mb (gI ZF 5 3 v0) fun x3 =>
  if x3 ≤ v3 then
  mr (
  mp v2)
  else
  mb (gR ZF 5 1 v0) fun x4 =>
  mb (aI ZF 23 x4 v3) fun x5 =>
  Plac_putOf_28 v0 v1 v3 v2 (if x5 = v1 then (1 : Int32) else (0 : Int32))
noncomputable def Plac_putOf_4 (v0 : Nat) (v1 : Int32) (s : (Int32 × Int32)) : MM Int32 := lo (fun (s : (Int32 × Int32)) => Plac_putOf_4_b v0 v1 s.1 s.2) s
noncomputable def Plac_putOf (v0 : Nat) (v1 : Int32) : MM Int32 :=
  ml (0 : Int32) fun x1 =>
  ml (0 : Int32) fun x2 =>
  Plac_putOf_4 v0 v1 (x1, x2)
set_option maxRecDepth 20000 in
theorem sm_Plac_putOf_28 {G : GT} {ad : Nat → Nat} {K : Int32 → Dm → Prop} (C : Cx G rm_Plac_putOf cX4_putOf 4 RX4) (hV : Vx G rm_Plac_putOf ad ZF (0, 0)) (hR : RtI G rm_Plac_putOf ad ZF (0, 0) cX4_putOf .int K) (v0 : Nat) (v1 : Int32) (v3 : Int32) (t0 : Int32) (t1 : Int32) : Sm G rm_Plac_putOf ad ZF (0, 0) (lpK G rm_Plac_putOf ad ZF (0, 0) 4 (fun (s : (Int32 × Int32)) => [(0, .ref v0), (1, .int v1), (2, .int s.1), (3, .int s.2)]) K) 28 [(0, .ref v0), (1, .int v1), (3, .int v3)] [.int t1, .int t0] (Plac_putOf_28 v0 v1 v3 t0 t1) := by
  unfold Plac_putOf_28
  refine s_iadd C dX4_putOf_28 ?_
  refine s_leti (fun x6 => ?_)
  refine s_istore_n C (L' := [(2, .int x6), (0, .ref v0), (1, .int v1), (3, .int v3)]) (by decide) rfl dX4_putOf_29 ?_
  refine s_iinc C (L' := fun x7 => [(3, .int x7), (2, .int x6), (0, .ref v0), (1, .int v1)]) (1 : Int32) (by decide) rfl (by decide) (fun _ => rfl) dX4_putOf_30 (fun x7 => ?_)
  refine s_goto C 4 (by decide) dX4_putOf_33 ?_
  exact s_back [0, 1, 2, 3] (x6, x7) rfl
set_option maxRecDepth 20000 in
theorem sm_Plac_putOf_4_b {G : GT} {ad : Nat → Nat} {K : Int32 → Dm → Prop} (C : Cx G rm_Plac_putOf cX4_putOf 4 RX4) (hV : Vx G rm_Plac_putOf ad ZF (0, 0)) (hR : RtI G rm_Plac_putOf ad ZF (0, 0) cX4_putOf .int K) (v0 : Nat) (v1 : Int32) (v2 : Int32) (v3 : Int32) : Sm G rm_Plac_putOf ad ZF (0, 0) (lpK G rm_Plac_putOf ad ZF (0, 0) 4 (fun (s : (Int32 × Int32)) => [(0, .ref v0), (1, .int v1), (2, .int s.1), (3, .int s.2)]) K) 4 [(0, .ref v0), (1, .int v1), (2, .int v2), (3, .int v3)] [] (Plac_putOf_4_b v0 v1 v2 v3) := by
  unfold Plac_putOf_4_b
  refine s_iload_n C rfl dX4_putOf_4 ?_
  refine s_aload_n C rfl dX4_putOf_5 ?_
  refine s_getI C hV fl_X4_21 (fun _ _ _ => rfl) dX4_putOf_6 (fun x3 => ?_)
  refine s_icmp_ge C 36 (by decide) dX4_putOf_9 ?_ ?_
  · refine s_exit ?_
    refine s_iload_n C rfl dX4_putOf_36 ?_
    exact s_ireti hR dX4_putOf_37
  · refine s_iload_n C rfl dX4_putOf_12 ?_
    refine s_aload_n C rfl dX4_putOf_13 ?_
    refine s_getR C hV fl_X4_15 (fun _ _ _ => rfl) dX4_putOf_14 (fun x4 => ?_)
    refine s_iload_n C rfl dX4_putOf_17 ?_
    refine s_iaload C hV dX4_putOf_18 (fun x5 => ?_)
    refine s_iload_n C rfl dX4_putOf_19 ?_
    refine s_ite (g := fun z => Plac_putOf_28 v0 v1 v3 v2 z) ?_
    refine s_icmp_ne C 27 (by decide) dX4_putOf_20 ?_ ?_
    · refine s_iconst C (0 : Int32) (by decide) dX4_putOf_27 ?_
      exact s_weak [0, 1, 3] rfl (sm_Plac_putOf_28 C hV hR v0 v1 v3 v2 (0 : Int32))
    · refine s_iconst C (1 : Int32) (by decide) dX4_putOf_23 ?_
      refine s_goto C 28 (by decide) dX4_putOf_24 ?_
      exact s_weak [0, 1, 3] rfl (sm_Plac_putOf_28 C hV hR v0 v1 v3 v2 (1 : Int32))
set_option maxRecDepth 20000 in
theorem sm_Plac_putOf_4 {G : GT} {ad : Nat → Nat} {K : Int32 → Dm → Prop} (C : Cx G rm_Plac_putOf cX4_putOf 4 RX4) (hV : Vx G rm_Plac_putOf ad ZF (0, 0)) (hR : RtI G rm_Plac_putOf ad ZF (0, 0) cX4_putOf .int K) (v0 : Nat) (v1 : Int32) (s : (Int32 × Int32)) : Sm G rm_Plac_putOf ad ZF (0, 0) K 4 ((fun (s : (Int32 × Int32)) => [(0, .ref v0), (1, .int v1), (2, .int s.1), (3, .int s.2)]) s) [] (Plac_putOf_4 v0 v1 s) :=
  s_loop (en := (fun (s : (Int32 × Int32)) => [(0, .ref v0), (1, .int v1), (2, .int s.1), (3, .int s.2)])) (fun s => sm_Plac_putOf_4_b C hV hR v0 v1 s.1 s.2) s
set_option maxRecDepth 20000 in
theorem sm_Plac_putOf {G : GT} {ad : Nat → Nat} {K : Int32 → Dm → Prop} (C : Cx G rm_Plac_putOf cX4_putOf 4 RX4) (hV : Vx G rm_Plac_putOf ad ZF (0, 0)) (hR : RtI G rm_Plac_putOf ad ZF (0, 0) cX4_putOf .int K) (v0 : Nat) (v1 : Int32) : Sm G rm_Plac_putOf ad ZF (0, 0) K 0 [(0, .ref v0), (1, .int v1)] [] (Plac_putOf v0 v1) := by
  unfold Plac_putOf
  refine s_iconst C (0 : Int32) (by decide) dX4_putOf_0 ?_
  refine s_leti (fun x1 => ?_)
  refine s_istore_n C (L' := [(2, .int x1), (0, .ref v0), (1, .int v1)]) (by decide) rfl dX4_putOf_1 ?_
  refine s_iconst C (0 : Int32) (by decide) dX4_putOf_2 ?_
  refine s_leti (fun x2 => ?_)
  refine s_istore_n C (L' := [(3, .int x2), (2, .int x1), (0, .ref v0), (1, .int v1)]) (by decide) rfl dX4_putOf_3 ?_
  exact s_weak [0, 1, 2, 3] rfl (sm_Plac_putOf_4 C hV hR v0 v1 (x1, x2))
set_option maxRecDepth 20000 in
theorem met_Plac_putOf (v0 : Nat) (v1 : Int32) : MI ZF yX4_putOf cX4_putOf 4 .int rm_Plac_putOf [.ref v0, .int v1] (Plac_putOf v0 v1) :=
  mi_of (L0 := [(0, .ref v0), (1, .int v1)]) (by decide +kernel) (Nat.le_of_ble_eq_true rfl) rfl (fun G ad K C hV hR => sm_Plac_putOf C hV hR v0 v1)

noncomputable def Plac_isBetter (v0 : Nat) (v1 : Int32) (v2 : Int32) : MM Int32 :=
  mb (gI ZF 5 4 v0) fun x1 =>
  if x1 = ((-1) : Int32) then
  mz (1 : Int32)
  else
  mb (gI ZF 5 4 v0) fun x2 =>
  if v1 < x2 then
  mz (1 : Int32)
  else
  mb (gI ZF 5 4 v0) fun x3 =>
  if v1 = x3 then
  mb (gI ZF 5 5 v0) fun x4 =>
  if x4 ≤ v2 then
  mz (0 : Int32)
  else
  mz (1 : Int32)
  else
  mz (0 : Int32)
set_option maxRecDepth 20000 in
theorem sm_Plac_isBetter {G : GT} {ad : Nat → Nat} {K : Int32 → Dm → Prop} (C : Cx G rm_Plac_isBetter cX4_isBetter 3 RX4) (hV : Vx G rm_Plac_isBetter ad ZF (0, 0)) (hR : RtI G rm_Plac_isBetter ad ZF (0, 0) cX4_isBetter .boolean K) (v0 : Nat) (v1 : Int32) (v2 : Int32) : Sm G rm_Plac_isBetter ad ZF (0, 0) K 0 [(0, .ref v0), (1, .int v1), (2, .int v2)] [] (Plac_isBetter v0 v1 v2) := by
  unfold Plac_isBetter
  refine s_aload_n C rfl dX4_isBetter_0 ?_
  refine s_getI C hV fl_X4_25 (fun _ _ _ => rfl) dX4_isBetter_1 (fun x1 => ?_)
  refine s_iconst C ((-1) : Int32) (by decide) dX4_isBetter_4 ?_
  refine s_icmp_eq C 32 (by decide) dX4_isBetter_5 ?_ ?_
  · refine s_iconst C (1 : Int32) (by decide) dX4_isBetter_32 ?_
    refine s_goto C 37 (by decide) dX4_isBetter_33 ?_
    exact s_iretz hR dX4_isBetter_37
  · refine s_iload_n C rfl dX4_isBetter_8 ?_
    refine s_aload_n C rfl dX4_isBetter_9 ?_
    refine s_getI C hV fl_X4_25 (fun _ _ _ => rfl) dX4_isBetter_10 (fun x2 => ?_)
    refine s_icmp_lt C 32 (by decide) dX4_isBetter_13 ?_ ?_
    · refine s_iconst C (1 : Int32) (by decide) dX4_isBetter_32 ?_
      refine s_goto C 37 (by decide) dX4_isBetter_33 ?_
      exact s_iretz hR dX4_isBetter_37
    · refine s_iload_n C rfl dX4_isBetter_16 ?_
      refine s_aload_n C rfl dX4_isBetter_17 ?_
      refine s_getI C hV fl_X4_25 (fun _ _ _ => rfl) dX4_isBetter_18 (fun x3 => ?_)
      refine s_icmp_ne C 36 (by decide) dX4_isBetter_21 ?_ ?_
      · refine s_iconst C (0 : Int32) (by decide) dX4_isBetter_36 ?_
        exact s_iretz hR dX4_isBetter_37
      · refine s_iload_n C rfl dX4_isBetter_24 ?_
        refine s_aload_n C rfl dX4_isBetter_25 ?_
        refine s_getI C hV fl_X4_28 (fun _ _ _ => rfl) dX4_isBetter_26 (fun x4 => ?_)
        refine s_icmp_ge C 36 (by decide) dX4_isBetter_29 ?_ ?_
        · refine s_iconst C (0 : Int32) (by decide) dX4_isBetter_36 ?_
          exact s_iretz hR dX4_isBetter_37
        · refine s_iconst C (1 : Int32) (by decide) dX4_isBetter_32 ?_
          refine s_goto C 37 (by decide) dX4_isBetter_33 ?_
          exact s_iretz hR dX4_isBetter_37
set_option maxRecDepth 20000 in
theorem met_Plac_isBetter (v0 : Nat) (v1 : Int32) (v2 : Int32) : MI ZF yX4_isBetter cX4_isBetter 3 .boolean rm_Plac_isBetter [.ref v0, .int v1, .int v2] (Plac_isBetter v0 v1 v2) :=
  mi_of (L0 := [(0, .ref v0), (1, .int v1), (2, .int v2)]) (by decide +kernel) (Nat.le_of_ble_eq_true rfl) rfl (fun G ad K C hV hR => sm_Plac_isBetter C hV hR v0 v1 v2)

noncomputable def Plac_isSafe_213 (v0 : Nat) (v1 : Nat) (v3 : Int32) (v4 : Int32) (v5 : Int32) (v6 : Int32) (v7 : Int32) : MM ((Int32 × Int32 × Int32 × Int32 × Int32) ⊕ Int32) :=
  ml (v7 + (1 : Int32)) fun x18 =>
  mp (.inl (v3, v4, v5, v6, x18))
noncomputable def Plac_isSafe_205 (v0 : Nat) (v1 : Nat) (v3 : Int32) (v6 : Int32) (v7 : Int32) (t0 : Int32) : MM ((Int32 × Int32 × Int32 × Int32 × Int32) ⊕ Int32) :=
  ml (v7 + (1 : Int32)) fun x23 =>
  Plac_isSafe_213 v0 v1 v3 t0 x23 v6 v7
noncomputable def Plac_isSafe_160 (v0 : Nat) (v1 : Nat) (v3 : Int32) (v4 : Int32) (v5 : Int32) (v7 : Int32) (t0 : Int32) : MM ((Int32 × Int32 × Int32 × Int32 × Int32) ⊕ Int32) :=
  mb (gR ZF 5 1 v0) fun x16 =>
  mb (aI ZF 23 x16 v7) fun x17 =>
  if x17 = 0 then
  Plac_isSafe_213 v0 v1 v3 v4 v5 t0 v7
  else
  mb (gR ZF 5 1 v0) fun x19 =>
  mb (aI ZF 23 x19 v7) fun x20 =>
  if x20 = (2 : Int32) then
  Plac_isSafe_205 v0 v1 v3 t0 v7 (0 : Int32)
  else
  mb (gR ZF 5 0 v0) fun x21 =>
  mb (aI ZF 23 x21 (((v5 * (9 : Int32)) + v7) + (1 : Int32))) fun x22 =>
  Plac_isSafe_205 v0 v1 v3 t0 v7 (v4 ||| x22)
noncomputable def Plac_isSafe_130 (v0 : Nat) (v1 : Nat) (v4 : Int32) (v5 : Int32) (v7 : Int32) (t0 : Int32) (t1 : Int32) : MM ((Int32 × Int32 × Int32 × Int32 × Int32) ⊕ Int32) :=
  ml (t0 ||| t1) fun x13 =>
  mb (gR ZF 5 0 v0) fun x14 =>
  mb (aI ZF 23 x14 (((v5 * (9 : Int32)) + v7) + (1 : Int32))) fun x15 =>
  Plac_isSafe_160 v0 v1 x13 v4 v5 v7 (if ((v4 ||| x15) &&& x13) = 0 then (1 : Int32) else (0 : Int32))
noncomputable def Plac_isSafe_109 (v0 : Nat) (v1 : Nat) (v3 : Int32) (v4 : Int32) (v5 : Int32) (v7 : Int32) (v8 : Nat) : MM ((Int32 × Int32 × Int32 × Int32 × Int32) ⊕ Int32) :=
  mb (gI ZF 1 0 v8) fun x12 =>
  if x12 = (4 : Int32) then
  mb (gI ZF 1 1 v8) fun x24 =>
  Plac_isSafe_130 v0 v1 v4 v5 v7 v3 ((1 : Int32) <<< (x24 &&& 31))
  else
  Plac_isSafe_130 v0 v1 v4 v5 v7 v3 (0 : Int32)
noncomputable def Plac_isSafe_101 (v0 : Nat) (v1 : Nat) (v3 : Int32) (v7 : Int32) (v8 : Nat) (t0 : Int32) : MM ((Int32 × Int32 × Int32 × Int32 × Int32) ⊕ Int32) :=
  ml (v7 + (1 : Int32)) fun x28 =>
  Plac_isSafe_109 v0 v1 v3 t0 x28 v7 v8
noncomputable def Plac_isSafe_32_b (v0 : Nat) (v1 : Nat) (v3 : Int32) (v4 : Int32) (v5 : Int32) (v6 : Int32) (v7 : Int32) : MM ((Int32 × Int32 × Int32 × Int32 × Int32) ⊕ Int32) :=
  mb (gI ZF 5 3 v0) fun x7 =>
  if x7 < v7 then
  mr (
  mz v6)
  else
  mb (gI ZF 6 1 v1) fun x8 =>
  if x8 ≤ v7 then
  mr (
  mz v6)
  else
  if v6 = 0 then
  mr (
  mz v6)
  else
  mb (gR ZF 6 0 v1) fun x9 =>
  mb (aR ZF 26 x9 v7) fun x10 =>
  mb (vc ZF 1 x10 (Act_endsEpoch x10)) fun r11 =>
  if r11 = 0 then
  Plac_isSafe_109 v0 v1 v3 v4 v5 v7 x10
  else
  mb (gI ZF 1 0 x10) fun x25 =>
  if x25 = (3 : Int32) then
  Plac_isSafe_101 v0 v1 v3 v7 x10 (0 : Int32)
  else
  mb (gR ZF 5 0 v0) fun x26 =>
  mb (aI ZF 23 x26 ((v5 * (9 : Int32)) + v7)) fun x27 =>
  Plac_isSafe_101 v0 v1 v3 v7 x10 (v4 ||| x27)
noncomputable def Plac_isSafe_32 (v0 : Nat) (v1 : Nat) (s : (Int32 × Int32 × Int32 × Int32 × Int32)) : MM Int32 := lo (fun (s : (Int32 × Int32 × Int32 × Int32 × Int32)) => Plac_isSafe_32_b v0 v1 s.1 s.2.1 s.2.2.1 s.2.2.2.1 s.2.2.2.2) s
noncomputable def Plac_isSafe_27 (v0 : Nat) (v1 : Nat) (v3 : Int32) (v4 : Int32) (v5 : Int32) (t0 : Int32) : MM Int32 :=
  ml (0 : Int32) fun x6 =>
  Plac_isSafe_32 v0 v1 (v3, v4, v5, t0, x6)
noncomputable def Plac_isSafe (v0 : Nat) (v1 : Nat) (v2 : Int32) : MM Int32 :=
  ml (v2 ||| (64 : Int32)) fun x1 =>
  ml (0 : Int32) fun x2 =>
  ml (0 : Int32) fun x3 =>
  mb (gR ZF 5 0 v0) fun x4 =>
  mb (aI ZF 23 x4 (0 : Int32)) fun x5 =>
  Plac_isSafe_27 v0 v1 x1 x2 x3 (if (x5 &&& x1) = 0 then (1 : Int32) else (0 : Int32))
set_option maxRecDepth 20000 in
theorem sm_Plac_isSafe_213 {G : GT} {ad : Nat → Nat} {K : Int32 → Dm → Prop} (C : Cx G rm_Plac_isSafe cX4_isSafe 9 RX4) (hV : Vx G rm_Plac_isSafe ad ZF (0, 0)) (hR : RtI G rm_Plac_isSafe ad ZF (0, 0) cX4_isSafe .boolean K) (v0 : Nat) (v1 : Nat) (v3 : Int32) (v4 : Int32) (v5 : Int32) (v6 : Int32) (v7 : Int32) : Sm G rm_Plac_isSafe ad ZF (0, 0) (lpK G rm_Plac_isSafe ad ZF (0, 0) 32 (fun (s : (Int32 × Int32 × Int32 × Int32 × Int32)) => [(0, .ref v0), (1, .ref v1), (3, .int s.1), (4, .int s.2.1), (5, .int s.2.2.1), (6, .int s.2.2.2.1), (7, .int s.2.2.2.2)]) K) 213 [(0, .ref v0), (1, .ref v1), (3, .int v3), (4, .int v4), (5, .int v5), (6, .int v6), (7, .int v7)] [] (Plac_isSafe_213 v0 v1 v3 v4 v5 v6 v7) := by
  unfold Plac_isSafe_213
  refine s_iinc C (L' := fun x18 => [(7, .int x18), (0, .ref v0), (1, .ref v1), (3, .int v3), (4, .int v4), (5, .int v5), (6, .int v6)]) (1 : Int32) (by decide) rfl (by decide) (fun _ => rfl) dX4_isSafe_213 (fun x18 => ?_)
  refine s_goto C 32 (by decide) dX4_isSafe_216 ?_
  exact s_back [0, 1, 3, 4, 5, 6, 7] (v3, v4, v5, v6, x18) rfl
set_option maxRecDepth 20000 in
theorem sm_Plac_isSafe_205 {G : GT} {ad : Nat → Nat} {K : Int32 → Dm → Prop} (C : Cx G rm_Plac_isSafe cX4_isSafe 9 RX4) (hV : Vx G rm_Plac_isSafe ad ZF (0, 0)) (hR : RtI G rm_Plac_isSafe ad ZF (0, 0) cX4_isSafe .boolean K) (v0 : Nat) (v1 : Nat) (v3 : Int32) (v6 : Int32) (v7 : Int32) (t0 : Int32) : Sm G rm_Plac_isSafe ad ZF (0, 0) (lpK G rm_Plac_isSafe ad ZF (0, 0) 32 (fun (s : (Int32 × Int32 × Int32 × Int32 × Int32)) => [(0, .ref v0), (1, .ref v1), (3, .int s.1), (4, .int s.2.1), (5, .int s.2.2.1), (6, .int s.2.2.2.1), (7, .int s.2.2.2.2)]) K) 205 [(0, .ref v0), (1, .ref v1), (3, .int v3), (6, .int v6), (7, .int v7)] [.int t0] (Plac_isSafe_205 v0 v1 v3 v6 v7 t0) := by
  unfold Plac_isSafe_205
  refine s_istore C (L' := [(4, .int t0), (0, .ref v0), (1, .ref v1), (3, .int v3), (6, .int v6), (7, .int v7)]) (by decide) rfl dX4_isSafe_205 ?_
  refine s_iload C rfl dX4_isSafe_207 ?_
  refine s_iconst C (1 : Int32) (by decide) dX4_isSafe_209 ?_
  refine s_iadd C dX4_isSafe_210 ?_
  refine s_leti (fun x23 => ?_)
  refine s_istore C (L' := [(5, .int x23), (4, .int t0), (0, .ref v0), (1, .ref v1), (3, .int v3), (6, .int v6), (7, .int v7)]) (by decide) rfl dX4_isSafe_211 ?_
  exact s_weak [0, 1, 3, 4, 5, 6, 7] rfl (sm_Plac_isSafe_213 C hV hR v0 v1 v3 t0 x23 v6 v7)
set_option maxRecDepth 20000 in
theorem sm_Plac_isSafe_160 {G : GT} {ad : Nat → Nat} {K : Int32 → Dm → Prop} (C : Cx G rm_Plac_isSafe cX4_isSafe 9 RX4) (hV : Vx G rm_Plac_isSafe ad ZF (0, 0)) (hR : RtI G rm_Plac_isSafe ad ZF (0, 0) cX4_isSafe .boolean K) (v0 : Nat) (v1 : Nat) (v3 : Int32) (v4 : Int32) (v5 : Int32) (v7 : Int32) (t0 : Int32) : Sm G rm_Plac_isSafe ad ZF (0, 0) (lpK G rm_Plac_isSafe ad ZF (0, 0) 32 (fun (s : (Int32 × Int32 × Int32 × Int32 × Int32)) => [(0, .ref v0), (1, .ref v1), (3, .int s.1), (4, .int s.2.1), (5, .int s.2.2.1), (6, .int s.2.2.2.1), (7, .int s.2.2.2.2)]) K) 160 [(0, .ref v0), (1, .ref v1), (3, .int v3), (4, .int v4), (5, .int v5), (7, .int v7)] [.int t0] (Plac_isSafe_160 v0 v1 v3 v4 v5 v7 t0) := by
  unfold Plac_isSafe_160
  refine s_istore C (L' := [(6, .int t0), (0, .ref v0), (1, .ref v1), (3, .int v3), (4, .int v4), (5, .int v5), (7, .int v7)]) (by decide) rfl dX4_isSafe_160 ?_
  refine s_aload_n C rfl dX4_isSafe_162 ?_
  refine s_getR C hV fl_X4_15 (fun _ _ _ => rfl) dX4_isSafe_163 (fun x16 => ?_)
  refine s_iload C rfl dX4_isSafe_166 ?_
  refine s_iaload C hV dX4_isSafe_168 (fun x17 => ?_)
  refine s_if_eq C 213 (by decide) dX4_isSafe_169 ?_ ?_
  · exact s_weak [0, 1, 3, 4, 5, 6, 7] rfl (sm_Plac_isSafe_213 C hV hR v0 v1 v3 v4 v5 t0 v7)
  · refine s_aload_n C rfl dX4_isSafe_172 ?_
    refine s_getR C hV fl_X4_15 (fun _ _ _ => rfl) dX4_isSafe_173 (fun x19 => ?_)
    refine s_iload C rfl dX4_isSafe_176 ?_
    refine s_iaload C hV dX4_isSafe_178 (fun x20 => ?_)
    refine s_iconst C (2 : Int32) (by decide) dX4_isSafe_179 ?_
    refine s_icmp_ne C 187 (by decide) dX4_isSafe_180 ?_ ?_
    · refine s_iload C rfl dX4_isSafe_187 ?_
      refine s_aload_n C rfl dX4_isSafe_189 ?_
      refine s_getR C hV fl_X4_11 (fun _ _ _ => rfl) dX4_isSafe_190 (fun x21 => ?_)
      refine s_iload C rfl dX4_isSafe_193 ?_
      refine s_bipush C (9 : Int32) (by decide) dX4_isSafe_195 ?_
      refine s_imul C dX4_isSafe_197 ?_
      refine s_iload C rfl dX4_isSafe_198 ?_
      refine s_iadd C dX4_isSafe_200 ?_
      refine s_iconst C (1 : Int32) (by decide) dX4_isSafe_201 ?_
      refine s_iadd C dX4_isSafe_202 ?_
      refine s_iaload C hV dX4_isSafe_203 (fun x22 => ?_)
      refine s_ior C dX4_isSafe_204 ?_
      exact s_weak [0, 1, 3, 6, 7] rfl (sm_Plac_isSafe_205 C hV hR v0 v1 v3 t0 v7 (v4 ||| x22))
    · refine s_iconst C (0 : Int32) (by decide) dX4_isSafe_183 ?_
      refine s_goto C 205 (by decide) dX4_isSafe_184 ?_
      exact s_weak [0, 1, 3, 6, 7] rfl (sm_Plac_isSafe_205 C hV hR v0 v1 v3 t0 v7 (0 : Int32))
set_option maxRecDepth 20000 in
theorem sm_Plac_isSafe_130 {G : GT} {ad : Nat → Nat} {K : Int32 → Dm → Prop} (C : Cx G rm_Plac_isSafe cX4_isSafe 9 RX4) (hV : Vx G rm_Plac_isSafe ad ZF (0, 0)) (hR : RtI G rm_Plac_isSafe ad ZF (0, 0) cX4_isSafe .boolean K) (v0 : Nat) (v1 : Nat) (v4 : Int32) (v5 : Int32) (v7 : Int32) (t0 : Int32) (t1 : Int32) : Sm G rm_Plac_isSafe ad ZF (0, 0) (lpK G rm_Plac_isSafe ad ZF (0, 0) 32 (fun (s : (Int32 × Int32 × Int32 × Int32 × Int32)) => [(0, .ref v0), (1, .ref v1), (3, .int s.1), (4, .int s.2.1), (5, .int s.2.2.1), (6, .int s.2.2.2.1), (7, .int s.2.2.2.2)]) K) 130 [(0, .ref v0), (1, .ref v1), (4, .int v4), (5, .int v5), (7, .int v7)] [.int t1, .int t0] (Plac_isSafe_130 v0 v1 v4 v5 v7 t0 t1) := by
  unfold Plac_isSafe_130
  refine s_ior C dX4_isSafe_130 ?_
  refine s_leti (fun x13 => ?_)
  refine s_istore_n C (L' := [(3, .int x13), (0, .ref v0), (1, .ref v1), (4, .int v4), (5, .int v5), (7, .int v7)]) (by decide) rfl dX4_isSafe_131 ?_
  refine s_iload C rfl dX4_isSafe_132 ?_
  refine s_aload_n C rfl dX4_isSafe_134 ?_
  refine s_getR C hV fl_X4_11 (fun _ _ _ => rfl) dX4_isSafe_135 (fun x14 => ?_)
  refine s_iload C rfl dX4_isSafe_138 ?_
  refine s_bipush C (9 : Int32) (by decide) dX4_isSafe_140 ?_
  refine s_imul C dX4_isSafe_142 ?_
  refine s_iload C rfl dX4_isSafe_143 ?_
  refine s_iadd C dX4_isSafe_145 ?_
  refine s_iconst C (1 : Int32) (by decide) dX4_isSafe_146 ?_
  refine s_iadd C dX4_isSafe_147 ?_
  refine s_iaload C hV dX4_isSafe_148 (fun x15 => ?_)
  refine s_ior C dX4_isSafe_149 ?_
  refine s_iload_n C rfl dX4_isSafe_150 ?_
  refine s_iand C dX4_isSafe_151 ?_
  refine s_ite (g := fun z => Plac_isSafe_160 v0 v1 x13 v4 v5 v7 z) ?_
  refine s_if_ne C 159 (by decide) dX4_isSafe_152 ?_ ?_
  · refine s_iconst C (0 : Int32) (by decide) dX4_isSafe_159 ?_
    exact s_weak [0, 1, 3, 4, 5, 7] rfl (sm_Plac_isSafe_160 C hV hR v0 v1 x13 v4 v5 v7 (0 : Int32))
  · refine s_iconst C (1 : Int32) (by decide) dX4_isSafe_155 ?_
    refine s_goto C 160 (by decide) dX4_isSafe_156 ?_
    exact s_weak [0, 1, 3, 4, 5, 7] rfl (sm_Plac_isSafe_160 C hV hR v0 v1 x13 v4 v5 v7 (1 : Int32))
set_option maxRecDepth 20000 in
theorem sm_Plac_isSafe_109 {G : GT} {ad : Nat → Nat} {K : Int32 → Dm → Prop} (C : Cx G rm_Plac_isSafe cX4_isSafe 9 RX4) (hV : Vx G rm_Plac_isSafe ad ZF (0, 0)) (hR : RtI G rm_Plac_isSafe ad ZF (0, 0) cX4_isSafe .boolean K) (v0 : Nat) (v1 : Nat) (v3 : Int32) (v4 : Int32) (v5 : Int32) (v7 : Int32) (v8 : Nat) : Sm G rm_Plac_isSafe ad ZF (0, 0) (lpK G rm_Plac_isSafe ad ZF (0, 0) 32 (fun (s : (Int32 × Int32 × Int32 × Int32 × Int32)) => [(0, .ref v0), (1, .ref v1), (3, .int s.1), (4, .int s.2.1), (5, .int s.2.2.1), (6, .int s.2.2.2.1), (7, .int s.2.2.2.2)]) K) 109 [(0, .ref v0), (1, .ref v1), (3, .int v3), (4, .int v4), (5, .int v5), (7, .int v7), (8, .ref v8)] [] (Plac_isSafe_109 v0 v1 v3 v4 v5 v7 v8) := by
  unfold Plac_isSafe_109
  refine s_iload_n C rfl dX4_isSafe_109 ?_
  refine s_aload C rfl dX4_isSafe_110 ?_
  refine s_getI C hV fl_X4_96 (fun _ _ _ => rfl) dX4_isSafe_112 (fun x12 => ?_)
  refine s_iconst C (4 : Int32) (by decide) dX4_isSafe_115 ?_
  refine s_icmp_ne C 129 (by decide) dX4_isSafe_116 ?_ ?_
  · refine s_iconst C (0 : Int32) (by decide) dX4_isSafe_129 ?_
    exact s_weak [0, 1, 4, 5, 7] rfl (sm_Plac_isSafe_130 C hV hR v0 v1 v4 v5 v7 v3 (0 : Int32))
  · refine s_iconst C (1 : Int32) (by decide) dX4_isSafe_119 ?_
    refine s_aload C rfl dX4_isSafe_120 ?_
    refine s_getI C hV fl_X4_99 (fun _ _ _ => rfl) dX4_isSafe_122 (fun x24 => ?_)
    refine s_ishl C dX4_isSafe_125 ?_
    refine s_goto C 130 (by decide) dX4_isSafe_126 ?_
    exact s_weak [0, 1, 4, 5, 7] rfl (sm_Plac_isSafe_130 C hV hR v0 v1 v4 v5 v7 v3 ((1 : Int32) <<< (x24 &&& 31)))
set_option maxRecDepth 20000 in
theorem sm_Plac_isSafe_101 {G : GT} {ad : Nat → Nat} {K : Int32 → Dm → Prop} (C : Cx G rm_Plac_isSafe cX4_isSafe 9 RX4) (hV : Vx G rm_Plac_isSafe ad ZF (0, 0)) (hR : RtI G rm_Plac_isSafe ad ZF (0, 0) cX4_isSafe .boolean K) (v0 : Nat) (v1 : Nat) (v3 : Int32) (v7 : Int32) (v8 : Nat) (t0 : Int32) : Sm G rm_Plac_isSafe ad ZF (0, 0) (lpK G rm_Plac_isSafe ad ZF (0, 0) 32 (fun (s : (Int32 × Int32 × Int32 × Int32 × Int32)) => [(0, .ref v0), (1, .ref v1), (3, .int s.1), (4, .int s.2.1), (5, .int s.2.2.1), (6, .int s.2.2.2.1), (7, .int s.2.2.2.2)]) K) 101 [(0, .ref v0), (1, .ref v1), (3, .int v3), (7, .int v7), (8, .ref v8)] [.int t0] (Plac_isSafe_101 v0 v1 v3 v7 v8 t0) := by
  unfold Plac_isSafe_101
  refine s_istore C (L' := [(4, .int t0), (0, .ref v0), (1, .ref v1), (3, .int v3), (7, .int v7), (8, .ref v8)]) (by decide) rfl dX4_isSafe_101 ?_
  refine s_iload C rfl dX4_isSafe_103 ?_
  refine s_iconst C (1 : Int32) (by decide) dX4_isSafe_105 ?_
  refine s_iadd C dX4_isSafe_106 ?_
  refine s_leti (fun x28 => ?_)
  refine s_istore C (L' := [(5, .int x28), (4, .int t0), (0, .ref v0), (1, .ref v1), (3, .int v3), (7, .int v7), (8, .ref v8)]) (by decide) rfl dX4_isSafe_107 ?_
  exact s_weak [0, 1, 3, 4, 5, 7, 8] rfl (sm_Plac_isSafe_109 C hV hR v0 v1 v3 t0 x28 v7 v8)
set_option maxRecDepth 20000 in
theorem sm_Plac_isSafe_32_b {G : GT} {ad : Nat → Nat} {K : Int32 → Dm → Prop} (C : Cx G rm_Plac_isSafe cX4_isSafe 9 RX4) (hV : Vx G rm_Plac_isSafe ad ZF (0, 0)) (hR : RtI G rm_Plac_isSafe ad ZF (0, 0) cX4_isSafe .boolean K) (v0 : Nat) (v1 : Nat) (v3 : Int32) (v4 : Int32) (v5 : Int32) (v6 : Int32) (v7 : Int32) : Sm G rm_Plac_isSafe ad ZF (0, 0) (lpK G rm_Plac_isSafe ad ZF (0, 0) 32 (fun (s : (Int32 × Int32 × Int32 × Int32 × Int32)) => [(0, .ref v0), (1, .ref v1), (3, .int s.1), (4, .int s.2.1), (5, .int s.2.2.1), (6, .int s.2.2.2.1), (7, .int s.2.2.2.2)]) K) 32 [(0, .ref v0), (1, .ref v1), (3, .int v3), (4, .int v4), (5, .int v5), (6, .int v6), (7, .int v7)] [] (Plac_isSafe_32_b v0 v1 v3 v4 v5 v6 v7) := by
  unfold Plac_isSafe_32_b
  refine s_iload C rfl dX4_isSafe_32 ?_
  refine s_aload_n C rfl dX4_isSafe_34 ?_
  refine s_getI C hV fl_X4_21 (fun _ _ _ => rfl) dX4_isSafe_35 (fun x7 => ?_)
  refine s_icmp_gt C 219 (by decide) dX4_isSafe_38 ?_ ?_
  · refine s_exit ?_
    refine s_iload C rfl dX4_isSafe_219 ?_
    exact s_iretz hR dX4_isSafe_221
  · refine s_iload C rfl dX4_isSafe_41 ?_
    refine s_aload_n C rfl dX4_isSafe_43 ?_
    refine s_getI C hV fl_X4_31 (fun _ _ _ => rfl) dX4_isSafe_44 (fun x8 => ?_)
    refine s_icmp_ge C 219 (by decide) dX4_isSafe_47 ?_ ?_
    · refine s_exit ?_
      refine s_iload C rfl dX4_isSafe_219 ?_
      exact s_iretz hR dX4_isSafe_221
    · refine s_iload C rfl dX4_isSafe_50 ?_
      refine s_if_eq C 219 (by decide) dX4_isSafe_52 ?_ ?_
      · refine s_exit ?_
        refine s_iload C rfl dX4_isSafe_219 ?_
        exact s_iretz hR dX4_isSafe_221
      · refine s_aload_n C rfl dX4_isSafe_55 ?_
        refine s_getR C hV fl_X4_51 (fun _ _ _ => rfl) dX4_isSafe_56 (fun x9 => ?_)
        refine s_iload C rfl dX4_isSafe_59 ?_
        refine s_aaloadA C hV dX4_isSafe_61 (fun x10 => ?_)
        refine s_astore C (L' := [(8, .ref x10), (0, .ref v0), (1, .ref v1), (3, .int v3), (4, .int v4), (5, .int v5), (6, .int v6), (7, .int v7)]) (by decide) rfl dX4_isSafe_62 ?_
        refine s_aload C rfl dX4_isSafe_64 ?_
        refine s_wI C hV lv_X4_93 (st := []) (met_Act_endsEpoch x10) rf_Plac_isSafe_Act_endsEpoch rfl rfl (Nat.le_of_ble_eq_true rfl) dX4_isSafe_66 (fun r11 => ?_)
        refine s_if_eq C 109 (by decide) dX4_isSafe_69 ?_ ?_
        · exact s_weak [0, 1, 3, 4, 5, 7, 8] rfl (sm_Plac_isSafe_109 C hV hR v0 v1 v3 v4 v5 v7 x10)
        · refine s_aload C rfl dX4_isSafe_72 ?_
          refine s_getI C hV fl_X4_96 (fun _ _ _ => rfl) dX4_isSafe_74 (fun x25 => ?_)
          refine s_iconst C (3 : Int32) (by decide) dX4_isSafe_77 ?_
          refine s_icmp_ne C 85 (by decide) dX4_isSafe_78 ?_ ?_
          · refine s_iload C rfl dX4_isSafe_85 ?_
            refine s_aload_n C rfl dX4_isSafe_87 ?_
            refine s_getR C hV fl_X4_11 (fun _ _ _ => rfl) dX4_isSafe_88 (fun x26 => ?_)
            refine s_iload C rfl dX4_isSafe_91 ?_
            refine s_bipush C (9 : Int32) (by decide) dX4_isSafe_93 ?_
            refine s_imul C dX4_isSafe_95 ?_
            refine s_iload C rfl dX4_isSafe_96 ?_
            refine s_iadd C dX4_isSafe_98 ?_
            refine s_iaload C hV dX4_isSafe_99 (fun x27 => ?_)
            refine s_ior C dX4_isSafe_100 ?_
            exact s_weak [0, 1, 3, 7, 8] rfl (sm_Plac_isSafe_101 C hV hR v0 v1 v3 v7 x10 (v4 ||| x27))
          · refine s_iconst C (0 : Int32) (by decide) dX4_isSafe_81 ?_
            refine s_goto C 101 (by decide) dX4_isSafe_82 ?_
            exact s_weak [0, 1, 3, 7, 8] rfl (sm_Plac_isSafe_101 C hV hR v0 v1 v3 v7 x10 (0 : Int32))
set_option maxRecDepth 20000 in
theorem sm_Plac_isSafe_32 {G : GT} {ad : Nat → Nat} {K : Int32 → Dm → Prop} (C : Cx G rm_Plac_isSafe cX4_isSafe 9 RX4) (hV : Vx G rm_Plac_isSafe ad ZF (0, 0)) (hR : RtI G rm_Plac_isSafe ad ZF (0, 0) cX4_isSafe .boolean K) (v0 : Nat) (v1 : Nat) (s : (Int32 × Int32 × Int32 × Int32 × Int32)) : Sm G rm_Plac_isSafe ad ZF (0, 0) K 32 ((fun (s : (Int32 × Int32 × Int32 × Int32 × Int32)) => [(0, .ref v0), (1, .ref v1), (3, .int s.1), (4, .int s.2.1), (5, .int s.2.2.1), (6, .int s.2.2.2.1), (7, .int s.2.2.2.2)]) s) [] (Plac_isSafe_32 v0 v1 s) :=
  s_loop (en := (fun (s : (Int32 × Int32 × Int32 × Int32 × Int32)) => [(0, .ref v0), (1, .ref v1), (3, .int s.1), (4, .int s.2.1), (5, .int s.2.2.1), (6, .int s.2.2.2.1), (7, .int s.2.2.2.2)])) (fun s => sm_Plac_isSafe_32_b C hV hR v0 v1 s.1 s.2.1 s.2.2.1 s.2.2.2.1 s.2.2.2.2) s
set_option maxRecDepth 20000 in
theorem sm_Plac_isSafe_27 {G : GT} {ad : Nat → Nat} {K : Int32 → Dm → Prop} (C : Cx G rm_Plac_isSafe cX4_isSafe 9 RX4) (hV : Vx G rm_Plac_isSafe ad ZF (0, 0)) (hR : RtI G rm_Plac_isSafe ad ZF (0, 0) cX4_isSafe .boolean K) (v0 : Nat) (v1 : Nat) (v3 : Int32) (v4 : Int32) (v5 : Int32) (t0 : Int32) : Sm G rm_Plac_isSafe ad ZF (0, 0) K 27 [(0, .ref v0), (1, .ref v1), (3, .int v3), (4, .int v4), (5, .int v5)] [.int t0] (Plac_isSafe_27 v0 v1 v3 v4 v5 t0) := by
  unfold Plac_isSafe_27
  refine s_istore C (L' := [(6, .int t0), (0, .ref v0), (1, .ref v1), (3, .int v3), (4, .int v4), (5, .int v5)]) (by decide) rfl dX4_isSafe_27 ?_
  refine s_iconst C (0 : Int32) (by decide) dX4_isSafe_29 ?_
  refine s_leti (fun x6 => ?_)
  refine s_istore C (L' := [(7, .int x6), (6, .int t0), (0, .ref v0), (1, .ref v1), (3, .int v3), (4, .int v4), (5, .int v5)]) (by decide) rfl dX4_isSafe_30 ?_
  exact s_weak [0, 1, 3, 4, 5, 6, 7] rfl (sm_Plac_isSafe_32 C hV hR v0 v1 (v3, v4, v5, t0, x6))
set_option maxRecDepth 20000 in
theorem sm_Plac_isSafe {G : GT} {ad : Nat → Nat} {K : Int32 → Dm → Prop} (C : Cx G rm_Plac_isSafe cX4_isSafe 9 RX4) (hV : Vx G rm_Plac_isSafe ad ZF (0, 0)) (hR : RtI G rm_Plac_isSafe ad ZF (0, 0) cX4_isSafe .boolean K) (v0 : Nat) (v1 : Nat) (v2 : Int32) : Sm G rm_Plac_isSafe ad ZF (0, 0) K 0 [(0, .ref v0), (1, .ref v1), (2, .int v2)] [] (Plac_isSafe v0 v1 v2) := by
  unfold Plac_isSafe
  refine s_iload_n C rfl dX4_isSafe_0 ?_
  refine s_bipush C (64 : Int32) (by decide) dX4_isSafe_1 ?_
  refine s_ior C dX4_isSafe_3 ?_
  refine s_leti (fun x1 => ?_)
  refine s_istore_n C (L' := [(3, .int x1), (0, .ref v0), (1, .ref v1), (2, .int v2)]) (by decide) rfl dX4_isSafe_4 ?_
  refine s_iconst C (0 : Int32) (by decide) dX4_isSafe_5 ?_
  refine s_leti (fun x2 => ?_)
  refine s_istore C (L' := [(4, .int x2), (3, .int x1), (0, .ref v0), (1, .ref v1), (2, .int v2)]) (by decide) rfl dX4_isSafe_6 ?_
  refine s_iconst C (0 : Int32) (by decide) dX4_isSafe_8 ?_
  refine s_leti (fun x3 => ?_)
  refine s_istore C (L' := [(5, .int x3), (4, .int x2), (3, .int x1), (0, .ref v0), (1, .ref v1), (2, .int v2)]) (by decide) rfl dX4_isSafe_9 ?_
  refine s_aload_n C rfl dX4_isSafe_11 ?_
  refine s_getR C hV fl_X4_11 (fun _ _ _ => rfl) dX4_isSafe_12 (fun x4 => ?_)
  refine s_iconst C (0 : Int32) (by decide) dX4_isSafe_15 ?_
  refine s_iaload C hV dX4_isSafe_16 (fun x5 => ?_)
  refine s_iload_n C rfl dX4_isSafe_17 ?_
  refine s_iand C dX4_isSafe_18 ?_
  refine s_ite (g := fun z => Plac_isSafe_27 v0 v1 x1 x2 x3 z) ?_
  refine s_if_ne C 26 (by decide) dX4_isSafe_19 ?_ ?_
  · refine s_iconst C (0 : Int32) (by decide) dX4_isSafe_26 ?_
    exact s_weak [0, 1, 3, 4, 5] rfl (sm_Plac_isSafe_27 C hV hR v0 v1 x1 x2 x3 (0 : Int32))
  · refine s_iconst C (1 : Int32) (by decide) dX4_isSafe_22 ?_
    refine s_goto C 27 (by decide) dX4_isSafe_23 ?_
    exact s_weak [0, 1, 3, 4, 5] rfl (sm_Plac_isSafe_27 C hV hR v0 v1 x1 x2 x3 (1 : Int32))
set_option maxRecDepth 20000 in
theorem met_Plac_isSafe (v0 : Nat) (v1 : Nat) (v2 : Int32) : MI ZF yX4_isSafe cX4_isSafe 9 .boolean rm_Plac_isSafe [.ref v0, .ref v1, .int v2] (Plac_isSafe v0 v1 v2) :=
  mi_of (L0 := [(0, .ref v0), (1, .ref v1), (2, .int v2)]) (by decide +kernel) (Nat.le_of_ble_eq_true rfl) rfl (fun G ad K C hV hR => sm_Plac_isSafe C hV hR v0 v1 v2)

noncomputable def Plac_goOn_34 (v0 : Nat) (v1 : Int32) : MM Unit :=
  if v1 < 0 then
  mp ()
  else
  mb (gR ZF 5 1 v0) fun x3 =>
  mb (aI ZF 23 x3 v1) fun x4 =>
  mb (sI ZF x3 v1 (x4 + (1 : Int32))) fun _ =>
  mp ()
noncomputable def Plac_goOn_7_b (v0 : Nat) (v1 : Int32) : MM (Int32 ⊕ Unit) :=
  if v1 < 0 then
  mr (Plac_goOn_34 v0 v1)
  else
  mb (gR ZF 5 1 v0) fun x5 =>
  mb (aI ZF 23 x5 v1) fun x6 =>
  if x6 = (2 : Int32) then
  mb (gR ZF 5 1 v0) fun x7 =>
  mb (sI ZF x7 v1 (0 : Int32)) fun _ =>
  ml (v1 + (-1)) fun x8 =>
  mp (.inl x8)
  else
  mr (Plac_goOn_34 v0 v1)
noncomputable def Plac_goOn_7 (v0 : Nat) (s : Int32) : MM Unit := lo (fun (s : Int32) => Plac_goOn_7_b v0 s) s
noncomputable def Plac_goOn (v0 : Nat) : MM Unit :=
  mb (gI ZF 5 3 v0) fun x1 =>
  ml (x1 - (1 : Int32)) fun x2 =>
  Plac_goOn_7 v0 x2
set_option maxRecDepth 20000 in
theorem sm_Plac_goOn_34 {G : GT} {ad : Nat → Nat} {K : Unit → Dm → Prop} (C : Cx G rm_Plac_goOn cX4_goOn 2 RX4) (hV : Vx G rm_Plac_goOn ad ZF (0, 0)) (hR : RtV G rm_Plac_goOn ad ZF (0, 0) cX4_goOn K) (v0 : Nat) (v1 : Int32) : Sm G rm_Plac_goOn ad ZF (0, 0) K 34 [(0, .ref v0), (1, .int v1)] [] (Plac_goOn_34 v0 v1) := by
  unfold Plac_goOn_34
  refine s_iload_n C rfl dX4_goOn_34 ?_
  refine s_if_lt C 48 (by decide) dX4_goOn_35 ?_ ?_
  · exact s_vret hR dX4_goOn_48
  · refine s_aload_n C rfl dX4_goOn_38 ?_
    refine s_getR C hV fl_X4_15 (fun _ _ _ => rfl) dX4_goOn_39 (fun x3 => ?_)
    refine s_iload_n C rfl dX4_goOn_42 ?_
    refine s_dup2 C dX4_goOn_43 ?_
    refine s_iaload C hV dX4_goOn_44 (fun x4 => ?_)
    refine s_iconst C (1 : Int32) (by decide) dX4_goOn_45 ?_
    refine s_iadd C dX4_goOn_46 ?_
    refine s_iastore C hV dX4_goOn_47 ?_
    exact s_vret hR dX4_goOn_48
set_option maxRecDepth 20000 in
theorem sm_Plac_goOn_7_b {G : GT} {ad : Nat → Nat} {K : Unit → Dm → Prop} (C : Cx G rm_Plac_goOn cX4_goOn 2 RX4) (hV : Vx G rm_Plac_goOn ad ZF (0, 0)) (hR : RtV G rm_Plac_goOn ad ZF (0, 0) cX4_goOn K) (v0 : Nat) (v1 : Int32) : Sm G rm_Plac_goOn ad ZF (0, 0) (lpK G rm_Plac_goOn ad ZF (0, 0) 7 (fun (s : Int32) => [(0, .ref v0), (1, .int s)]) K) 7 [(0, .ref v0), (1, .int v1)] [] (Plac_goOn_7_b v0 v1) := by
  unfold Plac_goOn_7_b
  refine s_iload_n C rfl dX4_goOn_7 ?_
  refine s_if_lt C 34 (by decide) dX4_goOn_8 ?_ ?_
  · refine s_exit ?_
    exact s_weak [0, 1] rfl (sm_Plac_goOn_34 C hV hR v0 v1)
  · refine s_aload_n C rfl dX4_goOn_11 ?_
    refine s_getR C hV fl_X4_15 (fun _ _ _ => rfl) dX4_goOn_12 (fun x5 => ?_)
    refine s_iload_n C rfl dX4_goOn_15 ?_
    refine s_iaload C hV dX4_goOn_16 (fun x6 => ?_)
    refine s_iconst C (2 : Int32) (by decide) dX4_goOn_17 ?_
    refine s_icmp_ne C 34 (by decide) dX4_goOn_18 ?_ ?_
    · refine s_exit ?_
      exact s_weak [0, 1] rfl (sm_Plac_goOn_34 C hV hR v0 v1)
    · refine s_aload_n C rfl dX4_goOn_21 ?_
      refine s_getR C hV fl_X4_15 (fun _ _ _ => rfl) dX4_goOn_22 (fun x7 => ?_)
      refine s_iload_n C rfl dX4_goOn_25 ?_
      refine s_iconst C (0 : Int32) (by decide) dX4_goOn_26 ?_
      refine s_iastore C hV dX4_goOn_27 ?_
      refine s_iinc C (L' := fun x8 => [(1, .int x8), (0, .ref v0)]) (-1) (by decide) rfl (by decide) (fun _ => rfl) dX4_goOn_28 (fun x8 => ?_)
      refine s_goto C 7 (by decide) dX4_goOn_31 ?_
      exact s_back [0, 1] x8 rfl
set_option maxRecDepth 20000 in
theorem sm_Plac_goOn_7 {G : GT} {ad : Nat → Nat} {K : Unit → Dm → Prop} (C : Cx G rm_Plac_goOn cX4_goOn 2 RX4) (hV : Vx G rm_Plac_goOn ad ZF (0, 0)) (hR : RtV G rm_Plac_goOn ad ZF (0, 0) cX4_goOn K) (v0 : Nat) (s : Int32) : Sm G rm_Plac_goOn ad ZF (0, 0) K 7 ((fun (s : Int32) => [(0, .ref v0), (1, .int s)]) s) [] (Plac_goOn_7 v0 s) :=
  s_loop (en := (fun (s : Int32) => [(0, .ref v0), (1, .int s)])) (fun s => sm_Plac_goOn_7_b C hV hR v0 s) s
set_option maxRecDepth 20000 in
theorem sm_Plac_goOn {G : GT} {ad : Nat → Nat} {K : Unit → Dm → Prop} (C : Cx G rm_Plac_goOn cX4_goOn 2 RX4) (hV : Vx G rm_Plac_goOn ad ZF (0, 0)) (hR : RtV G rm_Plac_goOn ad ZF (0, 0) cX4_goOn K) (v0 : Nat) : Sm G rm_Plac_goOn ad ZF (0, 0) K 0 [(0, .ref v0)] [] (Plac_goOn v0) := by
  unfold Plac_goOn
  refine s_aload_n C rfl dX4_goOn_0 ?_
  refine s_getI C hV fl_X4_21 (fun _ _ _ => rfl) dX4_goOn_1 (fun x1 => ?_)
  refine s_iconst C (1 : Int32) (by decide) dX4_goOn_4 ?_
  refine s_isub C dX4_goOn_5 ?_
  refine s_leti (fun x2 => ?_)
  refine s_istore_n C (L' := [(1, .int x2), (0, .ref v0)]) (by decide) rfl dX4_goOn_6 ?_
  exact s_weak [0, 1] rfl (sm_Plac_goOn_7 C hV hR v0 x2)
set_option maxRecDepth 20000 in
theorem met_Plac_goOn (v0 : Nat) : MV ZF yX4_goOn cX4_goOn 2 rm_Plac_goOn [.ref v0] (Plac_goOn v0) :=
  mv_of (L0 := [(0, .ref v0)]) (by decide +kernel) (Nat.le_of_ble_eq_true rfl) rfl (fun G ad K C hV hR => sm_Plac_goOn C hV hR v0)

noncomputable def Plac_search_153 (v0 : Nat) (v1 : Nat) (v2 : Int32) (v3 : Int32) (v4 : Int32) (v5 : Int32) (v6 : Int32) : MM (Int32 ⊕ Unit) :=
  mb (vc ZF 5 v0 (Plac_goOn v0)) fun _ =>
  ml (v6 + (1 : Int32)) fun x11 =>
  mp (.inl x11)
noncomputable def Plac_search_67_b (v0 : Nat) (v1 : Nat) (v2 : Int32) (v3 : Int32) (v4 : Int32) (v5 : Int32) (v6 : Int32) : MM (Int32 ⊕ Unit) :=
  if v5 ≤ v6 then
  mr (
  mp ())
  else
  mb (vc ZF 5 v0 (Plac_putOf v0 (1 : Int32))) fun r7 =>
  mb (vc ZF 5 v0 (Plac_putOf v0 (2 : Int32))) fun r8 =>
  ml ((r7 * v3) + (r8 * v4)) fun x9 =>
  mb (vc ZF 5 v0 (Plac_isBetter v0 x9 (r7 + r8))) fun r10 =>
  if r10 = 0 then
  Plac_search_153 v0 v1 v2 v3 v4 v5 v6
  else
  mb (vc ZF 5 v0 (Plac_isSafe v0 v1 v2)) fun r12 =>
  if r12 = 0 then
  Plac_search_153 v0 v1 v2 v3 v4 v5 v6
  else
  mb (pI ZF 5 4 v0 x9) fun _ =>
  mb (pI ZF 5 5 v0 (r7 + r8)) fun _ =>
  mb (gR ZF 5 1 v0) fun x13 =>
  mb (gR ZF 5 2 v0) fun x14 =>
  mb (ac ZF x13 (0 : Int32) x14 (0 : Int32) (8 : Int32)) fun _ =>
  Plac_search_153 v0 v1 v2 v3 v4 v5 v6
noncomputable def Plac_search_67 (v0 : Nat) (v1 : Nat) (v2 : Int32) (v3 : Int32) (v4 : Int32) (v5 : Int32) (s : Int32) : MM Unit := lo (fun (s : Int32) => Plac_search_67_b v0 v1 v2 v3 v4 v5 s) s
noncomputable def Plac_search_43_b (v0 : Nat) (v1 : Nat) (v2 : Int32) (v3 : Int32) (v4 : Int32) (v5 : Int32) (v6 : Int32) : MM ((Int32 × Int32) ⊕ Unit) :=
  mb (gI ZF 5 3 v0) fun x5 =>
  if x5 ≤ v6 then
  mr (
  ml (0 : Int32) fun x6 =>
  Plac_search_67 v0 v1 v2 v3 v4 v5 x6)
  else
  ml (v5 * (3 : Int32)) fun x15 =>
  ml (v6 + (1 : Int32)) fun x16 =>
  mp (.inl (x15, x16))
noncomputable def Plac_search_43 (v0 : Nat) (v1 : Nat) (v2 : Int32) (v3 : Int32) (v4 : Int32) (s : (Int32 × Int32)) : MM Unit := lo (fun (s : (Int32 × Int32)) => Plac_search_43_b v0 v1 v2 v3 v4 s.1 s.2) s
noncomputable def Plac_search (v0 : Nat) (v1 : Nat) (v2 : Int32) (v3 : Int32) (v4 : Int32) : MM Unit :=
  mb (gI ZF 6 1 v1) fun x1 =>
  mb (pI ZF 5 3 v0 (if (0 : Int32) < ((if (8 : Int32) < x1 then (8 : Int32) else x1) - (1 : Int32)) then ((if (8 : Int32) < x1 then (8 : Int32) else x1) - (1 : Int32)) else (0 : Int32))) fun _ =>
  mb (gR ZF 5 1 v0) fun x2 =>
  mb ((JArr_fill x2 (0 : Int32))) fun _ =>
  mb (pI ZF 5 4 v0 ((-1) : Int32)) fun _ =>
  mb (pI ZF 5 5 v0 ((-1) : Int32)) fun _ =>
  ml (1 : Int32) fun x3 =>
  ml (0 : Int32) fun x4 =>
  Plac_search_43 v0 v1 v2 v3 v4 (x3, x4)
set_option maxRecDepth 20000 in
theorem sm_Plac_search_153 {G : GT} {ad : Nat → Nat} {K : Unit → Dm → Prop} (C : Cx G rm_Plac_search cX4_search 10 RX4) (hV : Vx G rm_Plac_search ad ZF (0, 0)) (hR : RtV G rm_Plac_search ad ZF (0, 0) cX4_search K) (v0 : Nat) (v1 : Nat) (v2 : Int32) (v3 : Int32) (v4 : Int32) (v5 : Int32) (v6 : Int32) : Sm G rm_Plac_search ad ZF (0, 0) (lpK G rm_Plac_search ad ZF (0, 0) 67 (fun (s : Int32) => [(0, .ref v0), (1, .ref v1), (2, .int v2), (3, .int v3), (4, .int v4), (5, .int v5), (6, .int s)]) K) 153 [(0, .ref v0), (1, .ref v1), (2, .int v2), (3, .int v3), (4, .int v4), (5, .int v5), (6, .int v6)] [] (Plac_search_153 v0 v1 v2 v3 v4 v5 v6) := by
  unfold Plac_search_153
  refine s_aload_n C rfl dX4_search_153 ?_
  refine s_wV C hV lv_X4_90 (st := []) (met_Plac_goOn v0) rf_Plac_search_Plac_goOn rfl rfl (Nat.le_of_ble_eq_true rfl) dX4_search_154 ?_
  refine s_iinc C (L' := fun x11 => [(6, .int x11), (0, .ref v0), (1, .ref v1), (2, .int v2), (3, .int v3), (4, .int v4), (5, .int v5)]) (1 : Int32) (by decide) rfl (by decide) (fun _ => rfl) dX4_search_157 (fun x11 => ?_)
  refine s_goto C 67 (by decide) dX4_search_160 ?_
  exact s_back [0, 1, 2, 3, 4, 5, 6] x11 rfl
set_option maxRecDepth 20000 in
theorem sm_Plac_search_67_b {G : GT} {ad : Nat → Nat} {K : Unit → Dm → Prop} (C : Cx G rm_Plac_search cX4_search 10 RX4) (hV : Vx G rm_Plac_search ad ZF (0, 0)) (hR : RtV G rm_Plac_search ad ZF (0, 0) cX4_search K) (v0 : Nat) (v1 : Nat) (v2 : Int32) (v3 : Int32) (v4 : Int32) (v5 : Int32) (v6 : Int32) : Sm G rm_Plac_search ad ZF (0, 0) (lpK G rm_Plac_search ad ZF (0, 0) 67 (fun (s : Int32) => [(0, .ref v0), (1, .ref v1), (2, .int v2), (3, .int v3), (4, .int v4), (5, .int v5), (6, .int s)]) K) 67 [(0, .ref v0), (1, .ref v1), (2, .int v2), (3, .int v3), (4, .int v4), (5, .int v5), (6, .int v6)] [] (Plac_search_67_b v0 v1 v2 v3 v4 v5 v6) := by
  unfold Plac_search_67_b
  refine s_iload C rfl dX4_search_67 ?_
  refine s_iload C rfl dX4_search_69 ?_
  refine s_icmp_ge C 163 (by decide) dX4_search_71 ?_ ?_
  · refine s_exit ?_
    exact s_vret hR dX4_search_163
  · refine s_aload_n C rfl dX4_search_74 ?_
    refine s_iconst C (1 : Int32) (by decide) dX4_search_75 ?_
    refine s_wI C hV lv_X4_73 (st := []) (met_Plac_putOf v0 (1 : Int32)) rf_Plac_search_Plac_putOf rfl rfl (Nat.le_of_ble_eq_true rfl) dX4_search_76 (fun r7 => ?_)
    refine s_istore C (L' := [(7, .int r7), (0, .ref v0), (1, .ref v1), (2, .int v2), (3, .int v3), (4, .int v4), (5, .int v5), (6, .int v6)]) (by decide) rfl dX4_search_79 ?_
    refine s_aload_n C rfl dX4_search_81 ?_
    refine s_iconst C (2 : Int32) (by decide) dX4_search_82 ?_
    refine s_wI C hV lv_X4_73 (st := []) (met_Plac_putOf v0 (2 : Int32)) rf_Plac_search_Plac_putOf rfl rfl (Nat.le_of_ble_eq_true rfl) dX4_search_83 (fun r8 => ?_)
    refine s_istore C (L' := [(8, .int r8), (7, .int r7), (0, .ref v0), (1, .ref v1), (2, .int v2), (3, .int v3), (4, .int v4), (5, .int v5), (6, .int v6)]) (by decide) rfl dX4_search_86 ?_
    refine s_iload C rfl dX4_search_88 ?_
    refine s_iload_n C rfl dX4_search_90 ?_
    refine s_imul C dX4_search_91 ?_
    refine s_iload C rfl dX4_search_92 ?_
    refine s_iload C rfl dX4_search_94 ?_
    refine s_imul C dX4_search_96 ?_
    refine s_iadd C dX4_search_97 ?_
    refine s_leti (fun x9 => ?_)
    refine s_istore C (L' := [(9, .int x9), (8, .int r8), (7, .int r7), (0, .ref v0), (1, .ref v1), (2, .int v2), (3, .int v3), (4, .int v4), (5, .int v5), (6, .int v6)]) (by decide) rfl dX4_search_98 ?_
    refine s_aload_n C rfl dX4_search_100 ?_
    refine s_iload C rfl dX4_search_101 ?_
    refine s_iload C rfl dX4_search_103 ?_
    refine s_iload C rfl dX4_search_105 ?_
    refine s_iadd C dX4_search_107 ?_
    refine s_wI C hV lv_X4_76 (st := []) (met_Plac_isBetter v0 x9 (r7 + r8)) rf_Plac_search_Plac_isBetter rfl rfl (Nat.le_of_ble_eq_true rfl) dX4_search_108 (fun r10 => ?_)
    refine s_if_eq C 153 (by decide) dX4_search_111 ?_ ?_
    · exact s_weak [0, 1, 2, 3, 4, 5, 6] rfl (sm_Plac_search_153 C hV hR v0 v1 v2 v3 v4 v5 v6)
    · refine s_aload_n C rfl dX4_search_114 ?_
      refine s_aload_n C rfl dX4_search_115 ?_
      refine s_iload_n C rfl dX4_search_116 ?_
      refine s_wI C hV lv_X4_80 (st := []) (met_Plac_isSafe v0 v1 v2) rf_Plac_search_Plac_isSafe rfl rfl (Nat.le_of_ble_eq_true rfl) dX4_search_117 (fun r12 => ?_)
      refine s_if_eq C 153 (by decide) dX4_search_120 ?_ ?_
      · exact s_weak [0, 1, 2, 3, 4, 5, 6] rfl (sm_Plac_search_153 C hV hR v0 v1 v2 v3 v4 v5 v6)
      · refine s_aload_n C rfl dX4_search_123 ?_
        refine s_iload C rfl dX4_search_124 ?_
        refine s_putI C hV fw_X4_25 rfl dX4_search_126 ?_
        refine s_aload_n C rfl dX4_search_129 ?_
        refine s_iload C rfl dX4_search_130 ?_
        refine s_iload C rfl dX4_search_132 ?_
        refine s_iadd C dX4_search_134 ?_
        refine s_putI C hV fw_X4_28 rfl dX4_search_135 ?_
        refine s_aload_n C rfl dX4_search_138 ?_
        refine s_getR C hV fl_X4_15 (fun _ _ _ => rfl) dX4_search_139 (fun x13 => ?_)
        refine s_iconst C (0 : Int32) (by decide) dX4_search_142 ?_
        refine s_aload_n C rfl dX4_search_143 ?_
        refine s_getR C hV fl_X4_18 (fun _ _ _ => rfl) dX4_search_144 (fun x14 => ?_)
        refine s_iconst C (0 : Int32) (by decide) dX4_search_147 ?_
        refine s_bipush C (8 : Int32) (by decide) dX4_search_148 ?_
        refine s_acopy C hV ml_X4_84 ac_w2 ac_w3 ac_w4 ⟨Nat.le_of_ble_eq_true rfl, Nat.le_of_ble_eq_true rfl⟩ dX4_search_150 ?_
        exact s_weak [0, 1, 2, 3, 4, 5, 6] rfl (sm_Plac_search_153 C hV hR v0 v1 v2 v3 v4 v5 v6)
set_option maxRecDepth 20000 in
theorem sm_Plac_search_67 {G : GT} {ad : Nat → Nat} {K : Unit → Dm → Prop} (C : Cx G rm_Plac_search cX4_search 10 RX4) (hV : Vx G rm_Plac_search ad ZF (0, 0)) (hR : RtV G rm_Plac_search ad ZF (0, 0) cX4_search K) (v0 : Nat) (v1 : Nat) (v2 : Int32) (v3 : Int32) (v4 : Int32) (v5 : Int32) (s : Int32) : Sm G rm_Plac_search ad ZF (0, 0) K 67 ((fun (s : Int32) => [(0, .ref v0), (1, .ref v1), (2, .int v2), (3, .int v3), (4, .int v4), (5, .int v5), (6, .int s)]) s) [] (Plac_search_67 v0 v1 v2 v3 v4 v5 s) :=
  s_loop (en := (fun (s : Int32) => [(0, .ref v0), (1, .ref v1), (2, .int v2), (3, .int v3), (4, .int v4), (5, .int v5), (6, .int s)])) (fun s => sm_Plac_search_67_b C hV hR v0 v1 v2 v3 v4 v5 s) s
set_option maxRecDepth 20000 in
theorem sm_Plac_search_43_b {G : GT} {ad : Nat → Nat} {K : Unit → Dm → Prop} (C : Cx G rm_Plac_search cX4_search 10 RX4) (hV : Vx G rm_Plac_search ad ZF (0, 0)) (hR : RtV G rm_Plac_search ad ZF (0, 0) cX4_search K) (v0 : Nat) (v1 : Nat) (v2 : Int32) (v3 : Int32) (v4 : Int32) (v5 : Int32) (v6 : Int32) : Sm G rm_Plac_search ad ZF (0, 0) (lpK G rm_Plac_search ad ZF (0, 0) 43 (fun (s : (Int32 × Int32)) => [(0, .ref v0), (1, .ref v1), (2, .int v2), (3, .int v3), (4, .int v4), (5, .int s.1), (6, .int s.2)]) K) 43 [(0, .ref v0), (1, .ref v1), (2, .int v2), (3, .int v3), (4, .int v4), (5, .int v5), (6, .int v6)] [] (Plac_search_43_b v0 v1 v2 v3 v4 v5 v6) := by
  unfold Plac_search_43_b
  refine s_iload C rfl dX4_search_43 ?_
  refine s_aload_n C rfl dX4_search_45 ?_
  refine s_getI C hV fl_X4_21 (fun _ _ _ => rfl) dX4_search_46 (fun x5 => ?_)
  refine s_icmp_ge C 64 (by decide) dX4_search_49 ?_ ?_
  · refine s_exit ?_
    refine s_iconst C (0 : Int32) (by decide) dX4_search_64 ?_
    refine s_leti (fun x6 => ?_)
    refine s_istore C (L' := [(6, .int x6), (0, .ref v0), (1, .ref v1), (2, .int v2), (3, .int v3), (4, .int v4), (5, .int v5)]) (by decide) rfl dX4_search_65 ?_
    exact s_weak [0, 1, 2, 3, 4, 5, 6] rfl (sm_Plac_search_67 C hV hR v0 v1 v2 v3 v4 v5 x6)
  · refine s_iload C rfl dX4_search_52 ?_
    refine s_iconst C (3 : Int32) (by decide) dX4_search_54 ?_
    refine s_imul C dX4_search_55 ?_
    refine s_leti (fun x15 => ?_)
    refine s_istore C (L' := [(5, .int x15), (0, .ref v0), (1, .ref v1), (2, .int v2), (3, .int v3), (4, .int v4), (6, .int v6)]) (by decide) rfl dX4_search_56 ?_
    refine s_iinc C (L' := fun x16 => [(6, .int x16), (5, .int x15), (0, .ref v0), (1, .ref v1), (2, .int v2), (3, .int v3), (4, .int v4)]) (1 : Int32) (by decide) rfl (by decide) (fun _ => rfl) dX4_search_58 (fun x16 => ?_)
    refine s_goto C 43 (by decide) dX4_search_61 ?_
    exact s_back [0, 1, 2, 3, 4, 5, 6] (x15, x16) rfl
set_option maxRecDepth 20000 in
theorem sm_Plac_search_43 {G : GT} {ad : Nat → Nat} {K : Unit → Dm → Prop} (C : Cx G rm_Plac_search cX4_search 10 RX4) (hV : Vx G rm_Plac_search ad ZF (0, 0)) (hR : RtV G rm_Plac_search ad ZF (0, 0) cX4_search K) (v0 : Nat) (v1 : Nat) (v2 : Int32) (v3 : Int32) (v4 : Int32) (s : (Int32 × Int32)) : Sm G rm_Plac_search ad ZF (0, 0) K 43 ((fun (s : (Int32 × Int32)) => [(0, .ref v0), (1, .ref v1), (2, .int v2), (3, .int v3), (4, .int v4), (5, .int s.1), (6, .int s.2)]) s) [] (Plac_search_43 v0 v1 v2 v3 v4 s) :=
  s_loop (en := (fun (s : (Int32 × Int32)) => [(0, .ref v0), (1, .ref v1), (2, .int v2), (3, .int v3), (4, .int v4), (5, .int s.1), (6, .int s.2)])) (fun s => sm_Plac_search_43_b C hV hR v0 v1 v2 v3 v4 s.1 s.2) s
set_option maxRecDepth 20000 in
theorem sm_Plac_search {G : GT} {ad : Nat → Nat} {K : Unit → Dm → Prop} (C : Cx G rm_Plac_search cX4_search 10 RX4) (hV : Vx G rm_Plac_search ad ZF (0, 0)) (hR : RtV G rm_Plac_search ad ZF (0, 0) cX4_search K) (v0 : Nat) (v1 : Nat) (v2 : Int32) (v3 : Int32) (v4 : Int32) : Sm G rm_Plac_search ad ZF (0, 0) K 0 [(0, .ref v0), (1, .ref v1), (2, .int v2), (3, .int v3), (4, .int v4)] [] (Plac_search v0 v1 v2 v3 v4) := by
  unfold Plac_search
  refine s_aload_n C rfl dX4_search_0 ?_
  refine s_iconst C (0 : Int32) (by decide) dX4_search_1 ?_
  refine s_aload_n C rfl dX4_search_2 ?_
  refine s_getI C hV fl_X4_31 (fun _ _ _ => rfl) dX4_search_3 (fun x1 => ?_)
  refine s_bipush C (8 : Int32) (by decide) dX4_search_6 ?_
  refine s_mmin C hV mm_X4_36 ⟨Nat.le_of_ble_eq_true rfl, Nat.le_of_ble_eq_true rfl⟩ dX4_search_8 ?_
  refine s_iconst C (1 : Int32) (by decide) dX4_search_11 ?_
  refine s_isub C dX4_search_12 ?_
  refine s_mmax C hV mm_X4_64 ⟨Nat.le_of_ble_eq_true rfl, Nat.le_of_ble_eq_true rfl⟩ dX4_search_13 ?_
  refine s_putI C hV fw_X4_21 rfl dX4_search_16 ?_
  refine s_aload_n C rfl dX4_search_19 ?_
  refine s_getR C hV fl_X4_15 (fun _ _ _ => rfl) dX4_search_20 (fun x2 => ?_)
  refine s_iconst C (0 : Int32) (by decide) dX4_search_23 ?_
  refine s_uV C hV ls_X4_67 (st := []) (met_JArr_fill x2 (0 : Int32)) rf_Plac_search_JArr_fill rfl rfl (Nat.le_of_ble_eq_true rfl) dX4_search_24 ?_
  refine s_aload_n C rfl dX4_search_27 ?_
  refine s_iconst C ((-1) : Int32) (by decide) dX4_search_28 ?_
  refine s_putI C hV fw_X4_25 rfl dX4_search_29 ?_
  refine s_aload_n C rfl dX4_search_32 ?_
  refine s_iconst C ((-1) : Int32) (by decide) dX4_search_33 ?_
  refine s_putI C hV fw_X4_28 rfl dX4_search_34 ?_
  refine s_iconst C (1 : Int32) (by decide) dX4_search_37 ?_
  refine s_leti (fun x3 => ?_)
  refine s_istore C (L' := [(5, .int x3), (0, .ref v0), (1, .ref v1), (2, .int v2), (3, .int v3), (4, .int v4)]) (by decide) rfl dX4_search_38 ?_
  refine s_iconst C (0 : Int32) (by decide) dX4_search_40 ?_
  refine s_leti (fun x4 => ?_)
  refine s_istore C (L' := [(6, .int x4), (5, .int x3), (0, .ref v0), (1, .ref v1), (2, .int v2), (3, .int v3), (4, .int v4)]) (by decide) rfl dX4_search_41 ?_
  exact s_weak [0, 1, 2, 3, 4, 5, 6] rfl (sm_Plac_search_43 C hV hR v0 v1 v2 v3 v4 (x3, x4))
set_option maxRecDepth 20000 in
theorem met_Plac_search (v0 : Nat) (v1 : Nat) (v2 : Int32) (v3 : Int32) (v4 : Int32) : MV ZF yX4_search cX4_search 10 rm_Plac_search [.ref v0, .ref v1, .int v2, .int v3, .int v4] (Plac_search v0 v1 v2 v3 v4) :=
  mv_of (L0 := [(0, .ref v0), (1, .ref v1), (2, .int v2), (3, .int v3), (4, .int v4)]) (by decide +kernel) (Nat.le_of_ble_eq_true rfl) rfl (fun G ad K C hV hR => sm_Plac_search C hV hR v0 v1 v2 v3 v4)

noncomputable def Plac_behind (v0 : Nat) (v1 : Int32) : MM Int32 :=
  mb (gI ZF 5 4 v0) fun x1 =>
  if x1 = ((-1) : Int32) then
  mp ((-1) : Int32)
  else
  if v1 < 0 then
  mp ((-1) : Int32)
  else
  mb (gI ZF 5 3 v0) fun x2 =>
  if x2 ≤ v1 then
  mp ((-1) : Int32)
  else
  mb (gR ZF 5 2 v0) fun x3 =>
  mb (aI ZF 23 x3 v1) fun x4 =>
  mp x4
set_option maxRecDepth 20000 in
theorem sm_Plac_behind {G : GT} {ad : Nat → Nat} {K : Int32 → Dm → Prop} (C : Cx G rm_Plac_behind cX4_behind 2 RX4) (hV : Vx G rm_Plac_behind ad ZF (0, 0)) (hR : RtI G rm_Plac_behind ad ZF (0, 0) cX4_behind .int K) (v0 : Nat) (v1 : Int32) : Sm G rm_Plac_behind ad ZF (0, 0) K 0 [(0, .ref v0), (1, .int v1)] [] (Plac_behind v0 v1) := by
  unfold Plac_behind
  refine s_aload_n C rfl dX4_behind_0 ?_
  refine s_getI C hV fl_X4_25 (fun _ _ _ => rfl) dX4_behind_1 (fun x1 => ?_)
  refine s_iconst C ((-1) : Int32) (by decide) dX4_behind_4 ?_
  refine s_icmp_eq C 29 (by decide) dX4_behind_5 ?_ ?_
  · refine s_iconst C ((-1) : Int32) (by decide) dX4_behind_29 ?_
    exact s_ireti hR dX4_behind_30
  · refine s_iload_n C rfl dX4_behind_8 ?_
    refine s_if_lt C 29 (by decide) dX4_behind_9 ?_ ?_
    · refine s_iconst C ((-1) : Int32) (by decide) dX4_behind_29 ?_
      exact s_ireti hR dX4_behind_30
    · refine s_iload_n C rfl dX4_behind_12 ?_
      refine s_aload_n C rfl dX4_behind_13 ?_
      refine s_getI C hV fl_X4_21 (fun _ _ _ => rfl) dX4_behind_14 (fun x2 => ?_)
      refine s_icmp_ge C 29 (by decide) dX4_behind_17 ?_ ?_
      · refine s_iconst C ((-1) : Int32) (by decide) dX4_behind_29 ?_
        exact s_ireti hR dX4_behind_30
      · refine s_aload_n C rfl dX4_behind_20 ?_
        refine s_getR C hV fl_X4_18 (fun _ _ _ => rfl) dX4_behind_21 (fun x3 => ?_)
        refine s_iload_n C rfl dX4_behind_24 ?_
        refine s_iaload C hV dX4_behind_25 (fun x4 => ?_)
        refine s_goto C 30 (by decide) dX4_behind_26 ?_
        exact s_ireti hR dX4_behind_30
set_option maxRecDepth 20000 in
theorem met_Plac_behind (v0 : Nat) (v1 : Int32) : MI ZF yX4_behind cX4_behind 2 .int rm_Plac_behind [.ref v0, .int v1] (Plac_behind v0 v1) :=
  mi_of (L0 := [(0, .ref v0), (1, .int v1)]) (by decide +kernel) (Nat.le_of_ble_eq_true rfl) rfl (fun G ad K C hV hR => sm_Plac_behind C hV hR v0 v1)
