noncomputable def Mod_in (v0 : Int32) (v1 : Int32) (v2 : Int32) : MM Int32 :=
  if v0 < v1 then
  mz (0 : Int32)
  else
  if v2 < v0 then
  mz (0 : Int32)
  else
  mz (1 : Int32)
set_option maxRecDepth 20000 in
theorem sm_Mod_in {G : GT} {ad : Nat → Nat} {K : Int32 → Dm → Prop} (C : Cx G rm_Mod_in cX11_in 3 RX11) (hV : Vx G rm_Mod_in ad ZF (0, 0)) (hR : RtI G rm_Mod_in ad ZF (0, 0) cX11_in .boolean K) (v0 : Int32) (v1 : Int32) (v2 : Int32) : Sm G rm_Mod_in ad ZF (0, 0) K 0 [(0, .int v0), (1, .int v1), (2, .int v2)] [] (Mod_in v0 v1 v2) := by
  unfold Mod_in
  refine s_iload_n C rfl dX11_in_0 ?_
  refine s_iload_n C rfl dX11_in_1 ?_
  refine s_icmp_lt C 14 (by decide) dX11_in_2 ?_ ?_
  · refine s_iconst C (0 : Int32) (by decide) dX11_in_14 ?_
    exact s_iretz hR dX11_in_15
  · refine s_iload_n C rfl dX11_in_5 ?_
    refine s_iload_n C rfl dX11_in_6 ?_
    refine s_icmp_gt C 14 (by decide) dX11_in_7 ?_ ?_
    · refine s_iconst C (0 : Int32) (by decide) dX11_in_14 ?_
      exact s_iretz hR dX11_in_15
    · refine s_iconst C (1 : Int32) (by decide) dX11_in_10 ?_
      refine s_goto C 15 (by decide) dX11_in_11 ?_
      exact s_iretz hR dX11_in_15
set_option maxRecDepth 20000 in
theorem met_Mod_in (v0 : Int32) (v1 : Int32) (v2 : Int32) : MI ZF yX11_in cX11_in 3 .boolean rm_Mod_in [.int v0, .int v1, .int v2] (Mod_in v0 v1 v2) :=
  mi_of (L0 := [(0, .int v0), (1, .int v1), (2, .int v2)]) (by decide +kernel) (Nat.le_of_ble_eq_true rfl) rfl (fun G ad K C hV hR => sm_Mod_in C hV hR v0 v1 v2)

noncomputable def Mod_isSector (v0 : Int32) : MM Int32 :=
  mb ((Mod_in v0 (0 : Int32) (7 : Int32))) fun r1 =>
  mz r1
set_option maxRecDepth 20000 in
theorem sm_Mod_isSector {G : GT} {ad : Nat → Nat} {K : Int32 → Dm → Prop} (C : Cx G rm_Mod_isSector cX11_isSector 1 RX11) (hV : Vx G rm_Mod_isSector ad ZF (0, 0)) (hR : RtI G rm_Mod_isSector ad ZF (0, 0) cX11_isSector .boolean K) (v0 : Int32) : Sm G rm_Mod_isSector ad ZF (0, 0) K 0 [(0, .int v0)] [] (Mod_isSector v0) := by
  unfold Mod_isSector
  refine s_iload_n C rfl dX11_isSector_0 ?_
  refine s_iconst C (0 : Int32) (by decide) dX11_isSector_1 ?_
  refine s_bipush C (7 : Int32) (by decide) dX11_isSector_2 ?_
  refine s_uI C hV ls_X11_89 (st := []) (met_Mod_in v0 (0 : Int32) (7 : Int32)) rf_Mod_isSector_Mod_in rfl rfl (Nat.le_of_ble_eq_true rfl) dX11_isSector_4 (fun r1 => ?_)
  exact s_iretz hR dX11_isSector_7
set_option maxRecDepth 20000 in
theorem met_Mod_isSector (v0 : Int32) : MI ZF yX11_isSector cX11_isSector 1 .boolean rm_Mod_isSector [.int v0] (Mod_isSector v0) :=
  mi_of (L0 := [(0, .int v0)]) (by decide +kernel) (Nat.le_of_ble_eq_true rfl) rfl (fun G ad K C hV hR => sm_Mod_isSector C hV hR v0)

noncomputable def Mod_isNumber (v0 : Int32) : MM Int32 :=
  mb ((Mod_in v0 (0 : Int32) (99 : Int32))) fun r1 =>
  mz r1
set_option maxRecDepth 20000 in
theorem sm_Mod_isNumber {G : GT} {ad : Nat → Nat} {K : Int32 → Dm → Prop} (C : Cx G rm_Mod_isNumber cX11_isNumber 1 RX11) (hV : Vx G rm_Mod_isNumber ad ZF (0, 0)) (hR : RtI G rm_Mod_isNumber ad ZF (0, 0) cX11_isNumber .boolean K) (v0 : Int32) : Sm G rm_Mod_isNumber ad ZF (0, 0) K 0 [(0, .int v0)] [] (Mod_isNumber v0) := by
  unfold Mod_isNumber
  refine s_iload_n C rfl dX11_isNumber_0 ?_
  refine s_iconst C (0 : Int32) (by decide) dX11_isNumber_1 ?_
  refine s_bipush C (99 : Int32) (by decide) dX11_isNumber_2 ?_
  refine s_uI C hV ls_X11_89 (st := []) (met_Mod_in v0 (0 : Int32) (99 : Int32)) rf_Mod_isNumber_Mod_in rfl rfl (Nat.le_of_ble_eq_true rfl) dX11_isNumber_4 (fun r1 => ?_)
  exact s_iretz hR dX11_isNumber_7
set_option maxRecDepth 20000 in
theorem met_Mod_isNumber (v0 : Int32) : MI ZF yX11_isNumber cX11_isNumber 1 .boolean rm_Mod_isNumber [.int v0] (Mod_isNumber v0) :=
  mi_of (L0 := [(0, .int v0)]) (by decide +kernel) (Nat.le_of_ble_eq_true rfl) rfl (fun G ad K C hV hR => sm_Mod_isNumber C hV hR v0)

noncomputable def Mod_sector (v0 : Nat) (v1 : Int32) (v2 : Int32) : MM Int32 :=
  mb ((Mod_isSector v1)) fun r1 =>
  if r1 = 0 then
  mp ((-101) : Int32)
  else
  mb ((Mod_isNumber v2)) fun r2 =>
  if r2 = 0 then
  mp ((-102) : Int32)
  else
  mb (gR ZF 12 0 v0) fun x3 =>
  mb (aI ZF 23 x3 v1) fun x4 =>
  mb (gR ZF 12 0 v0) fun x5 =>
  mb (sI ZF x5 v1 v2) fun _ =>
  mb (pZ ZF 12 27 v0 (0 : Int32)) fun _ =>
  mp x4
set_option maxRecDepth 20000 in
theorem sm_Mod_sector {G : GT} {ad : Nat → Nat} {K : Int32 → Dm → Prop} (C : Cx G rm_Mod_sector cX11_sector 4 RX11) (hV : Vx G rm_Mod_sector ad ZF (0, 0)) (hR : RtI G rm_Mod_sector ad ZF (0, 0) cX11_sector .int K) (v0 : Nat) (v1 : Int32) (v2 : Int32) : Sm G rm_Mod_sector ad ZF (0, 0) K 0 [(0, .ref v0), (1, .int v1), (2, .int v2)] [] (Mod_sector v0 v1 v2) := by
  unfold Mod_sector
  refine s_iload_n C rfl dX11_sector_0 ?_
  refine s_uI C hV ls_X11_93 (st := []) (met_Mod_isSector v1) rf_Mod_sector_Mod_isSector rfl rfl (Nat.le_of_ble_eq_true rfl) dX11_sector_1 (fun r1 => ?_)
  refine s_if_ne C 10 (by decide) dX11_sector_4 ?_ ?_
  · refine s_iload_n C rfl dX11_sector_10 ?_
    refine s_uI C hV ls_X11_97 (st := []) (met_Mod_isNumber v2) rf_Mod_sector_Mod_isNumber rfl rfl (Nat.le_of_ble_eq_true rfl) dX11_sector_11 (fun r2 => ?_)
    refine s_if_ne C 20 (by decide) dX11_sector_14 ?_ ?_
    · refine s_aload_n C rfl dX11_sector_20 ?_
      refine s_getR C hV fl_X11_7 (fun _ _ _ => rfl) dX11_sector_21 (fun x3 => ?_)
      refine s_iload_n C rfl dX11_sector_24 ?_
      refine s_iaload C hV dX11_sector_25 (fun x4 => ?_)
      refine s_istore_n C (L' := [(3, .int x4), (0, .ref v0), (1, .int v1), (2, .int v2)]) (by decide) rfl dX11_sector_26 ?_
      refine s_aload_n C rfl dX11_sector_27 ?_
      refine s_getR C hV fl_X11_7 (fun _ _ _ => rfl) dX11_sector_28 (fun x5 => ?_)
      refine s_iload_n C rfl dX11_sector_31 ?_
      refine s_iload_n C rfl dX11_sector_32 ?_
      refine s_iastore C hV dX11_sector_33 ?_
      refine s_aload_n C rfl dX11_sector_34 ?_
      refine s_iconst C (0 : Int32) (by decide) dX11_sector_35 ?_
      refine s_putZ C hV fw_X11_100 rfl dX11_sector_36 ?_
      refine s_iload_n C rfl dX11_sector_39 ?_
      exact s_ireti hR dX11_sector_40
    · refine s_bipush C ((-102) : Int32) (by decide) dX11_sector_17 ?_
      exact s_ireti hR dX11_sector_19
  · refine s_bipush C ((-101) : Int32) (by decide) dX11_sector_7 ?_
    exact s_ireti hR dX11_sector_9
set_option maxRecDepth 20000 in
theorem met_Mod_sector (v0 : Nat) (v1 : Int32) (v2 : Int32) : MI ZF yX11_sector cX11_sector 4 .int rm_Mod_sector [.ref v0, .int v1, .int v2] (Mod_sector v0 v1 v2) :=
  mi_of (L0 := [(0, .ref v0), (1, .int v1), (2, .int v2)]) (by decide +kernel) (Nat.le_of_ble_eq_true rfl) rfl (fun G ad K C hV hR => sm_Mod_sector C hV hR v0 v1 v2)

noncomputable def Mod_come (v0 : Nat) (v1 : Int32) (v2 : Int32) (v3 : Int32) (v4 : Int32) (v5 : Int32) : MM Int32 :=
  mb (gI ZF 12 1 v0) fun x1 =>
  if x1 = (12 : Int32) then
  mp ((-104) : Int32)
  else
  mb (gR ZF 12 2 v0) fun x2 =>
  mb (gI ZF 12 1 v0) fun x3 =>
  mb (sI ZF x2 x3 v1) fun _ =>
  mb (gR ZF 12 3 v0) fun x4 =>
  mb (gI ZF 12 1 v0) fun x5 =>
  mb (sI ZF x4 ((4 : Int32) * x5) v2) fun _ =>
  mb (gR ZF 12 3 v0) fun x6 =>
  mb (gI ZF 12 1 v0) fun x7 =>
  mb (sI ZF x6 (((4 : Int32) * x7) + (1 : Int32)) v3) fun _ =>
  mb (gR ZF 12 3 v0) fun x8 =>
  mb (gI ZF 12 1 v0) fun x9 =>
  mb (sI ZF x8 (((4 : Int32) * x9) + (2 : Int32)) v4) fun _ =>
  mb (gR ZF 12 3 v0) fun x10 =>
  mb (gI ZF 12 1 v0) fun x11 =>
  mb (sI ZF x10 (((4 : Int32) * x11) + (3 : Int32)) v5) fun _ =>
  mb (gI ZF 12 1 v0) fun x12 =>
  mb (pI ZF 12 1 v0 (x12 + (1 : Int32))) fun _ =>
  mb (pZ ZF 12 27 v0 (0 : Int32)) fun _ =>
  mb (gI ZF 12 1 v0) fun x13 =>
  mp (x13 - (1 : Int32))
set_option maxRecDepth 20000 in
theorem sm_Mod_come {G : GT} {ad : Nat → Nat} {K : Int32 → Dm → Prop} (C : Cx G rm_Mod_come cX11_come 6 RX11) (hV : Vx G rm_Mod_come ad ZF (0, 0)) (hR : RtI G rm_Mod_come ad ZF (0, 0) cX11_come .int K) (v0 : Nat) (v1 : Int32) (v2 : Int32) (v3 : Int32) (v4 : Int32) (v5 : Int32) : Sm G rm_Mod_come ad ZF (0, 0) K 0 [(0, .ref v0), (1, .int v1), (2, .int v2), (3, .int v3), (4, .int v4), (5, .int v5)] [] (Mod_come v0 v1 v2 v3 v4 v5) := by
  unfold Mod_come
  refine s_aload_n C rfl dX11_come_0 ?_
  refine s_getI C hV fl_X11_104 (fun _ _ _ => rfl) dX11_come_1 (fun x1 => ?_)
  refine s_bipush C (12 : Int32) (by decide) dX11_come_4 ?_
  refine s_icmp_ne C 12 (by decide) dX11_come_6 ?_ ?_
  · refine s_aload_n C rfl dX11_come_12 ?_
    refine s_getR C hV fl_X11_13 (fun _ _ _ => rfl) dX11_come_13 (fun x2 => ?_)
    refine s_aload_n C rfl dX11_come_16 ?_
    refine s_getI C hV fl_X11_104 (fun _ _ _ => rfl) dX11_come_17 (fun x3 => ?_)
    refine s_iload_n C rfl dX11_come_20 ?_
    refine s_iastore C hV dX11_come_21 ?_
    refine s_aload_n C rfl dX11_come_22 ?_
    refine s_getR C hV fl_X11_16 (fun _ _ _ => rfl) dX11_come_23 (fun x4 => ?_)
    refine s_iconst C (4 : Int32) (by decide) dX11_come_26 ?_
    refine s_aload_n C rfl dX11_come_27 ?_
    refine s_getI C hV fl_X11_104 (fun _ _ _ => rfl) dX11_come_28 (fun x5 => ?_)
    refine s_imul C dX11_come_31 ?_
    refine s_iload_n C rfl dX11_come_32 ?_
    refine s_iastore C hV dX11_come_33 ?_
    refine s_aload_n C rfl dX11_come_34 ?_
    refine s_getR C hV fl_X11_16 (fun _ _ _ => rfl) dX11_come_35 (fun x6 => ?_)
    refine s_iconst C (4 : Int32) (by decide) dX11_come_38 ?_
    refine s_aload_n C rfl dX11_come_39 ?_
    refine s_getI C hV fl_X11_104 (fun _ _ _ => rfl) dX11_come_40 (fun x7 => ?_)
    refine s_imul C dX11_come_43 ?_
    refine s_iconst C (1 : Int32) (by decide) dX11_come_44 ?_
    refine s_iadd C dX11_come_45 ?_
    refine s_iload_n C rfl dX11_come_46 ?_
    refine s_iastore C hV dX11_come_47 ?_
    refine s_aload_n C rfl dX11_come_48 ?_
    refine s_getR C hV fl_X11_16 (fun _ _ _ => rfl) dX11_come_49 (fun x8 => ?_)
    refine s_iconst C (4 : Int32) (by decide) dX11_come_52 ?_
    refine s_aload_n C rfl dX11_come_53 ?_
    refine s_getI C hV fl_X11_104 (fun _ _ _ => rfl) dX11_come_54 (fun x9 => ?_)
    refine s_imul C dX11_come_57 ?_
    refine s_iconst C (2 : Int32) (by decide) dX11_come_58 ?_
    refine s_iadd C dX11_come_59 ?_
    refine s_iload C rfl dX11_come_60 ?_
    refine s_iastore C hV dX11_come_62 ?_
    refine s_aload_n C rfl dX11_come_63 ?_
    refine s_getR C hV fl_X11_16 (fun _ _ _ => rfl) dX11_come_64 (fun x10 => ?_)
    refine s_iconst C (4 : Int32) (by decide) dX11_come_67 ?_
    refine s_aload_n C rfl dX11_come_68 ?_
    refine s_getI C hV fl_X11_104 (fun _ _ _ => rfl) dX11_come_69 (fun x11 => ?_)
    refine s_imul C dX11_come_72 ?_
    refine s_iconst C (3 : Int32) (by decide) dX11_come_73 ?_
    refine s_iadd C dX11_come_74 ?_
    refine s_iload C rfl dX11_come_75 ?_
    refine s_iastore C hV dX11_come_77 ?_
    refine s_aload_n C rfl dX11_come_78 ?_
    refine s_dupr C dX11_come_79 ?_
    refine s_getI C hV fl_X11_104 (fun _ _ _ => rfl) dX11_come_80 (fun x12 => ?_)
    refine s_iconst C (1 : Int32) (by decide) dX11_come_83 ?_
    refine s_iadd C dX11_come_84 ?_
    refine s_putI C hV fw_X11_104 rfl dX11_come_85 ?_
    refine s_aload_n C rfl dX11_come_88 ?_
    refine s_iconst C (0 : Int32) (by decide) dX11_come_89 ?_
    refine s_putZ C hV fw_X11_100 rfl dX11_come_90 ?_
    refine s_aload_n C rfl dX11_come_93 ?_
    refine s_getI C hV fl_X11_104 (fun _ _ _ => rfl) dX11_come_94 (fun x13 => ?_)
    refine s_iconst C (1 : Int32) (by decide) dX11_come_97 ?_
    refine s_isub C dX11_come_98 ?_
    exact s_ireti hR dX11_come_99
  · refine s_bipush C ((-104) : Int32) (by decide) dX11_come_9 ?_
    exact s_ireti hR dX11_come_11
set_option maxRecDepth 20000 in
theorem met_Mod_come (v0 : Nat) (v1 : Int32) (v2 : Int32) (v3 : Int32) (v4 : Int32) (v5 : Int32) : MI ZF yX11_come cX11_come 6 .int rm_Mod_come [.ref v0, .int v1, .int v2, .int v3, .int v4, .int v5] (Mod_come v0 v1 v2 v3 v4 v5) :=
  mi_of (L0 := [(0, .ref v0), (1, .int v1), (2, .int v2), (3, .int v3), (4, .int v4), (5, .int v5)]) (by decide +kernel) (Nat.le_of_ble_eq_true rfl) rfl (fun G ad K C hV hR => sm_Mod_come C hV hR v0 v1 v2 v3 v4 v5)

noncomputable def Mod_write (v0 : Nat) (v1 : Int32) (v2 : Int32) : MM Int32 :=
  mb ((Mod_isSector v1)) fun r1 =>
  if r1 = 0 then
  mp ((-101) : Int32)
  else
  mb ((Mod_isNumber v2)) fun r2 =>
  if r2 = 0 then
  mp ((-102) : Int32)
  else
  mb (vc ZF 12 v0 (Mod_come v0 (0 : Int32) v1 v2 ((-1) : Int32) ((-1) : Int32))) fun r3 =>
  mp r3
set_option maxRecDepth 20000 in
theorem sm_Mod_write {G : GT} {ad : Nat → Nat} {K : Int32 → Dm → Prop} (C : Cx G rm_Mod_write cX11_write 3 RX11) (hV : Vx G rm_Mod_write ad ZF (0, 0)) (hR : RtI G rm_Mod_write ad ZF (0, 0) cX11_write .int K) (v0 : Nat) (v1 : Int32) (v2 : Int32) : Sm G rm_Mod_write ad ZF (0, 0) K 0 [(0, .ref v0), (1, .int v1), (2, .int v2)] [] (Mod_write v0 v1 v2) := by
  unfold Mod_write
  refine s_iload_n C rfl dX11_write_0 ?_
  refine s_uI C hV ls_X11_93 (st := []) (met_Mod_isSector v1) rf_Mod_write_Mod_isSector rfl rfl (Nat.le_of_ble_eq_true rfl) dX11_write_1 (fun r1 => ?_)
  refine s_if_ne C 10 (by decide) dX11_write_4 ?_ ?_
  · refine s_iload_n C rfl dX11_write_10 ?_
    refine s_uI C hV ls_X11_97 (st := []) (met_Mod_isNumber v2) rf_Mod_write_Mod_isNumber rfl rfl (Nat.le_of_ble_eq_true rfl) dX11_write_11 (fun r2 => ?_)
    refine s_if_eq C 29 (by decide) dX11_write_14 ?_ ?_
    · refine s_bipush C ((-102) : Int32) (by decide) dX11_write_29 ?_
      exact s_ireti hR dX11_write_31
    · refine s_aload_n C rfl dX11_write_17 ?_
      refine s_iconst C (0 : Int32) (by decide) dX11_write_18 ?_
      refine s_iload_n C rfl dX11_write_19 ?_
      refine s_iload_n C rfl dX11_write_20 ?_
      refine s_iconst C ((-1) : Int32) (by decide) dX11_write_21 ?_
      refine s_iconst C ((-1) : Int32) (by decide) dX11_write_22 ?_
      refine s_wI C hV lv_X11_107 (st := []) (met_Mod_come v0 (0 : Int32) v1 v2 ((-1) : Int32) ((-1) : Int32)) rf_Mod_write_Mod_come rfl rfl (Nat.le_of_ble_eq_true rfl) dX11_write_23 (fun r3 => ?_)
      refine s_goto C 31 (by decide) dX11_write_26 ?_
      exact s_ireti hR dX11_write_31
  · refine s_bipush C ((-101) : Int32) (by decide) dX11_write_7 ?_
    exact s_ireti hR dX11_write_9
set_option maxRecDepth 20000 in
theorem met_Mod_write (v0 : Nat) (v1 : Int32) (v2 : Int32) : MI ZF yX11_write cX11_write 3 .int rm_Mod_write [.ref v0, .int v1, .int v2] (Mod_write v0 v1 v2) :=
  mi_of (L0 := [(0, .ref v0), (1, .int v1), (2, .int v2)]) (by decide +kernel) (Nat.le_of_ble_eq_true rfl) rfl (fun G ad K C hV hR => sm_Mod_write C hV hR v0 v1 v2)

noncomputable def Mod_whole (v0 : Nat) (v1 : Int32) (v2 : Int32) (v3 : Int32) (v4 : Int32) : MM Int32 :=
  mb ((Mod_isSector v1)) fun r1 =>
  if r1 = 0 then
  mp ((-101) : Int32)
  else
  mb ((Mod_isSector v3)) fun r2 =>
  if r2 = 0 then
  mp ((-101) : Int32)
  else
  if v1 = v3 then
  mp ((-101) : Int32)
  else
  mb ((Mod_isNumber v2)) fun r3 =>
  if r3 = 0 then
  mp ((-102) : Int32)
  else
  mb ((Mod_isNumber v4)) fun r4 =>
  if r4 = 0 then
  mp ((-102) : Int32)
  else
  mb (vc ZF 12 v0 (Mod_come v0 (1 : Int32) v1 v2 v3 v4)) fun r5 =>
  mp r5
set_option maxRecDepth 20000 in
theorem sm_Mod_whole {G : GT} {ad : Nat → Nat} {K : Int32 → Dm → Prop} (C : Cx G rm_Mod_whole cX11_whole 5 RX11) (hV : Vx G rm_Mod_whole ad ZF (0, 0)) (hR : RtI G rm_Mod_whole ad ZF (0, 0) cX11_whole .int K) (v0 : Nat) (v1 : Int32) (v2 : Int32) (v3 : Int32) (v4 : Int32) : Sm G rm_Mod_whole ad ZF (0, 0) K 0 [(0, .ref v0), (1, .int v1), (2, .int v2), (3, .int v3), (4, .int v4)] [] (Mod_whole v0 v1 v2 v3 v4) := by
  unfold Mod_whole
  refine s_iload_n C rfl dX11_whole_0 ?_
  refine s_uI C hV ls_X11_93 (st := []) (met_Mod_isSector v1) rf_Mod_whole_Mod_isSector rfl rfl (Nat.le_of_ble_eq_true rfl) dX11_whole_1 (fun r1 => ?_)
  refine s_if_eq C 19 (by decide) dX11_whole_4 ?_ ?_
  · refine s_bipush C ((-101) : Int32) (by decide) dX11_whole_19 ?_
    exact s_ireti hR dX11_whole_21
  · refine s_iload_n C rfl dX11_whole_7 ?_
    refine s_uI C hV ls_X11_93 (st := []) (met_Mod_isSector v3) rf_Mod_whole_Mod_isSector rfl rfl (Nat.le_of_ble_eq_true rfl) dX11_whole_8 (fun r2 => ?_)
    refine s_if_eq C 19 (by decide) dX11_whole_11 ?_ ?_
    · refine s_bipush C ((-101) : Int32) (by decide) dX11_whole_19 ?_
      exact s_ireti hR dX11_whole_21
    · refine s_iload_n C rfl dX11_whole_14 ?_
      refine s_iload_n C rfl dX11_whole_15 ?_
      refine s_icmp_ne C 22 (by decide) dX11_whole_16 ?_ ?_
      · refine s_iload_n C rfl dX11_whole_22 ?_
        refine s_uI C hV ls_X11_97 (st := []) (met_Mod_isNumber v2) rf_Mod_whole_Mod_isNumber rfl rfl (Nat.le_of_ble_eq_true rfl) dX11_whole_23 (fun r3 => ?_)
        refine s_if_eq C 50 (by decide) dX11_whole_26 ?_ ?_
        · refine s_bipush C ((-102) : Int32) (by decide) dX11_whole_50 ?_
          exact s_ireti hR dX11_whole_52
        · refine s_iload C rfl dX11_whole_29 ?_
          refine s_uI C hV ls_X11_97 (st := []) (met_Mod_isNumber v4) rf_Mod_whole_Mod_isNumber rfl rfl (Nat.le_of_ble_eq_true rfl) dX11_whole_31 (fun r4 => ?_)
          refine s_if_eq C 50 (by decide) dX11_whole_34 ?_ ?_
          · refine s_bipush C ((-102) : Int32) (by decide) dX11_whole_50 ?_
            exact s_ireti hR dX11_whole_52
          · refine s_aload_n C rfl dX11_whole_37 ?_
            refine s_iconst C (1 : Int32) (by decide) dX11_whole_38 ?_
            refine s_iload_n C rfl dX11_whole_39 ?_
            refine s_iload_n C rfl dX11_whole_40 ?_
            refine s_iload_n C rfl dX11_whole_41 ?_
            refine s_iload C rfl dX11_whole_42 ?_
            refine s_wI C hV lv_X11_107 (st := []) (met_Mod_come v0 (1 : Int32) v1 v2 v3 v4) rf_Mod_whole_Mod_come rfl rfl (Nat.le_of_ble_eq_true rfl) dX11_whole_44 (fun r5 => ?_)
            refine s_goto C 52 (by decide) dX11_whole_47 ?_
            exact s_ireti hR dX11_whole_52
      · refine s_bipush C ((-101) : Int32) (by decide) dX11_whole_19 ?_
        exact s_ireti hR dX11_whole_21
set_option maxRecDepth 20000 in
theorem met_Mod_whole (v0 : Nat) (v1 : Int32) (v2 : Int32) (v3 : Int32) (v4 : Int32) : MI ZF yX11_whole cX11_whole 5 .int rm_Mod_whole [.ref v0, .int v1, .int v2, .int v3, .int v4] (Mod_whole v0 v1 v2 v3 v4) :=
  mi_of (L0 := [(0, .ref v0), (1, .int v1), (2, .int v2), (3, .int v3), (4, .int v4)]) (by decide +kernel) (Nat.le_of_ble_eq_true rfl) rfl (fun G ad K C hV hR => sm_Mod_whole C hV hR v0 v1 v2 v3 v4)

noncomputable def Mod_barrier (v0 : Nat) : MM Int32 :=
  mb (vc ZF 12 v0 (Mod_come v0 (2 : Int32) ((-1) : Int32) ((-1) : Int32) ((-1) : Int32) ((-1) : Int32))) fun r1 =>
  mp r1
set_option maxRecDepth 20000 in
theorem sm_Mod_barrier {G : GT} {ad : Nat → Nat} {K : Int32 → Dm → Prop} (C : Cx G rm_Mod_barrier cX11_barrier 1 RX11) (hV : Vx G rm_Mod_barrier ad ZF (0, 0)) (hR : RtI G rm_Mod_barrier ad ZF (0, 0) cX11_barrier .int K) (v0 : Nat) : Sm G rm_Mod_barrier ad ZF (0, 0) K 0 [(0, .ref v0)] [] (Mod_barrier v0) := by
  unfold Mod_barrier
  refine s_aload_n C rfl dX11_barrier_0 ?_
  refine s_iconst C (2 : Int32) (by decide) dX11_barrier_1 ?_
  refine s_iconst C ((-1) : Int32) (by decide) dX11_barrier_2 ?_
  refine s_iconst C ((-1) : Int32) (by decide) dX11_barrier_3 ?_
  refine s_iconst C ((-1) : Int32) (by decide) dX11_barrier_4 ?_
  refine s_iconst C ((-1) : Int32) (by decide) dX11_barrier_5 ?_
  refine s_wI C hV lv_X11_107 (st := []) (met_Mod_come v0 (2 : Int32) ((-1) : Int32) ((-1) : Int32) ((-1) : Int32) ((-1) : Int32)) rf_Mod_barrier_Mod_come rfl rfl (Nat.le_of_ble_eq_true rfl) dX11_barrier_6 (fun r1 => ?_)
  exact s_ireti hR dX11_barrier_9
set_option maxRecDepth 20000 in
theorem met_Mod_barrier (v0 : Nat) : MI ZF yX11_barrier cX11_barrier 1 .int rm_Mod_barrier [.ref v0] (Mod_barrier v0) :=
  mi_of (L0 := [(0, .ref v0)]) (by decide +kernel) (Nat.le_of_ble_eq_true rfl) rfl (fun G ad K C hV hR => sm_Mod_barrier C hV hR v0)

noncomputable def Mod_flush (v0 : Nat) : MM Int32 :=
  mb (vc ZF 12 v0 (Mod_come v0 (3 : Int32) ((-1) : Int32) ((-1) : Int32) ((-1) : Int32) ((-1) : Int32))) fun r1 =>
  mp r1
set_option maxRecDepth 20000 in
theorem sm_Mod_flush {G : GT} {ad : Nat → Nat} {K : Int32 → Dm → Prop} (C : Cx G rm_Mod_flush cX11_flush 1 RX11) (hV : Vx G rm_Mod_flush ad ZF (0, 0)) (hR : RtI G rm_Mod_flush ad ZF (0, 0) cX11_flush .int K) (v0 : Nat) : Sm G rm_Mod_flush ad ZF (0, 0) K 0 [(0, .ref v0)] [] (Mod_flush v0) := by
  unfold Mod_flush
  refine s_aload_n C rfl dX11_flush_0 ?_
  refine s_iconst C (3 : Int32) (by decide) dX11_flush_1 ?_
  refine s_iconst C ((-1) : Int32) (by decide) dX11_flush_2 ?_
  refine s_iconst C ((-1) : Int32) (by decide) dX11_flush_3 ?_
  refine s_iconst C ((-1) : Int32) (by decide) dX11_flush_4 ?_
  refine s_iconst C ((-1) : Int32) (by decide) dX11_flush_5 ?_
  refine s_wI C hV lv_X11_107 (st := []) (met_Mod_come v0 (3 : Int32) ((-1) : Int32) ((-1) : Int32) ((-1) : Int32) ((-1) : Int32)) rf_Mod_flush_Mod_come rfl rfl (Nat.le_of_ble_eq_true rfl) dX11_flush_6 (fun r1 => ?_)
  exact s_ireti hR dX11_flush_9
set_option maxRecDepth 20000 in
theorem met_Mod_flush (v0 : Nat) : MI ZF yX11_flush cX11_flush 1 .int rm_Mod_flush [.ref v0] (Mod_flush v0) :=
  mi_of (L0 := [(0, .ref v0)]) (by decide +kernel) (Nat.le_of_ble_eq_true rfl) rfl (fun G ad K C hV hR => sm_Mod_flush C hV hR v0)

noncomputable def Mod_tell (v0 : Nat) (v1 : Int32) : MM Int32 :=
  mb (gI ZF 12 6 v0) fun x1 =>
  mb ((Mod_in v1 (0 : Int32) (x1 - (1 : Int32)))) fun r2 =>
  if r2 = 0 then
  mp ((-101) : Int32)
  else
  mb (vc ZF 12 v0 (Mod_come v0 (4 : Int32) v1 ((-1) : Int32) ((-1) : Int32) ((-1) : Int32))) fun r3 =>
  mp r3
set_option maxRecDepth 20000 in
theorem sm_Mod_tell {G : GT} {ad : Nat → Nat} {K : Int32 → Dm → Prop} (C : Cx G rm_Mod_tell cX11_tell 2 RX11) (hV : Vx G rm_Mod_tell ad ZF (0, 0)) (hR : RtI G rm_Mod_tell ad ZF (0, 0) cX11_tell .int K) (v0 : Nat) (v1 : Int32) : Sm G rm_Mod_tell ad ZF (0, 0) K 0 [(0, .ref v0), (1, .int v1)] [] (Mod_tell v0 v1) := by
  unfold Mod_tell
  refine s_iload_n C rfl dX11_tell_0 ?_
  refine s_iconst C (0 : Int32) (by decide) dX11_tell_1 ?_
  refine s_aload_n C rfl dX11_tell_2 ?_
  refine s_getI C hV fl_X11_111 (fun _ _ _ => rfl) dX11_tell_3 (fun x1 => ?_)
  refine s_iconst C (1 : Int32) (by decide) dX11_tell_6 ?_
  refine s_isub C dX11_tell_7 ?_
  refine s_uI C hV ls_X11_89 (st := []) (met_Mod_in v1 (0 : Int32) (x1 - (1 : Int32))) rf_Mod_tell_Mod_in rfl rfl (Nat.le_of_ble_eq_true rfl) dX11_tell_8 (fun r2 => ?_)
  refine s_if_eq C 26 (by decide) dX11_tell_11 ?_ ?_
  · refine s_bipush C ((-101) : Int32) (by decide) dX11_tell_26 ?_
    exact s_ireti hR dX11_tell_28
  · refine s_aload_n C rfl dX11_tell_14 ?_
    refine s_iconst C (4 : Int32) (by decide) dX11_tell_15 ?_
    refine s_iload_n C rfl dX11_tell_16 ?_
    refine s_iconst C ((-1) : Int32) (by decide) dX11_tell_17 ?_
    refine s_iconst C ((-1) : Int32) (by decide) dX11_tell_18 ?_
    refine s_iconst C ((-1) : Int32) (by decide) dX11_tell_19 ?_
    refine s_wI C hV lv_X11_107 (st := []) (met_Mod_come v0 (4 : Int32) v1 ((-1) : Int32) ((-1) : Int32) ((-1) : Int32)) rf_Mod_tell_Mod_come rfl rfl (Nat.le_of_ble_eq_true rfl) dX11_tell_20 (fun r3 => ?_)
    refine s_goto C 28 (by decide) dX11_tell_23 ?_
    exact s_ireti hR dX11_tell_28
set_option maxRecDepth 20000 in
theorem met_Mod_tell (v0 : Nat) (v1 : Int32) : MI ZF yX11_tell cX11_tell 2 .int rm_Mod_tell [.ref v0, .int v1] (Mod_tell v0 v1) :=
  mi_of (L0 := [(0, .ref v0), (1, .int v1)]) (by decide +kernel) (Nat.le_of_ble_eq_true rfl) rfl (fun G ad K C hV hR => sm_Mod_tell C hV hR v0 v1)

noncomputable def Mod_undo (v0 : Nat) : MM Int32 :=
  mb (gI ZF 12 1 v0) fun x1 =>
  if x1 = 0 then
  mp ((-103) : Int32)
  else
  mb (gI ZF 12 1 v0) fun x2 =>
  mb (pI ZF 12 1 v0 (x2 - (1 : Int32))) fun _ =>
  mb (pZ ZF 12 27 v0 (0 : Int32)) fun _ =>
  mb (gI ZF 12 1 v0) fun x3 =>
  mp x3
set_option maxRecDepth 20000 in
theorem sm_Mod_undo {G : GT} {ad : Nat → Nat} {K : Int32 → Dm → Prop} (C : Cx G rm_Mod_undo cX11_undo 1 RX11) (hV : Vx G rm_Mod_undo ad ZF (0, 0)) (hR : RtI G rm_Mod_undo ad ZF (0, 0) cX11_undo .int K) (v0 : Nat) : Sm G rm_Mod_undo ad ZF (0, 0) K 0 [(0, .ref v0)] [] (Mod_undo v0) := by
  unfold Mod_undo
  refine s_aload_n C rfl dX11_undo_0 ?_
  refine s_getI C hV fl_X11_104 (fun _ _ _ => rfl) dX11_undo_1 (fun x1 => ?_)
  refine s_if_ne C 10 (by decide) dX11_undo_4 ?_ ?_
  · refine s_aload_n C rfl dX11_undo_10 ?_
    refine s_dupr C dX11_undo_11 ?_
    refine s_getI C hV fl_X11_104 (fun _ _ _ => rfl) dX11_undo_12 (fun x2 => ?_)
    refine s_iconst C (1 : Int32) (by decide) dX11_undo_15 ?_
    refine s_isub C dX11_undo_16 ?_
    refine s_putI C hV fw_X11_104 rfl dX11_undo_17 ?_
    refine s_aload_n C rfl dX11_undo_20 ?_
    refine s_iconst C (0 : Int32) (by decide) dX11_undo_21 ?_
    refine s_putZ C hV fw_X11_100 rfl dX11_undo_22 ?_
    refine s_aload_n C rfl dX11_undo_25 ?_
    refine s_getI C hV fl_X11_104 (fun _ _ _ => rfl) dX11_undo_26 (fun x3 => ?_)
    exact s_ireti hR dX11_undo_29
  · refine s_bipush C ((-103) : Int32) (by decide) dX11_undo_7 ?_
    exact s_ireti hR dX11_undo_9
set_option maxRecDepth 20000 in
theorem met_Mod_undo (v0 : Nat) : MI ZF yX11_undo cX11_undo 1 .int rm_Mod_undo [.ref v0] (Mod_undo v0) :=
  mi_of (L0 := [(0, .ref v0)]) (by decide +kernel) (Nat.le_of_ble_eq_true rfl) rfl (fun G ad K C hV hR => sm_Mod_undo C hV hR v0)

noncomputable def Mod_swap_60_b (v0 : Nat) (v1 : Int32) (v2 : Int32) (v4 : Int32) : MM (Int32 ⊕ Int32) :=
  if (4 : Int32) ≤ v4 then
  mr (
  mb (pZ ZF 12 27 v0 (0 : Int32)) fun _ =>
  mp (1 : Int32))
  else
  mb (gR ZF 12 3 v0) fun x12 =>
  mb (aI ZF 23 x12 (((4 : Int32) * v1) + v4)) fun x13 =>
  mb (gR ZF 12 3 v0) fun x14 =>
  mb (gR ZF 12 3 v0) fun x15 =>
  mb (aI ZF 23 x15 (((4 : Int32) * v2) + v4)) fun x16 =>
  mb (sI ZF x14 (((4 : Int32) * v1) + v4) x16) fun _ =>
  mb (gR ZF 12 3 v0) fun x17 =>
  mb (sI ZF x17 (((4 : Int32) * v2) + v4) x13) fun _ =>
  ml (v4 + (1 : Int32)) fun x18 =>
  mp (.inl x18)
noncomputable def Mod_swap_60 (v0 : Nat) (v1 : Int32) (v2 : Int32) (s : Int32) : MM Int32 := lo (fun (s : Int32) => Mod_swap_60_b v0 v1 v2 s) s
noncomputable def Mod_swap (v0 : Nat) (v1 : Int32) (v2 : Int32) : MM Int32 :=
  mb (gI ZF 12 1 v0) fun x1 =>
  mb ((Mod_in v1 (0 : Int32) (x1 - (1 : Int32)))) fun r2 =>
  if r2 = 0 then
  mp ((-101) : Int32)
  else
  mb (gI ZF 12 1 v0) fun x3 =>
  mb ((Mod_in v2 (0 : Int32) (x3 - (1 : Int32)))) fun r4 =>
  if r4 = 0 then
  mp ((-101) : Int32)
  else
  mb (gR ZF 12 2 v0) fun x5 =>
  mb (aI ZF 23 x5 v1) fun x6 =>
  mb (gR ZF 12 2 v0) fun x7 =>
  mb (gR ZF 12 2 v0) fun x8 =>
  mb (aI ZF 23 x8 v2) fun x9 =>
  mb (sI ZF x7 v1 x9) fun _ =>
  mb (gR ZF 12 2 v0) fun x10 =>
  mb (sI ZF x10 v2 x6) fun _ =>
  ml (0 : Int32) fun x11 =>
  Mod_swap_60 v0 v1 v2 x11
set_option maxRecDepth 20000 in
theorem sm_Mod_swap_60_b {G : GT} {ad : Nat → Nat} {K : Int32 → Dm → Prop} (C : Cx G rm_Mod_swap cX11_swap 6 RX11) (hV : Vx G rm_Mod_swap ad ZF (0, 0)) (hR : RtI G rm_Mod_swap ad ZF (0, 0) cX11_swap .int K) (v0 : Nat) (v1 : Int32) (v2 : Int32) (v4 : Int32) : Sm G rm_Mod_swap ad ZF (0, 0) (lpK G rm_Mod_swap ad ZF (0, 0) 60 (fun (s : Int32) => [(0, .ref v0), (1, .int v1), (2, .int v2), (4, .int s)]) K) 60 [(0, .ref v0), (1, .int v1), (2, .int v2), (4, .int v4)] [] (Mod_swap_60_b v0 v1 v2 v4) := by
  unfold Mod_swap_60_b
  refine s_iload C rfl dX11_swap_60 ?_
  refine s_iconst C (4 : Int32) (by decide) dX11_swap_62 ?_
  refine s_icmp_ge C 120 (by decide) dX11_swap_63 ?_ ?_
  · refine s_exit ?_
    refine s_aload_n C rfl dX11_swap_120 ?_
    refine s_iconst C (0 : Int32) (by decide) dX11_swap_121 ?_
    refine s_putZ C hV fw_X11_100 rfl dX11_swap_122 ?_
    refine s_iconst C (1 : Int32) (by decide) dX11_swap_125 ?_
    exact s_ireti hR dX11_swap_126
  · refine s_aload_n C rfl dX11_swap_66 ?_
    refine s_getR C hV fl_X11_16 (fun _ _ _ => rfl) dX11_swap_67 (fun x12 => ?_)
    refine s_iconst C (4 : Int32) (by decide) dX11_swap_70 ?_
    refine s_iload_n C rfl dX11_swap_71 ?_
    refine s_imul C dX11_swap_72 ?_
    refine s_iload C rfl dX11_swap_73 ?_
    refine s_iadd C dX11_swap_75 ?_
    refine s_iaload C hV dX11_swap_76 (fun x13 => ?_)
    refine s_istore C (L' := [(5, .int x13), (0, .ref v0), (1, .int v1), (2, .int v2), (4, .int v4)]) (by decide) rfl dX11_swap_77 ?_
    refine s_aload_n C rfl dX11_swap_79 ?_
    refine s_getR C hV fl_X11_16 (fun _ _ _ => rfl) dX11_swap_80 (fun x14 => ?_)
    refine s_iconst C (4 : Int32) (by decide) dX11_swap_83 ?_
    refine s_iload_n C rfl dX11_swap_84 ?_
    refine s_imul C dX11_swap_85 ?_
    refine s_iload C rfl dX11_swap_86 ?_
    refine s_iadd C dX11_swap_88 ?_
    refine s_aload_n C rfl dX11_swap_89 ?_
    refine s_getR C hV fl_X11_16 (fun _ _ _ => rfl) dX11_swap_90 (fun x15 => ?_)
    refine s_iconst C (4 : Int32) (by decide) dX11_swap_93 ?_
    refine s_iload_n C rfl dX11_swap_94 ?_
    refine s_imul C dX11_swap_95 ?_
    refine s_iload C rfl dX11_swap_96 ?_
    refine s_iadd C dX11_swap_98 ?_
    refine s_iaload C hV dX11_swap_99 (fun x16 => ?_)
    refine s_iastore C hV dX11_swap_100 ?_
    refine s_aload_n C rfl dX11_swap_101 ?_
    refine s_getR C hV fl_X11_16 (fun _ _ _ => rfl) dX11_swap_102 (fun x17 => ?_)
    refine s_iconst C (4 : Int32) (by decide) dX11_swap_105 ?_
    refine s_iload_n C rfl dX11_swap_106 ?_
    refine s_imul C dX11_swap_107 ?_
    refine s_iload C rfl dX11_swap_108 ?_
    refine s_iadd C dX11_swap_110 ?_
    refine s_iload C rfl dX11_swap_111 ?_
    refine s_iastore C hV dX11_swap_113 ?_
    refine s_iinc C (L' := fun x18 => [(4, .int x18), (5, .int x13), (0, .ref v0), (1, .int v1), (2, .int v2)]) (1 : Int32) (by decide) rfl (by decide) (fun _ => rfl) dX11_swap_114 (fun x18 => ?_)
    refine s_goto C 60 (by decide) dX11_swap_117 ?_
    exact s_back [0, 1, 2, 4] x18 rfl
set_option maxRecDepth 20000 in
theorem sm_Mod_swap_60 {G : GT} {ad : Nat → Nat} {K : Int32 → Dm → Prop} (C : Cx G rm_Mod_swap cX11_swap 6 RX11) (hV : Vx G rm_Mod_swap ad ZF (0, 0)) (hR : RtI G rm_Mod_swap ad ZF (0, 0) cX11_swap .int K) (v0 : Nat) (v1 : Int32) (v2 : Int32) (s : Int32) : Sm G rm_Mod_swap ad ZF (0, 0) K 60 ((fun (s : Int32) => [(0, .ref v0), (1, .int v1), (2, .int v2), (4, .int s)]) s) [] (Mod_swap_60 v0 v1 v2 s) :=
  s_loop (en := (fun (s : Int32) => [(0, .ref v0), (1, .int v1), (2, .int v2), (4, .int s)])) (fun s => sm_Mod_swap_60_b C hV hR v0 v1 v2 s) s
set_option maxRecDepth 20000 in
theorem sm_Mod_swap {G : GT} {ad : Nat → Nat} {K : Int32 → Dm → Prop} (C : Cx G rm_Mod_swap cX11_swap 6 RX11) (hV : Vx G rm_Mod_swap ad ZF (0, 0)) (hR : RtI G rm_Mod_swap ad ZF (0, 0) cX11_swap .int K) (v0 : Nat) (v1 : Int32) (v2 : Int32) : Sm G rm_Mod_swap ad ZF (0, 0) K 0 [(0, .ref v0), (1, .int v1), (2, .int v2)] [] (Mod_swap v0 v1 v2) := by
  unfold Mod_swap
  refine s_iload_n C rfl dX11_swap_0 ?_
  refine s_iconst C (0 : Int32) (by decide) dX11_swap_1 ?_
  refine s_aload_n C rfl dX11_swap_2 ?_
  refine s_getI C hV fl_X11_104 (fun _ _ _ => rfl) dX11_swap_3 (fun x1 => ?_)
  refine s_iconst C (1 : Int32) (by decide) dX11_swap_6 ?_
  refine s_isub C dX11_swap_7 ?_
  refine s_uI C hV ls_X11_89 (st := []) (met_Mod_in v1 (0 : Int32) (x1 - (1 : Int32))) rf_Mod_swap_Mod_in rfl rfl (Nat.le_of_ble_eq_true rfl) dX11_swap_8 (fun r2 => ?_)
  refine s_if_eq C 28 (by decide) dX11_swap_11 ?_ ?_
  · refine s_bipush C ((-101) : Int32) (by decide) dX11_swap_28 ?_
    exact s_ireti hR dX11_swap_30
  · refine s_iload_n C rfl dX11_swap_14 ?_
    refine s_iconst C (0 : Int32) (by decide) dX11_swap_15 ?_
    refine s_aload_n C rfl dX11_swap_16 ?_
    refine s_getI C hV fl_X11_104 (fun _ _ _ => rfl) dX11_swap_17 (fun x3 => ?_)
    refine s_iconst C (1 : Int32) (by decide) dX11_swap_20 ?_
    refine s_isub C dX11_swap_21 ?_
    refine s_uI C hV ls_X11_89 (st := []) (met_Mod_in v2 (0 : Int32) (x3 - (1 : Int32))) rf_Mod_swap_Mod_in rfl rfl (Nat.le_of_ble_eq_true rfl) dX11_swap_22 (fun r4 => ?_)
    refine s_if_ne C 31 (by decide) dX11_swap_25 ?_ ?_
    · refine s_aload_n C rfl dX11_swap_31 ?_
      refine s_getR C hV fl_X11_13 (fun _ _ _ => rfl) dX11_swap_32 (fun x5 => ?_)
      refine s_iload_n C rfl dX11_swap_35 ?_
      refine s_iaload C hV dX11_swap_36 (fun x6 => ?_)
      refine s_istore_n C (L' := [(3, .int x6), (0, .ref v0), (1, .int v1), (2, .int v2)]) (by decide) rfl dX11_swap_37 ?_
      refine s_aload_n C rfl dX11_swap_38 ?_
      refine s_getR C hV fl_X11_13 (fun _ _ _ => rfl) dX11_swap_39 (fun x7 => ?_)
      refine s_iload_n C rfl dX11_swap_42 ?_
      refine s_aload_n C rfl dX11_swap_43 ?_
      refine s_getR C hV fl_X11_13 (fun _ _ _ => rfl) dX11_swap_44 (fun x8 => ?_)
      refine s_iload_n C rfl dX11_swap_47 ?_
      refine s_iaload C hV dX11_swap_48 (fun x9 => ?_)
      refine s_iastore C hV dX11_swap_49 ?_
      refine s_aload_n C rfl dX11_swap_50 ?_
      refine s_getR C hV fl_X11_13 (fun _ _ _ => rfl) dX11_swap_51 (fun x10 => ?_)
      refine s_iload_n C rfl dX11_swap_54 ?_
      refine s_iload_n C rfl dX11_swap_55 ?_
      refine s_iastore C hV dX11_swap_56 ?_
      refine s_iconst C (0 : Int32) (by decide) dX11_swap_57 ?_
      refine s_leti (fun x11 => ?_)
      refine s_istore C (L' := [(4, .int x11), (3, .int x6), (0, .ref v0), (1, .int v1), (2, .int v2)]) (by decide) rfl dX11_swap_58 ?_
      exact s_weak [0, 1, 2, 4] rfl (sm_Mod_swap_60 C hV hR v0 v1 v2 x11)
    · refine s_bipush C ((-101) : Int32) (by decide) dX11_swap_28 ?_
      exact s_ireti hR dX11_swap_30
set_option maxRecDepth 20000 in
theorem met_Mod_swap (v0 : Nat) (v1 : Int32) (v2 : Int32) : MI ZF yX11_swap cX11_swap 6 .int rm_Mod_swap [.ref v0, .int v1, .int v2] (Mod_swap v0 v1 v2) :=
  mi_of (L0 := [(0, .ref v0), (1, .int v1), (2, .int v2)]) (by decide +kernel) (Nat.le_of_ble_eq_true rfl) rfl (fun G ad K C hV hR => sm_Mod_swap C hV hR v0 v1 v2)

noncomputable def Mod_act (v0 : Nat) (v1 : Int32) (v2 : Int32) : MM Int32 :=
  mb (gI ZF 12 1 v0) fun x1 =>
  mb ((Mod_in v1 (0 : Int32) (x1 - (1 : Int32)))) fun r2 =>
  if r2 = 0 then
  mp ((-101) : Int32)
  else
  if v2 = 0 then
  mb (gR ZF 12 2 v0) fun x6 =>
  mb (aI ZF 23 x6 v1) fun x7 =>
  mp x7
  else
  mb ((Mod_in v2 (1 : Int32) (4 : Int32))) fun r3 =>
  if r3 = 0 then
  mp ((-102) : Int32)
  else
  mb (gR ZF 12 3 v0) fun x4 =>
  mb (aI ZF 23 x4 ((((4 : Int32) * v1) + v2) - (1 : Int32))) fun x5 =>
  mp x5
set_option maxRecDepth 20000 in
theorem sm_Mod_act {G : GT} {ad : Nat → Nat} {K : Int32 → Dm → Prop} (C : Cx G rm_Mod_act cX11_act 3 RX11) (hV : Vx G rm_Mod_act ad ZF (0, 0)) (hR : RtI G rm_Mod_act ad ZF (0, 0) cX11_act .int K) (v0 : Nat) (v1 : Int32) (v2 : Int32) : Sm G rm_Mod_act ad ZF (0, 0) K 0 [(0, .ref v0), (1, .int v1), (2, .int v2)] [] (Mod_act v0 v1 v2) := by
  unfold Mod_act
  refine s_iload_n C rfl dX11_act_0 ?_
  refine s_iconst C (0 : Int32) (by decide) dX11_act_1 ?_
  refine s_aload_n C rfl dX11_act_2 ?_
  refine s_getI C hV fl_X11_104 (fun _ _ _ => rfl) dX11_act_3 (fun x1 => ?_)
  refine s_iconst C (1 : Int32) (by decide) dX11_act_6 ?_
  refine s_isub C dX11_act_7 ?_
  refine s_uI C hV ls_X11_89 (st := []) (met_Mod_in v1 (0 : Int32) (x1 - (1 : Int32))) rf_Mod_act_Mod_in rfl rfl (Nat.le_of_ble_eq_true rfl) dX11_act_8 (fun r2 => ?_)
  refine s_if_ne C 17 (by decide) dX11_act_11 ?_ ?_
  · refine s_iload_n C rfl dX11_act_17 ?_
    refine s_if_ne C 30 (by decide) dX11_act_18 ?_ ?_
    · refine s_iload_n C rfl dX11_act_30 ?_
      refine s_iconst C (1 : Int32) (by decide) dX11_act_31 ?_
      refine s_iconst C (4 : Int32) (by decide) dX11_act_32 ?_
      refine s_uI C hV ls_X11_89 (st := []) (met_Mod_in v2 (1 : Int32) (4 : Int32)) rf_Mod_act_Mod_in rfl rfl (Nat.le_of_ble_eq_true rfl) dX11_act_33 (fun r3 => ?_)
      refine s_if_eq C 54 (by decide) dX11_act_36 ?_ ?_
      · refine s_bipush C ((-102) : Int32) (by decide) dX11_act_54 ?_
        exact s_ireti hR dX11_act_56
      · refine s_aload_n C rfl dX11_act_39 ?_
        refine s_getR C hV fl_X11_16 (fun _ _ _ => rfl) dX11_act_40 (fun x4 => ?_)
        refine s_iconst C (4 : Int32) (by decide) dX11_act_43 ?_
        refine s_iload_n C rfl dX11_act_44 ?_
        refine s_imul C dX11_act_45 ?_
        refine s_iload_n C rfl dX11_act_46 ?_
        refine s_iadd C dX11_act_47 ?_
        refine s_iconst C (1 : Int32) (by decide) dX11_act_48 ?_
        refine s_isub C dX11_act_49 ?_
        refine s_iaload C hV dX11_act_50 (fun x5 => ?_)
        refine s_goto C 56 (by decide) dX11_act_51 ?_
        exact s_ireti hR dX11_act_56
    · refine s_aload_n C rfl dX11_act_21 ?_
      refine s_getR C hV fl_X11_13 (fun _ _ _ => rfl) dX11_act_22 (fun x6 => ?_)
      refine s_iload_n C rfl dX11_act_25 ?_
      refine s_iaload C hV dX11_act_26 (fun x7 => ?_)
      refine s_goto C 56 (by decide) dX11_act_27 ?_
      exact s_ireti hR dX11_act_56
  · refine s_bipush C ((-101) : Int32) (by decide) dX11_act_14 ?_
    exact s_ireti hR dX11_act_16
set_option maxRecDepth 20000 in
theorem met_Mod_act (v0 : Nat) (v1 : Int32) (v2 : Int32) : MI ZF yX11_act cX11_act 3 .int rm_Mod_act [.ref v0, .int v1, .int v2] (Mod_act v0 v1 v2) :=
  mi_of (L0 := [(0, .ref v0), (1, .int v1), (2, .int v2)]) (by decide +kernel) (Nat.le_of_ble_eq_true rfl) rfl (fun G ad K C hV hR => sm_Mod_act C hV hR v0 v1 v2)

noncomputable def Mod_isWrite (v0 : Nat) (v1 : Int32) : MM Int32 :=
  mb (gR ZF 12 2 v0) fun x1 =>
  mb (aI ZF 23 x1 v1) fun x2 =>
  if x2 = 0 then
  mz (1 : Int32)
  else
  mb (gR ZF 12 2 v0) fun x3 =>
  mb (aI ZF 23 x3 v1) fun x4 =>
  if x4 = (1 : Int32) then
  mz (1 : Int32)
  else
  mz (0 : Int32)
set_option maxRecDepth 20000 in
theorem sm_Mod_isWrite {G : GT} {ad : Nat → Nat} {K : Int32 → Dm → Prop} (C : Cx G rm_Mod_isWrite cX11_isWrite 2 RX11) (hV : Vx G rm_Mod_isWrite ad ZF (0, 0)) (hR : RtI G rm_Mod_isWrite ad ZF (0, 0) cX11_isWrite .boolean K) (v0 : Nat) (v1 : Int32) : Sm G rm_Mod_isWrite ad ZF (0, 0) K 0 [(0, .ref v0), (1, .int v1)] [] (Mod_isWrite v0 v1) := by
  unfold Mod_isWrite
  refine s_aload_n C rfl dX11_isWrite_0 ?_
  refine s_getR C hV fl_X11_13 (fun _ _ _ => rfl) dX11_isWrite_1 (fun x1 => ?_)
  refine s_iload_n C rfl dX11_isWrite_4 ?_
  refine s_iaload C hV dX11_isWrite_5 (fun x2 => ?_)
  refine s_if_eq C 19 (by decide) dX11_isWrite_6 ?_ ?_
  · refine s_iconst C (1 : Int32) (by decide) dX11_isWrite_19 ?_
    refine s_goto C 24 (by decide) dX11_isWrite_20 ?_
    exact s_iretz hR dX11_isWrite_24
  · refine s_aload_n C rfl dX11_isWrite_9 ?_
    refine s_getR C hV fl_X11_13 (fun _ _ _ => rfl) dX11_isWrite_10 (fun x3 => ?_)
    refine s_iload_n C rfl dX11_isWrite_13 ?_
    refine s_iaload C hV dX11_isWrite_14 (fun x4 => ?_)
    refine s_iconst C (1 : Int32) (by decide) dX11_isWrite_15 ?_
    refine s_icmp_ne C 23 (by decide) dX11_isWrite_16 ?_ ?_
    · refine s_iconst C (0 : Int32) (by decide) dX11_isWrite_23 ?_
      exact s_iretz hR dX11_isWrite_24
    · refine s_iconst C (1 : Int32) (by decide) dX11_isWrite_19 ?_
      refine s_goto C 24 (by decide) dX11_isWrite_20 ?_
      exact s_iretz hR dX11_isWrite_24
set_option maxRecDepth 20000 in
theorem met_Mod_isWrite (v0 : Nat) (v1 : Int32) : MI ZF yX11_isWrite cX11_isWrite 2 .boolean rm_Mod_isWrite [.ref v0, .int v1] (Mod_isWrite v0 v1) :=
  mi_of (L0 := [(0, .ref v0), (1, .int v1)]) (by decide +kernel) (Nat.le_of_ble_eq_true rfl) rfl (fun G ad K C hV hR => sm_Mod_isWrite C hV hR v0 v1)

noncomputable def Mod_writesAhead_25 (v0 : Nat) (v1 : Int32) (v3 : Int32) (t0 : Int32) (t1 : Int32) : MM ((Int32 × Int32) ⊕ Int32) :=
  ml (t0 ||| t1) fun x4 =>
  ml (v3 + (1 : Int32)) fun x5 =>
  mp (.inl (x4, x5))
noncomputable def Mod_writesAhead_4_b (v0 : Nat) (v1 : Int32) (v2 : Int32) (v3 : Int32) : MM ((Int32 × Int32) ⊕ Int32) :=
  if v1 ≤ v3 then
  mr (
  mp v2)
  else
  mb (vc ZF 12 v0 (Mod_isWrite v0 v3)) fun r3 =>
  Mod_writesAhead_25 v0 v1 v3 v2 (if r3 = 0 then (0 : Int32) else ((1 : Int32) <<< (v3 &&& 31)))
noncomputable def Mod_writesAhead_4 (v0 : Nat) (v1 : Int32) (s : (Int32 × Int32)) : MM Int32 := lo (fun (s : (Int32 × Int32)) => Mod_writesAhead_4_b v0 v1 s.1 s.2) s
noncomputable def Mod_writesAhead (v0 : Nat) (v1 : Int32) : MM Int32 :=
  ml (0 : Int32) fun x1 =>
  ml (0 : Int32) fun x2 =>
  Mod_writesAhead_4 v0 v1 (x1, x2)
set_option maxRecDepth 20000 in
theorem sm_Mod_writesAhead_25 {G : GT} {ad : Nat → Nat} {K : Int32 → Dm → Prop} (C : Cx G rm_Mod_writesAhead cX11_writesAhead 4 RX11) (hV : Vx G rm_Mod_writesAhead ad ZF (0, 0)) (hR : RtI G rm_Mod_writesAhead ad ZF (0, 0) cX11_writesAhead .int K) (v0 : Nat) (v1 : Int32) (v3 : Int32) (t0 : Int32) (t1 : Int32) : Sm G rm_Mod_writesAhead ad ZF (0, 0) (lpK G rm_Mod_writesAhead ad ZF (0, 0) 4 (fun (s : (Int32 × Int32)) => [(0, .ref v0), (1, .int v1), (2, .int s.1), (3, .int s.2)]) K) 25 [(0, .ref v0), (1, .int v1), (3, .int v3)] [.int t1, .int t0] (Mod_writesAhead_25 v0 v1 v3 t0 t1) := by
  unfold Mod_writesAhead_25
  refine s_ior C dX11_writesAhead_25 ?_
  refine s_leti (fun x4 => ?_)
  refine s_istore_n C (L' := [(2, .int x4), (0, .ref v0), (1, .int v1), (3, .int v3)]) (by decide) rfl dX11_writesAhead_26 ?_
  refine s_iinc C (L' := fun x5 => [(3, .int x5), (2, .int x4), (0, .ref v0), (1, .int v1)]) (1 : Int32) (by decide) rfl (by decide) (fun _ => rfl) dX11_writesAhead_27 (fun x5 => ?_)
  refine s_goto C 4 (by decide) dX11_writesAhead_30 ?_
  exact s_back [0, 1, 2, 3] (x4, x5) rfl
set_option maxRecDepth 20000 in
theorem sm_Mod_writesAhead_4_b {G : GT} {ad : Nat → Nat} {K : Int32 → Dm → Prop} (C : Cx G rm_Mod_writesAhead cX11_writesAhead 4 RX11) (hV : Vx G rm_Mod_writesAhead ad ZF (0, 0)) (hR : RtI G rm_Mod_writesAhead ad ZF (0, 0) cX11_writesAhead .int K) (v0 : Nat) (v1 : Int32) (v2 : Int32) (v3 : Int32) : Sm G rm_Mod_writesAhead ad ZF (0, 0) (lpK G rm_Mod_writesAhead ad ZF (0, 0) 4 (fun (s : (Int32 × Int32)) => [(0, .ref v0), (1, .int v1), (2, .int s.1), (3, .int s.2)]) K) 4 [(0, .ref v0), (1, .int v1), (2, .int v2), (3, .int v3)] [] (Mod_writesAhead_4_b v0 v1 v2 v3) := by
  unfold Mod_writesAhead_4_b
  refine s_iload_n C rfl dX11_writesAhead_4 ?_
  refine s_iload_n C rfl dX11_writesAhead_5 ?_
  refine s_icmp_ge C 33 (by decide) dX11_writesAhead_6 ?_ ?_
  · refine s_exit ?_
    refine s_iload_n C rfl dX11_writesAhead_33 ?_
    exact s_ireti hR dX11_writesAhead_34
  · refine s_iload_n C rfl dX11_writesAhead_9 ?_
    refine s_aload_n C rfl dX11_writesAhead_10 ?_
    refine s_iload_n C rfl dX11_writesAhead_11 ?_
    refine s_wI C hV lv_X11_120 (st := [.int v2]) (met_Mod_isWrite v0 v3) rf_Mod_writesAhead_Mod_isWrite rfl rfl (Nat.le_of_ble_eq_true rfl) dX11_writesAhead_12 (fun r3 => ?_)
    refine s_ite (g := fun z => Mod_writesAhead_25 v0 v1 v3 v2 z) ?_
    refine s_if_eq C 24 (by decide) dX11_writesAhead_15 ?_ ?_
    · refine s_iconst C (0 : Int32) (by decide) dX11_writesAhead_24 ?_
      exact s_weak [0, 1, 3] rfl (sm_Mod_writesAhead_25 C hV hR v0 v1 v3 v2 (0 : Int32))
    · refine s_iconst C (1 : Int32) (by decide) dX11_writesAhead_18 ?_
      refine s_iload_n C rfl dX11_writesAhead_19 ?_
      refine s_ishl C dX11_writesAhead_20 ?_
      refine s_goto C 25 (by decide) dX11_writesAhead_21 ?_
      exact s_weak [0, 1, 3] rfl (sm_Mod_writesAhead_25 C hV hR v0 v1 v3 v2 ((1 : Int32) <<< (v3 &&& 31)))
set_option maxRecDepth 20000 in
theorem sm_Mod_writesAhead_4 {G : GT} {ad : Nat → Nat} {K : Int32 → Dm → Prop} (C : Cx G rm_Mod_writesAhead cX11_writesAhead 4 RX11) (hV : Vx G rm_Mod_writesAhead ad ZF (0, 0)) (hR : RtI G rm_Mod_writesAhead ad ZF (0, 0) cX11_writesAhead .int K) (v0 : Nat) (v1 : Int32) (s : (Int32 × Int32)) : Sm G rm_Mod_writesAhead ad ZF (0, 0) K 4 ((fun (s : (Int32 × Int32)) => [(0, .ref v0), (1, .int v1), (2, .int s.1), (3, .int s.2)]) s) [] (Mod_writesAhead_4 v0 v1 s) :=
  s_loop (en := (fun (s : (Int32 × Int32)) => [(0, .ref v0), (1, .int v1), (2, .int s.1), (3, .int s.2)])) (fun s => sm_Mod_writesAhead_4_b C hV hR v0 v1 s.1 s.2) s
set_option maxRecDepth 20000 in
theorem sm_Mod_writesAhead {G : GT} {ad : Nat → Nat} {K : Int32 → Dm → Prop} (C : Cx G rm_Mod_writesAhead cX11_writesAhead 4 RX11) (hV : Vx G rm_Mod_writesAhead ad ZF (0, 0)) (hR : RtI G rm_Mod_writesAhead ad ZF (0, 0) cX11_writesAhead .int K) (v0 : Nat) (v1 : Int32) : Sm G rm_Mod_writesAhead ad ZF (0, 0) K 0 [(0, .ref v0), (1, .int v1)] [] (Mod_writesAhead v0 v1) := by
  unfold Mod_writesAhead
  refine s_iconst C (0 : Int32) (by decide) dX11_writesAhead_0 ?_
  refine s_leti (fun x1 => ?_)
  refine s_istore_n C (L' := [(2, .int x1), (0, .ref v0), (1, .int v1)]) (by decide) rfl dX11_writesAhead_1 ?_
  refine s_iconst C (0 : Int32) (by decide) dX11_writesAhead_2 ?_
  refine s_leti (fun x2 => ?_)
  refine s_istore_n C (L' := [(3, .int x2), (2, .int x1), (0, .ref v0), (1, .int v1)]) (by decide) rfl dX11_writesAhead_3 ?_
  exact s_weak [0, 1, 2, 3] rfl (sm_Mod_writesAhead_4 C hV hR v0 v1 (x1, x2))
set_option maxRecDepth 20000 in
theorem met_Mod_writesAhead (v0 : Nat) (v1 : Int32) : MI ZF yX11_writesAhead cX11_writesAhead 4 .int rm_Mod_writesAhead [.ref v0, .int v1] (Mod_writesAhead v0 v1) :=
  mi_of (L0 := [(0, .ref v0), (1, .int v1)]) (by decide +kernel) (Nat.le_of_ble_eq_true rfl) rfl (fun G ad K C hV hR => sm_Mod_writesAhead C hV hR v0 v1)

noncomputable def Mod_told_5_b (v0 : Nat) (v1 : Int64) (v3 : Int32) : MM ((Int64 × Int32) ⊕ Int64) :=
  if v3 < 0 then
  mr (
  mp v1)
  else
  mb (gR ZF 12 16 v0) fun x3 =>
  mb (aI ZF 23 x3 v3) fun x4 =>
  ml (((100 : Int64) * v1) + (x4.toInt64)) fun x5 =>
  ml (v3 + (-1)) fun x6 =>
  mp (.inl (x5, x6))
noncomputable def Mod_told_5 (v0 : Nat) (s : (Int64 × Int32)) : MM Int64 := lo (fun (s : (Int64 × Int32)) => Mod_told_5_b v0 s.1 s.2) s
noncomputable def Mod_told (v0 : Nat) : MM Int64 :=
  ml (0 : Int64) fun x1 =>
  ml (7 : Int32) fun x2 =>
  Mod_told_5 v0 (x1, x2)
set_option maxRecDepth 20000 in
theorem sm_Mod_told_5_b {G : GT} {ad : Nat → Nat} {K : Int64 → Dm → Prop} (C : Cx G rm_Mod_told cX11_told 4 RX11) (hV : Vx G rm_Mod_told ad ZF (0, 0)) (hR : RtL G rm_Mod_told ad ZF (0, 0) cX11_told K) (v0 : Nat) (v1 : Int64) (v3 : Int32) : Sm G rm_Mod_told ad ZF (0, 0) (lpK G rm_Mod_told ad ZF (0, 0) 5 (fun (s : (Int64 × Int32)) => [(0, .ref v0), (1, .long s.1), (3, .int s.2)]) K) 5 [(0, .ref v0), (1, .long v1), (3, .int v3)] [] (Mod_told_5_b v0 v1 v3) := by
  unfold Mod_told_5_b
  refine s_iload_n C rfl dX11_told_5 ?_
  refine s_if_lt C 29 (by decide) dX11_told_6 ?_ ?_
  · refine s_exit ?_
    refine s_lload_n C rfl dX11_told_29 ?_
    exact s_lret hR dX11_told_30
  · refine s_ldc2 C kl_X11_114 dX11_told_9 ?_
    refine s_lload_n C rfl dX11_told_12 ?_
    refine s_lmul C dX11_told_13 ?_
    refine s_aload_n C rfl dX11_told_14 ?_
    refine s_getR C hV fl_X11_46 (fun _ _ _ => rfl) dX11_told_15 (fun x3 => ?_)
    refine s_iload_n C rfl dX11_told_18 ?_
    refine s_iaload C hV dX11_told_19 (fun x4 => ?_)
    refine s_i2l C dX11_told_20 ?_
    refine s_ladd C dX11_told_21 ?_
    refine s_letl (fun x5 => ?_)
    refine s_lstore_n C (L' := [(1, .long x5), (0, .ref v0), (3, .int v3)]) (by decide) rfl dX11_told_22 ?_
    refine s_iinc C (L' := fun x6 => [(3, .int x6), (1, .long x5), (0, .ref v0)]) (-1) (by decide) rfl (by decide) (fun _ => rfl) dX11_told_23 (fun x6 => ?_)
    refine s_goto C 5 (by decide) dX11_told_26 ?_
    exact s_back [0, 1, 3] (x5, x6) rfl
set_option maxRecDepth 20000 in
theorem sm_Mod_told_5 {G : GT} {ad : Nat → Nat} {K : Int64 → Dm → Prop} (C : Cx G rm_Mod_told cX11_told 4 RX11) (hV : Vx G rm_Mod_told ad ZF (0, 0)) (hR : RtL G rm_Mod_told ad ZF (0, 0) cX11_told K) (v0 : Nat) (s : (Int64 × Int32)) : Sm G rm_Mod_told ad ZF (0, 0) K 5 ((fun (s : (Int64 × Int32)) => [(0, .ref v0), (1, .long s.1), (3, .int s.2)]) s) [] (Mod_told_5 v0 s) :=
  s_loop (en := (fun (s : (Int64 × Int32)) => [(0, .ref v0), (1, .long s.1), (3, .int s.2)])) (fun s => sm_Mod_told_5_b C hV hR v0 s.1 s.2) s
set_option maxRecDepth 20000 in
theorem sm_Mod_told {G : GT} {ad : Nat → Nat} {K : Int64 → Dm → Prop} (C : Cx G rm_Mod_told cX11_told 4 RX11) (hV : Vx G rm_Mod_told ad ZF (0, 0)) (hR : RtL G rm_Mod_told ad ZF (0, 0) cX11_told K) (v0 : Nat) : Sm G rm_Mod_told ad ZF (0, 0) K 0 [(0, .ref v0)] [] (Mod_told v0) := by
  unfold Mod_told
  refine s_lconst C (0 : Int64) (by decide) dX11_told_0 ?_
  refine s_letl (fun x1 => ?_)
  refine s_lstore_n C (L' := [(1, .long x1), (0, .ref v0)]) (by decide) rfl dX11_told_1 ?_
  refine s_bipush C (7 : Int32) (by decide) dX11_told_2 ?_
  refine s_leti (fun x2 => ?_)
  refine s_istore_n C (L' := [(3, .int x2), (1, .long x1), (0, .ref v0)]) (by decide) rfl dX11_told_4 ?_
  exact s_weak [0, 1, 3] rfl (sm_Mod_told_5 C hV hR v0 (x1, x2))
set_option maxRecDepth 20000 in
theorem met_Mod_told (v0 : Nat) : ML ZF yX11_told cX11_told 4 rm_Mod_told [.ref v0] (Mod_told v0) :=
  ml_of (L0 := [(0, .ref v0)]) (by decide +kernel) (Nat.le_of_ble_eq_true rfl) rfl (fun G ad K C hV hR => sm_Mod_told C hV hR v0)

noncomputable def Mod_plateOf_103 (v0 : Nat) (v1 : Int32) (v2 : Int32) : MM (Int32 ⊕ Int64) :=
  ml (v2 + (1 : Int32)) fun x5 =>
  mp (.inl x5)
noncomputable def Mod_plateOf_28_b (v0 : Nat) (v1 : Int32) (v2 : Int32) : MM (Int32 ⊕ Int64) :=
  mb (gI ZF 12 1 v0) fun x3 =>
  if x3 ≤ v2 then
  mr (
  mb (vc ZF 12 v0 (Mod_told v0)) fun r4 =>
  mp r4)
  else
  if ((v1 >>> (v2 &&& 31)) &&& (1 : Int32)) = (1 : Int32) then
  mb (gR ZF 12 16 v0) fun x6 =>
  mb (gR ZF 12 3 v0) fun x7 =>
  mb (aI ZF 23 x7 ((4 : Int32) * v2)) fun x8 =>
  mb (gR ZF 12 3 v0) fun x9 =>
  mb (aI ZF 23 x9 (((4 : Int32) * v2) + (1 : Int32))) fun x10 =>
  mb (sI ZF x6 x8 x10) fun _ =>
  mb (gR ZF 12 2 v0) fun x11 =>
  mb (aI ZF 23 x11 v2) fun x12 =>
  if x12 = (1 : Int32) then
  mb (gR ZF 12 16 v0) fun x13 =>
  mb (gR ZF 12 3 v0) fun x14 =>
  mb (aI ZF 23 x14 (((4 : Int32) * v2) + (2 : Int32))) fun x15 =>
  mb (gR ZF 12 3 v0) fun x16 =>
  mb (aI ZF 23 x16 (((4 : Int32) * v2) + (3 : Int32))) fun x17 =>
  mb (sI ZF x13 x15 x17) fun _ =>
  Mod_plateOf_103 v0 v1 v2
  else
  Mod_plateOf_103 v0 v1 v2
  else
  Mod_plateOf_103 v0 v1 v2
noncomputable def Mod_plateOf_28 (v0 : Nat) (v1 : Int32) (s : Int32) : MM Int64 := lo (fun (s : Int32) => Mod_plateOf_28_b v0 v1 s) s
noncomputable def Mod_plateOf_2_b (v0 : Nat) (v1 : Int32) (v2 : Int32) : MM (Int32 ⊕ Int64) :=
  if (8 : Int32) ≤ v2 then
  mr (
  ml (0 : Int32) fun x2 =>
  Mod_plateOf_28 v0 v1 x2)
  else
  mb (gR ZF 12 16 v0) fun x18 =>
  mb (gR ZF 12 0 v0) fun x19 =>
  mb (aI ZF 23 x19 v2) fun x20 =>
  mb (sI ZF x18 v2 x20) fun _ =>
  ml (v2 + (1 : Int32)) fun x21 =>
  mp (.inl x21)
noncomputable def Mod_plateOf_2 (v0 : Nat) (v1 : Int32) (s : Int32) : MM Int64 := lo (fun (s : Int32) => Mod_plateOf_2_b v0 v1 s) s
noncomputable def Mod_plateOf (v0 : Nat) (v1 : Int32) : MM Int64 :=
  ml (0 : Int32) fun x1 =>
  Mod_plateOf_2 v0 v1 x1
set_option maxRecDepth 20000 in
theorem sm_Mod_plateOf_103 {G : GT} {ad : Nat → Nat} {K : Int64 → Dm → Prop} (C : Cx G rm_Mod_plateOf cX11_plateOf 3 RX11) (hV : Vx G rm_Mod_plateOf ad ZF (0, 0)) (hR : RtL G rm_Mod_plateOf ad ZF (0, 0) cX11_plateOf K) (v0 : Nat) (v1 : Int32) (v2 : Int32) : Sm G rm_Mod_plateOf ad ZF (0, 0) (lpK G rm_Mod_plateOf ad ZF (0, 0) 28 (fun (s : Int32) => [(0, .ref v0), (1, .int v1), (2, .int s)]) K) 103 [(0, .ref v0), (1, .int v1), (2, .int v2)] [] (Mod_plateOf_103 v0 v1 v2) := by
  unfold Mod_plateOf_103
  refine s_iinc C (L' := fun x5 => [(2, .int x5), (0, .ref v0), (1, .int v1)]) (1 : Int32) (by decide) rfl (by decide) (fun _ => rfl) dX11_plateOf_103 (fun x5 => ?_)
  refine s_goto C 28 (by decide) dX11_plateOf_106 ?_
  exact s_back [0, 1, 2] x5 rfl
set_option maxRecDepth 20000 in
theorem sm_Mod_plateOf_28_b {G : GT} {ad : Nat → Nat} {K : Int64 → Dm → Prop} (C : Cx G rm_Mod_plateOf cX11_plateOf 3 RX11) (hV : Vx G rm_Mod_plateOf ad ZF (0, 0)) (hR : RtL G rm_Mod_plateOf ad ZF (0, 0) cX11_plateOf K) (v0 : Nat) (v1 : Int32) (v2 : Int32) : Sm G rm_Mod_plateOf ad ZF (0, 0) (lpK G rm_Mod_plateOf ad ZF (0, 0) 28 (fun (s : Int32) => [(0, .ref v0), (1, .int v1), (2, .int s)]) K) 28 [(0, .ref v0), (1, .int v1), (2, .int v2)] [] (Mod_plateOf_28_b v0 v1 v2) := by
  unfold Mod_plateOf_28_b
  refine s_iload_n C rfl dX11_plateOf_28 ?_
  refine s_aload_n C rfl dX11_plateOf_29 ?_
  refine s_getI C hV fl_X11_104 (fun _ _ _ => rfl) dX11_plateOf_30 (fun x3 => ?_)
  refine s_icmp_ge C 109 (by decide) dX11_plateOf_33 ?_ ?_
  · refine s_exit ?_
    refine s_aload_n C rfl dX11_plateOf_109 ?_
    refine s_wL C hV lv_X11_116 (st := []) (met_Mod_told v0) rf_Mod_plateOf_Mod_told rfl rfl (Nat.le_of_ble_eq_true rfl) dX11_plateOf_110 (fun r4 => ?_)
    exact s_lret hR dX11_plateOf_113
  · refine s_iload_n C rfl dX11_plateOf_36 ?_
    refine s_iload_n C rfl dX11_plateOf_37 ?_
    refine s_ishr C dX11_plateOf_38 ?_
    refine s_iconst C (1 : Int32) (by decide) dX11_plateOf_39 ?_
    refine s_iand C dX11_plateOf_40 ?_
    refine s_iconst C (1 : Int32) (by decide) dX11_plateOf_41 ?_
    refine s_icmp_ne C 103 (by decide) dX11_plateOf_42 ?_ ?_
    · exact s_weak [0, 1, 2] rfl (sm_Mod_plateOf_103 C hV hR v0 v1 v2)
    · refine s_aload_n C rfl dX11_plateOf_45 ?_
      refine s_getR C hV fl_X11_46 (fun _ _ _ => rfl) dX11_plateOf_46 (fun x6 => ?_)
      refine s_aload_n C rfl dX11_plateOf_49 ?_
      refine s_getR C hV fl_X11_16 (fun _ _ _ => rfl) dX11_plateOf_50 (fun x7 => ?_)
      refine s_iconst C (4 : Int32) (by decide) dX11_plateOf_53 ?_
      refine s_iload_n C rfl dX11_plateOf_54 ?_
      refine s_imul C dX11_plateOf_55 ?_
      refine s_iaload C hV dX11_plateOf_56 (fun x8 => ?_)
      refine s_aload_n C rfl dX11_plateOf_57 ?_
      refine s_getR C hV fl_X11_16 (fun _ _ _ => rfl) dX11_plateOf_58 (fun x9 => ?_)
      refine s_iconst C (4 : Int32) (by decide) dX11_plateOf_61 ?_
      refine s_iload_n C rfl dX11_plateOf_62 ?_
      refine s_imul C dX11_plateOf_63 ?_
      refine s_iconst C (1 : Int32) (by decide) dX11_plateOf_64 ?_
      refine s_iadd C dX11_plateOf_65 ?_
      refine s_iaload C hV dX11_plateOf_66 (fun x10 => ?_)
      refine s_iastore C hV dX11_plateOf_67 ?_
      refine s_aload_n C rfl dX11_plateOf_68 ?_
      refine s_getR C hV fl_X11_13 (fun _ _ _ => rfl) dX11_plateOf_69 (fun x11 => ?_)
      refine s_iload_n C rfl dX11_plateOf_72 ?_
      refine s_iaload C hV dX11_plateOf_73 (fun x12 => ?_)
      refine s_iconst C (1 : Int32) (by decide) dX11_plateOf_74 ?_
      refine s_icmp_ne C 103 (by decide) dX11_plateOf_75 ?_ ?_
      · exact s_weak [0, 1, 2] rfl (sm_Mod_plateOf_103 C hV hR v0 v1 v2)
      · refine s_aload_n C rfl dX11_plateOf_78 ?_
        refine s_getR C hV fl_X11_46 (fun _ _ _ => rfl) dX11_plateOf_79 (fun x13 => ?_)
        refine s_aload_n C rfl dX11_plateOf_82 ?_
        refine s_getR C hV fl_X11_16 (fun _ _ _ => rfl) dX11_plateOf_83 (fun x14 => ?_)
        refine s_iconst C (4 : Int32) (by decide) dX11_plateOf_86 ?_
        refine s_iload_n C rfl dX11_plateOf_87 ?_
        refine s_imul C dX11_plateOf_88 ?_
        refine s_iconst C (2 : Int32) (by decide) dX11_plateOf_89 ?_
        refine s_iadd C dX11_plateOf_90 ?_
        refine s_iaload C hV dX11_plateOf_91 (fun x15 => ?_)
        refine s_aload_n C rfl dX11_plateOf_92 ?_
        refine s_getR C hV fl_X11_16 (fun _ _ _ => rfl) dX11_plateOf_93 (fun x16 => ?_)
        refine s_iconst C (4 : Int32) (by decide) dX11_plateOf_96 ?_
        refine s_iload_n C rfl dX11_plateOf_97 ?_
        refine s_imul C dX11_plateOf_98 ?_
        refine s_iconst C (3 : Int32) (by decide) dX11_plateOf_99 ?_
        refine s_iadd C dX11_plateOf_100 ?_
        refine s_iaload C hV dX11_plateOf_101 (fun x17 => ?_)
        refine s_iastore C hV dX11_plateOf_102 ?_
        exact s_weak [0, 1, 2] rfl (sm_Mod_plateOf_103 C hV hR v0 v1 v2)
set_option maxRecDepth 20000 in
theorem sm_Mod_plateOf_28 {G : GT} {ad : Nat → Nat} {K : Int64 → Dm → Prop} (C : Cx G rm_Mod_plateOf cX11_plateOf 3 RX11) (hV : Vx G rm_Mod_plateOf ad ZF (0, 0)) (hR : RtL G rm_Mod_plateOf ad ZF (0, 0) cX11_plateOf K) (v0 : Nat) (v1 : Int32) (s : Int32) : Sm G rm_Mod_plateOf ad ZF (0, 0) K 28 ((fun (s : Int32) => [(0, .ref v0), (1, .int v1), (2, .int s)]) s) [] (Mod_plateOf_28 v0 v1 s) :=
  s_loop (en := (fun (s : Int32) => [(0, .ref v0), (1, .int v1), (2, .int s)])) (fun s => sm_Mod_plateOf_28_b C hV hR v0 v1 s) s
set_option maxRecDepth 20000 in
theorem sm_Mod_plateOf_2_b {G : GT} {ad : Nat → Nat} {K : Int64 → Dm → Prop} (C : Cx G rm_Mod_plateOf cX11_plateOf 3 RX11) (hV : Vx G rm_Mod_plateOf ad ZF (0, 0)) (hR : RtL G rm_Mod_plateOf ad ZF (0, 0) cX11_plateOf K) (v0 : Nat) (v1 : Int32) (v2 : Int32) : Sm G rm_Mod_plateOf ad ZF (0, 0) (lpK G rm_Mod_plateOf ad ZF (0, 0) 2 (fun (s : Int32) => [(0, .ref v0), (1, .int v1), (2, .int s)]) K) 2 [(0, .ref v0), (1, .int v1), (2, .int v2)] [] (Mod_plateOf_2_b v0 v1 v2) := by
  unfold Mod_plateOf_2_b
  refine s_iload_n C rfl dX11_plateOf_2 ?_
  refine s_bipush C (8 : Int32) (by decide) dX11_plateOf_3 ?_
  refine s_icmp_ge C 26 (by decide) dX11_plateOf_5 ?_ ?_
  · refine s_exit ?_
    refine s_iconst C (0 : Int32) (by decide) dX11_plateOf_26 ?_
    refine s_leti (fun x2 => ?_)
    refine s_istore_n C (L' := [(2, .int x2), (0, .ref v0), (1, .int v1)]) (by decide) rfl dX11_plateOf_27 ?_
    exact s_weak [0, 1, 2] rfl (sm_Mod_plateOf_28 C hV hR v0 v1 x2)
  · refine s_aload_n C rfl dX11_plateOf_8 ?_
    refine s_getR C hV fl_X11_46 (fun _ _ _ => rfl) dX11_plateOf_9 (fun x18 => ?_)
    refine s_iload_n C rfl dX11_plateOf_12 ?_
    refine s_aload_n C rfl dX11_plateOf_13 ?_
    refine s_getR C hV fl_X11_7 (fun _ _ _ => rfl) dX11_plateOf_14 (fun x19 => ?_)
    refine s_iload_n C rfl dX11_plateOf_17 ?_
    refine s_iaload C hV dX11_plateOf_18 (fun x20 => ?_)
    refine s_iastore C hV dX11_plateOf_19 ?_
    refine s_iinc C (L' := fun x21 => [(2, .int x21), (0, .ref v0), (1, .int v1)]) (1 : Int32) (by decide) rfl (by decide) (fun _ => rfl) dX11_plateOf_20 (fun x21 => ?_)
    refine s_goto C 2 (by decide) dX11_plateOf_23 ?_
    exact s_back [0, 1, 2] x21 rfl
set_option maxRecDepth 20000 in
theorem sm_Mod_plateOf_2 {G : GT} {ad : Nat → Nat} {K : Int64 → Dm → Prop} (C : Cx G rm_Mod_plateOf cX11_plateOf 3 RX11) (hV : Vx G rm_Mod_plateOf ad ZF (0, 0)) (hR : RtL G rm_Mod_plateOf ad ZF (0, 0) cX11_plateOf K) (v0 : Nat) (v1 : Int32) (s : Int32) : Sm G rm_Mod_plateOf ad ZF (0, 0) K 2 ((fun (s : Int32) => [(0, .ref v0), (1, .int v1), (2, .int s)]) s) [] (Mod_plateOf_2 v0 v1 s) :=
  s_loop (en := (fun (s : Int32) => [(0, .ref v0), (1, .int v1), (2, .int s)])) (fun s => sm_Mod_plateOf_2_b C hV hR v0 v1 s) s
set_option maxRecDepth 20000 in
theorem sm_Mod_plateOf {G : GT} {ad : Nat → Nat} {K : Int64 → Dm → Prop} (C : Cx G rm_Mod_plateOf cX11_plateOf 3 RX11) (hV : Vx G rm_Mod_plateOf ad ZF (0, 0)) (hR : RtL G rm_Mod_plateOf ad ZF (0, 0) cX11_plateOf K) (v0 : Nat) (v1 : Int32) : Sm G rm_Mod_plateOf ad ZF (0, 0) K 0 [(0, .ref v0), (1, .int v1)] [] (Mod_plateOf v0 v1) := by
  unfold Mod_plateOf
  refine s_iconst C (0 : Int32) (by decide) dX11_plateOf_0 ?_
  refine s_leti (fun x1 => ?_)
  refine s_istore_n C (L' := [(2, .int x1), (0, .ref v0), (1, .int v1)]) (by decide) rfl dX11_plateOf_1 ?_
  exact s_weak [0, 1, 2] rfl (sm_Mod_plateOf_2 C hV hR v0 v1 x1)
set_option maxRecDepth 20000 in
theorem met_Mod_plateOf (v0 : Nat) (v1 : Int32) : ML ZF yX11_plateOf cX11_plateOf 3 rm_Mod_plateOf [.ref v0, .int v1] (Mod_plateOf v0 v1) :=
  ml_of (L0 := [(0, .ref v0), (1, .int v1)]) (by decide +kernel) (Nat.le_of_ble_eq_true rfl) rfl (fun G ad K C hV hR => sm_Mod_plateOf C hV hR v0 v1)

noncomputable def Mod_end (v0 : Nat) : MM Int64 :=
  mb (gI ZF 12 1 v0) fun x1 =>
  mb (vc ZF 12 v0 (Mod_writesAhead v0 x1)) fun r2 =>
  mb (vc ZF 12 v0 (Mod_plateOf v0 r2)) fun r3 =>
  mp r3
set_option maxRecDepth 20000 in
theorem sm_Mod_end {G : GT} {ad : Nat → Nat} {K : Int64 → Dm → Prop} (C : Cx G rm_Mod_end cX11_end 1 RX11) (hV : Vx G rm_Mod_end ad ZF (0, 0)) (hR : RtL G rm_Mod_end ad ZF (0, 0) cX11_end K) (v0 : Nat) : Sm G rm_Mod_end ad ZF (0, 0) K 0 [(0, .ref v0)] [] (Mod_end v0) := by
  unfold Mod_end
  refine s_aload_n C rfl dX11_end_0 ?_
  refine s_aload_n C rfl dX11_end_1 ?_
  refine s_aload_n C rfl dX11_end_2 ?_
  refine s_getI C hV fl_X11_104 (fun _ _ _ => rfl) dX11_end_3 (fun x1 => ?_)
  refine s_wI C hV lv_X11_123 (st := [.ref v0]) (met_Mod_writesAhead v0 x1) rf_Mod_end_Mod_writesAhead rfl rfl (Nat.le_of_ble_eq_true rfl) dX11_end_6 (fun r2 => ?_)
  refine s_wL C hV lv_X11_127 (st := []) (met_Mod_plateOf v0 r2) rf_Mod_end_Mod_plateOf rfl rfl (Nat.le_of_ble_eq_true rfl) dX11_end_9 (fun r3 => ?_)
  exact s_lret hR dX11_end_12
set_option maxRecDepth 20000 in
theorem met_Mod_end (v0 : Nat) : ML ZF yX11_end cX11_end 1 rm_Mod_end [.ref v0] (Mod_end v0) :=
  ml_of (L0 := [(0, .ref v0)]) (by decide +kernel) (Nat.le_of_ble_eq_true rfl) rfl (fun G ad K C hV hR => sm_Mod_end C hV hR v0)

noncomputable def Mod_letters_102_b (v0 : Nat) (v1 : Int64) (v3 : Int32) (v5 : Int32) : MM (Int32 ⊕ Int32) :=
  if v3 ≤ v5 then
  mr (
  mb (gI ZF 12 4 v0) fun x6 =>
  mb (pI ZF 12 4 v0 (x6 + v3)) fun _ =>
  mb (gI ZF 12 4 v0) fun x7 =>
  mp x7)
  else
  mb (gR ZF 12 5 v0) fun x8 =>
  mb (gI ZF 12 4 v0) fun x9 =>
  mb (sB ZF x8 (x9 + v5) (((v1 >>> ((((8 : Int32) * v5)).toInt64 &&& 63)).toInt32).toInt8.toInt32)) fun _ =>
  ml (v5 + (1 : Int32)) fun x10 =>
  mp (.inl x10)
noncomputable def Mod_letters_102 (v0 : Nat) (v1 : Int64) (v3 : Int32) (s : Int32) : MM Int32 := lo (fun (s : Int32) => Mod_letters_102_b v0 v1 v3 s) s
noncomputable def Mod_letters_77 (v0 : Nat) (v1 : Int64) (v4 : Int32) (v5 : Int32) (t0 : Int32) (t1 : Int32) : MM ((Int32 × Int32 × Int32) ⊕ Int32) :=
  ml (t0 + t1) fun x12 =>
  ml (v5 + (1 : Int32)) fun x13 =>
  mp (.inl (x12, v4, x13))
noncomputable def Mod_letters_64 (v0 : Nat) (v1 : Int64) (v3 : Int32) (v5 : Int32) (v6 : Int32) (t0 : Int32) : MM ((Int32 × Int32 × Int32) ⊕ Int32) :=
  Mod_letters_77 v0 v1 t0 v5 v3 (if v6 = 0 then (0 : Int32) else (1 : Int32))
noncomputable def Mod_letters_59 (v0 : Nat) (v1 : Int64) (v3 : Int32) (v5 : Int32) (v6 : Int32) : MM ((Int32 × Int32 × Int32) ⊕ Int32) :=
  Mod_letters_64 v0 v1 v3 v5 v6 (1 : Int32)
noncomputable def Mod_letters_49 (v0 : Nat) (v1 : Int64) (v3 : Int32) (v4 : Int32) (v5 : Int32) (v6 : Int32) : MM ((Int32 × Int32 × Int32) ⊕ Int32) :=
  if v4 = 0 then
  if v6 = 0 then
  Mod_letters_59 v0 v1 v3 v5 v6
  else
  Mod_letters_64 v0 v1 v3 v5 v6 (0 : Int32)
  else
  Mod_letters_59 v0 v1 v3 v5 v6
noncomputable def Mod_letters_8_b (v0 : Nat) (v1 : Int64) (v3 : Int32) (v4 : Int32) (v5 : Int32) : MM ((Int32 × Int32 × Int32) ⊕ Int32) :=
  if (8 : Int32) ≤ v5 then
  mr (
  mb (gI ZF 12 4 v0) fun x4 =>
  if (x4 + v3) ≤ (60 : Int32) then
  ml (0 : Int32) fun x5 =>
  Mod_letters_102 v0 v1 v3 x5
  else
  mp ((-104) : Int32))
  else
  ml (((v1 >>> ((((8 : Int32) * v5)).toInt64 &&& 63)) &&& (255 : Int64)).toInt32) fun x11 =>
  if (126 : Int32) < x11 then
  mr (
  mp ((-102) : Int32))
  else
  if v4 = 0 then
  Mod_letters_49 v0 v1 v3 v4 v5 x11
  else
  if x11 = 0 then
  Mod_letters_49 v0 v1 v3 v4 v5 x11
  else
  mr (
  mp ((-102) : Int32))
noncomputable def Mod_letters_8 (v0 : Nat) (v1 : Int64) (s : (Int32 × Int32 × Int32)) : MM Int32 := lo (fun (s : (Int32 × Int32 × Int32)) => Mod_letters_8_b v0 v1 s.1 s.2.1 s.2.2) s
noncomputable def Mod_letters (v0 : Nat) (v1 : Int64) : MM Int32 :=
  ml (0 : Int32) fun x1 =>
  ml (0 : Int32) fun x2 =>
  ml (0 : Int32) fun x3 =>
  Mod_letters_8 v0 v1 (x1, x2, x3)
set_option maxRecDepth 20000 in
theorem sm_Mod_letters_102_b {G : GT} {ad : Nat → Nat} {K : Int32 → Dm → Prop} (C : Cx G rm_Mod_letters cX11_letters 7 RX11) (hV : Vx G rm_Mod_letters ad ZF (0, 0)) (hR : RtI G rm_Mod_letters ad ZF (0, 0) cX11_letters .int K) (v0 : Nat) (v1 : Int64) (v3 : Int32) (v5 : Int32) : Sm G rm_Mod_letters ad ZF (0, 0) (lpK G rm_Mod_letters ad ZF (0, 0) 102 (fun (s : Int32) => [(0, .ref v0), (1, .long v1), (3, .int v3), (5, .int s)]) K) 102 [(0, .ref v0), (1, .long v1), (3, .int v3), (5, .int v5)] [] (Mod_letters_102_b v0 v1 v3 v5) := by
  unfold Mod_letters_102_b
  refine s_iload C rfl dX11_letters_102 ?_
  refine s_iload_n C rfl dX11_letters_104 ?_
  refine s_icmp_ge C 135 (by decide) dX11_letters_105 ?_ ?_
  · refine s_exit ?_
    refine s_aload_n C rfl dX11_letters_135 ?_
    refine s_dupr C dX11_letters_136 ?_
    refine s_getI C hV fl_X11_133 (fun _ _ _ => rfl) dX11_letters_137 (fun x6 => ?_)
    refine s_iload_n C rfl dX11_letters_140 ?_
    refine s_iadd C dX11_letters_141 ?_
    refine s_putI C hV fw_X11_133 rfl dX11_letters_142 ?_
    refine s_aload_n C rfl dX11_letters_145 ?_
    refine s_getI C hV fl_X11_133 (fun _ _ _ => rfl) dX11_letters_146 (fun x7 => ?_)
    exact s_ireti hR dX11_letters_149
  · refine s_aload_n C rfl dX11_letters_108 ?_
    refine s_getR C hV fl_X11_19 (fun _ _ _ => rfl) dX11_letters_109 (fun x8 => ?_)
    refine s_aload_n C rfl dX11_letters_112 ?_
    refine s_getI C hV fl_X11_133 (fun _ _ _ => rfl) dX11_letters_113 (fun x9 => ?_)
    refine s_iload C rfl dX11_letters_116 ?_
    refine s_iadd C dX11_letters_118 ?_
    refine s_lload_n C rfl dX11_letters_119 ?_
    refine s_bipush C (8 : Int32) (by decide) dX11_letters_120 ?_
    refine s_iload C rfl dX11_letters_122 ?_
    refine s_imul C dX11_letters_124 ?_
    refine s_lshr C dX11_letters_125 ?_
    refine s_l2i C dX11_letters_126 ?_
    refine s_i2b C dX11_letters_127 ?_
    refine s_bastore C hV dX11_letters_128 ?_
    refine s_iinc C (L' := fun x10 => [(5, .int x10), (0, .ref v0), (1, .long v1), (3, .int v3)]) (1 : Int32) (by decide) rfl (by decide) (fun _ => rfl) dX11_letters_129 (fun x10 => ?_)
    refine s_goto C 102 (by decide) dX11_letters_132 ?_
    exact s_back [0, 1, 3, 5] x10 rfl
set_option maxRecDepth 20000 in
theorem sm_Mod_letters_102 {G : GT} {ad : Nat → Nat} {K : Int32 → Dm → Prop} (C : Cx G rm_Mod_letters cX11_letters 7 RX11) (hV : Vx G rm_Mod_letters ad ZF (0, 0)) (hR : RtI G rm_Mod_letters ad ZF (0, 0) cX11_letters .int K) (v0 : Nat) (v1 : Int64) (v3 : Int32) (s : Int32) : Sm G rm_Mod_letters ad ZF (0, 0) K 102 ((fun (s : Int32) => [(0, .ref v0), (1, .long v1), (3, .int v3), (5, .int s)]) s) [] (Mod_letters_102 v0 v1 v3 s) :=
  s_loop (en := (fun (s : Int32) => [(0, .ref v0), (1, .long v1), (3, .int v3), (5, .int s)])) (fun s => sm_Mod_letters_102_b C hV hR v0 v1 v3 s) s
set_option maxRecDepth 20000 in
theorem sm_Mod_letters_77 {G : GT} {ad : Nat → Nat} {K : Int32 → Dm → Prop} (C : Cx G rm_Mod_letters cX11_letters 7 RX11) (hV : Vx G rm_Mod_letters ad ZF (0, 0)) (hR : RtI G rm_Mod_letters ad ZF (0, 0) cX11_letters .int K) (v0 : Nat) (v1 : Int64) (v4 : Int32) (v5 : Int32) (t0 : Int32) (t1 : Int32) : Sm G rm_Mod_letters ad ZF (0, 0) (lpK G rm_Mod_letters ad ZF (0, 0) 8 (fun (s : (Int32 × Int32 × Int32)) => [(0, .ref v0), (1, .long v1), (3, .int s.1), (4, .int s.2.1), (5, .int s.2.2)]) K) 77 [(0, .ref v0), (1, .long v1), (4, .int v4), (5, .int v5)] [.int t1, .int t0] (Mod_letters_77 v0 v1 v4 v5 t0 t1) := by
  unfold Mod_letters_77
  refine s_iadd C dX11_letters_77 ?_
  refine s_leti (fun x12 => ?_)
  refine s_istore_n C (L' := [(3, .int x12), (0, .ref v0), (1, .long v1), (4, .int v4), (5, .int v5)]) (by decide) rfl dX11_letters_78 ?_
  refine s_iinc C (L' := fun x13 => [(5, .int x13), (3, .int x12), (0, .ref v0), (1, .long v1), (4, .int v4)]) (1 : Int32) (by decide) rfl (by decide) (fun _ => rfl) dX11_letters_79 (fun x13 => ?_)
  refine s_goto C 8 (by decide) dX11_letters_82 ?_
  exact s_back [0, 1, 3, 4, 5] (x12, v4, x13) rfl
set_option maxRecDepth 20000 in
theorem sm_Mod_letters_64 {G : GT} {ad : Nat → Nat} {K : Int32 → Dm → Prop} (C : Cx G rm_Mod_letters cX11_letters 7 RX11) (hV : Vx G rm_Mod_letters ad ZF (0, 0)) (hR : RtI G rm_Mod_letters ad ZF (0, 0) cX11_letters .int K) (v0 : Nat) (v1 : Int64) (v3 : Int32) (v5 : Int32) (v6 : Int32) (t0 : Int32) : Sm G rm_Mod_letters ad ZF (0, 0) (lpK G rm_Mod_letters ad ZF (0, 0) 8 (fun (s : (Int32 × Int32 × Int32)) => [(0, .ref v0), (1, .long v1), (3, .int s.1), (4, .int s.2.1), (5, .int s.2.2)]) K) 64 [(0, .ref v0), (1, .long v1), (3, .int v3), (5, .int v5), (6, .int v6)] [.int t0] (Mod_letters_64 v0 v1 v3 v5 v6 t0) := by
  unfold Mod_letters_64
  refine s_istore C (L' := [(4, .int t0), (0, .ref v0), (1, .long v1), (3, .int v3), (5, .int v5), (6, .int v6)]) (by decide) rfl dX11_letters_64 ?_
  refine s_iload_n C rfl dX11_letters_66 ?_
  refine s_iload C rfl dX11_letters_67 ?_
  refine s_ite (g := fun z => Mod_letters_77 v0 v1 t0 v5 v3 z) ?_
  refine s_if_ne C 76 (by decide) dX11_letters_69 ?_ ?_
  · refine s_iconst C (1 : Int32) (by decide) dX11_letters_76 ?_
    exact s_weak [0, 1, 4, 5] rfl (sm_Mod_letters_77 C hV hR v0 v1 t0 v5 v3 (1 : Int32))
  · refine s_iconst C (0 : Int32) (by decide) dX11_letters_72 ?_
    refine s_goto C 77 (by decide) dX11_letters_73 ?_
    exact s_weak [0, 1, 4, 5] rfl (sm_Mod_letters_77 C hV hR v0 v1 t0 v5 v3 (0 : Int32))
set_option maxRecDepth 20000 in
theorem sm_Mod_letters_59 {G : GT} {ad : Nat → Nat} {K : Int32 → Dm → Prop} (C : Cx G rm_Mod_letters cX11_letters 7 RX11) (hV : Vx G rm_Mod_letters ad ZF (0, 0)) (hR : RtI G rm_Mod_letters ad ZF (0, 0) cX11_letters .int K) (v0 : Nat) (v1 : Int64) (v3 : Int32) (v5 : Int32) (v6 : Int32) : Sm G rm_Mod_letters ad ZF (0, 0) (lpK G rm_Mod_letters ad ZF (0, 0) 8 (fun (s : (Int32 × Int32 × Int32)) => [(0, .ref v0), (1, .long v1), (3, .int s.1), (4, .int s.2.1), (5, .int s.2.2)]) K) 59 [(0, .ref v0), (1, .long v1), (3, .int v3), (5, .int v5), (6, .int v6)] [] (Mod_letters_59 v0 v1 v3 v5 v6) := by
  unfold Mod_letters_59
  refine s_iconst C (1 : Int32) (by decide) dX11_letters_59 ?_
  refine s_goto C 64 (by decide) dX11_letters_60 ?_
  exact s_weak [0, 1, 3, 5, 6] rfl (sm_Mod_letters_64 C hV hR v0 v1 v3 v5 v6 (1 : Int32))
set_option maxRecDepth 20000 in
theorem sm_Mod_letters_49 {G : GT} {ad : Nat → Nat} {K : Int32 → Dm → Prop} (C : Cx G rm_Mod_letters cX11_letters 7 RX11) (hV : Vx G rm_Mod_letters ad ZF (0, 0)) (hR : RtI G rm_Mod_letters ad ZF (0, 0) cX11_letters .int K) (v0 : Nat) (v1 : Int64) (v3 : Int32) (v4 : Int32) (v5 : Int32) (v6 : Int32) : Sm G rm_Mod_letters ad ZF (0, 0) (lpK G rm_Mod_letters ad ZF (0, 0) 8 (fun (s : (Int32 × Int32 × Int32)) => [(0, .ref v0), (1, .long v1), (3, .int s.1), (4, .int s.2.1), (5, .int s.2.2)]) K) 49 [(0, .ref v0), (1, .long v1), (3, .int v3), (4, .int v4), (5, .int v5), (6, .int v6)] [] (Mod_letters_49 v0 v1 v3 v4 v5 v6) := by
  unfold Mod_letters_49
  refine s_iload C rfl dX11_letters_49 ?_
  refine s_if_ne C 59 (by decide) dX11_letters_51 ?_ ?_
  · exact s_weak [0, 1, 3, 5, 6] rfl (sm_Mod_letters_59 C hV hR v0 v1 v3 v5 v6)
  · refine s_iload C rfl dX11_letters_54 ?_
    refine s_if_ne C 63 (by decide) dX11_letters_56 ?_ ?_
    · refine s_iconst C (0 : Int32) (by decide) dX11_letters_63 ?_
      exact s_weak [0, 1, 3, 5, 6] rfl (sm_Mod_letters_64 C hV hR v0 v1 v3 v5 v6 (0 : Int32))
    · exact s_weak [0, 1, 3, 5, 6] rfl (sm_Mod_letters_59 C hV hR v0 v1 v3 v5 v6)
set_option maxRecDepth 20000 in
theorem sm_Mod_letters_8_b {G : GT} {ad : Nat → Nat} {K : Int32 → Dm → Prop} (C : Cx G rm_Mod_letters cX11_letters 7 RX11) (hV : Vx G rm_Mod_letters ad ZF (0, 0)) (hR : RtI G rm_Mod_letters ad ZF (0, 0) cX11_letters .int K) (v0 : Nat) (v1 : Int64) (v3 : Int32) (v4 : Int32) (v5 : Int32) : Sm G rm_Mod_letters ad ZF (0, 0) (lpK G rm_Mod_letters ad ZF (0, 0) 8 (fun (s : (Int32 × Int32 × Int32)) => [(0, .ref v0), (1, .long v1), (3, .int s.1), (4, .int s.2.1), (5, .int s.2.2)]) K) 8 [(0, .ref v0), (1, .long v1), (3, .int v3), (4, .int v4), (5, .int v5)] [] (Mod_letters_8_b v0 v1 v3 v4 v5) := by
  unfold Mod_letters_8_b
  refine s_iload C rfl dX11_letters_8 ?_
  refine s_bipush C (8 : Int32) (by decide) dX11_letters_10 ?_
  refine s_icmp_ge C 85 (by decide) dX11_letters_12 ?_ ?_
  · refine s_exit ?_
    refine s_aload_n C rfl dX11_letters_85 ?_
    refine s_getI C hV fl_X11_133 (fun _ _ _ => rfl) dX11_letters_86 (fun x4 => ?_)
    refine s_iload_n C rfl dX11_letters_89 ?_
    refine s_iadd C dX11_letters_90 ?_
    refine s_bipush C (60 : Int32) (by decide) dX11_letters_91 ?_
    refine s_icmp_le C 99 (by decide) dX11_letters_93 ?_ ?_
    · refine s_iconst C (0 : Int32) (by decide) dX11_letters_99 ?_
      refine s_leti (fun x5 => ?_)
      refine s_istore C (L' := [(5, .int x5), (0, .ref v0), (1, .long v1), (3, .int v3), (4, .int v4)]) (by decide) rfl dX11_letters_100 ?_
      exact s_weak [0, 1, 3, 5] rfl (sm_Mod_letters_102 C hV hR v0 v1 v3 x5)
    · refine s_bipush C ((-104) : Int32) (by decide) dX11_letters_96 ?_
      exact s_ireti hR dX11_letters_98
  · refine s_lload_n C rfl dX11_letters_15 ?_
    refine s_bipush C (8 : Int32) (by decide) dX11_letters_16 ?_
    refine s_iload C rfl dX11_letters_18 ?_
    refine s_imul C dX11_letters_20 ?_
    refine s_lshr C dX11_letters_21 ?_
    refine s_ldc2 C kl_X11_131 dX11_letters_22 ?_
    refine s_land C dX11_letters_25 ?_
    refine s_l2i C dX11_letters_26 ?_
    refine s_leti (fun x11 => ?_)
    refine s_istore C (L' := [(6, .int x11), (0, .ref v0), (1, .long v1), (3, .int v3), (4, .int v4), (5, .int v5)]) (by decide) rfl dX11_letters_27 ?_
    refine s_iload C rfl dX11_letters_29 ?_
    refine s_bipush C (126 : Int32) (by decide) dX11_letters_31 ?_
    refine s_icmp_gt C 46 (by decide) dX11_letters_33 ?_ ?_
    · refine s_exit ?_
      refine s_bipush C ((-102) : Int32) (by decide) dX11_letters_46 ?_
      exact s_ireti hR dX11_letters_48
    · refine s_iload C rfl dX11_letters_36 ?_
      refine s_if_eq C 49 (by decide) dX11_letters_38 ?_ ?_
      · exact s_weak [0, 1, 3, 4, 5, 6] rfl (sm_Mod_letters_49 C hV hR v0 v1 v3 v4 v5 x11)
      · refine s_iload C rfl dX11_letters_41 ?_
        refine s_if_eq C 49 (by decide) dX11_letters_43 ?_ ?_
        · exact s_weak [0, 1, 3, 4, 5, 6] rfl (sm_Mod_letters_49 C hV hR v0 v1 v3 v4 v5 x11)
        · refine s_exit ?_
          refine s_bipush C ((-102) : Int32) (by decide) dX11_letters_46 ?_
          exact s_ireti hR dX11_letters_48
set_option maxRecDepth 20000 in
theorem sm_Mod_letters_8 {G : GT} {ad : Nat → Nat} {K : Int32 → Dm → Prop} (C : Cx G rm_Mod_letters cX11_letters 7 RX11) (hV : Vx G rm_Mod_letters ad ZF (0, 0)) (hR : RtI G rm_Mod_letters ad ZF (0, 0) cX11_letters .int K) (v0 : Nat) (v1 : Int64) (s : (Int32 × Int32 × Int32)) : Sm G rm_Mod_letters ad ZF (0, 0) K 8 ((fun (s : (Int32 × Int32 × Int32)) => [(0, .ref v0), (1, .long v1), (3, .int s.1), (4, .int s.2.1), (5, .int s.2.2)]) s) [] (Mod_letters_8 v0 v1 s) :=
  s_loop (en := (fun (s : (Int32 × Int32 × Int32)) => [(0, .ref v0), (1, .long v1), (3, .int s.1), (4, .int s.2.1), (5, .int s.2.2)])) (fun s => sm_Mod_letters_8_b C hV hR v0 v1 s.1 s.2.1 s.2.2) s
set_option maxRecDepth 20000 in
theorem sm_Mod_letters {G : GT} {ad : Nat → Nat} {K : Int32 → Dm → Prop} (C : Cx G rm_Mod_letters cX11_letters 7 RX11) (hV : Vx G rm_Mod_letters ad ZF (0, 0)) (hR : RtI G rm_Mod_letters ad ZF (0, 0) cX11_letters .int K) (v0 : Nat) (v1 : Int64) : Sm G rm_Mod_letters ad ZF (0, 0) K 0 [(0, .ref v0), (1, .long v1)] [] (Mod_letters v0 v1) := by
  unfold Mod_letters
  refine s_iconst C (0 : Int32) (by decide) dX11_letters_0 ?_
  refine s_leti (fun x1 => ?_)
  refine s_istore_n C (L' := [(3, .int x1), (0, .ref v0), (1, .long v1)]) (by decide) rfl dX11_letters_1 ?_
  refine s_iconst C (0 : Int32) (by decide) dX11_letters_2 ?_
  refine s_leti (fun x2 => ?_)
  refine s_istore C (L' := [(4, .int x2), (3, .int x1), (0, .ref v0), (1, .long v1)]) (by decide) rfl dX11_letters_3 ?_
  refine s_iconst C (0 : Int32) (by decide) dX11_letters_5 ?_
  refine s_leti (fun x3 => ?_)
  refine s_istore C (L' := [(5, .int x3), (4, .int x2), (3, .int x1), (0, .ref v0), (1, .long v1)]) (by decide) rfl dX11_letters_6 ?_
  exact s_weak [0, 1, 3, 4, 5] rfl (sm_Mod_letters_8 C hV hR v0 v1 (x1, x2, x3))
set_option maxRecDepth 20000 in
theorem met_Mod_letters (v0 : Nat) (v1 : Int64) : MI ZF yX11_letters cX11_letters 7 .int rm_Mod_letters [.ref v0, .long v1] (Mod_letters v0 v1) :=
  mi_of (L0 := [(0, .ref v0), (1, .long v1)]) (by decide +kernel) (Nat.le_of_ble_eq_true rfl) rfl (fun G ad K C hV hR => sm_Mod_letters C hV hR v0 v1)

noncomputable def Mod_blank (v0 : Nat) : MM Int32 :=
  mb (gI ZF 12 4 v0) fun x1 =>
  mb (pI ZF 12 4 v0 (0 : Int32)) fun _ =>
  mp x1
set_option maxRecDepth 20000 in
theorem sm_Mod_blank {G : GT} {ad : Nat → Nat} {K : Int32 → Dm → Prop} (C : Cx G rm_Mod_blank cX11_blank 2 RX11) (hV : Vx G rm_Mod_blank ad ZF (0, 0)) (hR : RtI G rm_Mod_blank ad ZF (0, 0) cX11_blank .int K) (v0 : Nat) : Sm G rm_Mod_blank ad ZF (0, 0) K 0 [(0, .ref v0)] [] (Mod_blank v0) := by
  unfold Mod_blank
  refine s_aload_n C rfl dX11_blank_0 ?_
  refine s_getI C hV fl_X11_133 (fun _ _ _ => rfl) dX11_blank_1 (fun x1 => ?_)
  refine s_istore_n C (L' := [(1, .int x1), (0, .ref v0)]) (by decide) rfl dX11_blank_4 ?_
  refine s_aload_n C rfl dX11_blank_5 ?_
  refine s_iconst C (0 : Int32) (by decide) dX11_blank_6 ?_
  refine s_putI C hV fw_X11_133 rfl dX11_blank_7 ?_
  refine s_iload_n C rfl dX11_blank_10 ?_
  exact s_ireti hR dX11_blank_11
set_option maxRecDepth 20000 in
theorem met_Mod_blank (v0 : Nat) : MI ZF yX11_blank cX11_blank 2 .int rm_Mod_blank [.ref v0] (Mod_blank v0) :=
  mi_of (L0 := [(0, .ref v0)]) (by decide +kernel) (Nat.le_of_ble_eq_true rfl) rfl (fun G ad K C hV hR => sm_Mod_blank C hV hR v0)

noncomputable def Mod_isLetter (v0 : Int32) : MM Int32 :=
  mb ((Mod_in v0 (97 : Int32) (104 : Int32))) fun r1 =>
  mz r1
set_option maxRecDepth 20000 in
theorem sm_Mod_isLetter {G : GT} {ad : Nat → Nat} {K : Int32 → Dm → Prop} (C : Cx G rm_Mod_isLetter cX11_isLetter 1 RX11) (hV : Vx G rm_Mod_isLetter ad ZF (0, 0)) (hR : RtI G rm_Mod_isLetter ad ZF (0, 0) cX11_isLetter .boolean K) (v0 : Int32) : Sm G rm_Mod_isLetter ad ZF (0, 0) K 0 [(0, .int v0)] [] (Mod_isLetter v0) := by
  unfold Mod_isLetter
  refine s_iload_n C rfl dX11_isLetter_0 ?_
  refine s_bipush C (97 : Int32) (by decide) dX11_isLetter_1 ?_
  refine s_bipush C (104 : Int32) (by decide) dX11_isLetter_3 ?_
  refine s_uI C hV ls_X11_89 (st := []) (met_Mod_in v0 (97 : Int32) (104 : Int32)) rf_Mod_isLetter_Mod_in rfl rfl (Nat.le_of_ble_eq_true rfl) dX11_isLetter_5 (fun r1 => ?_)
  exact s_iretz hR dX11_isLetter_8
set_option maxRecDepth 20000 in
theorem met_Mod_isLetter (v0 : Int32) : MI ZF yX11_isLetter cX11_isLetter 1 .boolean rm_Mod_isLetter [.int v0] (Mod_isLetter v0) :=
  mi_of (L0 := [(0, .int v0)]) (by decide +kernel) (Nat.le_of_ble_eq_true rfl) rfl (fun G ad K C hV hR => sm_Mod_isLetter C hV hR v0)

noncomputable def Mod_isDigit (v0 : Int32) : MM Int32 :=
  mb ((Mod_in v0 (48 : Int32) (57 : Int32))) fun r1 =>
  mz r1
set_option maxRecDepth 20000 in
theorem sm_Mod_isDigit {G : GT} {ad : Nat → Nat} {K : Int32 → Dm → Prop} (C : Cx G rm_Mod_isDigit cX11_isDigit 1 RX11) (hV : Vx G rm_Mod_isDigit ad ZF (0, 0)) (hR : RtI G rm_Mod_isDigit ad ZF (0, 0) cX11_isDigit .boolean K) (v0 : Int32) : Sm G rm_Mod_isDigit ad ZF (0, 0) K 0 [(0, .int v0)] [] (Mod_isDigit v0) := by
  unfold Mod_isDigit
  refine s_iload_n C rfl dX11_isDigit_0 ?_
  refine s_bipush C (48 : Int32) (by decide) dX11_isDigit_1 ?_
  refine s_bipush C (57 : Int32) (by decide) dX11_isDigit_3 ?_
  refine s_uI C hV ls_X11_89 (st := []) (met_Mod_in v0 (48 : Int32) (57 : Int32)) rf_Mod_isDigit_Mod_in rfl rfl (Nat.le_of_ble_eq_true rfl) dX11_isDigit_5 (fun r1 => ?_)
  exact s_iretz hR dX11_isDigit_8
set_option maxRecDepth 20000 in
theorem met_Mod_isDigit (v0 : Int32) : MI ZF yX11_isDigit cX11_isDigit 1 .boolean rm_Mod_isDigit [.int v0] (Mod_isDigit v0) :=
  mi_of (L0 := [(0, .int v0)]) (by decide +kernel) (Nat.le_of_ble_eq_true rfl) rfl (fun G ad K C hV hR => sm_Mod_isDigit C hV hR v0)

noncomputable def Mod_isMark (v0 : Int32) : MM Int32 :=
  mb ((Mod_in v0 (60 : Int32) (62 : Int32))) fun r1 =>
  mz r1
set_option maxRecDepth 20000 in
theorem sm_Mod_isMark {G : GT} {ad : Nat → Nat} {K : Int32 → Dm → Prop} (C : Cx G rm_Mod_isMark cX11_isMark 1 RX11) (hV : Vx G rm_Mod_isMark ad ZF (0, 0)) (hR : RtI G rm_Mod_isMark ad ZF (0, 0) cX11_isMark .boolean K) (v0 : Int32) : Sm G rm_Mod_isMark ad ZF (0, 0) K 0 [(0, .int v0)] [] (Mod_isMark v0) := by
  unfold Mod_isMark
  refine s_iload_n C rfl dX11_isMark_0 ?_
  refine s_bipush C (60 : Int32) (by decide) dX11_isMark_1 ?_
  refine s_bipush C (62 : Int32) (by decide) dX11_isMark_3 ?_
  refine s_uI C hV ls_X11_89 (st := []) (met_Mod_in v0 (60 : Int32) (62 : Int32)) rf_Mod_isMark_Mod_in rfl rfl (Nat.le_of_ble_eq_true rfl) dX11_isMark_5 (fun r1 => ?_)
  exact s_iretz hR dX11_isMark_8
set_option maxRecDepth 20000 in
theorem met_Mod_isMark (v0 : Int32) : MI ZF yX11_isMark cX11_isMark 1 .boolean rm_Mod_isMark [.int v0] (Mod_isMark v0) :=
  mi_of (L0 := [(0, .int v0)]) (by decide +kernel) (Nat.le_of_ble_eq_true rfl) rfl (fun G ad K C hV hR => sm_Mod_isMark C hV hR v0)

noncomputable def Mod_next_160 (v2 : Int32) (v7 : Int32) : MM Int32 :=
  if v7 = 0 then
  mb ((Mod_isMark v2)) fun r2 =>
  if r2 = 0 then
  mp ((-1) : Int32)
  else
  mp (4 : Int32)
  else
  mp (1 : Int32)
noncomputable def Mod_next_315 (v1 : Int32) (v2 : Int32) : MM Int32 :=
  if v1 = (9 : Int32) then
  if v2 = (61 : Int32) then
  mp (10 : Int32)
  else
  mp ((-1) : Int32)
  else
  mp ((-1) : Int32)
noncomputable def Mod_next_246 (v2 : Int32) (v3 : Int32) (v4 : Int32) (t0 : Int32) : MM Int32 :=
  if v2 = (38 : Int32) then
  mp (0 : Int32)
  else
  if v2 = (124 : Int32) then
  mp (0 : Int32)
  else
  if t0 = 0 then
  if v2 = (58 : Int32) then
  if v4 = 0 then
  if v3 = (1 : Int32) then
  mp (8 : Int32)
  else
  mp ((-1) : Int32)
  else
  mp ((-1) : Int32)
  else
  mp ((-1) : Int32)
  else
  mp (7 : Int32)
noncomputable def Mod_next_245 (v2 : Int32) (v3 : Int32) (v4 : Int32) : MM Int32 :=
  Mod_next_246 v2 v3 v4 (0 : Int32)
noncomputable def Mod_next_220 (v1 : Int32) (v2 : Int32) (v3 : Int32) (v4 : Int32) : MM Int32 :=
  mb ((Mod_in v1 (5 : Int32) (7 : Int32))) fun r3 =>
  if r3 = 0 then
  if v1 = (8 : Int32) then
  mb ((Mod_isLetter v2)) fun r4 =>
  if r4 = 0 then
  Mod_next_315 v1 v2
  else
  mp (9 : Int32)
  else
  Mod_next_315 v1 v2
  else
  if v2 = (41 : Int32) then
  if v4 ≤ 0 then
  Mod_next_245 v2 v3 v4
  else
  Mod_next_246 v2 v3 v4 (1 : Int32)
  else
  Mod_next_245 v2 v3 v4
noncomputable def Mod_next_212 (v1 : Int32) (v2 : Int32) (v3 : Int32) (v4 : Int32) (v7 : Int32) : MM Int32 :=
  if v7 = 0 then
  Mod_next_220 v1 v2 v3 v4
  else
  mp (10 : Int32)
noncomputable def Mod_next_200 (v1 : Int32) (v2 : Int32) (v3 : Int32) (v4 : Int32) (v7 : Int32) : MM Int32 :=
  if v1 = (11 : Int32) then
  Mod_next_212 v1 v2 v3 v4 v7
  else
  if v1 = (12 : Int32) then
  Mod_next_212 v1 v2 v3 v4 v7
  else
  Mod_next_220 v1 v2 v3 v4
noncomputable def Mod_next_193 (v1 : Int32) (v2 : Int32) (v3 : Int32) (v4 : Int32) (v7 : Int32) : MM Int32 :=
  if v7 = 0 then
  Mod_next_200 v1 v2 v3 v4 v7
  else
  mp (4 : Int32)
noncomputable def Mod_next_148 (v1 : Int32) (v2 : Int32) (v3 : Int32) (v4 : Int32) (t0 : Int32) : MM Int32 :=
  if v1 = (2 : Int32) then
  Mod_next_160 v2 t0
  else
  if v1 = (3 : Int32) then
  Mod_next_160 v2 t0
  else
  if v1 = (5 : Int32) then
  Mod_next_193 v1 v2 v3 v4 t0
  else
  if v1 = (6 : Int32) then
  Mod_next_193 v1 v2 v3 v4 t0
  else
  Mod_next_200 v1 v2 v3 v4 t0
noncomputable def Mod_next_143 (v1 : Int32) (v2 : Int32) (v3 : Int32) (v4 : Int32) : MM Int32 :=
  Mod_next_148 v1 v2 v3 v4 (1 : Int32)
noncomputable def Mod_next_131 (v1 : Int32) (v2 : Int32) (v3 : Int32) (v4 : Int32) : MM Int32 :=
  if v2 = (43 : Int32) then
  Mod_next_143 v1 v2 v3 v4
  else
  if v2 = (45 : Int32) then
  Mod_next_143 v1 v2 v3 v4
  else
  Mod_next_148 v1 v2 v3 v4 (0 : Int32)
noncomputable def Mod_next_120 (v1 : Int32) (v2 : Int32) (v3 : Int32) (v4 : Int32) : MM Int32 :=
  mb ((Mod_isDigit v2)) fun r1 =>
  if r1 = 0 then
  Mod_next_131 v1 v2 v3 v4
  else
  mp (v1 - (1 : Int32))
noncomputable def Mod_next_103 (v1 : Int32) (v2 : Int32) (v3 : Int32) (v4 : Int32) : MM Int32 :=
  if v1 = (3 : Int32) then
  Mod_next_120 v1 v2 v3 v4
  else
  if v1 = (6 : Int32) then
  Mod_next_120 v1 v2 v3 v4
  else
  if v1 = (12 : Int32) then
  Mod_next_120 v1 v2 v3 v4
  else
  Mod_next_131 v1 v2 v3 v4
noncomputable def Mod_next_85 (v1 : Int32) (v2 : Int32) (v3 : Int32) (v4 : Int32) : MM Int32 :=
  if v1 = 0 then
  if v2 = (33 : Int32) then
  mp (0 : Int32)
  else
  if v2 = (40 : Int32) then
  mp (0 : Int32)
  else
  Mod_next_103 v1 v2 v3 v4
  else
  Mod_next_103 v1 v2 v3 v4
noncomputable def Mod_next_68 (v1 : Int32) (v2 : Int32) (v3 : Int32) (v4 : Int32) (v5 : Int32) (v6 : Int32) : MM Int32 :=
  if v5 = 0 then
  Mod_next_85 v1 v2 v3 v4
  else
  mb ((Mod_isDigit v2)) fun r5 =>
  if r5 = 0 then
  Mod_next_85 v1 v2 v3 v4
  else
  mp (v6 + (1 : Int32))
noncomputable def Mod_next_51 (v1 : Int32) (v2 : Int32) (v3 : Int32) (v4 : Int32) (v5 : Int32) (t0 : Int32) : MM Int32 :=
  if v5 = 0 then
  Mod_next_68 v1 v2 v3 v4 v5 t0
  else
  mb ((Mod_isLetter v2)) fun r6 =>
  if r6 = 0 then
  Mod_next_68 v1 v2 v3 v4 v5 t0
  else
  mp t0
noncomputable def Mod_next_36 (v1 : Int32) (v2 : Int32) (v3 : Int32) (v4 : Int32) (v5 : Int32) : MM Int32 :=
  Mod_next_51 v1 v2 v3 v4 v5 (2 : Int32)
noncomputable def Mod_next_25 (v1 : Int32) (v2 : Int32) (v3 : Int32) (v4 : Int32) (t0 : Int32) : MM Int32 :=
  if v1 = 0 then
  Mod_next_36 v1 v2 v3 v4 t0
  else
  if v1 = (1 : Int32) then
  Mod_next_36 v1 v2 v3 v4 t0
  else
  Mod_next_51 v1 v2 v3 v4 t0 (if v1 = (4 : Int32) then (5 : Int32) else (11 : Int32))
noncomputable def Mod_next_20 (v1 : Int32) (v2 : Int32) (v3 : Int32) (v4 : Int32) : MM Int32 :=
  Mod_next_25 v1 v2 v3 v4 (1 : Int32)
noncomputable def Mod_next_e (v1 : Int32) (v2 : Int32) (v3 : Int32) (v4 : Int32) : MM Int32 :=
  if v1 = 0 then
  Mod_next_20 v1 v2 v3 v4
  else
  if v1 = (1 : Int32) then
  Mod_next_20 v1 v2 v3 v4
  else
  if v1 = (4 : Int32) then
  Mod_next_20 v1 v2 v3 v4
  else
  if v1 = (10 : Int32) then
  Mod_next_20 v1 v2 v3 v4
  else
  Mod_next_25 v1 v2 v3 v4 (0 : Int32)
noncomputable def Mod_next (v0 : Nat) (v1 : Int32) (v2 : Int32) (v3 : Int32) (v4 : Int32) : MM Int32 := Mod_next_e v1 v2 v3 v4
set_option maxRecDepth 20000 in
theorem sm_Mod_next_160 {G : GT} {ad : Nat → Nat} {K : Int32 → Dm → Prop} (C : Cx G rm_Mod_next cX11_next 9 RX11) (hV : Vx G rm_Mod_next ad ZF (0, 0)) (hR : RtI G rm_Mod_next ad ZF (0, 0) cX11_next .int K) (v2 : Int32) (v7 : Int32) : Sm G rm_Mod_next ad ZF (0, 0) K 160 [(2, .int v2), (7, .int v7)] [] (Mod_next_160 v2 v7) := by
  unfold Mod_next_160
  refine s_iload C rfl dX11_next_160 ?_
  refine s_if_eq C 169 (by decide) dX11_next_162 ?_ ?_
  · refine s_iload_n C rfl dX11_next_169 ?_
    refine s_uI C hV ls_X11_142 (st := []) (met_Mod_isMark v2) rf_Mod_next_Mod_isMark rfl rfl (Nat.le_of_ble_eq_true rfl) dX11_next_170 (fun r2 => ?_)
    refine s_if_eq C 180 (by decide) dX11_next_173 ?_ ?_
    · refine s_iconst C ((-1) : Int32) (by decide) dX11_next_180 ?_
      exact s_ireti hR dX11_next_181
    · refine s_iconst C (4 : Int32) (by decide) dX11_next_176 ?_
      refine s_goto C 181 (by decide) dX11_next_177 ?_
      exact s_ireti hR dX11_next_181
  · refine s_iconst C (1 : Int32) (by decide) dX11_next_165 ?_
    refine s_goto C 181 (by decide) dX11_next_166 ?_
    exact s_ireti hR dX11_next_181
set_option maxRecDepth 20000 in
theorem sm_Mod_next_315 {G : GT} {ad : Nat → Nat} {K : Int32 → Dm → Prop} (C : Cx G rm_Mod_next cX11_next 9 RX11) (hV : Vx G rm_Mod_next ad ZF (0, 0)) (hR : RtI G rm_Mod_next ad ZF (0, 0) cX11_next .int K) (v1 : Int32) (v2 : Int32) : Sm G rm_Mod_next ad ZF (0, 0) K 315 [(1, .int v1), (2, .int v2)] [] (Mod_next_315 v1 v2) := by
  unfold Mod_next_315
  refine s_iload_n C rfl dX11_next_315 ?_
  refine s_bipush C (9 : Int32) (by decide) dX11_next_316 ?_
  refine s_icmp_ne C 332 (by decide) dX11_next_318 ?_ ?_
  · refine s_iconst C ((-1) : Int32) (by decide) dX11_next_332 ?_
    exact s_ireti hR dX11_next_333
  · refine s_iload_n C rfl dX11_next_321 ?_
    refine s_bipush C (61 : Int32) (by decide) dX11_next_322 ?_
    refine s_icmp_ne C 332 (by decide) dX11_next_324 ?_ ?_
    · refine s_iconst C ((-1) : Int32) (by decide) dX11_next_332 ?_
      exact s_ireti hR dX11_next_333
    · refine s_bipush C (10 : Int32) (by decide) dX11_next_327 ?_
      refine s_goto C 333 (by decide) dX11_next_329 ?_
      exact s_ireti hR dX11_next_333
set_option maxRecDepth 20000 in
theorem sm_Mod_next_246 {G : GT} {ad : Nat → Nat} {K : Int32 → Dm → Prop} (C : Cx G rm_Mod_next cX11_next 9 RX11) (hV : Vx G rm_Mod_next ad ZF (0, 0)) (hR : RtI G rm_Mod_next ad ZF (0, 0) cX11_next .int K) (v2 : Int32) (v3 : Int32) (v4 : Int32) (t0 : Int32) : Sm G rm_Mod_next ad ZF (0, 0) K 246 [(2, .int v2), (3, .int v3), (4, .int v4)] [.int t0] (Mod_next_246 v2 v3 v4 t0) := by
  unfold Mod_next_246
  refine s_istore C (L' := [(8, .int t0), (2, .int v2), (3, .int v3), (4, .int v4)]) (by decide) rfl dX11_next_246 ?_
  refine s_iload_n C rfl dX11_next_248 ?_
  refine s_bipush C (38 : Int32) (by decide) dX11_next_249 ?_
  refine s_icmp_eq C 260 (by decide) dX11_next_251 ?_ ?_
  · refine s_iconst C (0 : Int32) (by decide) dX11_next_260 ?_
    refine s_goto C 296 (by decide) dX11_next_261 ?_
    exact s_ireti hR dX11_next_296
  · refine s_iload_n C rfl dX11_next_254 ?_
    refine s_bipush C (124 : Int32) (by decide) dX11_next_255 ?_
    refine s_icmp_ne C 264 (by decide) dX11_next_257 ?_ ?_
    · refine s_iload C rfl dX11_next_264 ?_
      refine s_if_eq C 274 (by decide) dX11_next_266 ?_ ?_
      · refine s_iload_n C rfl dX11_next_274 ?_
        refine s_bipush C (58 : Int32) (by decide) dX11_next_275 ?_
        refine s_icmp_ne C 295 (by decide) dX11_next_277 ?_ ?_
        · refine s_iconst C ((-1) : Int32) (by decide) dX11_next_295 ?_
          exact s_ireti hR dX11_next_296
        · refine s_iload C rfl dX11_next_280 ?_
          refine s_if_ne C 295 (by decide) dX11_next_282 ?_ ?_
          · refine s_iconst C ((-1) : Int32) (by decide) dX11_next_295 ?_
            exact s_ireti hR dX11_next_296
          · refine s_iload_n C rfl dX11_next_285 ?_
            refine s_iconst C (1 : Int32) (by decide) dX11_next_286 ?_
            refine s_icmp_ne C 295 (by decide) dX11_next_287 ?_ ?_
            · refine s_iconst C ((-1) : Int32) (by decide) dX11_next_295 ?_
              exact s_ireti hR dX11_next_296
            · refine s_bipush C (8 : Int32) (by decide) dX11_next_290 ?_
              refine s_goto C 296 (by decide) dX11_next_292 ?_
              exact s_ireti hR dX11_next_296
      · refine s_bipush C (7 : Int32) (by decide) dX11_next_269 ?_
        refine s_goto C 296 (by decide) dX11_next_271 ?_
        exact s_ireti hR dX11_next_296
    · refine s_iconst C (0 : Int32) (by decide) dX11_next_260 ?_
      refine s_goto C 296 (by decide) dX11_next_261 ?_
      exact s_ireti hR dX11_next_296
set_option maxRecDepth 20000 in
theorem sm_Mod_next_245 {G : GT} {ad : Nat → Nat} {K : Int32 → Dm → Prop} (C : Cx G rm_Mod_next cX11_next 9 RX11) (hV : Vx G rm_Mod_next ad ZF (0, 0)) (hR : RtI G rm_Mod_next ad ZF (0, 0) cX11_next .int K) (v2 : Int32) (v3 : Int32) (v4 : Int32) : Sm G rm_Mod_next ad ZF (0, 0) K 245 [(2, .int v2), (3, .int v3), (4, .int v4)] [] (Mod_next_245 v2 v3 v4) := by
  unfold Mod_next_245
  refine s_iconst C (0 : Int32) (by decide) dX11_next_245 ?_
  exact s_weak [2, 3, 4] rfl (sm_Mod_next_246 C hV hR v2 v3 v4 (0 : Int32))
set_option maxRecDepth 20000 in
theorem sm_Mod_next_220 {G : GT} {ad : Nat → Nat} {K : Int32 → Dm → Prop} (C : Cx G rm_Mod_next cX11_next 9 RX11) (hV : Vx G rm_Mod_next ad ZF (0, 0)) (hR : RtI G rm_Mod_next ad ZF (0, 0) cX11_next .int K) (v1 : Int32) (v2 : Int32) (v3 : Int32) (v4 : Int32) : Sm G rm_Mod_next ad ZF (0, 0) K 220 [(1, .int v1), (2, .int v2), (3, .int v3), (4, .int v4)] [] (Mod_next_220 v1 v2 v3 v4) := by
  unfold Mod_next_220
  refine s_iload_n C rfl dX11_next_220 ?_
  refine s_iconst C (5 : Int32) (by decide) dX11_next_221 ?_
  refine s_bipush C (7 : Int32) (by decide) dX11_next_222 ?_
  refine s_uI C hV ls_X11_89 (st := []) (met_Mod_in v1 (5 : Int32) (7 : Int32)) rf_Mod_next_Mod_in rfl rfl (Nat.le_of_ble_eq_true rfl) dX11_next_224 (fun r3 => ?_)
  refine s_if_eq C 297 (by decide) dX11_next_227 ?_ ?_
  · refine s_iload_n C rfl dX11_next_297 ?_
    refine s_bipush C (8 : Int32) (by decide) dX11_next_298 ?_
    refine s_icmp_ne C 315 (by decide) dX11_next_300 ?_ ?_
    · exact s_weak [1, 2] rfl (sm_Mod_next_315 C hV hR v1 v2)
    · refine s_iload_n C rfl dX11_next_303 ?_
      refine s_uI C hV ls_X11_136 (st := []) (met_Mod_isLetter v2) rf_Mod_next_Mod_isLetter rfl rfl (Nat.le_of_ble_eq_true rfl) dX11_next_304 (fun r4 => ?_)
      refine s_if_eq C 315 (by decide) dX11_next_307 ?_ ?_
      · exact s_weak [1, 2] rfl (sm_Mod_next_315 C hV hR v1 v2)
      · refine s_bipush C (9 : Int32) (by decide) dX11_next_310 ?_
        refine s_goto C 333 (by decide) dX11_next_312 ?_
        exact s_ireti hR dX11_next_333
  · refine s_iload_n C rfl dX11_next_230 ?_
    refine s_bipush C (41 : Int32) (by decide) dX11_next_231 ?_
    refine s_icmp_ne C 245 (by decide) dX11_next_233 ?_ ?_
    · exact s_weak [2, 3, 4] rfl (sm_Mod_next_245 C hV hR v2 v3 v4)
    · refine s_iload C rfl dX11_next_236 ?_
      refine s_if_le C 245 (by decide) dX11_next_238 ?_ ?_
      · exact s_weak [2, 3, 4] rfl (sm_Mod_next_245 C hV hR v2 v3 v4)
      · refine s_iconst C (1 : Int32) (by decide) dX11_next_241 ?_
        refine s_goto C 246 (by decide) dX11_next_242 ?_
        exact s_weak [2, 3, 4] rfl (sm_Mod_next_246 C hV hR v2 v3 v4 (1 : Int32))
set_option maxRecDepth 20000 in
theorem sm_Mod_next_212 {G : GT} {ad : Nat → Nat} {K : Int32 → Dm → Prop} (C : Cx G rm_Mod_next cX11_next 9 RX11) (hV : Vx G rm_Mod_next ad ZF (0, 0)) (hR : RtI G rm_Mod_next ad ZF (0, 0) cX11_next .int K) (v1 : Int32) (v2 : Int32) (v3 : Int32) (v4 : Int32) (v7 : Int32) : Sm G rm_Mod_next ad ZF (0, 0) K 212 [(1, .int v1), (2, .int v2), (3, .int v3), (4, .int v4), (7, .int v7)] [] (Mod_next_212 v1 v2 v3 v4 v7) := by
  unfold Mod_next_212
  refine s_iload C rfl dX11_next_212 ?_
  refine s_if_eq C 220 (by decide) dX11_next_214 ?_ ?_
  · exact s_weak [1, 2, 3, 4] rfl (sm_Mod_next_220 C hV hR v1 v2 v3 v4)
  · refine s_bipush C (10 : Int32) (by decide) dX11_next_217 ?_
    exact s_ireti hR dX11_next_219
set_option maxRecDepth 20000 in
theorem sm_Mod_next_200 {G : GT} {ad : Nat → Nat} {K : Int32 → Dm → Prop} (C : Cx G rm_Mod_next cX11_next 9 RX11) (hV : Vx G rm_Mod_next ad ZF (0, 0)) (hR : RtI G rm_Mod_next ad ZF (0, 0) cX11_next .int K) (v1 : Int32) (v2 : Int32) (v3 : Int32) (v4 : Int32) (v7 : Int32) : Sm G rm_Mod_next ad ZF (0, 0) K 200 [(1, .int v1), (2, .int v2), (3, .int v3), (4, .int v4), (7, .int v7)] [] (Mod_next_200 v1 v2 v3 v4 v7) := by
  unfold Mod_next_200
  refine s_iload_n C rfl dX11_next_200 ?_
  refine s_bipush C (11 : Int32) (by decide) dX11_next_201 ?_
  refine s_icmp_eq C 212 (by decide) dX11_next_203 ?_ ?_
  · exact s_weak [1, 2, 3, 4, 7] rfl (sm_Mod_next_212 C hV hR v1 v2 v3 v4 v7)
  · refine s_iload_n C rfl dX11_next_206 ?_
    refine s_bipush C (12 : Int32) (by decide) dX11_next_207 ?_
    refine s_icmp_ne C 220 (by decide) dX11_next_209 ?_ ?_
    · exact s_weak [1, 2, 3, 4] rfl (sm_Mod_next_220 C hV hR v1 v2 v3 v4)
    · exact s_weak [1, 2, 3, 4, 7] rfl (sm_Mod_next_212 C hV hR v1 v2 v3 v4 v7)
set_option maxRecDepth 20000 in
theorem sm_Mod_next_193 {G : GT} {ad : Nat → Nat} {K : Int32 → Dm → Prop} (C : Cx G rm_Mod_next cX11_next 9 RX11) (hV : Vx G rm_Mod_next ad ZF (0, 0)) (hR : RtI G rm_Mod_next ad ZF (0, 0) cX11_next .int K) (v1 : Int32) (v2 : Int32) (v3 : Int32) (v4 : Int32) (v7 : Int32) : Sm G rm_Mod_next ad ZF (0, 0) K 193 [(1, .int v1), (2, .int v2), (3, .int v3), (4, .int v4), (7, .int v7)] [] (Mod_next_193 v1 v2 v3 v4 v7) := by
  unfold Mod_next_193
  refine s_iload C rfl dX11_next_193 ?_
  refine s_if_eq C 200 (by decide) dX11_next_195 ?_ ?_
  · exact s_weak [1, 2, 3, 4, 7] rfl (sm_Mod_next_200 C hV hR v1 v2 v3 v4 v7)
  · refine s_iconst C (4 : Int32) (by decide) dX11_next_198 ?_
    exact s_ireti hR dX11_next_199
set_option maxRecDepth 20000 in
theorem sm_Mod_next_148 {G : GT} {ad : Nat → Nat} {K : Int32 → Dm → Prop} (C : Cx G rm_Mod_next cX11_next 9 RX11) (hV : Vx G rm_Mod_next ad ZF (0, 0)) (hR : RtI G rm_Mod_next ad ZF (0, 0) cX11_next .int K) (v1 : Int32) (v2 : Int32) (v3 : Int32) (v4 : Int32) (t0 : Int32) : Sm G rm_Mod_next ad ZF (0, 0) K 148 [(1, .int v1), (2, .int v2), (3, .int v3), (4, .int v4)] [.int t0] (Mod_next_148 v1 v2 v3 v4 t0) := by
  unfold Mod_next_148
  refine s_istore C (L' := [(7, .int t0), (1, .int v1), (2, .int v2), (3, .int v3), (4, .int v4)]) (by decide) rfl dX11_next_148 ?_
  refine s_iload_n C rfl dX11_next_150 ?_
  refine s_iconst C (2 : Int32) (by decide) dX11_next_151 ?_
  refine s_icmp_eq C 160 (by decide) dX11_next_152 ?_ ?_
  · exact s_weak [2, 7] rfl (sm_Mod_next_160 C hV hR v2 t0)
  · refine s_iload_n C rfl dX11_next_155 ?_
    refine s_iconst C (3 : Int32) (by decide) dX11_next_156 ?_
    refine s_icmp_ne C 182 (by decide) dX11_next_157 ?_ ?_
    · refine s_iload_n C rfl dX11_next_182 ?_
      refine s_iconst C (5 : Int32) (by decide) dX11_next_183 ?_
      refine s_icmp_eq C 193 (by decide) dX11_next_184 ?_ ?_
      · exact s_weak [1, 2, 3, 4, 7] rfl (sm_Mod_next_193 C hV hR v1 v2 v3 v4 t0)
      · refine s_iload_n C rfl dX11_next_187 ?_
        refine s_bipush C (6 : Int32) (by decide) dX11_next_188 ?_
        refine s_icmp_ne C 200 (by decide) dX11_next_190 ?_ ?_
        · exact s_weak [1, 2, 3, 4, 7] rfl (sm_Mod_next_200 C hV hR v1 v2 v3 v4 t0)
        · exact s_weak [1, 2, 3, 4, 7] rfl (sm_Mod_next_193 C hV hR v1 v2 v3 v4 t0)
    · exact s_weak [2, 7] rfl (sm_Mod_next_160 C hV hR v2 t0)
set_option maxRecDepth 20000 in
theorem sm_Mod_next_143 {G : GT} {ad : Nat → Nat} {K : Int32 → Dm → Prop} (C : Cx G rm_Mod_next cX11_next 9 RX11) (hV : Vx G rm_Mod_next ad ZF (0, 0)) (hR : RtI G rm_Mod_next ad ZF (0, 0) cX11_next .int K) (v1 : Int32) (v2 : Int32) (v3 : Int32) (v4 : Int32) : Sm G rm_Mod_next ad ZF (0, 0) K 143 [(1, .int v1), (2, .int v2), (3, .int v3), (4, .int v4)] [] (Mod_next_143 v1 v2 v3 v4) := by
  unfold Mod_next_143
  refine s_iconst C (1 : Int32) (by decide) dX11_next_143 ?_
  refine s_goto C 148 (by decide) dX11_next_144 ?_
  exact s_weak [1, 2, 3, 4] rfl (sm_Mod_next_148 C hV hR v1 v2 v3 v4 (1 : Int32))
set_option maxRecDepth 20000 in
theorem sm_Mod_next_131 {G : GT} {ad : Nat → Nat} {K : Int32 → Dm → Prop} (C : Cx G rm_Mod_next cX11_next 9 RX11) (hV : Vx G rm_Mod_next ad ZF (0, 0)) (hR : RtI G rm_Mod_next ad ZF (0, 0) cX11_next .int K) (v1 : Int32) (v2 : Int32) (v3 : Int32) (v4 : Int32) : Sm G rm_Mod_next ad ZF (0, 0) K 131 [(1, .int v1), (2, .int v2), (3, .int v3), (4, .int v4)] [] (Mod_next_131 v1 v2 v3 v4) := by
  unfold Mod_next_131
  refine s_iload_n C rfl dX11_next_131 ?_
  refine s_bipush C (43 : Int32) (by decide) dX11_next_132 ?_
  refine s_icmp_eq C 143 (by decide) dX11_next_134 ?_ ?_
  · exact s_weak [1, 2, 3, 4] rfl (sm_Mod_next_143 C hV hR v1 v2 v3 v4)
  · refine s_iload_n C rfl dX11_next_137 ?_
    refine s_bipush C (45 : Int32) (by decide) dX11_next_138 ?_
    refine s_icmp_ne C 147 (by decide) dX11_next_140 ?_ ?_
    · refine s_iconst C (0 : Int32) (by decide) dX11_next_147 ?_
      exact s_weak [1, 2, 3, 4] rfl (sm_Mod_next_148 C hV hR v1 v2 v3 v4 (0 : Int32))
    · exact s_weak [1, 2, 3, 4] rfl (sm_Mod_next_143 C hV hR v1 v2 v3 v4)
set_option maxRecDepth 20000 in
theorem sm_Mod_next_120 {G : GT} {ad : Nat → Nat} {K : Int32 → Dm → Prop} (C : Cx G rm_Mod_next cX11_next 9 RX11) (hV : Vx G rm_Mod_next ad ZF (0, 0)) (hR : RtI G rm_Mod_next ad ZF (0, 0) cX11_next .int K) (v1 : Int32) (v2 : Int32) (v3 : Int32) (v4 : Int32) : Sm G rm_Mod_next ad ZF (0, 0) K 120 [(1, .int v1), (2, .int v2), (3, .int v3), (4, .int v4)] [] (Mod_next_120 v1 v2 v3 v4) := by
  unfold Mod_next_120
  refine s_iload_n C rfl dX11_next_120 ?_
  refine s_uI C hV ls_X11_139 (st := []) (met_Mod_isDigit v2) rf_Mod_next_Mod_isDigit rfl rfl (Nat.le_of_ble_eq_true rfl) dX11_next_121 (fun r1 => ?_)
  refine s_if_eq C 131 (by decide) dX11_next_124 ?_ ?_
  · exact s_weak [1, 2, 3, 4] rfl (sm_Mod_next_131 C hV hR v1 v2 v3 v4)
  · refine s_iload_n C rfl dX11_next_127 ?_
    refine s_iconst C (1 : Int32) (by decide) dX11_next_128 ?_
    refine s_isub C dX11_next_129 ?_
    exact s_ireti hR dX11_next_130
set_option maxRecDepth 20000 in
theorem sm_Mod_next_103 {G : GT} {ad : Nat → Nat} {K : Int32 → Dm → Prop} (C : Cx G rm_Mod_next cX11_next 9 RX11) (hV : Vx G rm_Mod_next ad ZF (0, 0)) (hR : RtI G rm_Mod_next ad ZF (0, 0) cX11_next .int K) (v1 : Int32) (v2 : Int32) (v3 : Int32) (v4 : Int32) : Sm G rm_Mod_next ad ZF (0, 0) K 103 [(1, .int v1), (2, .int v2), (3, .int v3), (4, .int v4)] [] (Mod_next_103 v1 v2 v3 v4) := by
  unfold Mod_next_103
  refine s_iload_n C rfl dX11_next_103 ?_
  refine s_iconst C (3 : Int32) (by decide) dX11_next_104 ?_
  refine s_icmp_eq C 120 (by decide) dX11_next_105 ?_ ?_
  · exact s_weak [1, 2, 3, 4] rfl (sm_Mod_next_120 C hV hR v1 v2 v3 v4)
  · refine s_iload_n C rfl dX11_next_108 ?_
    refine s_bipush C (6 : Int32) (by decide) dX11_next_109 ?_
    refine s_icmp_eq C 120 (by decide) dX11_next_111 ?_ ?_
    · exact s_weak [1, 2, 3, 4] rfl (sm_Mod_next_120 C hV hR v1 v2 v3 v4)
    · refine s_iload_n C rfl dX11_next_114 ?_
      refine s_bipush C (12 : Int32) (by decide) dX11_next_115 ?_
      refine s_icmp_ne C 131 (by decide) dX11_next_117 ?_ ?_
      · exact s_weak [1, 2, 3, 4] rfl (sm_Mod_next_131 C hV hR v1 v2 v3 v4)
      · exact s_weak [1, 2, 3, 4] rfl (sm_Mod_next_120 C hV hR v1 v2 v3 v4)
set_option maxRecDepth 20000 in
theorem sm_Mod_next_85 {G : GT} {ad : Nat → Nat} {K : Int32 → Dm → Prop} (C : Cx G rm_Mod_next cX11_next 9 RX11) (hV : Vx G rm_Mod_next ad ZF (0, 0)) (hR : RtI G rm_Mod_next ad ZF (0, 0) cX11_next .int K) (v1 : Int32) (v2 : Int32) (v3 : Int32) (v4 : Int32) : Sm G rm_Mod_next ad ZF (0, 0) K 85 [(1, .int v1), (2, .int v2), (3, .int v3), (4, .int v4)] [] (Mod_next_85 v1 v2 v3 v4) := by
  unfold Mod_next_85
  refine s_iload_n C rfl dX11_next_85 ?_
  refine s_if_ne C 103 (by decide) dX11_next_86 ?_ ?_
  · exact s_weak [1, 2, 3, 4] rfl (sm_Mod_next_103 C hV hR v1 v2 v3 v4)
  · refine s_iload_n C rfl dX11_next_89 ?_
    refine s_bipush C (33 : Int32) (by decide) dX11_next_90 ?_
    refine s_icmp_eq C 101 (by decide) dX11_next_92 ?_ ?_
    · refine s_iconst C (0 : Int32) (by decide) dX11_next_101 ?_
      exact s_ireti hR dX11_next_102
    · refine s_iload_n C rfl dX11_next_95 ?_
      refine s_bipush C (40 : Int32) (by decide) dX11_next_96 ?_
      refine s_icmp_ne C 103 (by decide) dX11_next_98 ?_ ?_
      · exact s_weak [1, 2, 3, 4] rfl (sm_Mod_next_103 C hV hR v1 v2 v3 v4)
      · refine s_iconst C (0 : Int32) (by decide) dX11_next_101 ?_
        exact s_ireti hR dX11_next_102
set_option maxRecDepth 20000 in
theorem sm_Mod_next_68 {G : GT} {ad : Nat → Nat} {K : Int32 → Dm → Prop} (C : Cx G rm_Mod_next cX11_next 9 RX11) (hV : Vx G rm_Mod_next ad ZF (0, 0)) (hR : RtI G rm_Mod_next ad ZF (0, 0) cX11_next .int K) (v1 : Int32) (v2 : Int32) (v3 : Int32) (v4 : Int32) (v5 : Int32) (v6 : Int32) : Sm G rm_Mod_next ad ZF (0, 0) K 68 [(1, .int v1), (2, .int v2), (3, .int v3), (4, .int v4), (5, .int v5), (6, .int v6)] [] (Mod_next_68 v1 v2 v3 v4 v5 v6) := by
  unfold Mod_next_68
  refine s_iload C rfl dX11_next_68 ?_
  refine s_if_eq C 85 (by decide) dX11_next_70 ?_ ?_
  · exact s_weak [1, 2, 3, 4] rfl (sm_Mod_next_85 C hV hR v1 v2 v3 v4)
  · refine s_iload_n C rfl dX11_next_73 ?_
    refine s_uI C hV ls_X11_139 (st := []) (met_Mod_isDigit v2) rf_Mod_next_Mod_isDigit rfl rfl (Nat.le_of_ble_eq_true rfl) dX11_next_74 (fun r5 => ?_)
    refine s_if_eq C 85 (by decide) dX11_next_77 ?_ ?_
    · exact s_weak [1, 2, 3, 4] rfl (sm_Mod_next_85 C hV hR v1 v2 v3 v4)
    · refine s_iload C rfl dX11_next_80 ?_
      refine s_iconst C (1 : Int32) (by decide) dX11_next_82 ?_
      refine s_iadd C dX11_next_83 ?_
      exact s_ireti hR dX11_next_84
set_option maxRecDepth 20000 in
theorem sm_Mod_next_51 {G : GT} {ad : Nat → Nat} {K : Int32 → Dm → Prop} (C : Cx G rm_Mod_next cX11_next 9 RX11) (hV : Vx G rm_Mod_next ad ZF (0, 0)) (hR : RtI G rm_Mod_next ad ZF (0, 0) cX11_next .int K) (v1 : Int32) (v2 : Int32) (v3 : Int32) (v4 : Int32) (v5 : Int32) (t0 : Int32) : Sm G rm_Mod_next ad ZF (0, 0) K 51 [(1, .int v1), (2, .int v2), (3, .int v3), (4, .int v4), (5, .int v5)] [.int t0] (Mod_next_51 v1 v2 v3 v4 v5 t0) := by
  unfold Mod_next_51
  refine s_istore C (L' := [(6, .int t0), (1, .int v1), (2, .int v2), (3, .int v3), (4, .int v4), (5, .int v5)]) (by decide) rfl dX11_next_51 ?_
  refine s_iload C rfl dX11_next_53 ?_
  refine s_if_eq C 68 (by decide) dX11_next_55 ?_ ?_
  · exact s_weak [1, 2, 3, 4, 5, 6] rfl (sm_Mod_next_68 C hV hR v1 v2 v3 v4 v5 t0)
  · refine s_iload_n C rfl dX11_next_58 ?_
    refine s_uI C hV ls_X11_136 (st := []) (met_Mod_isLetter v2) rf_Mod_next_Mod_isLetter rfl rfl (Nat.le_of_ble_eq_true rfl) dX11_next_59 (fun r6 => ?_)
    refine s_if_eq C 68 (by decide) dX11_next_62 ?_ ?_
    · exact s_weak [1, 2, 3, 4, 5, 6] rfl (sm_Mod_next_68 C hV hR v1 v2 v3 v4 v5 t0)
    · refine s_iload C rfl dX11_next_65 ?_
      exact s_ireti hR dX11_next_67
set_option maxRecDepth 20000 in
theorem sm_Mod_next_36 {G : GT} {ad : Nat → Nat} {K : Int32 → Dm → Prop} (C : Cx G rm_Mod_next cX11_next 9 RX11) (hV : Vx G rm_Mod_next ad ZF (0, 0)) (hR : RtI G rm_Mod_next ad ZF (0, 0) cX11_next .int K) (v1 : Int32) (v2 : Int32) (v3 : Int32) (v4 : Int32) (v5 : Int32) : Sm G rm_Mod_next ad ZF (0, 0) K 36 [(1, .int v1), (2, .int v2), (3, .int v3), (4, .int v4), (5, .int v5)] [] (Mod_next_36 v1 v2 v3 v4 v5) := by
  unfold Mod_next_36
  refine s_iconst C (2 : Int32) (by decide) dX11_next_36 ?_
  refine s_goto C 51 (by decide) dX11_next_37 ?_
  exact s_weak [1, 2, 3, 4, 5] rfl (sm_Mod_next_51 C hV hR v1 v2 v3 v4 v5 (2 : Int32))
set_option maxRecDepth 20000 in
theorem sm_Mod_next_25 {G : GT} {ad : Nat → Nat} {K : Int32 → Dm → Prop} (C : Cx G rm_Mod_next cX11_next 9 RX11) (hV : Vx G rm_Mod_next ad ZF (0, 0)) (hR : RtI G rm_Mod_next ad ZF (0, 0) cX11_next .int K) (v1 : Int32) (v2 : Int32) (v3 : Int32) (v4 : Int32) (t0 : Int32) : Sm G rm_Mod_next ad ZF (0, 0) K 25 [(1, .int v1), (2, .int v2), (3, .int v3), (4, .int v4)] [.int t0] (Mod_next_25 v1 v2 v3 v4 t0) := by
  unfold Mod_next_25
  refine s_istore C (L' := [(5, .int t0), (1, .int v1), (2, .int v2), (3, .int v3), (4, .int v4)]) (by decide) rfl dX11_next_25 ?_
  refine s_iload_n C rfl dX11_next_27 ?_
  refine s_if_eq C 36 (by decide) dX11_next_28 ?_ ?_
  · exact s_weak [1, 2, 3, 4, 5] rfl (sm_Mod_next_36 C hV hR v1 v2 v3 v4 t0)
  · refine s_iload_n C rfl dX11_next_31 ?_
    refine s_iconst C (1 : Int32) (by decide) dX11_next_32 ?_
    refine s_icmp_ne C 40 (by decide) dX11_next_33 ?_ ?_
    · refine s_iload_n C rfl dX11_next_40 ?_
      refine s_iconst C (4 : Int32) (by decide) dX11_next_41 ?_
      refine s_ite (g := fun z => Mod_next_51 v1 v2 v3 v4 t0 z) ?_
      refine s_icmp_ne C 49 (by decide) dX11_next_42 ?_ ?_
      · refine s_bipush C (11 : Int32) (by decide) dX11_next_49 ?_
        exact s_weak [1, 2, 3, 4, 5] rfl (sm_Mod_next_51 C hV hR v1 v2 v3 v4 t0 (11 : Int32))
      · refine s_iconst C (5 : Int32) (by decide) dX11_next_45 ?_
        refine s_goto C 51 (by decide) dX11_next_46 ?_
        exact s_weak [1, 2, 3, 4, 5] rfl (sm_Mod_next_51 C hV hR v1 v2 v3 v4 t0 (5 : Int32))
    · exact s_weak [1, 2, 3, 4, 5] rfl (sm_Mod_next_36 C hV hR v1 v2 v3 v4 t0)
set_option maxRecDepth 20000 in
theorem sm_Mod_next_20 {G : GT} {ad : Nat → Nat} {K : Int32 → Dm → Prop} (C : Cx G rm_Mod_next cX11_next 9 RX11) (hV : Vx G rm_Mod_next ad ZF (0, 0)) (hR : RtI G rm_Mod_next ad ZF (0, 0) cX11_next .int K) (v1 : Int32) (v2 : Int32) (v3 : Int32) (v4 : Int32) : Sm G rm_Mod_next ad ZF (0, 0) K 20 [(1, .int v1), (2, .int v2), (3, .int v3), (4, .int v4)] [] (Mod_next_20 v1 v2 v3 v4) := by
  unfold Mod_next_20
  refine s_iconst C (1 : Int32) (by decide) dX11_next_20 ?_
  refine s_goto C 25 (by decide) dX11_next_21 ?_
  exact s_weak [1, 2, 3, 4] rfl (sm_Mod_next_25 C hV hR v1 v2 v3 v4 (1 : Int32))
set_option maxRecDepth 20000 in
theorem sm_Mod_next_e {G : GT} {ad : Nat → Nat} {K : Int32 → Dm → Prop} (C : Cx G rm_Mod_next cX11_next 9 RX11) (hV : Vx G rm_Mod_next ad ZF (0, 0)) (hR : RtI G rm_Mod_next ad ZF (0, 0) cX11_next .int K) (v1 : Int32) (v2 : Int32) (v3 : Int32) (v4 : Int32) : Sm G rm_Mod_next ad ZF (0, 0) K 0 [(1, .int v1), (2, .int v2), (3, .int v3), (4, .int v4)] [] (Mod_next_e v1 v2 v3 v4) := by
  unfold Mod_next_e
  refine s_iload_n C rfl dX11_next_0 ?_
  refine s_if_eq C 20 (by decide) dX11_next_1 ?_ ?_
  · exact s_weak [1, 2, 3, 4] rfl (sm_Mod_next_20 C hV hR v1 v2 v3 v4)
  · refine s_iload_n C rfl dX11_next_4 ?_
    refine s_iconst C (1 : Int32) (by decide) dX11_next_5 ?_
    refine s_icmp_eq C 20 (by decide) dX11_next_6 ?_ ?_
    · exact s_weak [1, 2, 3, 4] rfl (sm_Mod_next_20 C hV hR v1 v2 v3 v4)
    · refine s_iload_n C rfl dX11_next_9 ?_
      refine s_iconst C (4 : Int32) (by decide) dX11_next_10 ?_
      refine s_icmp_eq C 20 (by decide) dX11_next_11 ?_ ?_
      · exact s_weak [1, 2, 3, 4] rfl (sm_Mod_next_20 C hV hR v1 v2 v3 v4)
      · refine s_iload_n C rfl dX11_next_14 ?_
        refine s_bipush C (10 : Int32) (by decide) dX11_next_15 ?_
        refine s_icmp_ne C 24 (by decide) dX11_next_17 ?_ ?_
        · refine s_iconst C (0 : Int32) (by decide) dX11_next_24 ?_
          exact s_weak [1, 2, 3, 4] rfl (sm_Mod_next_25 C hV hR v1 v2 v3 v4 (0 : Int32))
        · exact s_weak [1, 2, 3, 4] rfl (sm_Mod_next_20 C hV hR v1 v2 v3 v4)
set_option maxRecDepth 20000 in
theorem met_Mod_next (v0 : Nat) (v1 : Int32) (v2 : Int32) (v3 : Int32) (v4 : Int32) : MI ZF yX11_next cX11_next 9 .int rm_Mod_next [.ref v0, .int v1, .int v2, .int v3, .int v4] (Mod_next v0 v1 v2 v3 v4) :=
  mi_of (L0 := [(0, .ref v0), (1, .int v1), (2, .int v2), (3, .int v3), (4, .int v4)]) (by decide +kernel) (Nat.le_of_ble_eq_true rfl) rfl (fun G ad K C hV hR => s_weak [1, 2, 3, 4] rfl (sm_Mod_next_e C hV hR v1 v2 v3 v4))

noncomputable def Mod_readText_156 (t0 : Nat) (t1 : Int32) : MM Unit :=
  mb (pZ ZF 12 18 t0 t1) fun _ =>
  mp ()
noncomputable def Mod_readText_155 (t0 : Nat) : MM Unit :=
  Mod_readText_156 t0 (0 : Int32)
noncomputable def Mod_readText_151 (t0 : Nat) : MM Unit :=
  Mod_readText_156 t0 (1 : Int32)
noncomputable def Mod_readText_103 (v0 : Nat) (v1 : Int32) (v2 : Int32) (v3 : Int32) (v4 : Int32) : MM Unit :=
  mb (pI ZF 12 17 v0 v4) fun _ =>
  mb (gI ZF 12 4 v0) fun x6 =>
  if v4 = x6 then
  if v3 = 0 then
  if v1 = 0 then
  mb ((Mod_in v2 (5 : Int32) (7 : Int32))) fun r8 =>
  if r8 = 0 then
  Mod_readText_155 v0
  else
  Mod_readText_151 v0
  else
  mb ((Mod_in v2 (11 : Int32) (12 : Int32))) fun r7 =>
  if r7 = 0 then
  Mod_readText_155 v0
  else
  Mod_readText_151 v0
  else
  Mod_readText_155 v0
  else
  Mod_readText_155 v0
noncomputable def Mod_readText_100 (v0 : Nat) (v1 : Int32) (v2 : Int32) (v3 : Int32) (v4 : Int32) (v5 : Int32) : MM ((Int32 × Int32 × Int32 × Int32) ⊕ Unit) :=
  mp (.inl (v2, v3, v4, v5))
noncomputable def Mod_readText_92 (v0 : Nat) (v1 : Int32) (v4 : Int32) (v5 : Int32) (v6 : Int32) (t0 : Int32) (t1 : Int32) : MM ((Int32 × Int32 × Int32 × Int32) ⊕ Unit) :=
  ml (t0 + t1) fun x16 =>
  ml (v4 + (1 : Int32)) fun x17 =>
  Mod_readText_100 v0 v1 v6 x16 x17 v5
noncomputable def Mod_readText_51 (v0 : Nat) (v1 : Int32) (v2 : Int32) (v3 : Int32) (v4 : Int32) (v6 : Int32) (t0 : Int32) : MM ((Int32 × Int32 × Int32 × Int32) ⊕ Unit) :=
  if t0 = 0 then
  Mod_readText_100 v0 v1 v2 v3 v4 t0
  else
  mb (gR ZF 12 5 v0) fun x12 =>
  mb (aI ZF 21 x12 v4) fun x13 =>
  if x13 = (40 : Int32) then
  Mod_readText_92 v0 v1 v4 t0 v6 v3 (1 : Int32)
  else
  mb (gR ZF 12 5 v0) fun x14 =>
  mb (aI ZF 21 x14 v4) fun x15 =>
  Mod_readText_92 v0 v1 v4 t0 v6 v3 (if x15 = (41 : Int32) then ((-1) : Int32) else (0 : Int32))
noncomputable def Mod_readText_10_b (v0 : Nat) (v1 : Int32) (v2 : Int32) (v3 : Int32) (v4 : Int32) (v5 : Int32) : MM ((Int32 × Int32 × Int32 × Int32) ⊕ Unit) :=
  mb (gI ZF 12 4 v0) fun x5 =>
  if x5 ≤ v4 then
  mr (Mod_readText_103 v0 v1 v2 v3 v4)
  else
  if v5 = 0 then
  mr (Mod_readText_103 v0 v1 v2 v3 v4)
  else
  mb (gR ZF 12 5 v0) fun x9 =>
  mb (aI ZF 21 x9 v4) fun x10 =>
  mb (vc ZF 12 v0 (Mod_next v0 v2 x10 v1 v3)) fun r11 =>
  Mod_readText_51 v0 v1 v2 v3 v4 r11 (if r11 = ((-1) : Int32) then (0 : Int32) else (1 : Int32))
noncomputable def Mod_readText_10 (v0 : Nat) (v1 : Int32) (s : (Int32 × Int32 × Int32 × Int32)) : MM Unit := lo (fun (s : (Int32 × Int32 × Int32 × Int32)) => Mod_readText_10_b v0 v1 s.1 s.2.1 s.2.2.1 s.2.2.2) s
noncomputable def Mod_readText (v0 : Nat) (v1 : Int32) : MM Unit :=
  ml (0 : Int32) fun x1 =>
  ml (0 : Int32) fun x2 =>
  ml (0 : Int32) fun x3 =>
  ml (1 : Int32) fun x4 =>
  Mod_readText_10 v0 v1 (x1, x2, x3, x4)
set_option maxRecDepth 20000 in
theorem sm_Mod_readText_156 {G : GT} {ad : Nat → Nat} {K : Unit → Dm → Prop} (C : Cx G rm_Mod_readText cX11_readText 7 RX11) (hV : Vx G rm_Mod_readText ad ZF (0, 0)) (hR : RtV G rm_Mod_readText ad ZF (0, 0) cX11_readText K) (t0 : Nat) (t1 : Int32) : Sm G rm_Mod_readText ad ZF (0, 0) K 156 [] [.int t1, .ref t0] (Mod_readText_156 t0 t1) := by
  unfold Mod_readText_156
  refine s_putZ C hV fw_X11_152 rfl dX11_readText_156 ?_
  exact s_vret hR dX11_readText_159
set_option maxRecDepth 20000 in
theorem sm_Mod_readText_155 {G : GT} {ad : Nat → Nat} {K : Unit → Dm → Prop} (C : Cx G rm_Mod_readText cX11_readText 7 RX11) (hV : Vx G rm_Mod_readText ad ZF (0, 0)) (hR : RtV G rm_Mod_readText ad ZF (0, 0) cX11_readText K) (t0 : Nat) : Sm G rm_Mod_readText ad ZF (0, 0) K 155 [] [.ref t0] (Mod_readText_155 t0) := by
  unfold Mod_readText_155
  refine s_iconst C (0 : Int32) (by decide) dX11_readText_155 ?_
  exact s_weak [] rfl (sm_Mod_readText_156 C hV hR t0 (0 : Int32))
set_option maxRecDepth 20000 in
theorem sm_Mod_readText_151 {G : GT} {ad : Nat → Nat} {K : Unit → Dm → Prop} (C : Cx G rm_Mod_readText cX11_readText 7 RX11) (hV : Vx G rm_Mod_readText ad ZF (0, 0)) (hR : RtV G rm_Mod_readText ad ZF (0, 0) cX11_readText K) (t0 : Nat) : Sm G rm_Mod_readText ad ZF (0, 0) K 151 [] [.ref t0] (Mod_readText_151 t0) := by
  unfold Mod_readText_151
  refine s_iconst C (1 : Int32) (by decide) dX11_readText_151 ?_
  refine s_goto C 156 (by decide) dX11_readText_152 ?_
  exact s_weak [] rfl (sm_Mod_readText_156 C hV hR t0 (1 : Int32))
set_option maxRecDepth 20000 in
theorem sm_Mod_readText_103 {G : GT} {ad : Nat → Nat} {K : Unit → Dm → Prop} (C : Cx G rm_Mod_readText cX11_readText 7 RX11) (hV : Vx G rm_Mod_readText ad ZF (0, 0)) (hR : RtV G rm_Mod_readText ad ZF (0, 0) cX11_readText K) (v0 : Nat) (v1 : Int32) (v2 : Int32) (v3 : Int32) (v4 : Int32) : Sm G rm_Mod_readText ad ZF (0, 0) K 103 [(0, .ref v0), (1, .int v1), (2, .int v2), (3, .int v3), (4, .int v4)] [] (Mod_readText_103 v0 v1 v2 v3 v4) := by
  unfold Mod_readText_103
  refine s_aload_n C rfl dX11_readText_103 ?_
  refine s_iload C rfl dX11_readText_104 ?_
  refine s_putI C hV fw_X11_149 rfl dX11_readText_106 ?_
  refine s_aload_n C rfl dX11_readText_109 ?_
  refine s_iload C rfl dX11_readText_110 ?_
  refine s_aload_n C rfl dX11_readText_112 ?_
  refine s_getI C hV fl_X11_133 (fun _ _ _ => rfl) dX11_readText_113 (fun x6 => ?_)
  refine s_icmp_ne C 155 (by decide) dX11_readText_116 ?_ ?_
  · exact s_weak [] rfl (sm_Mod_readText_155 C hV hR v0)
  · refine s_iload_n C rfl dX11_readText_119 ?_
    refine s_if_ne C 155 (by decide) dX11_readText_120 ?_ ?_
    · exact s_weak [] rfl (sm_Mod_readText_155 C hV hR v0)
    · refine s_iload_n C rfl dX11_readText_123 ?_
      refine s_if_ne C 140 (by decide) dX11_readText_124 ?_ ?_
      · refine s_iload_n C rfl dX11_readText_140 ?_
        refine s_bipush C (11 : Int32) (by decide) dX11_readText_141 ?_
        refine s_bipush C (12 : Int32) (by decide) dX11_readText_143 ?_
        refine s_uI C hV ls_X11_89 (st := [.ref v0]) (met_Mod_in v2 (11 : Int32) (12 : Int32)) rf_Mod_readText_Mod_in rfl rfl (Nat.le_of_ble_eq_true rfl) dX11_readText_145 (fun r7 => ?_)
        refine s_if_eq C 155 (by decide) dX11_readText_148 ?_ ?_
        · exact s_weak [] rfl (sm_Mod_readText_155 C hV hR v0)
        · exact s_weak [] rfl (sm_Mod_readText_151 C hV hR v0)
      · refine s_iload_n C rfl dX11_readText_127 ?_
        refine s_iconst C (5 : Int32) (by decide) dX11_readText_128 ?_
        refine s_bipush C (7 : Int32) (by decide) dX11_readText_129 ?_
        refine s_uI C hV ls_X11_89 (st := [.ref v0]) (met_Mod_in v2 (5 : Int32) (7 : Int32)) rf_Mod_readText_Mod_in rfl rfl (Nat.le_of_ble_eq_true rfl) dX11_readText_131 (fun r8 => ?_)
        refine s_if_eq C 155 (by decide) dX11_readText_134 ?_ ?_
        · exact s_weak [] rfl (sm_Mod_readText_155 C hV hR v0)
        · refine s_goto C 151 (by decide) dX11_readText_137 ?_
          exact s_weak [] rfl (sm_Mod_readText_151 C hV hR v0)
set_option maxRecDepth 20000 in
theorem sm_Mod_readText_100 {G : GT} {ad : Nat → Nat} {K : Unit → Dm → Prop} (C : Cx G rm_Mod_readText cX11_readText 7 RX11) (hV : Vx G rm_Mod_readText ad ZF (0, 0)) (hR : RtV G rm_Mod_readText ad ZF (0, 0) cX11_readText K) (v0 : Nat) (v1 : Int32) (v2 : Int32) (v3 : Int32) (v4 : Int32) (v5 : Int32) : Sm G rm_Mod_readText ad ZF (0, 0) (lpK G rm_Mod_readText ad ZF (0, 0) 10 (fun (s : (Int32 × Int32 × Int32 × Int32)) => [(0, .ref v0), (1, .int v1), (2, .int s.1), (3, .int s.2.1), (4, .int s.2.2.1), (5, .int s.2.2.2)]) K) 100 [(0, .ref v0), (1, .int v1), (2, .int v2), (3, .int v3), (4, .int v4), (5, .int v5)] [] (Mod_readText_100 v0 v1 v2 v3 v4 v5) := by
  unfold Mod_readText_100
  refine s_goto C 10 (by decide) dX11_readText_100 ?_
  exact s_back [0, 1, 2, 3, 4, 5] (v2, v3, v4, v5) rfl
set_option maxRecDepth 20000 in
theorem sm_Mod_readText_92 {G : GT} {ad : Nat → Nat} {K : Unit → Dm → Prop} (C : Cx G rm_Mod_readText cX11_readText 7 RX11) (hV : Vx G rm_Mod_readText ad ZF (0, 0)) (hR : RtV G rm_Mod_readText ad ZF (0, 0) cX11_readText K) (v0 : Nat) (v1 : Int32) (v4 : Int32) (v5 : Int32) (v6 : Int32) (t0 : Int32) (t1 : Int32) : Sm G rm_Mod_readText ad ZF (0, 0) (lpK G rm_Mod_readText ad ZF (0, 0) 10 (fun (s : (Int32 × Int32 × Int32 × Int32)) => [(0, .ref v0), (1, .int v1), (2, .int s.1), (3, .int s.2.1), (4, .int s.2.2.1), (5, .int s.2.2.2)]) K) 92 [(0, .ref v0), (1, .int v1), (4, .int v4), (5, .int v5), (6, .int v6)] [.int t1, .int t0] (Mod_readText_92 v0 v1 v4 v5 v6 t0 t1) := by
  unfold Mod_readText_92
  refine s_iadd C dX11_readText_92 ?_
  refine s_leti (fun x16 => ?_)
  refine s_istore_n C (L' := [(3, .int x16), (0, .ref v0), (1, .int v1), (4, .int v4), (5, .int v5), (6, .int v6)]) (by decide) rfl dX11_readText_93 ?_
  refine s_iload C rfl dX11_readText_94 ?_
  refine s_istore_n C (L' := [(2, .int v6), (3, .int x16), (0, .ref v0), (1, .int v1), (4, .int v4), (5, .int v5), (6, .int v6)]) (by decide) rfl dX11_readText_96 ?_
  refine s_iinc C (L' := fun x17 => [(4, .int x17), (2, .int v6), (3, .int x16), (0, .ref v0), (1, .int v1), (5, .int v5), (6, .int v6)]) (1 : Int32) (by decide) rfl (by decide) (fun _ => rfl) dX11_readText_97 (fun x17 => ?_)
  exact s_weak [0, 1, 2, 3, 4, 5] rfl (sm_Mod_readText_100 C hV hR v0 v1 v6 x16 x17 v5)
set_option maxRecDepth 20000 in
theorem sm_Mod_readText_51 {G : GT} {ad : Nat → Nat} {K : Unit → Dm → Prop} (C : Cx G rm_Mod_readText cX11_readText 7 RX11) (hV : Vx G rm_Mod_readText ad ZF (0, 0)) (hR : RtV G rm_Mod_readText ad ZF (0, 0) cX11_readText K) (v0 : Nat) (v1 : Int32) (v2 : Int32) (v3 : Int32) (v4 : Int32) (v6 : Int32) (t0 : Int32) : Sm G rm_Mod_readText ad ZF (0, 0) (lpK G rm_Mod_readText ad ZF (0, 0) 10 (fun (s : (Int32 × Int32 × Int32 × Int32)) => [(0, .ref v0), (1, .int v1), (2, .int s.1), (3, .int s.2.1), (4, .int s.2.2.1), (5, .int s.2.2.2)]) K) 51 [(0, .ref v0), (1, .int v1), (2, .int v2), (3, .int v3), (4, .int v4), (6, .int v6)] [.int t0] (Mod_readText_51 v0 v1 v2 v3 v4 v6 t0) := by
  unfold Mod_readText_51
  refine s_istore C (L' := [(5, .int t0), (0, .ref v0), (1, .int v1), (2, .int v2), (3, .int v3), (4, .int v4), (6, .int v6)]) (by decide) rfl dX11_readText_51 ?_
  refine s_iload C rfl dX11_readText_53 ?_
  refine s_if_eq C 100 (by decide) dX11_readText_55 ?_ ?_
  · exact s_weak [0, 1, 2, 3, 4, 5] rfl (sm_Mod_readText_100 C hV hR v0 v1 v2 v3 v4 t0)
  · refine s_iload_n C rfl dX11_readText_58 ?_
    refine s_aload_n C rfl dX11_readText_59 ?_
    refine s_getR C hV fl_X11_19 (fun _ _ _ => rfl) dX11_readText_60 (fun x12 => ?_)
    refine s_iload C rfl dX11_readText_63 ?_
    refine s_baload C hV dX11_readText_65 (fun x13 => ?_)
    refine s_bipush C (40 : Int32) (by decide) dX11_readText_66 ?_
    refine s_icmp_ne C 75 (by decide) dX11_readText_68 ?_ ?_
    · refine s_aload_n C rfl dX11_readText_75 ?_
      refine s_getR C hV fl_X11_19 (fun _ _ _ => rfl) dX11_readText_76 (fun x14 => ?_)
      refine s_iload C rfl dX11_readText_79 ?_
      refine s_baload C hV dX11_readText_81 (fun x15 => ?_)
      refine s_bipush C (41 : Int32) (by decide) dX11_readText_82 ?_
      refine s_ite (g := fun z => Mod_readText_92 v0 v1 v4 t0 v6 v3 z) ?_
      refine s_icmp_ne C 91 (by decide) dX11_readText_84 ?_ ?_
      · refine s_iconst C (0 : Int32) (by decide) dX11_readText_91 ?_
        exact s_weak [0, 1, 4, 5, 6] rfl (sm_Mod_readText_92 C hV hR v0 v1 v4 t0 v6 v3 (0 : Int32))
      · refine s_iconst C ((-1) : Int32) (by decide) dX11_readText_87 ?_
        refine s_goto C 92 (by decide) dX11_readText_88 ?_
        exact s_weak [0, 1, 4, 5, 6] rfl (sm_Mod_readText_92 C hV hR v0 v1 v4 t0 v6 v3 ((-1) : Int32))
    · refine s_iconst C (1 : Int32) (by decide) dX11_readText_71 ?_
      refine s_goto C 92 (by decide) dX11_readText_72 ?_
      exact s_weak [0, 1, 4, 5, 6] rfl (sm_Mod_readText_92 C hV hR v0 v1 v4 t0 v6 v3 (1 : Int32))
set_option maxRecDepth 20000 in
theorem sm_Mod_readText_10_b {G : GT} {ad : Nat → Nat} {K : Unit → Dm → Prop} (C : Cx G rm_Mod_readText cX11_readText 7 RX11) (hV : Vx G rm_Mod_readText ad ZF (0, 0)) (hR : RtV G rm_Mod_readText ad ZF (0, 0) cX11_readText K) (v0 : Nat) (v1 : Int32) (v2 : Int32) (v3 : Int32) (v4 : Int32) (v5 : Int32) : Sm G rm_Mod_readText ad ZF (0, 0) (lpK G rm_Mod_readText ad ZF (0, 0) 10 (fun (s : (Int32 × Int32 × Int32 × Int32)) => [(0, .ref v0), (1, .int v1), (2, .int s.1), (3, .int s.2.1), (4, .int s.2.2.1), (5, .int s.2.2.2)]) K) 10 [(0, .ref v0), (1, .int v1), (2, .int v2), (3, .int v3), (4, .int v4), (5, .int v5)] [] (Mod_readText_10_b v0 v1 v2 v3 v4 v5) := by
  unfold Mod_readText_10_b
  refine s_iload C rfl dX11_readText_10 ?_
  refine s_aload_n C rfl dX11_readText_12 ?_
  refine s_getI C hV fl_X11_133 (fun _ _ _ => rfl) dX11_readText_13 (fun x5 => ?_)
  refine s_icmp_ge C 103 (by decide) dX11_readText_16 ?_ ?_
  · refine s_exit ?_
    exact s_weak [0, 1, 2, 3, 4] rfl (sm_Mod_readText_103 C hV hR v0 v1 v2 v3 v4)
  · refine s_iload C rfl dX11_readText_19 ?_
    refine s_if_eq C 103 (by decide) dX11_readText_21 ?_ ?_
    · refine s_exit ?_
      exact s_weak [0, 1, 2, 3, 4] rfl (sm_Mod_readText_103 C hV hR v0 v1 v2 v3 v4)
    · refine s_aload_n C rfl dX11_readText_24 ?_
      refine s_iload_n C rfl dX11_readText_25 ?_
      refine s_aload_n C rfl dX11_readText_26 ?_
      refine s_getR C hV fl_X11_19 (fun _ _ _ => rfl) dX11_readText_27 (fun x9 => ?_)
      refine s_iload C rfl dX11_readText_30 ?_
      refine s_baload C hV dX11_readText_32 (fun x10 => ?_)
      refine s_iload_n C rfl dX11_readText_33 ?_
      refine s_iload_n C rfl dX11_readText_34 ?_
      refine s_wI C hV lv_X11_145 (st := []) (met_Mod_next v0 v2 x10 v1 v3) rf_Mod_readText_Mod_next rfl rfl (Nat.le_of_ble_eq_true rfl) dX11_readText_35 (fun r11 => ?_)
      refine s_istore C (L' := [(6, .int r11), (0, .ref v0), (1, .int v1), (2, .int v2), (3, .int v3), (4, .int v4), (5, .int v5)]) (by decide) rfl dX11_readText_38 ?_
      refine s_iload C rfl dX11_readText_40 ?_
      refine s_iconst C ((-1) : Int32) (by decide) dX11_readText_42 ?_
      refine s_ite (g := fun z => Mod_readText_51 v0 v1 v2 v3 v4 r11 z) ?_
      refine s_icmp_eq C 50 (by decide) dX11_readText_43 ?_ ?_
      · refine s_iconst C (0 : Int32) (by decide) dX11_readText_50 ?_
        exact s_weak [0, 1, 2, 3, 4, 6] rfl (sm_Mod_readText_51 C hV hR v0 v1 v2 v3 v4 r11 (0 : Int32))
      · refine s_iconst C (1 : Int32) (by decide) dX11_readText_46 ?_
        refine s_goto C 51 (by decide) dX11_readText_47 ?_
        exact s_weak [0, 1, 2, 3, 4, 6] rfl (sm_Mod_readText_51 C hV hR v0 v1 v2 v3 v4 r11 (1 : Int32))
set_option maxRecDepth 20000 in
theorem sm_Mod_readText_10 {G : GT} {ad : Nat → Nat} {K : Unit → Dm → Prop} (C : Cx G rm_Mod_readText cX11_readText 7 RX11) (hV : Vx G rm_Mod_readText ad ZF (0, 0)) (hR : RtV G rm_Mod_readText ad ZF (0, 0) cX11_readText K) (v0 : Nat) (v1 : Int32) (s : (Int32 × Int32 × Int32 × Int32)) : Sm G rm_Mod_readText ad ZF (0, 0) K 10 ((fun (s : (Int32 × Int32 × Int32 × Int32)) => [(0, .ref v0), (1, .int v1), (2, .int s.1), (3, .int s.2.1), (4, .int s.2.2.1), (5, .int s.2.2.2)]) s) [] (Mod_readText_10 v0 v1 s) :=
  s_loop (en := (fun (s : (Int32 × Int32 × Int32 × Int32)) => [(0, .ref v0), (1, .int v1), (2, .int s.1), (3, .int s.2.1), (4, .int s.2.2.1), (5, .int s.2.2.2)])) (fun s => sm_Mod_readText_10_b C hV hR v0 v1 s.1 s.2.1 s.2.2.1 s.2.2.2) s
set_option maxRecDepth 20000 in
theorem sm_Mod_readText {G : GT} {ad : Nat → Nat} {K : Unit → Dm → Prop} (C : Cx G rm_Mod_readText cX11_readText 7 RX11) (hV : Vx G rm_Mod_readText ad ZF (0, 0)) (hR : RtV G rm_Mod_readText ad ZF (0, 0) cX11_readText K) (v0 : Nat) (v1 : Int32) : Sm G rm_Mod_readText ad ZF (0, 0) K 0 [(0, .ref v0), (1, .int v1)] [] (Mod_readText v0 v1) := by
  unfold Mod_readText
  refine s_iconst C (0 : Int32) (by decide) dX11_readText_0 ?_
  refine s_leti (fun x1 => ?_)
  refine s_istore_n C (L' := [(2, .int x1), (0, .ref v0), (1, .int v1)]) (by decide) rfl dX11_readText_1 ?_
  refine s_iconst C (0 : Int32) (by decide) dX11_readText_2 ?_
  refine s_leti (fun x2 => ?_)
  refine s_istore_n C (L' := [(3, .int x2), (2, .int x1), (0, .ref v0), (1, .int v1)]) (by decide) rfl dX11_readText_3 ?_
  refine s_iconst C (0 : Int32) (by decide) dX11_readText_4 ?_
  refine s_leti (fun x3 => ?_)
  refine s_istore C (L' := [(4, .int x3), (3, .int x2), (2, .int x1), (0, .ref v0), (1, .int v1)]) (by decide) rfl dX11_readText_5 ?_
  refine s_iconst C (1 : Int32) (by decide) dX11_readText_7 ?_
  refine s_leti (fun x4 => ?_)
  refine s_istore C (L' := [(5, .int x4), (4, .int x3), (3, .int x2), (2, .int x1), (0, .ref v0), (1, .int v1)]) (by decide) rfl dX11_readText_8 ?_
  exact s_weak [0, 1, 2, 3, 4, 5] rfl (sm_Mod_readText_10 C hV hR v0 v1 (x1, x2, x3, x4))
set_option maxRecDepth 20000 in
theorem met_Mod_readText (v0 : Nat) (v1 : Int32) : MV ZF yX11_readText cX11_readText 7 rm_Mod_readText [.ref v0, .int v1] (Mod_readText v0 v1) :=
  mv_of (L0 := [(0, .ref v0), (1, .int v1)]) (by decide +kernel) (Nat.le_of_ble_eq_true rfl) rfl (fun G ad K C hV hR => sm_Mod_readText C hV hR v0 v1)

noncomputable def Mod_good (v0 : Nat) (v1 : Int32) : MM Int32 :=
  mb ((Mod_in v1 (0 : Int32) (1 : Int32))) fun r1 =>
  if r1 = 0 then
  mp ((-102) : Int32)
  else
  mb (vc ZF 12 v0 (Mod_readText v0 v1)) fun _ =>
  mb (gI ZF 12 17 v0) fun x2 =>
  mp x2
set_option maxRecDepth 20000 in
theorem sm_Mod_good {G : GT} {ad : Nat → Nat} {K : Int32 → Dm → Prop} (C : Cx G rm_Mod_good cX11_good 2 RX11) (hV : Vx G rm_Mod_good ad ZF (0, 0)) (hR : RtI G rm_Mod_good ad ZF (0, 0) cX11_good .int K) (v0 : Nat) (v1 : Int32) : Sm G rm_Mod_good ad ZF (0, 0) K 0 [(0, .ref v0), (1, .int v1)] [] (Mod_good v0 v1) := by
  unfold Mod_good
  refine s_iload_n C rfl dX11_good_0 ?_
  refine s_iconst C (0 : Int32) (by decide) dX11_good_1 ?_
  refine s_iconst C (1 : Int32) (by decide) dX11_good_2 ?_
  refine s_uI C hV ls_X11_89 (st := []) (met_Mod_in v1 (0 : Int32) (1 : Int32)) rf_Mod_good_Mod_in rfl rfl (Nat.le_of_ble_eq_true rfl) dX11_good_3 (fun r1 => ?_)
  refine s_if_ne C 12 (by decide) dX11_good_6 ?_ ?_
  · refine s_aload_n C rfl dX11_good_12 ?_
    refine s_iload_n C rfl dX11_good_13 ?_
    refine s_wV C hV lv_X11_155 (st := []) (met_Mod_readText v0 v1) rf_Mod_good_Mod_readText rfl rfl (Nat.le_of_ble_eq_true rfl) dX11_good_14 ?_
    refine s_aload_n C rfl dX11_good_17 ?_
    refine s_getI C hV fl_X11_149 (fun _ _ _ => rfl) dX11_good_18 (fun x2 => ?_)
    exact s_ireti hR dX11_good_21
  · refine s_bipush C ((-102) : Int32) (by decide) dX11_good_9 ?_
    exact s_ireti hR dX11_good_11
set_option maxRecDepth 20000 in
theorem met_Mod_good (v0 : Nat) (v1 : Int32) : MI ZF yX11_good cX11_good 2 .int rm_Mod_good [.ref v0, .int v1] (Mod_good v0 v1) :=
  mi_of (L0 := [(0, .ref v0), (1, .int v1)]) (by decide +kernel) (Nat.le_of_ble_eq_true rfl) rfl (fun G ad K C hV hR => sm_Mod_good C hV hR v0 v1)

noncomputable def Mod_rule_29_b (v0 : Nat) (v1 : Int32) : MM (Int32 ⊕ Int32) :=
  mb (gI ZF 12 4 v0) fun x4 =>
  if x4 ≤ v1 then
  mr (
  mb (gR ZF 12 8 v0) fun x5 =>
  mb (gI ZF 12 6 v0) fun x6 =>
  mb (gI ZF 12 4 v0) fun x7 =>
  mb (sI ZF x5 x6 x7) fun _ =>
  mb (gR ZF 12 9 v0) fun x8 =>
  mb (gI ZF 12 6 v0) fun x9 =>
  mb (sZ ZF x8 x9 (0 : Int32)) fun _ =>
  mb (gI ZF 12 6 v0) fun x10 =>
  mb (pI ZF 12 6 v0 (x10 + (1 : Int32))) fun _ =>
  mb (pI ZF 12 4 v0 (0 : Int32)) fun _ =>
  mb (pZ ZF 12 27 v0 (0 : Int32)) fun _ =>
  mb (gI ZF 12 6 v0) fun x11 =>
  mp (x11 - (1 : Int32)))
  else
  mb (gR ZF 12 7 v0) fun x12 =>
  mb (gI ZF 12 6 v0) fun x13 =>
  mb (gR ZF 12 5 v0) fun x14 =>
  mb (aI ZF 21 x14 v1) fun x15 =>
  mb (sB ZF x12 (((60 : Int32) * x13) + v1) x15) fun _ =>
  ml (v1 + (1 : Int32)) fun x16 =>
  mp (.inl x16)
noncomputable def Mod_rule_29 (v0 : Nat) (s : Int32) : MM Int32 := lo (fun (s : Int32) => Mod_rule_29_b v0 s) s
noncomputable def Mod_rule (v0 : Nat) : MM Int32 :=
  mb (vc ZF 12 v0 (Mod_readText v0 (0 : Int32))) fun _ =>
  mb (gI ZF 12 18 v0) fun x1 =>
  if x1 = 0 then
  mp ((-103) : Int32)
  else
  mb (gI ZF 12 6 v0) fun x2 =>
  if x2 = (6 : Int32) then
  mp ((-104) : Int32)
  else
  ml (0 : Int32) fun x3 =>
  Mod_rule_29 v0 x3
set_option maxRecDepth 20000 in
theorem sm_Mod_rule_29_b {G : GT} {ad : Nat → Nat} {K : Int32 → Dm → Prop} (C : Cx G rm_Mod_rule cX11_rule 2 RX11) (hV : Vx G rm_Mod_rule ad ZF (0, 0)) (hR : RtI G rm_Mod_rule ad ZF (0, 0) cX11_rule .int K) (v0 : Nat) (v1 : Int32) : Sm G rm_Mod_rule ad ZF (0, 0) (lpK G rm_Mod_rule ad ZF (0, 0) 29 (fun (s : Int32) => [(0, .ref v0), (1, .int s)]) K) 29 [(0, .ref v0), (1, .int v1)] [] (Mod_rule_29_b v0 v1) := by
  unfold Mod_rule_29_b
  refine s_iload_n C rfl dX11_rule_29 ?_
  refine s_aload_n C rfl dX11_rule_30 ?_
  refine s_getI C hV fl_X11_133 (fun _ _ _ => rfl) dX11_rule_31 (fun x4 => ?_)
  refine s_icmp_ge C 63 (by decide) dX11_rule_34 ?_ ?_
  · refine s_exit ?_
    refine s_aload_n C rfl dX11_rule_63 ?_
    refine s_getR C hV fl_X11_26 (fun _ _ _ => rfl) dX11_rule_64 (fun x5 => ?_)
    refine s_aload_n C rfl dX11_rule_67 ?_
    refine s_getI C hV fl_X11_111 (fun _ _ _ => rfl) dX11_rule_68 (fun x6 => ?_)
    refine s_aload_n C rfl dX11_rule_71 ?_
    refine s_getI C hV fl_X11_133 (fun _ _ _ => rfl) dX11_rule_72 (fun x7 => ?_)
    refine s_iastore C hV dX11_rule_75 ?_
    refine s_aload_n C rfl dX11_rule_76 ?_
    refine s_getR C hV fl_X11_29 (fun _ _ _ => rfl) dX11_rule_77 (fun x8 => ?_)
    refine s_aload_n C rfl dX11_rule_80 ?_
    refine s_getI C hV fl_X11_111 (fun _ _ _ => rfl) dX11_rule_81 (fun x9 => ?_)
    refine s_iconst C (0 : Int32) (by decide) dX11_rule_84 ?_
    refine s_zastore C hV dX11_rule_85 ?_
    refine s_aload_n C rfl dX11_rule_86 ?_
    refine s_dupr C dX11_rule_87 ?_
    refine s_getI C hV fl_X11_111 (fun _ _ _ => rfl) dX11_rule_88 (fun x10 => ?_)
    refine s_iconst C (1 : Int32) (by decide) dX11_rule_91 ?_
    refine s_iadd C dX11_rule_92 ?_
    refine s_putI C hV fw_X11_111 rfl dX11_rule_93 ?_
    refine s_aload_n C rfl dX11_rule_96 ?_
    refine s_iconst C (0 : Int32) (by decide) dX11_rule_97 ?_
    refine s_putI C hV fw_X11_133 rfl dX11_rule_98 ?_
    refine s_aload_n C rfl dX11_rule_101 ?_
    refine s_iconst C (0 : Int32) (by decide) dX11_rule_102 ?_
    refine s_putZ C hV fw_X11_100 rfl dX11_rule_103 ?_
    refine s_aload_n C rfl dX11_rule_106 ?_
    refine s_getI C hV fl_X11_111 (fun _ _ _ => rfl) dX11_rule_107 (fun x11 => ?_)
    refine s_iconst C (1 : Int32) (by decide) dX11_rule_110 ?_
    refine s_isub C dX11_rule_111 ?_
    exact s_ireti hR dX11_rule_112
  · refine s_aload_n C rfl dX11_rule_37 ?_
    refine s_getR C hV fl_X11_23 (fun _ _ _ => rfl) dX11_rule_38 (fun x12 => ?_)
    refine s_bipush C (60 : Int32) (by decide) dX11_rule_41 ?_
    refine s_aload_n C rfl dX11_rule_43 ?_
    refine s_getI C hV fl_X11_111 (fun _ _ _ => rfl) dX11_rule_44 (fun x13 => ?_)
    refine s_imul C dX11_rule_47 ?_
    refine s_iload_n C rfl dX11_rule_48 ?_
    refine s_iadd C dX11_rule_49 ?_
    refine s_aload_n C rfl dX11_rule_50 ?_
    refine s_getR C hV fl_X11_19 (fun _ _ _ => rfl) dX11_rule_51 (fun x14 => ?_)
    refine s_iload_n C rfl dX11_rule_54 ?_
    refine s_baload C hV dX11_rule_55 (fun x15 => ?_)
    refine s_bastore C hV dX11_rule_56 ?_
    refine s_iinc C (L' := fun x16 => [(1, .int x16), (0, .ref v0)]) (1 : Int32) (by decide) rfl (by decide) (fun _ => rfl) dX11_rule_57 (fun x16 => ?_)
    refine s_goto C 29 (by decide) dX11_rule_60 ?_
    exact s_back [0, 1] x16 rfl
set_option maxRecDepth 20000 in
theorem sm_Mod_rule_29 {G : GT} {ad : Nat → Nat} {K : Int32 → Dm → Prop} (C : Cx G rm_Mod_rule cX11_rule 2 RX11) (hV : Vx G rm_Mod_rule ad ZF (0, 0)) (hR : RtI G rm_Mod_rule ad ZF (0, 0) cX11_rule .int K) (v0 : Nat) (s : Int32) : Sm G rm_Mod_rule ad ZF (0, 0) K 29 ((fun (s : Int32) => [(0, .ref v0), (1, .int s)]) s) [] (Mod_rule_29 v0 s) :=
  s_loop (en := (fun (s : Int32) => [(0, .ref v0), (1, .int s)])) (fun s => sm_Mod_rule_29_b C hV hR v0 s) s
set_option maxRecDepth 20000 in
theorem sm_Mod_rule {G : GT} {ad : Nat → Nat} {K : Int32 → Dm → Prop} (C : Cx G rm_Mod_rule cX11_rule 2 RX11) (hV : Vx G rm_Mod_rule ad ZF (0, 0)) (hR : RtI G rm_Mod_rule ad ZF (0, 0) cX11_rule .int K) (v0 : Nat) : Sm G rm_Mod_rule ad ZF (0, 0) K 0 [(0, .ref v0)] [] (Mod_rule v0) := by
  unfold Mod_rule
  refine s_aload_n C rfl dX11_rule_0 ?_
  refine s_iconst C (0 : Int32) (by decide) dX11_rule_1 ?_
  refine s_wV C hV lv_X11_155 (st := []) (met_Mod_readText v0 (0 : Int32)) rf_Mod_rule_Mod_readText rfl rfl (Nat.le_of_ble_eq_true rfl) dX11_rule_2 ?_
  refine s_aload_n C rfl dX11_rule_5 ?_
  refine s_getI C hV fl_X11_152 (fun _ _ _ => rfl) dX11_rule_6 (fun x1 => ?_)
  refine s_if_ne C 15 (by decide) dX11_rule_9 ?_ ?_
  · refine s_aload_n C rfl dX11_rule_15 ?_
    refine s_getI C hV fl_X11_111 (fun _ _ _ => rfl) dX11_rule_16 (fun x2 => ?_)
    refine s_bipush C (6 : Int32) (by decide) dX11_rule_19 ?_
    refine s_icmp_ne C 27 (by decide) dX11_rule_21 ?_ ?_
    · refine s_iconst C (0 : Int32) (by decide) dX11_rule_27 ?_
      refine s_leti (fun x3 => ?_)
      refine s_istore_n C (L' := [(1, .int x3), (0, .ref v0)]) (by decide) rfl dX11_rule_28 ?_
      exact s_weak [0, 1] rfl (sm_Mod_rule_29 C hV hR v0 x3)
    · refine s_bipush C ((-104) : Int32) (by decide) dX11_rule_24 ?_
      exact s_ireti hR dX11_rule_26
  · refine s_bipush C ((-103) : Int32) (by decide) dX11_rule_12 ?_
    exact s_ireti hR dX11_rule_14
set_option maxRecDepth 20000 in
theorem met_Mod_rule (v0 : Nat) : MI ZF yX11_rule cX11_rule 2 .int rm_Mod_rule [.ref v0] (Mod_rule v0) :=
  mi_of (L0 := [(0, .ref v0)]) (by decide +kernel) (Nat.le_of_ble_eq_true rfl) rfl (fun G ad K C hV hR => sm_Mod_rule C hV hR v0)

noncomputable def Mod_step_29_b (v0 : Nat) (v1 : Int32) : MM (Int32 ⊕ Int32) :=
  mb (gI ZF 12 4 v0) fun x4 =>
  if x4 ≤ v1 then
  mr (
  mb (gR ZF 12 12 v0) fun x5 =>
  mb (gI ZF 12 10 v0) fun x6 =>
  mb (gI ZF 12 4 v0) fun x7 =>
  mb (sI ZF x5 x6 x7) fun _ =>
  mb (gI ZF 12 10 v0) fun x8 =>
  mb (pI ZF 12 10 v0 (x8 + (1 : Int32))) fun _ =>
  mb (pI ZF 12 4 v0 (0 : Int32)) fun _ =>
  mb (pZ ZF 12 27 v0 (0 : Int32)) fun _ =>
  mb (gI ZF 12 10 v0) fun x9 =>
  mp (x9 - (1 : Int32)))
  else
  mb (gR ZF 12 11 v0) fun x10 =>
  mb (gI ZF 12 10 v0) fun x11 =>
  mb (gR ZF 12 5 v0) fun x12 =>
  mb (aI ZF 21 x12 v1) fun x13 =>
  mb (sB ZF x10 (((60 : Int32) * x11) + v1) x13) fun _ =>
  ml (v1 + (1 : Int32)) fun x14 =>
  mp (.inl x14)
noncomputable def Mod_step_29 (v0 : Nat) (s : Int32) : MM Int32 := lo (fun (s : Int32) => Mod_step_29_b v0 s) s
noncomputable def Mod_step (v0 : Nat) : MM Int32 :=
  mb (vc ZF 12 v0 (Mod_readText v0 (1 : Int32))) fun _ =>
  mb (gI ZF 12 18 v0) fun x1 =>
  if x1 = 0 then
  mp ((-103) : Int32)
  else
  mb (gI ZF 12 10 v0) fun x2 =>
  if x2 = (8 : Int32) then
  mp ((-104) : Int32)
  else
  ml (0 : Int32) fun x3 =>
  Mod_step_29 v0 x3
set_option maxRecDepth 20000 in
theorem sm_Mod_step_29_b {G : GT} {ad : Nat → Nat} {K : Int32 → Dm → Prop} (C : Cx G rm_Mod_step cX11_step 2 RX11) (hV : Vx G rm_Mod_step ad ZF (0, 0)) (hR : RtI G rm_Mod_step ad ZF (0, 0) cX11_step .int K) (v0 : Nat) (v1 : Int32) : Sm G rm_Mod_step ad ZF (0, 0) (lpK G rm_Mod_step ad ZF (0, 0) 29 (fun (s : Int32) => [(0, .ref v0), (1, .int s)]) K) 29 [(0, .ref v0), (1, .int v1)] [] (Mod_step_29_b v0 v1) := by
  unfold Mod_step_29_b
  refine s_iload_n C rfl dX11_step_29 ?_
  refine s_aload_n C rfl dX11_step_30 ?_
  refine s_getI C hV fl_X11_133 (fun _ _ _ => rfl) dX11_step_31 (fun x4 => ?_)
  refine s_icmp_ge C 63 (by decide) dX11_step_34 ?_ ?_
  · refine s_exit ?_
    refine s_aload_n C rfl dX11_step_63 ?_
    refine s_getR C hV fl_X11_36 (fun _ _ _ => rfl) dX11_step_64 (fun x5 => ?_)
    refine s_aload_n C rfl dX11_step_67 ?_
    refine s_getI C hV fl_X11_159 (fun _ _ _ => rfl) dX11_step_68 (fun x6 => ?_)
    refine s_aload_n C rfl dX11_step_71 ?_
    refine s_getI C hV fl_X11_133 (fun _ _ _ => rfl) dX11_step_72 (fun x7 => ?_)
    refine s_iastore C hV dX11_step_75 ?_
    refine s_aload_n C rfl dX11_step_76 ?_
    refine s_dupr C dX11_step_77 ?_
    refine s_getI C hV fl_X11_159 (fun _ _ _ => rfl) dX11_step_78 (fun x8 => ?_)
    refine s_iconst C (1 : Int32) (by decide) dX11_step_81 ?_
    refine s_iadd C dX11_step_82 ?_
    refine s_putI C hV fw_X11_159 rfl dX11_step_83 ?_
    refine s_aload_n C rfl dX11_step_86 ?_
    refine s_iconst C (0 : Int32) (by decide) dX11_step_87 ?_
    refine s_putI C hV fw_X11_133 rfl dX11_step_88 ?_
    refine s_aload_n C rfl dX11_step_91 ?_
    refine s_iconst C (0 : Int32) (by decide) dX11_step_92 ?_
    refine s_putZ C hV fw_X11_100 rfl dX11_step_93 ?_
    refine s_aload_n C rfl dX11_step_96 ?_
    refine s_getI C hV fl_X11_159 (fun _ _ _ => rfl) dX11_step_97 (fun x9 => ?_)
    refine s_iconst C (1 : Int32) (by decide) dX11_step_100 ?_
    refine s_isub C dX11_step_101 ?_
    exact s_ireti hR dX11_step_102
  · refine s_aload_n C rfl dX11_step_37 ?_
    refine s_getR C hV fl_X11_33 (fun _ _ _ => rfl) dX11_step_38 (fun x10 => ?_)
    refine s_bipush C (60 : Int32) (by decide) dX11_step_41 ?_
    refine s_aload_n C rfl dX11_step_43 ?_
    refine s_getI C hV fl_X11_159 (fun _ _ _ => rfl) dX11_step_44 (fun x11 => ?_)
    refine s_imul C dX11_step_47 ?_
    refine s_iload_n C rfl dX11_step_48 ?_
    refine s_iadd C dX11_step_49 ?_
    refine s_aload_n C rfl dX11_step_50 ?_
    refine s_getR C hV fl_X11_19 (fun _ _ _ => rfl) dX11_step_51 (fun x12 => ?_)
    refine s_iload_n C rfl dX11_step_54 ?_
    refine s_baload C hV dX11_step_55 (fun x13 => ?_)
    refine s_bastore C hV dX11_step_56 ?_
    refine s_iinc C (L' := fun x14 => [(1, .int x14), (0, .ref v0)]) (1 : Int32) (by decide) rfl (by decide) (fun _ => rfl) dX11_step_57 (fun x14 => ?_)
    refine s_goto C 29 (by decide) dX11_step_60 ?_
    exact s_back [0, 1] x14 rfl
set_option maxRecDepth 20000 in
theorem sm_Mod_step_29 {G : GT} {ad : Nat → Nat} {K : Int32 → Dm → Prop} (C : Cx G rm_Mod_step cX11_step 2 RX11) (hV : Vx G rm_Mod_step ad ZF (0, 0)) (hR : RtI G rm_Mod_step ad ZF (0, 0) cX11_step .int K) (v0 : Nat) (s : Int32) : Sm G rm_Mod_step ad ZF (0, 0) K 29 ((fun (s : Int32) => [(0, .ref v0), (1, .int s)]) s) [] (Mod_step_29 v0 s) :=
  s_loop (en := (fun (s : Int32) => [(0, .ref v0), (1, .int s)])) (fun s => sm_Mod_step_29_b C hV hR v0 s) s
set_option maxRecDepth 20000 in
theorem sm_Mod_step {G : GT} {ad : Nat → Nat} {K : Int32 → Dm → Prop} (C : Cx G rm_Mod_step cX11_step 2 RX11) (hV : Vx G rm_Mod_step ad ZF (0, 0)) (hR : RtI G rm_Mod_step ad ZF (0, 0) cX11_step .int K) (v0 : Nat) : Sm G rm_Mod_step ad ZF (0, 0) K 0 [(0, .ref v0)] [] (Mod_step v0) := by
  unfold Mod_step
  refine s_aload_n C rfl dX11_step_0 ?_
  refine s_iconst C (1 : Int32) (by decide) dX11_step_1 ?_
  refine s_wV C hV lv_X11_155 (st := []) (met_Mod_readText v0 (1 : Int32)) rf_Mod_step_Mod_readText rfl rfl (Nat.le_of_ble_eq_true rfl) dX11_step_2 ?_
  refine s_aload_n C rfl dX11_step_5 ?_
  refine s_getI C hV fl_X11_152 (fun _ _ _ => rfl) dX11_step_6 (fun x1 => ?_)
  refine s_if_ne C 15 (by decide) dX11_step_9 ?_ ?_
  · refine s_aload_n C rfl dX11_step_15 ?_
    refine s_getI C hV fl_X11_159 (fun _ _ _ => rfl) dX11_step_16 (fun x2 => ?_)
    refine s_bipush C (8 : Int32) (by decide) dX11_step_19 ?_
    refine s_icmp_ne C 27 (by decide) dX11_step_21 ?_ ?_
    · refine s_iconst C (0 : Int32) (by decide) dX11_step_27 ?_
      refine s_leti (fun x3 => ?_)
      refine s_istore_n C (L' := [(1, .int x3), (0, .ref v0)]) (by decide) rfl dX11_step_28 ?_
      exact s_weak [0, 1] rfl (sm_Mod_step_29 C hV hR v0 x3)
    · refine s_bipush C ((-104) : Int32) (by decide) dX11_step_24 ?_
      exact s_ireti hR dX11_step_26
  · refine s_bipush C ((-103) : Int32) (by decide) dX11_step_12 ?_
    exact s_ireti hR dX11_step_14
set_option maxRecDepth 20000 in
theorem met_Mod_step (v0 : Nat) : MI ZF yX11_step cX11_step 2 .int rm_Mod_step [.ref v0] (Mod_step v0) :=
  mi_of (L0 := [(0, .ref v0)]) (by decide +kernel) (Nat.le_of_ble_eq_true rfl) rfl (fun G ad K C hV hR => sm_Mod_step C hV hR v0)

noncomputable def Mod_bare (v0 : Nat) : MM Int32 :=
  mb (gI ZF 12 10 v0) fun x1 =>
  mb (pI ZF 12 10 v0 (0 : Int32)) fun _ =>
  mb (pZ ZF 12 27 v0 (0 : Int32)) fun _ =>
  mp x1
set_option maxRecDepth 20000 in
theorem sm_Mod_bare {G : GT} {ad : Nat → Nat} {K : Int32 → Dm → Prop} (C : Cx G rm_Mod_bare cX11_bare 2 RX11) (hV : Vx G rm_Mod_bare ad ZF (0, 0)) (hR : RtI G rm_Mod_bare ad ZF (0, 0) cX11_bare .int K) (v0 : Nat) : Sm G rm_Mod_bare ad ZF (0, 0) K 0 [(0, .ref v0)] [] (Mod_bare v0) := by
  unfold Mod_bare
  refine s_aload_n C rfl dX11_bare_0 ?_
  refine s_getI C hV fl_X11_159 (fun _ _ _ => rfl) dX11_bare_1 (fun x1 => ?_)
  refine s_istore_n C (L' := [(1, .int x1), (0, .ref v0)]) (by decide) rfl dX11_bare_4 ?_
  refine s_aload_n C rfl dX11_bare_5 ?_
  refine s_iconst C (0 : Int32) (by decide) dX11_bare_6 ?_
  refine s_putI C hV fw_X11_159 rfl dX11_bare_7 ?_
  refine s_aload_n C rfl dX11_bare_10 ?_
  refine s_iconst C (0 : Int32) (by decide) dX11_bare_11 ?_
  refine s_putZ C hV fw_X11_100 rfl dX11_bare_12 ?_
  refine s_iload_n C rfl dX11_bare_15 ?_
  exact s_ireti hR dX11_bare_16
set_option maxRecDepth 20000 in
theorem met_Mod_bare (v0 : Nat) : MI ZF yX11_bare cX11_bare 2 .int rm_Mod_bare [.ref v0] (Mod_bare v0) :=
  mi_of (L0 := [(0, .ref v0)]) (by decide +kernel) (Nat.le_of_ble_eq_true rfl) rfl (fun G ad K C hV hR => sm_Mod_bare C hV hR v0)

noncomputable def Mod_always_31 (v0 : Nat) (v1 : Int32) (v2 : Int32) (t0 : Int32) : MM Int32 :=
  mb (gR ZF 12 9 v0) fun x5 =>
  mb (sZ ZF x5 v1 v2) fun _ =>
  mp t0
noncomputable def Mod_always (v0 : Nat) (v1 : Int32) (v2 : Int32) : MM Int32 :=
  mb (gI ZF 12 6 v0) fun x1 =>
  mb ((Mod_in v1 (0 : Int32) (x1 - (1 : Int32)))) fun r2 =>
  if r2 = 0 then
  mp ((-101) : Int32)
  else
  mb (gR ZF 12 9 v0) fun x3 =>
  mb (aI ZF 25 x3 v1) fun x4 =>
  Mod_always_31 v0 v1 v2 (if x4 = 0 then (0 : Int32) else (1 : Int32))
set_option maxRecDepth 20000 in
theorem sm_Mod_always_31 {G : GT} {ad : Nat → Nat} {K : Int32 → Dm → Prop} (C : Cx G rm_Mod_always cX11_always 4 RX11) (hV : Vx G rm_Mod_always ad ZF (0, 0)) (hR : RtI G rm_Mod_always ad ZF (0, 0) cX11_always .int K) (v0 : Nat) (v1 : Int32) (v2 : Int32) (t0 : Int32) : Sm G rm_Mod_always ad ZF (0, 0) K 31 [(0, .ref v0), (1, .int v1), (2, .int v2)] [.int t0] (Mod_always_31 v0 v1 v2 t0) := by
  unfold Mod_always_31
  refine s_istore_n C (L' := [(3, .int t0), (0, .ref v0), (1, .int v1), (2, .int v2)]) (by decide) rfl dX11_always_31 ?_
  refine s_aload_n C rfl dX11_always_32 ?_
  refine s_getR C hV fl_X11_29 (fun _ _ _ => rfl) dX11_always_33 (fun x5 => ?_)
  refine s_iload_n C rfl dX11_always_36 ?_
  refine s_iload_n C rfl dX11_always_37 ?_
  refine s_zastore C hV dX11_always_38 ?_
  refine s_iload_n C rfl dX11_always_39 ?_
  exact s_ireti hR dX11_always_40
set_option maxRecDepth 20000 in
theorem sm_Mod_always {G : GT} {ad : Nat → Nat} {K : Int32 → Dm → Prop} (C : Cx G rm_Mod_always cX11_always 4 RX11) (hV : Vx G rm_Mod_always ad ZF (0, 0)) (hR : RtI G rm_Mod_always ad ZF (0, 0) cX11_always .int K) (v0 : Nat) (v1 : Int32) (v2 : Int32) : Sm G rm_Mod_always ad ZF (0, 0) K 0 [(0, .ref v0), (1, .int v1), (2, .int v2)] [] (Mod_always v0 v1 v2) := by
  unfold Mod_always
  refine s_iload_n C rfl dX11_always_0 ?_
  refine s_iconst C (0 : Int32) (by decide) dX11_always_1 ?_
  refine s_aload_n C rfl dX11_always_2 ?_
  refine s_getI C hV fl_X11_111 (fun _ _ _ => rfl) dX11_always_3 (fun x1 => ?_)
  refine s_iconst C (1 : Int32) (by decide) dX11_always_6 ?_
  refine s_isub C dX11_always_7 ?_
  refine s_uI C hV ls_X11_89 (st := []) (met_Mod_in v1 (0 : Int32) (x1 - (1 : Int32))) rf_Mod_always_Mod_in rfl rfl (Nat.le_of_ble_eq_true rfl) dX11_always_8 (fun r2 => ?_)
  refine s_if_ne C 17 (by decide) dX11_always_11 ?_ ?_
  · refine s_aload_n C rfl dX11_always_17 ?_
    refine s_getR C hV fl_X11_29 (fun _ _ _ => rfl) dX11_always_18 (fun x3 => ?_)
    refine s_iload_n C rfl dX11_always_21 ?_
    refine s_zaload C hV dX11_always_22 (fun x4 => ?_)
    refine s_ite (g := fun z => Mod_always_31 v0 v1 v2 z) ?_
    refine s_if_eq C 30 (by decide) dX11_always_23 ?_ ?_
    · refine s_iconst C (0 : Int32) (by decide) dX11_always_30 ?_
      exact s_weak [0, 1, 2] rfl (sm_Mod_always_31 C hV hR v0 v1 v2 (0 : Int32))
    · refine s_iconst C (1 : Int32) (by decide) dX11_always_26 ?_
      refine s_goto C 31 (by decide) dX11_always_27 ?_
      exact s_weak [0, 1, 2] rfl (sm_Mod_always_31 C hV hR v0 v1 v2 (1 : Int32))
  · refine s_bipush C ((-101) : Int32) (by decide) dX11_always_14 ?_
    exact s_ireti hR dX11_always_16
set_option maxRecDepth 20000 in
theorem met_Mod_always (v0 : Nat) (v1 : Int32) (v2 : Int32) : MI ZF yX11_always cX11_always 4 .int rm_Mod_always [.ref v0, .int v1, .int v2] (Mod_always v0 v1 v2) :=
  mi_of (L0 := [(0, .ref v0), (1, .int v1), (2, .int v2)]) (by decide +kernel) (Nat.le_of_ble_eq_true rfl) rfl (fun G ad K C hV hR => sm_Mod_always C hV hR v0 v1 v2)

noncomputable def Mod_isPlate (v0 : Int64) : MM Int32 :=
  if v0 < (0 : Int64) then
  mz (0 : Int32)
  else
  if (9999999999999999 : Int64) < v0 then
  mz (0 : Int32)
  else
  mz (1 : Int32)
set_option maxRecDepth 20000 in
theorem sm_Mod_isPlate {G : GT} {ad : Nat → Nat} {K : Int32 → Dm → Prop} (C : Cx G rm_Mod_isPlate cX11_isPlate 2 RX11) (hV : Vx G rm_Mod_isPlate ad ZF (0, 0)) (hR : RtI G rm_Mod_isPlate ad ZF (0, 0) cX11_isPlate .boolean K) (v0 : Int64) : Sm G rm_Mod_isPlate ad ZF (0, 0) K 0 [(0, .long v0)] [] (Mod_isPlate v0) := by
  unfold Mod_isPlate
  refine s_lload_n C rfl dX11_isPlate_0 ?_
  refine s_lconst C (0 : Int64) (by decide) dX11_isPlate_1 ?_
  refine s_lcmp_lt C 18 (by decide) dX11_isPlate_2 dX11_isPlate_3 ?_ ?_
  · refine s_iconst C (0 : Int32) (by decide) dX11_isPlate_18 ?_
    exact s_iretz hR dX11_isPlate_19
  · refine s_lload_n C rfl dX11_isPlate_6 ?_
    refine s_ldc2 C kl_X11_210 dX11_isPlate_7 ?_
    refine s_lcmp_gt C 18 (by decide) dX11_isPlate_10 dX11_isPlate_11 ?_ ?_
    · refine s_iconst C (0 : Int32) (by decide) dX11_isPlate_18 ?_
      exact s_iretz hR dX11_isPlate_19
    · refine s_iconst C (1 : Int32) (by decide) dX11_isPlate_14 ?_
      refine s_goto C 19 (by decide) dX11_isPlate_15 ?_
      exact s_iretz hR dX11_isPlate_19
set_option maxRecDepth 20000 in
theorem met_Mod_isPlate (v0 : Int64) : MI ZF yX11_isPlate cX11_isPlate 2 .boolean rm_Mod_isPlate [.long v0] (Mod_isPlate v0) :=
  mi_of (L0 := [(0, .long v0)]) (by decide +kernel) (Nat.le_of_ble_eq_true rfl) rfl (fun G ad K C hV hR => sm_Mod_isPlate C hV hR v0)

noncomputable def Mod_lay_5_b (v0 : Nat) (v3 : Int64) (v5 : Int32) : MM ((Int64 × Int32) ⊕ Unit) :=
  if (8 : Int32) ≤ v5 then
  mr (
  mp ())
  else
  mb (gR ZF 12 16 v0) fun x2 =>
  mb (sI ZF x2 v5 ((v3 - v3 / (100 : Int64) * (100 : Int64)).toInt32)) fun _ =>
  ml (v3 / (100 : Int64)) fun x3 =>
  ml (v5 + (1 : Int32)) fun x4 =>
  mp (.inl (x3, x4))
noncomputable def Mod_lay_5 (v0 : Nat) (s : (Int64 × Int32)) : MM Unit := lo (fun (s : (Int64 × Int32)) => Mod_lay_5_b v0 s.1 s.2) s
noncomputable def Mod_lay (v0 : Nat) (v1 : Int64) : MM Unit :=
  ml (0 : Int32) fun x1 =>
  Mod_lay_5 v0 (v1, x1)
set_option maxRecDepth 20000 in
theorem sm_Mod_lay_5_b {G : GT} {ad : Nat → Nat} {K : Unit → Dm → Prop} (C : Cx G rm_Mod_lay cX11_lay 6 RX11) (hV : Vx G rm_Mod_lay ad ZF (0, 0)) (hR : RtV G rm_Mod_lay ad ZF (0, 0) cX11_lay K) (v0 : Nat) (v3 : Int64) (v5 : Int32) : Sm G rm_Mod_lay ad ZF (0, 0) (lpK G rm_Mod_lay ad ZF (0, 0) 5 (fun (s : (Int64 × Int32)) => [(0, .ref v0), (3, .long s.1), (5, .int s.2)]) K) 5 [(0, .ref v0), (3, .long v3), (5, .int v5)] [] (Mod_lay_5_b v0 v3 v5) := by
  unfold Mod_lay_5_b
  refine s_iload C rfl dX11_lay_5 ?_
  refine s_bipush C (8 : Int32) (by decide) dX11_lay_7 ?_
  refine s_icmp_ge C 37 (by decide) dX11_lay_9 ?_ ?_
  · refine s_exit ?_
    exact s_vret hR dX11_lay_37
  · refine s_aload_n C rfl dX11_lay_12 ?_
    refine s_getR C hV fl_X11_46 (fun _ _ _ => rfl) dX11_lay_13 (fun x2 => ?_)
    refine s_iload C rfl dX11_lay_16 ?_
    refine s_lload_n C rfl dX11_lay_18 ?_
    refine s_ldc2 C kl_X11_114 dX11_lay_19 ?_
    refine s_lrem C (by decide) dX11_lay_22 ?_
    refine s_l2i C dX11_lay_23 ?_
    refine s_iastore C hV dX11_lay_24 ?_
    refine s_lload_n C rfl dX11_lay_25 ?_
    refine s_ldc2 C kl_X11_114 dX11_lay_26 ?_
    refine s_ldiv C (by decide) dX11_lay_29 ?_
    refine s_letl (fun x3 => ?_)
    refine s_lstore_n C (L' := [(3, .long x3), (0, .ref v0), (5, .int v5)]) (by decide) rfl dX11_lay_30 ?_
    refine s_iinc C (L' := fun x4 => [(5, .int x4), (3, .long x3), (0, .ref v0)]) (1 : Int32) (by decide) rfl (by decide) (fun _ => rfl) dX11_lay_31 (fun x4 => ?_)
    refine s_goto C 5 (by decide) dX11_lay_34 ?_
    exact s_back [0, 3, 5] (x3, x4) rfl
set_option maxRecDepth 20000 in
theorem sm_Mod_lay_5 {G : GT} {ad : Nat → Nat} {K : Unit → Dm → Prop} (C : Cx G rm_Mod_lay cX11_lay 6 RX11) (hV : Vx G rm_Mod_lay ad ZF (0, 0)) (hR : RtV G rm_Mod_lay ad ZF (0, 0) cX11_lay K) (v0 : Nat) (s : (Int64 × Int32)) : Sm G rm_Mod_lay ad ZF (0, 0) K 5 ((fun (s : (Int64 × Int32)) => [(0, .ref v0), (3, .long s.1), (5, .int s.2)]) s) [] (Mod_lay_5 v0 s) :=
  s_loop (en := (fun (s : (Int64 × Int32)) => [(0, .ref v0), (3, .long s.1), (5, .int s.2)])) (fun s => sm_Mod_lay_5_b C hV hR v0 s.1 s.2) s
set_option maxRecDepth 20000 in
theorem sm_Mod_lay {G : GT} {ad : Nat → Nat} {K : Unit → Dm → Prop} (C : Cx G rm_Mod_lay cX11_lay 6 RX11) (hV : Vx G rm_Mod_lay ad ZF (0, 0)) (hR : RtV G rm_Mod_lay ad ZF (0, 0) cX11_lay K) (v0 : Nat) (v1 : Int64) : Sm G rm_Mod_lay ad ZF (0, 0) K 0 [(0, .ref v0), (1, .long v1)] [] (Mod_lay v0 v1) := by
  unfold Mod_lay
  refine s_lload_n C rfl dX11_lay_0 ?_
  refine s_lstore_n C (L' := [(3, .long v1), (0, .ref v0), (1, .long v1)]) (by decide) rfl dX11_lay_1 ?_
  refine s_iconst C (0 : Int32) (by decide) dX11_lay_2 ?_
  refine s_leti (fun x1 => ?_)
  refine s_istore C (L' := [(5, .int x1), (3, .long v1), (0, .ref v0), (1, .long v1)]) (by decide) rfl dX11_lay_3 ?_
  exact s_weak [0, 3, 5] rfl (sm_Mod_lay_5 C hV hR v0 (v1, x1))
set_option maxRecDepth 20000 in
theorem met_Mod_lay (v0 : Nat) (v1 : Int64) : MV ZF yX11_lay cX11_lay 6 rm_Mod_lay [.ref v0, .long v1] (Mod_lay v0 v1) :=
  mv_of (L0 := [(0, .ref v0), (1, .long v1)]) (by decide +kernel) (Nat.le_of_ble_eq_true rfl) rfl (fun G ad K C hV hR => sm_Mod_lay C hV hR v0 v1)

noncomputable def Mod_openGroup (v0 : Nat) : MM Unit :=
  mb (gI ZF 12 26 v0) fun x1 =>
  mb (pI ZF 12 26 v0 (x1 + (1 : Int32))) fun _ =>
  mb (gR ZF 12 23 v0) fun x2 =>
  mb (gI ZF 12 26 v0) fun x3 =>
  mb (sZ ZF x2 x3 (0 : Int32)) fun _ =>
  mb (gR ZF 12 24 v0) fun x4 =>
  mb (gI ZF 12 26 v0) fun x5 =>
  mb (sZ ZF x4 x5 (1 : Int32)) fun _ =>
  mb (gR ZF 12 25 v0) fun x6 =>
  mb (gI ZF 12 26 v0) fun x7 =>
  mb (sZ ZF x6 x7 (0 : Int32)) fun _ =>
  mp ()
set_option maxRecDepth 20000 in
theorem sm_Mod_openGroup {G : GT} {ad : Nat → Nat} {K : Unit → Dm → Prop} (C : Cx G rm_Mod_openGroup cX11_openGroup 1 RX11) (hV : Vx G rm_Mod_openGroup ad ZF (0, 0)) (hR : RtV G rm_Mod_openGroup ad ZF (0, 0) cX11_openGroup K) (v0 : Nat) : Sm G rm_Mod_openGroup ad ZF (0, 0) K 0 [(0, .ref v0)] [] (Mod_openGroup v0) := by
  unfold Mod_openGroup
  refine s_aload_n C rfl dX11_openGroup_0 ?_
  refine s_dupr C dX11_openGroup_1 ?_
  refine s_getI C hV fl_X11_178 (fun _ _ _ => rfl) dX11_openGroup_2 (fun x1 => ?_)
  refine s_iconst C (1 : Int32) (by decide) dX11_openGroup_5 ?_
  refine s_iadd C dX11_openGroup_6 ?_
  refine s_putI C hV fw_X11_178 rfl dX11_openGroup_7 ?_
  refine s_aload_n C rfl dX11_openGroup_10 ?_
  refine s_getR C hV fl_X11_49 (fun _ _ _ => rfl) dX11_openGroup_11 (fun x2 => ?_)
  refine s_aload_n C rfl dX11_openGroup_14 ?_
  refine s_getI C hV fl_X11_178 (fun _ _ _ => rfl) dX11_openGroup_15 (fun x3 => ?_)
  refine s_iconst C (0 : Int32) (by decide) dX11_openGroup_18 ?_
  refine s_zastore C hV dX11_openGroup_19 ?_
  refine s_aload_n C rfl dX11_openGroup_20 ?_
  refine s_getR C hV fl_X11_52 (fun _ _ _ => rfl) dX11_openGroup_21 (fun x4 => ?_)
  refine s_aload_n C rfl dX11_openGroup_24 ?_
  refine s_getI C hV fl_X11_178 (fun _ _ _ => rfl) dX11_openGroup_25 (fun x5 => ?_)
  refine s_iconst C (1 : Int32) (by decide) dX11_openGroup_28 ?_
  refine s_zastore C hV dX11_openGroup_29 ?_
  refine s_aload_n C rfl dX11_openGroup_30 ?_
  refine s_getR C hV fl_X11_55 (fun _ _ _ => rfl) dX11_openGroup_31 (fun x6 => ?_)
  refine s_aload_n C rfl dX11_openGroup_34 ?_
  refine s_getI C hV fl_X11_178 (fun _ _ _ => rfl) dX11_openGroup_35 (fun x7 => ?_)
  refine s_iconst C (0 : Int32) (by decide) dX11_openGroup_38 ?_
  refine s_zastore C hV dX11_openGroup_39 ?_
  exact s_vret hR dX11_openGroup_40
set_option maxRecDepth 20000 in
theorem met_Mod_openGroup (v0 : Nat) : MV ZF yX11_openGroup cX11_openGroup 1 rm_Mod_openGroup [.ref v0] (Mod_openGroup v0) :=
  mv_of (L0 := [(0, .ref v0)]) (by decide +kernel) (Nat.le_of_ble_eq_true rfl) rfl (fun G ad K C hV hR => sm_Mod_openGroup C hV hR v0)

noncomputable def Mod_sign (v0 : Nat) : MM Int32 :=
  mb (gI ZF 12 21 v0) fun x1 =>
  mb (gI ZF 12 22 v0) fun x2 =>
  if x1 < x2 then
  mb (gI ZF 12 19 v0) fun x3 =>
  if x3 = 0 then
  mb (gR ZF 12 7 v0) fun x4 =>
  mb (gI ZF 12 20 v0) fun x5 =>
  mb (gI ZF 12 21 v0) fun x6 =>
  mb (aI ZF 21 x4 (x5 + x6)) fun x7 =>
  mp x7
  else
  mb (gR ZF 12 11 v0) fun x8 =>
  mb (gI ZF 12 20 v0) fun x9 =>
  mb (gI ZF 12 21 v0) fun x10 =>
  mb (aI ZF 21 x8 (x9 + x10)) fun x11 =>
  mp x11
  else
  mp (0 : Int32)
set_option maxRecDepth 20000 in
theorem sm_Mod_sign {G : GT} {ad : Nat → Nat} {K : Int32 → Dm → Prop} (C : Cx G rm_Mod_sign cX11_sign 1 RX11) (hV : Vx G rm_Mod_sign ad ZF (0, 0)) (hR : RtI G rm_Mod_sign ad ZF (0, 0) cX11_sign .int K) (v0 : Nat) : Sm G rm_Mod_sign ad ZF (0, 0) K 0 [(0, .ref v0)] [] (Mod_sign v0) := by
  unfold Mod_sign
  refine s_aload_n C rfl dX11_sign_0 ?_
  refine s_getI C hV fl_X11_162 (fun _ _ _ => rfl) dX11_sign_1 (fun x1 => ?_)
  refine s_aload_n C rfl dX11_sign_4 ?_
  refine s_getI C hV fl_X11_165 (fun _ _ _ => rfl) dX11_sign_5 (fun x2 => ?_)
  refine s_icmp_lt C 15 (by decide) dX11_sign_8 ?_ ?_
  · refine s_aload_n C rfl dX11_sign_15 ?_
    refine s_getI C hV fl_X11_168 (fun _ _ _ => rfl) dX11_sign_16 (fun x3 => ?_)
    refine s_if_eq C 39 (by decide) dX11_sign_19 ?_ ?_
    · refine s_aload_n C rfl dX11_sign_39 ?_
      refine s_getR C hV fl_X11_23 (fun _ _ _ => rfl) dX11_sign_40 (fun x4 => ?_)
      refine s_aload_n C rfl dX11_sign_43 ?_
      refine s_getI C hV fl_X11_171 (fun _ _ _ => rfl) dX11_sign_44 (fun x5 => ?_)
      refine s_aload_n C rfl dX11_sign_47 ?_
      refine s_getI C hV fl_X11_162 (fun _ _ _ => rfl) dX11_sign_48 (fun x6 => ?_)
      refine s_iadd C dX11_sign_51 ?_
      refine s_baload C hV dX11_sign_52 (fun x7 => ?_)
      exact s_ireti hR dX11_sign_53
    · refine s_aload_n C rfl dX11_sign_22 ?_
      refine s_getR C hV fl_X11_33 (fun _ _ _ => rfl) dX11_sign_23 (fun x8 => ?_)
      refine s_aload_n C rfl dX11_sign_26 ?_
      refine s_getI C hV fl_X11_171 (fun _ _ _ => rfl) dX11_sign_27 (fun x9 => ?_)
      refine s_aload_n C rfl dX11_sign_30 ?_
      refine s_getI C hV fl_X11_162 (fun _ _ _ => rfl) dX11_sign_31 (fun x10 => ?_)
      refine s_iadd C dX11_sign_34 ?_
      refine s_baload C hV dX11_sign_35 (fun x11 => ?_)
      refine s_goto C 53 (by decide) dX11_sign_36 ?_
      exact s_ireti hR dX11_sign_53
  · refine s_iconst C (0 : Int32) (by decide) dX11_sign_11 ?_
    refine s_goto C 53 (by decide) dX11_sign_12 ?_
    exact s_ireti hR dX11_sign_53
set_option maxRecDepth 20000 in
theorem met_Mod_sign (v0 : Nat) : MI ZF yX11_sign cX11_sign 1 .int rm_Mod_sign [.ref v0] (Mod_sign v0) :=
  mi_of (L0 := [(0, .ref v0)]) (by decide +kernel) (Nat.le_of_ble_eq_true rfl) rfl (fun G ad K C hV hR => sm_Mod_sign C hV hR v0)

noncomputable def Mod_factor_38 (v0 : Nat) (t0 : Nat) (t1 : Int32) (t2 : Int32) : MM Unit :=
  mb (sZ ZF t0 t1 t2) fun _ =>
  mb (gR ZF 12 25 v0) fun x6 =>
  mb (gI ZF 12 26 v0) fun x7 =>
  mb (sZ ZF x6 x7 (0 : Int32)) fun _ =>
  mp ()
noncomputable def Mod_factor_37 (v0 : Nat) (t0 : Nat) (t1 : Int32) : MM Unit :=
  Mod_factor_38 v0 t0 t1 (0 : Int32)
noncomputable def Mod_factor (v0 : Nat) (v1 : Int32) : MM Unit :=
  mb (gR ZF 12 24 v0) fun x1 =>
  mb (gI ZF 12 26 v0) fun x2 =>
  mb (gR ZF 12 24 v0) fun x3 =>
  mb (gI ZF 12 26 v0) fun x4 =>
  mb (aI ZF 25 x3 x4) fun x5 =>
  if x5 = 0 then
  Mod_factor_37 v0 x1 x2
  else
  mb (gR ZF 12 25 v0) fun x8 =>
  mb (gI ZF 12 26 v0) fun x9 =>
  mb (aI ZF 25 x8 x9) fun x10 =>
  if v1 = x10 then
  Mod_factor_37 v0 x1 x2
  else
  Mod_factor_38 v0 x1 x2 (1 : Int32)
set_option maxRecDepth 20000 in
theorem sm_Mod_factor_38 {G : GT} {ad : Nat → Nat} {K : Unit → Dm → Prop} (C : Cx G rm_Mod_factor cX11_factor 2 RX11) (hV : Vx G rm_Mod_factor ad ZF (0, 0)) (hR : RtV G rm_Mod_factor ad ZF (0, 0) cX11_factor K) (v0 : Nat) (t0 : Nat) (t1 : Int32) (t2 : Int32) : Sm G rm_Mod_factor ad ZF (0, 0) K 38 [(0, .ref v0)] [.int t2, .int t1, .ref t0] (Mod_factor_38 v0 t0 t1 t2) := by
  unfold Mod_factor_38
  refine s_zastore C hV dX11_factor_38 ?_
  refine s_aload_n C rfl dX11_factor_39 ?_
  refine s_getR C hV fl_X11_55 (fun _ _ _ => rfl) dX11_factor_40 (fun x6 => ?_)
  refine s_aload_n C rfl dX11_factor_43 ?_
  refine s_getI C hV fl_X11_178 (fun _ _ _ => rfl) dX11_factor_44 (fun x7 => ?_)
  refine s_iconst C (0 : Int32) (by decide) dX11_factor_47 ?_
  refine s_zastore C hV dX11_factor_48 ?_
  exact s_vret hR dX11_factor_49
set_option maxRecDepth 20000 in
theorem sm_Mod_factor_37 {G : GT} {ad : Nat → Nat} {K : Unit → Dm → Prop} (C : Cx G rm_Mod_factor cX11_factor 2 RX11) (hV : Vx G rm_Mod_factor ad ZF (0, 0)) (hR : RtV G rm_Mod_factor ad ZF (0, 0) cX11_factor K) (v0 : Nat) (t0 : Nat) (t1 : Int32) : Sm G rm_Mod_factor ad ZF (0, 0) K 37 [(0, .ref v0)] [.int t1, .ref t0] (Mod_factor_37 v0 t0 t1) := by
  unfold Mod_factor_37
  refine s_iconst C (0 : Int32) (by decide) dX11_factor_37 ?_
  exact s_weak [0] rfl (sm_Mod_factor_38 C hV hR v0 t0 t1 (0 : Int32))
set_option maxRecDepth 20000 in
theorem sm_Mod_factor {G : GT} {ad : Nat → Nat} {K : Unit → Dm → Prop} (C : Cx G rm_Mod_factor cX11_factor 2 RX11) (hV : Vx G rm_Mod_factor ad ZF (0, 0)) (hR : RtV G rm_Mod_factor ad ZF (0, 0) cX11_factor K) (v0 : Nat) (v1 : Int32) : Sm G rm_Mod_factor ad ZF (0, 0) K 0 [(0, .ref v0), (1, .int v1)] [] (Mod_factor v0 v1) := by
  unfold Mod_factor
  refine s_aload_n C rfl dX11_factor_0 ?_
  refine s_getR C hV fl_X11_52 (fun _ _ _ => rfl) dX11_factor_1 (fun x1 => ?_)
  refine s_aload_n C rfl dX11_factor_4 ?_
  refine s_getI C hV fl_X11_178 (fun _ _ _ => rfl) dX11_factor_5 (fun x2 => ?_)
  refine s_aload_n C rfl dX11_factor_8 ?_
  refine s_getR C hV fl_X11_52 (fun _ _ _ => rfl) dX11_factor_9 (fun x3 => ?_)
  refine s_aload_n C rfl dX11_factor_12 ?_
  refine s_getI C hV fl_X11_178 (fun _ _ _ => rfl) dX11_factor_13 (fun x4 => ?_)
  refine s_zaload C hV dX11_factor_16 (fun x5 => ?_)
  refine s_if_eq C 37 (by decide) dX11_factor_17 ?_ ?_
  · exact s_weak [0] rfl (sm_Mod_factor_37 C hV hR v0 x1 x2)
  · refine s_iload_n C rfl dX11_factor_20 ?_
    refine s_aload_n C rfl dX11_factor_21 ?_
    refine s_getR C hV fl_X11_55 (fun _ _ _ => rfl) dX11_factor_22 (fun x8 => ?_)
    refine s_aload_n C rfl dX11_factor_25 ?_
    refine s_getI C hV fl_X11_178 (fun _ _ _ => rfl) dX11_factor_26 (fun x9 => ?_)
    refine s_zaload C hV dX11_factor_29 (fun x10 => ?_)
    refine s_icmp_eq C 37 (by decide) dX11_factor_30 ?_ ?_
    · exact s_weak [0] rfl (sm_Mod_factor_37 C hV hR v0 x1 x2)
    · refine s_iconst C (1 : Int32) (by decide) dX11_factor_33 ?_
      refine s_goto C 38 (by decide) dX11_factor_34 ?_
      exact s_weak [0] rfl (sm_Mod_factor_38 C hV hR v0 x1 x2 (1 : Int32))
set_option maxRecDepth 20000 in
theorem met_Mod_factor (v0 : Nat) (v1 : Int32) : MV ZF yX11_factor cX11_factor 2 rm_Mod_factor [.ref v0, .int v1] (Mod_factor v0 v1) :=
  mv_of (L0 := [(0, .ref v0), (1, .int v1)]) (by decide +kernel) (Nat.le_of_ble_eq_true rfl) rfl (fun G ad K C hV hR => sm_Mod_factor C hV hR v0 v1)

noncomputable def Mod_sumHere_157 (v0 : Nat) (v1 : Int32) (v2 : Int32) (v3 : Int32) (t0 : Nat) (t1 : Int32) (t2 : Int32) : MM ((Int32 × Int32 × Int32) ⊕ Int32) :=
  mb (pI ZF 12 21 t0 (t1 + t2)) fun _ =>
  mp (.inl (v1, v2, v3))
noncomputable def Mod_sumHere_142 (v0 : Nat) (v1 : Int32) (v3 : Int32) (t0 : Int32) : MM ((Int32 × Int32 × Int32) ⊕ Int32) :=
  mb (gI ZF 12 21 v0) fun x11 =>
  Mod_sumHere_157 v0 v1 t0 v3 v0 x11 (if v3 = 0 then (0 : Int32) else (1 : Int32))
noncomputable def Mod_sumHere_127 (v0 : Nat) (v1 : Int32) (t0 : Int32) : MM ((Int32 × Int32 × Int32) ⊕ Int32) :=
  mb (vc ZF 12 v0 (Mod_sign v0)) fun r10 =>
  Mod_sumHere_142 v0 v1 t0 (if r10 = (43 : Int32) then (1 : Int32) else ((-1) : Int32))
noncomputable def Mod_sumHere_122 (v0 : Nat) (v1 : Int32) : MM ((Int32 × Int32 × Int32) ⊕ Int32) :=
  Mod_sumHere_127 v0 v1 (1 : Int32)
noncomputable def Mod_sumHere_97 (v0 : Nat) (v1 : Int32) (v2 : Int32) (v5 : Int32) : MM ((Int32 × Int32 × Int32) ⊕ Int32) :=
  ml (v1 + (v2 * v5)) fun x8 =>
  mb (vc ZF 12 v0 (Mod_sign v0)) fun r9 =>
  if r9 = (43 : Int32) then
  Mod_sumHere_122 v0 x8
  else
  mb (vc ZF 12 v0 (Mod_sign v0)) fun r12 =>
  if r12 = (45 : Int32) then
  Mod_sumHere_122 v0 x8
  else
  Mod_sumHere_127 v0 x8 (0 : Int32)
noncomputable def Mod_sumHere_52 (v0 : Nat) (v1 : Int32) (v2 : Int32) (v4 : Int32) (t0 : Int32) : MM ((Int32 × Int32 × Int32) ⊕ Int32) :=
  mb ((Mod_isDigit v4)) fun r7 =>
  if r7 = 0 then
  Mod_sumHere_97 v0 v1 v2 t0
  else
  mb (vc ZF 12 v0 (Mod_sign v0)) fun r13 =>
  mb ((Mod_isDigit r13)) fun r14 =>
  if r14 = 0 then
  Mod_sumHere_97 v0 v1 v2 t0
  else
  mb (vc ZF 12 v0 (Mod_sign v0)) fun r15 =>
  ml ((((10 : Int32) * t0) + r15) - (48 : Int32)) fun x16 =>
  mb (gI ZF 12 21 v0) fun x17 =>
  mb (pI ZF 12 21 v0 (x17 + (1 : Int32))) fun _ =>
  Mod_sumHere_97 v0 v1 v2 x16
noncomputable def Mod_sumHere_6_b (v0 : Nat) (v1 : Int32) (v2 : Int32) (v3 : Int32) : MM ((Int32 × Int32 × Int32) ⊕ Int32) :=
  if v3 = 0 then
  mr (
  mp v1)
  else
  mb (vc ZF 12 v0 (Mod_sign v0)) fun r4 =>
  mb (gI ZF 12 21 v0) fun x5 =>
  mb (pI ZF 12 21 v0 (x5 + (1 : Int32))) fun _ =>
  mb ((Mod_isLetter r4)) fun r6 =>
  if r6 = 0 then
  Mod_sumHere_52 v0 v1 v2 r4 (r4 - (48 : Int32))
  else
  mb (gR ZF 12 16 v0) fun x18 =>
  mb (aI ZF 23 x18 (r4 - (97 : Int32))) fun x19 =>
  Mod_sumHere_52 v0 v1 v2 r4 x19
noncomputable def Mod_sumHere_6 (v0 : Nat) (s : (Int32 × Int32 × Int32)) : MM Int32 := lo (fun (s : (Int32 × Int32 × Int32)) => Mod_sumHere_6_b v0 s.1 s.2.1 s.2.2) s
noncomputable def Mod_sumHere (v0 : Nat) : MM Int32 :=
  ml (0 : Int32) fun x1 =>
  ml (1 : Int32) fun x2 =>
  ml (1 : Int32) fun x3 =>
  Mod_sumHere_6 v0 (x1, x2, x3)
set_option maxRecDepth 20000 in
theorem sm_Mod_sumHere_157 {G : GT} {ad : Nat → Nat} {K : Int32 → Dm → Prop} (C : Cx G rm_Mod_sumHere cX11_sumHere 6 RX11) (hV : Vx G rm_Mod_sumHere ad ZF (0, 0)) (hR : RtI G rm_Mod_sumHere ad ZF (0, 0) cX11_sumHere .int K) (v0 : Nat) (v1 : Int32) (v2 : Int32) (v3 : Int32) (t0 : Nat) (t1 : Int32) (t2 : Int32) : Sm G rm_Mod_sumHere ad ZF (0, 0) (lpK G rm_Mod_sumHere ad ZF (0, 0) 6 (fun (s : (Int32 × Int32 × Int32)) => [(0, .ref v0), (1, .int s.1), (2, .int s.2.1), (3, .int s.2.2)]) K) 157 [(0, .ref v0), (1, .int v1), (2, .int v2), (3, .int v3)] [.int t2, .int t1, .ref t0] (Mod_sumHere_157 v0 v1 v2 v3 t0 t1 t2) := by
  unfold Mod_sumHere_157
  refine s_iadd C dX11_sumHere_157 ?_
  refine s_putI C hV fw_X11_162 rfl dX11_sumHere_158 ?_
  refine s_goto C 6 (by decide) dX11_sumHere_161 ?_
  exact s_back [0, 1, 2, 3] (v1, v2, v3) rfl
set_option maxRecDepth 20000 in
theorem sm_Mod_sumHere_142 {G : GT} {ad : Nat → Nat} {K : Int32 → Dm → Prop} (C : Cx G rm_Mod_sumHere cX11_sumHere 6 RX11) (hV : Vx G rm_Mod_sumHere ad ZF (0, 0)) (hR : RtI G rm_Mod_sumHere ad ZF (0, 0) cX11_sumHere .int K) (v0 : Nat) (v1 : Int32) (v3 : Int32) (t0 : Int32) : Sm G rm_Mod_sumHere ad ZF (0, 0) (lpK G rm_Mod_sumHere ad ZF (0, 0) 6 (fun (s : (Int32 × Int32 × Int32)) => [(0, .ref v0), (1, .int s.1), (2, .int s.2.1), (3, .int s.2.2)]) K) 142 [(0, .ref v0), (1, .int v1), (3, .int v3)] [.int t0] (Mod_sumHere_142 v0 v1 v3 t0) := by
  unfold Mod_sumHere_142
  refine s_istore_n C (L' := [(2, .int t0), (0, .ref v0), (1, .int v1), (3, .int v3)]) (by decide) rfl dX11_sumHere_142 ?_
  refine s_aload_n C rfl dX11_sumHere_143 ?_
  refine s_dupr C dX11_sumHere_144 ?_
  refine s_getI C hV fl_X11_162 (fun _ _ _ => rfl) dX11_sumHere_145 (fun x11 => ?_)
  refine s_iload_n C rfl dX11_sumHere_148 ?_
  refine s_ite (g := fun z => Mod_sumHere_157 v0 v1 t0 v3 v0 x11 z) ?_
  refine s_if_eq C 156 (by decide) dX11_sumHere_149 ?_ ?_
  · refine s_iconst C (0 : Int32) (by decide) dX11_sumHere_156 ?_
    exact s_weak [0, 1, 2, 3] rfl (sm_Mod_sumHere_157 C hV hR v0 v1 t0 v3 v0 x11 (0 : Int32))
  · refine s_iconst C (1 : Int32) (by decide) dX11_sumHere_152 ?_
    refine s_goto C 157 (by decide) dX11_sumHere_153 ?_
    exact s_weak [0, 1, 2, 3] rfl (sm_Mod_sumHere_157 C hV hR v0 v1 t0 v3 v0 x11 (1 : Int32))
set_option maxRecDepth 20000 in
theorem sm_Mod_sumHere_127 {G : GT} {ad : Nat → Nat} {K : Int32 → Dm → Prop} (C : Cx G rm_Mod_sumHere cX11_sumHere 6 RX11) (hV : Vx G rm_Mod_sumHere ad ZF (0, 0)) (hR : RtI G rm_Mod_sumHere ad ZF (0, 0) cX11_sumHere .int K) (v0 : Nat) (v1 : Int32) (t0 : Int32) : Sm G rm_Mod_sumHere ad ZF (0, 0) (lpK G rm_Mod_sumHere ad ZF (0, 0) 6 (fun (s : (Int32 × Int32 × Int32)) => [(0, .ref v0), (1, .int s.1), (2, .int s.2.1), (3, .int s.2.2)]) K) 127 [(0, .ref v0), (1, .int v1)] [.int t0] (Mod_sumHere_127 v0 v1 t0) := by
  unfold Mod_sumHere_127
  refine s_istore_n C (L' := [(3, .int t0), (0, .ref v0), (1, .int v1)]) (by decide) rfl dX11_sumHere_127 ?_
  refine s_aload_n C rfl dX11_sumHere_128 ?_
  refine s_wI C hV lv_X11_174 (st := []) (met_Mod_sign v0) rf_Mod_sumHere_Mod_sign rfl rfl (Nat.le_of_ble_eq_true rfl) dX11_sumHere_129 (fun r10 => ?_)
  refine s_bipush C (43 : Int32) (by decide) dX11_sumHere_132 ?_
  refine s_ite (g := fun z => Mod_sumHere_142 v0 v1 t0 z) ?_
  refine s_icmp_ne C 141 (by decide) dX11_sumHere_134 ?_ ?_
  · refine s_iconst C ((-1) : Int32) (by decide) dX11_sumHere_141 ?_
    exact s_weak [0, 1, 3] rfl (sm_Mod_sumHere_142 C hV hR v0 v1 t0 ((-1) : Int32))
  · refine s_iconst C (1 : Int32) (by decide) dX11_sumHere_137 ?_
    refine s_goto C 142 (by decide) dX11_sumHere_138 ?_
    exact s_weak [0, 1, 3] rfl (sm_Mod_sumHere_142 C hV hR v0 v1 t0 (1 : Int32))
set_option maxRecDepth 20000 in
theorem sm_Mod_sumHere_122 {G : GT} {ad : Nat → Nat} {K : Int32 → Dm → Prop} (C : Cx G rm_Mod_sumHere cX11_sumHere 6 RX11) (hV : Vx G rm_Mod_sumHere ad ZF (0, 0)) (hR : RtI G rm_Mod_sumHere ad ZF (0, 0) cX11_sumHere .int K) (v0 : Nat) (v1 : Int32) : Sm G rm_Mod_sumHere ad ZF (0, 0) (lpK G rm_Mod_sumHere ad ZF (0, 0) 6 (fun (s : (Int32 × Int32 × Int32)) => [(0, .ref v0), (1, .int s.1), (2, .int s.2.1), (3, .int s.2.2)]) K) 122 [(0, .ref v0), (1, .int v1)] [] (Mod_sumHere_122 v0 v1) := by
  unfold Mod_sumHere_122
  refine s_iconst C (1 : Int32) (by decide) dX11_sumHere_122 ?_
  refine s_goto C 127 (by decide) dX11_sumHere_123 ?_
  exact s_weak [0, 1] rfl (sm_Mod_sumHere_127 C hV hR v0 v1 (1 : Int32))
set_option maxRecDepth 20000 in
theorem sm_Mod_sumHere_97 {G : GT} {ad : Nat → Nat} {K : Int32 → Dm → Prop} (C : Cx G rm_Mod_sumHere cX11_sumHere 6 RX11) (hV : Vx G rm_Mod_sumHere ad ZF (0, 0)) (hR : RtI G rm_Mod_sumHere ad ZF (0, 0) cX11_sumHere .int K) (v0 : Nat) (v1 : Int32) (v2 : Int32) (v5 : Int32) : Sm G rm_Mod_sumHere ad ZF (0, 0) (lpK G rm_Mod_sumHere ad ZF (0, 0) 6 (fun (s : (Int32 × Int32 × Int32)) => [(0, .ref v0), (1, .int s.1), (2, .int s.2.1), (3, .int s.2.2)]) K) 97 [(0, .ref v0), (1, .int v1), (2, .int v2), (5, .int v5)] [] (Mod_sumHere_97 v0 v1 v2 v5) := by
  unfold Mod_sumHere_97
  refine s_iload_n C rfl dX11_sumHere_97 ?_
  refine s_iload_n C rfl dX11_sumHere_98 ?_
  refine s_iload C rfl dX11_sumHere_99 ?_
  refine s_imul C dX11_sumHere_101 ?_
  refine s_iadd C dX11_sumHere_102 ?_
  refine s_leti (fun x8 => ?_)
  refine s_istore_n C (L' := [(1, .int x8), (0, .ref v0), (2, .int v2), (5, .int v5)]) (by decide) rfl dX11_sumHere_103 ?_
  refine s_aload_n C rfl dX11_sumHere_104 ?_
  refine s_wI C hV lv_X11_174 (st := []) (met_Mod_sign v0) rf_Mod_sumHere_Mod_sign rfl rfl (Nat.le_of_ble_eq_true rfl) dX11_sumHere_105 (fun r9 => ?_)
  refine s_bipush C (43 : Int32) (by decide) dX11_sumHere_108 ?_
  refine s_icmp_eq C 122 (by decide) dX11_sumHere_110 ?_ ?_
  · exact s_weak [0, 1] rfl (sm_Mod_sumHere_122 C hV hR v0 x8)
  · refine s_aload_n C rfl dX11_sumHere_113 ?_
    refine s_wI C hV lv_X11_174 (st := []) (met_Mod_sign v0) rf_Mod_sumHere_Mod_sign rfl rfl (Nat.le_of_ble_eq_true rfl) dX11_sumHere_114 (fun r12 => ?_)
    refine s_bipush C (45 : Int32) (by decide) dX11_sumHere_117 ?_
    refine s_icmp_ne C 126 (by decide) dX11_sumHere_119 ?_ ?_
    · refine s_iconst C (0 : Int32) (by decide) dX11_sumHere_126 ?_
      exact s_weak [0, 1] rfl (sm_Mod_sumHere_127 C hV hR v0 x8 (0 : Int32))
    · exact s_weak [0, 1] rfl (sm_Mod_sumHere_122 C hV hR v0 x8)
set_option maxRecDepth 20000 in
theorem sm_Mod_sumHere_52 {G : GT} {ad : Nat → Nat} {K : Int32 → Dm → Prop} (C : Cx G rm_Mod_sumHere cX11_sumHere 6 RX11) (hV : Vx G rm_Mod_sumHere ad ZF (0, 0)) (hR : RtI G rm_Mod_sumHere ad ZF (0, 0) cX11_sumHere .int K) (v0 : Nat) (v1 : Int32) (v2 : Int32) (v4 : Int32) (t0 : Int32) : Sm G rm_Mod_sumHere ad ZF (0, 0) (lpK G rm_Mod_sumHere ad ZF (0, 0) 6 (fun (s : (Int32 × Int32 × Int32)) => [(0, .ref v0), (1, .int s.1), (2, .int s.2.1), (3, .int s.2.2)]) K) 52 [(0, .ref v0), (1, .int v1), (2, .int v2), (4, .int v4)] [.int t0] (Mod_sumHere_52 v0 v1 v2 v4 t0) := by
  unfold Mod_sumHere_52
  refine s_istore C (L' := [(5, .int t0), (0, .ref v0), (1, .int v1), (2, .int v2), (4, .int v4)]) (by decide) rfl dX11_sumHere_52 ?_
  refine s_iload C rfl dX11_sumHere_54 ?_
  refine s_uI C hV ls_X11_139 (st := []) (met_Mod_isDigit v4) rf_Mod_sumHere_Mod_isDigit rfl rfl (Nat.le_of_ble_eq_true rfl) dX11_sumHere_56 (fun r7 => ?_)
  refine s_if_eq C 97 (by decide) dX11_sumHere_59 ?_ ?_
  · exact s_weak [0, 1, 2, 5] rfl (sm_Mod_sumHere_97 C hV hR v0 v1 v2 t0)
  · refine s_aload_n C rfl dX11_sumHere_62 ?_
    refine s_wI C hV lv_X11_174 (st := []) (met_Mod_sign v0) rf_Mod_sumHere_Mod_sign rfl rfl (Nat.le_of_ble_eq_true rfl) dX11_sumHere_63 (fun r13 => ?_)
    refine s_uI C hV ls_X11_139 (st := []) (met_Mod_isDigit r13) rf_Mod_sumHere_Mod_isDigit rfl rfl (Nat.le_of_ble_eq_true rfl) dX11_sumHere_66 (fun r14 => ?_)
    refine s_if_eq C 97 (by decide) dX11_sumHere_69 ?_ ?_
    · exact s_weak [0, 1, 2, 5] rfl (sm_Mod_sumHere_97 C hV hR v0 v1 v2 t0)
    · refine s_bipush C (10 : Int32) (by decide) dX11_sumHere_72 ?_
      refine s_iload C rfl dX11_sumHere_74 ?_
      refine s_imul C dX11_sumHere_76 ?_
      refine s_aload_n C rfl dX11_sumHere_77 ?_
      refine s_wI C hV lv_X11_174 (st := [.int ((10 : Int32) * t0)]) (met_Mod_sign v0) rf_Mod_sumHere_Mod_sign rfl rfl (Nat.le_of_ble_eq_true rfl) dX11_sumHere_78 (fun r15 => ?_)
      refine s_iadd C dX11_sumHere_81 ?_
      refine s_bipush C (48 : Int32) (by decide) dX11_sumHere_82 ?_
      refine s_isub C dX11_sumHere_84 ?_
      refine s_leti (fun x16 => ?_)
      refine s_istore C (L' := [(5, .int x16), (0, .ref v0), (1, .int v1), (2, .int v2), (4, .int v4)]) (by decide) rfl dX11_sumHere_85 ?_
      refine s_aload_n C rfl dX11_sumHere_87 ?_
      refine s_dupr C dX11_sumHere_88 ?_
      refine s_getI C hV fl_X11_162 (fun _ _ _ => rfl) dX11_sumHere_89 (fun x17 => ?_)
      refine s_iconst C (1 : Int32) (by decide) dX11_sumHere_92 ?_
      refine s_iadd C dX11_sumHere_93 ?_
      refine s_putI C hV fw_X11_162 rfl dX11_sumHere_94 ?_
      exact s_weak [0, 1, 2, 5] rfl (sm_Mod_sumHere_97 C hV hR v0 v1 v2 x16)
set_option maxRecDepth 20000 in
theorem sm_Mod_sumHere_6_b {G : GT} {ad : Nat → Nat} {K : Int32 → Dm → Prop} (C : Cx G rm_Mod_sumHere cX11_sumHere 6 RX11) (hV : Vx G rm_Mod_sumHere ad ZF (0, 0)) (hR : RtI G rm_Mod_sumHere ad ZF (0, 0) cX11_sumHere .int K) (v0 : Nat) (v1 : Int32) (v2 : Int32) (v3 : Int32) : Sm G rm_Mod_sumHere ad ZF (0, 0) (lpK G rm_Mod_sumHere ad ZF (0, 0) 6 (fun (s : (Int32 × Int32 × Int32)) => [(0, .ref v0), (1, .int s.1), (2, .int s.2.1), (3, .int s.2.2)]) K) 6 [(0, .ref v0), (1, .int v1), (2, .int v2), (3, .int v3)] [] (Mod_sumHere_6_b v0 v1 v2 v3) := by
  unfold Mod_sumHere_6_b
  refine s_iload_n C rfl dX11_sumHere_6 ?_
  refine s_if_eq C 164 (by decide) dX11_sumHere_7 ?_ ?_
  · refine s_exit ?_
    refine s_iload_n C rfl dX11_sumHere_164 ?_
    exact s_ireti hR dX11_sumHere_165
  · refine s_aload_n C rfl dX11_sumHere_10 ?_
    refine s_wI C hV lv_X11_174 (st := []) (met_Mod_sign v0) rf_Mod_sumHere_Mod_sign rfl rfl (Nat.le_of_ble_eq_true rfl) dX11_sumHere_11 (fun r4 => ?_)
    refine s_istore C (L' := [(4, .int r4), (0, .ref v0), (1, .int v1), (2, .int v2), (3, .int v3)]) (by decide) rfl dX11_sumHere_14 ?_
    refine s_aload_n C rfl dX11_sumHere_16 ?_
    refine s_dupr C dX11_sumHere_17 ?_
    refine s_getI C hV fl_X11_162 (fun _ _ _ => rfl) dX11_sumHere_18 (fun x5 => ?_)
    refine s_iconst C (1 : Int32) (by decide) dX11_sumHere_21 ?_
    refine s_iadd C dX11_sumHere_22 ?_
    refine s_putI C hV fw_X11_162 rfl dX11_sumHere_23 ?_
    refine s_iload C rfl dX11_sumHere_26 ?_
    refine s_uI C hV ls_X11_136 (st := []) (met_Mod_isLetter r4) rf_Mod_sumHere_Mod_isLetter rfl rfl (Nat.le_of_ble_eq_true rfl) dX11_sumHere_28 (fun r6 => ?_)
    refine s_if_eq C 47 (by decide) dX11_sumHere_31 ?_ ?_
    · refine s_iload C rfl dX11_sumHere_47 ?_
      refine s_bipush C (48 : Int32) (by decide) dX11_sumHere_49 ?_
      refine s_isub C dX11_sumHere_51 ?_
      exact s_weak [0, 1, 2, 4] rfl (sm_Mod_sumHere_52 C hV hR v0 v1 v2 r4 (r4 - (48 : Int32)))
    · refine s_aload_n C rfl dX11_sumHere_34 ?_
      refine s_getR C hV fl_X11_46 (fun _ _ _ => rfl) dX11_sumHere_35 (fun x18 => ?_)
      refine s_iload C rfl dX11_sumHere_38 ?_
      refine s_bipush C (97 : Int32) (by decide) dX11_sumHere_40 ?_
      refine s_isub C dX11_sumHere_42 ?_
      refine s_iaload C hV dX11_sumHere_43 (fun x19 => ?_)
      refine s_goto C 52 (by decide) dX11_sumHere_44 ?_
      exact s_weak [0, 1, 2, 4] rfl (sm_Mod_sumHere_52 C hV hR v0 v1 v2 r4 x19)
set_option maxRecDepth 20000 in
theorem sm_Mod_sumHere_6 {G : GT} {ad : Nat → Nat} {K : Int32 → Dm → Prop} (C : Cx G rm_Mod_sumHere cX11_sumHere 6 RX11) (hV : Vx G rm_Mod_sumHere ad ZF (0, 0)) (hR : RtI G rm_Mod_sumHere ad ZF (0, 0) cX11_sumHere .int K) (v0 : Nat) (s : (Int32 × Int32 × Int32)) : Sm G rm_Mod_sumHere ad ZF (0, 0) K 6 ((fun (s : (Int32 × Int32 × Int32)) => [(0, .ref v0), (1, .int s.1), (2, .int s.2.1), (3, .int s.2.2)]) s) [] (Mod_sumHere_6 v0 s) :=
  s_loop (en := (fun (s : (Int32 × Int32 × Int32)) => [(0, .ref v0), (1, .int s.1), (2, .int s.2.1), (3, .int s.2.2)])) (fun s => sm_Mod_sumHere_6_b C hV hR v0 s.1 s.2.1 s.2.2) s
set_option maxRecDepth 20000 in
theorem sm_Mod_sumHere {G : GT} {ad : Nat → Nat} {K : Int32 → Dm → Prop} (C : Cx G rm_Mod_sumHere cX11_sumHere 6 RX11) (hV : Vx G rm_Mod_sumHere ad ZF (0, 0)) (hR : RtI G rm_Mod_sumHere ad ZF (0, 0) cX11_sumHere .int K) (v0 : Nat) : Sm G rm_Mod_sumHere ad ZF (0, 0) K 0 [(0, .ref v0)] [] (Mod_sumHere v0) := by
  unfold Mod_sumHere
  refine s_iconst C (0 : Int32) (by decide) dX11_sumHere_0 ?_
  refine s_leti (fun x1 => ?_)
  refine s_istore_n C (L' := [(1, .int x1), (0, .ref v0)]) (by decide) rfl dX11_sumHere_1 ?_
  refine s_iconst C (1 : Int32) (by decide) dX11_sumHere_2 ?_
  refine s_leti (fun x2 => ?_)
  refine s_istore_n C (L' := [(2, .int x2), (1, .int x1), (0, .ref v0)]) (by decide) rfl dX11_sumHere_3 ?_
  refine s_iconst C (1 : Int32) (by decide) dX11_sumHere_4 ?_
  refine s_leti (fun x3 => ?_)
  refine s_istore_n C (L' := [(3, .int x3), (2, .int x2), (1, .int x1), (0, .ref v0)]) (by decide) rfl dX11_sumHere_5 ?_
  exact s_weak [0, 1, 2, 3] rfl (sm_Mod_sumHere_6 C hV hR v0 (x1, x2, x3))
set_option maxRecDepth 20000 in
theorem met_Mod_sumHere (v0 : Nat) : MI ZF yX11_sumHere cX11_sumHere 6 .int rm_Mod_sumHere [.ref v0] (Mod_sumHere v0) :=
  mi_of (L0 := [(0, .ref v0)]) (by decide +kernel) (Nat.le_of_ble_eq_true rfl) rfl (fun G ad K C hV hR => sm_Mod_sumHere C hV hR v0)

noncomputable def Mod_holdsHere_332 (v0 : Nat) : MM Int32 :=
  mb (gR ZF 12 23 v0) fun x2 =>
  mb (aI ZF 25 x2 (0 : Int32)) fun x3 =>
  if x3 = 0 then
  mb (gR ZF 12 24 v0) fun x4 =>
  mb (aI ZF 25 x4 (0 : Int32)) fun x5 =>
  if x5 = 0 then
  mz (0 : Int32)
  else
  mz (1 : Int32)
  else
  mz (1 : Int32)
noncomputable def Mod_holdsHere_329 (v0 : Nat) : MM (Unit ⊕ Int32) :=
  mp (.inl ())
noncomputable def Mod_holdsHere_326 (v0 : Nat) (t0 : Nat) (t1 : Int32) : MM (Unit ⊕ Int32) :=
  mb (vc ZF 12 t0 (Mod_factor t0 t1)) fun _ =>
  Mod_holdsHere_329 v0
noncomputable def Mod_holdsHere_205 (v0 : Nat) (t0 : Nat) (t1 : Int32) (t2 : Int32) : MM (Unit ⊕ Int32) :=
  mb (sZ ZF t0 t1 t2) fun _ =>
  mb (gR ZF 12 24 v0) fun x18 =>
  mb (gI ZF 12 26 v0) fun x19 =>
  mb (sZ ZF x18 x19 (1 : Int32)) fun _ =>
  mb (gI ZF 12 21 v0) fun x20 =>
  mb (pI ZF 12 21 v0 (x20 + (1 : Int32))) fun _ =>
  Mod_holdsHere_329 v0
noncomputable def Mod_holdsHere_200 (v0 : Nat) (t0 : Nat) (t1 : Int32) : MM (Unit ⊕ Int32) :=
  Mod_holdsHere_205 v0 t0 t1 (1 : Int32)
noncomputable def Mod_holdsHere_133 (v0 : Nat) (t0 : Int32) : MM (Unit ⊕ Int32) :=
  mb (gI ZF 12 26 v0) fun x27 =>
  mb (pI ZF 12 26 v0 (x27 - (1 : Int32))) fun _ =>
  mb (vc ZF 12 v0 (Mod_factor v0 t0)) fun _ =>
  mb (gI ZF 12 21 v0) fun x28 =>
  mb (pI ZF 12 21 v0 (x28 + (1 : Int32))) fun _ =>
  Mod_holdsHere_329 v0
noncomputable def Mod_holdsHere_128 (v0 : Nat) : MM (Unit ⊕ Int32) :=
  Mod_holdsHere_133 v0 (1 : Int32)
noncomputable def Mod_holdsHere_61 (v0 : Nat) (t0 : Nat) (t1 : Int32) (t2 : Int32) : MM (Unit ⊕ Int32) :=
  mb (sZ ZF t0 t1 t2) fun _ =>
  mb (gI ZF 12 21 v0) fun x38 =>
  mb (pI ZF 12 21 v0 (x38 + (1 : Int32))) fun _ =>
  Mod_holdsHere_329 v0
noncomputable def Mod_holdsHere_9_b (v0 : Nat) : MM (Unit ⊕ Int32) :=
  mb (vc ZF 12 v0 (Mod_sign v0)) fun r1 =>
  if r1 = 0 then
  mr (Mod_holdsHere_332 v0)
  else
  mb (vc ZF 12 v0 (Mod_sign v0)) fun r6 =>
  if r6 = (58 : Int32) then
  mr (Mod_holdsHere_332 v0)
  else
  mb (vc ZF 12 v0 (Mod_sign v0)) fun r7 =>
  if r7 = (33 : Int32) then
  mb (gR ZF 12 25 v0) fun x33 =>
  mb (gI ZF 12 26 v0) fun x34 =>
  mb (gR ZF 12 25 v0) fun x35 =>
  mb (gI ZF 12 26 v0) fun x36 =>
  mb (aI ZF 25 x35 x36) fun x37 =>
  Mod_holdsHere_61 v0 x33 x34 (if x37 = 0 then (1 : Int32) else (0 : Int32))
  else
  if r7 = (40 : Int32) then
  mb (vc ZF 12 v0 (Mod_openGroup v0)) fun _ =>
  mb (gI ZF 12 21 v0) fun x32 =>
  mb (pI ZF 12 21 v0 (x32 + (1 : Int32))) fun _ =>
  Mod_holdsHere_329 v0
  else
  if r7 = (41 : Int32) then
  mb (gR ZF 12 23 v0) fun x24 =>
  mb (gI ZF 12 26 v0) fun x25 =>
  mb (aI ZF 25 x24 x25) fun x26 =>
  if x26 = 0 then
  mb (gR ZF 12 24 v0) fun x29 =>
  mb (gI ZF 12 26 v0) fun x30 =>
  mb (aI ZF 25 x29 x30) fun x31 =>
  if x31 = 0 then
  Mod_holdsHere_133 v0 (0 : Int32)
  else
  Mod_holdsHere_128 v0
  else
  Mod_holdsHere_128 v0
  else
  if r7 = (124 : Int32) then
  mb (gR ZF 12 23 v0) fun x13 =>
  mb (gI ZF 12 26 v0) fun x14 =>
  mb (gR ZF 12 23 v0) fun x15 =>
  mb (gI ZF 12 26 v0) fun x16 =>
  mb (aI ZF 25 x15 x16) fun x17 =>
  if x17 = 0 then
  mb (gR ZF 12 24 v0) fun x21 =>
  mb (gI ZF 12 26 v0) fun x22 =>
  mb (aI ZF 25 x21 x22) fun x23 =>
  if x23 = 0 then
  Mod_holdsHere_205 v0 x13 x14 (0 : Int32)
  else
  Mod_holdsHere_200 v0 x13 x14
  else
  Mod_holdsHere_200 v0 x13 x14
  else
  if r7 = (38 : Int32) then
  mb (gI ZF 12 21 v0) fun x12 =>
  mb (pI ZF 12 21 v0 (x12 + (1 : Int32))) fun _ =>
  Mod_holdsHere_329 v0
  else
  mb (vc ZF 12 v0 (Mod_sumHere v0)) fun r8 =>
  mb (vc ZF 12 v0 (Mod_sign v0)) fun r9 =>
  mb (gI ZF 12 21 v0) fun x10 =>
  mb (pI ZF 12 21 v0 (x10 + (1 : Int32))) fun _ =>
  mb (vc ZF 12 v0 (Mod_sumHere v0)) fun r11 =>
  if r9 = (60 : Int32) then
  Mod_holdsHere_326 v0 v0 (if r11 ≤ r8 then (0 : Int32) else (1 : Int32))
  else
  if r9 = (61 : Int32) then
  Mod_holdsHere_326 v0 v0 (if r8 = r11 then (1 : Int32) else (0 : Int32))
  else
  Mod_holdsHere_326 v0 v0 (if r8 ≤ r11 then (0 : Int32) else (1 : Int32))
noncomputable def Mod_holdsHere_9 (v0 : Nat) (s : Unit) : MM Int32 := lo (fun (s : Unit) => Mod_holdsHere_9_b v0) s
noncomputable def Mod_holdsHere (v0 : Nat) : MM Int32 :=
  mb (pI ZF 12 26 v0 ((-1) : Int32)) fun _ =>
  mb (vc ZF 12 v0 (Mod_openGroup v0)) fun _ =>
  Mod_holdsHere_9 v0 ()
set_option maxRecDepth 20000 in
theorem sm_Mod_holdsHere_332 {G : GT} {ad : Nat → Nat} {K : Int32 → Dm → Prop} (C : Cx G rm_Mod_holdsHere cX11_holdsHere 5 RX11) (hV : Vx G rm_Mod_holdsHere ad ZF (0, 0)) (hR : RtI G rm_Mod_holdsHere ad ZF (0, 0) cX11_holdsHere .boolean K) (v0 : Nat) : Sm G rm_Mod_holdsHere ad ZF (0, 0) K 332 [(0, .ref v0)] [] (Mod_holdsHere_332 v0) := by
  unfold Mod_holdsHere_332
  refine s_aload_n C rfl dX11_holdsHere_332 ?_
  refine s_getR C hV fl_X11_49 (fun _ _ _ => rfl) dX11_holdsHere_333 (fun x2 => ?_)
  refine s_iconst C (0 : Int32) (by decide) dX11_holdsHere_336 ?_
  refine s_zaload C hV dX11_holdsHere_337 (fun x3 => ?_)
  refine s_if_ne C 350 (by decide) dX11_holdsHere_338 ?_ ?_
  · refine s_iconst C (1 : Int32) (by decide) dX11_holdsHere_350 ?_
    refine s_goto C 355 (by decide) dX11_holdsHere_351 ?_
    exact s_iretz hR dX11_holdsHere_355
  · refine s_aload_n C rfl dX11_holdsHere_341 ?_
    refine s_getR C hV fl_X11_52 (fun _ _ _ => rfl) dX11_holdsHere_342 (fun x4 => ?_)
    refine s_iconst C (0 : Int32) (by decide) dX11_holdsHere_345 ?_
    refine s_zaload C hV dX11_holdsHere_346 (fun x5 => ?_)
    refine s_if_eq C 354 (by decide) dX11_holdsHere_347 ?_ ?_
    · refine s_iconst C (0 : Int32) (by decide) dX11_holdsHere_354 ?_
      exact s_iretz hR dX11_holdsHere_355
    · refine s_iconst C (1 : Int32) (by decide) dX11_holdsHere_350 ?_
      refine s_goto C 355 (by decide) dX11_holdsHere_351 ?_
      exact s_iretz hR dX11_holdsHere_355
set_option maxRecDepth 20000 in
theorem sm_Mod_holdsHere_329 {G : GT} {ad : Nat → Nat} {K : Int32 → Dm → Prop} (C : Cx G rm_Mod_holdsHere cX11_holdsHere 5 RX11) (hV : Vx G rm_Mod_holdsHere ad ZF (0, 0)) (hR : RtI G rm_Mod_holdsHere ad ZF (0, 0) cX11_holdsHere .boolean K) (v0 : Nat) : Sm G rm_Mod_holdsHere ad ZF (0, 0) (lpK G rm_Mod_holdsHere ad ZF (0, 0) 9 (fun (s : Unit) => [(0, .ref v0)]) K) 329 [(0, .ref v0)] [] (Mod_holdsHere_329 v0) := by
  unfold Mod_holdsHere_329
  refine s_goto C 9 (by decide) dX11_holdsHere_329 ?_
  exact s_back [0] () rfl
set_option maxRecDepth 20000 in
theorem sm_Mod_holdsHere_326 {G : GT} {ad : Nat → Nat} {K : Int32 → Dm → Prop} (C : Cx G rm_Mod_holdsHere cX11_holdsHere 5 RX11) (hV : Vx G rm_Mod_holdsHere ad ZF (0, 0)) (hR : RtI G rm_Mod_holdsHere ad ZF (0, 0) cX11_holdsHere .boolean K) (v0 : Nat) (t0 : Nat) (t1 : Int32) : Sm G rm_Mod_holdsHere ad ZF (0, 0) (lpK G rm_Mod_holdsHere ad ZF (0, 0) 9 (fun (s : Unit) => [(0, .ref v0)]) K) 326 [(0, .ref v0)] [.int t1, .ref t0] (Mod_holdsHere_326 v0 t0 t1) := by
  unfold Mod_holdsHere_326
  refine s_wV C hV lv_X11_184 (st := []) (met_Mod_factor t0 t1) rf_Mod_holdsHere_Mod_factor rfl rfl (Nat.le_of_ble_eq_true rfl) dX11_holdsHere_326 ?_
  exact s_weak [0] rfl (sm_Mod_holdsHere_329 C hV hR v0)
set_option maxRecDepth 20000 in
theorem sm_Mod_holdsHere_205 {G : GT} {ad : Nat → Nat} {K : Int32 → Dm → Prop} (C : Cx G rm_Mod_holdsHere cX11_holdsHere 5 RX11) (hV : Vx G rm_Mod_holdsHere ad ZF (0, 0)) (hR : RtI G rm_Mod_holdsHere ad ZF (0, 0) cX11_holdsHere .boolean K) (v0 : Nat) (t0 : Nat) (t1 : Int32) (t2 : Int32) : Sm G rm_Mod_holdsHere ad ZF (0, 0) (lpK G rm_Mod_holdsHere ad ZF (0, 0) 9 (fun (s : Unit) => [(0, .ref v0)]) K) 205 [(0, .ref v0)] [.int t2, .int t1, .ref t0] (Mod_holdsHere_205 v0 t0 t1 t2) := by
  unfold Mod_holdsHere_205
  refine s_zastore C hV dX11_holdsHere_205 ?_
  refine s_aload_n C rfl dX11_holdsHere_206 ?_
  refine s_getR C hV fl_X11_52 (fun _ _ _ => rfl) dX11_holdsHere_207 (fun x18 => ?_)
  refine s_aload_n C rfl dX11_holdsHere_210 ?_
  refine s_getI C hV fl_X11_178 (fun _ _ _ => rfl) dX11_holdsHere_211 (fun x19 => ?_)
  refine s_iconst C (1 : Int32) (by decide) dX11_holdsHere_214 ?_
  refine s_zastore C hV dX11_holdsHere_215 ?_
  refine s_aload_n C rfl dX11_holdsHere_216 ?_
  refine s_dupr C dX11_holdsHere_217 ?_
  refine s_getI C hV fl_X11_162 (fun _ _ _ => rfl) dX11_holdsHere_218 (fun x20 => ?_)
  refine s_iconst C (1 : Int32) (by decide) dX11_holdsHere_221 ?_
  refine s_iadd C dX11_holdsHere_222 ?_
  refine s_putI C hV fw_X11_162 rfl dX11_holdsHere_223 ?_
  refine s_goto C 329 (by decide) dX11_holdsHere_226 ?_
  exact s_weak [0] rfl (sm_Mod_holdsHere_329 C hV hR v0)
set_option maxRecDepth 20000 in
theorem sm_Mod_holdsHere_200 {G : GT} {ad : Nat → Nat} {K : Int32 → Dm → Prop} (C : Cx G rm_Mod_holdsHere cX11_holdsHere 5 RX11) (hV : Vx G rm_Mod_holdsHere ad ZF (0, 0)) (hR : RtI G rm_Mod_holdsHere ad ZF (0, 0) cX11_holdsHere .boolean K) (v0 : Nat) (t0 : Nat) (t1 : Int32) : Sm G rm_Mod_holdsHere ad ZF (0, 0) (lpK G rm_Mod_holdsHere ad ZF (0, 0) 9 (fun (s : Unit) => [(0, .ref v0)]) K) 200 [(0, .ref v0)] [.int t1, .ref t0] (Mod_holdsHere_200 v0 t0 t1) := by
  unfold Mod_holdsHere_200
  refine s_iconst C (1 : Int32) (by decide) dX11_holdsHere_200 ?_
  refine s_goto C 205 (by decide) dX11_holdsHere_201 ?_
  exact s_weak [0] rfl (sm_Mod_holdsHere_205 C hV hR v0 t0 t1 (1 : Int32))
set_option maxRecDepth 20000 in
theorem sm_Mod_holdsHere_133 {G : GT} {ad : Nat → Nat} {K : Int32 → Dm → Prop} (C : Cx G rm_Mod_holdsHere cX11_holdsHere 5 RX11) (hV : Vx G rm_Mod_holdsHere ad ZF (0, 0)) (hR : RtI G rm_Mod_holdsHere ad ZF (0, 0) cX11_holdsHere .boolean K) (v0 : Nat) (t0 : Int32) : Sm G rm_Mod_holdsHere ad ZF (0, 0) (lpK G rm_Mod_holdsHere ad ZF (0, 0) 9 (fun (s : Unit) => [(0, .ref v0)]) K) 133 [(0, .ref v0)] [.int t0] (Mod_holdsHere_133 v0 t0) := by
  unfold Mod_holdsHere_133
  refine s_istore_n C (L' := [(2, .int t0), (0, .ref v0)]) (by decide) rfl dX11_holdsHere_133 ?_
  refine s_aload_n C rfl dX11_holdsHere_134 ?_
  refine s_dupr C dX11_holdsHere_135 ?_
  refine s_getI C hV fl_X11_178 (fun _ _ _ => rfl) dX11_holdsHere_136 (fun x27 => ?_)
  refine s_iconst C (1 : Int32) (by decide) dX11_holdsHere_139 ?_
  refine s_isub C dX11_holdsHere_140 ?_
  refine s_putI C hV fw_X11_178 rfl dX11_holdsHere_141 ?_
  refine s_aload_n C rfl dX11_holdsHere_144 ?_
  refine s_iload_n C rfl dX11_holdsHere_145 ?_
  refine s_wV C hV lv_X11_184 (st := []) (met_Mod_factor v0 t0) rf_Mod_holdsHere_Mod_factor rfl rfl (Nat.le_of_ble_eq_true rfl) dX11_holdsHere_146 ?_
  refine s_aload_n C rfl dX11_holdsHere_149 ?_
  refine s_dupr C dX11_holdsHere_150 ?_
  refine s_getI C hV fl_X11_162 (fun _ _ _ => rfl) dX11_holdsHere_151 (fun x28 => ?_)
  refine s_iconst C (1 : Int32) (by decide) dX11_holdsHere_154 ?_
  refine s_iadd C dX11_holdsHere_155 ?_
  refine s_putI C hV fw_X11_162 rfl dX11_holdsHere_156 ?_
  refine s_goto C 329 (by decide) dX11_holdsHere_159 ?_
  exact s_weak [0] rfl (sm_Mod_holdsHere_329 C hV hR v0)
set_option maxRecDepth 20000 in
theorem sm_Mod_holdsHere_128 {G : GT} {ad : Nat → Nat} {K : Int32 → Dm → Prop} (C : Cx G rm_Mod_holdsHere cX11_holdsHere 5 RX11) (hV : Vx G rm_Mod_holdsHere ad ZF (0, 0)) (hR : RtI G rm_Mod_holdsHere ad ZF (0, 0) cX11_holdsHere .boolean K) (v0 : Nat) : Sm G rm_Mod_holdsHere ad ZF (0, 0) (lpK G rm_Mod_holdsHere ad ZF (0, 0) 9 (fun (s : Unit) => [(0, .ref v0)]) K) 128 [(0, .ref v0)] [] (Mod_holdsHere_128 v0) := by
  unfold Mod_holdsHere_128
  refine s_iconst C (1 : Int32) (by decide) dX11_holdsHere_128 ?_
  refine s_goto C 133 (by decide) dX11_holdsHere_129 ?_
  exact s_weak [0] rfl (sm_Mod_holdsHere_133 C hV hR v0 (1 : Int32))
set_option maxRecDepth 20000 in
theorem sm_Mod_holdsHere_61 {G : GT} {ad : Nat → Nat} {K : Int32 → Dm → Prop} (C : Cx G rm_Mod_holdsHere cX11_holdsHere 5 RX11) (hV : Vx G rm_Mod_holdsHere ad ZF (0, 0)) (hR : RtI G rm_Mod_holdsHere ad ZF (0, 0) cX11_holdsHere .boolean K) (v0 : Nat) (t0 : Nat) (t1 : Int32) (t2 : Int32) : Sm G rm_Mod_holdsHere ad ZF (0, 0) (lpK G rm_Mod_holdsHere ad ZF (0, 0) 9 (fun (s : Unit) => [(0, .ref v0)]) K) 61 [(0, .ref v0)] [.int t2, .int t1, .ref t0] (Mod_holdsHere_61 v0 t0 t1 t2) := by
  unfold Mod_holdsHere_61
  refine s_zastore C hV dX11_holdsHere_61 ?_
  refine s_aload_n C rfl dX11_holdsHere_62 ?_
  refine s_dupr C dX11_holdsHere_63 ?_
  refine s_getI C hV fl_X11_162 (fun _ _ _ => rfl) dX11_holdsHere_64 (fun x38 => ?_)
  refine s_iconst C (1 : Int32) (by decide) dX11_holdsHere_67 ?_
  refine s_iadd C dX11_holdsHere_68 ?_
  refine s_putI C hV fw_X11_162 rfl dX11_holdsHere_69 ?_
  refine s_goto C 329 (by decide) dX11_holdsHere_72 ?_
  exact s_weak [0] rfl (sm_Mod_holdsHere_329 C hV hR v0)
set_option maxRecDepth 20000 in
theorem sm_Mod_holdsHere_9_b {G : GT} {ad : Nat → Nat} {K : Int32 → Dm → Prop} (C : Cx G rm_Mod_holdsHere cX11_holdsHere 5 RX11) (hV : Vx G rm_Mod_holdsHere ad ZF (0, 0)) (hR : RtI G rm_Mod_holdsHere ad ZF (0, 0) cX11_holdsHere .boolean K) (v0 : Nat) : Sm G rm_Mod_holdsHere ad ZF (0, 0) (lpK G rm_Mod_holdsHere ad ZF (0, 0) 9 (fun (s : Unit) => [(0, .ref v0)]) K) 9 [(0, .ref v0)] [] (Mod_holdsHere_9_b v0) := by
  unfold Mod_holdsHere_9_b
  refine s_aload_n C rfl dX11_holdsHere_9 ?_
  refine s_wI C hV lv_X11_174 (st := []) (met_Mod_sign v0) rf_Mod_holdsHere_Mod_sign rfl rfl (Nat.le_of_ble_eq_true rfl) dX11_holdsHere_10 (fun r1 => ?_)
  refine s_if_eq C 332 (by decide) dX11_holdsHere_13 ?_ ?_
  · refine s_exit ?_
    exact s_weak [0] rfl (sm_Mod_holdsHere_332 C hV hR v0)
  · refine s_aload_n C rfl dX11_holdsHere_16 ?_
    refine s_wI C hV lv_X11_174 (st := []) (met_Mod_sign v0) rf_Mod_holdsHere_Mod_sign rfl rfl (Nat.le_of_ble_eq_true rfl) dX11_holdsHere_17 (fun r6 => ?_)
    refine s_bipush C (58 : Int32) (by decide) dX11_holdsHere_20 ?_
    refine s_icmp_eq C 332 (by decide) dX11_holdsHere_22 ?_ ?_
    · refine s_exit ?_
      exact s_weak [0] rfl (sm_Mod_holdsHere_332 C hV hR v0)
    · refine s_aload_n C rfl dX11_holdsHere_25 ?_
      refine s_wI C hV lv_X11_174 (st := []) (met_Mod_sign v0) rf_Mod_holdsHere_Mod_sign rfl rfl (Nat.le_of_ble_eq_true rfl) dX11_holdsHere_26 (fun r7 => ?_)
      refine s_istore_n C (L' := [(1, .int r7), (0, .ref v0)]) (by decide) rfl dX11_holdsHere_29 ?_
      refine s_iload_n C rfl dX11_holdsHere_30 ?_
      refine s_bipush C (33 : Int32) (by decide) dX11_holdsHere_31 ?_
      refine s_icmp_ne C 75 (by decide) dX11_holdsHere_33 ?_ ?_
      · refine s_iload_n C rfl dX11_holdsHere_75 ?_
        refine s_bipush C (40 : Int32) (by decide) dX11_holdsHere_76 ?_
        refine s_icmp_ne C 98 (by decide) dX11_holdsHere_78 ?_ ?_
        · refine s_iload_n C rfl dX11_holdsHere_98 ?_
          refine s_bipush C (41 : Int32) (by decide) dX11_holdsHere_99 ?_
          refine s_icmp_ne C 162 (by decide) dX11_holdsHere_101 ?_ ?_
          · refine s_iload_n C rfl dX11_holdsHere_162 ?_
            refine s_bipush C (124 : Int32) (by decide) dX11_holdsHere_163 ?_
            refine s_icmp_ne C 229 (by decide) dX11_holdsHere_165 ?_ ?_
            · refine s_iload_n C rfl dX11_holdsHere_229 ?_
              refine s_bipush C (38 : Int32) (by decide) dX11_holdsHere_230 ?_
              refine s_icmp_ne C 248 (by decide) dX11_holdsHere_232 ?_ ?_
              · refine s_aload_n C rfl dX11_holdsHere_248 ?_
                refine s_wI C hV lv_X11_188 (st := []) (met_Mod_sumHere v0) rf_Mod_holdsHere_Mod_sumHere rfl rfl (Nat.le_of_ble_eq_true rfl) dX11_holdsHere_249 (fun r8 => ?_)
                refine s_istore_n C (L' := [(2, .int r8), (1, .int r7), (0, .ref v0)]) (by decide) rfl dX11_holdsHere_252 ?_
                refine s_aload_n C rfl dX11_holdsHere_253 ?_
                refine s_wI C hV lv_X11_174 (st := []) (met_Mod_sign v0) rf_Mod_holdsHere_Mod_sign rfl rfl (Nat.le_of_ble_eq_true rfl) dX11_holdsHere_254 (fun r9 => ?_)
                refine s_istore_n C (L' := [(3, .int r9), (2, .int r8), (1, .int r7), (0, .ref v0)]) (by decide) rfl dX11_holdsHere_257 ?_
                refine s_aload_n C rfl dX11_holdsHere_258 ?_
                refine s_dupr C dX11_holdsHere_259 ?_
                refine s_getI C hV fl_X11_162 (fun _ _ _ => rfl) dX11_holdsHere_260 (fun x10 => ?_)
                refine s_iconst C (1 : Int32) (by decide) dX11_holdsHere_263 ?_
                refine s_iadd C dX11_holdsHere_264 ?_
                refine s_putI C hV fw_X11_162 rfl dX11_holdsHere_265 ?_
                refine s_aload_n C rfl dX11_holdsHere_268 ?_
                refine s_wI C hV lv_X11_188 (st := []) (met_Mod_sumHere v0) rf_Mod_holdsHere_Mod_sumHere rfl rfl (Nat.le_of_ble_eq_true rfl) dX11_holdsHere_269 (fun r11 => ?_)
                refine s_istore C (L' := [(4, .int r11), (3, .int r9), (2, .int r8), (1, .int r7), (0, .ref v0)]) (by decide) rfl dX11_holdsHere_272 ?_
                refine s_aload_n C rfl dX11_holdsHere_274 ?_
                refine s_iload_n C rfl dX11_holdsHere_275 ?_
                refine s_bipush C (60 : Int32) (by decide) dX11_holdsHere_276 ?_
                refine s_icmp_ne C 295 (by decide) dX11_holdsHere_278 ?_ ?_
                · refine s_iload_n C rfl dX11_holdsHere_295 ?_
                  refine s_bipush C (61 : Int32) (by decide) dX11_holdsHere_296 ?_
                  refine s_icmp_ne C 315 (by decide) dX11_holdsHere_298 ?_ ?_
                  · refine s_iload_n C rfl dX11_holdsHere_315 ?_
                    refine s_iload C rfl dX11_holdsHere_316 ?_
                    refine s_ite (g := fun z => Mod_holdsHere_326 v0 v0 z) ?_
                    refine s_icmp_le C 325 (by decide) dX11_holdsHere_318 ?_ ?_
                    · refine s_iconst C (0 : Int32) (by decide) dX11_holdsHere_325 ?_
                      exact s_weak [0] rfl (sm_Mod_holdsHere_326 C hV hR v0 v0 (0 : Int32))
                    · refine s_iconst C (1 : Int32) (by decide) dX11_holdsHere_321 ?_
                      refine s_goto C 326 (by decide) dX11_holdsHere_322 ?_
                      exact s_weak [0] rfl (sm_Mod_holdsHere_326 C hV hR v0 v0 (1 : Int32))
                  · refine s_iload_n C rfl dX11_holdsHere_301 ?_
                    refine s_iload C rfl dX11_holdsHere_302 ?_
                    refine s_ite (g := fun z => Mod_holdsHere_326 v0 v0 z) ?_
                    refine s_icmp_ne C 311 (by decide) dX11_holdsHere_304 ?_ ?_
                    · refine s_iconst C (0 : Int32) (by decide) dX11_holdsHere_311 ?_
                      refine s_goto C 326 (by decide) dX11_holdsHere_312 ?_
                      exact s_weak [0] rfl (sm_Mod_holdsHere_326 C hV hR v0 v0 (0 : Int32))
                    · refine s_iconst C (1 : Int32) (by decide) dX11_holdsHere_307 ?_
                      refine s_goto C 326 (by decide) dX11_holdsHere_308 ?_
                      exact s_weak [0] rfl (sm_Mod_holdsHere_326 C hV hR v0 v0 (1 : Int32))
                · refine s_iload_n C rfl dX11_holdsHere_281 ?_
                  refine s_iload C rfl dX11_holdsHere_282 ?_
                  refine s_ite (g := fun z => Mod_holdsHere_326 v0 v0 z) ?_
                  refine s_icmp_ge C 291 (by decide) dX11_holdsHere_284 ?_ ?_
                  · refine s_iconst C (0 : Int32) (by decide) dX11_holdsHere_291 ?_
                    refine s_goto C 326 (by decide) dX11_holdsHere_292 ?_
                    exact s_weak [0] rfl (sm_Mod_holdsHere_326 C hV hR v0 v0 (0 : Int32))
                  · refine s_iconst C (1 : Int32) (by decide) dX11_holdsHere_287 ?_
                    refine s_goto C 326 (by decide) dX11_holdsHere_288 ?_
                    exact s_weak [0] rfl (sm_Mod_holdsHere_326 C hV hR v0 v0 (1 : Int32))
              · refine s_aload_n C rfl dX11_holdsHere_235 ?_
                refine s_dupr C dX11_holdsHere_236 ?_
                refine s_getI C hV fl_X11_162 (fun _ _ _ => rfl) dX11_holdsHere_237 (fun x12 => ?_)
                refine s_iconst C (1 : Int32) (by decide) dX11_holdsHere_240 ?_
                refine s_iadd C dX11_holdsHere_241 ?_
                refine s_putI C hV fw_X11_162 rfl dX11_holdsHere_242 ?_
                refine s_goto C 329 (by decide) dX11_holdsHere_245 ?_
                exact s_weak [0] rfl (sm_Mod_holdsHere_329 C hV hR v0)
            · refine s_aload_n C rfl dX11_holdsHere_168 ?_
              refine s_getR C hV fl_X11_49 (fun _ _ _ => rfl) dX11_holdsHere_169 (fun x13 => ?_)
              refine s_aload_n C rfl dX11_holdsHere_172 ?_
              refine s_getI C hV fl_X11_178 (fun _ _ _ => rfl) dX11_holdsHere_173 (fun x14 => ?_)
              refine s_aload_n C rfl dX11_holdsHere_176 ?_
              refine s_getR C hV fl_X11_49 (fun _ _ _ => rfl) dX11_holdsHere_177 (fun x15 => ?_)
              refine s_aload_n C rfl dX11_holdsHere_180 ?_
              refine s_getI C hV fl_X11_178 (fun _ _ _ => rfl) dX11_holdsHere_181 (fun x16 => ?_)
              refine s_zaload C hV dX11_holdsHere_184 (fun x17 => ?_)
              refine s_if_ne C 200 (by decide) dX11_holdsHere_185 ?_ ?_
              · exact s_weak [0] rfl (sm_Mod_holdsHere_200 C hV hR v0 x13 x14)
              · refine s_aload_n C rfl dX11_holdsHere_188 ?_
                refine s_getR C hV fl_X11_52 (fun _ _ _ => rfl) dX11_holdsHere_189 (fun x21 => ?_)
                refine s_aload_n C rfl dX11_holdsHere_192 ?_
                refine s_getI C hV fl_X11_178 (fun _ _ _ => rfl) dX11_holdsHere_193 (fun x22 => ?_)
                refine s_zaload C hV dX11_holdsHere_196 (fun x23 => ?_)
                refine s_if_eq C 204 (by decide) dX11_holdsHere_197 ?_ ?_
                · refine s_iconst C (0 : Int32) (by decide) dX11_holdsHere_204 ?_
                  exact s_weak [0] rfl (sm_Mod_holdsHere_205 C hV hR v0 x13 x14 (0 : Int32))
                · exact s_weak [0] rfl (sm_Mod_holdsHere_200 C hV hR v0 x13 x14)
          · refine s_aload_n C rfl dX11_holdsHere_104 ?_
            refine s_getR C hV fl_X11_49 (fun _ _ _ => rfl) dX11_holdsHere_105 (fun x24 => ?_)
            refine s_aload_n C rfl dX11_holdsHere_108 ?_
            refine s_getI C hV fl_X11_178 (fun _ _ _ => rfl) dX11_holdsHere_109 (fun x25 => ?_)
            refine s_zaload C hV dX11_holdsHere_112 (fun x26 => ?_)
            refine s_if_ne C 128 (by decide) dX11_holdsHere_113 ?_ ?_
            · exact s_weak [0] rfl (sm_Mod_holdsHere_128 C hV hR v0)
            · refine s_aload_n C rfl dX11_holdsHere_116 ?_
              refine s_getR C hV fl_X11_52 (fun _ _ _ => rfl) dX11_holdsHere_117 (fun x29 => ?_)
              refine s_aload_n C rfl dX11_holdsHere_120 ?_
              refine s_getI C hV fl_X11_178 (fun _ _ _ => rfl) dX11_holdsHere_121 (fun x30 => ?_)
              refine s_zaload C hV dX11_holdsHere_124 (fun x31 => ?_)
              refine s_if_eq C 132 (by decide) dX11_holdsHere_125 ?_ ?_
              · refine s_iconst C (0 : Int32) (by decide) dX11_holdsHere_132 ?_
                exact s_weak [0] rfl (sm_Mod_holdsHere_133 C hV hR v0 (0 : Int32))
              · exact s_weak [0] rfl (sm_Mod_holdsHere_128 C hV hR v0)
        · refine s_aload_n C rfl dX11_holdsHere_81 ?_
          refine s_wV C hV lv_X11_181 (st := []) (met_Mod_openGroup v0) rf_Mod_holdsHere_Mod_openGroup rfl rfl (Nat.le_of_ble_eq_true rfl) dX11_holdsHere_82 ?_
          refine s_aload_n C rfl dX11_holdsHere_85 ?_
          refine s_dupr C dX11_holdsHere_86 ?_
          refine s_getI C hV fl_X11_162 (fun _ _ _ => rfl) dX11_holdsHere_87 (fun x32 => ?_)
          refine s_iconst C (1 : Int32) (by decide) dX11_holdsHere_90 ?_
          refine s_iadd C dX11_holdsHere_91 ?_
          refine s_putI C hV fw_X11_162 rfl dX11_holdsHere_92 ?_
          refine s_goto C 329 (by decide) dX11_holdsHere_95 ?_
          exact s_weak [0] rfl (sm_Mod_holdsHere_329 C hV hR v0)
      · refine s_aload_n C rfl dX11_holdsHere_36 ?_
        refine s_getR C hV fl_X11_55 (fun _ _ _ => rfl) dX11_holdsHere_37 (fun x33 => ?_)
        refine s_aload_n C rfl dX11_holdsHere_40 ?_
        refine s_getI C hV fl_X11_178 (fun _ _ _ => rfl) dX11_holdsHere_41 (fun x34 => ?_)
        refine s_aload_n C rfl dX11_holdsHere_44 ?_
        refine s_getR C hV fl_X11_55 (fun _ _ _ => rfl) dX11_holdsHere_45 (fun x35 => ?_)
        refine s_aload_n C rfl dX11_holdsHere_48 ?_
        refine s_getI C hV fl_X11_178 (fun _ _ _ => rfl) dX11_holdsHere_49 (fun x36 => ?_)
        refine s_zaload C hV dX11_holdsHere_52 (fun x37 => ?_)
        refine s_ite (g := fun z => Mod_holdsHere_61 v0 x33 x34 z) ?_
        refine s_if_ne C 60 (by decide) dX11_holdsHere_53 ?_ ?_
        · refine s_iconst C (0 : Int32) (by decide) dX11_holdsHere_60 ?_
          exact s_weak [0] rfl (sm_Mod_holdsHere_61 C hV hR v0 x33 x34 (0 : Int32))
        · refine s_iconst C (1 : Int32) (by decide) dX11_holdsHere_56 ?_
          refine s_goto C 61 (by decide) dX11_holdsHere_57 ?_
          exact s_weak [0] rfl (sm_Mod_holdsHere_61 C hV hR v0 x33 x34 (1 : Int32))
set_option maxRecDepth 20000 in
theorem sm_Mod_holdsHere_9 {G : GT} {ad : Nat → Nat} {K : Int32 → Dm → Prop} (C : Cx G rm_Mod_holdsHere cX11_holdsHere 5 RX11) (hV : Vx G rm_Mod_holdsHere ad ZF (0, 0)) (hR : RtI G rm_Mod_holdsHere ad ZF (0, 0) cX11_holdsHere .boolean K) (v0 : Nat) (s : Unit) : Sm G rm_Mod_holdsHere ad ZF (0, 0) K 9 ((fun (s : Unit) => [(0, .ref v0)]) s) [] (Mod_holdsHere_9 v0 s) :=
  s_loop (en := (fun (s : Unit) => [(0, .ref v0)])) (fun s => sm_Mod_holdsHere_9_b C hV hR v0) s
set_option maxRecDepth 20000 in
theorem sm_Mod_holdsHere {G : GT} {ad : Nat → Nat} {K : Int32 → Dm → Prop} (C : Cx G rm_Mod_holdsHere cX11_holdsHere 5 RX11) (hV : Vx G rm_Mod_holdsHere ad ZF (0, 0)) (hR : RtI G rm_Mod_holdsHere ad ZF (0, 0) cX11_holdsHere .boolean K) (v0 : Nat) : Sm G rm_Mod_holdsHere ad ZF (0, 0) K 0 [(0, .ref v0)] [] (Mod_holdsHere v0) := by
  unfold Mod_holdsHere
  refine s_aload_n C rfl dX11_holdsHere_0 ?_
  refine s_iconst C ((-1) : Int32) (by decide) dX11_holdsHere_1 ?_
  refine s_putI C hV fw_X11_178 rfl dX11_holdsHere_2 ?_
  refine s_aload_n C rfl dX11_holdsHere_5 ?_
  refine s_wV C hV lv_X11_181 (st := []) (met_Mod_openGroup v0) rf_Mod_holdsHere_Mod_openGroup rfl rfl (Nat.le_of_ble_eq_true rfl) dX11_holdsHere_6 ?_
  exact s_weak [0] rfl (sm_Mod_holdsHere_9 C hV hR v0 ())
set_option maxRecDepth 20000 in
theorem met_Mod_holdsHere (v0 : Nat) : MI ZF yX11_holdsHere cX11_holdsHere 5 .boolean rm_Mod_holdsHere [.ref v0] (Mod_holdsHere v0) :=
  mi_of (L0 := [(0, .ref v0)]) (by decide +kernel) (Nat.le_of_ble_eq_true rfl) rfl (fun G ad K C hV hR => sm_Mod_holdsHere C hV hR v0)

noncomputable def Mod_holdsNow (v0 : Nat) (v1 : Int32) : MM Int32 :=
  mb (pZ ZF 12 19 v0 (0 : Int32)) fun _ =>
  mb (pI ZF 12 20 v0 ((60 : Int32) * v1)) fun _ =>
  mb (pI ZF 12 21 v0 (0 : Int32)) fun _ =>
  mb (gR ZF 12 8 v0) fun x1 =>
  mb (aI ZF 23 x1 v1) fun x2 =>
  mb (pI ZF 12 22 v0 x2) fun _ =>
  mb (vc ZF 12 v0 (Mod_holdsHere v0)) fun r3 =>
  mz r3
set_option maxRecDepth 20000 in
theorem sm_Mod_holdsNow {G : GT} {ad : Nat → Nat} {K : Int32 → Dm → Prop} (C : Cx G rm_Mod_holdsNow cX11_holdsNow 2 RX11) (hV : Vx G rm_Mod_holdsNow ad ZF (0, 0)) (hR : RtI G rm_Mod_holdsNow ad ZF (0, 0) cX11_holdsNow .boolean K) (v0 : Nat) (v1 : Int32) : Sm G rm_Mod_holdsNow ad ZF (0, 0) K 0 [(0, .ref v0), (1, .int v1)] [] (Mod_holdsNow v0 v1) := by
  unfold Mod_holdsNow
  refine s_aload_n C rfl dX11_holdsNow_0 ?_
  refine s_iconst C (0 : Int32) (by decide) dX11_holdsNow_1 ?_
  refine s_putZ C hV fw_X11_168 rfl dX11_holdsNow_2 ?_
  refine s_aload_n C rfl dX11_holdsNow_5 ?_
  refine s_bipush C (60 : Int32) (by decide) dX11_holdsNow_6 ?_
  refine s_iload_n C rfl dX11_holdsNow_8 ?_
  refine s_imul C dX11_holdsNow_9 ?_
  refine s_putI C hV fw_X11_171 rfl dX11_holdsNow_10 ?_
  refine s_aload_n C rfl dX11_holdsNow_13 ?_
  refine s_iconst C (0 : Int32) (by decide) dX11_holdsNow_14 ?_
  refine s_putI C hV fw_X11_162 rfl dX11_holdsNow_15 ?_
  refine s_aload_n C rfl dX11_holdsNow_18 ?_
  refine s_aload_n C rfl dX11_holdsNow_19 ?_
  refine s_getR C hV fl_X11_26 (fun _ _ _ => rfl) dX11_holdsNow_20 (fun x1 => ?_)
  refine s_iload_n C rfl dX11_holdsNow_23 ?_
  refine s_iaload C hV dX11_holdsNow_24 (fun x2 => ?_)
  refine s_putI C hV fw_X11_165 rfl dX11_holdsNow_25 ?_
  refine s_aload_n C rfl dX11_holdsNow_28 ?_
  refine s_wI C hV lv_X11_191 (st := []) (met_Mod_holdsHere v0) rf_Mod_holdsNow_Mod_holdsHere rfl rfl (Nat.le_of_ble_eq_true rfl) dX11_holdsNow_29 (fun r3 => ?_)
  exact s_iretz hR dX11_holdsNow_32
set_option maxRecDepth 20000 in
theorem met_Mod_holdsNow (v0 : Nat) (v1 : Int32) : MI ZF yX11_holdsNow cX11_holdsNow 2 .boolean rm_Mod_holdsNow [.ref v0, .int v1] (Mod_holdsNow v0 v1) :=
  mi_of (L0 := [(0, .ref v0), (1, .int v1)]) (by decide +kernel) (Nat.le_of_ble_eq_true rfl) rfl (fun G ad K C hV hR => sm_Mod_holdsNow C hV hR v0 v1)

noncomputable def Mod_holds (v0 : Nat) (v1 : Int32) (v2 : Int64) : MM Int32 :=
  mb (gI ZF 12 6 v0) fun x1 =>
  mb ((Mod_in v1 (0 : Int32) (x1 - (1 : Int32)))) fun r2 =>
  if r2 = 0 then
  mp ((-101) : Int32)
  else
  mb ((Mod_isPlate v2)) fun r3 =>
  if r3 = 0 then
  mp ((-102) : Int32)
  else
  mb (vc ZF 12 v0 (Mod_lay v0 v2)) fun _ =>
  mb (vc ZF 12 v0 (Mod_holdsNow v0 v1)) fun r4 =>
  if r4 = 0 then
  mp (0 : Int32)
  else
  mp (1 : Int32)
set_option maxRecDepth 20000 in
theorem sm_Mod_holds {G : GT} {ad : Nat → Nat} {K : Int32 → Dm → Prop} (C : Cx G rm_Mod_holds cX11_holds 4 RX11) (hV : Vx G rm_Mod_holds ad ZF (0, 0)) (hR : RtI G rm_Mod_holds ad ZF (0, 0) cX11_holds .int K) (v0 : Nat) (v1 : Int32) (v2 : Int64) : Sm G rm_Mod_holds ad ZF (0, 0) K 0 [(0, .ref v0), (1, .int v1), (2, .long v2)] [] (Mod_holds v0 v1 v2) := by
  unfold Mod_holds
  refine s_iload_n C rfl dX11_holds_0 ?_
  refine s_iconst C (0 : Int32) (by decide) dX11_holds_1 ?_
  refine s_aload_n C rfl dX11_holds_2 ?_
  refine s_getI C hV fl_X11_111 (fun _ _ _ => rfl) dX11_holds_3 (fun x1 => ?_)
  refine s_iconst C (1 : Int32) (by decide) dX11_holds_6 ?_
  refine s_isub C dX11_holds_7 ?_
  refine s_uI C hV ls_X11_89 (st := []) (met_Mod_in v1 (0 : Int32) (x1 - (1 : Int32))) rf_Mod_holds_Mod_in rfl rfl (Nat.le_of_ble_eq_true rfl) dX11_holds_8 (fun r2 => ?_)
  refine s_if_ne C 17 (by decide) dX11_holds_11 ?_ ?_
  · refine s_lload_n C rfl dX11_holds_17 ?_
    refine s_uI C hV ls_X11_212 (st := []) (met_Mod_isPlate v2) rf_Mod_holds_Mod_isPlate rfl rfl (Nat.le_of_ble_eq_true rfl) dX11_holds_18 (fun r3 => ?_)
    refine s_if_ne C 27 (by decide) dX11_holds_21 ?_ ?_
    · refine s_aload_n C rfl dX11_holds_27 ?_
      refine s_lload_n C rfl dX11_holds_28 ?_
      refine s_wV C hV lv_X11_195 (st := []) (met_Mod_lay v0 v2) rf_Mod_holds_Mod_lay rfl rfl (Nat.le_of_ble_eq_true rfl) dX11_holds_29 ?_
      refine s_aload_n C rfl dX11_holds_32 ?_
      refine s_iload_n C rfl dX11_holds_33 ?_
      refine s_wI C hV lv_X11_216 (st := []) (met_Mod_holdsNow v0 v1) rf_Mod_holds_Mod_holdsNow rfl rfl (Nat.le_of_ble_eq_true rfl) dX11_holds_34 (fun r4 => ?_)
      refine s_if_eq C 44 (by decide) dX11_holds_37 ?_ ?_
      · refine s_iconst C (0 : Int32) (by decide) dX11_holds_44 ?_
        exact s_ireti hR dX11_holds_45
      · refine s_iconst C (1 : Int32) (by decide) dX11_holds_40 ?_
        refine s_goto C 45 (by decide) dX11_holds_41 ?_
        exact s_ireti hR dX11_holds_45
    · refine s_bipush C ((-102) : Int32) (by decide) dX11_holds_24 ?_
      exact s_ireti hR dX11_holds_26
  · refine s_bipush C ((-101) : Int32) (by decide) dX11_holds_14 ?_
    exact s_ireti hR dX11_holds_16
set_option maxRecDepth 20000 in
theorem met_Mod_holds (v0 : Nat) (v1 : Int32) (v2 : Int64) : MI ZF yX11_holds cX11_holds 4 .int rm_Mod_holds [.ref v0, .int v1, .long v2] (Mod_holds v0 v1 v2) :=
  mi_of (L0 := [(0, .ref v0), (1, .int v1), (2, .long v2)]) (by decide +kernel) (Nat.le_of_ble_eq_true rfl) rfl (fun G ad K C hV hR => sm_Mod_holds C hV hR v0 v1 v2)
