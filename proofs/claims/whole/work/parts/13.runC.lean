noncomputable def Main_forgetFound (v0 : Nat) : MM Unit :=
  mb (gR ZF 11 6 v0) fun x1 =>
  mb (vc ZF 2 x1 (Found_forget x1)) fun _ =>
  mb (gR ZF 11 0 v0) fun x2 =>
  mb (vc ZF 10 x2 (Verd_forget x2)) fun _ =>
  mp ()
set_option maxRecDepth 20000 in
theorem sm_Main_forgetFound {G : GT} {ad : Nat → Nat} {K : Unit → Dm → Prop} (C : Cx G rm_Main_forgetFound cX10_forgetFound 1 RX10) (hV : Vx G rm_Main_forgetFound ad ZF (0, 0)) (hR : RtV G rm_Main_forgetFound ad ZF (0, 0) cX10_forgetFound K) (v0 : Nat) : Sm G rm_Main_forgetFound ad ZF (0, 0) K 0 [(0, .ref v0)] [] (Main_forgetFound v0) := by
  unfold Main_forgetFound
  refine s_aload_n C rfl dX10_forgetFound_0 ?_
  refine s_getR C hV fl_X10_48 (fun _ _ _ => rfl) dX10_forgetFound_1 (fun x1 => ?_)
  refine s_wV C hV lv_X10_302 (st := []) (met_Found_forget x1) rf_Main_forgetFound_Found_forget rfl rfl (Nat.le_of_ble_eq_true rfl) dX10_forgetFound_4 ?_
  refine s_aload_n C rfl dX10_forgetFound_7 ?_
  refine s_getR C hV fl_X10_12 (fun _ _ _ => rfl) dX10_forgetFound_8 (fun x2 => ?_)
  refine s_wV C hV lv_X10_168 (st := []) (met_Verd_forget x2) rf_Main_forgetFound_Verd_forget rfl rfl (Nat.le_of_ble_eq_true rfl) dX10_forgetFound_11 ?_
  exact s_vret hR dX10_forgetFound_14
set_option maxRecDepth 20000 in
theorem met_Main_forgetFound (v0 : Nat) : MV ZF yX10_forgetFound cX10_forgetFound 1 rm_Main_forgetFound [.ref v0] (Main_forgetFound v0) :=
  mv_of (L0 := [(0, .ref v0)]) (by decide +kernel) (Nat.le_of_ble_eq_true rfl) rfl (fun G ad K C hV hR => sm_Main_forgetFound C hV hR v0)

noncomputable def Main_sector (v0 : Nat) (v1 : Int32) (v2 : Int32) : MM Int32 :=
  mb ((Main_isSector v1)) fun r1 =>
  if r1 = 0 then
  mp ((-101) : Int32)
  else
  mb ((Main_isFigure v2)) fun r2 =>
  if r2 = 0 then
  mp ((-102) : Int32)
  else
  mb (gR ZF 11 1 v0) fun x3 =>
  mb (gL ZF 6 2 x3) fun x4 =>
  mb ((Main_figureOf x4 v1)) fun r5 =>
  mb (gR ZF 11 1 v0) fun x6 =>
  mb (gR ZF 11 1 v0) fun x7 =>
  mb (gL ZF 6 2 x7) fun x8 =>
  mb ((Main_withFigure x8 v1 v2)) fun r9 =>
  mb (pL ZF 6 2 x6 r9) fun _ =>
  mb (vc ZF 11 v0 (Main_forgetFound v0)) fun _ =>
  mp r5
set_option maxRecDepth 20000 in
theorem sm_Main_sector {G : GT} {ad : Nat → Nat} {K : Int32 → Dm → Prop} (C : Cx G rm_Main_sector cX10_sector 4 RX10) (hV : Vx G rm_Main_sector ad ZF (0, 0)) (hR : RtI G rm_Main_sector ad ZF (0, 0) cX10_sector .int K) (v0 : Nat) (v1 : Int32) (v2 : Int32) : Sm G rm_Main_sector ad ZF (0, 0) K 0 [(0, .ref v0), (1, .int v1), (2, .int v2)] [] (Main_sector v0 v1 v2) := by
  unfold Main_sector
  refine s_iload_n C rfl dX10_sector_0 ?_
  refine s_uI C hV ls_X10_69 (st := []) (met_Main_isSector v1) rf_Main_sector_Main_isSector rfl rfl (Nat.le_of_ble_eq_true rfl) dX10_sector_1 (fun r1 => ?_)
  refine s_if_ne C 10 (by decide) dX10_sector_4 ?_ ?_
  · refine s_iload_n C rfl dX10_sector_10 ?_
    refine s_uI C hV ls_X10_73 (st := []) (met_Main_isFigure v2) rf_Main_sector_Main_isFigure rfl rfl (Nat.le_of_ble_eq_true rfl) dX10_sector_11 (fun r2 => ?_)
    refine s_if_ne C 20 (by decide) dX10_sector_14 ?_ ?_
    · refine s_aload_n C rfl dX10_sector_20 ?_
      refine s_getR C hV fl_X10_20 (fun _ _ _ => rfl) dX10_sector_21 (fun x3 => ?_)
      refine s_getL C hV fl_X10_76 (fun _ _ _ => rfl) dX10_sector_24 (fun x4 => ?_)
      refine s_iload_n C rfl dX10_sector_27 ?_
      refine s_uI C hV ls_X10_82 (st := []) (met_Main_figureOf x4 v1) rf_Main_sector_Main_figureOf rfl rfl (Nat.le_of_ble_eq_true rfl) dX10_sector_28 (fun r5 => ?_)
      refine s_istore_n C (L' := [(3, .int r5), (0, .ref v0), (1, .int v1), (2, .int v2)]) (by decide) rfl dX10_sector_31 ?_
      refine s_aload_n C rfl dX10_sector_32 ?_
      refine s_getR C hV fl_X10_20 (fun _ _ _ => rfl) dX10_sector_33 (fun x6 => ?_)
      refine s_aload_n C rfl dX10_sector_36 ?_
      refine s_getR C hV fl_X10_20 (fun _ _ _ => rfl) dX10_sector_37 (fun x7 => ?_)
      refine s_getL C hV fl_X10_76 (fun _ _ _ => rfl) dX10_sector_40 (fun x8 => ?_)
      refine s_iload_n C rfl dX10_sector_43 ?_
      refine s_iload_n C rfl dX10_sector_44 ?_
      refine s_uL C hV ls_X10_86 (st := [.ref x6]) (met_Main_withFigure x8 v1 v2) rf_Main_sector_Main_withFigure rfl rfl (Nat.le_of_ble_eq_true rfl) dX10_sector_45 (fun r9 => ?_)
      refine s_putL C hV fw_X10_76 rfl dX10_sector_48 ?_
      refine s_aload_n C rfl dX10_sector_51 ?_
      refine s_wV C hV lv_X10_90 (st := []) (met_Main_forgetFound v0) rf_Main_sector_Main_forgetFound rfl rfl (Nat.le_of_ble_eq_true rfl) dX10_sector_52 ?_
      refine s_iload_n C rfl dX10_sector_55 ?_
      exact s_ireti hR dX10_sector_56
    · refine s_bipush C ((-102) : Int32) (by decide) dX10_sector_17 ?_
      exact s_ireti hR dX10_sector_19
  · refine s_bipush C ((-101) : Int32) (by decide) dX10_sector_7 ?_
    exact s_ireti hR dX10_sector_9
set_option maxRecDepth 20000 in
theorem met_Main_sector (v0 : Nat) (v1 : Int32) (v2 : Int32) : MI ZF yX10_sector cX10_sector 4 .int rm_Main_sector [.ref v0, .int v1, .int v2] (Main_sector v0 v1 v2) :=
  mi_of (L0 := [(0, .ref v0), (1, .int v1), (2, .int v2)]) (by decide +kernel) (Nat.le_of_ble_eq_true rfl) rfl (fun G ad K C hV hR => sm_Main_sector C hV hR v0 v1 v2)

noncomputable def Main_addAct (v0 : Nat) (v1 : Int32) (v2 : Int32) (v3 : Int32) (v4 : Int32) (v5 : Int32) : MM Int32 :=
  mb (gR ZF 11 1 v0) fun x1 =>
  mb (gI ZF 6 1 x1) fun x2 =>
  if x2 < (12 : Int32) then
  mb (gR ZF 11 1 v0) fun x3 =>
  mb (gR ZF 6 0 x3) fun x4 =>
  mb (gR ZF 11 1 v0) fun x5 =>
  mb (gI ZF 6 1 x5) fun x6 =>
  mb (aR ZF 26 x4 x6) fun x7 =>
  mb (vc ZF 1 x7 (Act_become x7 v1 v2 v3 v4 v5)) fun _ =>
  mb (gR ZF 11 1 v0) fun x8 =>
  mb (gI ZF 6 1 x8) fun x9 =>
  mb (pI ZF 6 1 x8 (x9 + (1 : Int32))) fun _ =>
  mb (vc ZF 11 v0 (Main_forgetFound v0)) fun _ =>
  mb (gR ZF 11 1 v0) fun x10 =>
  mb (gI ZF 6 1 x10) fun x11 =>
  mp (x11 - (1 : Int32))
  else
  mp ((-104) : Int32)
set_option maxRecDepth 20000 in
theorem sm_Main_addAct {G : GT} {ad : Nat → Nat} {K : Int32 → Dm → Prop} (C : Cx G rm_Main_addAct cX10_addAct 6 RX10) (hV : Vx G rm_Main_addAct ad ZF (0, 0)) (hR : RtI G rm_Main_addAct ad ZF (0, 0) cX10_addAct .int K) (v0 : Nat) (v1 : Int32) (v2 : Int32) (v3 : Int32) (v4 : Int32) (v5 : Int32) : Sm G rm_Main_addAct ad ZF (0, 0) K 0 [(0, .ref v0), (1, .int v1), (2, .int v2), (3, .int v3), (4, .int v4), (5, .int v5)] [] (Main_addAct v0 v1 v2 v3 v4 v5) := by
  unfold Main_addAct
  refine s_aload_n C rfl dX10_addAct_0 ?_
  refine s_getR C hV fl_X10_20 (fun _ _ _ => rfl) dX10_addAct_1 (fun x1 => ?_)
  refine s_getI C hV fl_X10_102 (fun _ _ _ => rfl) dX10_addAct_4 (fun x2 => ?_)
  refine s_bipush C (12 : Int32) (by decide) dX10_addAct_7 ?_
  refine s_icmp_lt C 15 (by decide) dX10_addAct_9 ?_ ?_
  · refine s_aload_n C rfl dX10_addAct_15 ?_
    refine s_getR C hV fl_X10_20 (fun _ _ _ => rfl) dX10_addAct_16 (fun x3 => ?_)
    refine s_getR C hV fl_X10_110 (fun _ _ _ => rfl) dX10_addAct_19 (fun x4 => ?_)
    refine s_aload_n C rfl dX10_addAct_22 ?_
    refine s_getR C hV fl_X10_20 (fun _ _ _ => rfl) dX10_addAct_23 (fun x5 => ?_)
    refine s_getI C hV fl_X10_102 (fun _ _ _ => rfl) dX10_addAct_26 (fun x6 => ?_)
    refine s_aaloadA C hV dX10_addAct_29 (fun x7 => ?_)
    refine s_iload_n C rfl dX10_addAct_30 ?_
    refine s_iload_n C rfl dX10_addAct_31 ?_
    refine s_iload_n C rfl dX10_addAct_32 ?_
    refine s_iload C rfl dX10_addAct_33 ?_
    refine s_iload C rfl dX10_addAct_35 ?_
    refine s_wV C hV lv_X10_132 (st := []) (met_Act_become x7 v1 v2 v3 v4 v5) rf_Main_addAct_Act_become rfl rfl (Nat.le_of_ble_eq_true rfl) dX10_addAct_37 ?_
    refine s_aload_n C rfl dX10_addAct_40 ?_
    refine s_getR C hV fl_X10_20 (fun _ _ _ => rfl) dX10_addAct_41 (fun x8 => ?_)
    refine s_dupr C dX10_addAct_44 ?_
    refine s_getI C hV fl_X10_102 (fun _ _ _ => rfl) dX10_addAct_45 (fun x9 => ?_)
    refine s_iconst C (1 : Int32) (by decide) dX10_addAct_48 ?_
    refine s_iadd C dX10_addAct_49 ?_
    refine s_putI C hV fw_X10_102 rfl dX10_addAct_50 ?_
    refine s_aload_n C rfl dX10_addAct_53 ?_
    refine s_wV C hV lv_X10_90 (st := []) (met_Main_forgetFound v0) rf_Main_addAct_Main_forgetFound rfl rfl (Nat.le_of_ble_eq_true rfl) dX10_addAct_54 ?_
    refine s_aload_n C rfl dX10_addAct_57 ?_
    refine s_getR C hV fl_X10_20 (fun _ _ _ => rfl) dX10_addAct_58 (fun x10 => ?_)
    refine s_getI C hV fl_X10_102 (fun _ _ _ => rfl) dX10_addAct_61 (fun x11 => ?_)
    refine s_iconst C (1 : Int32) (by decide) dX10_addAct_64 ?_
    refine s_isub C dX10_addAct_65 ?_
    exact s_ireti hR dX10_addAct_66
  · refine s_bipush C ((-104) : Int32) (by decide) dX10_addAct_12 ?_
    exact s_ireti hR dX10_addAct_14
set_option maxRecDepth 20000 in
theorem met_Main_addAct (v0 : Nat) (v1 : Int32) (v2 : Int32) (v3 : Int32) (v4 : Int32) (v5 : Int32) : MI ZF yX10_addAct cX10_addAct 6 .int rm_Main_addAct [.ref v0, .int v1, .int v2, .int v3, .int v4, .int v5] (Main_addAct v0 v1 v2 v3 v4 v5) :=
  mi_of (L0 := [(0, .ref v0), (1, .int v1), (2, .int v2), (3, .int v3), (4, .int v4), (5, .int v5)]) (by decide +kernel) (Nat.le_of_ble_eq_true rfl) rfl (fun G ad K C hV hR => sm_Main_addAct C hV hR v0 v1 v2 v3 v4 v5)

noncomputable def Main_write (v0 : Nat) (v1 : Int32) (v2 : Int32) : MM Int32 :=
  mb ((Main_isSector v1)) fun r1 =>
  if r1 = 0 then
  mp ((-101) : Int32)
  else
  mb ((Main_isFigure v2)) fun r2 =>
  if r2 = 0 then
  mp ((-102) : Int32)
  else
  mb (vc ZF 11 v0 (Main_addAct v0 (0 : Int32) v1 v2 ((-1) : Int32) ((-1) : Int32))) fun r3 =>
  mp r3
set_option maxRecDepth 20000 in
theorem sm_Main_write {G : GT} {ad : Nat → Nat} {K : Int32 → Dm → Prop} (C : Cx G rm_Main_write cX10_write 3 RX10) (hV : Vx G rm_Main_write ad ZF (0, 0)) (hR : RtI G rm_Main_write ad ZF (0, 0) cX10_write .int K) (v0 : Nat) (v1 : Int32) (v2 : Int32) : Sm G rm_Main_write ad ZF (0, 0) K 0 [(0, .ref v0), (1, .int v1), (2, .int v2)] [] (Main_write v0 v1 v2) := by
  unfold Main_write
  refine s_iload_n C rfl dX10_write_0 ?_
  refine s_uI C hV ls_X10_69 (st := []) (met_Main_isSector v1) rf_Main_write_Main_isSector rfl rfl (Nat.le_of_ble_eq_true rfl) dX10_write_1 (fun r1 => ?_)
  refine s_if_ne C 10 (by decide) dX10_write_4 ?_ ?_
  · refine s_iload_n C rfl dX10_write_10 ?_
    refine s_uI C hV ls_X10_73 (st := []) (met_Main_isFigure v2) rf_Main_write_Main_isFigure rfl rfl (Nat.le_of_ble_eq_true rfl) dX10_write_11 (fun r2 => ?_)
    refine s_if_ne C 20 (by decide) dX10_write_14 ?_ ?_
    · refine s_aload_n C rfl dX10_write_20 ?_
      refine s_iconst C (0 : Int32) (by decide) dX10_write_21 ?_
      refine s_iload_n C rfl dX10_write_22 ?_
      refine s_iload_n C rfl dX10_write_23 ?_
      refine s_iconst C ((-1) : Int32) (by decide) dX10_write_24 ?_
      refine s_iconst C ((-1) : Int32) (by decide) dX10_write_25 ?_
      refine s_wI C hV lv_X10_93 (st := []) (met_Main_addAct v0 (0 : Int32) v1 v2 ((-1) : Int32) ((-1) : Int32)) rf_Main_write_Main_addAct rfl rfl (Nat.le_of_ble_eq_true rfl) dX10_write_26 (fun r3 => ?_)
      exact s_ireti hR dX10_write_29
    · refine s_bipush C ((-102) : Int32) (by decide) dX10_write_17 ?_
      exact s_ireti hR dX10_write_19
  · refine s_bipush C ((-101) : Int32) (by decide) dX10_write_7 ?_
    exact s_ireti hR dX10_write_9
set_option maxRecDepth 20000 in
theorem met_Main_write (v0 : Nat) (v1 : Int32) (v2 : Int32) : MI ZF yX10_write cX10_write 3 .int rm_Main_write [.ref v0, .int v1, .int v2] (Main_write v0 v1 v2) :=
  mi_of (L0 := [(0, .ref v0), (1, .int v1), (2, .int v2)]) (by decide +kernel) (Nat.le_of_ble_eq_true rfl) rfl (fun G ad K C hV hR => sm_Main_write C hV hR v0 v1 v2)

noncomputable def Main_whole (v0 : Nat) (v1 : Int32) (v2 : Int32) (v3 : Int32) (v4 : Int32) : MM Int32 :=
  mb ((Main_isSector v1)) fun r1 =>
  if r1 = 0 then
  mp ((-101) : Int32)
  else
  mb ((Main_isSector v3)) fun r2 =>
  if r2 = 0 then
  mp ((-101) : Int32)
  else
  if v1 = v3 then
  mp ((-101) : Int32)
  else
  mb ((Main_isFigure v2)) fun r3 =>
  if r3 = 0 then
  mp ((-102) : Int32)
  else
  mb ((Main_isFigure v4)) fun r4 =>
  if r4 = 0 then
  mp ((-102) : Int32)
  else
  mb (vc ZF 11 v0 (Main_addAct v0 (1 : Int32) v1 v2 v3 v4)) fun r5 =>
  mp r5
set_option maxRecDepth 20000 in
theorem sm_Main_whole {G : GT} {ad : Nat → Nat} {K : Int32 → Dm → Prop} (C : Cx G rm_Main_whole cX10_whole 5 RX10) (hV : Vx G rm_Main_whole ad ZF (0, 0)) (hR : RtI G rm_Main_whole ad ZF (0, 0) cX10_whole .int K) (v0 : Nat) (v1 : Int32) (v2 : Int32) (v3 : Int32) (v4 : Int32) : Sm G rm_Main_whole ad ZF (0, 0) K 0 [(0, .ref v0), (1, .int v1), (2, .int v2), (3, .int v3), (4, .int v4)] [] (Main_whole v0 v1 v2 v3 v4) := by
  unfold Main_whole
  refine s_iload_n C rfl dX10_whole_0 ?_
  refine s_uI C hV ls_X10_69 (st := []) (met_Main_isSector v1) rf_Main_whole_Main_isSector rfl rfl (Nat.le_of_ble_eq_true rfl) dX10_whole_1 (fun r1 => ?_)
  refine s_if_eq C 19 (by decide) dX10_whole_4 ?_ ?_
  · refine s_bipush C ((-101) : Int32) (by decide) dX10_whole_19 ?_
    exact s_ireti hR dX10_whole_21
  · refine s_iload_n C rfl dX10_whole_7 ?_
    refine s_uI C hV ls_X10_69 (st := []) (met_Main_isSector v3) rf_Main_whole_Main_isSector rfl rfl (Nat.le_of_ble_eq_true rfl) dX10_whole_8 (fun r2 => ?_)
    refine s_if_eq C 19 (by decide) dX10_whole_11 ?_ ?_
    · refine s_bipush C ((-101) : Int32) (by decide) dX10_whole_19 ?_
      exact s_ireti hR dX10_whole_21
    · refine s_iload_n C rfl dX10_whole_14 ?_
      refine s_iload_n C rfl dX10_whole_15 ?_
      refine s_icmp_ne C 22 (by decide) dX10_whole_16 ?_ ?_
      · refine s_iload_n C rfl dX10_whole_22 ?_
        refine s_uI C hV ls_X10_73 (st := []) (met_Main_isFigure v2) rf_Main_whole_Main_isFigure rfl rfl (Nat.le_of_ble_eq_true rfl) dX10_whole_23 (fun r3 => ?_)
        refine s_if_eq C 37 (by decide) dX10_whole_26 ?_ ?_
        · refine s_bipush C ((-102) : Int32) (by decide) dX10_whole_37 ?_
          exact s_ireti hR dX10_whole_39
        · refine s_iload C rfl dX10_whole_29 ?_
          refine s_uI C hV ls_X10_73 (st := []) (met_Main_isFigure v4) rf_Main_whole_Main_isFigure rfl rfl (Nat.le_of_ble_eq_true rfl) dX10_whole_31 (fun r4 => ?_)
          refine s_if_ne C 40 (by decide) dX10_whole_34 ?_ ?_
          · refine s_aload_n C rfl dX10_whole_40 ?_
            refine s_iconst C (1 : Int32) (by decide) dX10_whole_41 ?_
            refine s_iload_n C rfl dX10_whole_42 ?_
            refine s_iload_n C rfl dX10_whole_43 ?_
            refine s_iload_n C rfl dX10_whole_44 ?_
            refine s_iload C rfl dX10_whole_45 ?_
            refine s_wI C hV lv_X10_93 (st := []) (met_Main_addAct v0 (1 : Int32) v1 v2 v3 v4) rf_Main_whole_Main_addAct rfl rfl (Nat.le_of_ble_eq_true rfl) dX10_whole_47 (fun r5 => ?_)
            exact s_ireti hR dX10_whole_50
          · refine s_bipush C ((-102) : Int32) (by decide) dX10_whole_37 ?_
            exact s_ireti hR dX10_whole_39
      · refine s_bipush C ((-101) : Int32) (by decide) dX10_whole_19 ?_
        exact s_ireti hR dX10_whole_21
set_option maxRecDepth 20000 in
theorem met_Main_whole (v0 : Nat) (v1 : Int32) (v2 : Int32) (v3 : Int32) (v4 : Int32) : MI ZF yX10_whole cX10_whole 5 .int rm_Main_whole [.ref v0, .int v1, .int v2, .int v3, .int v4] (Main_whole v0 v1 v2 v3 v4) :=
  mi_of (L0 := [(0, .ref v0), (1, .int v1), (2, .int v2), (3, .int v3), (4, .int v4)]) (by decide +kernel) (Nat.le_of_ble_eq_true rfl) rfl (fun G ad K C hV hR => sm_Main_whole C hV hR v0 v1 v2 v3 v4)

noncomputable def Main_barrier (v0 : Nat) : MM Int32 :=
  mb (vc ZF 11 v0 (Main_addAct v0 (2 : Int32) ((-1) : Int32) ((-1) : Int32) ((-1) : Int32) ((-1) : Int32))) fun r1 =>
  mp r1
set_option maxRecDepth 20000 in
theorem sm_Main_barrier {G : GT} {ad : Nat → Nat} {K : Int32 → Dm → Prop} (C : Cx G rm_Main_barrier cX10_barrier 1 RX10) (hV : Vx G rm_Main_barrier ad ZF (0, 0)) (hR : RtI G rm_Main_barrier ad ZF (0, 0) cX10_barrier .int K) (v0 : Nat) : Sm G rm_Main_barrier ad ZF (0, 0) K 0 [(0, .ref v0)] [] (Main_barrier v0) := by
  unfold Main_barrier
  refine s_aload_n C rfl dX10_barrier_0 ?_
  refine s_iconst C (2 : Int32) (by decide) dX10_barrier_1 ?_
  refine s_iconst C ((-1) : Int32) (by decide) dX10_barrier_2 ?_
  refine s_iconst C ((-1) : Int32) (by decide) dX10_barrier_3 ?_
  refine s_iconst C ((-1) : Int32) (by decide) dX10_barrier_4 ?_
  refine s_iconst C ((-1) : Int32) (by decide) dX10_barrier_5 ?_
  refine s_wI C hV lv_X10_93 (st := []) (met_Main_addAct v0 (2 : Int32) ((-1) : Int32) ((-1) : Int32) ((-1) : Int32) ((-1) : Int32)) rf_Main_barrier_Main_addAct rfl rfl (Nat.le_of_ble_eq_true rfl) dX10_barrier_6 (fun r1 => ?_)
  exact s_ireti hR dX10_barrier_9
set_option maxRecDepth 20000 in
theorem met_Main_barrier (v0 : Nat) : MI ZF yX10_barrier cX10_barrier 1 .int rm_Main_barrier [.ref v0] (Main_barrier v0) :=
  mi_of (L0 := [(0, .ref v0)]) (by decide +kernel) (Nat.le_of_ble_eq_true rfl) rfl (fun G ad K C hV hR => sm_Main_barrier C hV hR v0)

noncomputable def Main_flush (v0 : Nat) : MM Int32 :=
  mb (vc ZF 11 v0 (Main_addAct v0 (3 : Int32) ((-1) : Int32) ((-1) : Int32) ((-1) : Int32) ((-1) : Int32))) fun r1 =>
  mp r1
set_option maxRecDepth 20000 in
theorem sm_Main_flush {G : GT} {ad : Nat → Nat} {K : Int32 → Dm → Prop} (C : Cx G rm_Main_flush cX10_flush 1 RX10) (hV : Vx G rm_Main_flush ad ZF (0, 0)) (hR : RtI G rm_Main_flush ad ZF (0, 0) cX10_flush .int K) (v0 : Nat) : Sm G rm_Main_flush ad ZF (0, 0) K 0 [(0, .ref v0)] [] (Main_flush v0) := by
  unfold Main_flush
  refine s_aload_n C rfl dX10_flush_0 ?_
  refine s_iconst C (3 : Int32) (by decide) dX10_flush_1 ?_
  refine s_iconst C ((-1) : Int32) (by decide) dX10_flush_2 ?_
  refine s_iconst C ((-1) : Int32) (by decide) dX10_flush_3 ?_
  refine s_iconst C ((-1) : Int32) (by decide) dX10_flush_4 ?_
  refine s_iconst C ((-1) : Int32) (by decide) dX10_flush_5 ?_
  refine s_wI C hV lv_X10_93 (st := []) (met_Main_addAct v0 (3 : Int32) ((-1) : Int32) ((-1) : Int32) ((-1) : Int32) ((-1) : Int32)) rf_Main_flush_Main_addAct rfl rfl (Nat.le_of_ble_eq_true rfl) dX10_flush_6 (fun r1 => ?_)
  exact s_ireti hR dX10_flush_9
set_option maxRecDepth 20000 in
theorem met_Main_flush (v0 : Nat) : MI ZF yX10_flush cX10_flush 1 .int rm_Main_flush [.ref v0] (Main_flush v0) :=
  mi_of (L0 := [(0, .ref v0)]) (by decide +kernel) (Nat.le_of_ble_eq_true rfl) rfl (fun G ad K C hV hR => sm_Main_flush C hV hR v0)

noncomputable def Main_tell (v0 : Nat) (v1 : Int32) : MM Int32 :=
  mb (gR ZF 11 2 v0) fun x1 =>
  mb (vc ZF 8 x1 (Rule_has x1 v1)) fun r2 =>
  if r2 = 0 then
  mp ((-101) : Int32)
  else
  mb (vc ZF 11 v0 (Main_addAct v0 (4 : Int32) v1 ((-1) : Int32) ((-1) : Int32) ((-1) : Int32))) fun r3 =>
  mp r3
set_option maxRecDepth 20000 in
theorem sm_Main_tell {G : GT} {ad : Nat → Nat} {K : Int32 → Dm → Prop} (C : Cx G rm_Main_tell cX10_tell 2 RX10) (hV : Vx G rm_Main_tell ad ZF (0, 0)) (hR : RtI G rm_Main_tell ad ZF (0, 0) cX10_tell .int K) (v0 : Nat) (v1 : Int32) : Sm G rm_Main_tell ad ZF (0, 0) K 0 [(0, .ref v0), (1, .int v1)] [] (Main_tell v0 v1) := by
  unfold Main_tell
  refine s_aload_n C rfl dX10_tell_0 ?_
  refine s_getR C hV fl_X10_25 (fun _ _ _ => rfl) dX10_tell_1 (fun x1 => ?_)
  refine s_iload_n C rfl dX10_tell_4 ?_
  refine s_wI C hV lv_X10_97 (st := []) (met_Rule_has x1 v1) rf_Main_tell_Rule_has rfl rfl (Nat.le_of_ble_eq_true rfl) dX10_tell_5 (fun r2 => ?_)
  refine s_if_ne C 14 (by decide) dX10_tell_8 ?_ ?_
  · refine s_aload_n C rfl dX10_tell_14 ?_
    refine s_iconst C (4 : Int32) (by decide) dX10_tell_15 ?_
    refine s_iload_n C rfl dX10_tell_16 ?_
    refine s_iconst C ((-1) : Int32) (by decide) dX10_tell_17 ?_
    refine s_iconst C ((-1) : Int32) (by decide) dX10_tell_18 ?_
    refine s_iconst C ((-1) : Int32) (by decide) dX10_tell_19 ?_
    refine s_wI C hV lv_X10_93 (st := []) (met_Main_addAct v0 (4 : Int32) v1 ((-1) : Int32) ((-1) : Int32) ((-1) : Int32)) rf_Main_tell_Main_addAct rfl rfl (Nat.le_of_ble_eq_true rfl) dX10_tell_20 (fun r3 => ?_)
    exact s_ireti hR dX10_tell_23
  · refine s_bipush C ((-101) : Int32) (by decide) dX10_tell_11 ?_
    exact s_ireti hR dX10_tell_13
set_option maxRecDepth 20000 in
theorem met_Main_tell (v0 : Nat) (v1 : Int32) : MI ZF yX10_tell cX10_tell 2 .int rm_Main_tell [.ref v0, .int v1] (Main_tell v0 v1) :=
  mi_of (L0 := [(0, .ref v0), (1, .int v1)]) (by decide +kernel) (Nat.le_of_ble_eq_true rfl) rfl (fun G ad K C hV hR => sm_Main_tell C hV hR v0 v1)

noncomputable def Main_undo (v0 : Nat) : MM Int32 :=
  mb (gR ZF 11 1 v0) fun x1 =>
  mb (gI ZF 6 1 x1) fun x2 =>
  if 0 < x2 then
  mb (gR ZF 11 1 v0) fun x3 =>
  mb (gI ZF 6 1 x3) fun x4 =>
  mb (pI ZF 6 1 x3 (x4 - (1 : Int32))) fun _ =>
  mb (vc ZF 11 v0 (Main_forgetFound v0)) fun _ =>
  mb (gR ZF 11 1 v0) fun x5 =>
  mb (gI ZF 6 1 x5) fun x6 =>
  mp x6
  else
  mp ((-103) : Int32)
set_option maxRecDepth 20000 in
theorem sm_Main_undo {G : GT} {ad : Nat → Nat} {K : Int32 → Dm → Prop} (C : Cx G rm_Main_undo cX10_undo 1 RX10) (hV : Vx G rm_Main_undo ad ZF (0, 0)) (hR : RtI G rm_Main_undo ad ZF (0, 0) cX10_undo .int K) (v0 : Nat) : Sm G rm_Main_undo ad ZF (0, 0) K 0 [(0, .ref v0)] [] (Main_undo v0) := by
  unfold Main_undo
  refine s_aload_n C rfl dX10_undo_0 ?_
  refine s_getR C hV fl_X10_20 (fun _ _ _ => rfl) dX10_undo_1 (fun x1 => ?_)
  refine s_getI C hV fl_X10_102 (fun _ _ _ => rfl) dX10_undo_4 (fun x2 => ?_)
  refine s_if_gt C 13 (by decide) dX10_undo_7 ?_ ?_
  · refine s_aload_n C rfl dX10_undo_13 ?_
    refine s_getR C hV fl_X10_20 (fun _ _ _ => rfl) dX10_undo_14 (fun x3 => ?_)
    refine s_dupr C dX10_undo_17 ?_
    refine s_getI C hV fl_X10_102 (fun _ _ _ => rfl) dX10_undo_18 (fun x4 => ?_)
    refine s_iconst C (1 : Int32) (by decide) dX10_undo_21 ?_
    refine s_isub C dX10_undo_22 ?_
    refine s_putI C hV fw_X10_102 rfl dX10_undo_23 ?_
    refine s_aload_n C rfl dX10_undo_26 ?_
    refine s_wV C hV lv_X10_90 (st := []) (met_Main_forgetFound v0) rf_Main_undo_Main_forgetFound rfl rfl (Nat.le_of_ble_eq_true rfl) dX10_undo_27 ?_
    refine s_aload_n C rfl dX10_undo_30 ?_
    refine s_getR C hV fl_X10_20 (fun _ _ _ => rfl) dX10_undo_31 (fun x5 => ?_)
    refine s_getI C hV fl_X10_102 (fun _ _ _ => rfl) dX10_undo_34 (fun x6 => ?_)
    exact s_ireti hR dX10_undo_37
  · refine s_bipush C ((-103) : Int32) (by decide) dX10_undo_10 ?_
    exact s_ireti hR dX10_undo_12
set_option maxRecDepth 20000 in
theorem met_Main_undo (v0 : Nat) : MI ZF yX10_undo cX10_undo 1 .int rm_Main_undo [.ref v0] (Main_undo v0) :=
  mi_of (L0 := [(0, .ref v0)]) (by decide +kernel) (Nat.le_of_ble_eq_true rfl) rfl (fun G ad K C hV hR => sm_Main_undo C hV hR v0)

noncomputable def Main_swap (v0 : Nat) (v1 : Int32) (v2 : Int32) : MM Int32 :=
  mb (gR ZF 11 1 v0) fun x1 =>
  mb (vc ZF 6 x1 (Prog_has x1 v1)) fun r2 =>
  if r2 = 0 then
  mp ((-101) : Int32)
  else
  mb (gR ZF 11 1 v0) fun x3 =>
  mb (vc ZF 6 x3 (Prog_has x3 v2)) fun r4 =>
  if r4 = 0 then
  mp ((-101) : Int32)
  else
  mb (gR ZF 11 1 v0) fun x5 =>
  mb (vc ZF 6 x5 (Prog_exchange x5 v1 v2)) fun _ =>
  mb (vc ZF 11 v0 (Main_forgetFound v0)) fun _ =>
  mp (1 : Int32)
set_option maxRecDepth 20000 in
theorem sm_Main_swap {G : GT} {ad : Nat → Nat} {K : Int32 → Dm → Prop} (C : Cx G rm_Main_swap cX10_swap 3 RX10) (hV : Vx G rm_Main_swap ad ZF (0, 0)) (hR : RtI G rm_Main_swap ad ZF (0, 0) cX10_swap .int K) (v0 : Nat) (v1 : Int32) (v2 : Int32) : Sm G rm_Main_swap ad ZF (0, 0) K 0 [(0, .ref v0), (1, .int v1), (2, .int v2)] [] (Main_swap v0 v1 v2) := by
  unfold Main_swap
  refine s_aload_n C rfl dX10_swap_0 ?_
  refine s_getR C hV fl_X10_20 (fun _ _ _ => rfl) dX10_swap_1 (fun x1 => ?_)
  refine s_iload_n C rfl dX10_swap_4 ?_
  refine s_wI C hV lv_X10_105 (st := []) (met_Prog_has x1 v1) rf_Main_swap_Prog_has rfl rfl (Nat.le_of_ble_eq_true rfl) dX10_swap_5 (fun r2 => ?_)
  refine s_if_eq C 22 (by decide) dX10_swap_8 ?_ ?_
  · refine s_bipush C ((-101) : Int32) (by decide) dX10_swap_22 ?_
    exact s_ireti hR dX10_swap_24
  · refine s_aload_n C rfl dX10_swap_11 ?_
    refine s_getR C hV fl_X10_20 (fun _ _ _ => rfl) dX10_swap_12 (fun x3 => ?_)
    refine s_iload_n C rfl dX10_swap_15 ?_
    refine s_wI C hV lv_X10_105 (st := []) (met_Prog_has x3 v2) rf_Main_swap_Prog_has rfl rfl (Nat.le_of_ble_eq_true rfl) dX10_swap_16 (fun r4 => ?_)
    refine s_if_ne C 25 (by decide) dX10_swap_19 ?_ ?_
    · refine s_aload_n C rfl dX10_swap_25 ?_
      refine s_getR C hV fl_X10_20 (fun _ _ _ => rfl) dX10_swap_26 (fun x5 => ?_)
      refine s_iload_n C rfl dX10_swap_29 ?_
      refine s_iload_n C rfl dX10_swap_30 ?_
      refine s_wV C hV lv_X10_106 (st := []) (met_Prog_exchange x5 v1 v2) rf_Main_swap_Prog_exchange rfl rfl (Nat.le_of_ble_eq_true rfl) dX10_swap_31 ?_
      refine s_aload_n C rfl dX10_swap_34 ?_
      refine s_wV C hV lv_X10_90 (st := []) (met_Main_forgetFound v0) rf_Main_swap_Main_forgetFound rfl rfl (Nat.le_of_ble_eq_true rfl) dX10_swap_35 ?_
      refine s_iconst C (1 : Int32) (by decide) dX10_swap_38 ?_
      exact s_ireti hR dX10_swap_39
    · refine s_bipush C ((-101) : Int32) (by decide) dX10_swap_22 ?_
      exact s_ireti hR dX10_swap_24
set_option maxRecDepth 20000 in
theorem met_Main_swap (v0 : Nat) (v1 : Int32) (v2 : Int32) : MI ZF yX10_swap cX10_swap 3 .int rm_Main_swap [.ref v0, .int v1, .int v2] (Main_swap v0 v1 v2) :=
  mi_of (L0 := [(0, .ref v0), (1, .int v1), (2, .int v2)]) (by decide +kernel) (Nat.le_of_ble_eq_true rfl) rfl (fun G ad K C hV hR => sm_Main_swap C hV hR v0 v1 v2)

noncomputable def Main_act (v0 : Nat) (v1 : Int32) (v2 : Int32) : MM Int32 :=
  mb (gR ZF 11 1 v0) fun x1 =>
  mb (vc ZF 6 x1 (Prog_has x1 v1)) fun r2 =>
  if r2 = 0 then
  mp ((-101) : Int32)
  else
  if v2 < 0 then
  mp ((-102) : Int32)
  else
  if v2 ≤ (4 : Int32) then
  mb (gR ZF 11 1 v0) fun x3 =>
  mb (gR ZF 6 0 x3) fun x4 =>
  mb (aR ZF 26 x4 v1) fun x5 =>
  mb (vc ZF 1 x5 (Act_part x5 v2)) fun r6 =>
  mp r6
  else
  mp ((-102) : Int32)
set_option maxRecDepth 20000 in
theorem sm_Main_act {G : GT} {ad : Nat → Nat} {K : Int32 → Dm → Prop} (C : Cx G rm_Main_act cX10_act 3 RX10) (hV : Vx G rm_Main_act ad ZF (0, 0)) (hR : RtI G rm_Main_act ad ZF (0, 0) cX10_act .int K) (v0 : Nat) (v1 : Int32) (v2 : Int32) : Sm G rm_Main_act ad ZF (0, 0) K 0 [(0, .ref v0), (1, .int v1), (2, .int v2)] [] (Main_act v0 v1 v2) := by
  unfold Main_act
  refine s_aload_n C rfl dX10_act_0 ?_
  refine s_getR C hV fl_X10_20 (fun _ _ _ => rfl) dX10_act_1 (fun x1 => ?_)
  refine s_iload_n C rfl dX10_act_4 ?_
  refine s_wI C hV lv_X10_105 (st := []) (met_Prog_has x1 v1) rf_Main_act_Prog_has rfl rfl (Nat.le_of_ble_eq_true rfl) dX10_act_5 (fun r2 => ?_)
  refine s_if_ne C 14 (by decide) dX10_act_8 ?_ ?_
  · refine s_iload_n C rfl dX10_act_14 ?_
    refine s_if_lt C 23 (by decide) dX10_act_15 ?_ ?_
    · refine s_bipush C ((-102) : Int32) (by decide) dX10_act_23 ?_
      exact s_ireti hR dX10_act_25
    · refine s_iload_n C rfl dX10_act_18 ?_
      refine s_iconst C (4 : Int32) (by decide) dX10_act_19 ?_
      refine s_icmp_le C 26 (by decide) dX10_act_20 ?_ ?_
      · refine s_aload_n C rfl dX10_act_26 ?_
        refine s_getR C hV fl_X10_20 (fun _ _ _ => rfl) dX10_act_27 (fun x3 => ?_)
        refine s_getR C hV fl_X10_110 (fun _ _ _ => rfl) dX10_act_30 (fun x4 => ?_)
        refine s_iload_n C rfl dX10_act_33 ?_
        refine s_aaloadA C hV dX10_act_34 (fun x5 => ?_)
        refine s_iload_n C rfl dX10_act_35 ?_
        refine s_wI C hV lv_X10_114 (st := []) (met_Act_part x5 v2) rf_Main_act_Act_part rfl rfl (Nat.le_of_ble_eq_true rfl) dX10_act_36 (fun r6 => ?_)
        exact s_ireti hR dX10_act_39
      · refine s_bipush C ((-102) : Int32) (by decide) dX10_act_23 ?_
        exact s_ireti hR dX10_act_25
  · refine s_bipush C ((-101) : Int32) (by decide) dX10_act_11 ?_
    exact s_ireti hR dX10_act_13
set_option maxRecDepth 20000 in
theorem met_Main_act (v0 : Nat) (v1 : Int32) (v2 : Int32) : MI ZF yX10_act cX10_act 3 .int rm_Main_act [.ref v0, .int v1, .int v2] (Main_act v0 v1 v2) :=
  mi_of (L0 := [(0, .ref v0), (1, .int v1), (2, .int v2)]) (by decide +kernel) (Nat.le_of_ble_eq_true rfl) rfl (fun G ad K C hV hR => sm_Main_act C hV hR v0 v1 v2)

noncomputable def Main_end (v0 : Nat) : MM Int64 :=
  mb (gR ZF 11 1 v0) fun x1 =>
  mb (gR ZF 11 1 v0) fun x2 =>
  mb (vc ZF 6 x2 (Prog_writes x2)) fun r3 =>
  mb (vc ZF 6 x1 (Prog_plateOf x1 r3)) fun r4 =>
  mb ((Main_numberOf r4)) fun r5 =>
  mp r5
set_option maxRecDepth 20000 in
theorem sm_Main_end {G : GT} {ad : Nat → Nat} {K : Int64 → Dm → Prop} (C : Cx G rm_Main_end cX10_end 1 RX10) (hV : Vx G rm_Main_end ad ZF (0, 0)) (hR : RtL G rm_Main_end ad ZF (0, 0) cX10_end K) (v0 : Nat) : Sm G rm_Main_end ad ZF (0, 0) K 0 [(0, .ref v0)] [] (Main_end v0) := by
  unfold Main_end
  refine s_aload_n C rfl dX10_end_0 ?_
  refine s_getR C hV fl_X10_20 (fun _ _ _ => rfl) dX10_end_1 (fun x1 => ?_)
  refine s_aload_n C rfl dX10_end_4 ?_
  refine s_getR C hV fl_X10_20 (fun _ _ _ => rfl) dX10_end_5 (fun x2 => ?_)
  refine s_wI C hV lv_X10_120 (st := [.ref x1]) (met_Prog_writes x2) rf_Main_end_Prog_writes rfl rfl (Nat.le_of_ble_eq_true rfl) dX10_end_8 (fun r3 => ?_)
  refine s_wL C hV lv_X10_124 (st := []) (met_Prog_plateOf x1 r3) rf_Main_end_Prog_plateOf rfl rfl (Nat.le_of_ble_eq_true rfl) dX10_end_11 (fun r4 => ?_)
  refine s_uL C hV ls_X10_128 (st := []) (met_Main_numberOf r4) rf_Main_end_Main_numberOf rfl rfl (Nat.le_of_ble_eq_true rfl) dX10_end_14 (fun r5 => ?_)
  exact s_lret hR dX10_end_17
set_option maxRecDepth 20000 in
theorem met_Main_end (v0 : Nat) : ML ZF yX10_end cX10_end 1 rm_Main_end [.ref v0] (Main_end v0) :=
  ml_of (L0 := [(0, .ref v0)]) (by decide +kernel) (Nat.le_of_ble_eq_true rfl) rfl (fun G ad K C hV hR => sm_Main_end C hV hR v0)

noncomputable def Main_letters (v0 : Nat) (v1 : Int64) : MM Int32 :=
  mb ((Page_lettersIn v1)) fun r1 =>
  if 0 ≤ r1 then
  mb (gR ZF 11 4 v0) fun x2 =>
  mb (gI ZF 4 1 x2) fun x3 =>
  if (x3 + r1) ≤ (60 : Int32) then
  mb (gR ZF 11 4 v0) fun x4 =>
  mb (vc ZF 4 x4 (Page_append x4 v1 r1)) fun _ =>
  mb (gR ZF 11 4 v0) fun x5 =>
  mb (gI ZF 4 1 x5) fun x6 =>
  mp x6
  else
  mp ((-104) : Int32)
  else
  mp ((-102) : Int32)
set_option maxRecDepth 20000 in
theorem sm_Main_letters {G : GT} {ad : Nat → Nat} {K : Int32 → Dm → Prop} (C : Cx G rm_Main_letters cX10_letters 4 RX10) (hV : Vx G rm_Main_letters ad ZF (0, 0)) (hR : RtI G rm_Main_letters ad ZF (0, 0) cX10_letters .int K) (v0 : Nat) (v1 : Int64) : Sm G rm_Main_letters ad ZF (0, 0) K 0 [(0, .ref v0), (1, .long v1)] [] (Main_letters v0 v1) := by
  unfold Main_letters
  refine s_lload_n C rfl dX10_letters_0 ?_
  refine s_uI C hV ls_X10_136 (st := []) (met_Page_lettersIn v1) rf_Main_letters_Page_lettersIn rfl rfl (Nat.le_of_ble_eq_true rfl) dX10_letters_1 (fun r1 => ?_)
  refine s_istore_n C (L' := [(3, .int r1), (0, .ref v0), (1, .long v1)]) (by decide) rfl dX10_letters_4 ?_
  refine s_iload_n C rfl dX10_letters_5 ?_
  refine s_if_ge C 12 (by decide) dX10_letters_6 ?_ ?_
  · refine s_aload_n C rfl dX10_letters_12 ?_
    refine s_getR C hV fl_X10_34 (fun _ _ _ => rfl) dX10_letters_13 (fun x2 => ?_)
    refine s_getI C hV fl_X10_140 (fun _ _ _ => rfl) dX10_letters_16 (fun x3 => ?_)
    refine s_iload_n C rfl dX10_letters_19 ?_
    refine s_iadd C dX10_letters_20 ?_
    refine s_bipush C (60 : Int32) (by decide) dX10_letters_21 ?_
    refine s_icmp_le C 29 (by decide) dX10_letters_23 ?_ ?_
    · refine s_aload_n C rfl dX10_letters_29 ?_
      refine s_getR C hV fl_X10_34 (fun _ _ _ => rfl) dX10_letters_30 (fun x4 => ?_)
      refine s_lload_n C rfl dX10_letters_33 ?_
      refine s_iload_n C rfl dX10_letters_34 ?_
      refine s_wV C hV lv_X10_141 (st := []) (met_Page_append x4 v1 r1) rf_Main_letters_Page_append rfl rfl (Nat.le_of_ble_eq_true rfl) dX10_letters_35 ?_
      refine s_aload_n C rfl dX10_letters_38 ?_
      refine s_getR C hV fl_X10_34 (fun _ _ _ => rfl) dX10_letters_39 (fun x5 => ?_)
      refine s_getI C hV fl_X10_140 (fun _ _ _ => rfl) dX10_letters_42 (fun x6 => ?_)
      exact s_ireti hR dX10_letters_45
    · refine s_bipush C ((-104) : Int32) (by decide) dX10_letters_26 ?_
      exact s_ireti hR dX10_letters_28
  · refine s_bipush C ((-102) : Int32) (by decide) dX10_letters_9 ?_
    exact s_ireti hR dX10_letters_11
set_option maxRecDepth 20000 in
theorem met_Main_letters (v0 : Nat) (v1 : Int64) : MI ZF yX10_letters cX10_letters 4 .int rm_Main_letters [.ref v0, .long v1] (Main_letters v0 v1) :=
  mi_of (L0 := [(0, .ref v0), (1, .long v1)]) (by decide +kernel) (Nat.le_of_ble_eq_true rfl) rfl (fun G ad K C hV hR => sm_Main_letters C hV hR v0 v1)

noncomputable def Main_blank (v0 : Nat) : MM Int32 :=
  mb (gR ZF 11 4 v0) fun x1 =>
  mb (gI ZF 4 1 x1) fun x2 =>
  mb (gR ZF 11 4 v0) fun x3 =>
  mb (pI ZF 4 1 x3 (0 : Int32)) fun _ =>
  mp x2
set_option maxRecDepth 20000 in
theorem sm_Main_blank {G : GT} {ad : Nat → Nat} {K : Int32 → Dm → Prop} (C : Cx G rm_Main_blank cX10_blank 2 RX10) (hV : Vx G rm_Main_blank ad ZF (0, 0)) (hR : RtI G rm_Main_blank ad ZF (0, 0) cX10_blank .int K) (v0 : Nat) : Sm G rm_Main_blank ad ZF (0, 0) K 0 [(0, .ref v0)] [] (Main_blank v0) := by
  unfold Main_blank
  refine s_aload_n C rfl dX10_blank_0 ?_
  refine s_getR C hV fl_X10_34 (fun _ _ _ => rfl) dX10_blank_1 (fun x1 => ?_)
  refine s_getI C hV fl_X10_140 (fun _ _ _ => rfl) dX10_blank_4 (fun x2 => ?_)
  refine s_istore_n C (L' := [(1, .int x2), (0, .ref v0)]) (by decide) rfl dX10_blank_7 ?_
  refine s_aload_n C rfl dX10_blank_8 ?_
  refine s_getR C hV fl_X10_34 (fun _ _ _ => rfl) dX10_blank_9 (fun x3 => ?_)
  refine s_iconst C (0 : Int32) (by decide) dX10_blank_12 ?_
  refine s_putI C hV fw_X10_140 rfl dX10_blank_13 ?_
  refine s_iload_n C rfl dX10_blank_16 ?_
  exact s_ireti hR dX10_blank_17
set_option maxRecDepth 20000 in
theorem met_Main_blank (v0 : Nat) : MI ZF yX10_blank cX10_blank 2 .int rm_Main_blank [.ref v0] (Main_blank v0) :=
  mi_of (L0 := [(0, .ref v0)]) (by decide +kernel) (Nat.le_of_ble_eq_true rfl) rfl (fun G ad K C hV hR => sm_Main_blank C hV hR v0)

noncomputable def Main_good_30 (t0 : Nat) (t1 : Nat) (t2 : Int32) : MM Int32 :=
  mb (vc ZF 7 t0 (Read_goodOf t0 t1 t2)) fun r3 =>
  mp r3
noncomputable def Main_good_12 (v0 : Nat) (v1 : Int32) : MM Int32 :=
  mb (gR ZF 11 5 v0) fun x1 =>
  mb (gR ZF 11 4 v0) fun x2 =>
  Main_good_30 x1 x2 (if v1 = (1 : Int32) then (1 : Int32) else (0 : Int32))
noncomputable def Main_good (v0 : Nat) (v1 : Int32) : MM Int32 :=
  if v1 = 0 then
  Main_good_12 v0 v1
  else
  if v1 = (1 : Int32) then
  Main_good_12 v0 v1
  else
  mp ((-102) : Int32)
set_option maxRecDepth 20000 in
theorem sm_Main_good_30 {G : GT} {ad : Nat → Nat} {K : Int32 → Dm → Prop} (C : Cx G rm_Main_good cX10_good 2 RX10) (hV : Vx G rm_Main_good ad ZF (0, 0)) (hR : RtI G rm_Main_good ad ZF (0, 0) cX10_good .int K) (t0 : Nat) (t1 : Nat) (t2 : Int32) : Sm G rm_Main_good ad ZF (0, 0) K 30 [] [.int t2, .ref t1, .ref t0] (Main_good_30 t0 t1 t2) := by
  unfold Main_good_30
  refine s_wI C hV lv_X10_145 (st := []) (met_Read_goodOf t0 t1 t2) rf_Main_good_Read_goodOf rfl rfl (Nat.le_of_ble_eq_true rfl) dX10_good_30 (fun r3 => ?_)
  exact s_ireti hR dX10_good_33
set_option maxRecDepth 20000 in
theorem sm_Main_good_12 {G : GT} {ad : Nat → Nat} {K : Int32 → Dm → Prop} (C : Cx G rm_Main_good cX10_good 2 RX10) (hV : Vx G rm_Main_good ad ZF (0, 0)) (hR : RtI G rm_Main_good ad ZF (0, 0) cX10_good .int K) (v0 : Nat) (v1 : Int32) : Sm G rm_Main_good ad ZF (0, 0) K 12 [(0, .ref v0), (1, .int v1)] [] (Main_good_12 v0 v1) := by
  unfold Main_good_12
  refine s_aload_n C rfl dX10_good_12 ?_
  refine s_getR C hV fl_X10_41 (fun _ _ _ => rfl) dX10_good_13 (fun x1 => ?_)
  refine s_aload_n C rfl dX10_good_16 ?_
  refine s_getR C hV fl_X10_34 (fun _ _ _ => rfl) dX10_good_17 (fun x2 => ?_)
  refine s_iload_n C rfl dX10_good_20 ?_
  refine s_iconst C (1 : Int32) (by decide) dX10_good_21 ?_
  refine s_ite (g := fun z => Main_good_30 x1 x2 z) ?_
  refine s_icmp_ne C 29 (by decide) dX10_good_22 ?_ ?_
  · refine s_iconst C (0 : Int32) (by decide) dX10_good_29 ?_
    exact s_weak [] rfl (sm_Main_good_30 C hV hR x1 x2 (0 : Int32))
  · refine s_iconst C (1 : Int32) (by decide) dX10_good_25 ?_
    refine s_goto C 30 (by decide) dX10_good_26 ?_
    exact s_weak [] rfl (sm_Main_good_30 C hV hR x1 x2 (1 : Int32))
set_option maxRecDepth 20000 in
theorem sm_Main_good {G : GT} {ad : Nat → Nat} {K : Int32 → Dm → Prop} (C : Cx G rm_Main_good cX10_good 2 RX10) (hV : Vx G rm_Main_good ad ZF (0, 0)) (hR : RtI G rm_Main_good ad ZF (0, 0) cX10_good .int K) (v0 : Nat) (v1 : Int32) : Sm G rm_Main_good ad ZF (0, 0) K 0 [(0, .ref v0), (1, .int v1)] [] (Main_good v0 v1) := by
  unfold Main_good
  refine s_iload_n C rfl dX10_good_0 ?_
  refine s_if_eq C 12 (by decide) dX10_good_1 ?_ ?_
  · exact s_weak [0, 1] rfl (sm_Main_good_12 C hV hR v0 v1)
  · refine s_iload_n C rfl dX10_good_4 ?_
    refine s_iconst C (1 : Int32) (by decide) dX10_good_5 ?_
    refine s_icmp_eq C 12 (by decide) dX10_good_6 ?_ ?_
    · exact s_weak [0, 1] rfl (sm_Main_good_12 C hV hR v0 v1)
    · refine s_bipush C ((-102) : Int32) (by decide) dX10_good_9 ?_
      exact s_ireti hR dX10_good_11
set_option maxRecDepth 20000 in
theorem met_Main_good (v0 : Nat) (v1 : Int32) : MI ZF yX10_good cX10_good 2 .int rm_Main_good [.ref v0, .int v1] (Main_good v0 v1) :=
  mi_of (L0 := [(0, .ref v0), (1, .int v1)]) (by decide +kernel) (Nat.le_of_ble_eq_true rfl) rfl (fun G ad K C hV hR => sm_Main_good C hV hR v0 v1)

noncomputable def Main_rule (v0 : Nat) : MM Int32 :=
  mb (gR ZF 11 5 v0) fun x1 =>
  mb (gR ZF 11 4 v0) fun x2 =>
  mb (vc ZF 7 x1 (Read_goodOf x1 x2 (0 : Int32))) fun r3 =>
  mb (gR ZF 11 4 v0) fun x4 =>
  mb (gI ZF 4 1 x4) fun x5 =>
  if r3 < x5 then
  mp ((-103) : Int32)
  else
  mb (gR ZF 11 5 v0) fun x6 =>
  mb (vc ZF 7 x6 (Read_isWhole x6)) fun r7 =>
  if r7 = 0 then
  mp ((-103) : Int32)
  else
  mb (gR ZF 11 2 v0) fun x8 =>
  mb (gI ZF 8 1 x8) fun x9 =>
  if x9 < (6 : Int32) then
  mb (gR ZF 11 2 v0) fun x10 =>
  mb (gR ZF 8 0 x10) fun x11 =>
  mb (gR ZF 11 2 v0) fun x12 =>
  mb (gI ZF 8 1 x12) fun x13 =>
  mb (aR ZF 27 x11 x13) fun x14 =>
  mb (gR ZF 11 5 v0) fun x15 =>
  mb (gR ZF 7 0 x15) fun x16 =>
  mb (vc ZF 9 x14 (Text_copy x14 x16)) fun _ =>
  mb (gR ZF 11 2 v0) fun x17 =>
  mb (gI ZF 8 1 x17) fun x18 =>
  mb (pI ZF 8 1 x17 (x18 + (1 : Int32))) fun _ =>
  mb (gR ZF 11 4 v0) fun x19 =>
  mb (pI ZF 4 1 x19 (0 : Int32)) fun _ =>
  mb (gR ZF 11 0 v0) fun x20 =>
  mb (vc ZF 10 x20 (Verd_forget x20)) fun _ =>
  mb (gR ZF 11 2 v0) fun x21 =>
  mb (gI ZF 8 1 x21) fun x22 =>
  mp (x22 - (1 : Int32))
  else
  mp ((-104) : Int32)
set_option maxRecDepth 20000 in
theorem sm_Main_rule {G : GT} {ad : Nat → Nat} {K : Int32 → Dm → Prop} (C : Cx G rm_Main_rule cX10_rule 1 RX10) (hV : Vx G rm_Main_rule ad ZF (0, 0)) (hR : RtI G rm_Main_rule ad ZF (0, 0) cX10_rule .int K) (v0 : Nat) : Sm G rm_Main_rule ad ZF (0, 0) K 0 [(0, .ref v0)] [] (Main_rule v0) := by
  unfold Main_rule
  refine s_aload_n C rfl dX10_rule_0 ?_
  refine s_getR C hV fl_X10_41 (fun _ _ _ => rfl) dX10_rule_1 (fun x1 => ?_)
  refine s_aload_n C rfl dX10_rule_4 ?_
  refine s_getR C hV fl_X10_34 (fun _ _ _ => rfl) dX10_rule_5 (fun x2 => ?_)
  refine s_iconst C (0 : Int32) (by decide) dX10_rule_8 ?_
  refine s_wI C hV lv_X10_145 (st := []) (met_Read_goodOf x1 x2 (0 : Int32)) rf_Main_rule_Read_goodOf rfl rfl (Nat.le_of_ble_eq_true rfl) dX10_rule_9 (fun r3 => ?_)
  refine s_aload_n C rfl dX10_rule_12 ?_
  refine s_getR C hV fl_X10_34 (fun _ _ _ => rfl) dX10_rule_13 (fun x4 => ?_)
  refine s_getI C hV fl_X10_140 (fun _ _ _ => rfl) dX10_rule_16 (fun x5 => ?_)
  refine s_icmp_lt C 32 (by decide) dX10_rule_19 ?_ ?_
  · refine s_bipush C ((-103) : Int32) (by decide) dX10_rule_32 ?_
    exact s_ireti hR dX10_rule_34
  · refine s_aload_n C rfl dX10_rule_22 ?_
    refine s_getR C hV fl_X10_41 (fun _ _ _ => rfl) dX10_rule_23 (fun x6 => ?_)
    refine s_wI C hV lv_X10_149 (st := []) (met_Read_isWhole x6) rf_Main_rule_Read_isWhole rfl rfl (Nat.le_of_ble_eq_true rfl) dX10_rule_26 (fun r7 => ?_)
    refine s_if_ne C 35 (by decide) dX10_rule_29 ?_ ?_
    · refine s_aload_n C rfl dX10_rule_35 ?_
      refine s_getR C hV fl_X10_25 (fun _ _ _ => rfl) dX10_rule_36 (fun x8 => ?_)
      refine s_getI C hV fl_X10_153 (fun _ _ _ => rfl) dX10_rule_39 (fun x9 => ?_)
      refine s_bipush C (6 : Int32) (by decide) dX10_rule_42 ?_
      refine s_icmp_lt C 50 (by decide) dX10_rule_44 ?_ ?_
      · refine s_aload_n C rfl dX10_rule_50 ?_
        refine s_getR C hV fl_X10_25 (fun _ _ _ => rfl) dX10_rule_51 (fun x10 => ?_)
        refine s_getR C hV fl_X10_154 (fun _ _ _ => rfl) dX10_rule_54 (fun x11 => ?_)
        refine s_aload_n C rfl dX10_rule_57 ?_
        refine s_getR C hV fl_X10_25 (fun _ _ _ => rfl) dX10_rule_58 (fun x12 => ?_)
        refine s_getI C hV fl_X10_153 (fun _ _ _ => rfl) dX10_rule_61 (fun x13 => ?_)
        refine s_aaloadT C hV dX10_rule_64 (fun x14 => ?_)
        refine s_aload_n C rfl dX10_rule_65 ?_
        refine s_getR C hV fl_X10_41 (fun _ _ _ => rfl) dX10_rule_66 (fun x15 => ?_)
        refine s_getR C hV fl_X10_158 (fun _ _ _ => rfl) dX10_rule_69 (fun x16 => ?_)
        refine s_wV C hV lv_X10_162 (st := []) (met_Text_copy x14 x16) rf_Main_rule_Text_copy rfl rfl (Nat.le_of_ble_eq_true rfl) dX10_rule_72 ?_
        refine s_aload_n C rfl dX10_rule_75 ?_
        refine s_getR C hV fl_X10_25 (fun _ _ _ => rfl) dX10_rule_76 (fun x17 => ?_)
        refine s_dupr C dX10_rule_79 ?_
        refine s_getI C hV fl_X10_153 (fun _ _ _ => rfl) dX10_rule_80 (fun x18 => ?_)
        refine s_iconst C (1 : Int32) (by decide) dX10_rule_83 ?_
        refine s_iadd C dX10_rule_84 ?_
        refine s_putI C hV fw_X10_153 rfl dX10_rule_85 ?_
        refine s_aload_n C rfl dX10_rule_88 ?_
        refine s_getR C hV fl_X10_34 (fun _ _ _ => rfl) dX10_rule_89 (fun x19 => ?_)
        refine s_iconst C (0 : Int32) (by decide) dX10_rule_92 ?_
        refine s_putI C hV fw_X10_140 rfl dX10_rule_93 ?_
        refine s_aload_n C rfl dX10_rule_96 ?_
        refine s_getR C hV fl_X10_12 (fun _ _ _ => rfl) dX10_rule_97 (fun x20 => ?_)
        refine s_wV C hV lv_X10_168 (st := []) (met_Verd_forget x20) rf_Main_rule_Verd_forget rfl rfl (Nat.le_of_ble_eq_true rfl) dX10_rule_100 ?_
        refine s_aload_n C rfl dX10_rule_103 ?_
        refine s_getR C hV fl_X10_25 (fun _ _ _ => rfl) dX10_rule_104 (fun x21 => ?_)
        refine s_getI C hV fl_X10_153 (fun _ _ _ => rfl) dX10_rule_107 (fun x22 => ?_)
        refine s_iconst C (1 : Int32) (by decide) dX10_rule_110 ?_
        refine s_isub C dX10_rule_111 ?_
        exact s_ireti hR dX10_rule_112
      · refine s_bipush C ((-104) : Int32) (by decide) dX10_rule_47 ?_
        exact s_ireti hR dX10_rule_49
    · refine s_bipush C ((-103) : Int32) (by decide) dX10_rule_32 ?_
      exact s_ireti hR dX10_rule_34
set_option maxRecDepth 20000 in
theorem met_Main_rule (v0 : Nat) : MI ZF yX10_rule cX10_rule 1 .int rm_Main_rule [.ref v0] (Main_rule v0) :=
  mi_of (L0 := [(0, .ref v0)]) (by decide +kernel) (Nat.le_of_ble_eq_true rfl) rfl (fun G ad K C hV hR => sm_Main_rule C hV hR v0)

noncomputable def Main_step (v0 : Nat) : MM Int32 :=
  mb (gR ZF 11 5 v0) fun x1 =>
  mb (gR ZF 11 4 v0) fun x2 =>
  mb (vc ZF 7 x1 (Read_goodOf x1 x2 (1 : Int32))) fun r3 =>
  mb (gR ZF 11 4 v0) fun x4 =>
  mb (gI ZF 4 1 x4) fun x5 =>
  if r3 < x5 then
  mp ((-103) : Int32)
  else
  mb (gR ZF 11 5 v0) fun x6 =>
  mb (vc ZF 7 x6 (Read_isWhole x6)) fun r7 =>
  if r7 = 0 then
  mp ((-103) : Int32)
  else
  mb (gR ZF 11 3 v0) fun x8 =>
  mb (gI ZF 3 1 x8) fun x9 =>
  if x9 < (8 : Int32) then
  mb (gR ZF 11 3 v0) fun x10 =>
  mb (gR ZF 3 0 x10) fun x11 =>
  mb (gR ZF 11 3 v0) fun x12 =>
  mb (gI ZF 3 1 x12) fun x13 =>
  mb (aR ZF 27 x11 x13) fun x14 =>
  mb (gR ZF 11 5 v0) fun x15 =>
  mb (gR ZF 7 0 x15) fun x16 =>
  mb (vc ZF 9 x14 (Text_copy x14 x16)) fun _ =>
  mb (gR ZF 11 3 v0) fun x17 =>
  mb (gI ZF 3 1 x17) fun x18 =>
  mb (pI ZF 3 1 x17 (x18 + (1 : Int32))) fun _ =>
  mb (gR ZF 11 4 v0) fun x19 =>
  mb (pI ZF 4 1 x19 (0 : Int32)) fun _ =>
  mb (gR ZF 11 0 v0) fun x20 =>
  mb (vc ZF 10 x20 (Verd_forget x20)) fun _ =>
  mb (gR ZF 11 3 v0) fun x21 =>
  mb (gI ZF 3 1 x21) fun x22 =>
  mp (x22 - (1 : Int32))
  else
  mp ((-104) : Int32)
set_option maxRecDepth 20000 in
theorem sm_Main_step {G : GT} {ad : Nat → Nat} {K : Int32 → Dm → Prop} (C : Cx G rm_Main_step cX10_step 1 RX10) (hV : Vx G rm_Main_step ad ZF (0, 0)) (hR : RtI G rm_Main_step ad ZF (0, 0) cX10_step .int K) (v0 : Nat) : Sm G rm_Main_step ad ZF (0, 0) K 0 [(0, .ref v0)] [] (Main_step v0) := by
  unfold Main_step
  refine s_aload_n C rfl dX10_step_0 ?_
  refine s_getR C hV fl_X10_41 (fun _ _ _ => rfl) dX10_step_1 (fun x1 => ?_)
  refine s_aload_n C rfl dX10_step_4 ?_
  refine s_getR C hV fl_X10_34 (fun _ _ _ => rfl) dX10_step_5 (fun x2 => ?_)
  refine s_iconst C (1 : Int32) (by decide) dX10_step_8 ?_
  refine s_wI C hV lv_X10_145 (st := []) (met_Read_goodOf x1 x2 (1 : Int32)) rf_Main_step_Read_goodOf rfl rfl (Nat.le_of_ble_eq_true rfl) dX10_step_9 (fun r3 => ?_)
  refine s_aload_n C rfl dX10_step_12 ?_
  refine s_getR C hV fl_X10_34 (fun _ _ _ => rfl) dX10_step_13 (fun x4 => ?_)
  refine s_getI C hV fl_X10_140 (fun _ _ _ => rfl) dX10_step_16 (fun x5 => ?_)
  refine s_icmp_lt C 32 (by decide) dX10_step_19 ?_ ?_
  · refine s_bipush C ((-103) : Int32) (by decide) dX10_step_32 ?_
    exact s_ireti hR dX10_step_34
  · refine s_aload_n C rfl dX10_step_22 ?_
    refine s_getR C hV fl_X10_41 (fun _ _ _ => rfl) dX10_step_23 (fun x6 => ?_)
    refine s_wI C hV lv_X10_149 (st := []) (met_Read_isWhole x6) rf_Main_step_Read_isWhole rfl rfl (Nat.le_of_ble_eq_true rfl) dX10_step_26 (fun r7 => ?_)
    refine s_if_ne C 35 (by decide) dX10_step_29 ?_ ?_
    · refine s_aload_n C rfl dX10_step_35 ?_
      refine s_getR C hV fl_X10_30 (fun _ _ _ => rfl) dX10_step_36 (fun x8 => ?_)
      refine s_getI C hV fl_X10_171 (fun _ _ _ => rfl) dX10_step_39 (fun x9 => ?_)
      refine s_bipush C (8 : Int32) (by decide) dX10_step_42 ?_
      refine s_icmp_lt C 50 (by decide) dX10_step_44 ?_ ?_
      · refine s_aload_n C rfl dX10_step_50 ?_
        refine s_getR C hV fl_X10_30 (fun _ _ _ => rfl) dX10_step_51 (fun x10 => ?_)
        refine s_getR C hV fl_X10_174 (fun _ _ _ => rfl) dX10_step_54 (fun x11 => ?_)
        refine s_aload_n C rfl dX10_step_57 ?_
        refine s_getR C hV fl_X10_30 (fun _ _ _ => rfl) dX10_step_58 (fun x12 => ?_)
        refine s_getI C hV fl_X10_171 (fun _ _ _ => rfl) dX10_step_61 (fun x13 => ?_)
        refine s_aaloadT C hV dX10_step_64 (fun x14 => ?_)
        refine s_aload_n C rfl dX10_step_65 ?_
        refine s_getR C hV fl_X10_41 (fun _ _ _ => rfl) dX10_step_66 (fun x15 => ?_)
        refine s_getR C hV fl_X10_158 (fun _ _ _ => rfl) dX10_step_69 (fun x16 => ?_)
        refine s_wV C hV lv_X10_162 (st := []) (met_Text_copy x14 x16) rf_Main_step_Text_copy rfl rfl (Nat.le_of_ble_eq_true rfl) dX10_step_72 ?_
        refine s_aload_n C rfl dX10_step_75 ?_
        refine s_getR C hV fl_X10_30 (fun _ _ _ => rfl) dX10_step_76 (fun x17 => ?_)
        refine s_dupr C dX10_step_79 ?_
        refine s_getI C hV fl_X10_171 (fun _ _ _ => rfl) dX10_step_80 (fun x18 => ?_)
        refine s_iconst C (1 : Int32) (by decide) dX10_step_83 ?_
        refine s_iadd C dX10_step_84 ?_
        refine s_putI C hV fw_X10_171 rfl dX10_step_85 ?_
        refine s_aload_n C rfl dX10_step_88 ?_
        refine s_getR C hV fl_X10_34 (fun _ _ _ => rfl) dX10_step_89 (fun x19 => ?_)
        refine s_iconst C (0 : Int32) (by decide) dX10_step_92 ?_
        refine s_putI C hV fw_X10_140 rfl dX10_step_93 ?_
        refine s_aload_n C rfl dX10_step_96 ?_
        refine s_getR C hV fl_X10_12 (fun _ _ _ => rfl) dX10_step_97 (fun x20 => ?_)
        refine s_wV C hV lv_X10_168 (st := []) (met_Verd_forget x20) rf_Main_step_Verd_forget rfl rfl (Nat.le_of_ble_eq_true rfl) dX10_step_100 ?_
        refine s_aload_n C rfl dX10_step_103 ?_
        refine s_getR C hV fl_X10_30 (fun _ _ _ => rfl) dX10_step_104 (fun x21 => ?_)
        refine s_getI C hV fl_X10_171 (fun _ _ _ => rfl) dX10_step_107 (fun x22 => ?_)
        refine s_iconst C (1 : Int32) (by decide) dX10_step_110 ?_
        refine s_isub C dX10_step_111 ?_
        exact s_ireti hR dX10_step_112
      · refine s_bipush C ((-104) : Int32) (by decide) dX10_step_47 ?_
        exact s_ireti hR dX10_step_49
    · refine s_bipush C ((-103) : Int32) (by decide) dX10_step_32 ?_
      exact s_ireti hR dX10_step_34
set_option maxRecDepth 20000 in
theorem met_Main_step (v0 : Nat) : MI ZF yX10_step cX10_step 1 .int rm_Main_step [.ref v0] (Main_step v0) :=
  mi_of (L0 := [(0, .ref v0)]) (by decide +kernel) (Nat.le_of_ble_eq_true rfl) rfl (fun G ad K C hV hR => sm_Main_step C hV hR v0)

noncomputable def Main_bare (v0 : Nat) : MM Int32 :=
  mb (gR ZF 11 3 v0) fun x1 =>
  mb (gI ZF 3 1 x1) fun x2 =>
  mb (gR ZF 11 3 v0) fun x3 =>
  mb (pI ZF 3 1 x3 (0 : Int32)) fun _ =>
  mb (gR ZF 11 0 v0) fun x4 =>
  mb (vc ZF 10 x4 (Verd_forget x4)) fun _ =>
  mp x2
set_option maxRecDepth 20000 in
theorem sm_Main_bare {G : GT} {ad : Nat → Nat} {K : Int32 → Dm → Prop} (C : Cx G rm_Main_bare cX10_bare 2 RX10) (hV : Vx G rm_Main_bare ad ZF (0, 0)) (hR : RtI G rm_Main_bare ad ZF (0, 0) cX10_bare .int K) (v0 : Nat) : Sm G rm_Main_bare ad ZF (0, 0) K 0 [(0, .ref v0)] [] (Main_bare v0) := by
  unfold Main_bare
  refine s_aload_n C rfl dX10_bare_0 ?_
  refine s_getR C hV fl_X10_30 (fun _ _ _ => rfl) dX10_bare_1 (fun x1 => ?_)
  refine s_getI C hV fl_X10_171 (fun _ _ _ => rfl) dX10_bare_4 (fun x2 => ?_)
  refine s_istore_n C (L' := [(1, .int x2), (0, .ref v0)]) (by decide) rfl dX10_bare_7 ?_
  refine s_aload_n C rfl dX10_bare_8 ?_
  refine s_getR C hV fl_X10_30 (fun _ _ _ => rfl) dX10_bare_9 (fun x3 => ?_)
  refine s_iconst C (0 : Int32) (by decide) dX10_bare_12 ?_
  refine s_putI C hV fw_X10_171 rfl dX10_bare_13 ?_
  refine s_aload_n C rfl dX10_bare_16 ?_
  refine s_getR C hV fl_X10_12 (fun _ _ _ => rfl) dX10_bare_17 (fun x4 => ?_)
  refine s_wV C hV lv_X10_168 (st := []) (met_Verd_forget x4) rf_Main_bare_Verd_forget rfl rfl (Nat.le_of_ble_eq_true rfl) dX10_bare_20 ?_
  refine s_iload_n C rfl dX10_bare_23 ?_
  exact s_ireti hR dX10_bare_24
set_option maxRecDepth 20000 in
theorem met_Main_bare (v0 : Nat) : MI ZF yX10_bare cX10_bare 2 .int rm_Main_bare [.ref v0] (Main_bare v0) :=
  mi_of (L0 := [(0, .ref v0)]) (by decide +kernel) (Nat.le_of_ble_eq_true rfl) rfl (fun G ad K C hV hR => sm_Main_bare C hV hR v0)

noncomputable def Main_always_61 (v3 : Int32) (t0 : Nat) (t1 : Int32) : MM Int32 :=
  mb (pI ZF 8 2 t0 t1) fun _ =>
  mp v3
noncomputable def Main_always (v0 : Nat) (v1 : Int32) (v2 : Int32) : MM Int32 :=
  mb (gR ZF 11 2 v0) fun x1 =>
  mb (vc ZF 8 x1 (Rule_has x1 v1)) fun r2 =>
  if r2 = 0 then
  mp ((-101) : Int32)
  else
  mb (gR ZF 11 2 v0) fun x3 =>
  mb (gI ZF 8 2 x3) fun x4 =>
  ml ((x4 >>> (v1 &&& 31)) &&& (1 : Int32)) fun x5 =>
  mb (gR ZF 11 2 v0) fun x6 =>
  if v2 = 0 then
  mb (gR ZF 11 2 v0) fun x7 =>
  mb (gI ZF 8 2 x7) fun x8 =>
  Main_always_61 x5 x6 (x8 &&& (((1 : Int32) <<< (v1 &&& 31)) ^^^ ((-1) : Int32)))
  else
  mb (gR ZF 11 2 v0) fun x9 =>
  mb (gI ZF 8 2 x9) fun x10 =>
  Main_always_61 x5 x6 (x10 ||| ((1 : Int32) <<< (v1 &&& 31)))
set_option maxRecDepth 20000 in
theorem sm_Main_always_61 {G : GT} {ad : Nat → Nat} {K : Int32 → Dm → Prop} (C : Cx G rm_Main_always cX10_always 4 RX10) (hV : Vx G rm_Main_always ad ZF (0, 0)) (hR : RtI G rm_Main_always ad ZF (0, 0) cX10_always .int K) (v3 : Int32) (t0 : Nat) (t1 : Int32) : Sm G rm_Main_always ad ZF (0, 0) K 61 [(3, .int v3)] [.int t1, .ref t0] (Main_always_61 v3 t0 t1) := by
  unfold Main_always_61
  refine s_putI C hV fw_X10_177 rfl dX10_always_61 ?_
  refine s_iload_n C rfl dX10_always_64 ?_
  exact s_ireti hR dX10_always_65
set_option maxRecDepth 20000 in
theorem sm_Main_always {G : GT} {ad : Nat → Nat} {K : Int32 → Dm → Prop} (C : Cx G rm_Main_always cX10_always 4 RX10) (hV : Vx G rm_Main_always ad ZF (0, 0)) (hR : RtI G rm_Main_always ad ZF (0, 0) cX10_always .int K) (v0 : Nat) (v1 : Int32) (v2 : Int32) : Sm G rm_Main_always ad ZF (0, 0) K 0 [(0, .ref v0), (1, .int v1), (2, .int v2)] [] (Main_always v0 v1 v2) := by
  unfold Main_always
  refine s_aload_n C rfl dX10_always_0 ?_
  refine s_getR C hV fl_X10_25 (fun _ _ _ => rfl) dX10_always_1 (fun x1 => ?_)
  refine s_iload_n C rfl dX10_always_4 ?_
  refine s_wI C hV lv_X10_97 (st := []) (met_Rule_has x1 v1) rf_Main_always_Rule_has rfl rfl (Nat.le_of_ble_eq_true rfl) dX10_always_5 (fun r2 => ?_)
  refine s_if_ne C 14 (by decide) dX10_always_8 ?_ ?_
  · refine s_aload_n C rfl dX10_always_14 ?_
    refine s_getR C hV fl_X10_25 (fun _ _ _ => rfl) dX10_always_15 (fun x3 => ?_)
    refine s_getI C hV fl_X10_177 (fun _ _ _ => rfl) dX10_always_18 (fun x4 => ?_)
    refine s_iload_n C rfl dX10_always_21 ?_
    refine s_ishr C dX10_always_22 ?_
    refine s_iconst C (1 : Int32) (by decide) dX10_always_23 ?_
    refine s_iand C dX10_always_24 ?_
    refine s_leti (fun x5 => ?_)
    refine s_istore_n C (L' := [(3, .int x5), (0, .ref v0), (1, .int v1), (2, .int v2)]) (by decide) rfl dX10_always_25 ?_
    refine s_aload_n C rfl dX10_always_26 ?_
    refine s_getR C hV fl_X10_25 (fun _ _ _ => rfl) dX10_always_27 (fun x6 => ?_)
    refine s_iload_n C rfl dX10_always_30 ?_
    refine s_if_eq C 48 (by decide) dX10_always_31 ?_ ?_
    · refine s_aload_n C rfl dX10_always_48 ?_
      refine s_getR C hV fl_X10_25 (fun _ _ _ => rfl) dX10_always_49 (fun x7 => ?_)
      refine s_getI C hV fl_X10_177 (fun _ _ _ => rfl) dX10_always_52 (fun x8 => ?_)
      refine s_iconst C (1 : Int32) (by decide) dX10_always_55 ?_
      refine s_iload_n C rfl dX10_always_56 ?_
      refine s_ishl C dX10_always_57 ?_
      refine s_iconst C ((-1) : Int32) (by decide) dX10_always_58 ?_
      refine s_ixor C dX10_always_59 ?_
      refine s_iand C dX10_always_60 ?_
      exact s_weak [3] rfl (sm_Main_always_61 C hV hR x5 x6 (x8 &&& (((1 : Int32) <<< (v1 &&& 31)) ^^^ ((-1) : Int32))))
    · refine s_aload_n C rfl dX10_always_34 ?_
      refine s_getR C hV fl_X10_25 (fun _ _ _ => rfl) dX10_always_35 (fun x9 => ?_)
      refine s_getI C hV fl_X10_177 (fun _ _ _ => rfl) dX10_always_38 (fun x10 => ?_)
      refine s_iconst C (1 : Int32) (by decide) dX10_always_41 ?_
      refine s_iload_n C rfl dX10_always_42 ?_
      refine s_ishl C dX10_always_43 ?_
      refine s_ior C dX10_always_44 ?_
      refine s_goto C 61 (by decide) dX10_always_45 ?_
      exact s_weak [3] rfl (sm_Main_always_61 C hV hR x5 x6 (x10 ||| ((1 : Int32) <<< (v1 &&& 31))))
  · refine s_bipush C ((-101) : Int32) (by decide) dX10_always_11 ?_
    exact s_ireti hR dX10_always_13
set_option maxRecDepth 20000 in
theorem met_Main_always (v0 : Nat) (v1 : Int32) (v2 : Int32) : MI ZF yX10_always cX10_always 4 .int rm_Main_always [.ref v0, .int v1, .int v2] (Main_always v0 v1 v2) :=
  mi_of (L0 := [(0, .ref v0), (1, .int v1), (2, .int v2)]) (by decide +kernel) (Nat.le_of_ble_eq_true rfl) rfl (fun G ad K C hV hR => sm_Main_always C hV hR v0 v1 v2)

noncomputable def Main_holds (v0 : Nat) (v1 : Int32) (v2 : Int64) : MM Int32 :=
  mb (gR ZF 11 2 v0) fun x1 =>
  mb (vc ZF 8 x1 (Rule_has x1 v1)) fun r2 =>
  if r2 = 0 then
  mp ((-101) : Int32)
  else
  mb ((Main_isNumberOfPlate v2)) fun r3 =>
  if r3 = 0 then
  mp ((-102) : Int32)
  else
  mb (gR ZF 11 2 v0) fun x4 =>
  mb ((Main_plateOfNumber v2)) fun r5 =>
  mb (vc ZF 8 x4 (Rule_failingIn x4 r5)) fun r6 =>
  mp (((r6 >>> (v1 &&& 31)) &&& (1 : Int32)) ^^^ (1 : Int32))
set_option maxRecDepth 20000 in
theorem sm_Main_holds {G : GT} {ad : Nat → Nat} {K : Int32 → Dm → Prop} (C : Cx G rm_Main_holds cX10_holds 4 RX10) (hV : Vx G rm_Main_holds ad ZF (0, 0)) (hR : RtI G rm_Main_holds ad ZF (0, 0) cX10_holds .int K) (v0 : Nat) (v1 : Int32) (v2 : Int64) : Sm G rm_Main_holds ad ZF (0, 0) K 0 [(0, .ref v0), (1, .int v1), (2, .long v2)] [] (Main_holds v0 v1 v2) := by
  unfold Main_holds
  refine s_aload_n C rfl dX10_holds_0 ?_
  refine s_getR C hV fl_X10_25 (fun _ _ _ => rfl) dX10_holds_1 (fun x1 => ?_)
  refine s_iload_n C rfl dX10_holds_4 ?_
  refine s_wI C hV lv_X10_97 (st := []) (met_Rule_has x1 v1) rf_Main_holds_Rule_has rfl rfl (Nat.le_of_ble_eq_true rfl) dX10_holds_5 (fun r2 => ?_)
  refine s_if_ne C 14 (by decide) dX10_holds_8 ?_ ?_
  · refine s_lload_n C rfl dX10_holds_14 ?_
    refine s_uI C hV ls_X10_180 (st := []) (met_Main_isNumberOfPlate v2) rf_Main_holds_Main_isNumberOfPlate rfl rfl (Nat.le_of_ble_eq_true rfl) dX10_holds_15 (fun r3 => ?_)
    refine s_if_ne C 24 (by decide) dX10_holds_18 ?_ ?_
    · refine s_aload_n C rfl dX10_holds_24 ?_
      refine s_getR C hV fl_X10_25 (fun _ _ _ => rfl) dX10_holds_25 (fun x4 => ?_)
      refine s_lload_n C rfl dX10_holds_28 ?_
      refine s_uL C hV ls_X10_184 (st := [.ref x4]) (met_Main_plateOfNumber v2) rf_Main_holds_Main_plateOfNumber rfl rfl (Nat.le_of_ble_eq_true rfl) dX10_holds_29 (fun r5 => ?_)
      refine s_wI C hV lv_X10_187 (st := []) (met_Rule_failingIn x4 r5) rf_Main_holds_Rule_failingIn rfl rfl (Nat.le_of_ble_eq_true rfl) dX10_holds_32 (fun r6 => ?_)
      refine s_iload_n C rfl dX10_holds_35 ?_
      refine s_ishr C dX10_holds_36 ?_
      refine s_iconst C (1 : Int32) (by decide) dX10_holds_37 ?_
      refine s_iand C dX10_holds_38 ?_
      refine s_iconst C (1 : Int32) (by decide) dX10_holds_39 ?_
      refine s_ixor C dX10_holds_40 ?_
      exact s_ireti hR dX10_holds_41
    · refine s_bipush C ((-102) : Int32) (by decide) dX10_holds_21 ?_
      exact s_ireti hR dX10_holds_23
  · refine s_bipush C ((-101) : Int32) (by decide) dX10_holds_11 ?_
    exact s_ireti hR dX10_holds_13
set_option maxRecDepth 20000 in
theorem met_Main_holds (v0 : Nat) (v1 : Int32) (v2 : Int64) : MI ZF yX10_holds cX10_holds 4 .int rm_Main_holds [.ref v0, .int v1, .long v2] (Main_holds v0 v1 v2) :=
  mi_of (L0 := [(0, .ref v0), (1, .int v1), (2, .long v2)]) (by decide +kernel) (Nat.le_of_ble_eq_true rfl) rfl (fun G ad K C hV hR => sm_Main_holds C hV hR v0 v1 v2)

noncomputable def Main_found (v0 : Nat) (v1 : Int32) : MM Int32 :=
  mb (gR ZF 11 1 v0) fun x1 =>
  mb (vc ZF 6 x1 (Prog_hasBehind x1 v1)) fun r2 =>
  if r2 = 0 then
  mp ((-102) : Int32)
  else
  mb (gR ZF 11 6 v0) fun x3 =>
  mb (gR ZF 11 1 v0) fun x4 =>
  mb (vc ZF 2 x3 (Found_fill x3 x4 v1)) fun _ =>
  mb (gR ZF 11 6 v0) fun x5 =>
  mb (gI ZF 2 2 x5) fun x6 =>
  mp x6
set_option maxRecDepth 20000 in
theorem sm_Main_found {G : GT} {ad : Nat → Nat} {K : Int32 → Dm → Prop} (C : Cx G rm_Main_found cX10_found 2 RX10) (hV : Vx G rm_Main_found ad ZF (0, 0)) (hR : RtI G rm_Main_found ad ZF (0, 0) cX10_found .int K) (v0 : Nat) (v1 : Int32) : Sm G rm_Main_found ad ZF (0, 0) K 0 [(0, .ref v0), (1, .int v1)] [] (Main_found v0 v1) := by
  unfold Main_found
  refine s_aload_n C rfl dX10_found_0 ?_
  refine s_getR C hV fl_X10_20 (fun _ _ _ => rfl) dX10_found_1 (fun x1 => ?_)
  refine s_iload_n C rfl dX10_found_4 ?_
  refine s_wI C hV lv_X10_190 (st := []) (met_Prog_hasBehind x1 v1) rf_Main_found_Prog_hasBehind rfl rfl (Nat.le_of_ble_eq_true rfl) dX10_found_5 (fun r2 => ?_)
  refine s_if_ne C 14 (by decide) dX10_found_8 ?_ ?_
  · refine s_aload_n C rfl dX10_found_14 ?_
    refine s_getR C hV fl_X10_48 (fun _ _ _ => rfl) dX10_found_15 (fun x3 => ?_)
    refine s_aload_n C rfl dX10_found_18 ?_
    refine s_getR C hV fl_X10_20 (fun _ _ _ => rfl) dX10_found_19 (fun x4 => ?_)
    refine s_iload_n C rfl dX10_found_22 ?_
    refine s_wV C hV lv_X10_193 (st := []) (met_Found_fill x3 x4 v1) rf_Main_found_Found_fill rfl rfl (Nat.le_of_ble_eq_true rfl) dX10_found_23 ?_
    refine s_aload_n C rfl dX10_found_26 ?_
    refine s_getR C hV fl_X10_48 (fun _ _ _ => rfl) dX10_found_27 (fun x5 => ?_)
    refine s_getI C hV fl_X10_197 (fun _ _ _ => rfl) dX10_found_30 (fun x6 => ?_)
    exact s_ireti hR dX10_found_33
  · refine s_bipush C ((-102) : Int32) (by decide) dX10_found_11 ?_
    exact s_ireti hR dX10_found_13
set_option maxRecDepth 20000 in
theorem met_Main_found (v0 : Nat) (v1 : Int32) : MI ZF yX10_found cX10_found 2 .int rm_Main_found [.ref v0, .int v1] (Main_found v0 v1) :=
  mi_of (L0 := [(0, .ref v0), (1, .int v1)]) (by decide +kernel) (Nat.le_of_ble_eq_true rfl) rfl (fun G ad K C hV hR => sm_Main_found C hV hR v0 v1)

noncomputable def Main_plate (v0 : Nat) (v1 : Int32) (v2 : Int32) : MM Int64 :=
  mb (gR ZF 11 1 v0) fun x1 =>
  mb (vc ZF 6 x1 (Prog_hasBehind x1 v1)) fun r2 =>
  if r2 = 0 then
  mp ((-2) : Int64)
  else
  mb (gR ZF 11 6 v0) fun x3 =>
  mb (gR ZF 11 1 v0) fun x4 =>
  mb (vc ZF 2 x3 (Found_fill x3 x4 v1)) fun _ =>
  if v2 < 0 then
  mp ((-1) : Int64)
  else
  mb (gR ZF 11 6 v0) fun x5 =>
  mb (gI ZF 2 2 x5) fun x6 =>
  if x6 ≤ v2 then
  mp ((-1) : Int64)
  else
  mb (gR ZF 11 6 v0) fun x7 =>
  mb (gR ZF 2 0 x7) fun x8 =>
  mb (aL ZF x8 v2) fun x9 =>
  mb ((Main_numberOf x9)) fun r10 =>
  mp r10
set_option maxRecDepth 20000 in
theorem sm_Main_plate {G : GT} {ad : Nat → Nat} {K : Int64 → Dm → Prop} (C : Cx G rm_Main_plate cX10_plate 3 RX10) (hV : Vx G rm_Main_plate ad ZF (0, 0)) (hR : RtL G rm_Main_plate ad ZF (0, 0) cX10_plate K) (v0 : Nat) (v1 : Int32) (v2 : Int32) : Sm G rm_Main_plate ad ZF (0, 0) K 0 [(0, .ref v0), (1, .int v1), (2, .int v2)] [] (Main_plate v0 v1 v2) := by
  unfold Main_plate
  refine s_aload_n C rfl dX10_plate_0 ?_
  refine s_getR C hV fl_X10_20 (fun _ _ _ => rfl) dX10_plate_1 (fun x1 => ?_)
  refine s_iload_n C rfl dX10_plate_4 ?_
  refine s_wI C hV lv_X10_190 (st := []) (met_Prog_hasBehind x1 v1) rf_Main_plate_Prog_hasBehind rfl rfl (Nat.le_of_ble_eq_true rfl) dX10_plate_5 (fun r2 => ?_)
  refine s_if_ne C 15 (by decide) dX10_plate_8 ?_ ?_
  · refine s_aload_n C rfl dX10_plate_15 ?_
    refine s_getR C hV fl_X10_48 (fun _ _ _ => rfl) dX10_plate_16 (fun x3 => ?_)
    refine s_aload_n C rfl dX10_plate_19 ?_
    refine s_getR C hV fl_X10_20 (fun _ _ _ => rfl) dX10_plate_20 (fun x4 => ?_)
    refine s_iload_n C rfl dX10_plate_23 ?_
    refine s_wV C hV lv_X10_193 (st := []) (met_Found_fill x3 x4 v1) rf_Main_plate_Found_fill rfl rfl (Nat.le_of_ble_eq_true rfl) dX10_plate_24 ?_
    refine s_iload_n C rfl dX10_plate_27 ?_
    refine s_if_lt C 57 (by decide) dX10_plate_28 ?_ ?_
    · refine s_ldc2 C kl_X10_204 dX10_plate_57 ?_
      exact s_lret hR dX10_plate_60
    · refine s_iload_n C rfl dX10_plate_31 ?_
      refine s_aload_n C rfl dX10_plate_32 ?_
      refine s_getR C hV fl_X10_48 (fun _ _ _ => rfl) dX10_plate_33 (fun x5 => ?_)
      refine s_getI C hV fl_X10_197 (fun _ _ _ => rfl) dX10_plate_36 (fun x6 => ?_)
      refine s_icmp_ge C 57 (by decide) dX10_plate_39 ?_ ?_
      · refine s_ldc2 C kl_X10_204 dX10_plate_57 ?_
        exact s_lret hR dX10_plate_60
      · refine s_aload_n C rfl dX10_plate_42 ?_
        refine s_getR C hV fl_X10_48 (fun _ _ _ => rfl) dX10_plate_43 (fun x7 => ?_)
        refine s_getR C hV fl_X10_200 (fun _ _ _ => rfl) dX10_plate_46 (fun x8 => ?_)
        refine s_iload_n C rfl dX10_plate_49 ?_
        refine s_laload C hV dX10_plate_50 (fun x9 => ?_)
        refine s_uL C hV ls_X10_128 (st := []) (met_Main_numberOf x9) rf_Main_plate_Main_numberOf rfl rfl (Nat.le_of_ble_eq_true rfl) dX10_plate_51 (fun r10 => ?_)
        refine s_goto C 60 (by decide) dX10_plate_54 ?_
        exact s_lret hR dX10_plate_60
  · refine s_ldc2 C kl_X10_198 dX10_plate_11 ?_
    exact s_lret hR dX10_plate_14
set_option maxRecDepth 20000 in
theorem met_Main_plate (v0 : Nat) (v1 : Int32) (v2 : Int32) : ML ZF yX10_plate cX10_plate 3 rm_Main_plate [.ref v0, .int v1, .int v2] (Main_plate v0 v1 v2) :=
  ml_of (L0 := [(0, .ref v0), (1, .int v1), (2, .int v2)]) (by decide +kernel) (Nat.le_of_ble_eq_true rfl) rfl (fun G ad K C hV hR => sm_Main_plate C hV hR v0 v1 v2)

noncomputable def Main_heal (v0 : Nat) (v1 : Int64) : MM Int64 :=
  mb ((Main_isNumberOfPlate v1)) fun r1 =>
  if r1 = 0 then
  mp ((-2) : Int64)
  else
  mb (gR ZF 11 3 v0) fun x2 =>
  mb ((Main_plateOfNumber v1)) fun r3 =>
  mb (vc ZF 3 x2 (Heal_healed x2 r3)) fun r4 =>
  mb ((Main_numberOf r4)) fun r5 =>
  mp r5
set_option maxRecDepth 20000 in
theorem sm_Main_heal {G : GT} {ad : Nat → Nat} {K : Int64 → Dm → Prop} (C : Cx G rm_Main_heal cX10_heal 3 RX10) (hV : Vx G rm_Main_heal ad ZF (0, 0)) (hR : RtL G rm_Main_heal ad ZF (0, 0) cX10_heal K) (v0 : Nat) (v1 : Int64) : Sm G rm_Main_heal ad ZF (0, 0) K 0 [(0, .ref v0), (1, .long v1)] [] (Main_heal v0 v1) := by
  unfold Main_heal
  refine s_lload_n C rfl dX10_heal_0 ?_
  refine s_uI C hV ls_X10_180 (st := []) (met_Main_isNumberOfPlate v1) rf_Main_heal_Main_isNumberOfPlate rfl rfl (Nat.le_of_ble_eq_true rfl) dX10_heal_1 (fun r1 => ?_)
  refine s_if_ne C 11 (by decide) dX10_heal_4 ?_ ?_
  · refine s_aload_n C rfl dX10_heal_11 ?_
    refine s_getR C hV fl_X10_30 (fun _ _ _ => rfl) dX10_heal_12 (fun x2 => ?_)
    refine s_lload_n C rfl dX10_heal_15 ?_
    refine s_uL C hV ls_X10_184 (st := [.ref x2]) (met_Main_plateOfNumber v1) rf_Main_heal_Main_plateOfNumber rfl rfl (Nat.le_of_ble_eq_true rfl) dX10_heal_16 (fun r3 => ?_)
    refine s_wL C hV lv_X10_206 (st := []) (met_Heal_healed x2 r3) rf_Main_heal_Heal_healed rfl rfl (Nat.le_of_ble_eq_true rfl) dX10_heal_19 (fun r4 => ?_)
    refine s_uL C hV ls_X10_128 (st := []) (met_Main_numberOf r4) rf_Main_heal_Main_numberOf rfl rfl (Nat.le_of_ble_eq_true rfl) dX10_heal_22 (fun r5 => ?_)
    exact s_lret hR dX10_heal_25
  · refine s_ldc2 C kl_X10_198 dX10_heal_7 ?_
    exact s_lret hR dX10_heal_10
set_option maxRecDepth 20000 in
theorem met_Main_heal (v0 : Nat) (v1 : Int64) : ML ZF yX10_heal cX10_heal 3 rm_Main_heal [.ref v0, .long v1] (Main_heal v0 v1) :=
  ml_of (L0 := [(0, .ref v0), (1, .long v1)]) (by decide +kernel) (Nat.le_of_ble_eq_true rfl) rfl (fun G ad K C hV hR => sm_Main_heal C hV hR v0 v1)

noncomputable def Main_cut (v0 : Nat) (v1 : Int64) (v3 : Int32) : MM Int64 :=
  mb ((Main_isNumberOfPlate v1)) fun r1 =>
  if r1 = 0 then
  mp ((-2) : Int64)
  else
  if v3 < 0 then
  mp ((-1) : Int64)
  else
  mb (gR ZF 11 3 v0) fun x2 =>
  mb (gI ZF 3 1 x2) fun x3 =>
  if v3 ≤ x3 then
  mb (gR ZF 11 3 v0) fun x4 =>
  mb (gR ZF 11 3 v0) fun x5 =>
  mb ((Main_plateOfNumber v1)) fun r6 =>
  mb (vc ZF 3 x5 (Heal_after x5 r6 (0 : Int32) v3)) fun r7 =>
  mb (vc ZF 3 x4 (Heal_healed x4 r7)) fun r8 =>
  mb ((Main_numberOf r8)) fun r9 =>
  mp r9
  else
  mp ((-1) : Int64)
set_option maxRecDepth 20000 in
theorem sm_Main_cut {G : GT} {ad : Nat → Nat} {K : Int64 → Dm → Prop} (C : Cx G rm_Main_cut cX10_cut 4 RX10) (hV : Vx G rm_Main_cut ad ZF (0, 0)) (hR : RtL G rm_Main_cut ad ZF (0, 0) cX10_cut K) (v0 : Nat) (v1 : Int64) (v3 : Int32) : Sm G rm_Main_cut ad ZF (0, 0) K 0 [(0, .ref v0), (1, .long v1), (3, .int v3)] [] (Main_cut v0 v1 v3) := by
  unfold Main_cut
  refine s_lload_n C rfl dX10_cut_0 ?_
  refine s_uI C hV ls_X10_180 (st := []) (met_Main_isNumberOfPlate v1) rf_Main_cut_Main_isNumberOfPlate rfl rfl (Nat.le_of_ble_eq_true rfl) dX10_cut_1 (fun r1 => ?_)
  refine s_if_ne C 11 (by decide) dX10_cut_4 ?_ ?_
  · refine s_iload_n C rfl dX10_cut_11 ?_
    refine s_if_lt C 26 (by decide) dX10_cut_12 ?_ ?_
    · refine s_ldc2 C kl_X10_204 dX10_cut_26 ?_
      exact s_lret hR dX10_cut_29
    · refine s_iload_n C rfl dX10_cut_15 ?_
      refine s_aload_n C rfl dX10_cut_16 ?_
      refine s_getR C hV fl_X10_30 (fun _ _ _ => rfl) dX10_cut_17 (fun x2 => ?_)
      refine s_getI C hV fl_X10_171 (fun _ _ _ => rfl) dX10_cut_20 (fun x3 => ?_)
      refine s_icmp_le C 30 (by decide) dX10_cut_23 ?_ ?_
      · refine s_aload_n C rfl dX10_cut_30 ?_
        refine s_getR C hV fl_X10_30 (fun _ _ _ => rfl) dX10_cut_31 (fun x4 => ?_)
        refine s_aload_n C rfl dX10_cut_34 ?_
        refine s_getR C hV fl_X10_30 (fun _ _ _ => rfl) dX10_cut_35 (fun x5 => ?_)
        refine s_lload_n C rfl dX10_cut_38 ?_
        refine s_uL C hV ls_X10_184 (st := [.ref x5, .ref x4]) (met_Main_plateOfNumber v1) rf_Main_cut_Main_plateOfNumber rfl rfl (Nat.le_of_ble_eq_true rfl) dX10_cut_39 (fun r6 => ?_)
        refine s_iconst C (0 : Int32) (by decide) dX10_cut_42 ?_
        refine s_iload_n C rfl dX10_cut_43 ?_
        refine s_wL C hV lv_X10_209 (st := [.ref x4]) (met_Heal_after x5 r6 (0 : Int32) v3) rf_Main_cut_Heal_after rfl rfl (Nat.le_of_ble_eq_true rfl) dX10_cut_44 (fun r7 => ?_)
        refine s_wL C hV lv_X10_206 (st := []) (met_Heal_healed x4 r7) rf_Main_cut_Heal_healed rfl rfl (Nat.le_of_ble_eq_true rfl) dX10_cut_47 (fun r8 => ?_)
        refine s_uL C hV ls_X10_128 (st := []) (met_Main_numberOf r8) rf_Main_cut_Main_numberOf rfl rfl (Nat.le_of_ble_eq_true rfl) dX10_cut_50 (fun r9 => ?_)
        exact s_lret hR dX10_cut_53
      · refine s_ldc2 C kl_X10_204 dX10_cut_26 ?_
        exact s_lret hR dX10_cut_29
  · refine s_ldc2 C kl_X10_198 dX10_cut_7 ?_
    exact s_lret hR dX10_cut_10
set_option maxRecDepth 20000 in
theorem met_Main_cut (v0 : Nat) (v1 : Int64) (v3 : Int32) : ML ZF yX10_cut cX10_cut 4 rm_Main_cut [.ref v0, .long v1, .int v3] (Main_cut v0 v1 v3) :=
  ml_of (L0 := [(0, .ref v0), (1, .long v1), (3, .int v3)]) (by decide +kernel) (Nat.le_of_ble_eq_true rfl) rfl (fun G ad K C hV hR => sm_Main_cut C hV hR v0 v1 v3)

noncomputable def Main_steady (v0 : Nat) (v1 : Int64) : MM Int32 :=
  mb ((Main_isNumberOfPlate v1)) fun r1 =>
  if r1 = 0 then
  mp ((-102) : Int32)
  else
  mb ((Main_plateOfNumber v1)) fun r2 =>
  mb (gR ZF 11 3 v0) fun x3 =>
  mb (gR ZF 11 3 v0) fun x4 =>
  mb (vc ZF 3 x4 (Heal_healed x4 r2)) fun r5 =>
  mb (vc ZF 3 x3 (Heal_isSteady x3 r2 r5)) fun r6 =>
  if r6 = 0 then
  mp (0 : Int32)
  else
  mp (1 : Int32)
set_option maxRecDepth 20000 in
theorem sm_Main_steady {G : GT} {ad : Nat → Nat} {K : Int32 → Dm → Prop} (C : Cx G rm_Main_steady cX10_steady 5 RX10) (hV : Vx G rm_Main_steady ad ZF (0, 0)) (hR : RtI G rm_Main_steady ad ZF (0, 0) cX10_steady .int K) (v0 : Nat) (v1 : Int64) : Sm G rm_Main_steady ad ZF (0, 0) K 0 [(0, .ref v0), (1, .long v1)] [] (Main_steady v0 v1) := by
  unfold Main_steady
  refine s_lload_n C rfl dX10_steady_0 ?_
  refine s_uI C hV ls_X10_180 (st := []) (met_Main_isNumberOfPlate v1) rf_Main_steady_Main_isNumberOfPlate rfl rfl (Nat.le_of_ble_eq_true rfl) dX10_steady_1 (fun r1 => ?_)
  refine s_if_ne C 10 (by decide) dX10_steady_4 ?_ ?_
  · refine s_lload_n C rfl dX10_steady_10 ?_
    refine s_uL C hV ls_X10_184 (st := []) (met_Main_plateOfNumber v1) rf_Main_steady_Main_plateOfNumber rfl rfl (Nat.le_of_ble_eq_true rfl) dX10_steady_11 (fun r2 => ?_)
    refine s_lstore_n C (L' := [(3, .long r2), (0, .ref v0), (1, .long v1)]) (by decide) rfl dX10_steady_14 ?_
    refine s_aload_n C rfl dX10_steady_15 ?_
    refine s_getR C hV fl_X10_30 (fun _ _ _ => rfl) dX10_steady_16 (fun x3 => ?_)
    refine s_lload_n C rfl dX10_steady_19 ?_
    refine s_aload_n C rfl dX10_steady_20 ?_
    refine s_getR C hV fl_X10_30 (fun _ _ _ => rfl) dX10_steady_21 (fun x4 => ?_)
    refine s_lload_n C rfl dX10_steady_24 ?_
    refine s_wL C hV lv_X10_206 (st := [.long r2, .ref x3]) (met_Heal_healed x4 r2) rf_Main_steady_Heal_healed rfl rfl (Nat.le_of_ble_eq_true rfl) dX10_steady_25 (fun r5 => ?_)
    refine s_wI C hV lv_X10_212 (st := []) (met_Heal_isSteady x3 r2 r5) rf_Main_steady_Heal_isSteady rfl rfl (Nat.le_of_ble_eq_true rfl) dX10_steady_28 (fun r6 => ?_)
    refine s_if_eq C 38 (by decide) dX10_steady_31 ?_ ?_
    · refine s_iconst C (0 : Int32) (by decide) dX10_steady_38 ?_
      exact s_ireti hR dX10_steady_39
    · refine s_iconst C (1 : Int32) (by decide) dX10_steady_34 ?_
      refine s_goto C 39 (by decide) dX10_steady_35 ?_
      exact s_ireti hR dX10_steady_39
  · refine s_bipush C ((-102) : Int32) (by decide) dX10_steady_7 ?_
    exact s_ireti hR dX10_steady_9
set_option maxRecDepth 20000 in
theorem met_Main_steady (v0 : Nat) (v1 : Int64) : MI ZF yX10_steady cX10_steady 5 .int rm_Main_steady [.ref v0, .long v1] (Main_steady v0 v1) :=
  mi_of (L0 := [(0, .ref v0), (1, .long v1)]) (by decide +kernel) (Nat.le_of_ble_eq_true rfl) rfl (fun G ad K C hV hR => sm_Main_steady C hV hR v0 v1)

noncomputable def Main_kept_109 (v0 : Nat) (v1 : Int32) (v3 : Int32) (v4 : Int32) (v5 : Int32) (t0 : Int32) : MM ((Int32 × Int32) ⊕ Int32) :=
  ml (v4 + (((t0 >>> (v1 &&& 31)) &&& (1 : Int32)) ^^^ (1 : Int32))) fun x16 =>
  ml (v5 + (1 : Int32)) fun x17 =>
  mp (.inl (x16, x17))
noncomputable def Main_kept_55_b (v0 : Nat) (v1 : Int32) (v3 : Int32) (v4 : Int32) (v5 : Int32) : MM ((Int32 × Int32) ⊕ Int32) :=
  mb (gR ZF 11 6 v0) fun x9 =>
  mb (gI ZF 2 2 x9) fun x10 =>
  if x10 ≤ v5 then
  mr (
  mp v4)
  else
  if v3 = (1 : Int32) then
  mb (gR ZF 11 0 v0) fun x18 =>
  mb (gR ZF 11 6 v0) fun x19 =>
  mb (gR ZF 2 1 x19) fun x20 =>
  mb (aI ZF 23 x20 v5) fun x21 =>
  mb (vc ZF 10 x18 (Verd_of x18 x21)) fun r22 =>
  Main_kept_109 v0 v1 v3 v4 v5 r22
  else
  mb (gR ZF 11 2 v0) fun x11 =>
  mb (gR ZF 11 6 v0) fun x12 =>
  mb (gR ZF 2 0 x12) fun x13 =>
  mb (aL ZF x13 v5) fun x14 =>
  mb (vc ZF 8 x11 (Rule_failingIn x11 x14)) fun r15 =>
  Main_kept_109 v0 v1 v3 v4 v5 r15
noncomputable def Main_kept_55 (v0 : Nat) (v1 : Int32) (v3 : Int32) (s : (Int32 × Int32)) : MM Int32 := lo (fun (s : (Int32 × Int32)) => Main_kept_55_b v0 v1 v3 s.1 s.2) s
noncomputable def Main_kept_37 (v0 : Nat) (v1 : Int32) (v2 : Int32) (v3 : Int32) : MM Int32 :=
  mb (gR ZF 11 6 v0) fun x5 =>
  mb (gR ZF 11 1 v0) fun x6 =>
  mb (vc ZF 2 x5 (Found_fill x5 x6 v2)) fun _ =>
  ml (0 : Int32) fun x7 =>
  ml (0 : Int32) fun x8 =>
  Main_kept_55 v0 v1 v3 (x7, x8)
noncomputable def Main_kept (v0 : Nat) (v1 : Int32) (v2 : Int32) (v3 : Int32) : MM Int32 :=
  mb (gR ZF 11 2 v0) fun x1 =>
  mb (vc ZF 8 x1 (Rule_has x1 v1)) fun r2 =>
  if r2 = 0 then
  mp ((-101) : Int32)
  else
  mb (gR ZF 11 1 v0) fun x3 =>
  mb (vc ZF 6 x3 (Prog_hasBehind x3 v2)) fun r4 =>
  if r4 = 0 then
  mp ((-102) : Int32)
  else
  if v3 = 0 then
  Main_kept_37 v0 v1 v2 v3
  else
  if v3 = (1 : Int32) then
  Main_kept_37 v0 v1 v2 v3
  else
  mp ((-102) : Int32)
set_option maxRecDepth 20000 in
theorem sm_Main_kept_109 {G : GT} {ad : Nat → Nat} {K : Int32 → Dm → Prop} (C : Cx G rm_Main_kept cX10_kept 7 RX10) (hV : Vx G rm_Main_kept ad ZF (0, 0)) (hR : RtI G rm_Main_kept ad ZF (0, 0) cX10_kept .int K) (v0 : Nat) (v1 : Int32) (v3 : Int32) (v4 : Int32) (v5 : Int32) (t0 : Int32) : Sm G rm_Main_kept ad ZF (0, 0) (lpK G rm_Main_kept ad ZF (0, 0) 55 (fun (s : (Int32 × Int32)) => [(0, .ref v0), (1, .int v1), (3, .int v3), (4, .int s.1), (5, .int s.2)]) K) 109 [(0, .ref v0), (1, .int v1), (3, .int v3), (4, .int v4), (5, .int v5)] [.int t0] (Main_kept_109 v0 v1 v3 v4 v5 t0) := by
  unfold Main_kept_109
  refine s_istore C (L' := [(6, .int t0), (0, .ref v0), (1, .int v1), (3, .int v3), (4, .int v4), (5, .int v5)]) (by decide) rfl dX10_kept_109 ?_
  refine s_iload C rfl dX10_kept_111 ?_
  refine s_iload C rfl dX10_kept_113 ?_
  refine s_iload_n C rfl dX10_kept_115 ?_
  refine s_ishr C dX10_kept_116 ?_
  refine s_iconst C (1 : Int32) (by decide) dX10_kept_117 ?_
  refine s_iand C dX10_kept_118 ?_
  refine s_iconst C (1 : Int32) (by decide) dX10_kept_119 ?_
  refine s_ixor C dX10_kept_120 ?_
  refine s_iadd C dX10_kept_121 ?_
  refine s_leti (fun x16 => ?_)
  refine s_istore C (L' := [(4, .int x16), (6, .int t0), (0, .ref v0), (1, .int v1), (3, .int v3), (5, .int v5)]) (by decide) rfl dX10_kept_122 ?_
  refine s_iinc C (L' := fun x17 => [(5, .int x17), (4, .int x16), (6, .int t0), (0, .ref v0), (1, .int v1), (3, .int v3)]) (1 : Int32) (by decide) rfl (by decide) (fun _ => rfl) dX10_kept_124 (fun x17 => ?_)
  refine s_goto C 55 (by decide) dX10_kept_127 ?_
  exact s_back [0, 1, 3, 4, 5] (x16, x17) rfl
set_option maxRecDepth 20000 in
theorem sm_Main_kept_55_b {G : GT} {ad : Nat → Nat} {K : Int32 → Dm → Prop} (C : Cx G rm_Main_kept cX10_kept 7 RX10) (hV : Vx G rm_Main_kept ad ZF (0, 0)) (hR : RtI G rm_Main_kept ad ZF (0, 0) cX10_kept .int K) (v0 : Nat) (v1 : Int32) (v3 : Int32) (v4 : Int32) (v5 : Int32) : Sm G rm_Main_kept ad ZF (0, 0) (lpK G rm_Main_kept ad ZF (0, 0) 55 (fun (s : (Int32 × Int32)) => [(0, .ref v0), (1, .int v1), (3, .int v3), (4, .int s.1), (5, .int s.2)]) K) 55 [(0, .ref v0), (1, .int v1), (3, .int v3), (4, .int v4), (5, .int v5)] [] (Main_kept_55_b v0 v1 v3 v4 v5) := by
  unfold Main_kept_55_b
  refine s_iload C rfl dX10_kept_55 ?_
  refine s_aload_n C rfl dX10_kept_57 ?_
  refine s_getR C hV fl_X10_48 (fun _ _ _ => rfl) dX10_kept_58 (fun x9 => ?_)
  refine s_getI C hV fl_X10_197 (fun _ _ _ => rfl) dX10_kept_61 (fun x10 => ?_)
  refine s_icmp_ge C 130 (by decide) dX10_kept_64 ?_ ?_
  · refine s_exit ?_
    refine s_iload C rfl dX10_kept_130 ?_
    exact s_ireti hR dX10_kept_132
  · refine s_iload_n C rfl dX10_kept_67 ?_
    refine s_iconst C (1 : Int32) (by decide) dX10_kept_68 ?_
    refine s_icmp_ne C 92 (by decide) dX10_kept_69 ?_ ?_
    · refine s_aload_n C rfl dX10_kept_92 ?_
      refine s_getR C hV fl_X10_25 (fun _ _ _ => rfl) dX10_kept_93 (fun x11 => ?_)
      refine s_aload_n C rfl dX10_kept_96 ?_
      refine s_getR C hV fl_X10_48 (fun _ _ _ => rfl) dX10_kept_97 (fun x12 => ?_)
      refine s_getR C hV fl_X10_200 (fun _ _ _ => rfl) dX10_kept_100 (fun x13 => ?_)
      refine s_iload C rfl dX10_kept_103 ?_
      refine s_laload C hV dX10_kept_105 (fun x14 => ?_)
      refine s_wI C hV lv_X10_187 (st := []) (met_Rule_failingIn x11 x14) rf_Main_kept_Rule_failingIn rfl rfl (Nat.le_of_ble_eq_true rfl) dX10_kept_106 (fun r15 => ?_)
      exact s_weak [0, 1, 3, 4, 5] rfl (sm_Main_kept_109 C hV hR v0 v1 v3 v4 v5 r15)
    · refine s_aload_n C rfl dX10_kept_72 ?_
      refine s_getR C hV fl_X10_12 (fun _ _ _ => rfl) dX10_kept_73 (fun x18 => ?_)
      refine s_aload_n C rfl dX10_kept_76 ?_
      refine s_getR C hV fl_X10_48 (fun _ _ _ => rfl) dX10_kept_77 (fun x19 => ?_)
      refine s_getR C hV fl_X10_216 (fun _ _ _ => rfl) dX10_kept_80 (fun x20 => ?_)
      refine s_iload C rfl dX10_kept_83 ?_
      refine s_iaload C hV dX10_kept_85 (fun x21 => ?_)
      refine s_wI C hV lv_X10_220 (st := []) (met_Verd_of x18 x21) rf_Main_kept_Verd_of rfl rfl (Nat.le_of_ble_eq_true rfl) dX10_kept_86 (fun r22 => ?_)
      refine s_goto C 109 (by decide) dX10_kept_89 ?_
      exact s_weak [0, 1, 3, 4, 5] rfl (sm_Main_kept_109 C hV hR v0 v1 v3 v4 v5 r22)
set_option maxRecDepth 20000 in
theorem sm_Main_kept_55 {G : GT} {ad : Nat → Nat} {K : Int32 → Dm → Prop} (C : Cx G rm_Main_kept cX10_kept 7 RX10) (hV : Vx G rm_Main_kept ad ZF (0, 0)) (hR : RtI G rm_Main_kept ad ZF (0, 0) cX10_kept .int K) (v0 : Nat) (v1 : Int32) (v3 : Int32) (s : (Int32 × Int32)) : Sm G rm_Main_kept ad ZF (0, 0) K 55 ((fun (s : (Int32 × Int32)) => [(0, .ref v0), (1, .int v1), (3, .int v3), (4, .int s.1), (5, .int s.2)]) s) [] (Main_kept_55 v0 v1 v3 s) :=
  s_loop (en := (fun (s : (Int32 × Int32)) => [(0, .ref v0), (1, .int v1), (3, .int v3), (4, .int s.1), (5, .int s.2)])) (fun s => sm_Main_kept_55_b C hV hR v0 v1 v3 s.1 s.2) s
set_option maxRecDepth 20000 in
theorem sm_Main_kept_37 {G : GT} {ad : Nat → Nat} {K : Int32 → Dm → Prop} (C : Cx G rm_Main_kept cX10_kept 7 RX10) (hV : Vx G rm_Main_kept ad ZF (0, 0)) (hR : RtI G rm_Main_kept ad ZF (0, 0) cX10_kept .int K) (v0 : Nat) (v1 : Int32) (v2 : Int32) (v3 : Int32) : Sm G rm_Main_kept ad ZF (0, 0) K 37 [(0, .ref v0), (1, .int v1), (2, .int v2), (3, .int v3)] [] (Main_kept_37 v0 v1 v2 v3) := by
  unfold Main_kept_37
  refine s_aload_n C rfl dX10_kept_37 ?_
  refine s_getR C hV fl_X10_48 (fun _ _ _ => rfl) dX10_kept_38 (fun x5 => ?_)
  refine s_aload_n C rfl dX10_kept_41 ?_
  refine s_getR C hV fl_X10_20 (fun _ _ _ => rfl) dX10_kept_42 (fun x6 => ?_)
  refine s_iload_n C rfl dX10_kept_45 ?_
  refine s_wV C hV lv_X10_193 (st := []) (met_Found_fill x5 x6 v2) rf_Main_kept_Found_fill rfl rfl (Nat.le_of_ble_eq_true rfl) dX10_kept_46 ?_
  refine s_iconst C (0 : Int32) (by decide) dX10_kept_49 ?_
  refine s_leti (fun x7 => ?_)
  refine s_istore C (L' := [(4, .int x7), (0, .ref v0), (1, .int v1), (2, .int v2), (3, .int v3)]) (by decide) rfl dX10_kept_50 ?_
  refine s_iconst C (0 : Int32) (by decide) dX10_kept_52 ?_
  refine s_leti (fun x8 => ?_)
  refine s_istore C (L' := [(5, .int x8), (4, .int x7), (0, .ref v0), (1, .int v1), (2, .int v2), (3, .int v3)]) (by decide) rfl dX10_kept_53 ?_
  exact s_weak [0, 1, 3, 4, 5] rfl (sm_Main_kept_55 C hV hR v0 v1 v3 (x7, x8))
set_option maxRecDepth 20000 in
theorem sm_Main_kept {G : GT} {ad : Nat → Nat} {K : Int32 → Dm → Prop} (C : Cx G rm_Main_kept cX10_kept 7 RX10) (hV : Vx G rm_Main_kept ad ZF (0, 0)) (hR : RtI G rm_Main_kept ad ZF (0, 0) cX10_kept .int K) (v0 : Nat) (v1 : Int32) (v2 : Int32) (v3 : Int32) : Sm G rm_Main_kept ad ZF (0, 0) K 0 [(0, .ref v0), (1, .int v1), (2, .int v2), (3, .int v3)] [] (Main_kept v0 v1 v2 v3) := by
  unfold Main_kept
  refine s_aload_n C rfl dX10_kept_0 ?_
  refine s_getR C hV fl_X10_25 (fun _ _ _ => rfl) dX10_kept_1 (fun x1 => ?_)
  refine s_iload_n C rfl dX10_kept_4 ?_
  refine s_wI C hV lv_X10_97 (st := []) (met_Rule_has x1 v1) rf_Main_kept_Rule_has rfl rfl (Nat.le_of_ble_eq_true rfl) dX10_kept_5 (fun r2 => ?_)
  refine s_if_ne C 14 (by decide) dX10_kept_8 ?_ ?_
  · refine s_aload_n C rfl dX10_kept_14 ?_
    refine s_getR C hV fl_X10_20 (fun _ _ _ => rfl) dX10_kept_15 (fun x3 => ?_)
    refine s_iload_n C rfl dX10_kept_18 ?_
    refine s_wI C hV lv_X10_190 (st := []) (met_Prog_hasBehind x3 v2) rf_Main_kept_Prog_hasBehind rfl rfl (Nat.le_of_ble_eq_true rfl) dX10_kept_19 (fun r4 => ?_)
    refine s_if_eq C 34 (by decide) dX10_kept_22 ?_ ?_
    · refine s_bipush C ((-102) : Int32) (by decide) dX10_kept_34 ?_
      exact s_ireti hR dX10_kept_36
    · refine s_iload_n C rfl dX10_kept_25 ?_
      refine s_if_eq C 37 (by decide) dX10_kept_26 ?_ ?_
      · exact s_weak [0, 1, 2, 3] rfl (sm_Main_kept_37 C hV hR v0 v1 v2 v3)
      · refine s_iload_n C rfl dX10_kept_29 ?_
        refine s_iconst C (1 : Int32) (by decide) dX10_kept_30 ?_
        refine s_icmp_eq C 37 (by decide) dX10_kept_31 ?_ ?_
        · exact s_weak [0, 1, 2, 3] rfl (sm_Main_kept_37 C hV hR v0 v1 v2 v3)
        · refine s_bipush C ((-102) : Int32) (by decide) dX10_kept_34 ?_
          exact s_ireti hR dX10_kept_36
  · refine s_bipush C ((-101) : Int32) (by decide) dX10_kept_11 ?_
    exact s_ireti hR dX10_kept_13
set_option maxRecDepth 20000 in
theorem met_Main_kept (v0 : Nat) (v1 : Int32) (v2 : Int32) (v3 : Int32) : MI ZF yX10_kept cX10_kept 7 .int rm_Main_kept [.ref v0, .int v1, .int v2, .int v3] (Main_kept v0 v1 v2 v3) :=
  mi_of (L0 := [(0, .ref v0), (1, .int v1), (2, .int v2), (3, .int v3)]) (by decide +kernel) (Nat.le_of_ble_eq_true rfl) rfl (fun G ad K C hV hR => sm_Main_kept C hV hR v0 v1 v2 v3)

noncomputable def Main_broken_87 (v0 : Nat) (v2 : Int32) (v4 : Int32) (t0 : Int32) (t1 : Int32) : MM ((Int32 × Int32) ⊕ Int32) :=
  ml (t0 + t1) fun x18 =>
  ml (v4 + (1 : Int32)) fun x19 =>
  mp (.inl (x18, x19))
noncomputable def Main_broken_47_b (v0 : Nat) (v2 : Int32) (v3 : Int32) (v4 : Int32) : MM ((Int32 × Int32) ⊕ Int32) :=
  mb (gR ZF 11 6 v0) fun x11 =>
  mb (gI ZF 2 2 x11) fun x12 =>
  if x12 ≤ v4 then
  mr (
  mp v3)
  else
  mb (gR ZF 11 0 v0) fun x13 =>
  mb (gR ZF 11 6 v0) fun x14 =>
  mb (gR ZF 2 1 x14) fun x15 =>
  mb (aI ZF 23 x15 v4) fun x16 =>
  mb (vc ZF 10 x13 (Verd_of x13 x16)) fun r17 =>
  Main_broken_87 v0 v2 v4 v3 (if (r17 &&& v2) = 0 then (0 : Int32) else (1 : Int32))
noncomputable def Main_broken_47 (v0 : Nat) (v2 : Int32) (s : (Int32 × Int32)) : MM Int32 := lo (fun (s : (Int32 × Int32)) => Main_broken_47_b v0 v2 s.1 s.2) s
noncomputable def Main_broken (v0 : Nat) (v1 : Int32) : MM Int32 :=
  mb (gR ZF 11 1 v0) fun x1 =>
  mb (vc ZF 6 x1 (Prog_hasBehind x1 v1)) fun r2 =>
  if r2 = 0 then
  mp ((-102) : Int32)
  else
  mb (gR ZF 11 6 v0) fun x3 =>
  mb (gR ZF 11 1 v0) fun x4 =>
  mb (vc ZF 2 x3 (Found_fill x3 x4 v1)) fun _ =>
  mb (gR ZF 11 1 v0) fun x5 =>
  mb (gR ZF 11 2 v0) fun x6 =>
  mb (gI ZF 8 2 x6) fun x7 =>
  mb (vc ZF 6 x5 (Prog_dueAt x5 v1 x7)) fun r8 =>
  ml (0 : Int32) fun x9 =>
  ml (0 : Int32) fun x10 =>
  Main_broken_47 v0 r8 (x9, x10)
set_option maxRecDepth 20000 in
theorem sm_Main_broken_87 {G : GT} {ad : Nat → Nat} {K : Int32 → Dm → Prop} (C : Cx G rm_Main_broken cX10_broken 5 RX10) (hV : Vx G rm_Main_broken ad ZF (0, 0)) (hR : RtI G rm_Main_broken ad ZF (0, 0) cX10_broken .int K) (v0 : Nat) (v2 : Int32) (v4 : Int32) (t0 : Int32) (t1 : Int32) : Sm G rm_Main_broken ad ZF (0, 0) (lpK G rm_Main_broken ad ZF (0, 0) 47 (fun (s : (Int32 × Int32)) => [(0, .ref v0), (2, .int v2), (3, .int s.1), (4, .int s.2)]) K) 87 [(0, .ref v0), (2, .int v2), (4, .int v4)] [.int t1, .int t0] (Main_broken_87 v0 v2 v4 t0 t1) := by
  unfold Main_broken_87
  refine s_iadd C dX10_broken_87 ?_
  refine s_leti (fun x18 => ?_)
  refine s_istore_n C (L' := [(3, .int x18), (0, .ref v0), (2, .int v2), (4, .int v4)]) (by decide) rfl dX10_broken_88 ?_
  refine s_iinc C (L' := fun x19 => [(4, .int x19), (3, .int x18), (0, .ref v0), (2, .int v2)]) (1 : Int32) (by decide) rfl (by decide) (fun _ => rfl) dX10_broken_89 (fun x19 => ?_)
  refine s_goto C 47 (by decide) dX10_broken_92 ?_
  exact s_back [0, 2, 3, 4] (x18, x19) rfl
set_option maxRecDepth 20000 in
theorem sm_Main_broken_47_b {G : GT} {ad : Nat → Nat} {K : Int32 → Dm → Prop} (C : Cx G rm_Main_broken cX10_broken 5 RX10) (hV : Vx G rm_Main_broken ad ZF (0, 0)) (hR : RtI G rm_Main_broken ad ZF (0, 0) cX10_broken .int K) (v0 : Nat) (v2 : Int32) (v3 : Int32) (v4 : Int32) : Sm G rm_Main_broken ad ZF (0, 0) (lpK G rm_Main_broken ad ZF (0, 0) 47 (fun (s : (Int32 × Int32)) => [(0, .ref v0), (2, .int v2), (3, .int s.1), (4, .int s.2)]) K) 47 [(0, .ref v0), (2, .int v2), (3, .int v3), (4, .int v4)] [] (Main_broken_47_b v0 v2 v3 v4) := by
  unfold Main_broken_47_b
  refine s_iload C rfl dX10_broken_47 ?_
  refine s_aload_n C rfl dX10_broken_49 ?_
  refine s_getR C hV fl_X10_48 (fun _ _ _ => rfl) dX10_broken_50 (fun x11 => ?_)
  refine s_getI C hV fl_X10_197 (fun _ _ _ => rfl) dX10_broken_53 (fun x12 => ?_)
  refine s_icmp_ge C 95 (by decide) dX10_broken_56 ?_ ?_
  · refine s_exit ?_
    refine s_iload_n C rfl dX10_broken_95 ?_
    exact s_ireti hR dX10_broken_96
  · refine s_iload_n C rfl dX10_broken_59 ?_
    refine s_aload_n C rfl dX10_broken_60 ?_
    refine s_getR C hV fl_X10_12 (fun _ _ _ => rfl) dX10_broken_61 (fun x13 => ?_)
    refine s_aload_n C rfl dX10_broken_64 ?_
    refine s_getR C hV fl_X10_48 (fun _ _ _ => rfl) dX10_broken_65 (fun x14 => ?_)
    refine s_getR C hV fl_X10_216 (fun _ _ _ => rfl) dX10_broken_68 (fun x15 => ?_)
    refine s_iload C rfl dX10_broken_71 ?_
    refine s_iaload C hV dX10_broken_73 (fun x16 => ?_)
    refine s_wI C hV lv_X10_220 (st := [.int v3]) (met_Verd_of x13 x16) rf_Main_broken_Verd_of rfl rfl (Nat.le_of_ble_eq_true rfl) dX10_broken_74 (fun r17 => ?_)
    refine s_iload_n C rfl dX10_broken_77 ?_
    refine s_iand C dX10_broken_78 ?_
    refine s_ite (g := fun z => Main_broken_87 v0 v2 v4 v3 z) ?_
    refine s_if_eq C 86 (by decide) dX10_broken_79 ?_ ?_
    · refine s_iconst C (0 : Int32) (by decide) dX10_broken_86 ?_
      exact s_weak [0, 2, 4] rfl (sm_Main_broken_87 C hV hR v0 v2 v4 v3 (0 : Int32))
    · refine s_iconst C (1 : Int32) (by decide) dX10_broken_82 ?_
      refine s_goto C 87 (by decide) dX10_broken_83 ?_
      exact s_weak [0, 2, 4] rfl (sm_Main_broken_87 C hV hR v0 v2 v4 v3 (1 : Int32))
set_option maxRecDepth 20000 in
theorem sm_Main_broken_47 {G : GT} {ad : Nat → Nat} {K : Int32 → Dm → Prop} (C : Cx G rm_Main_broken cX10_broken 5 RX10) (hV : Vx G rm_Main_broken ad ZF (0, 0)) (hR : RtI G rm_Main_broken ad ZF (0, 0) cX10_broken .int K) (v0 : Nat) (v2 : Int32) (s : (Int32 × Int32)) : Sm G rm_Main_broken ad ZF (0, 0) K 47 ((fun (s : (Int32 × Int32)) => [(0, .ref v0), (2, .int v2), (3, .int s.1), (4, .int s.2)]) s) [] (Main_broken_47 v0 v2 s) :=
  s_loop (en := (fun (s : (Int32 × Int32)) => [(0, .ref v0), (2, .int v2), (3, .int s.1), (4, .int s.2)])) (fun s => sm_Main_broken_47_b C hV hR v0 v2 s.1 s.2) s
set_option maxRecDepth 20000 in
theorem sm_Main_broken {G : GT} {ad : Nat → Nat} {K : Int32 → Dm → Prop} (C : Cx G rm_Main_broken cX10_broken 5 RX10) (hV : Vx G rm_Main_broken ad ZF (0, 0)) (hR : RtI G rm_Main_broken ad ZF (0, 0) cX10_broken .int K) (v0 : Nat) (v1 : Int32) : Sm G rm_Main_broken ad ZF (0, 0) K 0 [(0, .ref v0), (1, .int v1)] [] (Main_broken v0 v1) := by
  unfold Main_broken
  refine s_aload_n C rfl dX10_broken_0 ?_
  refine s_getR C hV fl_X10_20 (fun _ _ _ => rfl) dX10_broken_1 (fun x1 => ?_)
  refine s_iload_n C rfl dX10_broken_4 ?_
  refine s_wI C hV lv_X10_190 (st := []) (met_Prog_hasBehind x1 v1) rf_Main_broken_Prog_hasBehind rfl rfl (Nat.le_of_ble_eq_true rfl) dX10_broken_5 (fun r2 => ?_)
  refine s_if_ne C 14 (by decide) dX10_broken_8 ?_ ?_
  · refine s_aload_n C rfl dX10_broken_14 ?_
    refine s_getR C hV fl_X10_48 (fun _ _ _ => rfl) dX10_broken_15 (fun x3 => ?_)
    refine s_aload_n C rfl dX10_broken_18 ?_
    refine s_getR C hV fl_X10_20 (fun _ _ _ => rfl) dX10_broken_19 (fun x4 => ?_)
    refine s_iload_n C rfl dX10_broken_22 ?_
    refine s_wV C hV lv_X10_193 (st := []) (met_Found_fill x3 x4 v1) rf_Main_broken_Found_fill rfl rfl (Nat.le_of_ble_eq_true rfl) dX10_broken_23 ?_
    refine s_aload_n C rfl dX10_broken_26 ?_
    refine s_getR C hV fl_X10_20 (fun _ _ _ => rfl) dX10_broken_27 (fun x5 => ?_)
    refine s_iload_n C rfl dX10_broken_30 ?_
    refine s_aload_n C rfl dX10_broken_31 ?_
    refine s_getR C hV fl_X10_25 (fun _ _ _ => rfl) dX10_broken_32 (fun x6 => ?_)
    refine s_getI C hV fl_X10_177 (fun _ _ _ => rfl) dX10_broken_35 (fun x7 => ?_)
    refine s_wI C hV lv_X10_223 (st := []) (met_Prog_dueAt x5 v1 x7) rf_Main_broken_Prog_dueAt rfl rfl (Nat.le_of_ble_eq_true rfl) dX10_broken_38 (fun r8 => ?_)
    refine s_istore_n C (L' := [(2, .int r8), (0, .ref v0), (1, .int v1)]) (by decide) rfl dX10_broken_41 ?_
    refine s_iconst C (0 : Int32) (by decide) dX10_broken_42 ?_
    refine s_leti (fun x9 => ?_)
    refine s_istore_n C (L' := [(3, .int x9), (2, .int r8), (0, .ref v0), (1, .int v1)]) (by decide) rfl dX10_broken_43 ?_
    refine s_iconst C (0 : Int32) (by decide) dX10_broken_44 ?_
    refine s_leti (fun x10 => ?_)
    refine s_istore C (L' := [(4, .int x10), (3, .int x9), (2, .int r8), (0, .ref v0), (1, .int v1)]) (by decide) rfl dX10_broken_45 ?_
    exact s_weak [0, 2, 3, 4] rfl (sm_Main_broken_47 C hV hR v0 r8 (x9, x10))
  · refine s_bipush C ((-102) : Int32) (by decide) dX10_broken_11 ?_
    exact s_ireti hR dX10_broken_13
set_option maxRecDepth 20000 in
theorem met_Main_broken (v0 : Nat) (v1 : Int32) : MI ZF yX10_broken cX10_broken 5 .int rm_Main_broken [.ref v0, .int v1] (Main_broken v0 v1) :=
  mi_of (L0 := [(0, .ref v0), (1, .int v1)]) (by decide +kernel) (Nat.le_of_ble_eq_true rfl) rfl (fun G ad K C hV hR => sm_Main_broken C hV hR v0 v1)

noncomputable def Main_bounds_112 (v0 : Nat) (v1 : Int32) (v3 : Int32) (v5 : Int32) (t0 : Int32) : MM ((Int32 × Int32) ⊕ Int32) :=
  ml (v5 + (1 : Int32)) fun x17 =>
  mp (.inl (t0, x17))
noncomputable def Main_bounds_63_b (v0 : Nat) (v1 : Int32) (v3 : Int32) (v4 : Int32) (v5 : Int32) : MM ((Int32 × Int32) ⊕ Int32) :=
  mb (gR ZF 11 6 v0) fun x11 =>
  mb (gI ZF 2 2 x11) fun x12 =>
  if x12 ≤ v5 then
  mr (
  mp v4)
  else
  mb (gR ZF 11 6 v0) fun x13 =>
  mb (gR ZF 2 0 x13) fun x14 =>
  mb (aL ZF x14 v5) fun x15 =>
  mb ((Main_figureOf x15 v1)) fun r16 =>
  if v3 = 0 then
  Main_bounds_112 v0 v1 v3 v5 (if r16 < v4 then r16 else v4)
  else
  Main_bounds_112 v0 v1 v3 v5 (if v4 < r16 then r16 else v4)
noncomputable def Main_bounds_63 (v0 : Nat) (v1 : Int32) (v3 : Int32) (s : (Int32 × Int32)) : MM Int32 := lo (fun (s : (Int32 × Int32)) => Main_bounds_63_b v0 v1 v3 s.1 s.2) s
noncomputable def Main_bounds_33 (v0 : Nat) (v1 : Int32) (v2 : Int32) (v3 : Int32) : MM Int32 :=
  mb (gR ZF 11 6 v0) fun x4 =>
  mb (gR ZF 11 1 v0) fun x5 =>
  mb (vc ZF 2 x4 (Found_fill x4 x5 v2)) fun _ =>
  mb (gR ZF 11 6 v0) fun x6 =>
  mb (gR ZF 2 0 x6) fun x7 =>
  mb (aL ZF x7 (0 : Int32)) fun x8 =>
  mb ((Main_figureOf x8 v1)) fun r9 =>
  ml (1 : Int32) fun x10 =>
  Main_bounds_63 v0 v1 v3 (r9, x10)
noncomputable def Main_bounds (v0 : Nat) (v1 : Int32) (v2 : Int32) (v3 : Int32) : MM Int32 :=
  mb ((Main_isSector v1)) fun r1 =>
  if r1 = 0 then
  mp ((-101) : Int32)
  else
  mb (gR ZF 11 1 v0) fun x2 =>
  mb (vc ZF 6 x2 (Prog_hasBehind x2 v2)) fun r3 =>
  if r3 = 0 then
  mp ((-102) : Int32)
  else
  if v3 = 0 then
  Main_bounds_33 v0 v1 v2 v3
  else
  if v3 = (1 : Int32) then
  Main_bounds_33 v0 v1 v2 v3
  else
  mp ((-102) : Int32)
set_option maxRecDepth 20000 in
theorem sm_Main_bounds_112 {G : GT} {ad : Nat → Nat} {K : Int32 → Dm → Prop} (C : Cx G rm_Main_bounds cX10_bounds 7 RX10) (hV : Vx G rm_Main_bounds ad ZF (0, 0)) (hR : RtI G rm_Main_bounds ad ZF (0, 0) cX10_bounds .int K) (v0 : Nat) (v1 : Int32) (v3 : Int32) (v5 : Int32) (t0 : Int32) : Sm G rm_Main_bounds ad ZF (0, 0) (lpK G rm_Main_bounds ad ZF (0, 0) 63 (fun (s : (Int32 × Int32)) => [(0, .ref v0), (1, .int v1), (3, .int v3), (4, .int s.1), (5, .int s.2)]) K) 112 [(0, .ref v0), (1, .int v1), (3, .int v3), (5, .int v5)] [.int t0] (Main_bounds_112 v0 v1 v3 v5 t0) := by
  unfold Main_bounds_112
  refine s_istore C (L' := [(4, .int t0), (0, .ref v0), (1, .int v1), (3, .int v3), (5, .int v5)]) (by decide) rfl dX10_bounds_112 ?_
  refine s_iinc C (L' := fun x17 => [(5, .int x17), (4, .int t0), (0, .ref v0), (1, .int v1), (3, .int v3)]) (1 : Int32) (by decide) rfl (by decide) (fun _ => rfl) dX10_bounds_114 (fun x17 => ?_)
  refine s_goto C 63 (by decide) dX10_bounds_117 ?_
  exact s_back [0, 1, 3, 4, 5] (t0, x17) rfl
set_option maxRecDepth 20000 in
theorem sm_Main_bounds_63_b {G : GT} {ad : Nat → Nat} {K : Int32 → Dm → Prop} (C : Cx G rm_Main_bounds cX10_bounds 7 RX10) (hV : Vx G rm_Main_bounds ad ZF (0, 0)) (hR : RtI G rm_Main_bounds ad ZF (0, 0) cX10_bounds .int K) (v0 : Nat) (v1 : Int32) (v3 : Int32) (v4 : Int32) (v5 : Int32) : Sm G rm_Main_bounds ad ZF (0, 0) (lpK G rm_Main_bounds ad ZF (0, 0) 63 (fun (s : (Int32 × Int32)) => [(0, .ref v0), (1, .int v1), (3, .int v3), (4, .int s.1), (5, .int s.2)]) K) 63 [(0, .ref v0), (1, .int v1), (3, .int v3), (4, .int v4), (5, .int v5)] [] (Main_bounds_63_b v0 v1 v3 v4 v5) := by
  unfold Main_bounds_63_b
  refine s_iload C rfl dX10_bounds_63 ?_
  refine s_aload_n C rfl dX10_bounds_65 ?_
  refine s_getR C hV fl_X10_48 (fun _ _ _ => rfl) dX10_bounds_66 (fun x11 => ?_)
  refine s_getI C hV fl_X10_197 (fun _ _ _ => rfl) dX10_bounds_69 (fun x12 => ?_)
  refine s_icmp_ge C 120 (by decide) dX10_bounds_72 ?_ ?_
  · refine s_exit ?_
    refine s_iload C rfl dX10_bounds_120 ?_
    exact s_ireti hR dX10_bounds_122
  · refine s_aload_n C rfl dX10_bounds_75 ?_
    refine s_getR C hV fl_X10_48 (fun _ _ _ => rfl) dX10_bounds_76 (fun x13 => ?_)
    refine s_getR C hV fl_X10_200 (fun _ _ _ => rfl) dX10_bounds_79 (fun x14 => ?_)
    refine s_iload C rfl dX10_bounds_82 ?_
    refine s_laload C hV dX10_bounds_84 (fun x15 => ?_)
    refine s_iload_n C rfl dX10_bounds_85 ?_
    refine s_uI C hV ls_X10_82 (st := []) (met_Main_figureOf x15 v1) rf_Main_bounds_Main_figureOf rfl rfl (Nat.le_of_ble_eq_true rfl) dX10_bounds_86 (fun r16 => ?_)
    refine s_istore C (L' := [(6, .int r16), (0, .ref v0), (1, .int v1), (3, .int v3), (4, .int v4), (5, .int v5)]) (by decide) rfl dX10_bounds_89 ?_
    refine s_iload_n C rfl dX10_bounds_91 ?_
    refine s_if_ne C 105 (by decide) dX10_bounds_92 ?_ ?_
    · refine s_iload C rfl dX10_bounds_105 ?_
      refine s_iload C rfl dX10_bounds_107 ?_
      refine s_mmax C hV mm_X10_232 ⟨Nat.le_of_ble_eq_true rfl, Nat.le_of_ble_eq_true rfl⟩ dX10_bounds_109 ?_
      exact s_weak [0, 1, 3, 5] rfl (sm_Main_bounds_112 C hV hR v0 v1 v3 v5 (if v4 < r16 then r16 else v4))
    · refine s_iload C rfl dX10_bounds_95 ?_
      refine s_iload C rfl dX10_bounds_97 ?_
      refine s_mmin C hV mm_X10_227 ⟨Nat.le_of_ble_eq_true rfl, Nat.le_of_ble_eq_true rfl⟩ dX10_bounds_99 ?_
      refine s_goto C 112 (by decide) dX10_bounds_102 ?_
      exact s_weak [0, 1, 3, 5] rfl (sm_Main_bounds_112 C hV hR v0 v1 v3 v5 (if r16 < v4 then r16 else v4))
set_option maxRecDepth 20000 in
theorem sm_Main_bounds_63 {G : GT} {ad : Nat → Nat} {K : Int32 → Dm → Prop} (C : Cx G rm_Main_bounds cX10_bounds 7 RX10) (hV : Vx G rm_Main_bounds ad ZF (0, 0)) (hR : RtI G rm_Main_bounds ad ZF (0, 0) cX10_bounds .int K) (v0 : Nat) (v1 : Int32) (v3 : Int32) (s : (Int32 × Int32)) : Sm G rm_Main_bounds ad ZF (0, 0) K 63 ((fun (s : (Int32 × Int32)) => [(0, .ref v0), (1, .int v1), (3, .int v3), (4, .int s.1), (5, .int s.2)]) s) [] (Main_bounds_63 v0 v1 v3 s) :=
  s_loop (en := (fun (s : (Int32 × Int32)) => [(0, .ref v0), (1, .int v1), (3, .int v3), (4, .int s.1), (5, .int s.2)])) (fun s => sm_Main_bounds_63_b C hV hR v0 v1 v3 s.1 s.2) s
set_option maxRecDepth 20000 in
theorem sm_Main_bounds_33 {G : GT} {ad : Nat → Nat} {K : Int32 → Dm → Prop} (C : Cx G rm_Main_bounds cX10_bounds 7 RX10) (hV : Vx G rm_Main_bounds ad ZF (0, 0)) (hR : RtI G rm_Main_bounds ad ZF (0, 0) cX10_bounds .int K) (v0 : Nat) (v1 : Int32) (v2 : Int32) (v3 : Int32) : Sm G rm_Main_bounds ad ZF (0, 0) K 33 [(0, .ref v0), (1, .int v1), (2, .int v2), (3, .int v3)] [] (Main_bounds_33 v0 v1 v2 v3) := by
  unfold Main_bounds_33
  refine s_aload_n C rfl dX10_bounds_33 ?_
  refine s_getR C hV fl_X10_48 (fun _ _ _ => rfl) dX10_bounds_34 (fun x4 => ?_)
  refine s_aload_n C rfl dX10_bounds_37 ?_
  refine s_getR C hV fl_X10_20 (fun _ _ _ => rfl) dX10_bounds_38 (fun x5 => ?_)
  refine s_iload_n C rfl dX10_bounds_41 ?_
  refine s_wV C hV lv_X10_193 (st := []) (met_Found_fill x4 x5 v2) rf_Main_bounds_Found_fill rfl rfl (Nat.le_of_ble_eq_true rfl) dX10_bounds_42 ?_
  refine s_aload_n C rfl dX10_bounds_45 ?_
  refine s_getR C hV fl_X10_48 (fun _ _ _ => rfl) dX10_bounds_46 (fun x6 => ?_)
  refine s_getR C hV fl_X10_200 (fun _ _ _ => rfl) dX10_bounds_49 (fun x7 => ?_)
  refine s_iconst C (0 : Int32) (by decide) dX10_bounds_52 ?_
  refine s_laload C hV dX10_bounds_53 (fun x8 => ?_)
  refine s_iload_n C rfl dX10_bounds_54 ?_
  refine s_uI C hV ls_X10_82 (st := []) (met_Main_figureOf x8 v1) rf_Main_bounds_Main_figureOf rfl rfl (Nat.le_of_ble_eq_true rfl) dX10_bounds_55 (fun r9 => ?_)
  refine s_istore C (L' := [(4, .int r9), (0, .ref v0), (1, .int v1), (2, .int v2), (3, .int v3)]) (by decide) rfl dX10_bounds_58 ?_
  refine s_iconst C (1 : Int32) (by decide) dX10_bounds_60 ?_
  refine s_leti (fun x10 => ?_)
  refine s_istore C (L' := [(5, .int x10), (4, .int r9), (0, .ref v0), (1, .int v1), (2, .int v2), (3, .int v3)]) (by decide) rfl dX10_bounds_61 ?_
  exact s_weak [0, 1, 3, 4, 5] rfl (sm_Main_bounds_63 C hV hR v0 v1 v3 (r9, x10))
set_option maxRecDepth 20000 in
theorem sm_Main_bounds {G : GT} {ad : Nat → Nat} {K : Int32 → Dm → Prop} (C : Cx G rm_Main_bounds cX10_bounds 7 RX10) (hV : Vx G rm_Main_bounds ad ZF (0, 0)) (hR : RtI G rm_Main_bounds ad ZF (0, 0) cX10_bounds .int K) (v0 : Nat) (v1 : Int32) (v2 : Int32) (v3 : Int32) : Sm G rm_Main_bounds ad ZF (0, 0) K 0 [(0, .ref v0), (1, .int v1), (2, .int v2), (3, .int v3)] [] (Main_bounds v0 v1 v2 v3) := by
  unfold Main_bounds
  refine s_iload_n C rfl dX10_bounds_0 ?_
  refine s_uI C hV ls_X10_69 (st := []) (met_Main_isSector v1) rf_Main_bounds_Main_isSector rfl rfl (Nat.le_of_ble_eq_true rfl) dX10_bounds_1 (fun r1 => ?_)
  refine s_if_ne C 10 (by decide) dX10_bounds_4 ?_ ?_
  · refine s_aload_n C rfl dX10_bounds_10 ?_
    refine s_getR C hV fl_X10_20 (fun _ _ _ => rfl) dX10_bounds_11 (fun x2 => ?_)
    refine s_iload_n C rfl dX10_bounds_14 ?_
    refine s_wI C hV lv_X10_190 (st := []) (met_Prog_hasBehind x2 v2) rf_Main_bounds_Prog_hasBehind rfl rfl (Nat.le_of_ble_eq_true rfl) dX10_bounds_15 (fun r3 => ?_)
    refine s_if_eq C 30 (by decide) dX10_bounds_18 ?_ ?_
    · refine s_bipush C ((-102) : Int32) (by decide) dX10_bounds_30 ?_
      exact s_ireti hR dX10_bounds_32
    · refine s_iload_n C rfl dX10_bounds_21 ?_
      refine s_if_eq C 33 (by decide) dX10_bounds_22 ?_ ?_
      · exact s_weak [0, 1, 2, 3] rfl (sm_Main_bounds_33 C hV hR v0 v1 v2 v3)
      · refine s_iload_n C rfl dX10_bounds_25 ?_
        refine s_iconst C (1 : Int32) (by decide) dX10_bounds_26 ?_
        refine s_icmp_eq C 33 (by decide) dX10_bounds_27 ?_ ?_
        · exact s_weak [0, 1, 2, 3] rfl (sm_Main_bounds_33 C hV hR v0 v1 v2 v3)
        · refine s_bipush C ((-102) : Int32) (by decide) dX10_bounds_30 ?_
          exact s_ireti hR dX10_bounds_32
  · refine s_bipush C ((-101) : Int32) (by decide) dX10_bounds_7 ?_
    exact s_ireti hR dX10_bounds_9
set_option maxRecDepth 20000 in
theorem met_Main_bounds (v0 : Nat) (v1 : Int32) (v2 : Int32) (v3 : Int32) : MI ZF yX10_bounds cX10_bounds 7 .int rm_Main_bounds [.ref v0, .int v1, .int v2, .int v3] (Main_bounds v0 v1 v2 v3) :=
  mi_of (L0 := [(0, .ref v0), (1, .int v1), (2, .int v2), (3, .int v3)]) (by decide +kernel) (Nat.le_of_ble_eq_true rfl) rfl (fun G ad K C hV hR => sm_Main_bounds C hV hR v0 v1 v2 v3)

noncomputable def Main_safe (v0 : Nat) : MM Int32 :=
  mb (gR ZF 11 0 v0) fun x1 =>
  mb (gR ZF 11 1 v0) fun x2 =>
  mb (vc ZF 6 x2 (Prog_writes x2)) fun r3 =>
  mb (vc ZF 10 x1 (Verd_firstBroken x1 r3)) fun r4 =>
  if r4 = ((-1) : Int32) then
  mp (1 : Int32)
  else
  mp (0 : Int32)
set_option maxRecDepth 20000 in
theorem sm_Main_safe {G : GT} {ad : Nat → Nat} {K : Int32 → Dm → Prop} (C : Cx G rm_Main_safe cX10_safe 1 RX10) (hV : Vx G rm_Main_safe ad ZF (0, 0)) (hR : RtI G rm_Main_safe ad ZF (0, 0) cX10_safe .int K) (v0 : Nat) : Sm G rm_Main_safe ad ZF (0, 0) K 0 [(0, .ref v0)] [] (Main_safe v0) := by
  unfold Main_safe
  refine s_aload_n C rfl dX10_safe_0 ?_
  refine s_getR C hV fl_X10_12 (fun _ _ _ => rfl) dX10_safe_1 (fun x1 => ?_)
  refine s_aload_n C rfl dX10_safe_4 ?_
  refine s_getR C hV fl_X10_20 (fun _ _ _ => rfl) dX10_safe_5 (fun x2 => ?_)
  refine s_wI C hV lv_X10_120 (st := [.ref x1]) (met_Prog_writes x2) rf_Main_safe_Prog_writes rfl rfl (Nat.le_of_ble_eq_true rfl) dX10_safe_8 (fun r3 => ?_)
  refine s_wI C hV lv_X10_235 (st := []) (met_Verd_firstBroken x1 r3) rf_Main_safe_Verd_firstBroken rfl rfl (Nat.le_of_ble_eq_true rfl) dX10_safe_11 (fun r4 => ?_)
  refine s_iconst C ((-1) : Int32) (by decide) dX10_safe_14 ?_
  refine s_icmp_ne C 22 (by decide) dX10_safe_15 ?_ ?_
  · refine s_iconst C (0 : Int32) (by decide) dX10_safe_22 ?_
    exact s_ireti hR dX10_safe_23
  · refine s_iconst C (1 : Int32) (by decide) dX10_safe_18 ?_
    refine s_goto C 23 (by decide) dX10_safe_19 ?_
    exact s_ireti hR dX10_safe_23
set_option maxRecDepth 20000 in
theorem met_Main_safe (v0 : Nat) : MI ZF yX10_safe cX10_safe 1 .int rm_Main_safe [.ref v0] (Main_safe v0) :=
  mi_of (L0 := [(0, .ref v0)]) (by decide +kernel) (Nat.le_of_ble_eq_true rfl) rfl (fun G ad K C hV hR => sm_Main_safe C hV hR v0)

noncomputable def Main_leastBroken_18_b (v0 : Nat) (v2 : Int32) (v3 : Int32) : MM (Int32 ⊕ Int32) :=
  mb (gR ZF 11 6 v0) fun x6 =>
  mb (gI ZF 2 2 x6) fun x7 =>
  if (x7 - (1 : Int32)) ≤ v3 then
  mr (
  mp v3)
  else
  mb (gR ZF 11 0 v0) fun x8 =>
  mb (gR ZF 11 6 v0) fun x9 =>
  mb (gR ZF 2 1 x9) fun x10 =>
  mb (aI ZF 23 x10 v3) fun x11 =>
  mb (vc ZF 10 x8 (Verd_of x8 x11)) fun r12 =>
  if (r12 &&& v2) = 0 then
  ml (v3 + (1 : Int32)) fun x13 =>
  mp (.inl x13)
  else
  mr (
  mp v3)
noncomputable def Main_leastBroken_18 (v0 : Nat) (v2 : Int32) (s : Int32) : MM Int32 := lo (fun (s : Int32) => Main_leastBroken_18_b v0 v2 s) s
noncomputable def Main_leastBroken (v0 : Nat) (v1 : Int32) : MM Int32 :=
  mb (gR ZF 11 1 v0) fun x1 =>
  mb (gR ZF 11 2 v0) fun x2 =>
  mb (gI ZF 8 2 x2) fun x3 =>
  mb (vc ZF 6 x1 (Prog_dueAt x1 v1 x3)) fun r4 =>
  ml (0 : Int32) fun x5 =>
  Main_leastBroken_18 v0 r4 x5
set_option maxRecDepth 20000 in
theorem sm_Main_leastBroken_18_b {G : GT} {ad : Nat → Nat} {K : Int32 → Dm → Prop} (C : Cx G rm_Main_leastBroken cX10_leastBroken 4 RX10) (hV : Vx G rm_Main_leastBroken ad ZF (0, 0)) (hR : RtI G rm_Main_leastBroken ad ZF (0, 0) cX10_leastBroken .int K) (v0 : Nat) (v2 : Int32) (v3 : Int32) : Sm G rm_Main_leastBroken ad ZF (0, 0) (lpK G rm_Main_leastBroken ad ZF (0, 0) 18 (fun (s : Int32) => [(0, .ref v0), (2, .int v2), (3, .int s)]) K) 18 [(0, .ref v0), (2, .int v2), (3, .int v3)] [] (Main_leastBroken_18_b v0 v2 v3) := by
  unfold Main_leastBroken_18_b
  refine s_iload_n C rfl dX10_leastBroken_18 ?_
  refine s_aload_n C rfl dX10_leastBroken_19 ?_
  refine s_getR C hV fl_X10_48 (fun _ _ _ => rfl) dX10_leastBroken_20 (fun x6 => ?_)
  refine s_getI C hV fl_X10_197 (fun _ _ _ => rfl) dX10_leastBroken_23 (fun x7 => ?_)
  refine s_iconst C (1 : Int32) (by decide) dX10_leastBroken_26 ?_
  refine s_isub C dX10_leastBroken_27 ?_
  refine s_icmp_ge C 58 (by decide) dX10_leastBroken_28 ?_ ?_
  · refine s_exit ?_
    refine s_iload_n C rfl dX10_leastBroken_58 ?_
    exact s_ireti hR dX10_leastBroken_59
  · refine s_aload_n C rfl dX10_leastBroken_31 ?_
    refine s_getR C hV fl_X10_12 (fun _ _ _ => rfl) dX10_leastBroken_32 (fun x8 => ?_)
    refine s_aload_n C rfl dX10_leastBroken_35 ?_
    refine s_getR C hV fl_X10_48 (fun _ _ _ => rfl) dX10_leastBroken_36 (fun x9 => ?_)
    refine s_getR C hV fl_X10_216 (fun _ _ _ => rfl) dX10_leastBroken_39 (fun x10 => ?_)
    refine s_iload_n C rfl dX10_leastBroken_42 ?_
    refine s_iaload C hV dX10_leastBroken_43 (fun x11 => ?_)
    refine s_wI C hV lv_X10_220 (st := []) (met_Verd_of x8 x11) rf_Main_leastBroken_Verd_of rfl rfl (Nat.le_of_ble_eq_true rfl) dX10_leastBroken_44 (fun r12 => ?_)
    refine s_iload_n C rfl dX10_leastBroken_47 ?_
    refine s_iand C dX10_leastBroken_48 ?_
    refine s_if_ne C 58 (by decide) dX10_leastBroken_49 ?_ ?_
    · refine s_exit ?_
      refine s_iload_n C rfl dX10_leastBroken_58 ?_
      exact s_ireti hR dX10_leastBroken_59
    · refine s_iinc C (L' := fun x13 => [(3, .int x13), (0, .ref v0), (2, .int v2)]) (1 : Int32) (by decide) rfl (by decide) (fun _ => rfl) dX10_leastBroken_52 (fun x13 => ?_)
      refine s_goto C 18 (by decide) dX10_leastBroken_55 ?_
      exact s_back [0, 2, 3] x13 rfl
set_option maxRecDepth 20000 in
theorem sm_Main_leastBroken_18 {G : GT} {ad : Nat → Nat} {K : Int32 → Dm → Prop} (C : Cx G rm_Main_leastBroken cX10_leastBroken 4 RX10) (hV : Vx G rm_Main_leastBroken ad ZF (0, 0)) (hR : RtI G rm_Main_leastBroken ad ZF (0, 0) cX10_leastBroken .int K) (v0 : Nat) (v2 : Int32) (s : Int32) : Sm G rm_Main_leastBroken ad ZF (0, 0) K 18 ((fun (s : Int32) => [(0, .ref v0), (2, .int v2), (3, .int s)]) s) [] (Main_leastBroken_18 v0 v2 s) :=
  s_loop (en := (fun (s : Int32) => [(0, .ref v0), (2, .int v2), (3, .int s)])) (fun s => sm_Main_leastBroken_18_b C hV hR v0 v2 s) s
set_option maxRecDepth 20000 in
theorem sm_Main_leastBroken {G : GT} {ad : Nat → Nat} {K : Int32 → Dm → Prop} (C : Cx G rm_Main_leastBroken cX10_leastBroken 4 RX10) (hV : Vx G rm_Main_leastBroken ad ZF (0, 0)) (hR : RtI G rm_Main_leastBroken ad ZF (0, 0) cX10_leastBroken .int K) (v0 : Nat) (v1 : Int32) : Sm G rm_Main_leastBroken ad ZF (0, 0) K 0 [(0, .ref v0), (1, .int v1)] [] (Main_leastBroken v0 v1) := by
  unfold Main_leastBroken
  refine s_aload_n C rfl dX10_leastBroken_0 ?_
  refine s_getR C hV fl_X10_20 (fun _ _ _ => rfl) dX10_leastBroken_1 (fun x1 => ?_)
  refine s_iload_n C rfl dX10_leastBroken_4 ?_
  refine s_aload_n C rfl dX10_leastBroken_5 ?_
  refine s_getR C hV fl_X10_25 (fun _ _ _ => rfl) dX10_leastBroken_6 (fun x2 => ?_)
  refine s_getI C hV fl_X10_177 (fun _ _ _ => rfl) dX10_leastBroken_9 (fun x3 => ?_)
  refine s_wI C hV lv_X10_223 (st := []) (met_Prog_dueAt x1 v1 x3) rf_Main_leastBroken_Prog_dueAt rfl rfl (Nat.le_of_ble_eq_true rfl) dX10_leastBroken_12 (fun r4 => ?_)
  refine s_istore_n C (L' := [(2, .int r4), (0, .ref v0), (1, .int v1)]) (by decide) rfl dX10_leastBroken_15 ?_
  refine s_iconst C (0 : Int32) (by decide) dX10_leastBroken_16 ?_
  refine s_leti (fun x5 => ?_)
  refine s_istore_n C (L' := [(3, .int x5), (2, .int r4), (0, .ref v0), (1, .int v1)]) (by decide) rfl dX10_leastBroken_17 ?_
  exact s_weak [0, 2, 3] rfl (sm_Main_leastBroken_18 C hV hR v0 r4 x5)
set_option maxRecDepth 20000 in
theorem met_Main_leastBroken (v0 : Nat) (v1 : Int32) : MI ZF yX10_leastBroken cX10_leastBroken 4 .int rm_Main_leastBroken [.ref v0, .int v1] (Main_leastBroken v0 v1) :=
  mi_of (L0 := [(0, .ref v0), (1, .int v1)]) (by decide +kernel) (Nat.le_of_ble_eq_true rfl) rfl (fun G ad K C hV hR => sm_Main_leastBroken C hV hR v0 v1)

noncomputable def Main_shortest_37 (v2 : Int32) : MM Int64 :=
  mp (v2.toInt64)
noncomputable def Main_shortest_107 (t0 : Int64) : MM Int64 :=
  mb ((Main_numberOf t0)) fun r13 =>
  mp r13
noncomputable def Main_shortest (v0 : Nat) (v1 : Int32) : MM Int64 :=
  if v1 < 0 then
  mp ((-2) : Int64)
  else
  if v1 ≤ (3 : Int32) then
  mb (gR ZF 11 0 v0) fun x1 =>
  mb (gR ZF 11 1 v0) fun x2 =>
  mb (vc ZF 6 x2 (Prog_writes x2)) fun r3 =>
  mb (vc ZF 10 x1 (Verd_firstBroken x1 r3)) fun r4 =>
  if r4 = ((-1) : Int32) then
  Main_shortest_37 r4
  else
  if v1 = 0 then
  Main_shortest_37 r4
  else
  mb (gR ZF 11 6 v0) fun x5 =>
  mb (gR ZF 11 1 v0) fun x6 =>
  mb (vc ZF 2 x5 (Found_fill x5 x6 r4)) fun _ =>
  mb (vc ZF 11 v0 (Main_leastBroken v0 r4)) fun r7 =>
  if v1 = (2 : Int32) then
  mb (gR ZF 11 6 v0) fun x17 =>
  mb (gR ZF 2 1 x17) fun x18 =>
  mb (aI ZF 23 x18 r7) fun x19 =>
  mp (x19.toInt64)
  else
  if v1 = (1 : Int32) then
  mb (gR ZF 11 6 v0) fun x14 =>
  mb (gR ZF 2 0 x14) fun x15 =>
  mb (aL ZF x15 r7) fun x16 =>
  Main_shortest_107 x16
  else
  mb (gR ZF 11 3 v0) fun x8 =>
  mb (gR ZF 11 6 v0) fun x9 =>
  mb (gR ZF 2 0 x9) fun x10 =>
  mb (aL ZF x10 r7) fun x11 =>
  mb (vc ZF 3 x8 (Heal_healed x8 x11)) fun r12 =>
  Main_shortest_107 r12
  else
  mp ((-2) : Int64)
set_option maxRecDepth 20000 in
theorem sm_Main_shortest_37 {G : GT} {ad : Nat → Nat} {K : Int64 → Dm → Prop} (C : Cx G rm_Main_shortest cX10_shortest 4 RX10) (hV : Vx G rm_Main_shortest ad ZF (0, 0)) (hR : RtL G rm_Main_shortest ad ZF (0, 0) cX10_shortest K) (v2 : Int32) : Sm G rm_Main_shortest ad ZF (0, 0) K 37 [(2, .int v2)] [] (Main_shortest_37 v2) := by
  unfold Main_shortest_37
  refine s_iload_n C rfl dX10_shortest_37 ?_
  refine s_i2l C dX10_shortest_38 ?_
  exact s_lret hR dX10_shortest_39
set_option maxRecDepth 20000 in
theorem sm_Main_shortest_107 {G : GT} {ad : Nat → Nat} {K : Int64 → Dm → Prop} (C : Cx G rm_Main_shortest cX10_shortest 4 RX10) (hV : Vx G rm_Main_shortest ad ZF (0, 0)) (hR : RtL G rm_Main_shortest ad ZF (0, 0) cX10_shortest K) (t0 : Int64) : Sm G rm_Main_shortest ad ZF (0, 0) K 107 [] [.long t0] (Main_shortest_107 t0) := by
  unfold Main_shortest_107
  refine s_uL C hV ls_X10_128 (st := []) (met_Main_numberOf t0) rf_Main_shortest_Main_numberOf rfl rfl (Nat.le_of_ble_eq_true rfl) dX10_shortest_107 (fun r13 => ?_)
  exact s_lret hR dX10_shortest_110
set_option maxRecDepth 20000 in
theorem sm_Main_shortest {G : GT} {ad : Nat → Nat} {K : Int64 → Dm → Prop} (C : Cx G rm_Main_shortest cX10_shortest 4 RX10) (hV : Vx G rm_Main_shortest ad ZF (0, 0)) (hR : RtL G rm_Main_shortest ad ZF (0, 0) cX10_shortest K) (v0 : Nat) (v1 : Int32) : Sm G rm_Main_shortest ad ZF (0, 0) K 0 [(0, .ref v0), (1, .int v1)] [] (Main_shortest v0 v1) := by
  unfold Main_shortest
  refine s_iload_n C rfl dX10_shortest_0 ?_
  refine s_if_lt C 9 (by decide) dX10_shortest_1 ?_ ?_
  · refine s_ldc2 C kl_X10_198 dX10_shortest_9 ?_
    exact s_lret hR dX10_shortest_12
  · refine s_iload_n C rfl dX10_shortest_4 ?_
    refine s_iconst C (3 : Int32) (by decide) dX10_shortest_5 ?_
    refine s_icmp_le C 13 (by decide) dX10_shortest_6 ?_ ?_
    · refine s_aload_n C rfl dX10_shortest_13 ?_
      refine s_getR C hV fl_X10_12 (fun _ _ _ => rfl) dX10_shortest_14 (fun x1 => ?_)
      refine s_aload_n C rfl dX10_shortest_17 ?_
      refine s_getR C hV fl_X10_20 (fun _ _ _ => rfl) dX10_shortest_18 (fun x2 => ?_)
      refine s_wI C hV lv_X10_120 (st := [.ref x1]) (met_Prog_writes x2) rf_Main_shortest_Prog_writes rfl rfl (Nat.le_of_ble_eq_true rfl) dX10_shortest_21 (fun r3 => ?_)
      refine s_wI C hV lv_X10_235 (st := []) (met_Verd_firstBroken x1 r3) rf_Main_shortest_Verd_firstBroken rfl rfl (Nat.le_of_ble_eq_true rfl) dX10_shortest_24 (fun r4 => ?_)
      refine s_istore_n C (L' := [(2, .int r4), (0, .ref v0), (1, .int v1)]) (by decide) rfl dX10_shortest_27 ?_
      refine s_iload_n C rfl dX10_shortest_28 ?_
      refine s_iconst C ((-1) : Int32) (by decide) dX10_shortest_29 ?_
      refine s_icmp_eq C 37 (by decide) dX10_shortest_30 ?_ ?_
      · exact s_weak [2] rfl (sm_Main_shortest_37 C hV hR r4)
      · refine s_iload_n C rfl dX10_shortest_33 ?_
        refine s_if_ne C 40 (by decide) dX10_shortest_34 ?_ ?_
        · refine s_aload_n C rfl dX10_shortest_40 ?_
          refine s_getR C hV fl_X10_48 (fun _ _ _ => rfl) dX10_shortest_41 (fun x5 => ?_)
          refine s_aload_n C rfl dX10_shortest_44 ?_
          refine s_getR C hV fl_X10_20 (fun _ _ _ => rfl) dX10_shortest_45 (fun x6 => ?_)
          refine s_iload_n C rfl dX10_shortest_48 ?_
          refine s_wV C hV lv_X10_193 (st := []) (met_Found_fill x5 x6 r4) rf_Main_shortest_Found_fill rfl rfl (Nat.le_of_ble_eq_true rfl) dX10_shortest_49 ?_
          refine s_aload_n C rfl dX10_shortest_52 ?_
          refine s_iload_n C rfl dX10_shortest_53 ?_
          refine s_wI C hV lv_X10_238 (st := []) (met_Main_leastBroken v0 r4) rf_Main_shortest_Main_leastBroken rfl rfl (Nat.le_of_ble_eq_true rfl) dX10_shortest_54 (fun r7 => ?_)
          refine s_istore_n C (L' := [(3, .int r7), (2, .int r4), (0, .ref v0), (1, .int v1)]) (by decide) rfl dX10_shortest_57 ?_
          refine s_iload_n C rfl dX10_shortest_58 ?_
          refine s_iconst C (2 : Int32) (by decide) dX10_shortest_59 ?_
          refine s_icmp_ne C 74 (by decide) dX10_shortest_60 ?_ ?_
          · refine s_iload_n C rfl dX10_shortest_74 ?_
            refine s_iconst C (1 : Int32) (by decide) dX10_shortest_75 ?_
            refine s_icmp_ne C 91 (by decide) dX10_shortest_76 ?_ ?_
            · refine s_aload_n C rfl dX10_shortest_91 ?_
              refine s_getR C hV fl_X10_30 (fun _ _ _ => rfl) dX10_shortest_92 (fun x8 => ?_)
              refine s_aload_n C rfl dX10_shortest_95 ?_
              refine s_getR C hV fl_X10_48 (fun _ _ _ => rfl) dX10_shortest_96 (fun x9 => ?_)
              refine s_getR C hV fl_X10_200 (fun _ _ _ => rfl) dX10_shortest_99 (fun x10 => ?_)
              refine s_iload_n C rfl dX10_shortest_102 ?_
              refine s_laload C hV dX10_shortest_103 (fun x11 => ?_)
              refine s_wL C hV lv_X10_206 (st := []) (met_Heal_healed x8 x11) rf_Main_shortest_Heal_healed rfl rfl (Nat.le_of_ble_eq_true rfl) dX10_shortest_104 (fun r12 => ?_)
              exact s_weak [] rfl (sm_Main_shortest_107 C hV hR r12)
            · refine s_aload_n C rfl dX10_shortest_79 ?_
              refine s_getR C hV fl_X10_48 (fun _ _ _ => rfl) dX10_shortest_80 (fun x14 => ?_)
              refine s_getR C hV fl_X10_200 (fun _ _ _ => rfl) dX10_shortest_83 (fun x15 => ?_)
              refine s_iload_n C rfl dX10_shortest_86 ?_
              refine s_laload C hV dX10_shortest_87 (fun x16 => ?_)
              refine s_goto C 107 (by decide) dX10_shortest_88 ?_
              exact s_weak [] rfl (sm_Main_shortest_107 C hV hR x16)
          · refine s_aload_n C rfl dX10_shortest_63 ?_
            refine s_getR C hV fl_X10_48 (fun _ _ _ => rfl) dX10_shortest_64 (fun x17 => ?_)
            refine s_getR C hV fl_X10_216 (fun _ _ _ => rfl) dX10_shortest_67 (fun x18 => ?_)
            refine s_iload_n C rfl dX10_shortest_70 ?_
            refine s_iaload C hV dX10_shortest_71 (fun x19 => ?_)
            refine s_i2l C dX10_shortest_72 ?_
            exact s_lret hR dX10_shortest_73
        · exact s_weak [2] rfl (sm_Main_shortest_37 C hV hR r4)
    · refine s_ldc2 C kl_X10_198 dX10_shortest_9 ?_
      exact s_lret hR dX10_shortest_12
set_option maxRecDepth 20000 in
theorem met_Main_shortest (v0 : Nat) (v1 : Int32) : ML ZF yX10_shortest cX10_shortest 4 rm_Main_shortest [.ref v0, .int v1] (Main_shortest v0 v1) :=
  ml_of (L0 := [(0, .ref v0), (1, .int v1)]) (by decide +kernel) (Nat.le_of_ble_eq_true rfl) rfl (fun G ad K C hV hR => sm_Main_shortest C hV hR v0 v1)

noncomputable def Main_cost_50 (v0 : Nat) (v1 : Int32) (v2 : Int32) (t0 : Int32) : MM Int32 :=
  if v1 = 0 then
  mb (pI ZF 11 8 v0 v2) fun _ =>
  mp t0
  else
  mb (pI ZF 11 9 v0 v2) fun _ =>
  mp t0
noncomputable def Main_cost_29 (v0 : Nat) (v1 : Int32) (v2 : Int32) (t0 : Int32) (t1 : Int32) : MM Int32 :=
  if t0 ≤ t1 then
  if v1 = 0 then
  mb (gI ZF 11 8 v0) fun x2 =>
  Main_cost_50 v0 v1 v2 x2
  else
  mb (gI ZF 11 9 v0) fun x1 =>
  Main_cost_50 v0 v1 v2 x1
  else
  mp ((-102) : Int32)
noncomputable def Main_cost_12 (v0 : Nat) (v1 : Int32) (v2 : Int32) : MM Int32 :=
  if v2 < (1 : Int32) then
  mp ((-102) : Int32)
  else
  Main_cost_29 v0 v1 v2 v2 (if v1 = 0 then (9 : Int32) else (99 : Int32))
noncomputable def Main_cost (v0 : Nat) (v1 : Int32) (v2 : Int32) : MM Int32 :=
  if v1 = 0 then
  Main_cost_12 v0 v1 v2
  else
  if v1 = (1 : Int32) then
  Main_cost_12 v0 v1 v2
  else
  mp ((-101) : Int32)
set_option maxRecDepth 20000 in
theorem sm_Main_cost_50 {G : GT} {ad : Nat → Nat} {K : Int32 → Dm → Prop} (C : Cx G rm_Main_cost cX10_cost 4 RX10) (hV : Vx G rm_Main_cost ad ZF (0, 0)) (hR : RtI G rm_Main_cost ad ZF (0, 0) cX10_cost .int K) (v0 : Nat) (v1 : Int32) (v2 : Int32) (t0 : Int32) : Sm G rm_Main_cost ad ZF (0, 0) K 50 [(0, .ref v0), (1, .int v1), (2, .int v2)] [.int t0] (Main_cost_50 v0 v1 v2 t0) := by
  unfold Main_cost_50
  refine s_istore_n C (L' := [(3, .int t0), (0, .ref v0), (1, .int v1), (2, .int v2)]) (by decide) rfl dX10_cost_50 ?_
  refine s_iload_n C rfl dX10_cost_51 ?_
  refine s_if_ne C 63 (by decide) dX10_cost_52 ?_ ?_
  · refine s_aload_n C rfl dX10_cost_63 ?_
    refine s_iload_n C rfl dX10_cost_64 ?_
    refine s_putI C hV fw_X10_63 rfl dX10_cost_65 ?_
    refine s_iload_n C rfl dX10_cost_68 ?_
    exact s_ireti hR dX10_cost_69
  · refine s_aload_n C rfl dX10_cost_55 ?_
    refine s_iload_n C rfl dX10_cost_56 ?_
    refine s_putI C hV fw_X10_59 rfl dX10_cost_57 ?_
    refine s_goto C 68 (by decide) dX10_cost_60 ?_
    refine s_iload_n C rfl dX10_cost_68 ?_
    exact s_ireti hR dX10_cost_69
set_option maxRecDepth 20000 in
theorem sm_Main_cost_29 {G : GT} {ad : Nat → Nat} {K : Int32 → Dm → Prop} (C : Cx G rm_Main_cost cX10_cost 4 RX10) (hV : Vx G rm_Main_cost ad ZF (0, 0)) (hR : RtI G rm_Main_cost ad ZF (0, 0) cX10_cost .int K) (v0 : Nat) (v1 : Int32) (v2 : Int32) (t0 : Int32) (t1 : Int32) : Sm G rm_Main_cost ad ZF (0, 0) K 29 [(0, .ref v0), (1, .int v1), (2, .int v2)] [.int t1, .int t0] (Main_cost_29 v0 v1 v2 t0 t1) := by
  unfold Main_cost_29
  refine s_icmp_le C 35 (by decide) dX10_cost_29 ?_ ?_
  · refine s_iload_n C rfl dX10_cost_35 ?_
    refine s_if_ne C 46 (by decide) dX10_cost_36 ?_ ?_
    · refine s_aload_n C rfl dX10_cost_46 ?_
      refine s_getI C hV fl_X10_63 (fun _ _ _ => rfl) dX10_cost_47 (fun x1 => ?_)
      exact s_weak [0, 1, 2] rfl (sm_Main_cost_50 C hV hR v0 v1 v2 x1)
    · refine s_aload_n C rfl dX10_cost_39 ?_
      refine s_getI C hV fl_X10_59 (fun _ _ _ => rfl) dX10_cost_40 (fun x2 => ?_)
      refine s_goto C 50 (by decide) dX10_cost_43 ?_
      exact s_weak [0, 1, 2] rfl (sm_Main_cost_50 C hV hR v0 v1 v2 x2)
  · refine s_bipush C ((-102) : Int32) (by decide) dX10_cost_32 ?_
    exact s_ireti hR dX10_cost_34
set_option maxRecDepth 20000 in
theorem sm_Main_cost_12 {G : GT} {ad : Nat → Nat} {K : Int32 → Dm → Prop} (C : Cx G rm_Main_cost cX10_cost 4 RX10) (hV : Vx G rm_Main_cost ad ZF (0, 0)) (hR : RtI G rm_Main_cost ad ZF (0, 0) cX10_cost .int K) (v0 : Nat) (v1 : Int32) (v2 : Int32) : Sm G rm_Main_cost ad ZF (0, 0) K 12 [(0, .ref v0), (1, .int v1), (2, .int v2)] [] (Main_cost_12 v0 v1 v2) := by
  unfold Main_cost_12
  refine s_iload_n C rfl dX10_cost_12 ?_
  refine s_iconst C (1 : Int32) (by decide) dX10_cost_13 ?_
  refine s_icmp_lt C 32 (by decide) dX10_cost_14 ?_ ?_
  · refine s_bipush C ((-102) : Int32) (by decide) dX10_cost_32 ?_
    exact s_ireti hR dX10_cost_34
  · refine s_iload_n C rfl dX10_cost_17 ?_
    refine s_iload_n C rfl dX10_cost_18 ?_
    refine s_ite (g := fun z => Main_cost_29 v0 v1 v2 v2 z) ?_
    refine s_if_ne C 27 (by decide) dX10_cost_19 ?_ ?_
    · refine s_bipush C (99 : Int32) (by decide) dX10_cost_27 ?_
      exact s_weak [0, 1, 2] rfl (sm_Main_cost_29 C hV hR v0 v1 v2 v2 (99 : Int32))
    · refine s_bipush C (9 : Int32) (by decide) dX10_cost_22 ?_
      refine s_goto C 29 (by decide) dX10_cost_24 ?_
      exact s_weak [0, 1, 2] rfl (sm_Main_cost_29 C hV hR v0 v1 v2 v2 (9 : Int32))
set_option maxRecDepth 20000 in
theorem sm_Main_cost {G : GT} {ad : Nat → Nat} {K : Int32 → Dm → Prop} (C : Cx G rm_Main_cost cX10_cost 4 RX10) (hV : Vx G rm_Main_cost ad ZF (0, 0)) (hR : RtI G rm_Main_cost ad ZF (0, 0) cX10_cost .int K) (v0 : Nat) (v1 : Int32) (v2 : Int32) : Sm G rm_Main_cost ad ZF (0, 0) K 0 [(0, .ref v0), (1, .int v1), (2, .int v2)] [] (Main_cost v0 v1 v2) := by
  unfold Main_cost
  refine s_iload_n C rfl dX10_cost_0 ?_
  refine s_if_eq C 12 (by decide) dX10_cost_1 ?_ ?_
  · exact s_weak [0, 1, 2] rfl (sm_Main_cost_12 C hV hR v0 v1 v2)
  · refine s_iload_n C rfl dX10_cost_4 ?_
    refine s_iconst C (1 : Int32) (by decide) dX10_cost_5 ?_
    refine s_icmp_eq C 12 (by decide) dX10_cost_6 ?_ ?_
    · exact s_weak [0, 1, 2] rfl (sm_Main_cost_12 C hV hR v0 v1 v2)
    · refine s_bipush C ((-101) : Int32) (by decide) dX10_cost_9 ?_
      exact s_ireti hR dX10_cost_11
set_option maxRecDepth 20000 in
theorem met_Main_cost (v0 : Nat) (v1 : Int32) (v2 : Int32) : MI ZF yX10_cost cX10_cost 4 .int rm_Main_cost [.ref v0, .int v1, .int v2] (Main_cost v0 v1 v2) :=
  mi_of (L0 := [(0, .ref v0), (1, .int v1), (2, .int v2)]) (by decide +kernel) (Nat.le_of_ble_eq_true rfl) rfl (fun G ad K C hV hR => sm_Main_cost C hV hR v0 v1 v2)

noncomputable def Main_fewest_39 (v0 : Nat) (v1 : Int32) (v2 : Int32) (v3 : Int32) : MM Int32 :=
  mb (gR ZF 11 1 v0) fun x2 =>
  mb (gI ZF 6 1 x2) fun x3 =>
  if (8 : Int32) < x3 then
  mp ((-103) : Int32)
  else
  mb (gI ZF 11 10 v0) fun x4 =>
  if x4 < (12 : Int32) then
  mb (gI ZF 11 10 v0) fun x5 =>
  mb (pI ZF 11 10 v0 (x5 + (1 : Int32))) fun _ =>
  mb (gR ZF 11 7 v0) fun x6 =>
  mb (gR ZF 11 1 v0) fun x7 =>
  mb (gR ZF 11 0 v0) fun x8 =>
  mb (vc ZF 5 x6 (Plac_weigh x6 x7 x8)) fun _ =>
  mb (gR ZF 11 7 v0) fun x9 =>
  mb (gR ZF 11 1 v0) fun x10 =>
  mb (gR ZF 11 2 v0) fun x11 =>
  mb (gI ZF 8 2 x11) fun x12 =>
  mb (gI ZF 11 8 v0) fun x13 =>
  mb (gI ZF 11 9 v0) fun x14 =>
  mb (vc ZF 5 x9 (Plac_search x9 x10 x12 x13 x14)) fun _ =>
  if v3 = 0 then
  if v1 = 0 then
  mb (gR ZF 11 7 v0) fun x17 =>
  mb (gI ZF 5 4 x17) fun x18 =>
  mp x18
  else
  mb (gR ZF 11 7 v0) fun x15 =>
  mb (gI ZF 5 5 x15) fun x16 =>
  mp x16
  else
  mb (gR ZF 11 7 v0) fun x19 =>
  mb (vc ZF 5 x19 (Plac_behind x19 v2)) fun r20 =>
  mp r20
  else
  mp ((-103) : Int32)
noncomputable def Main_fewest_22 (v0 : Nat) (v1 : Int32) (v2 : Int32) (t0 : Int32) : MM Int32 :=
  if v1 = 0 then
  Main_fewest_39 v0 v1 v2 t0
  else
  if v1 = (1 : Int32) then
  Main_fewest_39 v0 v1 v2 t0
  else
  if t0 = 0 then
  mp ((-102) : Int32)
  else
  Main_fewest_39 v0 v1 v2 t0
noncomputable def Main_fewest_21 (v0 : Nat) (v1 : Int32) (v2 : Int32) : MM Int32 :=
  Main_fewest_22 v0 v1 v2 (0 : Int32)
noncomputable def Main_fewest (v0 : Nat) (v1 : Int32) : MM Int32 :=
  ml (v1 - (10 : Int32)) fun x1 =>
  if v1 < (10 : Int32) then
  Main_fewest_21 v0 v1 x1
  else
  if (7 : Int32) ≤ x1 then
  Main_fewest_21 v0 v1 x1
  else
  Main_fewest_22 v0 v1 x1 (1 : Int32)
set_option maxRecDepth 20000 in
theorem sm_Main_fewest_39 {G : GT} {ad : Nat → Nat} {K : Int32 → Dm → Prop} (C : Cx G rm_Main_fewest cX10_fewest 4 RX10) (hV : Vx G rm_Main_fewest ad ZF (0, 0)) (hR : RtI G rm_Main_fewest ad ZF (0, 0) cX10_fewest .int K) (v0 : Nat) (v1 : Int32) (v2 : Int32) (v3 : Int32) : Sm G rm_Main_fewest ad ZF (0, 0) K 39 [(0, .ref v0), (1, .int v1), (2, .int v2), (3, .int v3)] [] (Main_fewest_39 v0 v1 v2 v3) := by
  unfold Main_fewest_39
  refine s_aload_n C rfl dX10_fewest_39 ?_
  refine s_getR C hV fl_X10_20 (fun _ _ _ => rfl) dX10_fewest_40 (fun x2 => ?_)
  refine s_getI C hV fl_X10_102 (fun _ _ _ => rfl) dX10_fewest_43 (fun x3 => ?_)
  refine s_bipush C (8 : Int32) (by decide) dX10_fewest_46 ?_
  refine s_icmp_gt C 60 (by decide) dX10_fewest_48 ?_ ?_
  · refine s_bipush C ((-103) : Int32) (by decide) dX10_fewest_60 ?_
    exact s_ireti hR dX10_fewest_62
  · refine s_aload_n C rfl dX10_fewest_51 ?_
    refine s_getI C hV fl_X10_66 (fun _ _ _ => rfl) dX10_fewest_52 (fun x4 => ?_)
    refine s_bipush C (12 : Int32) (by decide) dX10_fewest_55 ?_
    refine s_icmp_lt C 63 (by decide) dX10_fewest_57 ?_ ?_
    · refine s_aload_n C rfl dX10_fewest_63 ?_
      refine s_dupr C dX10_fewest_64 ?_
      refine s_getI C hV fl_X10_66 (fun _ _ _ => rfl) dX10_fewest_65 (fun x5 => ?_)
      refine s_iconst C (1 : Int32) (by decide) dX10_fewest_68 ?_
      refine s_iadd C dX10_fewest_69 ?_
      refine s_putI C hV fw_X10_66 rfl dX10_fewest_70 ?_
      refine s_aload_n C rfl dX10_fewest_73 ?_
      refine s_getR C hV fl_X10_55 (fun _ _ _ => rfl) dX10_fewest_74 (fun x6 => ?_)
      refine s_aload_n C rfl dX10_fewest_77 ?_
      refine s_getR C hV fl_X10_20 (fun _ _ _ => rfl) dX10_fewest_78 (fun x7 => ?_)
      refine s_aload_n C rfl dX10_fewest_81 ?_
      refine s_getR C hV fl_X10_12 (fun _ _ _ => rfl) dX10_fewest_82 (fun x8 => ?_)
      refine s_wV C hV lv_X10_241 (st := []) (met_Plac_weigh x6 x7 x8) rf_Main_fewest_Plac_weigh rfl rfl (Nat.le_of_ble_eq_true rfl) dX10_fewest_85 ?_
      refine s_aload_n C rfl dX10_fewest_88 ?_
      refine s_getR C hV fl_X10_55 (fun _ _ _ => rfl) dX10_fewest_89 (fun x9 => ?_)
      refine s_aload_n C rfl dX10_fewest_92 ?_
      refine s_getR C hV fl_X10_20 (fun _ _ _ => rfl) dX10_fewest_93 (fun x10 => ?_)
      refine s_aload_n C rfl dX10_fewest_96 ?_
      refine s_getR C hV fl_X10_25 (fun _ _ _ => rfl) dX10_fewest_97 (fun x11 => ?_)
      refine s_getI C hV fl_X10_177 (fun _ _ _ => rfl) dX10_fewest_100 (fun x12 => ?_)
      refine s_aload_n C rfl dX10_fewest_103 ?_
      refine s_getI C hV fl_X10_59 (fun _ _ _ => rfl) dX10_fewest_104 (fun x13 => ?_)
      refine s_aload_n C rfl dX10_fewest_107 ?_
      refine s_getI C hV fl_X10_63 (fun _ _ _ => rfl) dX10_fewest_108 (fun x14 => ?_)
      refine s_wV C hV lv_X10_245 (st := []) (met_Plac_search x9 x10 x12 x13 x14) rf_Main_fewest_Plac_search rfl rfl (Nat.le_of_ble_eq_true rfl) dX10_fewest_111 ?_
      refine s_iload_n C rfl dX10_fewest_114 ?_
      refine s_if_eq C 127 (by decide) dX10_fewest_115 ?_ ?_
      · refine s_iload_n C rfl dX10_fewest_127 ?_
        refine s_if_ne C 141 (by decide) dX10_fewest_128 ?_ ?_
        · refine s_aload_n C rfl dX10_fewest_141 ?_
          refine s_getR C hV fl_X10_55 (fun _ _ _ => rfl) dX10_fewest_142 (fun x15 => ?_)
          refine s_getI C hV fl_X10_255 (fun _ _ _ => rfl) dX10_fewest_145 (fun x16 => ?_)
          exact s_ireti hR dX10_fewest_148
        · refine s_aload_n C rfl dX10_fewest_131 ?_
          refine s_getR C hV fl_X10_55 (fun _ _ _ => rfl) dX10_fewest_132 (fun x17 => ?_)
          refine s_getI C hV fl_X10_252 (fun _ _ _ => rfl) dX10_fewest_135 (fun x18 => ?_)
          refine s_goto C 148 (by decide) dX10_fewest_138 ?_
          exact s_ireti hR dX10_fewest_148
      · refine s_aload_n C rfl dX10_fewest_118 ?_
        refine s_getR C hV fl_X10_55 (fun _ _ _ => rfl) dX10_fewest_119 (fun x19 => ?_)
        refine s_iload_n C rfl dX10_fewest_122 ?_
        refine s_wI C hV lv_X10_249 (st := []) (met_Plac_behind x19 v2) rf_Main_fewest_Plac_behind rfl rfl (Nat.le_of_ble_eq_true rfl) dX10_fewest_123 (fun r20 => ?_)
        exact s_ireti hR dX10_fewest_126
    · refine s_bipush C ((-103) : Int32) (by decide) dX10_fewest_60 ?_
      exact s_ireti hR dX10_fewest_62
set_option maxRecDepth 20000 in
theorem sm_Main_fewest_22 {G : GT} {ad : Nat → Nat} {K : Int32 → Dm → Prop} (C : Cx G rm_Main_fewest cX10_fewest 4 RX10) (hV : Vx G rm_Main_fewest ad ZF (0, 0)) (hR : RtI G rm_Main_fewest ad ZF (0, 0) cX10_fewest .int K) (v0 : Nat) (v1 : Int32) (v2 : Int32) (t0 : Int32) : Sm G rm_Main_fewest ad ZF (0, 0) K 22 [(0, .ref v0), (1, .int v1), (2, .int v2)] [.int t0] (Main_fewest_22 v0 v1 v2 t0) := by
  unfold Main_fewest_22
  refine s_istore_n C (L' := [(3, .int t0), (0, .ref v0), (1, .int v1), (2, .int v2)]) (by decide) rfl dX10_fewest_22 ?_
  refine s_iload_n C rfl dX10_fewest_23 ?_
  refine s_if_eq C 39 (by decide) dX10_fewest_24 ?_ ?_
  · exact s_weak [0, 1, 2, 3] rfl (sm_Main_fewest_39 C hV hR v0 v1 v2 t0)
  · refine s_iload_n C rfl dX10_fewest_27 ?_
    refine s_iconst C (1 : Int32) (by decide) dX10_fewest_28 ?_
    refine s_icmp_eq C 39 (by decide) dX10_fewest_29 ?_ ?_
    · exact s_weak [0, 1, 2, 3] rfl (sm_Main_fewest_39 C hV hR v0 v1 v2 t0)
    · refine s_iload_n C rfl dX10_fewest_32 ?_
      refine s_if_ne C 39 (by decide) dX10_fewest_33 ?_ ?_
      · exact s_weak [0, 1, 2, 3] rfl (sm_Main_fewest_39 C hV hR v0 v1 v2 t0)
      · refine s_bipush C ((-102) : Int32) (by decide) dX10_fewest_36 ?_
        exact s_ireti hR dX10_fewest_38
set_option maxRecDepth 20000 in
theorem sm_Main_fewest_21 {G : GT} {ad : Nat → Nat} {K : Int32 → Dm → Prop} (C : Cx G rm_Main_fewest cX10_fewest 4 RX10) (hV : Vx G rm_Main_fewest ad ZF (0, 0)) (hR : RtI G rm_Main_fewest ad ZF (0, 0) cX10_fewest .int K) (v0 : Nat) (v1 : Int32) (v2 : Int32) : Sm G rm_Main_fewest ad ZF (0, 0) K 21 [(0, .ref v0), (1, .int v1), (2, .int v2)] [] (Main_fewest_21 v0 v1 v2) := by
  unfold Main_fewest_21
  refine s_iconst C (0 : Int32) (by decide) dX10_fewest_21 ?_
  exact s_weak [0, 1, 2] rfl (sm_Main_fewest_22 C hV hR v0 v1 v2 (0 : Int32))
set_option maxRecDepth 20000 in
theorem sm_Main_fewest {G : GT} {ad : Nat → Nat} {K : Int32 → Dm → Prop} (C : Cx G rm_Main_fewest cX10_fewest 4 RX10) (hV : Vx G rm_Main_fewest ad ZF (0, 0)) (hR : RtI G rm_Main_fewest ad ZF (0, 0) cX10_fewest .int K) (v0 : Nat) (v1 : Int32) : Sm G rm_Main_fewest ad ZF (0, 0) K 0 [(0, .ref v0), (1, .int v1)] [] (Main_fewest v0 v1) := by
  unfold Main_fewest
  refine s_iload_n C rfl dX10_fewest_0 ?_
  refine s_bipush C (10 : Int32) (by decide) dX10_fewest_1 ?_
  refine s_isub C dX10_fewest_3 ?_
  refine s_leti (fun x1 => ?_)
  refine s_istore_n C (L' := [(2, .int x1), (0, .ref v0), (1, .int v1)]) (by decide) rfl dX10_fewest_4 ?_
  refine s_iload_n C rfl dX10_fewest_5 ?_
  refine s_bipush C (10 : Int32) (by decide) dX10_fewest_6 ?_
  refine s_icmp_lt C 21 (by decide) dX10_fewest_8 ?_ ?_
  · exact s_weak [0, 1, 2] rfl (sm_Main_fewest_21 C hV hR v0 v1 x1)
  · refine s_iload_n C rfl dX10_fewest_11 ?_
    refine s_bipush C (7 : Int32) (by decide) dX10_fewest_12 ?_
    refine s_icmp_ge C 21 (by decide) dX10_fewest_14 ?_ ?_
    · exact s_weak [0, 1, 2] rfl (sm_Main_fewest_21 C hV hR v0 v1 x1)
    · refine s_iconst C (1 : Int32) (by decide) dX10_fewest_17 ?_
      refine s_goto C 22 (by decide) dX10_fewest_18 ?_
      exact s_weak [0, 1, 2] rfl (sm_Main_fewest_22 C hV hR v0 v1 x1 (1 : Int32))
set_option maxRecDepth 20000 in
theorem met_Main_fewest (v0 : Nat) (v1 : Int32) : MI ZF yX10_fewest cX10_fewest 4 .int rm_Main_fewest [.ref v0, .int v1] (Main_fewest v0 v1) :=
  mi_of (L0 := [(0, .ref v0), (1, .int v1)]) (by decide +kernel) (Nat.le_of_ble_eq_true rfl) rfl (fun G ad K C hV hR => sm_Main_fewest C hV hR v0 v1)

noncomputable def Main_needless_90 (v0 : Nat) (v1 : Int32) (v2 : Int64) (v4 : Int32) (v5 : Int32) : MM ((Int32 × Int32) ⊕ Int32) :=
  ml (v5 + (1 : Int32)) fun x11 =>
  mp (.inl (v4, x11))
noncomputable def Main_needless_23_b (v0 : Nat) (v1 : Int32) (v2 : Int64) (v4 : Int32) (v5 : Int32) : MM ((Int32 × Int32) ⊕ Int32) :=
  mb (gR ZF 11 1 v0) fun x7 =>
  mb (gI ZF 6 1 x7) fun x8 =>
  if x8 ≤ v5 then
  mr (
  mp v4)
  else
  ml (v1 &&& ((1 : Int32) <<< (v5 &&& 31))) fun x9 =>
  ml (v1 &&& (x9 ^^^ ((-1) : Int32))) fun x10 =>
  if x9 = 0 then
  Main_needless_90 v0 v1 v2 v4 v5
  else
  mb (gR ZF 11 1 v0) fun x12 =>
  mb (vc ZF 6 x12 (Prog_plateOf x12 x10)) fun r13 =>
  if r13 = v2 then
  mb (gR ZF 11 0 v0) fun x14 =>
  mb (vc ZF 10 x14 (Verd_firstBroken x14 x10)) fun r15 =>
  if r15 = ((-1) : Int32) then
  ml (v4 ||| x9) fun x16 =>
  Main_needless_90 v0 v1 v2 x16 v5
  else
  Main_needless_90 v0 v1 v2 v4 v5
  else
  Main_needless_90 v0 v1 v2 v4 v5
noncomputable def Main_needless_23 (v0 : Nat) (v1 : Int32) (v2 : Int64) (s : (Int32 × Int32)) : MM Int32 := lo (fun (s : (Int32 × Int32)) => Main_needless_23_b v0 v1 v2 s.1 s.2) s
noncomputable def Main_needless (v0 : Nat) : MM Int32 :=
  mb (gR ZF 11 1 v0) fun x1 =>
  mb (vc ZF 6 x1 (Prog_writes x1)) fun r2 =>
  mb (gR ZF 11 1 v0) fun x3 =>
  mb (vc ZF 6 x3 (Prog_plateOf x3 r2)) fun r4 =>
  ml (0 : Int32) fun x5 =>
  ml (0 : Int32) fun x6 =>
  Main_needless_23 v0 r2 r4 (x5, x6)
set_option maxRecDepth 20000 in
theorem sm_Main_needless_90 {G : GT} {ad : Nat → Nat} {K : Int32 → Dm → Prop} (C : Cx G rm_Main_needless cX10_needless 8 RX10) (hV : Vx G rm_Main_needless ad ZF (0, 0)) (hR : RtI G rm_Main_needless ad ZF (0, 0) cX10_needless .int K) (v0 : Nat) (v1 : Int32) (v2 : Int64) (v4 : Int32) (v5 : Int32) : Sm G rm_Main_needless ad ZF (0, 0) (lpK G rm_Main_needless ad ZF (0, 0) 23 (fun (s : (Int32 × Int32)) => [(0, .ref v0), (1, .int v1), (2, .long v2), (4, .int s.1), (5, .int s.2)]) K) 90 [(0, .ref v0), (1, .int v1), (2, .long v2), (4, .int v4), (5, .int v5)] [] (Main_needless_90 v0 v1 v2 v4 v5) := by
  unfold Main_needless_90
  refine s_iinc C (L' := fun x11 => [(5, .int x11), (0, .ref v0), (1, .int v1), (2, .long v2), (4, .int v4)]) (1 : Int32) (by decide) rfl (by decide) (fun _ => rfl) dX10_needless_90 (fun x11 => ?_)
  refine s_goto C 23 (by decide) dX10_needless_93 ?_
  exact s_back [0, 1, 2, 4, 5] (v4, x11) rfl
set_option maxRecDepth 20000 in
theorem sm_Main_needless_23_b {G : GT} {ad : Nat → Nat} {K : Int32 → Dm → Prop} (C : Cx G rm_Main_needless cX10_needless 8 RX10) (hV : Vx G rm_Main_needless ad ZF (0, 0)) (hR : RtI G rm_Main_needless ad ZF (0, 0) cX10_needless .int K) (v0 : Nat) (v1 : Int32) (v2 : Int64) (v4 : Int32) (v5 : Int32) : Sm G rm_Main_needless ad ZF (0, 0) (lpK G rm_Main_needless ad ZF (0, 0) 23 (fun (s : (Int32 × Int32)) => [(0, .ref v0), (1, .int v1), (2, .long v2), (4, .int s.1), (5, .int s.2)]) K) 23 [(0, .ref v0), (1, .int v1), (2, .long v2), (4, .int v4), (5, .int v5)] [] (Main_needless_23_b v0 v1 v2 v4 v5) := by
  unfold Main_needless_23_b
  refine s_iload C rfl dX10_needless_23 ?_
  refine s_aload_n C rfl dX10_needless_25 ?_
  refine s_getR C hV fl_X10_20 (fun _ _ _ => rfl) dX10_needless_26 (fun x7 => ?_)
  refine s_getI C hV fl_X10_102 (fun _ _ _ => rfl) dX10_needless_29 (fun x8 => ?_)
  refine s_icmp_ge C 96 (by decide) dX10_needless_32 ?_ ?_
  · refine s_exit ?_
    refine s_iload C rfl dX10_needless_96 ?_
    exact s_ireti hR dX10_needless_98
  · refine s_iload_n C rfl dX10_needless_35 ?_
    refine s_iconst C (1 : Int32) (by decide) dX10_needless_36 ?_
    refine s_iload C rfl dX10_needless_37 ?_
    refine s_ishl C dX10_needless_39 ?_
    refine s_iand C dX10_needless_40 ?_
    refine s_leti (fun x9 => ?_)
    refine s_istore C (L' := [(6, .int x9), (0, .ref v0), (1, .int v1), (2, .long v2), (4, .int v4), (5, .int v5)]) (by decide) rfl dX10_needless_41 ?_
    refine s_iload_n C rfl dX10_needless_43 ?_
    refine s_iload C rfl dX10_needless_44 ?_
    refine s_iconst C ((-1) : Int32) (by decide) dX10_needless_46 ?_
    refine s_ixor C dX10_needless_47 ?_
    refine s_iand C dX10_needless_48 ?_
    refine s_leti (fun x10 => ?_)
    refine s_istore C (L' := [(7, .int x10), (6, .int x9), (0, .ref v0), (1, .int v1), (2, .long v2), (4, .int v4), (5, .int v5)]) (by decide) rfl dX10_needless_49 ?_
    refine s_iload C rfl dX10_needless_51 ?_
    refine s_if_eq C 90 (by decide) dX10_needless_53 ?_ ?_
    · exact s_weak [0, 1, 2, 4, 5] rfl (sm_Main_needless_90 C hV hR v0 v1 v2 v4 v5)
    · refine s_aload_n C rfl dX10_needless_56 ?_
      refine s_getR C hV fl_X10_20 (fun _ _ _ => rfl) dX10_needless_57 (fun x12 => ?_)
      refine s_iload C rfl dX10_needless_60 ?_
      refine s_wL C hV lv_X10_124 (st := []) (met_Prog_plateOf x12 x10) rf_Main_needless_Prog_plateOf rfl rfl (Nat.le_of_ble_eq_true rfl) dX10_needless_62 (fun r13 => ?_)
      refine s_lload_n C rfl dX10_needless_65 ?_
      refine s_lcmp_ne C 90 (by decide) dX10_needless_66 dX10_needless_67 ?_ ?_
      · exact s_weak [0, 1, 2, 4, 5] rfl (sm_Main_needless_90 C hV hR v0 v1 v2 v4 v5)
      · refine s_aload_n C rfl dX10_needless_70 ?_
        refine s_getR C hV fl_X10_12 (fun _ _ _ => rfl) dX10_needless_71 (fun x14 => ?_)
        refine s_iload C rfl dX10_needless_74 ?_
        refine s_wI C hV lv_X10_235 (st := []) (met_Verd_firstBroken x14 x10) rf_Main_needless_Verd_firstBroken rfl rfl (Nat.le_of_ble_eq_true rfl) dX10_needless_76 (fun r15 => ?_)
        refine s_iconst C ((-1) : Int32) (by decide) dX10_needless_79 ?_
        refine s_icmp_ne C 90 (by decide) dX10_needless_80 ?_ ?_
        · exact s_weak [0, 1, 2, 4, 5] rfl (sm_Main_needless_90 C hV hR v0 v1 v2 v4 v5)
        · refine s_iload C rfl dX10_needless_83 ?_
          refine s_iload C rfl dX10_needless_85 ?_
          refine s_ior C dX10_needless_87 ?_
          refine s_leti (fun x16 => ?_)
          refine s_istore C (L' := [(4, .int x16), (7, .int x10), (6, .int x9), (0, .ref v0), (1, .int v1), (2, .long v2), (5, .int v5)]) (by decide) rfl dX10_needless_88 ?_
          exact s_weak [0, 1, 2, 4, 5] rfl (sm_Main_needless_90 C hV hR v0 v1 v2 x16 v5)
set_option maxRecDepth 20000 in
theorem sm_Main_needless_23 {G : GT} {ad : Nat → Nat} {K : Int32 → Dm → Prop} (C : Cx G rm_Main_needless cX10_needless 8 RX10) (hV : Vx G rm_Main_needless ad ZF (0, 0)) (hR : RtI G rm_Main_needless ad ZF (0, 0) cX10_needless .int K) (v0 : Nat) (v1 : Int32) (v2 : Int64) (s : (Int32 × Int32)) : Sm G rm_Main_needless ad ZF (0, 0) K 23 ((fun (s : (Int32 × Int32)) => [(0, .ref v0), (1, .int v1), (2, .long v2), (4, .int s.1), (5, .int s.2)]) s) [] (Main_needless_23 v0 v1 v2 s) :=
  s_loop (en := (fun (s : (Int32 × Int32)) => [(0, .ref v0), (1, .int v1), (2, .long v2), (4, .int s.1), (5, .int s.2)])) (fun s => sm_Main_needless_23_b C hV hR v0 v1 v2 s.1 s.2) s
set_option maxRecDepth 20000 in
theorem sm_Main_needless {G : GT} {ad : Nat → Nat} {K : Int32 → Dm → Prop} (C : Cx G rm_Main_needless cX10_needless 8 RX10) (hV : Vx G rm_Main_needless ad ZF (0, 0)) (hR : RtI G rm_Main_needless ad ZF (0, 0) cX10_needless .int K) (v0 : Nat) : Sm G rm_Main_needless ad ZF (0, 0) K 0 [(0, .ref v0)] [] (Main_needless v0) := by
  unfold Main_needless
  refine s_aload_n C rfl dX10_needless_0 ?_
  refine s_getR C hV fl_X10_20 (fun _ _ _ => rfl) dX10_needless_1 (fun x1 => ?_)
  refine s_wI C hV lv_X10_120 (st := []) (met_Prog_writes x1) rf_Main_needless_Prog_writes rfl rfl (Nat.le_of_ble_eq_true rfl) dX10_needless_4 (fun r2 => ?_)
  refine s_istore_n C (L' := [(1, .int r2), (0, .ref v0)]) (by decide) rfl dX10_needless_7 ?_
  refine s_aload_n C rfl dX10_needless_8 ?_
  refine s_getR C hV fl_X10_20 (fun _ _ _ => rfl) dX10_needless_9 (fun x3 => ?_)
  refine s_iload_n C rfl dX10_needless_12 ?_
  refine s_wL C hV lv_X10_124 (st := []) (met_Prog_plateOf x3 r2) rf_Main_needless_Prog_plateOf rfl rfl (Nat.le_of_ble_eq_true rfl) dX10_needless_13 (fun r4 => ?_)
  refine s_lstore_n C (L' := [(2, .long r4), (1, .int r2), (0, .ref v0)]) (by decide) rfl dX10_needless_16 ?_
  refine s_iconst C (0 : Int32) (by decide) dX10_needless_17 ?_
  refine s_leti (fun x5 => ?_)
  refine s_istore C (L' := [(4, .int x5), (2, .long r4), (1, .int r2), (0, .ref v0)]) (by decide) rfl dX10_needless_18 ?_
  refine s_iconst C (0 : Int32) (by decide) dX10_needless_20 ?_
  refine s_leti (fun x6 => ?_)
  refine s_istore C (L' := [(5, .int x6), (4, .int x5), (2, .long r4), (1, .int r2), (0, .ref v0)]) (by decide) rfl dX10_needless_21 ?_
  exact s_weak [0, 1, 2, 4, 5] rfl (sm_Main_needless_23 C hV hR v0 r2 r4 (x5, x6))
set_option maxRecDepth 20000 in
theorem met_Main_needless (v0 : Nat) : MI ZF yX10_needless cX10_needless 8 .int rm_Main_needless [.ref v0] (Main_needless v0) :=
  mi_of (L0 := [(0, .ref v0)]) (by decide +kernel) (Nat.le_of_ble_eq_true rfl) rfl (fun G ad K C hV hR => sm_Main_needless C hV hR v0)

noncomputable def Main_order_149_b (v0 : Nat) (v1 : Int32) (v5 : Int32) (v6 : Int32) (v7 : Int32) (v8 : Int32) (v9 : Int32) (v10 : Int32) : MM ((Int32 × Int32 × Int32) ⊕ Int32) :=
  if v7 ≤ v10 then
  mr (
  mp v8)
  else
  mb (gR ZF 11 0 v0) fun x28 =>
  mb (vc ZF 10 x28 (Verd_of x28 (v5 ||| v9))) fun r29 =>
  ml (v8 + ((r29 >>> (v1 &&& 31)) &&& (1 : Int32))) fun x30 =>
  mb ((Main_nextSet v9 v6)) fun r31 =>
  ml (v10 + (1 : Int32)) fun x32 =>
  mp (.inl (x30, r31, x32))
noncomputable def Main_order_149 (v0 : Nat) (v1 : Int32) (v5 : Int32) (v6 : Int32) (v7 : Int32) (s : (Int32 × Int32 × Int32)) : MM Int32 := lo (fun (s : (Int32 × Int32 × Int32)) => Main_order_149_b v0 v1 v5 v6 v7 s.1 s.2.1 s.2.2) s
noncomputable def Main_order (v0 : Nat) (v1 : Int32) (v2 : Int32) (v3 : Int32) : MM Int32 :=
  mb (gR ZF 11 2 v0) fun x1 =>
  mb (vc ZF 8 x1 (Rule_has x1 v1)) fun r2 =>
  if r2 = 0 then
  mp ((-101) : Int32)
  else
  mb (gR ZF 11 1 v0) fun x3 =>
  mb (vc ZF 6 x3 (Prog_isWrite x3 v2)) fun r4 =>
  if r4 = 0 then
  mp ((-101) : Int32)
  else
  mb (gR ZF 11 1 v0) fun x5 =>
  mb (vc ZF 6 x5 (Prog_isWrite x5 v3)) fun r6 =>
  if r6 = 0 then
  mp ((-101) : Int32)
  else
  if v2 = v3 then
  mp ((-101) : Int32)
  else
  mb (gR ZF 11 1 v0) fun x7 =>
  mb (vc ZF 6 x7 (Prog_epochStart x7 v2)) fun r8 =>
  mb (gR ZF 11 1 v0) fun x9 =>
  mb (vc ZF 6 x9 (Prog_epochStart x9 v3)) fun r10 =>
  if r8 = r10 then
  mb (gR ZF 11 1 v0) fun x11 =>
  mb (gR ZF 11 1 v0) fun x12 =>
  mb (gI ZF 6 1 x12) fun x13 =>
  mb (vc ZF 6 x11 (Prog_behindLastFlush x11 x13)) fun r14 =>
  if r14 ≤ r8 then
  mb (gR ZF 11 1 v0) fun x15 =>
  mb (vc ZF 6 x15 (Prog_writesWithin x15 (0 : Int32) r8)) fun r16 =>
  ml (r16 ||| ((1 : Int32) <<< (v3 &&& 31))) fun x17 =>
  mb (gR ZF 11 1 v0) fun x18 =>
  mb (gR ZF 11 1 v0) fun x19 =>
  mb (vc ZF 6 x19 (Prog_epochEnd x19 v2)) fun r20 =>
  mb (vc ZF 6 x18 (Prog_writesWithin x18 r8 r20)) fun r21 =>
  ml (r21 &&& ((((1 : Int32) <<< (v2 &&& 31)) ||| ((1 : Int32) <<< (v3 &&& 31))) ^^^ ((-1) : Int32))) fun x22 =>
  mb ((JInt_bitCount x22)) fun r23 =>
  ml ((1 : Int32) <<< (r23 &&& 31)) fun x24 =>
  ml (0 : Int32) fun x25 =>
  ml (0 : Int32) fun x26 =>
  ml (0 : Int32) fun x27 =>
  Main_order_149 v0 v1 x17 x22 x24 (x25, x26, x27)
  else
  mp ((-103) : Int32)
  else
  mp ((-103) : Int32)
set_option maxRecDepth 20000 in
theorem sm_Main_order_149_b {G : GT} {ad : Nat → Nat} {K : Int32 → Dm → Prop} (C : Cx G rm_Main_order cX10_order 11 RX10) (hV : Vx G rm_Main_order ad ZF (0, 0)) (hR : RtI G rm_Main_order ad ZF (0, 0) cX10_order .int K) (v0 : Nat) (v1 : Int32) (v5 : Int32) (v6 : Int32) (v7 : Int32) (v8 : Int32) (v9 : Int32) (v10 : Int32) : Sm G rm_Main_order ad ZF (0, 0) (lpK G rm_Main_order ad ZF (0, 0) 149 (fun (s : (Int32 × Int32 × Int32)) => [(0, .ref v0), (1, .int v1), (5, .int v5), (6, .int v6), (7, .int v7), (8, .int s.1), (9, .int s.2.1), (10, .int s.2.2)]) K) 149 [(0, .ref v0), (1, .int v1), (5, .int v5), (6, .int v6), (7, .int v7), (8, .int v8), (9, .int v9), (10, .int v10)] [] (Main_order_149_b v0 v1 v5 v6 v7 v8 v9 v10) := by
  unfold Main_order_149_b
  refine s_iload C rfl dX10_order_149 ?_
  refine s_iload C rfl dX10_order_151 ?_
  refine s_icmp_ge C 192 (by decide) dX10_order_153 ?_ ?_
  · refine s_exit ?_
    refine s_iload C rfl dX10_order_192 ?_
    exact s_ireti hR dX10_order_194
  · refine s_iload C rfl dX10_order_156 ?_
    refine s_aload_n C rfl dX10_order_158 ?_
    refine s_getR C hV fl_X10_12 (fun _ _ _ => rfl) dX10_order_159 (fun x28 => ?_)
    refine s_iload C rfl dX10_order_162 ?_
    refine s_iload C rfl dX10_order_164 ?_
    refine s_ior C dX10_order_166 ?_
    refine s_wI C hV lv_X10_220 (st := [.int v8]) (met_Verd_of x28 (v5 ||| v9)) rf_Main_order_Verd_of rfl rfl (Nat.le_of_ble_eq_true rfl) dX10_order_167 (fun r29 => ?_)
    refine s_iload_n C rfl dX10_order_170 ?_
    refine s_ishr C dX10_order_171 ?_
    refine s_iconst C (1 : Int32) (by decide) dX10_order_172 ?_
    refine s_iand C dX10_order_173 ?_
    refine s_iadd C dX10_order_174 ?_
    refine s_leti (fun x30 => ?_)
    refine s_istore C (L' := [(8, .int x30), (0, .ref v0), (1, .int v1), (5, .int v5), (6, .int v6), (7, .int v7), (9, .int v9), (10, .int v10)]) (by decide) rfl dX10_order_175 ?_
    refine s_iload C rfl dX10_order_177 ?_
    refine s_iload C rfl dX10_order_179 ?_
    refine s_uI C hV ls_X10_278 (st := []) (met_Main_nextSet v9 v6) rf_Main_order_Main_nextSet rfl rfl (Nat.le_of_ble_eq_true rfl) dX10_order_181 (fun r31 => ?_)
    refine s_istore C (L' := [(9, .int r31), (8, .int x30), (0, .ref v0), (1, .int v1), (5, .int v5), (6, .int v6), (7, .int v7), (10, .int v10)]) (by decide) rfl dX10_order_184 ?_
    refine s_iinc C (L' := fun x32 => [(10, .int x32), (9, .int r31), (8, .int x30), (0, .ref v0), (1, .int v1), (5, .int v5), (6, .int v6), (7, .int v7)]) (1 : Int32) (by decide) rfl (by decide) (fun _ => rfl) dX10_order_186 (fun x32 => ?_)
    refine s_goto C 149 (by decide) dX10_order_189 ?_
    exact s_back [0, 1, 5, 6, 7, 8, 9, 10] (x30, r31, x32) rfl
set_option maxRecDepth 20000 in
theorem sm_Main_order_149 {G : GT} {ad : Nat → Nat} {K : Int32 → Dm → Prop} (C : Cx G rm_Main_order cX10_order 11 RX10) (hV : Vx G rm_Main_order ad ZF (0, 0)) (hR : RtI G rm_Main_order ad ZF (0, 0) cX10_order .int K) (v0 : Nat) (v1 : Int32) (v5 : Int32) (v6 : Int32) (v7 : Int32) (s : (Int32 × Int32 × Int32)) : Sm G rm_Main_order ad ZF (0, 0) K 149 ((fun (s : (Int32 × Int32 × Int32)) => [(0, .ref v0), (1, .int v1), (5, .int v5), (6, .int v6), (7, .int v7), (8, .int s.1), (9, .int s.2.1), (10, .int s.2.2)]) s) [] (Main_order_149 v0 v1 v5 v6 v7 s) :=
  s_loop (en := (fun (s : (Int32 × Int32 × Int32)) => [(0, .ref v0), (1, .int v1), (5, .int v5), (6, .int v6), (7, .int v7), (8, .int s.1), (9, .int s.2.1), (10, .int s.2.2)])) (fun s => sm_Main_order_149_b C hV hR v0 v1 v5 v6 v7 s.1 s.2.1 s.2.2) s
set_option maxRecDepth 20000 in
theorem sm_Main_order {G : GT} {ad : Nat → Nat} {K : Int32 → Dm → Prop} (C : Cx G rm_Main_order cX10_order 11 RX10) (hV : Vx G rm_Main_order ad ZF (0, 0)) (hR : RtI G rm_Main_order ad ZF (0, 0) cX10_order .int K) (v0 : Nat) (v1 : Int32) (v2 : Int32) (v3 : Int32) : Sm G rm_Main_order ad ZF (0, 0) K 0 [(0, .ref v0), (1, .int v1), (2, .int v2), (3, .int v3)] [] (Main_order v0 v1 v2 v3) := by
  unfold Main_order
  refine s_aload_n C rfl dX10_order_0 ?_
  refine s_getR C hV fl_X10_25 (fun _ _ _ => rfl) dX10_order_1 (fun x1 => ?_)
  refine s_iload_n C rfl dX10_order_4 ?_
  refine s_wI C hV lv_X10_97 (st := []) (met_Rule_has x1 v1) rf_Main_order_Rule_has rfl rfl (Nat.le_of_ble_eq_true rfl) dX10_order_5 (fun r2 => ?_)
  refine s_if_eq C 38 (by decide) dX10_order_8 ?_ ?_
  · refine s_bipush C ((-101) : Int32) (by decide) dX10_order_38 ?_
    exact s_ireti hR dX10_order_40
  · refine s_aload_n C rfl dX10_order_11 ?_
    refine s_getR C hV fl_X10_20 (fun _ _ _ => rfl) dX10_order_12 (fun x3 => ?_)
    refine s_iload_n C rfl dX10_order_15 ?_
    refine s_wI C hV lv_X10_258 (st := []) (met_Prog_isWrite x3 v2) rf_Main_order_Prog_isWrite rfl rfl (Nat.le_of_ble_eq_true rfl) dX10_order_16 (fun r4 => ?_)
    refine s_if_eq C 38 (by decide) dX10_order_19 ?_ ?_
    · refine s_bipush C ((-101) : Int32) (by decide) dX10_order_38 ?_
      exact s_ireti hR dX10_order_40
    · refine s_aload_n C rfl dX10_order_22 ?_
      refine s_getR C hV fl_X10_20 (fun _ _ _ => rfl) dX10_order_23 (fun x5 => ?_)
      refine s_iload_n C rfl dX10_order_26 ?_
      refine s_wI C hV lv_X10_258 (st := []) (met_Prog_isWrite x5 v3) rf_Main_order_Prog_isWrite rfl rfl (Nat.le_of_ble_eq_true rfl) dX10_order_27 (fun r6 => ?_)
      refine s_if_eq C 38 (by decide) dX10_order_30 ?_ ?_
      · refine s_bipush C ((-101) : Int32) (by decide) dX10_order_38 ?_
        exact s_ireti hR dX10_order_40
      · refine s_iload_n C rfl dX10_order_33 ?_
        refine s_iload_n C rfl dX10_order_34 ?_
        refine s_icmp_ne C 41 (by decide) dX10_order_35 ?_ ?_
        · refine s_aload_n C rfl dX10_order_41 ?_
          refine s_getR C hV fl_X10_20 (fun _ _ _ => rfl) dX10_order_42 (fun x7 => ?_)
          refine s_iload_n C rfl dX10_order_45 ?_
          refine s_wI C hV lv_X10_261 (st := []) (met_Prog_epochStart x7 v2) rf_Main_order_Prog_epochStart rfl rfl (Nat.le_of_ble_eq_true rfl) dX10_order_46 (fun r8 => ?_)
          refine s_istore C (L' := [(4, .int r8), (0, .ref v0), (1, .int v1), (2, .int v2), (3, .int v3)]) (by decide) rfl dX10_order_49 ?_
          refine s_iload C rfl dX10_order_51 ?_
          refine s_aload_n C rfl dX10_order_53 ?_
          refine s_getR C hV fl_X10_20 (fun _ _ _ => rfl) dX10_order_54 (fun x9 => ?_)
          refine s_iload_n C rfl dX10_order_57 ?_
          refine s_wI C hV lv_X10_261 (st := [.int r8]) (met_Prog_epochStart x9 v3) rf_Main_order_Prog_epochStart rfl rfl (Nat.le_of_ble_eq_true rfl) dX10_order_58 (fun r10 => ?_)
          refine s_icmp_ne C 83 (by decide) dX10_order_61 ?_ ?_
          · refine s_bipush C ((-103) : Int32) (by decide) dX10_order_83 ?_
            exact s_ireti hR dX10_order_85
          · refine s_iload C rfl dX10_order_64 ?_
            refine s_aload_n C rfl dX10_order_66 ?_
            refine s_getR C hV fl_X10_20 (fun _ _ _ => rfl) dX10_order_67 (fun x11 => ?_)
            refine s_aload_n C rfl dX10_order_70 ?_
            refine s_getR C hV fl_X10_20 (fun _ _ _ => rfl) dX10_order_71 (fun x12 => ?_)
            refine s_getI C hV fl_X10_102 (fun _ _ _ => rfl) dX10_order_74 (fun x13 => ?_)
            refine s_wI C hV lv_X10_264 (st := [.int r8]) (met_Prog_behindLastFlush x11 x13) rf_Main_order_Prog_behindLastFlush rfl rfl (Nat.le_of_ble_eq_true rfl) dX10_order_77 (fun r14 => ?_)
            refine s_icmp_ge C 86 (by decide) dX10_order_80 ?_ ?_
            · refine s_aload_n C rfl dX10_order_86 ?_
              refine s_getR C hV fl_X10_20 (fun _ _ _ => rfl) dX10_order_87 (fun x15 => ?_)
              refine s_iconst C (0 : Int32) (by decide) dX10_order_90 ?_
              refine s_iload C rfl dX10_order_91 ?_
              refine s_wI C hV lv_X10_267 (st := []) (met_Prog_writesWithin x15 (0 : Int32) r8) rf_Main_order_Prog_writesWithin rfl rfl (Nat.le_of_ble_eq_true rfl) dX10_order_93 (fun r16 => ?_)
              refine s_iconst C (1 : Int32) (by decide) dX10_order_96 ?_
              refine s_iload_n C rfl dX10_order_97 ?_
              refine s_ishl C dX10_order_98 ?_
              refine s_ior C dX10_order_99 ?_
              refine s_leti (fun x17 => ?_)
              refine s_istore C (L' := [(5, .int x17), (4, .int r8), (0, .ref v0), (1, .int v1), (2, .int v2), (3, .int v3)]) (by decide) rfl dX10_order_100 ?_
              refine s_aload_n C rfl dX10_order_102 ?_
              refine s_getR C hV fl_X10_20 (fun _ _ _ => rfl) dX10_order_103 (fun x18 => ?_)
              refine s_iload C rfl dX10_order_106 ?_
              refine s_aload_n C rfl dX10_order_108 ?_
              refine s_getR C hV fl_X10_20 (fun _ _ _ => rfl) dX10_order_109 (fun x19 => ?_)
              refine s_iload_n C rfl dX10_order_112 ?_
              refine s_wI C hV lv_X10_270 (st := [.int r8, .ref x18]) (met_Prog_epochEnd x19 v2) rf_Main_order_Prog_epochEnd rfl rfl (Nat.le_of_ble_eq_true rfl) dX10_order_113 (fun r20 => ?_)
              refine s_wI C hV lv_X10_267 (st := []) (met_Prog_writesWithin x18 r8 r20) rf_Main_order_Prog_writesWithin rfl rfl (Nat.le_of_ble_eq_true rfl) dX10_order_116 (fun r21 => ?_)
              refine s_iconst C (1 : Int32) (by decide) dX10_order_119 ?_
              refine s_iload_n C rfl dX10_order_120 ?_
              refine s_ishl C dX10_order_121 ?_
              refine s_iconst C (1 : Int32) (by decide) dX10_order_122 ?_
              refine s_iload_n C rfl dX10_order_123 ?_
              refine s_ishl C dX10_order_124 ?_
              refine s_ior C dX10_order_125 ?_
              refine s_iconst C ((-1) : Int32) (by decide) dX10_order_126 ?_
              refine s_ixor C dX10_order_127 ?_
              refine s_iand C dX10_order_128 ?_
              refine s_leti (fun x22 => ?_)
              refine s_istore C (L' := [(6, .int x22), (5, .int x17), (4, .int r8), (0, .ref v0), (1, .int v1), (2, .int v2), (3, .int v3)]) (by decide) rfl dX10_order_129 ?_
              refine s_iconst C (1 : Int32) (by decide) dX10_order_131 ?_
              refine s_iload C rfl dX10_order_132 ?_
              refine s_uI C hV ls_X10_273 (st := [.int (1 : Int32)]) (met_JInt_bitCount x22) rf_Main_order_JInt_bitCount rfl rfl (Nat.le_of_ble_eq_true rfl) dX10_order_134 (fun r23 => ?_)
              refine s_ishl C dX10_order_137 ?_
              refine s_leti (fun x24 => ?_)
              refine s_istore C (L' := [(7, .int x24), (6, .int x22), (5, .int x17), (4, .int r8), (0, .ref v0), (1, .int v1), (2, .int v2), (3, .int v3)]) (by decide) rfl dX10_order_138 ?_
              refine s_iconst C (0 : Int32) (by decide) dX10_order_140 ?_
              refine s_leti (fun x25 => ?_)
              refine s_istore C (L' := [(8, .int x25), (7, .int x24), (6, .int x22), (5, .int x17), (4, .int r8), (0, .ref v0), (1, .int v1), (2, .int v2), (3, .int v3)]) (by decide) rfl dX10_order_141 ?_
              refine s_iconst C (0 : Int32) (by decide) dX10_order_143 ?_
              refine s_leti (fun x26 => ?_)
              refine s_istore C (L' := [(9, .int x26), (8, .int x25), (7, .int x24), (6, .int x22), (5, .int x17), (4, .int r8), (0, .ref v0), (1, .int v1), (2, .int v2), (3, .int v3)]) (by decide) rfl dX10_order_144 ?_
              refine s_iconst C (0 : Int32) (by decide) dX10_order_146 ?_
              refine s_leti (fun x27 => ?_)
              refine s_istore C (L' := [(10, .int x27), (9, .int x26), (8, .int x25), (7, .int x24), (6, .int x22), (5, .int x17), (4, .int r8), (0, .ref v0), (1, .int v1), (2, .int v2), (3, .int v3)]) (by decide) rfl dX10_order_147 ?_
              exact s_weak [0, 1, 5, 6, 7, 8, 9, 10] rfl (sm_Main_order_149 C hV hR v0 v1 x17 x22 x24 (x25, x26, x27))
            · refine s_bipush C ((-103) : Int32) (by decide) dX10_order_83 ?_
              exact s_ireti hR dX10_order_85
        · refine s_bipush C ((-101) : Int32) (by decide) dX10_order_38 ?_
          exact s_ireti hR dX10_order_40
set_option maxRecDepth 20000 in
theorem met_Main_order (v0 : Nat) (v1 : Int32) (v2 : Int32) (v3 : Int32) : MI ZF yX10_order cX10_order 11 .int rm_Main_order [.ref v0, .int v1, .int v2, .int v3] (Main_order v0 v1 v2 v3) :=
  mi_of (L0 := [(0, .ref v0), (1, .int v1), (2, .int v2), (3, .int v3)]) (by decide +kernel) (Nat.le_of_ble_eq_true rfl) rfl (fun G ad K C hV hR => sm_Main_order C hV hR v0 v1 v2 v3)

noncomputable def Main_count (v0 : Nat) (v1 : Int32) : MM Int32 :=
  sw v1 (0 : Int32) [(
  mb (gR ZF 11 1 v0) fun x1 =>
  mb (gI ZF 6 1 x1) fun x2 =>
  mp x2),
(
  mb (gR ZF 11 2 v0) fun x3 =>
  mb (gI ZF 8 1 x3) fun x4 =>
  mp x4),
(
  mb (gR ZF 11 3 v0) fun x5 =>
  mb (gI ZF 3 1 x5) fun x6 =>
  mp x6),
(
  mb (gR ZF 11 4 v0) fun x7 =>
  mb (gI ZF 4 1 x7) fun x8 =>
  mp x8),
(
  mb (gR ZF 11 1 v0) fun x9 =>
  mb (vc ZF 6 x9 (Prog_epochsWithWrites x9)) fun r10 =>
  mp r10),
(
  mb (gR ZF 11 1 v0) fun x11 =>
  mb (vc ZF 6 x11 (Prog_writes x11)) fun r12 =>
  mb ((JInt_bitCount r12)) fun r13 =>
  mp r13),
(
  mb (gI ZF 11 10 v0) fun x14 =>
  mp x14)] (
  mp ((-102) : Int32))
set_option maxRecDepth 20000 in
theorem sm_Main_count {G : GT} {ad : Nat → Nat} {K : Int32 → Dm → Prop} (C : Cx G rm_Main_count cX10_count 2 RX10) (hV : Vx G rm_Main_count ad ZF (0, 0)) (hR : RtI G rm_Main_count ad ZF (0, 0) cX10_count .int K) (v0 : Nat) (v1 : Int32) : Sm G rm_Main_count ad ZF (0, 0) K 0 [(0, .ref v0), (1, .int v1)] [] (Main_count v0 v1) := by
  unfold Main_count
  refine s_iload_n C rfl dX10_count_0 ?_
  refine s_tsw C (k := (0 : Int32)) (by decide) (by simp) (by simp) dX10_count_1 100 (by decide) ?_ ?_
  · refine s_bipush C ((-102) : Int32) (by decide) dX10_count_100 ?_
    exact s_ireti hR dX10_count_102
  · intro i g hg
    match i, hg with
    | 0, hg =>
      cases hg
      refine ⟨43, 44, rfl, by decide, ?_⟩
      refine s_aload_n C rfl dX10_count_44 ?_
      refine s_getR C hV fl_X10_20 (fun _ _ _ => rfl) dX10_count_45 (fun x1 => ?_)
      refine s_getI C hV fl_X10_102 (fun _ _ _ => rfl) dX10_count_48 (fun x2 => ?_)
      exact s_ireti hR dX10_count_51
    | 1, hg =>
      cases hg
      refine ⟨51, 52, rfl, by decide, ?_⟩
      refine s_aload_n C rfl dX10_count_52 ?_
      refine s_getR C hV fl_X10_25 (fun _ _ _ => rfl) dX10_count_53 (fun x3 => ?_)
      refine s_getI C hV fl_X10_153 (fun _ _ _ => rfl) dX10_count_56 (fun x4 => ?_)
      exact s_ireti hR dX10_count_59
    | 2, hg =>
      cases hg
      refine ⟨59, 60, rfl, by decide, ?_⟩
      refine s_aload_n C rfl dX10_count_60 ?_
      refine s_getR C hV fl_X10_30 (fun _ _ _ => rfl) dX10_count_61 (fun x5 => ?_)
      refine s_getI C hV fl_X10_171 (fun _ _ _ => rfl) dX10_count_64 (fun x6 => ?_)
      exact s_ireti hR dX10_count_67
    | 3, hg =>
      cases hg
      refine ⟨67, 68, rfl, by decide, ?_⟩
      refine s_aload_n C rfl dX10_count_68 ?_
      refine s_getR C hV fl_X10_34 (fun _ _ _ => rfl) dX10_count_69 (fun x7 => ?_)
      refine s_getI C hV fl_X10_140 (fun _ _ _ => rfl) dX10_count_72 (fun x8 => ?_)
      exact s_ireti hR dX10_count_75
    | 4, hg =>
      cases hg
      refine ⟨75, 76, rfl, by decide, ?_⟩
      refine s_aload_n C rfl dX10_count_76 ?_
      refine s_getR C hV fl_X10_20 (fun _ _ _ => rfl) dX10_count_77 (fun x9 => ?_)
      refine s_wI C hV lv_X10_281 (st := []) (met_Prog_epochsWithWrites x9) rf_Main_count_Prog_epochsWithWrites rfl rfl (Nat.le_of_ble_eq_true rfl) dX10_count_80 (fun r10 => ?_)
      exact s_ireti hR dX10_count_83
    | 5, hg =>
      cases hg
      refine ⟨83, 84, rfl, by decide, ?_⟩
      refine s_aload_n C rfl dX10_count_84 ?_
      refine s_getR C hV fl_X10_20 (fun _ _ _ => rfl) dX10_count_85 (fun x11 => ?_)
      refine s_wI C hV lv_X10_120 (st := []) (met_Prog_writes x11) rf_Main_count_Prog_writes rfl rfl (Nat.le_of_ble_eq_true rfl) dX10_count_88 (fun r12 => ?_)
      refine s_uI C hV ls_X10_273 (st := []) (met_JInt_bitCount r12) rf_Main_count_JInt_bitCount rfl rfl (Nat.le_of_ble_eq_true rfl) dX10_count_91 (fun r13 => ?_)
      exact s_ireti hR dX10_count_94
    | 6, hg =>
      cases hg
      refine ⟨94, 95, rfl, by decide, ?_⟩
      refine s_aload_n C rfl dX10_count_95 ?_
      refine s_getI C hV fl_X10_66 (fun _ _ _ => rfl) dX10_count_96 (fun x14 => ?_)
      exact s_ireti hR dX10_count_99
    | i + 7, hg => cases hg
set_option maxRecDepth 20000 in
theorem met_Main_count (v0 : Nat) (v1 : Int32) : MI ZF yX10_count cX10_count 2 .int rm_Main_count [.ref v0, .int v1] (Main_count v0 v1) :=
  mi_of (L0 := [(0, .ref v0), (1, .int v1)]) (by decide +kernel) (Nat.le_of_ble_eq_true rfl) rfl (fun G ad K C hV hR => sm_Main_count C hV hR v0 v1)

noncomputable def Main_digestProgram_20_b (v0 : Nat) (v3 : Int64) (v5 : Int32) (v6 : Int32) : MM ((Int64 × Int32) ⊕ ((Int64 × Int32) ⊕ Int64)) :=
  if (4 : Int32) < v6 then
  mr (
  ml (v5 + (1 : Int32)) fun x11 =>
  mp (.inl (v3, x11)))
  else
  mb (gR ZF 11 1 v0) fun x12 =>
  mb (gR ZF 6 0 x12) fun x13 =>
  mb (aR ZF 26 x13 v5) fun x14 =>
  mb (vc ZF 1 x14 (Act_part x14 v6)) fun r15 =>
  mb ((Main_mix v3 (r15.toInt64))) fun r16 =>
  ml (v6 + (1 : Int32)) fun x17 =>
  mp (.inl (r16, x17))
noncomputable def Main_digestProgram_20 (v0 : Nat) (v5 : Int32) (s : (Int64 × Int32)) : MM ((Int64 × Int32) ⊕ Int64) := lo (fun (s : (Int64 × Int32)) => Main_digestProgram_20_b v0 s.1 v5 s.2) s
noncomputable def Main_digestProgram_5_b (v0 : Nat) (v3 : Int64) (v5 : Int32) : MM ((Int64 × Int32) ⊕ Int64) :=
  mb (gR ZF 11 1 v0) fun x2 =>
  mb (gI ZF 6 1 x2) fun x3 =>
  if x3 ≤ v5 then
  mr (
  mb (gR ZF 11 1 v0) fun x4 =>
  mb (gR ZF 11 1 v0) fun x5 =>
  mb (vc ZF 6 x5 (Prog_writes x5)) fun r6 =>
  mb (vc ZF 6 x4 (Prog_plateOf x4 r6)) fun r7 =>
  mb ((Main_numberOf r7)) fun r8 =>
  mb ((Main_mix v3 r8)) fun r9 =>
  mp r9)
  else
  ml (0 : Int32) fun x10 =>
  Main_digestProgram_20 v0 v5 (v3, x10)
noncomputable def Main_digestProgram_5 (v0 : Nat) (s : (Int64 × Int32)) : MM Int64 := lo (fun (s : (Int64 × Int32)) => Main_digestProgram_5_b v0 s.1 s.2) s
noncomputable def Main_digestProgram (v0 : Nat) (v1 : Int64) : MM Int64 :=
  ml (0 : Int32) fun x1 =>
  Main_digestProgram_5 v0 (v1, x1)
set_option maxRecDepth 20000 in
theorem sm_Main_digestProgram_20_b {G : GT} {ad : Nat → Nat} {K : Int64 → Dm → Prop} (C : Cx G rm_Main_digestProgram cX10_digestProgram 7 RX10) (hV : Vx G rm_Main_digestProgram ad ZF (0, 0)) (hR : RtL G rm_Main_digestProgram ad ZF (0, 0) cX10_digestProgram K) (v0 : Nat) (v3 : Int64) (v5 : Int32) (v6 : Int32) : Sm G rm_Main_digestProgram ad ZF (0, 0) (lpK G rm_Main_digestProgram ad ZF (0, 0) 20 (fun (s : (Int64 × Int32)) => [(0, .ref v0), (3, .long s.1), (5, .int v5), (6, .int s.2)]) (lpK G rm_Main_digestProgram ad ZF (0, 0) 5 (fun (s : (Int64 × Int32)) => [(0, .ref v0), (3, .long s.1), (5, .int s.2)]) K)) 20 [(0, .ref v0), (3, .long v3), (5, .int v5), (6, .int v6)] [] (Main_digestProgram_20_b v0 v3 v5 v6) := by
  unfold Main_digestProgram_20_b
  refine s_iload C rfl dX10_digestProgram_20 ?_
  refine s_iconst C (4 : Int32) (by decide) dX10_digestProgram_22 ?_
  refine s_icmp_gt C 53 (by decide) dX10_digestProgram_23 ?_ ?_
  · refine s_exit ?_
    refine s_iinc C (L' := fun x11 => [(5, .int x11), (0, .ref v0), (3, .long v3), (6, .int v6)]) (1 : Int32) (by decide) rfl (by decide) (fun _ => rfl) dX10_digestProgram_53 (fun x11 => ?_)
    refine s_goto C 5 (by decide) dX10_digestProgram_56 ?_
    exact s_back [0, 3, 5] (v3, x11) rfl
  · refine s_lload_n C rfl dX10_digestProgram_26 ?_
    refine s_aload_n C rfl dX10_digestProgram_27 ?_
    refine s_getR C hV fl_X10_20 (fun _ _ _ => rfl) dX10_digestProgram_28 (fun x12 => ?_)
    refine s_getR C hV fl_X10_110 (fun _ _ _ => rfl) dX10_digestProgram_31 (fun x13 => ?_)
    refine s_iload C rfl dX10_digestProgram_34 ?_
    refine s_aaloadA C hV dX10_digestProgram_36 (fun x14 => ?_)
    refine s_iload C rfl dX10_digestProgram_37 ?_
    refine s_wI C hV lv_X10_114 (st := [.long v3]) (met_Act_part x14 v6) rf_Main_digestProgram_Act_part rfl rfl (Nat.le_of_ble_eq_true rfl) dX10_digestProgram_39 (fun r15 => ?_)
    refine s_i2l C dX10_digestProgram_42 ?_
    refine s_uL C hV ls_X10_286 (st := []) (met_Main_mix v3 (r15.toInt64)) rf_Main_digestProgram_Main_mix rfl rfl (Nat.le_of_ble_eq_true rfl) dX10_digestProgram_43 (fun r16 => ?_)
    refine s_lstore_n C (L' := [(3, .long r16), (0, .ref v0), (5, .int v5), (6, .int v6)]) (by decide) rfl dX10_digestProgram_46 ?_
    refine s_iinc C (L' := fun x17 => [(6, .int x17), (3, .long r16), (0, .ref v0), (5, .int v5)]) (1 : Int32) (by decide) rfl (by decide) (fun _ => rfl) dX10_digestProgram_47 (fun x17 => ?_)
    refine s_goto C 20 (by decide) dX10_digestProgram_50 ?_
    exact s_back [0, 3, 5, 6] (r16, x17) rfl
set_option maxRecDepth 20000 in
theorem sm_Main_digestProgram_20 {G : GT} {ad : Nat → Nat} {K : Int64 → Dm → Prop} (C : Cx G rm_Main_digestProgram cX10_digestProgram 7 RX10) (hV : Vx G rm_Main_digestProgram ad ZF (0, 0)) (hR : RtL G rm_Main_digestProgram ad ZF (0, 0) cX10_digestProgram K) (v0 : Nat) (v5 : Int32) (s : (Int64 × Int32)) : Sm G rm_Main_digestProgram ad ZF (0, 0) (lpK G rm_Main_digestProgram ad ZF (0, 0) 5 (fun (s : (Int64 × Int32)) => [(0, .ref v0), (3, .long s.1), (5, .int s.2)]) K) 20 ((fun (s : (Int64 × Int32)) => [(0, .ref v0), (3, .long s.1), (5, .int v5), (6, .int s.2)]) s) [] (Main_digestProgram_20 v0 v5 s) :=
  s_loop (en := (fun (s : (Int64 × Int32)) => [(0, .ref v0), (3, .long s.1), (5, .int v5), (6, .int s.2)])) (fun s => sm_Main_digestProgram_20_b C hV hR v0 s.1 v5 s.2) s
set_option maxRecDepth 20000 in
theorem sm_Main_digestProgram_5_b {G : GT} {ad : Nat → Nat} {K : Int64 → Dm → Prop} (C : Cx G rm_Main_digestProgram cX10_digestProgram 7 RX10) (hV : Vx G rm_Main_digestProgram ad ZF (0, 0)) (hR : RtL G rm_Main_digestProgram ad ZF (0, 0) cX10_digestProgram K) (v0 : Nat) (v3 : Int64) (v5 : Int32) : Sm G rm_Main_digestProgram ad ZF (0, 0) (lpK G rm_Main_digestProgram ad ZF (0, 0) 5 (fun (s : (Int64 × Int32)) => [(0, .ref v0), (3, .long s.1), (5, .int s.2)]) K) 5 [(0, .ref v0), (3, .long v3), (5, .int v5)] [] (Main_digestProgram_5_b v0 v3 v5) := by
  unfold Main_digestProgram_5_b
  refine s_iload C rfl dX10_digestProgram_5 ?_
  refine s_aload_n C rfl dX10_digestProgram_7 ?_
  refine s_getR C hV fl_X10_20 (fun _ _ _ => rfl) dX10_digestProgram_8 (fun x2 => ?_)
  refine s_getI C hV fl_X10_102 (fun _ _ _ => rfl) dX10_digestProgram_11 (fun x3 => ?_)
  refine s_icmp_ge C 59 (by decide) dX10_digestProgram_14 ?_ ?_
  · refine s_exit ?_
    refine s_lload_n C rfl dX10_digestProgram_59 ?_
    refine s_aload_n C rfl dX10_digestProgram_60 ?_
    refine s_getR C hV fl_X10_20 (fun _ _ _ => rfl) dX10_digestProgram_61 (fun x4 => ?_)
    refine s_aload_n C rfl dX10_digestProgram_64 ?_
    refine s_getR C hV fl_X10_20 (fun _ _ _ => rfl) dX10_digestProgram_65 (fun x5 => ?_)
    refine s_wI C hV lv_X10_120 (st := [.ref x4, .long v3]) (met_Prog_writes x5) rf_Main_digestProgram_Prog_writes rfl rfl (Nat.le_of_ble_eq_true rfl) dX10_digestProgram_68 (fun r6 => ?_)
    refine s_wL C hV lv_X10_124 (st := [.long v3]) (met_Prog_plateOf x4 r6) rf_Main_digestProgram_Prog_plateOf rfl rfl (Nat.le_of_ble_eq_true rfl) dX10_digestProgram_71 (fun r7 => ?_)
    refine s_uL C hV ls_X10_128 (st := [.long v3]) (met_Main_numberOf r7) rf_Main_digestProgram_Main_numberOf rfl rfl (Nat.le_of_ble_eq_true rfl) dX10_digestProgram_74 (fun r8 => ?_)
    refine s_uL C hV ls_X10_286 (st := []) (met_Main_mix v3 r8) rf_Main_digestProgram_Main_mix rfl rfl (Nat.le_of_ble_eq_true rfl) dX10_digestProgram_77 (fun r9 => ?_)
    exact s_lret hR dX10_digestProgram_80
  · refine s_iconst C (0 : Int32) (by decide) dX10_digestProgram_17 ?_
    refine s_leti (fun x10 => ?_)
    refine s_istore C (L' := [(6, .int x10), (0, .ref v0), (3, .long v3), (5, .int v5)]) (by decide) rfl dX10_digestProgram_18 ?_
    exact s_weak [0, 3, 5, 6] rfl (sm_Main_digestProgram_20 C hV hR v0 v5 (v3, x10))
set_option maxRecDepth 20000 in
theorem sm_Main_digestProgram_5 {G : GT} {ad : Nat → Nat} {K : Int64 → Dm → Prop} (C : Cx G rm_Main_digestProgram cX10_digestProgram 7 RX10) (hV : Vx G rm_Main_digestProgram ad ZF (0, 0)) (hR : RtL G rm_Main_digestProgram ad ZF (0, 0) cX10_digestProgram K) (v0 : Nat) (s : (Int64 × Int32)) : Sm G rm_Main_digestProgram ad ZF (0, 0) K 5 ((fun (s : (Int64 × Int32)) => [(0, .ref v0), (3, .long s.1), (5, .int s.2)]) s) [] (Main_digestProgram_5 v0 s) :=
  s_loop (en := (fun (s : (Int64 × Int32)) => [(0, .ref v0), (3, .long s.1), (5, .int s.2)])) (fun s => sm_Main_digestProgram_5_b C hV hR v0 s.1 s.2) s
set_option maxRecDepth 20000 in
theorem sm_Main_digestProgram {G : GT} {ad : Nat → Nat} {K : Int64 → Dm → Prop} (C : Cx G rm_Main_digestProgram cX10_digestProgram 7 RX10) (hV : Vx G rm_Main_digestProgram ad ZF (0, 0)) (hR : RtL G rm_Main_digestProgram ad ZF (0, 0) cX10_digestProgram K) (v0 : Nat) (v1 : Int64) : Sm G rm_Main_digestProgram ad ZF (0, 0) K 0 [(0, .ref v0), (1, .long v1)] [] (Main_digestProgram v0 v1) := by
  unfold Main_digestProgram
  refine s_lload_n C rfl dX10_digestProgram_0 ?_
  refine s_lstore_n C (L' := [(3, .long v1), (0, .ref v0), (1, .long v1)]) (by decide) rfl dX10_digestProgram_1 ?_
  refine s_iconst C (0 : Int32) (by decide) dX10_digestProgram_2 ?_
  refine s_leti (fun x1 => ?_)
  refine s_istore C (L' := [(5, .int x1), (3, .long v1), (0, .ref v0), (1, .long v1)]) (by decide) rfl dX10_digestProgram_3 ?_
  exact s_weak [0, 3, 5] rfl (sm_Main_digestProgram_5 C hV hR v0 (v1, x1))
set_option maxRecDepth 20000 in
theorem met_Main_digestProgram (v0 : Nat) (v1 : Int64) : ML ZF yX10_digestProgram cX10_digestProgram 7 rm_Main_digestProgram [.ref v0, .long v1] (Main_digestProgram v0 v1) :=
  ml_of (L0 := [(0, .ref v0), (1, .long v1)]) (by decide +kernel) (Nat.le_of_ble_eq_true rfl) rfl (fun G ad K C hV hR => sm_Main_digestProgram C hV hR v0 v1)

noncomputable def Main_digest_216_b (v0 : Nat) (v1 : Int64) (v4 : Int32) : MM ((Int64 × Int32) ⊕ Int64) :=
  if (6 : Int32) < v4 then
  mr (
  mp v1)
  else
  mb (vc ZF 11 v0 (Main_count v0 v4)) fun r30 =>
  mb ((Main_mix v1 (r30.toInt64))) fun r31 =>
  ml (v4 + (1 : Int32)) fun x32 =>
  mp (.inl (r31, x32))
noncomputable def Main_digest_216 (v0 : Nat) (s : (Int64 × Int32)) : MM Int64 := lo (fun (s : (Int64 × Int32)) => Main_digest_216_b v0 s.1 s.2) s
noncomputable def Main_digest_179_b (v0 : Nat) (v1 : Int64) (v4 : Int32) : MM ((Int64 × Int32) ⊕ Int64) :=
  mb (gR ZF 11 4 v0) fun x27 =>
  mb (gI ZF 4 1 x27) fun x28 =>
  if x28 ≤ v4 then
  mr (
  ml (0 : Int32) fun x29 =>
  Main_digest_216 v0 (v1, x29))
  else
  mb (gR ZF 11 4 v0) fun x33 =>
  mb (gR ZF 4 0 x33) fun x34 =>
  mb (aI ZF 22 x34 v4) fun x35 =>
  mb ((Main_mix v1 (x35.toInt64))) fun r36 =>
  ml (v4 + (1 : Int32)) fun x37 =>
  mp (.inl (r36, x37))
noncomputable def Main_digest_179 (v0 : Nat) (s : (Int64 × Int32)) : MM Int64 := lo (fun (s : (Int64 × Int32)) => Main_digest_179_b v0 s.1 s.2) s
noncomputable def Main_digest_92_b (v0 : Nat) (v1 : Int64) (v4 : Int32) : MM ((Int64 × Int32) ⊕ Int64) :=
  mb (gR ZF 11 1 v0) fun x14 =>
  mb (gI ZF 6 1 x14) fun x15 =>
  if x15 < v4 then
  mr (
  mb (gR ZF 11 3 v0) fun x16 =>
  mb (gR ZF 11 1 v0) fun x17 =>
  mb (gL ZF 6 2 x17) fun x18 =>
  mb (vc ZF 3 x16 (Heal_healed x16 x18)) fun r19 =>
  mb ((Main_numberOf r19)) fun r20 =>
  mb ((Main_mix v1 r20)) fun r21 =>
  mb (gI ZF 11 8 v0) fun x22 =>
  mb ((Main_mix r21 (x22.toInt64))) fun r23 =>
  mb (gI ZF 11 9 v0) fun x24 =>
  mb ((Main_mix r23 (x24.toInt64))) fun r25 =>
  ml (0 : Int32) fun x26 =>
  Main_digest_179 v0 (r25, x26))
  else
  mb (gR ZF 11 6 v0) fun x38 =>
  mb (gR ZF 11 1 v0) fun x39 =>
  mb (vc ZF 2 x38 (Found_fill x38 x39 v4)) fun _ =>
  mb (gR ZF 11 6 v0) fun x40 =>
  mb (gI ZF 2 2 x40) fun x41 =>
  mb ((Main_mix v1 (x41.toInt64))) fun r42 =>
  ml (v4 + (1 : Int32)) fun x43 =>
  mp (.inl (r42, x43))
noncomputable def Main_digest_92 (v0 : Nat) (s : (Int64 × Int32)) : MM Int64 := lo (fun (s : (Int64 × Int32)) => Main_digest_92_b v0 s.1 s.2) s
noncomputable def Main_digest_39_b (v0 : Nat) (v1 : Int64) (v3 : Int32) (v4 : Int32) : MM ((Int64 × Int32) ⊕ Int64) :=
  mb (gR ZF 11 2 v0) fun x11 =>
  mb (gI ZF 8 1 x11) fun x12 =>
  if x12 ≤ v4 then
  mr (
  ml (0 : Int32) fun x13 =>
  Main_digest_92 v0 (v1, x13))
  else
  mb (gR ZF 11 2 v0) fun x44 =>
  mb (gI ZF 8 2 x44) fun x45 =>
  mb ((Main_mix v1 (((x45 >>> (v4 &&& 31)) &&& (1 : Int32)).toInt64))) fun r46 =>
  mb ((Main_mix r46 ((((v3 >>> (v4 &&& 31)) &&& (1 : Int32)) ^^^ (1 : Int32)).toInt64))) fun r47 =>
  ml (v4 + (1 : Int32)) fun x48 =>
  mp (.inl (r47, x48))
noncomputable def Main_digest_39 (v0 : Nat) (v3 : Int32) (s : (Int64 × Int32)) : MM Int64 := lo (fun (s : (Int64 × Int32)) => Main_digest_39_b v0 s.1 v3 s.2) s
noncomputable def Main_digest (v0 : Nat) : MM Int64 :=
  mb (gR ZF 11 1 v0) fun x1 =>
  mb (gL ZF 6 2 x1) fun x2 =>
  mb ((Main_numberOf x2)) fun r3 =>
  mb ((Main_mix (269 : Int64) r3)) fun r4 =>
  mb (vc ZF 11 v0 (Main_digestProgram v0 r4)) fun r5 =>
  mb (gR ZF 11 2 v0) fun x6 =>
  mb (gR ZF 11 1 v0) fun x7 =>
  mb (gL ZF 6 2 x7) fun x8 =>
  mb (vc ZF 8 x6 (Rule_failingIn x6 x8)) fun r9 =>
  ml (0 : Int32) fun x10 =>
  Main_digest_39 v0 r9 (r5, x10)
set_option maxRecDepth 20000 in
theorem sm_Main_digest_216_b {G : GT} {ad : Nat → Nat} {K : Int64 → Dm → Prop} (C : Cx G rm_Main_digest cX10_digest 5 RX10) (hV : Vx G rm_Main_digest ad ZF (0, 0)) (hR : RtL G rm_Main_digest ad ZF (0, 0) cX10_digest K) (v0 : Nat) (v1 : Int64) (v4 : Int32) : Sm G rm_Main_digest ad ZF (0, 0) (lpK G rm_Main_digest ad ZF (0, 0) 216 (fun (s : (Int64 × Int32)) => [(0, .ref v0), (1, .long s.1), (4, .int s.2)]) K) 216 [(0, .ref v0), (1, .long v1), (4, .int v4)] [] (Main_digest_216_b v0 v1 v4) := by
  unfold Main_digest_216_b
  refine s_iload C rfl dX10_digest_216 ?_
  refine s_bipush C (6 : Int32) (by decide) dX10_digest_218 ?_
  refine s_icmp_gt C 241 (by decide) dX10_digest_220 ?_ ?_
  · refine s_exit ?_
    refine s_lload_n C rfl dX10_digest_241 ?_
    exact s_lret hR dX10_digest_242
  · refine s_lload_n C rfl dX10_digest_223 ?_
    refine s_aload_n C rfl dX10_digest_224 ?_
    refine s_iload C rfl dX10_digest_225 ?_
    refine s_wI C hV lv_X10_297 (st := [.long v1]) (met_Main_count v0 v4) rf_Main_digest_Main_count rfl rfl (Nat.le_of_ble_eq_true rfl) dX10_digest_227 (fun r30 => ?_)
    refine s_i2l C dX10_digest_230 ?_
    refine s_uL C hV ls_X10_286 (st := []) (met_Main_mix v1 (r30.toInt64)) rf_Main_digest_Main_mix rfl rfl (Nat.le_of_ble_eq_true rfl) dX10_digest_231 (fun r31 => ?_)
    refine s_lstore_n C (L' := [(1, .long r31), (0, .ref v0), (4, .int v4)]) (by decide) rfl dX10_digest_234 ?_
    refine s_iinc C (L' := fun x32 => [(4, .int x32), (1, .long r31), (0, .ref v0)]) (1 : Int32) (by decide) rfl (by decide) (fun _ => rfl) dX10_digest_235 (fun x32 => ?_)
    refine s_goto C 216 (by decide) dX10_digest_238 ?_
    exact s_back [0, 1, 4] (r31, x32) rfl
set_option maxRecDepth 20000 in
theorem sm_Main_digest_216 {G : GT} {ad : Nat → Nat} {K : Int64 → Dm → Prop} (C : Cx G rm_Main_digest cX10_digest 5 RX10) (hV : Vx G rm_Main_digest ad ZF (0, 0)) (hR : RtL G rm_Main_digest ad ZF (0, 0) cX10_digest K) (v0 : Nat) (s : (Int64 × Int32)) : Sm G rm_Main_digest ad ZF (0, 0) K 216 ((fun (s : (Int64 × Int32)) => [(0, .ref v0), (1, .long s.1), (4, .int s.2)]) s) [] (Main_digest_216 v0 s) :=
  s_loop (en := (fun (s : (Int64 × Int32)) => [(0, .ref v0), (1, .long s.1), (4, .int s.2)])) (fun s => sm_Main_digest_216_b C hV hR v0 s.1 s.2) s
set_option maxRecDepth 20000 in
theorem sm_Main_digest_179_b {G : GT} {ad : Nat → Nat} {K : Int64 → Dm → Prop} (C : Cx G rm_Main_digest cX10_digest 5 RX10) (hV : Vx G rm_Main_digest ad ZF (0, 0)) (hR : RtL G rm_Main_digest ad ZF (0, 0) cX10_digest K) (v0 : Nat) (v1 : Int64) (v4 : Int32) : Sm G rm_Main_digest ad ZF (0, 0) (lpK G rm_Main_digest ad ZF (0, 0) 179 (fun (s : (Int64 × Int32)) => [(0, .ref v0), (1, .long s.1), (4, .int s.2)]) K) 179 [(0, .ref v0), (1, .long v1), (4, .int v4)] [] (Main_digest_179_b v0 v1 v4) := by
  unfold Main_digest_179_b
  refine s_iload C rfl dX10_digest_179 ?_
  refine s_aload_n C rfl dX10_digest_181 ?_
  refine s_getR C hV fl_X10_34 (fun _ _ _ => rfl) dX10_digest_182 (fun x27 => ?_)
  refine s_getI C hV fl_X10_140 (fun _ _ _ => rfl) dX10_digest_185 (fun x28 => ?_)
  refine s_icmp_ge C 213 (by decide) dX10_digest_188 ?_ ?_
  · refine s_exit ?_
    refine s_iconst C (0 : Int32) (by decide) dX10_digest_213 ?_
    refine s_leti (fun x29 => ?_)
    refine s_istore C (L' := [(4, .int x29), (0, .ref v0), (1, .long v1)]) (by decide) rfl dX10_digest_214 ?_
    exact s_weak [0, 1, 4] rfl (sm_Main_digest_216 C hV hR v0 (v1, x29))
  · refine s_lload_n C rfl dX10_digest_191 ?_
    refine s_aload_n C rfl dX10_digest_192 ?_
    refine s_getR C hV fl_X10_34 (fun _ _ _ => rfl) dX10_digest_193 (fun x33 => ?_)
    refine s_getR C hV fl_X10_293 (fun _ _ _ => rfl) dX10_digest_196 (fun x34 => ?_)
    refine s_iload C rfl dX10_digest_199 ?_
    refine s_caload C hV dX10_digest_201 (fun x35 => ?_)
    refine s_i2l C dX10_digest_202 ?_
    refine s_uL C hV ls_X10_286 (st := []) (met_Main_mix v1 (x35.toInt64)) rf_Main_digest_Main_mix rfl rfl (Nat.le_of_ble_eq_true rfl) dX10_digest_203 (fun r36 => ?_)
    refine s_lstore_n C (L' := [(1, .long r36), (0, .ref v0), (4, .int v4)]) (by decide) rfl dX10_digest_206 ?_
    refine s_iinc C (L' := fun x37 => [(4, .int x37), (1, .long r36), (0, .ref v0)]) (1 : Int32) (by decide) rfl (by decide) (fun _ => rfl) dX10_digest_207 (fun x37 => ?_)
    refine s_goto C 179 (by decide) dX10_digest_210 ?_
    exact s_back [0, 1, 4] (r36, x37) rfl
set_option maxRecDepth 20000 in
theorem sm_Main_digest_179 {G : GT} {ad : Nat → Nat} {K : Int64 → Dm → Prop} (C : Cx G rm_Main_digest cX10_digest 5 RX10) (hV : Vx G rm_Main_digest ad ZF (0, 0)) (hR : RtL G rm_Main_digest ad ZF (0, 0) cX10_digest K) (v0 : Nat) (s : (Int64 × Int32)) : Sm G rm_Main_digest ad ZF (0, 0) K 179 ((fun (s : (Int64 × Int32)) => [(0, .ref v0), (1, .long s.1), (4, .int s.2)]) s) [] (Main_digest_179 v0 s) :=
  s_loop (en := (fun (s : (Int64 × Int32)) => [(0, .ref v0), (1, .long s.1), (4, .int s.2)])) (fun s => sm_Main_digest_179_b C hV hR v0 s.1 s.2) s
set_option maxRecDepth 20000 in
theorem sm_Main_digest_92_b {G : GT} {ad : Nat → Nat} {K : Int64 → Dm → Prop} (C : Cx G rm_Main_digest cX10_digest 5 RX10) (hV : Vx G rm_Main_digest ad ZF (0, 0)) (hR : RtL G rm_Main_digest ad ZF (0, 0) cX10_digest K) (v0 : Nat) (v1 : Int64) (v4 : Int32) : Sm G rm_Main_digest ad ZF (0, 0) (lpK G rm_Main_digest ad ZF (0, 0) 92 (fun (s : (Int64 × Int32)) => [(0, .ref v0), (1, .long s.1), (4, .int s.2)]) K) 92 [(0, .ref v0), (1, .long v1), (4, .int v4)] [] (Main_digest_92_b v0 v1 v4) := by
  unfold Main_digest_92_b
  refine s_iload C rfl dX10_digest_92 ?_
  refine s_aload_n C rfl dX10_digest_94 ?_
  refine s_getR C hV fl_X10_20 (fun _ _ _ => rfl) dX10_digest_95 (fun x14 => ?_)
  refine s_getI C hV fl_X10_102 (fun _ _ _ => rfl) dX10_digest_98 (fun x15 => ?_)
  refine s_icmp_gt C 136 (by decide) dX10_digest_101 ?_ ?_
  · refine s_exit ?_
    refine s_lload_n C rfl dX10_digest_136 ?_
    refine s_aload_n C rfl dX10_digest_137 ?_
    refine s_getR C hV fl_X10_30 (fun _ _ _ => rfl) dX10_digest_138 (fun x16 => ?_)
    refine s_aload_n C rfl dX10_digest_141 ?_
    refine s_getR C hV fl_X10_20 (fun _ _ _ => rfl) dX10_digest_142 (fun x17 => ?_)
    refine s_getL C hV fl_X10_76 (fun _ _ _ => rfl) dX10_digest_145 (fun x18 => ?_)
    refine s_wL C hV lv_X10_206 (st := [.long v1]) (met_Heal_healed x16 x18) rf_Main_digest_Heal_healed rfl rfl (Nat.le_of_ble_eq_true rfl) dX10_digest_148 (fun r19 => ?_)
    refine s_uL C hV ls_X10_128 (st := [.long v1]) (met_Main_numberOf r19) rf_Main_digest_Main_numberOf rfl rfl (Nat.le_of_ble_eq_true rfl) dX10_digest_151 (fun r20 => ?_)
    refine s_uL C hV ls_X10_286 (st := []) (met_Main_mix v1 r20) rf_Main_digest_Main_mix rfl rfl (Nat.le_of_ble_eq_true rfl) dX10_digest_154 (fun r21 => ?_)
    refine s_lstore_n C (L' := [(1, .long r21), (0, .ref v0), (4, .int v4)]) (by decide) rfl dX10_digest_157 ?_
    refine s_lload_n C rfl dX10_digest_158 ?_
    refine s_aload_n C rfl dX10_digest_159 ?_
    refine s_getI C hV fl_X10_59 (fun _ _ _ => rfl) dX10_digest_160 (fun x22 => ?_)
    refine s_i2l C dX10_digest_163 ?_
    refine s_uL C hV ls_X10_286 (st := []) (met_Main_mix r21 (x22.toInt64)) rf_Main_digest_Main_mix rfl rfl (Nat.le_of_ble_eq_true rfl) dX10_digest_164 (fun r23 => ?_)
    refine s_aload_n C rfl dX10_digest_167 ?_
    refine s_getI C hV fl_X10_63 (fun _ _ _ => rfl) dX10_digest_168 (fun x24 => ?_)
    refine s_i2l C dX10_digest_171 ?_
    refine s_uL C hV ls_X10_286 (st := []) (met_Main_mix r23 (x24.toInt64)) rf_Main_digest_Main_mix rfl rfl (Nat.le_of_ble_eq_true rfl) dX10_digest_172 (fun r25 => ?_)
    refine s_lstore_n C (L' := [(1, .long r25), (0, .ref v0), (4, .int v4)]) (by decide) rfl dX10_digest_175 ?_
    refine s_iconst C (0 : Int32) (by decide) dX10_digest_176 ?_
    refine s_leti (fun x26 => ?_)
    refine s_istore C (L' := [(4, .int x26), (1, .long r25), (0, .ref v0)]) (by decide) rfl dX10_digest_177 ?_
    exact s_weak [0, 1, 4] rfl (sm_Main_digest_179 C hV hR v0 (r25, x26))
  · refine s_aload_n C rfl dX10_digest_104 ?_
    refine s_getR C hV fl_X10_48 (fun _ _ _ => rfl) dX10_digest_105 (fun x38 => ?_)
    refine s_aload_n C rfl dX10_digest_108 ?_
    refine s_getR C hV fl_X10_20 (fun _ _ _ => rfl) dX10_digest_109 (fun x39 => ?_)
    refine s_iload C rfl dX10_digest_112 ?_
    refine s_wV C hV lv_X10_193 (st := []) (met_Found_fill x38 x39 v4) rf_Main_digest_Found_fill rfl rfl (Nat.le_of_ble_eq_true rfl) dX10_digest_114 ?_
    refine s_lload_n C rfl dX10_digest_117 ?_
    refine s_aload_n C rfl dX10_digest_118 ?_
    refine s_getR C hV fl_X10_48 (fun _ _ _ => rfl) dX10_digest_119 (fun x40 => ?_)
    refine s_getI C hV fl_X10_197 (fun _ _ _ => rfl) dX10_digest_122 (fun x41 => ?_)
    refine s_i2l C dX10_digest_125 ?_
    refine s_uL C hV ls_X10_286 (st := []) (met_Main_mix v1 (x41.toInt64)) rf_Main_digest_Main_mix rfl rfl (Nat.le_of_ble_eq_true rfl) dX10_digest_126 (fun r42 => ?_)
    refine s_lstore_n C (L' := [(1, .long r42), (0, .ref v0), (4, .int v4)]) (by decide) rfl dX10_digest_129 ?_
    refine s_iinc C (L' := fun x43 => [(4, .int x43), (1, .long r42), (0, .ref v0)]) (1 : Int32) (by decide) rfl (by decide) (fun _ => rfl) dX10_digest_130 (fun x43 => ?_)
    refine s_goto C 92 (by decide) dX10_digest_133 ?_
    exact s_back [0, 1, 4] (r42, x43) rfl
set_option maxRecDepth 20000 in
theorem sm_Main_digest_92 {G : GT} {ad : Nat → Nat} {K : Int64 → Dm → Prop} (C : Cx G rm_Main_digest cX10_digest 5 RX10) (hV : Vx G rm_Main_digest ad ZF (0, 0)) (hR : RtL G rm_Main_digest ad ZF (0, 0) cX10_digest K) (v0 : Nat) (s : (Int64 × Int32)) : Sm G rm_Main_digest ad ZF (0, 0) K 92 ((fun (s : (Int64 × Int32)) => [(0, .ref v0), (1, .long s.1), (4, .int s.2)]) s) [] (Main_digest_92 v0 s) :=
  s_loop (en := (fun (s : (Int64 × Int32)) => [(0, .ref v0), (1, .long s.1), (4, .int s.2)])) (fun s => sm_Main_digest_92_b C hV hR v0 s.1 s.2) s
set_option maxRecDepth 20000 in
theorem sm_Main_digest_39_b {G : GT} {ad : Nat → Nat} {K : Int64 → Dm → Prop} (C : Cx G rm_Main_digest cX10_digest 5 RX10) (hV : Vx G rm_Main_digest ad ZF (0, 0)) (hR : RtL G rm_Main_digest ad ZF (0, 0) cX10_digest K) (v0 : Nat) (v1 : Int64) (v3 : Int32) (v4 : Int32) : Sm G rm_Main_digest ad ZF (0, 0) (lpK G rm_Main_digest ad ZF (0, 0) 39 (fun (s : (Int64 × Int32)) => [(0, .ref v0), (1, .long s.1), (3, .int v3), (4, .int s.2)]) K) 39 [(0, .ref v0), (1, .long v1), (3, .int v3), (4, .int v4)] [] (Main_digest_39_b v0 v1 v3 v4) := by
  unfold Main_digest_39_b
  refine s_iload C rfl dX10_digest_39 ?_
  refine s_aload_n C rfl dX10_digest_41 ?_
  refine s_getR C hV fl_X10_25 (fun _ _ _ => rfl) dX10_digest_42 (fun x11 => ?_)
  refine s_getI C hV fl_X10_153 (fun _ _ _ => rfl) dX10_digest_45 (fun x12 => ?_)
  refine s_icmp_ge C 89 (by decide) dX10_digest_48 ?_ ?_
  · refine s_exit ?_
    refine s_iconst C (0 : Int32) (by decide) dX10_digest_89 ?_
    refine s_leti (fun x13 => ?_)
    refine s_istore C (L' := [(4, .int x13), (0, .ref v0), (1, .long v1), (3, .int v3)]) (by decide) rfl dX10_digest_90 ?_
    exact s_weak [0, 1, 4] rfl (sm_Main_digest_92 C hV hR v0 (v1, x13))
  · refine s_lload_n C rfl dX10_digest_51 ?_
    refine s_aload_n C rfl dX10_digest_52 ?_
    refine s_getR C hV fl_X10_25 (fun _ _ _ => rfl) dX10_digest_53 (fun x44 => ?_)
    refine s_getI C hV fl_X10_177 (fun _ _ _ => rfl) dX10_digest_56 (fun x45 => ?_)
    refine s_iload C rfl dX10_digest_59 ?_
    refine s_ishr C dX10_digest_61 ?_
    refine s_iconst C (1 : Int32) (by decide) dX10_digest_62 ?_
    refine s_iand C dX10_digest_63 ?_
    refine s_i2l C dX10_digest_64 ?_
    refine s_uL C hV ls_X10_286 (st := []) (met_Main_mix v1 (((x45 >>> (v4 &&& 31)) &&& (1 : Int32)).toInt64)) rf_Main_digest_Main_mix rfl rfl (Nat.le_of_ble_eq_true rfl) dX10_digest_65 (fun r46 => ?_)
    refine s_lstore_n C (L' := [(1, .long r46), (0, .ref v0), (3, .int v3), (4, .int v4)]) (by decide) rfl dX10_digest_68 ?_
    refine s_lload_n C rfl dX10_digest_69 ?_
    refine s_iload_n C rfl dX10_digest_70 ?_
    refine s_iload C rfl dX10_digest_71 ?_
    refine s_ishr C dX10_digest_73 ?_
    refine s_iconst C (1 : Int32) (by decide) dX10_digest_74 ?_
    refine s_iand C dX10_digest_75 ?_
    refine s_iconst C (1 : Int32) (by decide) dX10_digest_76 ?_
    refine s_ixor C dX10_digest_77 ?_
    refine s_i2l C dX10_digest_78 ?_
    refine s_uL C hV ls_X10_286 (st := []) (met_Main_mix r46 ((((v3 >>> (v4 &&& 31)) &&& (1 : Int32)) ^^^ (1 : Int32)).toInt64)) rf_Main_digest_Main_mix rfl rfl (Nat.le_of_ble_eq_true rfl) dX10_digest_79 (fun r47 => ?_)
    refine s_lstore_n C (L' := [(1, .long r47), (0, .ref v0), (3, .int v3), (4, .int v4)]) (by decide) rfl dX10_digest_82 ?_
    refine s_iinc C (L' := fun x48 => [(4, .int x48), (1, .long r47), (0, .ref v0), (3, .int v3)]) (1 : Int32) (by decide) rfl (by decide) (fun _ => rfl) dX10_digest_83 (fun x48 => ?_)
    refine s_goto C 39 (by decide) dX10_digest_86 ?_
    exact s_back [0, 1, 3, 4] (r47, x48) rfl
set_option maxRecDepth 20000 in
theorem sm_Main_digest_39 {G : GT} {ad : Nat → Nat} {K : Int64 → Dm → Prop} (C : Cx G rm_Main_digest cX10_digest 5 RX10) (hV : Vx G rm_Main_digest ad ZF (0, 0)) (hR : RtL G rm_Main_digest ad ZF (0, 0) cX10_digest K) (v0 : Nat) (v3 : Int32) (s : (Int64 × Int32)) : Sm G rm_Main_digest ad ZF (0, 0) K 39 ((fun (s : (Int64 × Int32)) => [(0, .ref v0), (1, .long s.1), (3, .int v3), (4, .int s.2)]) s) [] (Main_digest_39 v0 v3 s) :=
  s_loop (en := (fun (s : (Int64 × Int32)) => [(0, .ref v0), (1, .long s.1), (3, .int v3), (4, .int s.2)])) (fun s => sm_Main_digest_39_b C hV hR v0 s.1 v3 s.2) s
set_option maxRecDepth 20000 in
theorem sm_Main_digest {G : GT} {ad : Nat → Nat} {K : Int64 → Dm → Prop} (C : Cx G rm_Main_digest cX10_digest 5 RX10) (hV : Vx G rm_Main_digest ad ZF (0, 0)) (hR : RtL G rm_Main_digest ad ZF (0, 0) cX10_digest K) (v0 : Nat) : Sm G rm_Main_digest ad ZF (0, 0) K 0 [(0, .ref v0)] [] (Main_digest v0) := by
  unfold Main_digest
  refine s_aload_n C rfl dX10_digest_0 ?_
  refine s_ldc2 C kl_X10_284 dX10_digest_1 ?_
  refine s_aload_n C rfl dX10_digest_4 ?_
  refine s_getR C hV fl_X10_20 (fun _ _ _ => rfl) dX10_digest_5 (fun x1 => ?_)
  refine s_getL C hV fl_X10_76 (fun _ _ _ => rfl) dX10_digest_8 (fun x2 => ?_)
  refine s_uL C hV ls_X10_128 (st := [.long (269 : Int64), .ref v0]) (met_Main_numberOf x2) rf_Main_digest_Main_numberOf rfl rfl (Nat.le_of_ble_eq_true rfl) dX10_digest_11 (fun r3 => ?_)
  refine s_uL C hV ls_X10_286 (st := [.ref v0]) (met_Main_mix (269 : Int64) r3) rf_Main_digest_Main_mix rfl rfl (Nat.le_of_ble_eq_true rfl) dX10_digest_14 (fun r4 => ?_)
  refine s_wL C hV lv_X10_290 (st := []) (met_Main_digestProgram v0 r4) rf_Main_digest_Main_digestProgram rfl rfl (Nat.le_of_ble_eq_true rfl) dX10_digest_17 (fun r5 => ?_)
  refine s_lstore_n C (L' := [(1, .long r5), (0, .ref v0)]) (by decide) rfl dX10_digest_20 ?_
  refine s_aload_n C rfl dX10_digest_21 ?_
  refine s_getR C hV fl_X10_25 (fun _ _ _ => rfl) dX10_digest_22 (fun x6 => ?_)
  refine s_aload_n C rfl dX10_digest_25 ?_
  refine s_getR C hV fl_X10_20 (fun _ _ _ => rfl) dX10_digest_26 (fun x7 => ?_)
  refine s_getL C hV fl_X10_76 (fun _ _ _ => rfl) dX10_digest_29 (fun x8 => ?_)
  refine s_wI C hV lv_X10_187 (st := []) (met_Rule_failingIn x6 x8) rf_Main_digest_Rule_failingIn rfl rfl (Nat.le_of_ble_eq_true rfl) dX10_digest_32 (fun r9 => ?_)
  refine s_istore_n C (L' := [(3, .int r9), (1, .long r5), (0, .ref v0)]) (by decide) rfl dX10_digest_35 ?_
  refine s_iconst C (0 : Int32) (by decide) dX10_digest_36 ?_
  refine s_leti (fun x10 => ?_)
  refine s_istore C (L' := [(4, .int x10), (3, .int r9), (1, .long r5), (0, .ref v0)]) (by decide) rfl dX10_digest_37 ?_
  exact s_weak [0, 1, 3, 4] rfl (sm_Main_digest_39 C hV hR v0 r9 (r5, x10))
set_option maxRecDepth 20000 in
theorem met_Main_digest (v0 : Nat) : ML ZF yX10_digest cX10_digest 5 rm_Main_digest [.ref v0] (Main_digest v0) :=
  ml_of (L0 := [(0, .ref v0)]) (by decide +kernel) (Nat.le_of_ble_eq_true rfl) rfl (fun G ad K C hV hR => sm_Main_digest C hV hR v0)
