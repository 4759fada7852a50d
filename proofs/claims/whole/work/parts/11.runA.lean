noncomputable def Main_isSector (v0 : Int32) : MM Int32 :=
  if v0 < 0 then
  mz (0 : Int32)
  else
  if (8 : Int32) ≤ v0 then
  mz (0 : Int32)
  else
  mz (1 : Int32)
set_option maxRecDepth 20000 in
theorem sm_Main_isSector {G : GT} {ad : Nat → Nat} {K : Int32 → Dm → Prop} (C : Cx G rm_Main_isSector cX10_isSector 1 RX10) (hV : Vx G rm_Main_isSector ad ZF (0, 0)) (hR : RtI G rm_Main_isSector ad ZF (0, 0) cX10_isSector .boolean K) (v0 : Int32) : Sm G rm_Main_isSector ad ZF (0, 0) K 0 [(0, .int v0)] [] (Main_isSector v0) := by
  unfold Main_isSector
  refine s_iload_n C rfl dX10_isSector_0 ?_
  refine s_if_lt C 14 (by decide) dX10_isSector_1 ?_ ?_
  · refine s_iconst C (0 : Int32) (by decide) dX10_isSector_14 ?_
    exact s_iretz hR dX10_isSector_15
  · refine s_iload_n C rfl dX10_isSector_4 ?_
    refine s_bipush C (8 : Int32) (by decide) dX10_isSector_5 ?_
    refine s_icmp_ge C 14 (by decide) dX10_isSector_7 ?_ ?_
    · refine s_iconst C (0 : Int32) (by decide) dX10_isSector_14 ?_
      exact s_iretz hR dX10_isSector_15
    · refine s_iconst C (1 : Int32) (by decide) dX10_isSector_10 ?_
      refine s_goto C 15 (by decide) dX10_isSector_11 ?_
      exact s_iretz hR dX10_isSector_15
set_option maxRecDepth 20000 in
theorem met_Main_isSector (v0 : Int32) : MI ZF yX10_isSector cX10_isSector 1 .boolean rm_Main_isSector [.int v0] (Main_isSector v0) :=
  mi_of (L0 := [(0, .int v0)]) (by decide +kernel) (Nat.le_of_ble_eq_true rfl) rfl (fun G ad K C hV hR => sm_Main_isSector C hV hR v0)

noncomputable def Main_isFigure (v0 : Int32) : MM Int32 :=
  if v0 < 0 then
  mz (0 : Int32)
  else
  if (99 : Int32) < v0 then
  mz (0 : Int32)
  else
  mz (1 : Int32)
set_option maxRecDepth 20000 in
theorem sm_Main_isFigure {G : GT} {ad : Nat → Nat} {K : Int32 → Dm → Prop} (C : Cx G rm_Main_isFigure cX10_isFigure 1 RX10) (hV : Vx G rm_Main_isFigure ad ZF (0, 0)) (hR : RtI G rm_Main_isFigure ad ZF (0, 0) cX10_isFigure .boolean K) (v0 : Int32) : Sm G rm_Main_isFigure ad ZF (0, 0) K 0 [(0, .int v0)] [] (Main_isFigure v0) := by
  unfold Main_isFigure
  refine s_iload_n C rfl dX10_isFigure_0 ?_
  refine s_if_lt C 14 (by decide) dX10_isFigure_1 ?_ ?_
  · refine s_iconst C (0 : Int32) (by decide) dX10_isFigure_14 ?_
    exact s_iretz hR dX10_isFigure_15
  · refine s_iload_n C rfl dX10_isFigure_4 ?_
    refine s_bipush C (99 : Int32) (by decide) dX10_isFigure_5 ?_
    refine s_icmp_gt C 14 (by decide) dX10_isFigure_7 ?_ ?_
    · refine s_iconst C (0 : Int32) (by decide) dX10_isFigure_14 ?_
      exact s_iretz hR dX10_isFigure_15
    · refine s_iconst C (1 : Int32) (by decide) dX10_isFigure_10 ?_
      refine s_goto C 15 (by decide) dX10_isFigure_11 ?_
      exact s_iretz hR dX10_isFigure_15
set_option maxRecDepth 20000 in
theorem met_Main_isFigure (v0 : Int32) : MI ZF yX10_isFigure cX10_isFigure 1 .boolean rm_Main_isFigure [.int v0] (Main_isFigure v0) :=
  mi_of (L0 := [(0, .int v0)]) (by decide +kernel) (Nat.le_of_ble_eq_true rfl) rfl (fun G ad K C hV hR => sm_Main_isFigure C hV hR v0)

noncomputable def Main_figureOf (v0 : Int64) (v2 : Int32) : MM Int32 :=
  mp (((((v0).toUInt64 >>> ((((8 : Int32) * v2)).toInt64.toUInt64 &&& Int64.toUInt64 63)).toInt64) &&& (255 : Int64)).toInt32)
set_option maxRecDepth 20000 in
theorem sm_Main_figureOf {G : GT} {ad : Nat → Nat} {K : Int32 → Dm → Prop} (C : Cx G rm_Main_figureOf cX10_figureOf 3 RX10) (hV : Vx G rm_Main_figureOf ad ZF (0, 0)) (hR : RtI G rm_Main_figureOf ad ZF (0, 0) cX10_figureOf .int K) (v0 : Int64) (v2 : Int32) : Sm G rm_Main_figureOf ad ZF (0, 0) K 0 [(0, .long v0), (2, .int v2)] [] (Main_figureOf v0 v2) := by
  unfold Main_figureOf
  refine s_lload_n C rfl dX10_figureOf_0 ?_
  refine s_bipush C (8 : Int32) (by decide) dX10_figureOf_1 ?_
  refine s_iload_n C rfl dX10_figureOf_3 ?_
  refine s_imul C dX10_figureOf_4 ?_
  refine s_lushr C dX10_figureOf_5 ?_
  refine s_ldc2 C kl_X10_307 dX10_figureOf_6 ?_
  refine s_land C dX10_figureOf_9 ?_
  refine s_l2i C dX10_figureOf_10 ?_
  exact s_ireti hR dX10_figureOf_11
set_option maxRecDepth 20000 in
theorem met_Main_figureOf (v0 : Int64) (v2 : Int32) : MI ZF yX10_figureOf cX10_figureOf 3 .int rm_Main_figureOf [.long v0, .int v2] (Main_figureOf v0 v2) :=
  mi_of (L0 := [(0, .long v0), (2, .int v2)]) (by decide +kernel) (Nat.le_of_ble_eq_true rfl) rfl (fun G ad K C hV hR => sm_Main_figureOf C hV hR v0 v2)

noncomputable def Main_withFigure (v0 : Int64) (v2 : Int32) (v3 : Int32) : MM Int64 :=
  mp ((v0 &&& (((255 : Int64) <<< ((((8 : Int32) * v2)).toInt64 &&& 63)) ^^^ ((-1) : Int64))) ||| ((v3.toInt64) <<< ((((8 : Int32) * v2)).toInt64 &&& 63)))
set_option maxRecDepth 20000 in
theorem sm_Main_withFigure {G : GT} {ad : Nat → Nat} {K : Int64 → Dm → Prop} (C : Cx G rm_Main_withFigure cX10_withFigure 4 RX10) (hV : Vx G rm_Main_withFigure ad ZF (0, 0)) (hR : RtL G rm_Main_withFigure ad ZF (0, 0) cX10_withFigure K) (v0 : Int64) (v2 : Int32) (v3 : Int32) : Sm G rm_Main_withFigure ad ZF (0, 0) K 0 [(0, .long v0), (2, .int v2), (3, .int v3)] [] (Main_withFigure v0 v2 v3) := by
  unfold Main_withFigure
  refine s_lload_n C rfl dX10_withFigure_0 ?_
  refine s_ldc2 C kl_X10_307 dX10_withFigure_1 ?_
  refine s_bipush C (8 : Int32) (by decide) dX10_withFigure_4 ?_
  refine s_iload_n C rfl dX10_withFigure_6 ?_
  refine s_imul C dX10_withFigure_7 ?_
  refine s_lshl C dX10_withFigure_8 ?_
  refine s_ldc2 C kl_X10_204 dX10_withFigure_9 ?_
  refine s_lxor C dX10_withFigure_12 ?_
  refine s_land C dX10_withFigure_13 ?_
  refine s_iload_n C rfl dX10_withFigure_14 ?_
  refine s_i2l C dX10_withFigure_15 ?_
  refine s_bipush C (8 : Int32) (by decide) dX10_withFigure_16 ?_
  refine s_iload_n C rfl dX10_withFigure_18 ?_
  refine s_imul C dX10_withFigure_19 ?_
  refine s_lshl C dX10_withFigure_20 ?_
  refine s_lor C dX10_withFigure_21 ?_
  exact s_lret hR dX10_withFigure_22
set_option maxRecDepth 20000 in
theorem met_Main_withFigure (v0 : Int64) (v2 : Int32) (v3 : Int32) : ML ZF yX10_withFigure cX10_withFigure 4 rm_Main_withFigure [.long v0, .int v2, .int v3] (Main_withFigure v0 v2 v3) :=
  ml_of (L0 := [(0, .long v0), (2, .int v2), (3, .int v3)]) (by decide +kernel) (Nat.le_of_ble_eq_true rfl) rfl (fun G ad K C hV hR => sm_Main_withFigure C hV hR v0 v2 v3)

noncomputable def Found_forget (v0 : Nat) : MM Unit :=
  mb (pI ZF 2 3 v0 ((-1) : Int32)) fun _ =>
  mp ()
set_option maxRecDepth 20000 in
theorem sm_Found_forget {G : GT} {ad : Nat → Nat} {K : Unit → Dm → Prop} (C : Cx G rm_Found_forget cX1_forget 1 RX1) (hV : Vx G rm_Found_forget ad ZF (0, 0)) (hR : RtV G rm_Found_forget ad ZF (0, 0) cX1_forget K) (v0 : Nat) : Sm G rm_Found_forget ad ZF (0, 0) K 0 [(0, .ref v0)] [] (Found_forget v0) := by
  unfold Found_forget
  refine s_aload_n C rfl dX1_forget_0 ?_
  refine s_iconst C ((-1) : Int32) (by decide) dX1_forget_1 ?_
  refine s_putI C hV fw_X1_23 rfl dX1_forget_2 ?_
  exact s_vret hR dX1_forget_5
set_option maxRecDepth 20000 in
theorem met_Found_forget (v0 : Nat) : MV ZF yX1_forget cX1_forget 1 rm_Found_forget [.ref v0] (Found_forget v0) :=
  mv_of (L0 := [(0, .ref v0)]) (by decide +kernel) (Nat.le_of_ble_eq_true rfl) rfl (fun G ad K C hV hR => sm_Found_forget C hV hR v0)

noncomputable def Verd_forget (v0 : Nat) : MM Unit :=
  mb (gI ZF 10 4 v0) fun x1 =>
  mb (pI ZF 10 4 v0 (x1 + (1 : Int32))) fun _ =>
  mp ()
set_option maxRecDepth 20000 in
theorem sm_Verd_forget {G : GT} {ad : Nat → Nat} {K : Unit → Dm → Prop} (C : Cx G rm_Verd_forget cX9_forget 1 RX9) (hV : Vx G rm_Verd_forget ad ZF (0, 0)) (hR : RtV G rm_Verd_forget ad ZF (0, 0) cX9_forget K) (v0 : Nat) : Sm G rm_Verd_forget ad ZF (0, 0) K 0 [(0, .ref v0)] [] (Verd_forget v0) := by
  unfold Verd_forget
  refine s_aload_n C rfl dX9_forget_0 ?_
  refine s_dupr C dX9_forget_1 ?_
  refine s_getI C hV fl_X9_36 (fun _ _ _ => rfl) dX9_forget_2 (fun x1 => ?_)
  refine s_iconst C (1 : Int32) (by decide) dX9_forget_5 ?_
  refine s_iadd C dX9_forget_6 ?_
  refine s_putI C hV fw_X9_36 rfl dX9_forget_7 ?_
  exact s_vret hR dX9_forget_10
set_option maxRecDepth 20000 in
theorem met_Verd_forget (v0 : Nat) : MV ZF yX9_forget cX9_forget 1 rm_Verd_forget [.ref v0] (Verd_forget v0) :=
  mv_of (L0 := [(0, .ref v0)]) (by decide +kernel) (Nat.le_of_ble_eq_true rfl) rfl (fun G ad K C hV hR => sm_Verd_forget C hV hR v0)

noncomputable def Act_become (v0 : Nat) (v1 : Int32) (v2 : Int32) (v3 : Int32) (v4 : Int32) (v5 : Int32) : MM Unit :=
  mb (pI ZF 1 0 v0 v1) fun _ =>
  mb (pI ZF 1 1 v0 v2) fun _ =>
  mb (pI ZF 1 2 v0 v3) fun _ =>
  mb (pI ZF 1 3 v0 v4) fun _ =>
  mb (pI ZF 1 4 v0 v5) fun _ =>
  mp ()
set_option maxRecDepth 20000 in
theorem sm_Act_become {G : GT} {ad : Nat → Nat} {K : Unit → Dm → Prop} (C : Cx G rm_Act_become cX0_become 6 RX0) (hV : Vx G rm_Act_become ad ZF (0, 0)) (hR : RtV G rm_Act_become ad ZF (0, 0) cX0_become K) (v0 : Nat) (v1 : Int32) (v2 : Int32) (v3 : Int32) (v4 : Int32) (v5 : Int32) : Sm G rm_Act_become ad ZF (0, 0) K 0 [(0, .ref v0), (1, .int v1), (2, .int v2), (3, .int v3), (4, .int v4), (5, .int v5)] [] (Act_become v0 v1 v2 v3 v4 v5) := by
  unfold Act_become
  refine s_aload_n C rfl dX0_become_0 ?_
  refine s_iload_n C rfl dX0_become_1 ?_
  refine s_putI C hV fw_X0_9 rfl dX0_become_2 ?_
  refine s_aload_n C rfl dX0_become_5 ?_
  refine s_iload_n C rfl dX0_become_6 ?_
  refine s_putI C hV fw_X0_15 rfl dX0_become_7 ?_
  refine s_aload_n C rfl dX0_become_10 ?_
  refine s_iload_n C rfl dX0_become_11 ?_
  refine s_putI C hV fw_X0_18 rfl dX0_become_12 ?_
  refine s_aload_n C rfl dX0_become_15 ?_
  refine s_iload C rfl dX0_become_16 ?_
  refine s_putI C hV fw_X0_21 rfl dX0_become_18 ?_
  refine s_aload_n C rfl dX0_become_21 ?_
  refine s_iload C rfl dX0_become_22 ?_
  refine s_putI C hV fw_X0_24 rfl dX0_become_24 ?_
  exact s_vret hR dX0_become_27
set_option maxRecDepth 20000 in
theorem met_Act_become (v0 : Nat) (v1 : Int32) (v2 : Int32) (v3 : Int32) (v4 : Int32) (v5 : Int32) : MV ZF yX0_become cX0_become 6 rm_Act_become [.ref v0, .int v1, .int v2, .int v3, .int v4, .int v5] (Act_become v0 v1 v2 v3 v4 v5) :=
  mv_of (L0 := [(0, .ref v0), (1, .int v1), (2, .int v2), (3, .int v3), (4, .int v4), (5, .int v5)]) (by decide +kernel) (Nat.le_of_ble_eq_true rfl) rfl (fun G ad K C hV hR => sm_Act_become C hV hR v0 v1 v2 v3 v4 v5)

noncomputable def Rule_has (v0 : Nat) (v1 : Int32) : MM Int32 :=
  if v1 < 0 then
  mz (0 : Int32)
  else
  mb (gI ZF 8 1 v0) fun x1 =>
  if x1 ≤ v1 then
  mz (0 : Int32)
  else
  mz (1 : Int32)
set_option maxRecDepth 20000 in
theorem sm_Rule_has {G : GT} {ad : Nat → Nat} {K : Int32 → Dm → Prop} (C : Cx G rm_Rule_has cX7_has 2 RX7) (hV : Vx G rm_Rule_has ad ZF (0, 0)) (hR : RtI G rm_Rule_has ad ZF (0, 0) cX7_has .boolean K) (v0 : Nat) (v1 : Int32) : Sm G rm_Rule_has ad ZF (0, 0) K 0 [(0, .ref v0), (1, .int v1)] [] (Rule_has v0 v1) := by
  unfold Rule_has
  refine s_iload_n C rfl dX7_has_0 ?_
  refine s_if_lt C 16 (by decide) dX7_has_1 ?_ ?_
  · refine s_iconst C (0 : Int32) (by decide) dX7_has_16 ?_
    exact s_iretz hR dX7_has_17
  · refine s_iload_n C rfl dX7_has_4 ?_
    refine s_aload_n C rfl dX7_has_5 ?_
    refine s_getI C hV fl_X7_17 (fun _ _ _ => rfl) dX7_has_6 (fun x1 => ?_)
    refine s_icmp_ge C 16 (by decide) dX7_has_9 ?_ ?_
    · refine s_iconst C (0 : Int32) (by decide) dX7_has_16 ?_
      exact s_iretz hR dX7_has_17
    · refine s_iconst C (1 : Int32) (by decide) dX7_has_12 ?_
      refine s_goto C 17 (by decide) dX7_has_13 ?_
      exact s_iretz hR dX7_has_17
set_option maxRecDepth 20000 in
theorem met_Rule_has (v0 : Nat) (v1 : Int32) : MI ZF yX7_has cX7_has 2 .boolean rm_Rule_has [.ref v0, .int v1] (Rule_has v0 v1) :=
  mi_of (L0 := [(0, .ref v0), (1, .int v1)]) (by decide +kernel) (Nat.le_of_ble_eq_true rfl) rfl (fun G ad K C hV hR => sm_Rule_has C hV hR v0 v1)

noncomputable def Prog_has (v0 : Nat) (v1 : Int32) : MM Int32 :=
  if v1 < 0 then
  mz (0 : Int32)
  else
  mb (gI ZF 6 1 v0) fun x1 =>
  if x1 ≤ v1 then
  mz (0 : Int32)
  else
  mz (1 : Int32)
set_option maxRecDepth 20000 in
theorem sm_Prog_has {G : GT} {ad : Nat → Nat} {K : Int32 → Dm → Prop} (C : Cx G rm_Prog_has cX5_has 2 RX5) (hV : Vx G rm_Prog_has ad ZF (0, 0)) (hR : RtI G rm_Prog_has ad ZF (0, 0) cX5_has .boolean K) (v0 : Nat) (v1 : Int32) : Sm G rm_Prog_has ad ZF (0, 0) K 0 [(0, .ref v0), (1, .int v1)] [] (Prog_has v0 v1) := by
  unfold Prog_has
  refine s_iload_n C rfl dX5_has_0 ?_
  refine s_if_lt C 16 (by decide) dX5_has_1 ?_ ?_
  · refine s_iconst C (0 : Int32) (by decide) dX5_has_16 ?_
    exact s_iretz hR dX5_has_17
  · refine s_iload_n C rfl dX5_has_4 ?_
    refine s_aload_n C rfl dX5_has_5 ?_
    refine s_getI C hV fl_X5_17 (fun _ _ _ => rfl) dX5_has_6 (fun x1 => ?_)
    refine s_icmp_ge C 16 (by decide) dX5_has_9 ?_ ?_
    · refine s_iconst C (0 : Int32) (by decide) dX5_has_16 ?_
      exact s_iretz hR dX5_has_17
    · refine s_iconst C (1 : Int32) (by decide) dX5_has_12 ?_
      refine s_goto C 17 (by decide) dX5_has_13 ?_
      exact s_iretz hR dX5_has_17
set_option maxRecDepth 20000 in
theorem met_Prog_has (v0 : Nat) (v1 : Int32) : MI ZF yX5_has cX5_has 2 .boolean rm_Prog_has [.ref v0, .int v1] (Prog_has v0 v1) :=
  mi_of (L0 := [(0, .ref v0), (1, .int v1)]) (by decide +kernel) (Nat.le_of_ble_eq_true rfl) rfl (fun G ad K C hV hR => sm_Prog_has C hV hR v0 v1)

noncomputable def Prog_exchange (v0 : Nat) (v1 : Int32) (v2 : Int32) : MM Unit :=
  mb (gR ZF 6 0 v0) fun x1 =>
  mb (aR ZF 26 x1 v1) fun x2 =>
  mb (gR ZF 6 0 v0) fun x3 =>
  mb (gR ZF 6 0 v0) fun x4 =>
  mb (aR ZF 26 x4 v2) fun x5 =>
  mb (sR ZF 26 1 x3 v1 x5) fun _ =>
  mb (gR ZF 6 0 v0) fun x6 =>
  mb (sR ZF 26 1 x6 v2 x2) fun _ =>
  mp ()
set_option maxRecDepth 20000 in
theorem sm_Prog_exchange {G : GT} {ad : Nat → Nat} {K : Unit → Dm → Prop} (C : Cx G rm_Prog_exchange cX5_exchange 4 RX5) (hV : Vx G rm_Prog_exchange ad ZF (0, 0)) (hR : RtV G rm_Prog_exchange ad ZF (0, 0) cX5_exchange K) (v0 : Nat) (v1 : Int32) (v2 : Int32) : Sm G rm_Prog_exchange ad ZF (0, 0) K 0 [(0, .ref v0), (1, .int v1), (2, .int v2)] [] (Prog_exchange v0 v1 v2) := by
  unfold Prog_exchange
  refine s_aload_n C rfl dX5_exchange_0 ?_
  refine s_getR C hV fl_X5_11 (fun _ _ _ => rfl) dX5_exchange_1 (fun x1 => ?_)
  refine s_iload_n C rfl dX5_exchange_4 ?_
  refine s_aaloadA C hV dX5_exchange_5 (fun x2 => ?_)
  refine s_astore_n C (L' := [(3, .ref x2), (0, .ref v0), (1, .int v1), (2, .int v2)]) (by decide) rfl dX5_exchange_6 ?_
  refine s_aload_n C rfl dX5_exchange_7 ?_
  refine s_getR C hV fl_X5_11 (fun _ _ _ => rfl) dX5_exchange_8 (fun x3 => ?_)
  refine s_iload_n C rfl dX5_exchange_11 ?_
  refine s_aload_n C rfl dX5_exchange_12 ?_
  refine s_getR C hV fl_X5_11 (fun _ _ _ => rfl) dX5_exchange_13 (fun x4 => ?_)
  refine s_iload_n C rfl dX5_exchange_16 ?_
  refine s_aaloadA C hV dX5_exchange_17 (fun x5 => ?_)
  refine s_aastoreA C hV dX5_exchange_18 ?_
  refine s_aload_n C rfl dX5_exchange_19 ?_
  refine s_getR C hV fl_X5_11 (fun _ _ _ => rfl) dX5_exchange_20 (fun x6 => ?_)
  refine s_iload_n C rfl dX5_exchange_23 ?_
  refine s_aload_n C rfl dX5_exchange_24 ?_
  refine s_aastoreA C hV dX5_exchange_25 ?_
  exact s_vret hR dX5_exchange_26
set_option maxRecDepth 20000 in
theorem met_Prog_exchange (v0 : Nat) (v1 : Int32) (v2 : Int32) : MV ZF yX5_exchange cX5_exchange 4 rm_Prog_exchange [.ref v0, .int v1, .int v2] (Prog_exchange v0 v1 v2) :=
  mv_of (L0 := [(0, .ref v0), (1, .int v1), (2, .int v2)]) (by decide +kernel) (Nat.le_of_ble_eq_true rfl) rfl (fun G ad K C hV hR => sm_Prog_exchange C hV hR v0 v1 v2)

noncomputable def Act_part (v0 : Nat) (v1 : Int32) : MM Int32 :=
  sw v1 (0 : Int32) [(
  mb (gI ZF 1 0 v0) fun x2 =>
  mp x2),
(
  mb (gI ZF 1 1 v0) fun x3 =>
  mp x3),
(
  mb (gI ZF 1 2 v0) fun x4 =>
  mp x4),
(
  mb (gI ZF 1 3 v0) fun x5 =>
  mp x5)] (
  mb (gI ZF 1 4 v0) fun x1 =>
  mp x1)
set_option maxRecDepth 20000 in
theorem sm_Act_part {G : GT} {ad : Nat → Nat} {K : Int32 → Dm → Prop} (C : Cx G rm_Act_part cX0_part 2 RX0) (hV : Vx G rm_Act_part ad ZF (0, 0)) (hR : RtI G rm_Act_part ad ZF (0, 0) cX0_part .int K) (v0 : Nat) (v1 : Int32) : Sm G rm_Act_part ad ZF (0, 0) K 0 [(0, .ref v0), (1, .int v1)] [] (Act_part v0 v1) := by
  unfold Act_part
  refine s_iload_n C rfl dX0_part_0 ?_
  refine s_tsw C (k := (0 : Int32)) (by decide) (by simp) (by simp) dX0_part_1 52 (by decide) ?_ ?_
  · refine s_aload_n C rfl dX0_part_52 ?_
    refine s_getI C hV fl_X0_24 (fun _ _ _ => rfl) dX0_part_53 (fun x1 => ?_)
    exact s_ireti hR dX0_part_56
  · intro i g hg
    match i, hg with
    | 0, hg =>
      cases hg
      refine ⟨31, 32, rfl, by decide, ?_⟩
      refine s_aload_n C rfl dX0_part_32 ?_
      refine s_getI C hV fl_X0_9 (fun _ _ _ => rfl) dX0_part_33 (fun x2 => ?_)
      exact s_ireti hR dX0_part_36
    | 1, hg =>
      cases hg
      refine ⟨36, 37, rfl, by decide, ?_⟩
      refine s_aload_n C rfl dX0_part_37 ?_
      refine s_getI C hV fl_X0_15 (fun _ _ _ => rfl) dX0_part_38 (fun x3 => ?_)
      exact s_ireti hR dX0_part_41
    | 2, hg =>
      cases hg
      refine ⟨41, 42, rfl, by decide, ?_⟩
      refine s_aload_n C rfl dX0_part_42 ?_
      refine s_getI C hV fl_X0_18 (fun _ _ _ => rfl) dX0_part_43 (fun x4 => ?_)
      exact s_ireti hR dX0_part_46
    | 3, hg =>
      cases hg
      refine ⟨46, 47, rfl, by decide, ?_⟩
      refine s_aload_n C rfl dX0_part_47 ?_
      refine s_getI C hV fl_X0_21 (fun _ _ _ => rfl) dX0_part_48 (fun x5 => ?_)
      exact s_ireti hR dX0_part_51
    | i + 4, hg => cases hg
set_option maxRecDepth 20000 in
theorem met_Act_part (v0 : Nat) (v1 : Int32) : MI ZF yX0_part cX0_part 2 .int rm_Act_part [.ref v0, .int v1] (Act_part v0 v1) :=
  mi_of (L0 := [(0, .ref v0), (1, .int v1)]) (by decide +kernel) (Nat.le_of_ble_eq_true rfl) rfl (fun G ad K C hV hR => sm_Act_part C hV hR v0 v1)

noncomputable def Act_writes (v0 : Nat) : MM Int32 :=
  mb (gI ZF 1 0 v0) fun x1 =>
  if x1 = 0 then
  mz (1 : Int32)
  else
  mb (gI ZF 1 0 v0) fun x2 =>
  if x2 = (1 : Int32) then
  mz (1 : Int32)
  else
  mz (0 : Int32)
set_option maxRecDepth 20000 in
theorem sm_Act_writes {G : GT} {ad : Nat → Nat} {K : Int32 → Dm → Prop} (C : Cx G rm_Act_writes cX0_writes 1 RX0) (hV : Vx G rm_Act_writes ad ZF (0, 0)) (hR : RtI G rm_Act_writes ad ZF (0, 0) cX0_writes .boolean K) (v0 : Nat) : Sm G rm_Act_writes ad ZF (0, 0) K 0 [(0, .ref v0)] [] (Act_writes v0) := by
  unfold Act_writes
  refine s_aload_n C rfl dX0_writes_0 ?_
  refine s_getI C hV fl_X0_9 (fun _ _ _ => rfl) dX0_writes_1 (fun x1 => ?_)
  refine s_if_eq C 15 (by decide) dX0_writes_4 ?_ ?_
  · refine s_iconst C (1 : Int32) (by decide) dX0_writes_15 ?_
    refine s_goto C 20 (by decide) dX0_writes_16 ?_
    exact s_iretz hR dX0_writes_20
  · refine s_aload_n C rfl dX0_writes_7 ?_
    refine s_getI C hV fl_X0_9 (fun _ _ _ => rfl) dX0_writes_8 (fun x2 => ?_)
    refine s_iconst C (1 : Int32) (by decide) dX0_writes_11 ?_
    refine s_icmp_ne C 19 (by decide) dX0_writes_12 ?_ ?_
    · refine s_iconst C (0 : Int32) (by decide) dX0_writes_19 ?_
      exact s_iretz hR dX0_writes_20
    · refine s_iconst C (1 : Int32) (by decide) dX0_writes_15 ?_
      refine s_goto C 20 (by decide) dX0_writes_16 ?_
      exact s_iretz hR dX0_writes_20
set_option maxRecDepth 20000 in
theorem met_Act_writes (v0 : Nat) : MI ZF yX0_writes cX0_writes 1 .boolean rm_Act_writes [.ref v0] (Act_writes v0) :=
  mi_of (L0 := [(0, .ref v0)]) (by decide +kernel) (Nat.le_of_ble_eq_true rfl) rfl (fun G ad K C hV hR => sm_Act_writes C hV hR v0)

noncomputable def Prog_writesWithin_33 (v0 : Nat) (v2 : Int32) (v4 : Int32) (t0 : Int32) (t1 : Int32) : MM ((Int32 × Int32) ⊕ Int32) :=
  ml (t0 ||| t1) fun x5 =>
  ml (v4 + (1 : Int32)) fun x6 =>
  mp (.inl (x5, x6))
noncomputable def Prog_writesWithin_5_b (v0 : Nat) (v2 : Int32) (v3 : Int32) (v4 : Int32) : MM ((Int32 × Int32) ⊕ Int32) :=
  if v2 ≤ v4 then
  mr (
  mp v3)
  else
  mb (gR ZF 6 0 v0) fun x2 =>
  mb (aR ZF 26 x2 v4) fun x3 =>
  mb (vc ZF 1 x3 (Act_writes x3)) fun r4 =>
  Prog_writesWithin_33 v0 v2 v4 v3 (if r4 = 0 then (0 : Int32) else ((1 : Int32) <<< (v4 &&& 31)))
noncomputable def Prog_writesWithin_5 (v0 : Nat) (v2 : Int32) (s : (Int32 × Int32)) : MM Int32 := lo (fun (s : (Int32 × Int32)) => Prog_writesWithin_5_b v0 v2 s.1 s.2) s
noncomputable def Prog_writesWithin (v0 : Nat) (v1 : Int32) (v2 : Int32) : MM Int32 :=
  ml (0 : Int32) fun x1 =>
  Prog_writesWithin_5 v0 v2 (x1, v1)
set_option maxRecDepth 20000 in
theorem sm_Prog_writesWithin_33 {G : GT} {ad : Nat → Nat} {K : Int32 → Dm → Prop} (C : Cx G rm_Prog_writesWithin cX5_writesWithin 5 RX5) (hV : Vx G rm_Prog_writesWithin ad ZF (0, 0)) (hR : RtI G rm_Prog_writesWithin ad ZF (0, 0) cX5_writesWithin .int K) (v0 : Nat) (v2 : Int32) (v4 : Int32) (t0 : Int32) (t1 : Int32) : Sm G rm_Prog_writesWithin ad ZF (0, 0) (lpK G rm_Prog_writesWithin ad ZF (0, 0) 5 (fun (s : (Int32 × Int32)) => [(0, .ref v0), (2, .int v2), (3, .int s.1), (4, .int s.2)]) K) 33 [(0, .ref v0), (2, .int v2), (4, .int v4)] [.int t1, .int t0] (Prog_writesWithin_33 v0 v2 v4 t0 t1) := by
  unfold Prog_writesWithin_33
  refine s_ior C dX5_writesWithin_33 ?_
  refine s_leti (fun x5 => ?_)
  refine s_istore_n C (L' := [(3, .int x5), (0, .ref v0), (2, .int v2), (4, .int v4)]) (by decide) rfl dX5_writesWithin_34 ?_
  refine s_iinc C (L' := fun x6 => [(4, .int x6), (3, .int x5), (0, .ref v0), (2, .int v2)]) (1 : Int32) (by decide) rfl (by decide) (fun _ => rfl) dX5_writesWithin_35 (fun x6 => ?_)
  refine s_goto C 5 (by decide) dX5_writesWithin_38 ?_
  exact s_back [0, 2, 3, 4] (x5, x6) rfl
set_option maxRecDepth 20000 in
theorem sm_Prog_writesWithin_5_b {G : GT} {ad : Nat → Nat} {K : Int32 → Dm → Prop} (C : Cx G rm_Prog_writesWithin cX5_writesWithin 5 RX5) (hV : Vx G rm_Prog_writesWithin ad ZF (0, 0)) (hR : RtI G rm_Prog_writesWithin ad ZF (0, 0) cX5_writesWithin .int K) (v0 : Nat) (v2 : Int32) (v3 : Int32) (v4 : Int32) : Sm G rm_Prog_writesWithin ad ZF (0, 0) (lpK G rm_Prog_writesWithin ad ZF (0, 0) 5 (fun (s : (Int32 × Int32)) => [(0, .ref v0), (2, .int v2), (3, .int s.1), (4, .int s.2)]) K) 5 [(0, .ref v0), (2, .int v2), (3, .int v3), (4, .int v4)] [] (Prog_writesWithin_5_b v0 v2 v3 v4) := by
  unfold Prog_writesWithin_5_b
  refine s_iload C rfl dX5_writesWithin_5 ?_
  refine s_iload_n C rfl dX5_writesWithin_7 ?_
  refine s_icmp_ge C 41 (by decide) dX5_writesWithin_8 ?_ ?_
  · refine s_exit ?_
    refine s_iload_n C rfl dX5_writesWithin_41 ?_
    exact s_ireti hR dX5_writesWithin_42
  · refine s_iload_n C rfl dX5_writesWithin_11 ?_
    refine s_aload_n C rfl dX5_writesWithin_12 ?_
    refine s_getR C hV fl_X5_11 (fun _ _ _ => rfl) dX5_writesWithin_13 (fun x2 => ?_)
    refine s_iload C rfl dX5_writesWithin_16 ?_
    refine s_aaloadA C hV dX5_writesWithin_18 (fun x3 => ?_)
    refine s_wI C hV lv_X5_30 (st := [.int v3]) (met_Act_writes x3) rf_Prog_writesWithin_Act_writes rfl rfl (Nat.le_of_ble_eq_true rfl) dX5_writesWithin_19 (fun r4 => ?_)
    refine s_ite (g := fun z => Prog_writesWithin_33 v0 v2 v4 v3 z) ?_
    refine s_if_eq C 32 (by decide) dX5_writesWithin_22 ?_ ?_
    · refine s_iconst C (0 : Int32) (by decide) dX5_writesWithin_32 ?_
      exact s_weak [0, 2, 4] rfl (sm_Prog_writesWithin_33 C hV hR v0 v2 v4 v3 (0 : Int32))
    · refine s_iconst C (1 : Int32) (by decide) dX5_writesWithin_25 ?_
      refine s_iload C rfl dX5_writesWithin_26 ?_
      refine s_ishl C dX5_writesWithin_28 ?_
      refine s_goto C 33 (by decide) dX5_writesWithin_29 ?_
      exact s_weak [0, 2, 4] rfl (sm_Prog_writesWithin_33 C hV hR v0 v2 v4 v3 ((1 : Int32) <<< (v4 &&& 31)))
set_option maxRecDepth 20000 in
theorem sm_Prog_writesWithin_5 {G : GT} {ad : Nat → Nat} {K : Int32 → Dm → Prop} (C : Cx G rm_Prog_writesWithin cX5_writesWithin 5 RX5) (hV : Vx G rm_Prog_writesWithin ad ZF (0, 0)) (hR : RtI G rm_Prog_writesWithin ad ZF (0, 0) cX5_writesWithin .int K) (v0 : Nat) (v2 : Int32) (s : (Int32 × Int32)) : Sm G rm_Prog_writesWithin ad ZF (0, 0) K 5 ((fun (s : (Int32 × Int32)) => [(0, .ref v0), (2, .int v2), (3, .int s.1), (4, .int s.2)]) s) [] (Prog_writesWithin_5 v0 v2 s) :=
  s_loop (en := (fun (s : (Int32 × Int32)) => [(0, .ref v0), (2, .int v2), (3, .int s.1), (4, .int s.2)])) (fun s => sm_Prog_writesWithin_5_b C hV hR v0 v2 s.1 s.2) s
set_option maxRecDepth 20000 in
theorem sm_Prog_writesWithin {G : GT} {ad : Nat → Nat} {K : Int32 → Dm → Prop} (C : Cx G rm_Prog_writesWithin cX5_writesWithin 5 RX5) (hV : Vx G rm_Prog_writesWithin ad ZF (0, 0)) (hR : RtI G rm_Prog_writesWithin ad ZF (0, 0) cX5_writesWithin .int K) (v0 : Nat) (v1 : Int32) (v2 : Int32) : Sm G rm_Prog_writesWithin ad ZF (0, 0) K 0 [(0, .ref v0), (1, .int v1), (2, .int v2)] [] (Prog_writesWithin v0 v1 v2) := by
  unfold Prog_writesWithin
  refine s_iconst C (0 : Int32) (by decide) dX5_writesWithin_0 ?_
  refine s_leti (fun x1 => ?_)
  refine s_istore_n C (L' := [(3, .int x1), (0, .ref v0), (1, .int v1), (2, .int v2)]) (by decide) rfl dX5_writesWithin_1 ?_
  refine s_iload_n C rfl dX5_writesWithin_2 ?_
  refine s_istore C (L' := [(4, .int v1), (3, .int x1), (0, .ref v0), (1, .int v1), (2, .int v2)]) (by decide) rfl dX5_writesWithin_3 ?_
  exact s_weak [0, 2, 3, 4] rfl (sm_Prog_writesWithin_5 C hV hR v0 v2 (x1, v1))
set_option maxRecDepth 20000 in
theorem met_Prog_writesWithin (v0 : Nat) (v1 : Int32) (v2 : Int32) : MI ZF yX5_writesWithin cX5_writesWithin 5 .int rm_Prog_writesWithin [.ref v0, .int v1, .int v2] (Prog_writesWithin v0 v1 v2) :=
  mi_of (L0 := [(0, .ref v0), (1, .int v1), (2, .int v2)]) (by decide +kernel) (Nat.le_of_ble_eq_true rfl) rfl (fun G ad K C hV hR => sm_Prog_writesWithin C hV hR v0 v1 v2)

noncomputable def Prog_writes (v0 : Nat) : MM Int32 :=
  mb (gI ZF 6 1 v0) fun x1 =>
  mb (vc ZF 6 v0 (Prog_writesWithin v0 (0 : Int32) x1)) fun r2 =>
  mp r2
set_option maxRecDepth 20000 in
theorem sm_Prog_writes {G : GT} {ad : Nat → Nat} {K : Int32 → Dm → Prop} (C : Cx G rm_Prog_writes cX5_writes 1 RX5) (hV : Vx G rm_Prog_writes ad ZF (0, 0)) (hR : RtI G rm_Prog_writes ad ZF (0, 0) cX5_writes .int K) (v0 : Nat) : Sm G rm_Prog_writes ad ZF (0, 0) K 0 [(0, .ref v0)] [] (Prog_writes v0) := by
  unfold Prog_writes
  refine s_aload_n C rfl dX5_writes_0 ?_
  refine s_iconst C (0 : Int32) (by decide) dX5_writes_1 ?_
  refine s_aload_n C rfl dX5_writes_2 ?_
  refine s_getI C hV fl_X5_17 (fun _ _ _ => rfl) dX5_writes_3 (fun x1 => ?_)
  refine s_wI C hV lv_X5_34 (st := []) (met_Prog_writesWithin v0 (0 : Int32) x1) rf_Prog_writes_Prog_writesWithin rfl rfl (Nat.le_of_ble_eq_true rfl) dX5_writes_6 (fun r2 => ?_)
  exact s_ireti hR dX5_writes_9
set_option maxRecDepth 20000 in
theorem met_Prog_writes (v0 : Nat) : MI ZF yX5_writes cX5_writes 1 .int rm_Prog_writes [.ref v0] (Prog_writes v0) :=
  mi_of (L0 := [(0, .ref v0)]) (by decide +kernel) (Nat.le_of_ble_eq_true rfl) rfl (fun G ad K C hV hR => sm_Prog_writes C hV hR v0)

noncomputable def Act_laidOn (v0 : Nat) (v1 : Int64) : MM Int64 :=
  mb (gI ZF 1 1 v0) fun x1 =>
  mb (gI ZF 1 2 v0) fun x2 =>
  mb ((Main_withFigure v1 x1 x2)) fun r3 =>
  mb (gI ZF 1 0 v0) fun x4 =>
  if x4 = (1 : Int32) then
  mb (gI ZF 1 3 v0) fun x5 =>
  mb (gI ZF 1 4 v0) fun x6 =>
  mb ((Main_withFigure r3 x5 x6)) fun r7 =>
  mp r7
  else
  mp r3
set_option maxRecDepth 20000 in
theorem sm_Act_laidOn {G : GT} {ad : Nat → Nat} {K : Int64 → Dm → Prop} (C : Cx G rm_Act_laidOn cX0_laidOn 5 RX0) (hV : Vx G rm_Act_laidOn ad ZF (0, 0)) (hR : RtL G rm_Act_laidOn ad ZF (0, 0) cX0_laidOn K) (v0 : Nat) (v1 : Int64) : Sm G rm_Act_laidOn ad ZF (0, 0) K 0 [(0, .ref v0), (1, .long v1)] [] (Act_laidOn v0 v1) := by
  unfold Act_laidOn
  refine s_lload_n C rfl dX0_laidOn_0 ?_
  refine s_aload_n C rfl dX0_laidOn_1 ?_
  refine s_getI C hV fl_X0_15 (fun _ _ _ => rfl) dX0_laidOn_2 (fun x1 => ?_)
  refine s_aload_n C rfl dX0_laidOn_5 ?_
  refine s_getI C hV fl_X0_18 (fun _ _ _ => rfl) dX0_laidOn_6 (fun x2 => ?_)
  refine s_uLN C hV ls_X0_27 (st := []) (met_Main_withFigure v1 x1 x2) rf_Act_laidOn_Main_withFigure rfl rfl (Nat.le_of_ble_eq_true rfl) dX0_laidOn_9 (fun r3 => ?_)
  refine s_lstore_n C (L' := [(3, .long r3), (0, .ref v0), (1, .long v1)]) (by decide) rfl dX0_laidOn_12 ?_
  refine s_aload_n C rfl dX0_laidOn_13 ?_
  refine s_getI C hV fl_X0_9 (fun _ _ _ => rfl) dX0_laidOn_14 (fun x4 => ?_)
  refine s_iconst C (1 : Int32) (by decide) dX0_laidOn_17 ?_
  refine s_icmp_ne C 36 (by decide) dX0_laidOn_18 ?_ ?_
  · refine s_lload_n C rfl dX0_laidOn_36 ?_
    exact s_lret hR dX0_laidOn_37
  · refine s_lload_n C rfl dX0_laidOn_21 ?_
    refine s_aload_n C rfl dX0_laidOn_22 ?_
    refine s_getI C hV fl_X0_21 (fun _ _ _ => rfl) dX0_laidOn_23 (fun x5 => ?_)
    refine s_aload_n C rfl dX0_laidOn_26 ?_
    refine s_getI C hV fl_X0_24 (fun _ _ _ => rfl) dX0_laidOn_27 (fun x6 => ?_)
    refine s_uLN C hV ls_X0_27 (st := []) (met_Main_withFigure r3 x5 x6) rf_Act_laidOn_Main_withFigure rfl rfl (Nat.le_of_ble_eq_true rfl) dX0_laidOn_30 (fun r7 => ?_)
    refine s_goto C 37 (by decide) dX0_laidOn_33 ?_
    exact s_lret hR dX0_laidOn_37
set_option maxRecDepth 20000 in
theorem met_Act_laidOn (v0 : Nat) (v1 : Int64) : ML ZF yX0_laidOn cX0_laidOn 5 rm_Act_laidOn [.ref v0, .long v1] (Act_laidOn v0 v1) :=
  ml_of (L0 := [(0, .ref v0), (1, .long v1)]) (by decide +kernel) (Nat.le_of_ble_eq_true rfl) rfl (fun G ad K C hV hR => sm_Act_laidOn C hV hR v0 v1)

noncomputable def Prog_plateOf_38 (v0 : Nat) (v1 : Int32) (v2 : Int64) (v4 : Int32) : MM ((Int64 × Int32) ⊕ Int64) :=
  ml (v4 + (1 : Int32)) fun x4 =>
  mp (.inl (v2, x4))
noncomputable def Prog_plateOf_8_b (v0 : Nat) (v1 : Int32) (v2 : Int64) (v4 : Int32) : MM ((Int64 × Int32) ⊕ Int64) :=
  mb (gI ZF 6 1 v0) fun x3 =>
  if x3 ≤ v4 then
  mr (
  mp v2)
  else
  if ((v1 >>> (v4 &&& 31)) &&& (1 : Int32)) = 0 then
  Prog_plateOf_38 v0 v1 v2 v4
  else
  mb (gR ZF 6 0 v0) fun x5 =>
  mb (aR ZF 26 x5 v4) fun x6 =>
  mb (vc ZF 1 x6 (Act_laidOn x6 v2)) fun r7 =>
  Prog_plateOf_38 v0 v1 r7 v4
noncomputable def Prog_plateOf_8 (v0 : Nat) (v1 : Int32) (s : (Int64 × Int32)) : MM Int64 := lo (fun (s : (Int64 × Int32)) => Prog_plateOf_8_b v0 v1 s.1 s.2) s
noncomputable def Prog_plateOf (v0 : Nat) (v1 : Int32) : MM Int64 :=
  mb (gL ZF 6 2 v0) fun x1 =>
  ml (0 : Int32) fun x2 =>
  Prog_plateOf_8 v0 v1 (x1, x2)
set_option maxRecDepth 20000 in
theorem sm_Prog_plateOf_38 {G : GT} {ad : Nat → Nat} {K : Int64 → Dm → Prop} (C : Cx G rm_Prog_plateOf cX5_plateOf 5 RX5) (hV : Vx G rm_Prog_plateOf ad ZF (0, 0)) (hR : RtL G rm_Prog_plateOf ad ZF (0, 0) cX5_plateOf K) (v0 : Nat) (v1 : Int32) (v2 : Int64) (v4 : Int32) : Sm G rm_Prog_plateOf ad ZF (0, 0) (lpK G rm_Prog_plateOf ad ZF (0, 0) 8 (fun (s : (Int64 × Int32)) => [(0, .ref v0), (1, .int v1), (2, .long s.1), (4, .int s.2)]) K) 38 [(0, .ref v0), (1, .int v1), (2, .long v2), (4, .int v4)] [] (Prog_plateOf_38 v0 v1 v2 v4) := by
  unfold Prog_plateOf_38
  refine s_iinc C (L' := fun x4 => [(4, .int x4), (0, .ref v0), (1, .int v1), (2, .long v2)]) (1 : Int32) (by decide) rfl (by decide) (fun _ => rfl) dX5_plateOf_38 (fun x4 => ?_)
  refine s_goto C 8 (by decide) dX5_plateOf_41 ?_
  exact s_back [0, 1, 2, 4] (v2, x4) rfl
set_option maxRecDepth 20000 in
theorem sm_Prog_plateOf_8_b {G : GT} {ad : Nat → Nat} {K : Int64 → Dm → Prop} (C : Cx G rm_Prog_plateOf cX5_plateOf 5 RX5) (hV : Vx G rm_Prog_plateOf ad ZF (0, 0)) (hR : RtL G rm_Prog_plateOf ad ZF (0, 0) cX5_plateOf K) (v0 : Nat) (v1 : Int32) (v2 : Int64) (v4 : Int32) : Sm G rm_Prog_plateOf ad ZF (0, 0) (lpK G rm_Prog_plateOf ad ZF (0, 0) 8 (fun (s : (Int64 × Int32)) => [(0, .ref v0), (1, .int v1), (2, .long s.1), (4, .int s.2)]) K) 8 [(0, .ref v0), (1, .int v1), (2, .long v2), (4, .int v4)] [] (Prog_plateOf_8_b v0 v1 v2 v4) := by
  unfold Prog_plateOf_8_b
  refine s_iload C rfl dX5_plateOf_8 ?_
  refine s_aload_n C rfl dX5_plateOf_10 ?_
  refine s_getI C hV fl_X5_17 (fun _ _ _ => rfl) dX5_plateOf_11 (fun x3 => ?_)
  refine s_icmp_ge C 44 (by decide) dX5_plateOf_14 ?_ ?_
  · refine s_exit ?_
    refine s_lload_n C rfl dX5_plateOf_44 ?_
    exact s_lret hR dX5_plateOf_45
  · refine s_iload_n C rfl dX5_plateOf_17 ?_
    refine s_iload C rfl dX5_plateOf_18 ?_
    refine s_ishr C dX5_plateOf_20 ?_
    refine s_iconst C (1 : Int32) (by decide) dX5_plateOf_21 ?_
    refine s_iand C dX5_plateOf_22 ?_
    refine s_if_eq C 38 (by decide) dX5_plateOf_23 ?_ ?_
    · exact s_weak [0, 1, 2, 4] rfl (sm_Prog_plateOf_38 C hV hR v0 v1 v2 v4)
    · refine s_aload_n C rfl dX5_plateOf_26 ?_
      refine s_getR C hV fl_X5_11 (fun _ _ _ => rfl) dX5_plateOf_27 (fun x5 => ?_)
      refine s_iload C rfl dX5_plateOf_30 ?_
      refine s_aaloadA C hV dX5_plateOf_32 (fun x6 => ?_)
      refine s_lload_n C rfl dX5_plateOf_33 ?_
      refine s_wL C hV lv_X5_44 (st := []) (met_Act_laidOn x6 v2) rf_Prog_plateOf_Act_laidOn rfl rfl (Nat.le_of_ble_eq_true rfl) dX5_plateOf_34 (fun r7 => ?_)
      refine s_lstore_n C (L' := [(2, .long r7), (0, .ref v0), (1, .int v1), (4, .int v4)]) (by decide) rfl dX5_plateOf_37 ?_
      exact s_weak [0, 1, 2, 4] rfl (sm_Prog_plateOf_38 C hV hR v0 v1 r7 v4)
set_option maxRecDepth 20000 in
theorem sm_Prog_plateOf_8 {G : GT} {ad : Nat → Nat} {K : Int64 → Dm → Prop} (C : Cx G rm_Prog_plateOf cX5_plateOf 5 RX5) (hV : Vx G rm_Prog_plateOf ad ZF (0, 0)) (hR : RtL G rm_Prog_plateOf ad ZF (0, 0) cX5_plateOf K) (v0 : Nat) (v1 : Int32) (s : (Int64 × Int32)) : Sm G rm_Prog_plateOf ad ZF (0, 0) K 8 ((fun (s : (Int64 × Int32)) => [(0, .ref v0), (1, .int v1), (2, .long s.1), (4, .int s.2)]) s) [] (Prog_plateOf_8 v0 v1 s) :=
  s_loop (en := (fun (s : (Int64 × Int32)) => [(0, .ref v0), (1, .int v1), (2, .long s.1), (4, .int s.2)])) (fun s => sm_Prog_plateOf_8_b C hV hR v0 v1 s.1 s.2) s
set_option maxRecDepth 20000 in
theorem sm_Prog_plateOf {G : GT} {ad : Nat → Nat} {K : Int64 → Dm → Prop} (C : Cx G rm_Prog_plateOf cX5_plateOf 5 RX5) (hV : Vx G rm_Prog_plateOf ad ZF (0, 0)) (hR : RtL G rm_Prog_plateOf ad ZF (0, 0) cX5_plateOf K) (v0 : Nat) (v1 : Int32) : Sm G rm_Prog_plateOf ad ZF (0, 0) K 0 [(0, .ref v0), (1, .int v1)] [] (Prog_plateOf v0 v1) := by
  unfold Prog_plateOf
  refine s_aload_n C rfl dX5_plateOf_0 ?_
  refine s_getL C hV fl_X5_21 (fun _ _ _ => rfl) dX5_plateOf_1 (fun x1 => ?_)
  refine s_lstore_n C (L' := [(2, .long x1), (0, .ref v0), (1, .int v1)]) (by decide) rfl dX5_plateOf_4 ?_
  refine s_iconst C (0 : Int32) (by decide) dX5_plateOf_5 ?_
  refine s_leti (fun x2 => ?_)
  refine s_istore C (L' := [(4, .int x2), (2, .long x1), (0, .ref v0), (1, .int v1)]) (by decide) rfl dX5_plateOf_6 ?_
  exact s_weak [0, 1, 2, 4] rfl (sm_Prog_plateOf_8 C hV hR v0 v1 (x1, x2))
set_option maxRecDepth 20000 in
theorem met_Prog_plateOf (v0 : Nat) (v1 : Int32) : ML ZF yX5_plateOf cX5_plateOf 5 rm_Prog_plateOf [.ref v0, .int v1] (Prog_plateOf v0 v1) :=
  ml_of (L0 := [(0, .ref v0), (1, .int v1)]) (by decide +kernel) (Nat.le_of_ble_eq_true rfl) rfl (fun G ad K C hV hR => sm_Prog_plateOf C hV hR v0 v1)

noncomputable def Main_numberOf_6_b (v0 : Int64) (v2 : Int64) (v4 : Int32) : MM ((Int64 × Int32) ⊕ Int64) :=
  if v4 < 0 then
  mr (
  mp v2)
  else
  mb ((Main_figureOf v0 v4)) fun r3 =>
  ml ((v2 * (100 : Int64)) + (r3.toInt64)) fun x4 =>
  ml (v4 + (-1)) fun x5 =>
  mp (.inl (x4, x5))
noncomputable def Main_numberOf_6 (v0 : Int64) (s : (Int64 × Int32)) : MM Int64 := lo (fun (s : (Int64 × Int32)) => Main_numberOf_6_b v0 s.1 s.2) s
noncomputable def Main_numberOf (v0 : Int64) : MM Int64 :=
  ml (0 : Int64) fun x1 =>
  ml (7 : Int32) fun x2 =>
  Main_numberOf_6 v0 (x1, x2)
set_option maxRecDepth 20000 in
theorem sm_Main_numberOf_6_b {G : GT} {ad : Nat → Nat} {K : Int64 → Dm → Prop} (C : Cx G rm_Main_numberOf cX10_numberOf 5 RX10) (hV : Vx G rm_Main_numberOf ad ZF (0, 0)) (hR : RtL G rm_Main_numberOf ad ZF (0, 0) cX10_numberOf K) (v0 : Int64) (v2 : Int64) (v4 : Int32) : Sm G rm_Main_numberOf ad ZF (0, 0) (lpK G rm_Main_numberOf ad ZF (0, 0) 6 (fun (s : (Int64 × Int32)) => [(0, .long v0), (2, .long s.1), (4, .int s.2)]) K) 6 [(0, .long v0), (2, .long v2), (4, .int v4)] [] (Main_numberOf_6_b v0 v2 v4) := by
  unfold Main_numberOf_6_b
  refine s_iload C rfl dX10_numberOf_6 ?_
  refine s_if_lt C 31 (by decide) dX10_numberOf_8 ?_ ?_
  · refine s_exit ?_
    refine s_lload_n C rfl dX10_numberOf_31 ?_
    exact s_lret hR dX10_numberOf_32
  · refine s_lload_n C rfl dX10_numberOf_11 ?_
    refine s_ldc2 C kl_X10_305 dX10_numberOf_12 ?_
    refine s_lmul C dX10_numberOf_15 ?_
    refine s_lload_n C rfl dX10_numberOf_16 ?_
    refine s_iload C rfl dX10_numberOf_17 ?_
    refine s_uI C hV ls_X10_82 (st := [.long (v2 * (100 : Int64))]) (met_Main_figureOf v0 v4) rf_Main_numberOf_Main_figureOf rfl rfl (Nat.le_of_ble_eq_true rfl) dX10_numberOf_19 (fun r3 => ?_)
    refine s_i2l C dX10_numberOf_22 ?_
    refine s_ladd C dX10_numberOf_23 ?_
    refine s_letl (fun x4 => ?_)
    refine s_lstore_n C (L' := [(2, .long x4), (0, .long v0), (4, .int v4)]) (by decide) rfl dX10_numberOf_24 ?_
    refine s_iinc C (L' := fun x5 => [(4, .int x5), (2, .long x4), (0, .long v0)]) (-1) (by decide) rfl (by decide) (fun _ => rfl) dX10_numberOf_25 (fun x5 => ?_)
    refine s_goto C 6 (by decide) dX10_numberOf_28 ?_
    exact s_back [0, 2, 4] (x4, x5) rfl
set_option maxRecDepth 20000 in
theorem sm_Main_numberOf_6 {G : GT} {ad : Nat → Nat} {K : Int64 → Dm → Prop} (C : Cx G rm_Main_numberOf cX10_numberOf 5 RX10) (hV : Vx G rm_Main_numberOf ad ZF (0, 0)) (hR : RtL G rm_Main_numberOf ad ZF (0, 0) cX10_numberOf K) (v0 : Int64) (s : (Int64 × Int32)) : Sm G rm_Main_numberOf ad ZF (0, 0) K 6 ((fun (s : (Int64 × Int32)) => [(0, .long v0), (2, .long s.1), (4, .int s.2)]) s) [] (Main_numberOf_6 v0 s) :=
  s_loop (en := (fun (s : (Int64 × Int32)) => [(0, .long v0), (2, .long s.1), (4, .int s.2)])) (fun s => sm_Main_numberOf_6_b C hV hR v0 s.1 s.2) s
set_option maxRecDepth 20000 in
theorem sm_Main_numberOf {G : GT} {ad : Nat → Nat} {K : Int64 → Dm → Prop} (C : Cx G rm_Main_numberOf cX10_numberOf 5 RX10) (hV : Vx G rm_Main_numberOf ad ZF (0, 0)) (hR : RtL G rm_Main_numberOf ad ZF (0, 0) cX10_numberOf K) (v0 : Int64) : Sm G rm_Main_numberOf ad ZF (0, 0) K 0 [(0, .long v0)] [] (Main_numberOf v0) := by
  unfold Main_numberOf
  refine s_lconst C (0 : Int64) (by decide) dX10_numberOf_0 ?_
  refine s_letl (fun x1 => ?_)
  refine s_lstore_n C (L' := [(2, .long x1), (0, .long v0)]) (by decide) rfl dX10_numberOf_1 ?_
  refine s_bipush C (7 : Int32) (by decide) dX10_numberOf_2 ?_
  refine s_leti (fun x2 => ?_)
  refine s_istore C (L' := [(4, .int x2), (2, .long x1), (0, .long v0)]) (by decide) rfl dX10_numberOf_4 ?_
  exact s_weak [0, 2, 4] rfl (sm_Main_numberOf_6 C hV hR v0 (x1, x2))
set_option maxRecDepth 20000 in
theorem met_Main_numberOf (v0 : Int64) : ML ZF yX10_numberOf cX10_numberOf 5 rm_Main_numberOf [.long v0] (Main_numberOf v0) :=
  ml_of (L0 := [(0, .long v0)]) (by decide +kernel) (Nat.le_of_ble_eq_true rfl) rfl (fun G ad K C hV hR => sm_Main_numberOf C hV hR v0)

noncomputable def Page_codeIn (v0 : Int64) (v2 : Int32) : MM Int32 :=
  mp (((((v0).toUInt64 >>> ((((8 : Int32) * v2)).toInt64.toUInt64 &&& Int64.toUInt64 63)).toInt64) &&& (255 : Int64)).toInt32)
set_option maxRecDepth 20000 in
theorem sm_Page_codeIn {G : GT} {ad : Nat → Nat} {K : Int32 → Dm → Prop} (C : Cx G rm_Page_codeIn cX3_codeIn 3 RX3) (hV : Vx G rm_Page_codeIn ad ZF (0, 0)) (hR : RtI G rm_Page_codeIn ad ZF (0, 0) cX3_codeIn .int K) (v0 : Int64) (v2 : Int32) : Sm G rm_Page_codeIn ad ZF (0, 0) K 0 [(0, .long v0), (2, .int v2)] [] (Page_codeIn v0 v2) := by
  unfold Page_codeIn
  refine s_lload_n C rfl dX3_codeIn_0 ?_
  refine s_bipush C (8 : Int32) (by decide) dX3_codeIn_1 ?_
  refine s_iload_n C rfl dX3_codeIn_3 ?_
  refine s_imul C dX3_codeIn_4 ?_
  refine s_lushr C dX3_codeIn_5 ?_
  refine s_ldc2 C kl_X3_23 dX3_codeIn_6 ?_
  refine s_land C dX3_codeIn_9 ?_
  refine s_l2i C dX3_codeIn_10 ?_
  exact s_ireti hR dX3_codeIn_11
set_option maxRecDepth 20000 in
theorem met_Page_codeIn (v0 : Int64) (v2 : Int32) : MI ZF yX3_codeIn cX3_codeIn 3 .int rm_Page_codeIn [.long v0, .int v2] (Page_codeIn v0 v2) :=
  mi_of (L0 := [(0, .long v0), (2, .int v2)]) (by decide +kernel) (Nat.le_of_ble_eq_true rfl) rfl (fun G ad K C hV hR => sm_Page_codeIn C hV hR v0 v2)

noncomputable def Page_lettersIn_47 (v0 : Int64) (v3 : Int32) (t0 : Int32) (t1 : Int32) : MM ((Int32 × Int32) ⊕ Int32) :=
  ml (t0 + t1) fun x4 =>
  ml (v3 + (1 : Int32)) fun x5 =>
  mp (.inl (x4, x5))
noncomputable def Page_lettersIn_36 (v0 : Int64) (v2 : Int32) (v3 : Int32) (v4 : Int32) : MM ((Int32 × Int32) ⊕ Int32) :=
  Page_lettersIn_47 v0 v3 v2 (if v4 = 0 then (0 : Int32) else (1 : Int32))
noncomputable def Page_lettersIn_4_b (v0 : Int64) (v2 : Int32) (v3 : Int32) : MM ((Int32 × Int32) ⊕ Int32) :=
  if (8 : Int32) ≤ v3 then
  mr (
  mp v2)
  else
  mb ((Page_codeIn v0 v3)) fun r3 =>
  if (126 : Int32) < r3 then
  mr (
  mp ((-1) : Int32))
  else
  if r3 = 0 then
  Page_lettersIn_36 v0 v2 v3 r3
  else
  if v3 ≤ v2 then
  Page_lettersIn_36 v0 v2 v3 r3
  else
  mr (
  mp ((-1) : Int32))
noncomputable def Page_lettersIn_4 (v0 : Int64) (s : (Int32 × Int32)) : MM Int32 := lo (fun (s : (Int32 × Int32)) => Page_lettersIn_4_b v0 s.1 s.2) s
noncomputable def Page_lettersIn (v0 : Int64) : MM Int32 :=
  ml (0 : Int32) fun x1 =>
  ml (0 : Int32) fun x2 =>
  Page_lettersIn_4 v0 (x1, x2)
set_option maxRecDepth 20000 in
theorem sm_Page_lettersIn_47 {G : GT} {ad : Nat → Nat} {K : Int32 → Dm → Prop} (C : Cx G rm_Page_lettersIn cX3_lettersIn 5 RX3) (hV : Vx G rm_Page_lettersIn ad ZF (0, 0)) (hR : RtI G rm_Page_lettersIn ad ZF (0, 0) cX3_lettersIn .int K) (v0 : Int64) (v3 : Int32) (t0 : Int32) (t1 : Int32) : Sm G rm_Page_lettersIn ad ZF (0, 0) (lpK G rm_Page_lettersIn ad ZF (0, 0) 4 (fun (s : (Int32 × Int32)) => [(0, .long v0), (2, .int s.1), (3, .int s.2)]) K) 47 [(0, .long v0), (3, .int v3)] [.int t1, .int t0] (Page_lettersIn_47 v0 v3 t0 t1) := by
  unfold Page_lettersIn_47
  refine s_iadd C dX3_lettersIn_47 ?_
  refine s_leti (fun x4 => ?_)
  refine s_istore_n C (L' := [(2, .int x4), (0, .long v0), (3, .int v3)]) (by decide) rfl dX3_lettersIn_48 ?_
  refine s_iinc C (L' := fun x5 => [(3, .int x5), (2, .int x4), (0, .long v0)]) (1 : Int32) (by decide) rfl (by decide) (fun _ => rfl) dX3_lettersIn_49 (fun x5 => ?_)
  refine s_goto C 4 (by decide) dX3_lettersIn_52 ?_
  exact s_back [0, 2, 3] (x4, x5) rfl
set_option maxRecDepth 20000 in
theorem sm_Page_lettersIn_36 {G : GT} {ad : Nat → Nat} {K : Int32 → Dm → Prop} (C : Cx G rm_Page_lettersIn cX3_lettersIn 5 RX3) (hV : Vx G rm_Page_lettersIn ad ZF (0, 0)) (hR : RtI G rm_Page_lettersIn ad ZF (0, 0) cX3_lettersIn .int K) (v0 : Int64) (v2 : Int32) (v3 : Int32) (v4 : Int32) : Sm G rm_Page_lettersIn ad ZF (0, 0) (lpK G rm_Page_lettersIn ad ZF (0, 0) 4 (fun (s : (Int32 × Int32)) => [(0, .long v0), (2, .int s.1), (3, .int s.2)]) K) 36 [(0, .long v0), (2, .int v2), (3, .int v3), (4, .int v4)] [] (Page_lettersIn_36 v0 v2 v3 v4) := by
  unfold Page_lettersIn_36
  refine s_iload_n C rfl dX3_lettersIn_36 ?_
  refine s_iload C rfl dX3_lettersIn_37 ?_
  refine s_ite (g := fun z => Page_lettersIn_47 v0 v3 v2 z) ?_
  refine s_if_eq C 46 (by decide) dX3_lettersIn_39 ?_ ?_
  · refine s_iconst C (0 : Int32) (by decide) dX3_lettersIn_46 ?_
    exact s_weak [0, 3] rfl (sm_Page_lettersIn_47 C hV hR v0 v3 v2 (0 : Int32))
  · refine s_iconst C (1 : Int32) (by decide) dX3_lettersIn_42 ?_
    refine s_goto C 47 (by decide) dX3_lettersIn_43 ?_
    exact s_weak [0, 3] rfl (sm_Page_lettersIn_47 C hV hR v0 v3 v2 (1 : Int32))
set_option maxRecDepth 20000 in
theorem sm_Page_lettersIn_4_b {G : GT} {ad : Nat → Nat} {K : Int32 → Dm → Prop} (C : Cx G rm_Page_lettersIn cX3_lettersIn 5 RX3) (hV : Vx G rm_Page_lettersIn ad ZF (0, 0)) (hR : RtI G rm_Page_lettersIn ad ZF (0, 0) cX3_lettersIn .int K) (v0 : Int64) (v2 : Int32) (v3 : Int32) : Sm G rm_Page_lettersIn ad ZF (0, 0) (lpK G rm_Page_lettersIn ad ZF (0, 0) 4 (fun (s : (Int32 × Int32)) => [(0, .long v0), (2, .int s.1), (3, .int s.2)]) K) 4 [(0, .long v0), (2, .int v2), (3, .int v3)] [] (Page_lettersIn_4_b v0 v2 v3) := by
  unfold Page_lettersIn_4_b
  refine s_iload_n C rfl dX3_lettersIn_4 ?_
  refine s_bipush C (8 : Int32) (by decide) dX3_lettersIn_5 ?_
  refine s_icmp_ge C 55 (by decide) dX3_lettersIn_7 ?_ ?_
  · refine s_exit ?_
    refine s_iload_n C rfl dX3_lettersIn_55 ?_
    exact s_ireti hR dX3_lettersIn_56
  · refine s_lload_n C rfl dX3_lettersIn_10 ?_
    refine s_iload_n C rfl dX3_lettersIn_11 ?_
    refine s_uI C hV ls_X3_19 (st := []) (met_Page_codeIn v0 v3) rf_Page_lettersIn_Page_codeIn rfl rfl (Nat.le_of_ble_eq_true rfl) dX3_lettersIn_12 (fun r3 => ?_)
    refine s_istore C (L' := [(4, .int r3), (0, .long v0), (2, .int v2), (3, .int v3)]) (by decide) rfl dX3_lettersIn_15 ?_
    refine s_iload C rfl dX3_lettersIn_17 ?_
    refine s_bipush C (126 : Int32) (by decide) dX3_lettersIn_19 ?_
    refine s_icmp_gt C 34 (by decide) dX3_lettersIn_21 ?_ ?_
    · refine s_exit ?_
      refine s_iconst C ((-1) : Int32) (by decide) dX3_lettersIn_34 ?_
      exact s_ireti hR dX3_lettersIn_35
    · refine s_iload C rfl dX3_lettersIn_24 ?_
      refine s_if_eq C 36 (by decide) dX3_lettersIn_26 ?_ ?_
      · exact s_weak [0, 2, 3, 4] rfl (sm_Page_lettersIn_36 C hV hR v0 v2 v3 r3)
      · refine s_iload_n C rfl dX3_lettersIn_29 ?_
        refine s_iload_n C rfl dX3_lettersIn_30 ?_
        refine s_icmp_ge C 36 (by decide) dX3_lettersIn_31 ?_ ?_
        · exact s_weak [0, 2, 3, 4] rfl (sm_Page_lettersIn_36 C hV hR v0 v2 v3 r3)
        · refine s_exit ?_
          refine s_iconst C ((-1) : Int32) (by decide) dX3_lettersIn_34 ?_
          exact s_ireti hR dX3_lettersIn_35
set_option maxRecDepth 20000 in
theorem sm_Page_lettersIn_4 {G : GT} {ad : Nat → Nat} {K : Int32 → Dm → Prop} (C : Cx G rm_Page_lettersIn cX3_lettersIn 5 RX3) (hV : Vx G rm_Page_lettersIn ad ZF (0, 0)) (hR : RtI G rm_Page_lettersIn ad ZF (0, 0) cX3_lettersIn .int K) (v0 : Int64) (s : (Int32 × Int32)) : Sm G rm_Page_lettersIn ad ZF (0, 0) K 4 ((fun (s : (Int32 × Int32)) => [(0, .long v0), (2, .int s.1), (3, .int s.2)]) s) [] (Page_lettersIn_4 v0 s) :=
  s_loop (en := (fun (s : (Int32 × Int32)) => [(0, .long v0), (2, .int s.1), (3, .int s.2)])) (fun s => sm_Page_lettersIn_4_b C hV hR v0 s.1 s.2) s
set_option maxRecDepth 20000 in
theorem sm_Page_lettersIn {G : GT} {ad : Nat → Nat} {K : Int32 → Dm → Prop} (C : Cx G rm_Page_lettersIn cX3_lettersIn 5 RX3) (hV : Vx G rm_Page_lettersIn ad ZF (0, 0)) (hR : RtI G rm_Page_lettersIn ad ZF (0, 0) cX3_lettersIn .int K) (v0 : Int64) : Sm G rm_Page_lettersIn ad ZF (0, 0) K 0 [(0, .long v0)] [] (Page_lettersIn v0) := by
  unfold Page_lettersIn
  refine s_iconst C (0 : Int32) (by decide) dX3_lettersIn_0 ?_
  refine s_leti (fun x1 => ?_)
  refine s_istore_n C (L' := [(2, .int x1), (0, .long v0)]) (by decide) rfl dX3_lettersIn_1 ?_
  refine s_iconst C (0 : Int32) (by decide) dX3_lettersIn_2 ?_
  refine s_leti (fun x2 => ?_)
  refine s_istore_n C (L' := [(3, .int x2), (2, .int x1), (0, .long v0)]) (by decide) rfl dX3_lettersIn_3 ?_
  exact s_weak [0, 2, 3] rfl (sm_Page_lettersIn_4 C hV hR v0 (x1, x2))
set_option maxRecDepth 20000 in
theorem met_Page_lettersIn (v0 : Int64) : MI ZF yX3_lettersIn cX3_lettersIn 5 .int rm_Page_lettersIn [.long v0] (Page_lettersIn v0) :=
  mi_of (L0 := [(0, .long v0)]) (by decide +kernel) (Nat.le_of_ble_eq_true rfl) rfl (fun G ad K C hV hR => sm_Page_lettersIn C hV hR v0)

noncomputable def Page_append_3_b (v0 : Nat) (v1 : Int64) (v3 : Int32) (v4 : Int32) : MM (Int32 ⊕ Unit) :=
  if v3 ≤ v4 then
  mr (
  mp ())
  else
  mb (gI ZF 4 1 v0) fun x2 =>
  if (60 : Int32) ≤ x2 then
  mr (
  mp ())
  else
  mb (gR ZF 4 0 v0) fun x3 =>
  mb (gI ZF 4 1 v0) fun x4 =>
  mb ((Page_codeIn v1 v4)) fun r5 =>
  mb (sC ZF x3 x4 ((r5.toUInt32 % 65536).toInt32)) fun _ =>
  mb (gI ZF 4 1 v0) fun x6 =>
  mb (pI ZF 4 1 v0 (x6 + (1 : Int32))) fun _ =>
  ml (v4 + (1 : Int32)) fun x7 =>
  mp (.inl x7)
noncomputable def Page_append_3 (v0 : Nat) (v1 : Int64) (v3 : Int32) (s : Int32) : MM Unit := lo (fun (s : Int32) => Page_append_3_b v0 v1 v3 s) s
noncomputable def Page_append (v0 : Nat) (v1 : Int64) (v3 : Int32) : MM Unit :=
  ml (0 : Int32) fun x1 =>
  Page_append_3 v0 v1 v3 x1
set_option maxRecDepth 20000 in
theorem sm_Page_append_3_b {G : GT} {ad : Nat → Nat} {K : Unit → Dm → Prop} (C : Cx G rm_Page_append cX3_append 5 RX3) (hV : Vx G rm_Page_append ad ZF (0, 0)) (hR : RtV G rm_Page_append ad ZF (0, 0) cX3_append K) (v0 : Nat) (v1 : Int64) (v3 : Int32) (v4 : Int32) : Sm G rm_Page_append ad ZF (0, 0) (lpK G rm_Page_append ad ZF (0, 0) 3 (fun (s : Int32) => [(0, .ref v0), (1, .long v1), (3, .int v3), (4, .int s)]) K) 3 [(0, .ref v0), (1, .long v1), (3, .int v3), (4, .int v4)] [] (Page_append_3_b v0 v1 v3 v4) := by
  unfold Page_append_3_b
  refine s_iload C rfl dX3_append_3 ?_
  refine s_iload_n C rfl dX3_append_5 ?_
  refine s_icmp_ge C 50 (by decide) dX3_append_6 ?_ ?_
  · refine s_exit ?_
    exact s_vret hR dX3_append_50
  · refine s_aload_n C rfl dX3_append_9 ?_
    refine s_getI C hV fl_X3_15 (fun _ _ _ => rfl) dX3_append_10 (fun x2 => ?_)
    refine s_bipush C (60 : Int32) (by decide) dX3_append_13 ?_
    refine s_icmp_ge C 50 (by decide) dX3_append_15 ?_ ?_
    · refine s_exit ?_
      exact s_vret hR dX3_append_50
    · refine s_aload_n C rfl dX3_append_18 ?_
      refine s_getR C hV fl_X3_9 (fun _ _ _ => rfl) dX3_append_19 (fun x3 => ?_)
      refine s_aload_n C rfl dX3_append_22 ?_
      refine s_getI C hV fl_X3_15 (fun _ _ _ => rfl) dX3_append_23 (fun x4 => ?_)
      refine s_lload_n C rfl dX3_append_26 ?_
      refine s_iload C rfl dX3_append_27 ?_
      refine s_uI C hV ls_X3_19 (st := [.int x4, .ref x3]) (met_Page_codeIn v1 v4) rf_Page_append_Page_codeIn rfl rfl (Nat.le_of_ble_eq_true rfl) dX3_append_29 (fun r5 => ?_)
      refine s_i2c C dX3_append_32 ?_
      refine s_castore C hV dX3_append_33 ?_
      refine s_aload_n C rfl dX3_append_34 ?_
      refine s_dupr C dX3_append_35 ?_
      refine s_getI C hV fl_X3_15 (fun _ _ _ => rfl) dX3_append_36 (fun x6 => ?_)
      refine s_iconst C (1 : Int32) (by decide) dX3_append_39 ?_
      refine s_iadd C dX3_append_40 ?_
      refine s_putI C hV fw_X3_15 rfl dX3_append_41 ?_
      refine s_iinc C (L' := fun x7 => [(4, .int x7), (0, .ref v0), (1, .long v1), (3, .int v3)]) (1 : Int32) (by decide) rfl (by decide) (fun _ => rfl) dX3_append_44 (fun x7 => ?_)
      refine s_goto C 3 (by decide) dX3_append_47 ?_
      exact s_back [0, 1, 3, 4] x7 rfl
set_option maxRecDepth 20000 in
theorem sm_Page_append_3 {G : GT} {ad : Nat → Nat} {K : Unit → Dm → Prop} (C : Cx G rm_Page_append cX3_append 5 RX3) (hV : Vx G rm_Page_append ad ZF (0, 0)) (hR : RtV G rm_Page_append ad ZF (0, 0) cX3_append K) (v0 : Nat) (v1 : Int64) (v3 : Int32) (s : Int32) : Sm G rm_Page_append ad ZF (0, 0) K 3 ((fun (s : Int32) => [(0, .ref v0), (1, .long v1), (3, .int v3), (4, .int s)]) s) [] (Page_append_3 v0 v1 v3 s) :=
  s_loop (en := (fun (s : Int32) => [(0, .ref v0), (1, .long v1), (3, .int v3), (4, .int s)])) (fun s => sm_Page_append_3_b C hV hR v0 v1 v3 s) s
set_option maxRecDepth 20000 in
theorem sm_Page_append {G : GT} {ad : Nat → Nat} {K : Unit → Dm → Prop} (C : Cx G rm_Page_append cX3_append 5 RX3) (hV : Vx G rm_Page_append ad ZF (0, 0)) (hR : RtV G rm_Page_append ad ZF (0, 0) cX3_append K) (v0 : Nat) (v1 : Int64) (v3 : Int32) : Sm G rm_Page_append ad ZF (0, 0) K 0 [(0, .ref v0), (1, .long v1), (3, .int v3)] [] (Page_append v0 v1 v3) := by
  unfold Page_append
  refine s_iconst C (0 : Int32) (by decide) dX3_append_0 ?_
  refine s_leti (fun x1 => ?_)
  refine s_istore C (L' := [(4, .int x1), (0, .ref v0), (1, .long v1), (3, .int v3)]) (by decide) rfl dX3_append_1 ?_
  exact s_weak [0, 1, 3, 4] rfl (sm_Page_append_3 C hV hR v0 v1 v3 x1)
set_option maxRecDepth 20000 in
theorem met_Page_append (v0 : Nat) (v1 : Int64) (v3 : Int32) : MV ZF yX3_append cX3_append 5 rm_Page_append [.ref v0, .long v1, .int v3] (Page_append v0 v1 v3) :=
  mv_of (L0 := [(0, .ref v0), (1, .long v1), (3, .int v3)]) (by decide +kernel) (Nat.le_of_ble_eq_true rfl) rfl (fun G ad K C hV hR => sm_Page_append C hV hR v0 v1 v3)

noncomputable def Text_clear (v0 : Nat) : MM Unit :=
  mb (pI ZF 9 1 v0 (0 : Int32)) fun _ =>
  mb (pI ZF 9 2 v0 (0 : Int32)) fun _ =>
  mb (pI ZF 9 3 v0 (0 : Int32)) fun _ =>
  mp ()
set_option maxRecDepth 20000 in
theorem sm_Text_clear {G : GT} {ad : Nat → Nat} {K : Unit → Dm → Prop} (C : Cx G rm_Text_clear cX8_clear 1 RX8) (hV : Vx G rm_Text_clear ad ZF (0, 0)) (hR : RtV G rm_Text_clear ad ZF (0, 0) cX8_clear K) (v0 : Nat) : Sm G rm_Text_clear ad ZF (0, 0) K 0 [(0, .ref v0)] [] (Text_clear v0) := by
  unfold Text_clear
  refine s_aload_n C rfl dX8_clear_0 ?_
  refine s_iconst C (0 : Int32) (by decide) dX8_clear_1 ?_
  refine s_putI C hV fw_X8_15 rfl dX8_clear_2 ?_
  refine s_aload_n C rfl dX8_clear_5 ?_
  refine s_iconst C (0 : Int32) (by decide) dX8_clear_6 ?_
  refine s_putI C hV fw_X8_19 rfl dX8_clear_7 ?_
  refine s_aload_n C rfl dX8_clear_10 ?_
  refine s_iconst C (0 : Int32) (by decide) dX8_clear_11 ?_
  refine s_putI C hV fw_X8_22 rfl dX8_clear_12 ?_
  exact s_vret hR dX8_clear_15
set_option maxRecDepth 20000 in
theorem met_Text_clear (v0 : Nat) : MV ZF yX8_clear cX8_clear 1 rm_Text_clear [.ref v0] (Text_clear v0) :=
  mv_of (L0 := [(0, .ref v0)]) (by decide +kernel) (Nat.le_of_ble_eq_true rfl) rfl (fun G ad K C hV hR => sm_Text_clear C hV hR v0)

noncomputable def Text_emit (v0 : Nat) (v1 : Int32) (v2 : Int32) : MM Unit :=
  mb (gI ZF 9 1 v0) fun x1 =>
  if (60 : Int32) ≤ x1 then
  mp ()
  else
  mb (gR ZF 9 0 v0) fun x2 =>
  mb (gI ZF 9 1 v0) fun x3 =>
  mb (sI ZF x2 x3 ((v1 <<< ((8 : Int32) &&& 31)) ||| v2)) fun _ =>
  mb (gI ZF 9 1 v0) fun x4 =>
  mb (pI ZF 9 1 v0 (x4 + (1 : Int32))) fun _ =>
  mp ()
set_option maxRecDepth 20000 in
theorem sm_Text_emit {G : GT} {ad : Nat → Nat} {K : Unit → Dm → Prop} (C : Cx G rm_Text_emit cX8_emit 3 RX8) (hV : Vx G rm_Text_emit ad ZF (0, 0)) (hR : RtV G rm_Text_emit ad ZF (0, 0) cX8_emit K) (v0 : Nat) (v1 : Int32) (v2 : Int32) : Sm G rm_Text_emit ad ZF (0, 0) K 0 [(0, .ref v0), (1, .int v1), (2, .int v2)] [] (Text_emit v0 v1 v2) := by
  unfold Text_emit
  refine s_aload_n C rfl dX8_emit_0 ?_
  refine s_getI C hV fl_X8_15 (fun _ _ _ => rfl) dX8_emit_1 (fun x1 => ?_)
  refine s_bipush C (60 : Int32) (by decide) dX8_emit_4 ?_
  refine s_icmp_ge C 34 (by decide) dX8_emit_6 ?_ ?_
  · exact s_vret hR dX8_emit_34
  · refine s_aload_n C rfl dX8_emit_9 ?_
    refine s_getR C hV fl_X8_9 (fun _ _ _ => rfl) dX8_emit_10 (fun x2 => ?_)
    refine s_aload_n C rfl dX8_emit_13 ?_
    refine s_getI C hV fl_X8_15 (fun _ _ _ => rfl) dX8_emit_14 (fun x3 => ?_)
    refine s_iload_n C rfl dX8_emit_17 ?_
    refine s_bipush C (8 : Int32) (by decide) dX8_emit_18 ?_
    refine s_ishl C dX8_emit_20 ?_
    refine s_iload_n C rfl dX8_emit_21 ?_
    refine s_ior C dX8_emit_22 ?_
    refine s_iastore C hV dX8_emit_23 ?_
    refine s_aload_n C rfl dX8_emit_24 ?_
    refine s_dupr C dX8_emit_25 ?_
    refine s_getI C hV fl_X8_15 (fun _ _ _ => rfl) dX8_emit_26 (fun x4 => ?_)
    refine s_iconst C (1 : Int32) (by decide) dX8_emit_29 ?_
    refine s_iadd C dX8_emit_30 ?_
    refine s_putI C hV fw_X8_15 rfl dX8_emit_31 ?_
    exact s_vret hR dX8_emit_34
set_option maxRecDepth 20000 in
theorem met_Text_emit (v0 : Nat) (v1 : Int32) (v2 : Int32) : MV ZF yX8_emit cX8_emit 3 rm_Text_emit [.ref v0, .int v1, .int v2] (Text_emit v0 v1 v2) :=
  mv_of (L0 := [(0, .ref v0), (1, .int v1), (2, .int v2)]) (by decide +kernel) (Nat.le_of_ble_eq_true rfl) rfl (fun G ad K C hV hR => sm_Text_emit C hV hR v0 v1 v2)

noncomputable def Text_widen (v0 : Nat) (v1 : Int32) : MM Unit :=
  mb (gI ZF 9 1 v0) fun x1 =>
  if x1 ≤ 0 then
  mp ()
  else
  mb (gR ZF 9 0 v0) fun x2 =>
  mb (gI ZF 9 1 v0) fun x3 =>
  mb (aI ZF 23 x2 (x3 - (1 : Int32))) fun x4 =>
  mb (gR ZF 9 0 v0) fun x5 =>
  mb (gI ZF 9 1 v0) fun x6 =>
  mb (aI ZF 23 x5 (x6 - (1 : Int32))) fun x7 =>
  mb (sI ZF x2 (x3 - (1 : Int32)) (x4 + (((9 : Int32) * (x7 &&& (255 : Int32))) + v1))) fun _ =>
  mp ()
set_option maxRecDepth 20000 in
theorem sm_Text_widen {G : GT} {ad : Nat → Nat} {K : Unit → Dm → Prop} (C : Cx G rm_Text_widen cX8_widen 2 RX8) (hV : Vx G rm_Text_widen ad ZF (0, 0)) (hR : RtV G rm_Text_widen ad ZF (0, 0) cX8_widen K) (v0 : Nat) (v1 : Int32) : Sm G rm_Text_widen ad ZF (0, 0) K 0 [(0, .ref v0), (1, .int v1)] [] (Text_widen v0 v1) := by
  unfold Text_widen
  refine s_aload_n C rfl dX8_widen_0 ?_
  refine s_getI C hV fl_X8_15 (fun _ _ _ => rfl) dX8_widen_1 (fun x1 => ?_)
  refine s_if_le C 41 (by decide) dX8_widen_4 ?_ ?_
  · exact s_vret hR dX8_widen_41
  · refine s_aload_n C rfl dX8_widen_7 ?_
    refine s_getR C hV fl_X8_9 (fun _ _ _ => rfl) dX8_widen_8 (fun x2 => ?_)
    refine s_aload_n C rfl dX8_widen_11 ?_
    refine s_getI C hV fl_X8_15 (fun _ _ _ => rfl) dX8_widen_12 (fun x3 => ?_)
    refine s_iconst C (1 : Int32) (by decide) dX8_widen_15 ?_
    refine s_isub C dX8_widen_16 ?_
    refine s_dup2 C dX8_widen_17 ?_
    refine s_iaload C hV dX8_widen_18 (fun x4 => ?_)
    refine s_bipush C (9 : Int32) (by decide) dX8_widen_19 ?_
    refine s_aload_n C rfl dX8_widen_21 ?_
    refine s_getR C hV fl_X8_9 (fun _ _ _ => rfl) dX8_widen_22 (fun x5 => ?_)
    refine s_aload_n C rfl dX8_widen_25 ?_
    refine s_getI C hV fl_X8_15 (fun _ _ _ => rfl) dX8_widen_26 (fun x6 => ?_)
    refine s_iconst C (1 : Int32) (by decide) dX8_widen_29 ?_
    refine s_isub C dX8_widen_30 ?_
    refine s_iaload C hV dX8_widen_31 (fun x7 => ?_)
    refine s_sipush C (255 : Int32) (by decide) dX8_widen_32 ?_
    refine s_iand C dX8_widen_35 ?_
    refine s_imul C dX8_widen_36 ?_
    refine s_iload_n C rfl dX8_widen_37 ?_
    refine s_iadd C dX8_widen_38 ?_
    refine s_iadd C dX8_widen_39 ?_
    refine s_iastore C hV dX8_widen_40 ?_
    exact s_vret hR dX8_widen_41
set_option maxRecDepth 20000 in
theorem met_Text_widen (v0 : Nat) (v1 : Int32) : MV ZF yX8_widen cX8_widen 2 rm_Text_widen [.ref v0, .int v1] (Text_widen v0 v1) :=
  mv_of (L0 := [(0, .ref v0), (1, .int v1)]) (by decide +kernel) (Nat.le_of_ble_eq_true rfl) rfl (fun G ad K C hV hR => sm_Text_widen C hV hR v0 v1)

noncomputable def Text_endRule (v0 : Nat) : MM Unit :=
  mb (gI ZF 9 1 v0) fun x1 =>
  mb (pI ZF 9 2 v0 x1) fun _ =>
  mp ()
set_option maxRecDepth 20000 in
theorem sm_Text_endRule {G : GT} {ad : Nat → Nat} {K : Unit → Dm → Prop} (C : Cx G rm_Text_endRule cX8_endRule 1 RX8) (hV : Vx G rm_Text_endRule ad ZF (0, 0)) (hR : RtV G rm_Text_endRule ad ZF (0, 0) cX8_endRule K) (v0 : Nat) : Sm G rm_Text_endRule ad ZF (0, 0) K 0 [(0, .ref v0)] [] (Text_endRule v0) := by
  unfold Text_endRule
  refine s_aload_n C rfl dX8_endRule_0 ?_
  refine s_aload_n C rfl dX8_endRule_1 ?_
  refine s_getI C hV fl_X8_15 (fun _ _ _ => rfl) dX8_endRule_2 (fun x1 => ?_)
  refine s_putI C hV fw_X8_19 rfl dX8_endRule_5 ?_
  exact s_vret hR dX8_endRule_8
set_option maxRecDepth 20000 in
theorem met_Text_endRule (v0 : Nat) : MV ZF yX8_endRule cX8_endRule 1 rm_Text_endRule [.ref v0] (Text_endRule v0) :=
  mv_of (L0 := [(0, .ref v0)]) (by decide +kernel) (Nat.le_of_ble_eq_true rfl) rfl (fun G ad K C hV hR => sm_Text_endRule C hV hR v0)

noncomputable def Text_copy (v0 : Nat) (v1 : Nat) : MM Unit :=
  mb (gR ZF 9 0 v1) fun x1 =>
  mb (gR ZF 9 0 v0) fun x2 =>
  mb (ac ZF x1 (0 : Int32) x2 (0 : Int32) (60 : Int32)) fun _ =>
  mb (gI ZF 9 1 v1) fun x3 =>
  mb (pI ZF 9 1 v0 x3) fun _ =>
  mb (gI ZF 9 2 v1) fun x4 =>
  mb (pI ZF 9 2 v0 x4) fun _ =>
  mb (gI ZF 9 3 v1) fun x5 =>
  mb (pI ZF 9 3 v0 x5) fun _ =>
  mp ()
set_option maxRecDepth 20000 in
theorem sm_Text_copy {G : GT} {ad : Nat → Nat} {K : Unit → Dm → Prop} (C : Cx G rm_Text_copy cX8_copy 2 RX8) (hV : Vx G rm_Text_copy ad ZF (0, 0)) (hR : RtV G rm_Text_copy ad ZF (0, 0) cX8_copy K) (v0 : Nat) (v1 : Nat) : Sm G rm_Text_copy ad ZF (0, 0) K 0 [(0, .ref v0), (1, .ref v1)] [] (Text_copy v0 v1) := by
  unfold Text_copy
  refine s_aload_n C rfl dX8_copy_0 ?_
  refine s_getR C hV fl_X8_9 (fun _ _ _ => rfl) dX8_copy_1 (fun x1 => ?_)
  refine s_iconst C (0 : Int32) (by decide) dX8_copy_4 ?_
  refine s_aload_n C rfl dX8_copy_5 ?_
  refine s_getR C hV fl_X8_9 (fun _ _ _ => rfl) dX8_copy_6 (fun x2 => ?_)
  refine s_iconst C (0 : Int32) (by decide) dX8_copy_9 ?_
  refine s_bipush C (60 : Int32) (by decide) dX8_copy_10 ?_
  refine s_acopy C hV ml_X8_25 ac_w2 ac_w3 ac_w4 ⟨Nat.le_of_ble_eq_true rfl, Nat.le_of_ble_eq_true rfl⟩ dX8_copy_12 ?_
  refine s_aload_n C rfl dX8_copy_15 ?_
  refine s_aload_n C rfl dX8_copy_16 ?_
  refine s_getI C hV fl_X8_15 (fun _ _ _ => rfl) dX8_copy_17 (fun x3 => ?_)
  refine s_putI C hV fw_X8_15 rfl dX8_copy_20 ?_
  refine s_aload_n C rfl dX8_copy_23 ?_
  refine s_aload_n C rfl dX8_copy_24 ?_
  refine s_getI C hV fl_X8_19 (fun _ _ _ => rfl) dX8_copy_25 (fun x4 => ?_)
  refine s_putI C hV fw_X8_19 rfl dX8_copy_28 ?_
  refine s_aload_n C rfl dX8_copy_31 ?_
  refine s_aload_n C rfl dX8_copy_32 ?_
  refine s_getI C hV fl_X8_22 (fun _ _ _ => rfl) dX8_copy_33 (fun x5 => ?_)
  refine s_putI C hV fw_X8_22 rfl dX8_copy_36 ?_
  exact s_vret hR dX8_copy_39
set_option maxRecDepth 20000 in
theorem met_Text_copy (v0 : Nat) (v1 : Nat) : MV ZF yX8_copy cX8_copy 2 rm_Text_copy [.ref v0, .ref v1] (Text_copy v0 v1) :=
  mv_of (L0 := [(0, .ref v0), (1, .ref v1)]) (by decide +kernel) (Nat.le_of_ble_eq_true rfl) rfl (fun G ad K C hV hR => sm_Text_copy C hV hR v0 v1)

noncomputable def Main_isNumberOfPlate (v0 : Int64) : MM Int32 :=
  if v0 < (0 : Int64) then
  mz (0 : Int32)
  else
  if (9999999999999999 : Int64) < v0 then
  mz (0 : Int32)
  else
  mz (1 : Int32)
set_option maxRecDepth 20000 in
theorem sm_Main_isNumberOfPlate {G : GT} {ad : Nat → Nat} {K : Int32 → Dm → Prop} (C : Cx G rm_Main_isNumberOfPlate cX10_isNumberOfPlate 2 RX10) (hV : Vx G rm_Main_isNumberOfPlate ad ZF (0, 0)) (hR : RtI G rm_Main_isNumberOfPlate ad ZF (0, 0) cX10_isNumberOfPlate .boolean K) (v0 : Int64) : Sm G rm_Main_isNumberOfPlate ad ZF (0, 0) K 0 [(0, .long v0)] [] (Main_isNumberOfPlate v0) := by
  unfold Main_isNumberOfPlate
  refine s_lload_n C rfl dX10_isNumberOfPlate_0 ?_
  refine s_lconst C (0 : Int64) (by decide) dX10_isNumberOfPlate_1 ?_
  refine s_lcmp_lt C 18 (by decide) dX10_isNumberOfPlate_2 dX10_isNumberOfPlate_3 ?_ ?_
  · refine s_iconst C (0 : Int32) (by decide) dX10_isNumberOfPlate_18 ?_
    exact s_iretz hR dX10_isNumberOfPlate_19
  · refine s_lload_n C rfl dX10_isNumberOfPlate_6 ?_
    refine s_ldc2 C kl_X10_303 dX10_isNumberOfPlate_7 ?_
    refine s_lcmp_gt C 18 (by decide) dX10_isNumberOfPlate_10 dX10_isNumberOfPlate_11 ?_ ?_
    · refine s_iconst C (0 : Int32) (by decide) dX10_isNumberOfPlate_18 ?_
      exact s_iretz hR dX10_isNumberOfPlate_19
    · refine s_iconst C (1 : Int32) (by decide) dX10_isNumberOfPlate_14 ?_
      refine s_goto C 19 (by decide) dX10_isNumberOfPlate_15 ?_
      exact s_iretz hR dX10_isNumberOfPlate_19
set_option maxRecDepth 20000 in
theorem met_Main_isNumberOfPlate (v0 : Int64) : MI ZF yX10_isNumberOfPlate cX10_isNumberOfPlate 2 .boolean rm_Main_isNumberOfPlate [.long v0] (Main_isNumberOfPlate v0) :=
  mi_of (L0 := [(0, .long v0)]) (by decide +kernel) (Nat.le_of_ble_eq_true rfl) rfl (fun G ad K C hV hR => sm_Main_isNumberOfPlate C hV hR v0)

noncomputable def Main_plateOfNumber_8_b (v2 : Int64) (v4 : Int64) (v6 : Int32) : MM ((Int64 × Int64 × Int32) ⊕ Int64) :=
  if (8 : Int32) ≤ v6 then
  mr (
  mp v4)
  else
  ml (v4 ||| ((v2 - v2 / (100 : Int64) * (100 : Int64)) <<< ((((8 : Int32) * v6)).toInt64 &&& 63))) fun x3 =>
  ml (v2 / (100 : Int64)) fun x4 =>
  ml (v6 + (1 : Int32)) fun x5 =>
  mp (.inl (x4, x3, x5))
noncomputable def Main_plateOfNumber_8 (s : (Int64 × Int64 × Int32)) : MM Int64 := lo (fun (s : (Int64 × Int64 × Int32)) => Main_plateOfNumber_8_b s.1 s.2.1 s.2.2) s
noncomputable def Main_plateOfNumber (v0 : Int64) : MM Int64 :=
  ml (0 : Int64) fun x1 =>
  ml (0 : Int32) fun x2 =>
  Main_plateOfNumber_8 (v0, x1, x2)
set_option maxRecDepth 20000 in
theorem sm_Main_plateOfNumber_8_b {G : GT} {ad : Nat → Nat} {K : Int64 → Dm → Prop} (C : Cx G rm_Main_plateOfNumber cX10_plateOfNumber 7 RX10) (hV : Vx G rm_Main_plateOfNumber ad ZF (0, 0)) (hR : RtL G rm_Main_plateOfNumber ad ZF (0, 0) cX10_plateOfNumber K) (v2 : Int64) (v4 : Int64) (v6 : Int32) : Sm G rm_Main_plateOfNumber ad ZF (0, 0) (lpK G rm_Main_plateOfNumber ad ZF (0, 0) 8 (fun (s : (Int64 × Int64 × Int32)) => [(2, .long s.1), (4, .long s.2.1), (6, .int s.2.2)]) K) 8 [(2, .long v2), (4, .long v4), (6, .int v6)] [] (Main_plateOfNumber_8_b v2 v4 v6) := by
  unfold Main_plateOfNumber_8_b
  refine s_iload C rfl dX10_plateOfNumber_8 ?_
  refine s_bipush C (8 : Int32) (by decide) dX10_plateOfNumber_10 ?_
  refine s_icmp_ge C 43 (by decide) dX10_plateOfNumber_12 ?_ ?_
  · refine s_exit ?_
    refine s_lload C rfl dX10_plateOfNumber_43 ?_
    exact s_lret hR dX10_plateOfNumber_45
  · refine s_lload C rfl dX10_plateOfNumber_15 ?_
    refine s_lload_n C rfl dX10_plateOfNumber_17 ?_
    refine s_ldc2 C kl_X10_305 dX10_plateOfNumber_18 ?_
    refine s_lrem C (by decide) dX10_plateOfNumber_21 ?_
    refine s_bipush C (8 : Int32) (by decide) dX10_plateOfNumber_22 ?_
    refine s_iload C rfl dX10_plateOfNumber_24 ?_
    refine s_imul C dX10_plateOfNumber_26 ?_
    refine s_lshl C dX10_plateOfNumber_27 ?_
    refine s_lor C dX10_plateOfNumber_28 ?_
    refine s_letl (fun x3 => ?_)
    refine s_lstore C (L' := [(4, .long x3), (2, .long v2), (6, .int v6)]) (by decide) rfl dX10_plateOfNumber_29 ?_
    refine s_lload_n C rfl dX10_plateOfNumber_31 ?_
    refine s_ldc2 C kl_X10_305 dX10_plateOfNumber_32 ?_
    refine s_ldiv C (by decide) dX10_plateOfNumber_35 ?_
    refine s_letl (fun x4 => ?_)
    refine s_lstore_n C (L' := [(2, .long x4), (4, .long x3), (6, .int v6)]) (by decide) rfl dX10_plateOfNumber_36 ?_
    refine s_iinc C (L' := fun x5 => [(6, .int x5), (2, .long x4), (4, .long x3)]) (1 : Int32) (by decide) rfl (by decide) (fun _ => rfl) dX10_plateOfNumber_37 (fun x5 => ?_)
    refine s_goto C 8 (by decide) dX10_plateOfNumber_40 ?_
    exact s_back [2, 4, 6] (x4, x3, x5) rfl
set_option maxRecDepth 20000 in
theorem sm_Main_plateOfNumber_8 {G : GT} {ad : Nat → Nat} {K : Int64 → Dm → Prop} (C : Cx G rm_Main_plateOfNumber cX10_plateOfNumber 7 RX10) (hV : Vx G rm_Main_plateOfNumber ad ZF (0, 0)) (hR : RtL G rm_Main_plateOfNumber ad ZF (0, 0) cX10_plateOfNumber K) (s : (Int64 × Int64 × Int32)) : Sm G rm_Main_plateOfNumber ad ZF (0, 0) K 8 ((fun (s : (Int64 × Int64 × Int32)) => [(2, .long s.1), (4, .long s.2.1), (6, .int s.2.2)]) s) [] (Main_plateOfNumber_8  s) :=
  s_loop (en := (fun (s : (Int64 × Int64 × Int32)) => [(2, .long s.1), (4, .long s.2.1), (6, .int s.2.2)])) (fun s => sm_Main_plateOfNumber_8_b C hV hR s.1 s.2.1 s.2.2) s
set_option maxRecDepth 20000 in
theorem sm_Main_plateOfNumber {G : GT} {ad : Nat → Nat} {K : Int64 → Dm → Prop} (C : Cx G rm_Main_plateOfNumber cX10_plateOfNumber 7 RX10) (hV : Vx G rm_Main_plateOfNumber ad ZF (0, 0)) (hR : RtL G rm_Main_plateOfNumber ad ZF (0, 0) cX10_plateOfNumber K) (v0 : Int64) : Sm G rm_Main_plateOfNumber ad ZF (0, 0) K 0 [(0, .long v0)] [] (Main_plateOfNumber v0) := by
  unfold Main_plateOfNumber
  refine s_lload_n C rfl dX10_plateOfNumber_0 ?_
  refine s_lstore_n C (L' := [(2, .long v0), (0, .long v0)]) (by decide) rfl dX10_plateOfNumber_1 ?_
  refine s_lconst C (0 : Int64) (by decide) dX10_plateOfNumber_2 ?_
  refine s_letl (fun x1 => ?_)
  refine s_lstore C (L' := [(4, .long x1), (2, .long v0), (0, .long v0)]) (by decide) rfl dX10_plateOfNumber_3 ?_
  refine s_iconst C (0 : Int32) (by decide) dX10_plateOfNumber_5 ?_
  refine s_leti (fun x2 => ?_)
  refine s_istore C (L' := [(6, .int x2), (4, .long x1), (2, .long v0), (0, .long v0)]) (by decide) rfl dX10_plateOfNumber_6 ?_
  exact s_weak [2, 4, 6] rfl (sm_Main_plateOfNumber_8 C hV hR (v0, x1, x2))
set_option maxRecDepth 20000 in
theorem met_Main_plateOfNumber (v0 : Int64) : ML ZF yX10_plateOfNumber cX10_plateOfNumber 7 rm_Main_plateOfNumber [.long v0] (Main_plateOfNumber v0) :=
  ml_of (L0 := [(0, .long v0)]) (by decide +kernel) (Nat.le_of_ble_eq_true rfl) rfl (fun G ad K C hV hR => sm_Main_plateOfNumber C hV hR v0)

noncomputable def Main_unpack_2_b (v0 : Int64) (v2 : Nat) (v3 : Int32) : MM (Int32 ⊕ Unit) :=
  mb (al ZF 23 v2) fun x2 =>
  if x2 ≤ v3 then
  mr (
  mp ())
  else
  mb (sI ZF v2 v3 (((((v0).toUInt64 >>> ((((8 : Int32) * v3)).toInt64.toUInt64 &&& Int64.toUInt64 63)).toInt64) &&& (255 : Int64)).toInt32)) fun _ =>
  ml (v3 + (1 : Int32)) fun x3 =>
  mp (.inl x3)
noncomputable def Main_unpack_2 (v0 : Int64) (v2 : Nat) (s : Int32) : MM Unit := lo (fun (s : Int32) => Main_unpack_2_b v0 v2 s) s
noncomputable def Main_unpack (v0 : Int64) (v2 : Nat) : MM Unit :=
  ml (0 : Int32) fun x1 =>
  Main_unpack_2 v0 v2 x1
set_option maxRecDepth 20000 in
theorem sm_Main_unpack_2_b {G : GT} {ad : Nat → Nat} {K : Unit → Dm → Prop} (C : Cx G rm_Main_unpack cX10_unpack 4 RX10) (hV : Vx G rm_Main_unpack ad ZF (0, 0)) (hR : RtV G rm_Main_unpack ad ZF (0, 0) cX10_unpack K) (v0 : Int64) (v2 : Nat) (v3 : Int32) : Sm G rm_Main_unpack ad ZF (0, 0) (lpK G rm_Main_unpack ad ZF (0, 0) 2 (fun (s : Int32) => [(0, .long v0), (2, .ref v2), (3, .int s)]) K) 2 [(0, .long v0), (2, .ref v2), (3, .int v3)] [] (Main_unpack_2_b v0 v2 v3) := by
  unfold Main_unpack_2_b
  refine s_iload_n C rfl dX10_unpack_2 ?_
  refine s_aload_n C rfl dX10_unpack_3 ?_
  refine s_alenI C hV dX10_unpack_4 (fun x2 => ?_)
  refine s_icmp_ge C 28 (by decide) dX10_unpack_5 ?_ ?_
  · refine s_exit ?_
    exact s_vret hR dX10_unpack_28
  · refine s_aload_n C rfl dX10_unpack_8 ?_
    refine s_iload_n C rfl dX10_unpack_9 ?_
    refine s_lload_n C rfl dX10_unpack_10 ?_
    refine s_bipush C (8 : Int32) (by decide) dX10_unpack_11 ?_
    refine s_iload_n C rfl dX10_unpack_13 ?_
    refine s_imul C dX10_unpack_14 ?_
    refine s_lushr C dX10_unpack_15 ?_
    refine s_ldc2 C kl_X10_307 dX10_unpack_16 ?_
    refine s_land C dX10_unpack_19 ?_
    refine s_l2i C dX10_unpack_20 ?_
    refine s_iastore C hV dX10_unpack_21 ?_
    refine s_iinc C (L' := fun x3 => [(3, .int x3), (0, .long v0), (2, .ref v2)]) (1 : Int32) (by decide) rfl (by decide) (fun _ => rfl) dX10_unpack_22 (fun x3 => ?_)
    refine s_goto C 2 (by decide) dX10_unpack_25 ?_
    exact s_back [0, 2, 3] x3 rfl
set_option maxRecDepth 20000 in
theorem sm_Main_unpack_2 {G : GT} {ad : Nat → Nat} {K : Unit → Dm → Prop} (C : Cx G rm_Main_unpack cX10_unpack 4 RX10) (hV : Vx G rm_Main_unpack ad ZF (0, 0)) (hR : RtV G rm_Main_unpack ad ZF (0, 0) cX10_unpack K) (v0 : Int64) (v2 : Nat) (s : Int32) : Sm G rm_Main_unpack ad ZF (0, 0) K 2 ((fun (s : Int32) => [(0, .long v0), (2, .ref v2), (3, .int s)]) s) [] (Main_unpack_2 v0 v2 s) :=
  s_loop (en := (fun (s : Int32) => [(0, .long v0), (2, .ref v2), (3, .int s)])) (fun s => sm_Main_unpack_2_b C hV hR v0 v2 s) s
set_option maxRecDepth 20000 in
theorem sm_Main_unpack {G : GT} {ad : Nat → Nat} {K : Unit → Dm → Prop} (C : Cx G rm_Main_unpack cX10_unpack 4 RX10) (hV : Vx G rm_Main_unpack ad ZF (0, 0)) (hR : RtV G rm_Main_unpack ad ZF (0, 0) cX10_unpack K) (v0 : Int64) (v2 : Nat) : Sm G rm_Main_unpack ad ZF (0, 0) K 0 [(0, .long v0), (2, .ref v2)] [] (Main_unpack v0 v2) := by
  unfold Main_unpack
  refine s_iconst C (0 : Int32) (by decide) dX10_unpack_0 ?_
  refine s_leti (fun x1 => ?_)
  refine s_istore_n C (L' := [(3, .int x1), (0, .long v0), (2, .ref v2)]) (by decide) rfl dX10_unpack_1 ?_
  exact s_weak [0, 2, 3] rfl (sm_Main_unpack_2 C hV hR v0 v2 x1)
set_option maxRecDepth 20000 in
theorem met_Main_unpack (v0 : Int64) (v2 : Nat) : MV ZF yX10_unpack cX10_unpack 4 rm_Main_unpack [.long v0, .ref v2] (Main_unpack v0 v2) :=
  mv_of (L0 := [(0, .long v0), (2, .ref v2)]) (by decide +kernel) (Nat.le_of_ble_eq_true rfl) rfl (fun G ad K C hV hR => sm_Main_unpack C hV hR v0 v2)

noncomputable def Text_isTrue_212 (v0 : Nat) (v1 : Nat) (v2 : Int64) (v4 : Int32) (v5 : Int32) : MM ((Int64 × Int32 × Int32) ⊕ Int32) :=
  ml (v5 + (1 : Int32)) fun x9 =>
  mp (.inl (v2, v4, x9))
noncomputable def Text_isTrue_162 (v0 : Nat) (v1 : Nat) (v5 : Int32) (t0 : Int64) (t1 : Int64) : MM ((Int64 × Int32 × Int32) ⊕ Int32) :=
  ml (t0 ||| t1) fun x12 =>
  ml (0 : Int32) fun x13 =>
  Text_isTrue_212 v0 v1 x12 x13 v5
noncomputable def Text_isTrue_147 (v0 : Nat) (v1 : Nat) (v2 : Int64) (v5 : Int32) (t0 : Int32) : MM ((Int64 × Int32 × Int32) ⊕ Int32) :=
  Text_isTrue_162 v0 v1 v5 (v2 <<< (((1 : Int32)).toInt64 &&& 63)) (if t0 = 0 then (0 : Int64) else (1 : Int64))
noncomputable def Text_isTrue_86 (v0 : Nat) (v1 : Nat) (v2 : Int64) (v5 : Int32) (t0 : Int32) (t1 : Int32) : MM ((Int64 × Int32 × Int32) ⊕ Int32) :=
  ml (t0 + t1) fun x17 =>
  Text_isTrue_212 v0 v1 v2 x17 v5
noncomputable def Text_isTrue_67 (v0 : Nat) (v1 : Nat) (v2 : Int64) (v4 : Int32) (v5 : Int32) (v6 : Int32) (t0 : Int32) : MM ((Int64 × Int32 × Int32) ⊕ Int32) :=
  Text_isTrue_86 v0 v1 v2 v5 v4 (if (v6 &&& (1 : Int32)) = 0 then t0 else (-t0))
noncomputable def Text_isTrue_8_b (v0 : Nat) (v1 : Nat) (v2 : Int64) (v4 : Int32) (v5 : Int32) : MM ((Int64 × Int32 × Int32) ⊕ Int32) :=
  mb (gI ZF 9 2 v0) fun x4 =>
  if x4 ≤ v5 then
  mr (
  if (v2 &&& (1 : Int64)) = (0 : Int64) then
  mz (0 : Int32)
  else
  mz (1 : Int32))
  else
  mb (gR ZF 9 0 v0) fun x5 =>
  mb (aI ZF 23 x5 v5) fun x6 =>
  ml (x6 >>> ((8 : Int32) &&& 31)) fun x7 =>
  if (4 : Int32) ≤ x7 then
  if (6 : Int32) < x7 then
  if x7 = (7 : Int32) then
  ml (v2 ^^^ (1 : Int64)) fun x11 =>
  Text_isTrue_212 v0 v1 x11 v4 v5
  else
  if x7 = (8 : Int32) then
  ml ((((v2).toUInt64 >>> (((1 : Int32)).toInt64.toUInt64 &&& Int64.toUInt64 63)).toInt64) &&& (v2 ||| ((-2) : Int64))) fun x10 =>
  Text_isTrue_212 v0 v1 x10 v4 v5
  else
  ml ((((v2).toUInt64 >>> (((1 : Int32)).toInt64.toUInt64 &&& Int64.toUInt64 63)).toInt64) ||| (v2 &&& (1 : Int64))) fun x8 =>
  Text_isTrue_212 v0 v1 x8 v4 v5
  else
  if x7 = (4 : Int32) then
  Text_isTrue_147 v0 v1 v2 v5 (if 0 ≤ v4 then (0 : Int32) else (1 : Int32))
  else
  if x7 = (5 : Int32) then
  Text_isTrue_147 v0 v1 v2 v5 (if v4 = 0 then (1 : Int32) else (0 : Int32))
  else
  Text_isTrue_147 v0 v1 v2 v5 (if v4 ≤ 0 then (0 : Int32) else (1 : Int32))
  else
  if (2 : Int32) ≤ x7 then
  mb (gR ZF 9 0 v0) fun x14 =>
  mb (aI ZF 23 x14 v5) fun x15 =>
  mb (aI ZF 23 v1 (x15 &&& (7 : Int32))) fun x16 =>
  Text_isTrue_67 v0 v1 v2 v4 v5 x7 x16
  else
  mb (gR ZF 9 0 v0) fun x18 =>
  mb (aI ZF 23 x18 v5) fun x19 =>
  Text_isTrue_67 v0 v1 v2 v4 v5 x7 (x19 &&& (255 : Int32))
noncomputable def Text_isTrue_8 (v0 : Nat) (v1 : Nat) (s : (Int64 × Int32 × Int32)) : MM Int32 := lo (fun (s : (Int64 × Int32 × Int32)) => Text_isTrue_8_b v0 v1 s.1 s.2.1 s.2.2) s
noncomputable def Text_isTrue (v0 : Nat) (v1 : Nat) : MM Int32 :=
  ml (0 : Int64) fun x1 =>
  ml (0 : Int32) fun x2 =>
  ml (0 : Int32) fun x3 =>
  Text_isTrue_8 v0 v1 (x1, x2, x3)
set_option maxRecDepth 20000 in
theorem sm_Text_isTrue_212 {G : GT} {ad : Nat → Nat} {K : Int32 → Dm → Prop} (C : Cx G rm_Text_isTrue cX8_isTrue 8 RX8) (hV : Vx G rm_Text_isTrue ad ZF (0, 0)) (hR : RtI G rm_Text_isTrue ad ZF (0, 0) cX8_isTrue .boolean K) (v0 : Nat) (v1 : Nat) (v2 : Int64) (v4 : Int32) (v5 : Int32) : Sm G rm_Text_isTrue ad ZF (0, 0) (lpK G rm_Text_isTrue ad ZF (0, 0) 8 (fun (s : (Int64 × Int32 × Int32)) => [(0, .ref v0), (1, .ref v1), (2, .long s.1), (4, .int s.2.1), (5, .int s.2.2)]) K) 212 [(0, .ref v0), (1, .ref v1), (2, .long v2), (4, .int v4), (5, .int v5)] [] (Text_isTrue_212 v0 v1 v2 v4 v5) := by
  unfold Text_isTrue_212
  refine s_iinc C (L' := fun x9 => [(5, .int x9), (0, .ref v0), (1, .ref v1), (2, .long v2), (4, .int v4)]) (1 : Int32) (by decide) rfl (by decide) (fun _ => rfl) dX8_isTrue_212 (fun x9 => ?_)
  refine s_goto C 8 (by decide) dX8_isTrue_215 ?_
  exact s_back [0, 1, 2, 4, 5] (v2, v4, x9) rfl
set_option maxRecDepth 20000 in
theorem sm_Text_isTrue_162 {G : GT} {ad : Nat → Nat} {K : Int32 → Dm → Prop} (C : Cx G rm_Text_isTrue cX8_isTrue 8 RX8) (hV : Vx G rm_Text_isTrue ad ZF (0, 0)) (hR : RtI G rm_Text_isTrue ad ZF (0, 0) cX8_isTrue .boolean K) (v0 : Nat) (v1 : Nat) (v5 : Int32) (t0 : Int64) (t1 : Int64) : Sm G rm_Text_isTrue ad ZF (0, 0) (lpK G rm_Text_isTrue ad ZF (0, 0) 8 (fun (s : (Int64 × Int32 × Int32)) => [(0, .ref v0), (1, .ref v1), (2, .long s.1), (4, .int s.2.1), (5, .int s.2.2)]) K) 162 [(0, .ref v0), (1, .ref v1), (5, .int v5)] [.long t1, .long t0] (Text_isTrue_162 v0 v1 v5 t0 t1) := by
  unfold Text_isTrue_162
  refine s_lor C dX8_isTrue_162 ?_
  refine s_letl (fun x12 => ?_)
  refine s_lstore_n C (L' := [(2, .long x12), (0, .ref v0), (1, .ref v1), (5, .int v5)]) (by decide) rfl dX8_isTrue_163 ?_
  refine s_iconst C (0 : Int32) (by decide) dX8_isTrue_164 ?_
  refine s_leti (fun x13 => ?_)
  refine s_istore C (L' := [(4, .int x13), (2, .long x12), (0, .ref v0), (1, .ref v1), (5, .int v5)]) (by decide) rfl dX8_isTrue_165 ?_
  refine s_goto C 212 (by decide) dX8_isTrue_167 ?_
  exact s_weak [0, 1, 2, 4, 5] rfl (sm_Text_isTrue_212 C hV hR v0 v1 x12 x13 v5)
set_option maxRecDepth 20000 in
theorem sm_Text_isTrue_147 {G : GT} {ad : Nat → Nat} {K : Int32 → Dm → Prop} (C : Cx G rm_Text_isTrue cX8_isTrue 8 RX8) (hV : Vx G rm_Text_isTrue ad ZF (0, 0)) (hR : RtI G rm_Text_isTrue ad ZF (0, 0) cX8_isTrue .boolean K) (v0 : Nat) (v1 : Nat) (v2 : Int64) (v5 : Int32) (t0 : Int32) : Sm G rm_Text_isTrue ad ZF (0, 0) (lpK G rm_Text_isTrue ad ZF (0, 0) 8 (fun (s : (Int64 × Int32 × Int32)) => [(0, .ref v0), (1, .ref v1), (2, .long s.1), (4, .int s.2.1), (5, .int s.2.2)]) K) 147 [(0, .ref v0), (1, .ref v1), (2, .long v2), (5, .int v5)] [.int t0] (Text_isTrue_147 v0 v1 v2 v5 t0) := by
  unfold Text_isTrue_147
  refine s_istore C (L' := [(7, .int t0), (0, .ref v0), (1, .ref v1), (2, .long v2), (5, .int v5)]) (by decide) rfl dX8_isTrue_147 ?_
  refine s_lload_n C rfl dX8_isTrue_149 ?_
  refine s_iconst C (1 : Int32) (by decide) dX8_isTrue_150 ?_
  refine s_lshl C dX8_isTrue_151 ?_
  refine s_iload C rfl dX8_isTrue_152 ?_
  refine s_ite (g := fun z => Text_isTrue_162 v0 v1 v5 (v2 <<< (((1 : Int32)).toInt64 &&& 63)) z) ?_
  refine s_if_eq C 161 (by decide) dX8_isTrue_154 ?_ ?_
  · refine s_lconst C (0 : Int64) (by decide) dX8_isTrue_161 ?_
    exact s_weak [0, 1, 5] rfl (sm_Text_isTrue_162 C hV hR v0 v1 v5 (v2 <<< (((1 : Int32)).toInt64 &&& 63)) (0 : Int64))
  · refine s_lconst C (1 : Int64) (by decide) dX8_isTrue_157 ?_
    refine s_goto C 162 (by decide) dX8_isTrue_158 ?_
    exact s_weak [0, 1, 5] rfl (sm_Text_isTrue_162 C hV hR v0 v1 v5 (v2 <<< (((1 : Int32)).toInt64 &&& 63)) (1 : Int64))
set_option maxRecDepth 20000 in
theorem sm_Text_isTrue_86 {G : GT} {ad : Nat → Nat} {K : Int32 → Dm → Prop} (C : Cx G rm_Text_isTrue cX8_isTrue 8 RX8) (hV : Vx G rm_Text_isTrue ad ZF (0, 0)) (hR : RtI G rm_Text_isTrue ad ZF (0, 0) cX8_isTrue .boolean K) (v0 : Nat) (v1 : Nat) (v2 : Int64) (v5 : Int32) (t0 : Int32) (t1 : Int32) : Sm G rm_Text_isTrue ad ZF (0, 0) (lpK G rm_Text_isTrue ad ZF (0, 0) 8 (fun (s : (Int64 × Int32 × Int32)) => [(0, .ref v0), (1, .ref v1), (2, .long s.1), (4, .int s.2.1), (5, .int s.2.2)]) K) 86 [(0, .ref v0), (1, .ref v1), (2, .long v2), (5, .int v5)] [.int t1, .int t0] (Text_isTrue_86 v0 v1 v2 v5 t0 t1) := by
  unfold Text_isTrue_86
  refine s_iadd C dX8_isTrue_86 ?_
  refine s_leti (fun x17 => ?_)
  refine s_istore C (L' := [(4, .int x17), (0, .ref v0), (1, .ref v1), (2, .long v2), (5, .int v5)]) (by decide) rfl dX8_isTrue_87 ?_
  refine s_goto C 212 (by decide) dX8_isTrue_89 ?_
  exact s_weak [0, 1, 2, 4, 5] rfl (sm_Text_isTrue_212 C hV hR v0 v1 v2 x17 v5)
set_option maxRecDepth 20000 in
theorem sm_Text_isTrue_67 {G : GT} {ad : Nat → Nat} {K : Int32 → Dm → Prop} (C : Cx G rm_Text_isTrue cX8_isTrue 8 RX8) (hV : Vx G rm_Text_isTrue ad ZF (0, 0)) (hR : RtI G rm_Text_isTrue ad ZF (0, 0) cX8_isTrue .boolean K) (v0 : Nat) (v1 : Nat) (v2 : Int64) (v4 : Int32) (v5 : Int32) (v6 : Int32) (t0 : Int32) : Sm G rm_Text_isTrue ad ZF (0, 0) (lpK G rm_Text_isTrue ad ZF (0, 0) 8 (fun (s : (Int64 × Int32 × Int32)) => [(0, .ref v0), (1, .ref v1), (2, .long s.1), (4, .int s.2.1), (5, .int s.2.2)]) K) 67 [(0, .ref v0), (1, .ref v1), (2, .long v2), (4, .int v4), (5, .int v5), (6, .int v6)] [.int t0] (Text_isTrue_67 v0 v1 v2 v4 v5 v6 t0) := by
  unfold Text_isTrue_67
  refine s_istore C (L' := [(7, .int t0), (0, .ref v0), (1, .ref v1), (2, .long v2), (4, .int v4), (5, .int v5), (6, .int v6)]) (by decide) rfl dX8_isTrue_67 ?_
  refine s_iload C rfl dX8_isTrue_69 ?_
  refine s_iload C rfl dX8_isTrue_71 ?_
  refine s_iconst C (1 : Int32) (by decide) dX8_isTrue_73 ?_
  refine s_iand C dX8_isTrue_74 ?_
  refine s_ite (g := fun z => Text_isTrue_86 v0 v1 v2 v5 v4 z) ?_
  refine s_if_ne C 83 (by decide) dX8_isTrue_75 ?_ ?_
  · refine s_iload C rfl dX8_isTrue_83 ?_
    refine s_ineg C dX8_isTrue_85 ?_
    exact s_weak [0, 1, 2, 5] rfl (sm_Text_isTrue_86 C hV hR v0 v1 v2 v5 v4 (-t0))
  · refine s_iload C rfl dX8_isTrue_78 ?_
    refine s_goto C 86 (by decide) dX8_isTrue_80 ?_
    exact s_weak [0, 1, 2, 5] rfl (sm_Text_isTrue_86 C hV hR v0 v1 v2 v5 v4 t0)
set_option maxRecDepth 20000 in
theorem sm_Text_isTrue_8_b {G : GT} {ad : Nat → Nat} {K : Int32 → Dm → Prop} (C : Cx G rm_Text_isTrue cX8_isTrue 8 RX8) (hV : Vx G rm_Text_isTrue ad ZF (0, 0)) (hR : RtI G rm_Text_isTrue ad ZF (0, 0) cX8_isTrue .boolean K) (v0 : Nat) (v1 : Nat) (v2 : Int64) (v4 : Int32) (v5 : Int32) : Sm G rm_Text_isTrue ad ZF (0, 0) (lpK G rm_Text_isTrue ad ZF (0, 0) 8 (fun (s : (Int64 × Int32 × Int32)) => [(0, .ref v0), (1, .ref v1), (2, .long s.1), (4, .int s.2.1), (5, .int s.2.2)]) K) 8 [(0, .ref v0), (1, .ref v1), (2, .long v2), (4, .int v4), (5, .int v5)] [] (Text_isTrue_8_b v0 v1 v2 v4 v5) := by
  unfold Text_isTrue_8_b
  refine s_iload C rfl dX8_isTrue_8 ?_
  refine s_aload_n C rfl dX8_isTrue_10 ?_
  refine s_getI C hV fl_X8_19 (fun _ _ _ => rfl) dX8_isTrue_11 (fun x4 => ?_)
  refine s_icmp_ge C 218 (by decide) dX8_isTrue_14 ?_ ?_
  · refine s_exit ?_
    refine s_lload_n C rfl dX8_isTrue_218 ?_
    refine s_lconst C (1 : Int64) (by decide) dX8_isTrue_219 ?_
    refine s_land C dX8_isTrue_220 ?_
    refine s_lconst C (0 : Int64) (by decide) dX8_isTrue_221 ?_
    refine s_lcmp_eq C 230 (by decide) dX8_isTrue_222 dX8_isTrue_223 ?_ ?_
    · refine s_iconst C (0 : Int32) (by decide) dX8_isTrue_230 ?_
      exact s_iretz hR dX8_isTrue_231
    · refine s_iconst C (1 : Int32) (by decide) dX8_isTrue_226 ?_
      refine s_goto C 231 (by decide) dX8_isTrue_227 ?_
      exact s_iretz hR dX8_isTrue_231
  · refine s_aload_n C rfl dX8_isTrue_17 ?_
    refine s_getR C hV fl_X8_9 (fun _ _ _ => rfl) dX8_isTrue_18 (fun x5 => ?_)
    refine s_iload C rfl dX8_isTrue_21 ?_
    refine s_iaload C hV dX8_isTrue_23 (fun x6 => ?_)
    refine s_bipush C (8 : Int32) (by decide) dX8_isTrue_24 ?_
    refine s_ishr C dX8_isTrue_26 ?_
    refine s_leti (fun x7 => ?_)
    refine s_istore C (L' := [(6, .int x7), (0, .ref v0), (1, .ref v1), (2, .long v2), (4, .int v4), (5, .int v5)]) (by decide) rfl dX8_isTrue_27 ?_
    refine s_iload C rfl dX8_isTrue_29 ?_
    refine s_iconst C (4 : Int32) (by decide) dX8_isTrue_31 ?_
    refine s_icmp_ge C 92 (by decide) dX8_isTrue_32 ?_ ?_
    · refine s_iload C rfl dX8_isTrue_92 ?_
      refine s_bipush C (6 : Int32) (by decide) dX8_isTrue_94 ?_
      refine s_icmp_gt C 170 (by decide) dX8_isTrue_96 ?_ ?_
      · refine s_iload C rfl dX8_isTrue_170 ?_
        refine s_bipush C (7 : Int32) (by decide) dX8_isTrue_172 ?_
        refine s_icmp_ne C 184 (by decide) dX8_isTrue_174 ?_ ?_
        · refine s_iload C rfl dX8_isTrue_184 ?_
          refine s_bipush C (8 : Int32) (by decide) dX8_isTrue_186 ?_
          refine s_icmp_ne C 204 (by decide) dX8_isTrue_188 ?_ ?_
          · refine s_lload_n C rfl dX8_isTrue_204 ?_
            refine s_iconst C (1 : Int32) (by decide) dX8_isTrue_205 ?_
            refine s_lushr C dX8_isTrue_206 ?_
            refine s_lload_n C rfl dX8_isTrue_207 ?_
            refine s_lconst C (1 : Int64) (by decide) dX8_isTrue_208 ?_
            refine s_land C dX8_isTrue_209 ?_
            refine s_lor C dX8_isTrue_210 ?_
            refine s_letl (fun x8 => ?_)
            refine s_lstore_n C (L' := [(2, .long x8), (6, .int x7), (0, .ref v0), (1, .ref v1), (4, .int v4), (5, .int v5)]) (by decide) rfl dX8_isTrue_211 ?_
            exact s_weak [0, 1, 2, 4, 5] rfl (sm_Text_isTrue_212 C hV hR v0 v1 x8 v4 v5)
          · refine s_lload_n C rfl dX8_isTrue_191 ?_
            refine s_iconst C (1 : Int32) (by decide) dX8_isTrue_192 ?_
            refine s_lushr C dX8_isTrue_193 ?_
            refine s_lload_n C rfl dX8_isTrue_194 ?_
            refine s_ldc2 C kl_X8_31 dX8_isTrue_195 ?_
            refine s_lor C dX8_isTrue_198 ?_
            refine s_land C dX8_isTrue_199 ?_
            refine s_letl (fun x10 => ?_)
            refine s_lstore_n C (L' := [(2, .long x10), (6, .int x7), (0, .ref v0), (1, .ref v1), (4, .int v4), (5, .int v5)]) (by decide) rfl dX8_isTrue_200 ?_
            refine s_goto C 212 (by decide) dX8_isTrue_201 ?_
            exact s_weak [0, 1, 2, 4, 5] rfl (sm_Text_isTrue_212 C hV hR v0 v1 x10 v4 v5)
        · refine s_lload_n C rfl dX8_isTrue_177 ?_
          refine s_lconst C (1 : Int64) (by decide) dX8_isTrue_178 ?_
          refine s_lxor C dX8_isTrue_179 ?_
          refine s_letl (fun x11 => ?_)
          refine s_lstore_n C (L' := [(2, .long x11), (6, .int x7), (0, .ref v0), (1, .ref v1), (4, .int v4), (5, .int v5)]) (by decide) rfl dX8_isTrue_180 ?_
          refine s_goto C 212 (by decide) dX8_isTrue_181 ?_
          exact s_weak [0, 1, 2, 4, 5] rfl (sm_Text_isTrue_212 C hV hR v0 v1 x11 v4 v5)
      · refine s_iload C rfl dX8_isTrue_99 ?_
        refine s_iconst C (4 : Int32) (by decide) dX8_isTrue_101 ?_
        refine s_icmp_ne C 118 (by decide) dX8_isTrue_102 ?_ ?_
        · refine s_iload C rfl dX8_isTrue_118 ?_
          refine s_iconst C (5 : Int32) (by decide) dX8_isTrue_120 ?_
          refine s_icmp_ne C 137 (by decide) dX8_isTrue_121 ?_ ?_
          · refine s_iload C rfl dX8_isTrue_137 ?_
            refine s_ite (g := fun z => Text_isTrue_147 v0 v1 v2 v5 z) ?_
            refine s_if_le C 146 (by decide) dX8_isTrue_139 ?_ ?_
            · refine s_iconst C (0 : Int32) (by decide) dX8_isTrue_146 ?_
              exact s_weak [0, 1, 2, 5] rfl (sm_Text_isTrue_147 C hV hR v0 v1 v2 v5 (0 : Int32))
            · refine s_iconst C (1 : Int32) (by decide) dX8_isTrue_142 ?_
              refine s_goto C 147 (by decide) dX8_isTrue_143 ?_
              exact s_weak [0, 1, 2, 5] rfl (sm_Text_isTrue_147 C hV hR v0 v1 v2 v5 (1 : Int32))
          · refine s_iload C rfl dX8_isTrue_124 ?_
            refine s_ite (g := fun z => Text_isTrue_147 v0 v1 v2 v5 z) ?_
            refine s_if_ne C 133 (by decide) dX8_isTrue_126 ?_ ?_
            · refine s_iconst C (0 : Int32) (by decide) dX8_isTrue_133 ?_
              refine s_goto C 147 (by decide) dX8_isTrue_134 ?_
              exact s_weak [0, 1, 2, 5] rfl (sm_Text_isTrue_147 C hV hR v0 v1 v2 v5 (0 : Int32))
            · refine s_iconst C (1 : Int32) (by decide) dX8_isTrue_129 ?_
              refine s_goto C 147 (by decide) dX8_isTrue_130 ?_
              exact s_weak [0, 1, 2, 5] rfl (sm_Text_isTrue_147 C hV hR v0 v1 v2 v5 (1 : Int32))
        · refine s_iload C rfl dX8_isTrue_105 ?_
          refine s_ite (g := fun z => Text_isTrue_147 v0 v1 v2 v5 z) ?_
          refine s_if_ge C 114 (by decide) dX8_isTrue_107 ?_ ?_
          · refine s_iconst C (0 : Int32) (by decide) dX8_isTrue_114 ?_
            refine s_goto C 147 (by decide) dX8_isTrue_115 ?_
            exact s_weak [0, 1, 2, 5] rfl (sm_Text_isTrue_147 C hV hR v0 v1 v2 v5 (0 : Int32))
          · refine s_iconst C (1 : Int32) (by decide) dX8_isTrue_110 ?_
            refine s_goto C 147 (by decide) dX8_isTrue_111 ?_
            exact s_weak [0, 1, 2, 5] rfl (sm_Text_isTrue_147 C hV hR v0 v1 v2 v5 (1 : Int32))
    · refine s_iload C rfl dX8_isTrue_35 ?_
      refine s_iconst C (2 : Int32) (by decide) dX8_isTrue_37 ?_
      refine s_icmp_ge C 55 (by decide) dX8_isTrue_38 ?_ ?_
      · refine s_aload_n C rfl dX8_isTrue_55 ?_
        refine s_aload_n C rfl dX8_isTrue_56 ?_
        refine s_getR C hV fl_X8_9 (fun _ _ _ => rfl) dX8_isTrue_57 (fun x14 => ?_)
        refine s_iload C rfl dX8_isTrue_60 ?_
        refine s_iaload C hV dX8_isTrue_62 (fun x15 => ?_)
        refine s_bipush C (7 : Int32) (by decide) dX8_isTrue_63 ?_
        refine s_iand C dX8_isTrue_65 ?_
        refine s_iaload C hV dX8_isTrue_66 (fun x16 => ?_)
        exact s_weak [0, 1, 2, 4, 5, 6] rfl (sm_Text_isTrue_67 C hV hR v0 v1 v2 v4 v5 x7 x16)
      · refine s_aload_n C rfl dX8_isTrue_41 ?_
        refine s_getR C hV fl_X8_9 (fun _ _ _ => rfl) dX8_isTrue_42 (fun x18 => ?_)
        refine s_iload C rfl dX8_isTrue_45 ?_
        refine s_iaload C hV dX8_isTrue_47 (fun x19 => ?_)
        refine s_sipush C (255 : Int32) (by decide) dX8_isTrue_48 ?_
        refine s_iand C dX8_isTrue_51 ?_
        refine s_goto C 67 (by decide) dX8_isTrue_52 ?_
        exact s_weak [0, 1, 2, 4, 5, 6] rfl (sm_Text_isTrue_67 C hV hR v0 v1 v2 v4 v5 x7 (x19 &&& (255 : Int32)))
set_option maxRecDepth 20000 in
theorem sm_Text_isTrue_8 {G : GT} {ad : Nat → Nat} {K : Int32 → Dm → Prop} (C : Cx G rm_Text_isTrue cX8_isTrue 8 RX8) (hV : Vx G rm_Text_isTrue ad ZF (0, 0)) (hR : RtI G rm_Text_isTrue ad ZF (0, 0) cX8_isTrue .boolean K) (v0 : Nat) (v1 : Nat) (s : (Int64 × Int32 × Int32)) : Sm G rm_Text_isTrue ad ZF (0, 0) K 8 ((fun (s : (Int64 × Int32 × Int32)) => [(0, .ref v0), (1, .ref v1), (2, .long s.1), (4, .int s.2.1), (5, .int s.2.2)]) s) [] (Text_isTrue_8 v0 v1 s) :=
  s_loop (en := (fun (s : (Int64 × Int32 × Int32)) => [(0, .ref v0), (1, .ref v1), (2, .long s.1), (4, .int s.2.1), (5, .int s.2.2)])) (fun s => sm_Text_isTrue_8_b C hV hR v0 v1 s.1 s.2.1 s.2.2) s
set_option maxRecDepth 20000 in
theorem sm_Text_isTrue {G : GT} {ad : Nat → Nat} {K : Int32 → Dm → Prop} (C : Cx G rm_Text_isTrue cX8_isTrue 8 RX8) (hV : Vx G rm_Text_isTrue ad ZF (0, 0)) (hR : RtI G rm_Text_isTrue ad ZF (0, 0) cX8_isTrue .boolean K) (v0 : Nat) (v1 : Nat) : Sm G rm_Text_isTrue ad ZF (0, 0) K 0 [(0, .ref v0), (1, .ref v1)] [] (Text_isTrue v0 v1) := by
  unfold Text_isTrue
  refine s_lconst C (0 : Int64) (by decide) dX8_isTrue_0 ?_
  refine s_letl (fun x1 => ?_)
  refine s_lstore_n C (L' := [(2, .long x1), (0, .ref v0), (1, .ref v1)]) (by decide) rfl dX8_isTrue_1 ?_
  refine s_iconst C (0 : Int32) (by decide) dX8_isTrue_2 ?_
  refine s_leti (fun x2 => ?_)
  refine s_istore C (L' := [(4, .int x2), (2, .long x1), (0, .ref v0), (1, .ref v1)]) (by decide) rfl dX8_isTrue_3 ?_
  refine s_iconst C (0 : Int32) (by decide) dX8_isTrue_5 ?_
  refine s_leti (fun x3 => ?_)
  refine s_istore C (L' := [(5, .int x3), (4, .int x2), (2, .long x1), (0, .ref v0), (1, .ref v1)]) (by decide) rfl dX8_isTrue_6 ?_
  exact s_weak [0, 1, 2, 4, 5] rfl (sm_Text_isTrue_8 C hV hR v0 v1 (x1, x2, x3))
set_option maxRecDepth 20000 in
theorem met_Text_isTrue (v0 : Nat) (v1 : Nat) : MI ZF yX8_isTrue cX8_isTrue 8 .boolean rm_Text_isTrue [.ref v0, .ref v1] (Text_isTrue v0 v1) :=
  mi_of (L0 := [(0, .ref v0), (1, .ref v1)]) (by decide +kernel) (Nat.le_of_ble_eq_true rfl) rfl (fun G ad K C hV hR => sm_Text_isTrue C hV hR v0 v1)

noncomputable def Rule_failingIn_48 (v0 : Nat) (v4 : Int32) (t0 : Int32) (t1 : Int32) : MM ((Int32 × Int32) ⊕ Int32) :=
  ml (t0 ||| t1) fun x9 =>
  ml (v4 + (1 : Int32)) fun x10 =>
  mp (.inl (x9, x10))
noncomputable def Rule_failingIn_13_b (v0 : Nat) (v3 : Int32) (v4 : Int32) : MM ((Int32 × Int32) ⊕ Int32) :=
  mb (gI ZF 8 1 v0) fun x4 =>
  if x4 ≤ v4 then
  mr (
  mp v3)
  else
  mb (gR ZF 8 0 v0) fun x5 =>
  mb (aR ZF 27 x5 v4) fun x6 =>
  mb (gR ZF 8 3 v0) fun x7 =>
  mb (vc ZF 9 x6 (Text_isTrue x6 x7)) fun r8 =>
  Rule_failingIn_48 v0 v4 v3 (if r8 = 0 then ((1 : Int32) <<< (v4 &&& 31)) else (0 : Int32))
noncomputable def Rule_failingIn_13 (v0 : Nat) (s : (Int32 × Int32)) : MM Int32 := lo (fun (s : (Int32 × Int32)) => Rule_failingIn_13_b v0 s.1 s.2) s
noncomputable def Rule_failingIn (v0 : Nat) (v1 : Int64) : MM Int32 :=
  mb (gR ZF 8 3 v0) fun x1 =>
  mb ((Main_unpack v1 x1)) fun _ =>
  ml (0 : Int32) fun x2 =>
  ml (0 : Int32) fun x3 =>
  Rule_failingIn_13 v0 (x2, x3)
set_option maxRecDepth 20000 in
theorem sm_Rule_failingIn_48 {G : GT} {ad : Nat → Nat} {K : Int32 → Dm → Prop} (C : Cx G rm_Rule_failingIn cX7_failingIn 5 RX7) (hV : Vx G rm_Rule_failingIn ad ZF (0, 0)) (hR : RtI G rm_Rule_failingIn ad ZF (0, 0) cX7_failingIn .int K) (v0 : Nat) (v4 : Int32) (t0 : Int32) (t1 : Int32) : Sm G rm_Rule_failingIn ad ZF (0, 0) (lpK G rm_Rule_failingIn ad ZF (0, 0) 13 (fun (s : (Int32 × Int32)) => [(0, .ref v0), (3, .int s.1), (4, .int s.2)]) K) 48 [(0, .ref v0), (4, .int v4)] [.int t1, .int t0] (Rule_failingIn_48 v0 v4 t0 t1) := by
  unfold Rule_failingIn_48
  refine s_ior C dX7_failingIn_48 ?_
  refine s_leti (fun x9 => ?_)
  refine s_istore_n C (L' := [(3, .int x9), (0, .ref v0), (4, .int v4)]) (by decide) rfl dX7_failingIn_49 ?_
  refine s_iinc C (L' := fun x10 => [(4, .int x10), (3, .int x9), (0, .ref v0)]) (1 : Int32) (by decide) rfl (by decide) (fun _ => rfl) dX7_failingIn_50 (fun x10 => ?_)
  refine s_goto C 13 (by decide) dX7_failingIn_53 ?_
  exact s_back [0, 3, 4] (x9, x10) rfl
set_option maxRecDepth 20000 in
theorem sm_Rule_failingIn_13_b {G : GT} {ad : Nat → Nat} {K : Int32 → Dm → Prop} (C : Cx G rm_Rule_failingIn cX7_failingIn 5 RX7) (hV : Vx G rm_Rule_failingIn ad ZF (0, 0)) (hR : RtI G rm_Rule_failingIn ad ZF (0, 0) cX7_failingIn .int K) (v0 : Nat) (v3 : Int32) (v4 : Int32) : Sm G rm_Rule_failingIn ad ZF (0, 0) (lpK G rm_Rule_failingIn ad ZF (0, 0) 13 (fun (s : (Int32 × Int32)) => [(0, .ref v0), (3, .int s.1), (4, .int s.2)]) K) 13 [(0, .ref v0), (3, .int v3), (4, .int v4)] [] (Rule_failingIn_13_b v0 v3 v4) := by
  unfold Rule_failingIn_13_b
  refine s_iload C rfl dX7_failingIn_13 ?_
  refine s_aload_n C rfl dX7_failingIn_15 ?_
  refine s_getI C hV fl_X7_17 (fun _ _ _ => rfl) dX7_failingIn_16 (fun x4 => ?_)
  refine s_icmp_ge C 56 (by decide) dX7_failingIn_19 ?_ ?_
  · refine s_exit ?_
    refine s_iload_n C rfl dX7_failingIn_56 ?_
    exact s_ireti hR dX7_failingIn_57
  · refine s_iload_n C rfl dX7_failingIn_22 ?_
    refine s_aload_n C rfl dX7_failingIn_23 ?_
    refine s_getR C hV fl_X7_11 (fun _ _ _ => rfl) dX7_failingIn_24 (fun x5 => ?_)
    refine s_iload C rfl dX7_failingIn_27 ?_
    refine s_aaloadT C hV dX7_failingIn_29 (fun x6 => ?_)
    refine s_aload_n C rfl dX7_failingIn_30 ?_
    refine s_getR C hV fl_X7_24 (fun _ _ _ => rfl) dX7_failingIn_31 (fun x7 => ?_)
    refine s_wI C hV lv_X7_33 (st := [.int v3]) (met_Text_isTrue x6 x7) rf_Rule_failingIn_Text_isTrue rfl rfl (Nat.le_of_ble_eq_true rfl) dX7_failingIn_34 (fun r8 => ?_)
    refine s_ite (g := fun z => Rule_failingIn_48 v0 v4 v3 z) ?_
    refine s_if_eq C 44 (by decide) dX7_failingIn_37 ?_ ?_
    · refine s_iconst C (1 : Int32) (by decide) dX7_failingIn_44 ?_
      refine s_iload C rfl dX7_failingIn_45 ?_
      refine s_ishl C dX7_failingIn_47 ?_
      exact s_weak [0, 4] rfl (sm_Rule_failingIn_48 C hV hR v0 v4 v3 ((1 : Int32) <<< (v4 &&& 31)))
    · refine s_iconst C (0 : Int32) (by decide) dX7_failingIn_40 ?_
      refine s_goto C 48 (by decide) dX7_failingIn_41 ?_
      exact s_weak [0, 4] rfl (sm_Rule_failingIn_48 C hV hR v0 v4 v3 (0 : Int32))
set_option maxRecDepth 20000 in
theorem sm_Rule_failingIn_13 {G : GT} {ad : Nat → Nat} {K : Int32 → Dm → Prop} (C : Cx G rm_Rule_failingIn cX7_failingIn 5 RX7) (hV : Vx G rm_Rule_failingIn ad ZF (0, 0)) (hR : RtI G rm_Rule_failingIn ad ZF (0, 0) cX7_failingIn .int K) (v0 : Nat) (s : (Int32 × Int32)) : Sm G rm_Rule_failingIn ad ZF (0, 0) K 13 ((fun (s : (Int32 × Int32)) => [(0, .ref v0), (3, .int s.1), (4, .int s.2)]) s) [] (Rule_failingIn_13 v0 s) :=
  s_loop (en := (fun (s : (Int32 × Int32)) => [(0, .ref v0), (3, .int s.1), (4, .int s.2)])) (fun s => sm_Rule_failingIn_13_b C hV hR v0 s.1 s.2) s
set_option maxRecDepth 20000 in
theorem sm_Rule_failingIn {G : GT} {ad : Nat → Nat} {K : Int32 → Dm → Prop} (C : Cx G rm_Rule_failingIn cX7_failingIn 5 RX7) (hV : Vx G rm_Rule_failingIn ad ZF (0, 0)) (hR : RtI G rm_Rule_failingIn ad ZF (0, 0) cX7_failingIn .int K) (v0 : Nat) (v1 : Int64) : Sm G rm_Rule_failingIn ad ZF (0, 0) K 0 [(0, .ref v0), (1, .long v1)] [] (Rule_failingIn v0 v1) := by
  unfold Rule_failingIn
  refine s_lload_n C rfl dX7_failingIn_0 ?_
  refine s_aload_n C rfl dX7_failingIn_1 ?_
  refine s_getR C hV fl_X7_24 (fun _ _ _ => rfl) dX7_failingIn_2 (fun x1 => ?_)
  refine s_uVN C hV ls_X7_29 (st := []) (met_Main_unpack v1 x1) rf_Rule_failingIn_Main_unpack rfl rfl (Nat.le_of_ble_eq_true rfl) dX7_failingIn_5 ?_
  refine s_iconst C (0 : Int32) (by decide) dX7_failingIn_8 ?_
  refine s_leti (fun x2 => ?_)
  refine s_istore_n C (L' := [(3, .int x2), (0, .ref v0), (1, .long v1)]) (by decide) rfl dX7_failingIn_9 ?_
  refine s_iconst C (0 : Int32) (by decide) dX7_failingIn_10 ?_
  refine s_leti (fun x3 => ?_)
  refine s_istore C (L' := [(4, .int x3), (3, .int x2), (0, .ref v0), (1, .long v1)]) (by decide) rfl dX7_failingIn_11 ?_
  exact s_weak [0, 3, 4] rfl (sm_Rule_failingIn_13 C hV hR v0 (x2, x3))
set_option maxRecDepth 20000 in
theorem met_Rule_failingIn (v0 : Nat) (v1 : Int64) : MI ZF yX7_failingIn cX7_failingIn 5 .int rm_Rule_failingIn [.ref v0, .long v1] (Rule_failingIn v0 v1) :=
  mi_of (L0 := [(0, .ref v0), (1, .long v1)]) (by decide +kernel) (Nat.le_of_ble_eq_true rfl) rfl (fun G ad K C hV hR => sm_Rule_failingIn C hV hR v0 v1)

noncomputable def Prog_hasBehind (v0 : Nat) (v1 : Int32) : MM Int32 :=
  if v1 < 0 then
  mz (0 : Int32)
  else
  mb (gI ZF 6 1 v0) fun x1 =>
  if x1 < v1 then
  mz (0 : Int32)
  else
  mz (1 : Int32)
set_option maxRecDepth 20000 in
theorem sm_Prog_hasBehind {G : GT} {ad : Nat → Nat} {K : Int32 → Dm → Prop} (C : Cx G rm_Prog_hasBehind cX5_hasBehind 2 RX5) (hV : Vx G rm_Prog_hasBehind ad ZF (0, 0)) (hR : RtI G rm_Prog_hasBehind ad ZF (0, 0) cX5_hasBehind .boolean K) (v0 : Nat) (v1 : Int32) : Sm G rm_Prog_hasBehind ad ZF (0, 0) K 0 [(0, .ref v0), (1, .int v1)] [] (Prog_hasBehind v0 v1) := by
  unfold Prog_hasBehind
  refine s_iload_n C rfl dX5_hasBehind_0 ?_
  refine s_if_lt C 16 (by decide) dX5_hasBehind_1 ?_ ?_
  · refine s_iconst C (0 : Int32) (by decide) dX5_hasBehind_16 ?_
    exact s_iretz hR dX5_hasBehind_17
  · refine s_iload_n C rfl dX5_hasBehind_4 ?_
    refine s_aload_n C rfl dX5_hasBehind_5 ?_
    refine s_getI C hV fl_X5_17 (fun _ _ _ => rfl) dX5_hasBehind_6 (fun x1 => ?_)
    refine s_icmp_gt C 16 (by decide) dX5_hasBehind_9 ?_ ?_
    · refine s_iconst C (0 : Int32) (by decide) dX5_hasBehind_16 ?_
      exact s_iretz hR dX5_hasBehind_17
    · refine s_iconst C (1 : Int32) (by decide) dX5_hasBehind_12 ?_
      refine s_goto C 17 (by decide) dX5_hasBehind_13 ?_
      exact s_iretz hR dX5_hasBehind_17
set_option maxRecDepth 20000 in
theorem met_Prog_hasBehind (v0 : Nat) (v1 : Int32) : MI ZF yX5_hasBehind cX5_hasBehind 2 .boolean rm_Prog_hasBehind [.ref v0, .int v1] (Prog_hasBehind v0 v1) :=
  mi_of (L0 := [(0, .ref v0), (1, .int v1)]) (by decide +kernel) (Nat.le_of_ble_eq_true rfl) rfl (fun G ad K C hV hR => sm_Prog_hasBehind C hV hR v0 v1)

noncomputable def Prog_behindLastFlush_2_b (v0 : Nat) (v2 : Int32) : MM (Int32 ⊕ Int32) :=
  if v2 ≤ 0 then
  mr (
  mp v2)
  else
  mb (gR ZF 6 0 v0) fun x1 =>
  mb (aR ZF 26 x1 (v2 - (1 : Int32))) fun x2 =>
  mb (gI ZF 1 0 x2) fun x3 =>
  if x3 = (3 : Int32) then
  mr (
  mp v2)
  else
  ml (v2 + (-1)) fun x4 =>
  mp (.inl x4)
noncomputable def Prog_behindLastFlush_2 (v0 : Nat) (s : Int32) : MM Int32 := lo (fun (s : Int32) => Prog_behindLastFlush_2_b v0 s) s
noncomputable def Prog_behindLastFlush (v0 : Nat) (v1 : Int32) : MM Int32 :=
  Prog_behindLastFlush_2 v0 v1
set_option maxRecDepth 20000 in
theorem sm_Prog_behindLastFlush_2_b {G : GT} {ad : Nat → Nat} {K : Int32 → Dm → Prop} (C : Cx G rm_Prog_behindLastFlush cX5_behindLastFlush 3 RX5) (hV : Vx G rm_Prog_behindLastFlush ad ZF (0, 0)) (hR : RtI G rm_Prog_behindLastFlush ad ZF (0, 0) cX5_behindLastFlush .int K) (v0 : Nat) (v2 : Int32) : Sm G rm_Prog_behindLastFlush ad ZF (0, 0) (lpK G rm_Prog_behindLastFlush ad ZF (0, 0) 2 (fun (s : Int32) => [(0, .ref v0), (2, .int s)]) K) 2 [(0, .ref v0), (2, .int v2)] [] (Prog_behindLastFlush_2_b v0 v2) := by
  unfold Prog_behindLastFlush_2_b
  refine s_iload_n C rfl dX5_behindLastFlush_2 ?_
  refine s_if_le C 27 (by decide) dX5_behindLastFlush_3 ?_ ?_
  · refine s_exit ?_
    refine s_iload_n C rfl dX5_behindLastFlush_27 ?_
    exact s_ireti hR dX5_behindLastFlush_28
  · refine s_aload_n C rfl dX5_behindLastFlush_6 ?_
    refine s_getR C hV fl_X5_11 (fun _ _ _ => rfl) dX5_behindLastFlush_7 (fun x1 => ?_)
    refine s_iload_n C rfl dX5_behindLastFlush_10 ?_
    refine s_iconst C (1 : Int32) (by decide) dX5_behindLastFlush_11 ?_
    refine s_isub C dX5_behindLastFlush_12 ?_
    refine s_aaloadA C hV dX5_behindLastFlush_13 (fun x2 => ?_)
    refine s_getI C hV fl_X5_41 (fun _ _ _ => rfl) dX5_behindLastFlush_14 (fun x3 => ?_)
    refine s_iconst C (3 : Int32) (by decide) dX5_behindLastFlush_17 ?_
    refine s_icmp_eq C 27 (by decide) dX5_behindLastFlush_18 ?_ ?_
    · refine s_exit ?_
      refine s_iload_n C rfl dX5_behindLastFlush_27 ?_
      exact s_ireti hR dX5_behindLastFlush_28
    · refine s_iinc C (L' := fun x4 => [(2, .int x4), (0, .ref v0)]) (-1) (by decide) rfl (by decide) (fun _ => rfl) dX5_behindLastFlush_21 (fun x4 => ?_)
      refine s_goto C 2 (by decide) dX5_behindLastFlush_24 ?_
      exact s_back [0, 2] x4 rfl
set_option maxRecDepth 20000 in
theorem sm_Prog_behindLastFlush_2 {G : GT} {ad : Nat → Nat} {K : Int32 → Dm → Prop} (C : Cx G rm_Prog_behindLastFlush cX5_behindLastFlush 3 RX5) (hV : Vx G rm_Prog_behindLastFlush ad ZF (0, 0)) (hR : RtI G rm_Prog_behindLastFlush ad ZF (0, 0) cX5_behindLastFlush .int K) (v0 : Nat) (s : Int32) : Sm G rm_Prog_behindLastFlush ad ZF (0, 0) K 2 ((fun (s : Int32) => [(0, .ref v0), (2, .int s)]) s) [] (Prog_behindLastFlush_2 v0 s) :=
  s_loop (en := (fun (s : Int32) => [(0, .ref v0), (2, .int s)])) (fun s => sm_Prog_behindLastFlush_2_b C hV hR v0 s) s
set_option maxRecDepth 20000 in
theorem sm_Prog_behindLastFlush {G : GT} {ad : Nat → Nat} {K : Int32 → Dm → Prop} (C : Cx G rm_Prog_behindLastFlush cX5_behindLastFlush 3 RX5) (hV : Vx G rm_Prog_behindLastFlush ad ZF (0, 0)) (hR : RtI G rm_Prog_behindLastFlush ad ZF (0, 0) cX5_behindLastFlush .int K) (v0 : Nat) (v1 : Int32) : Sm G rm_Prog_behindLastFlush ad ZF (0, 0) K 0 [(0, .ref v0), (1, .int v1)] [] (Prog_behindLastFlush v0 v1) := by
  unfold Prog_behindLastFlush
  refine s_iload_n C rfl dX5_behindLastFlush_0 ?_
  refine s_istore_n C (L' := [(2, .int v1), (0, .ref v0), (1, .int v1)]) (by decide) rfl dX5_behindLastFlush_1 ?_
  exact s_weak [0, 2] rfl (sm_Prog_behindLastFlush_2 C hV hR v0 v1)
set_option maxRecDepth 20000 in
theorem met_Prog_behindLastFlush (v0 : Nat) (v1 : Int32) : MI ZF yX5_behindLastFlush cX5_behindLastFlush 3 .int rm_Prog_behindLastFlush [.ref v0, .int v1] (Prog_behindLastFlush v0 v1) :=
  mi_of (L0 := [(0, .ref v0), (1, .int v1)]) (by decide +kernel) (Nat.le_of_ble_eq_true rfl) rfl (fun G ad K C hV hR => sm_Prog_behindLastFlush C hV hR v0 v1)

noncomputable def Found_addReaching_9_b (v0 : Nat) (v1 : Nat) (v2 : Int32) (v4 : Int32) (v5 : Int32) : MM (Int32 ⊕ Unit) :=
  if v4 ≤ v5 then
  mr (
  mp ())
  else
  mb (gI ZF 2 2 v0) fun x2 =>
  if (4096 : Int32) ≤ x2 then
  mr (
  mp ())
  else
  mb (gR ZF 2 0 v0) fun x3 =>
  mb (gI ZF 2 2 v0) fun x4 =>
  mb (gR ZF 2 0 v0) fun x5 =>
  mb (aL ZF x5 v5) fun x6 =>
  mb (vc ZF 1 v1 (Act_laidOn v1 x6)) fun r7 =>
  mb (sL ZF x3 x4 r7) fun _ =>
  mb (gR ZF 2 1 v0) fun x8 =>
  mb (gI ZF 2 2 v0) fun x9 =>
  mb (gR ZF 2 1 v0) fun x10 =>
  mb (aI ZF 23 x10 v5) fun x11 =>
  mb (sI ZF x8 x9 (x11 ||| ((1 : Int32) <<< (v2 &&& 31)))) fun _ =>
  mb (gI ZF 2 2 v0) fun x12 =>
  mb (pI ZF 2 2 v0 (x12 + (1 : Int32))) fun _ =>
  ml (v5 + (1 : Int32)) fun x13 =>
  mp (.inl x13)
noncomputable def Found_addReaching_9 (v0 : Nat) (v1 : Nat) (v2 : Int32) (v4 : Int32) (s : Int32) : MM Unit := lo (fun (s : Int32) => Found_addReaching_9_b v0 v1 v2 v4 s) s
noncomputable def Found_addReaching (v0 : Nat) (v1 : Nat) (v2 : Int32) (v3 : Int32) : MM Unit :=
  mb (gI ZF 2 2 v0) fun x1 =>
  Found_addReaching_9 v0 v1 v2 x1 v3
set_option maxRecDepth 20000 in
theorem sm_Found_addReaching_9_b {G : GT} {ad : Nat → Nat} {K : Unit → Dm → Prop} (C : Cx G rm_Found_addReaching cX1_addReaching 6 RX1) (hV : Vx G rm_Found_addReaching ad ZF (0, 0)) (hR : RtV G rm_Found_addReaching ad ZF (0, 0) cX1_addReaching K) (v0 : Nat) (v1 : Nat) (v2 : Int32) (v4 : Int32) (v5 : Int32) : Sm G rm_Found_addReaching ad ZF (0, 0) (lpK G rm_Found_addReaching ad ZF (0, 0) 9 (fun (s : Int32) => [(0, .ref v0), (1, .ref v1), (2, .int v2), (4, .int v4), (5, .int s)]) K) 9 [(0, .ref v0), (1, .ref v1), (2, .int v2), (4, .int v4), (5, .int v5)] [] (Found_addReaching_9_b v0 v1 v2 v4 v5) := by
  unfold Found_addReaching_9_b
  refine s_iload C rfl dX1_addReaching_9 ?_
  refine s_iload C rfl dX1_addReaching_11 ?_
  refine s_icmp_ge C 82 (by decide) dX1_addReaching_13 ?_ ?_
  · refine s_exit ?_
    exact s_vret hR dX1_addReaching_82
  · refine s_aload_n C rfl dX1_addReaching_16 ?_
    refine s_getI C hV fl_X1_19 (fun _ _ _ => rfl) dX1_addReaching_17 (fun x2 => ?_)
    refine s_sipush C (4096 : Int32) (by decide) dX1_addReaching_20 ?_
    refine s_icmp_ge C 82 (by decide) dX1_addReaching_23 ?_ ?_
    · refine s_exit ?_
      exact s_vret hR dX1_addReaching_82
    · refine s_aload_n C rfl dX1_addReaching_26 ?_
      refine s_getR C hV fl_X1_9 (fun _ _ _ => rfl) dX1_addReaching_27 (fun x3 => ?_)
      refine s_aload_n C rfl dX1_addReaching_30 ?_
      refine s_getI C hV fl_X1_19 (fun _ _ _ => rfl) dX1_addReaching_31 (fun x4 => ?_)
      refine s_aload_n C rfl dX1_addReaching_34 ?_
      refine s_aload_n C rfl dX1_addReaching_35 ?_
      refine s_getR C hV fl_X1_9 (fun _ _ _ => rfl) dX1_addReaching_36 (fun x5 => ?_)
      refine s_iload C rfl dX1_addReaching_39 ?_
      refine s_laload C hV dX1_addReaching_41 (fun x6 => ?_)
      refine s_wL C hV lv_X1_66 (st := [.int x4, .ref x3]) (met_Act_laidOn v1 x6) rf_Found_addReaching_Act_laidOn rfl rfl (Nat.le_of_ble_eq_true rfl) dX1_addReaching_42 (fun r7 => ?_)
      refine s_lastore C hV dX1_addReaching_45 ?_
      refine s_aload_n C rfl dX1_addReaching_46 ?_
      refine s_getR C hV fl_X1_15 (fun _ _ _ => rfl) dX1_addReaching_47 (fun x8 => ?_)
      refine s_aload_n C rfl dX1_addReaching_50 ?_
      refine s_getI C hV fl_X1_19 (fun _ _ _ => rfl) dX1_addReaching_51 (fun x9 => ?_)
      refine s_aload_n C rfl dX1_addReaching_54 ?_
      refine s_getR C hV fl_X1_15 (fun _ _ _ => rfl) dX1_addReaching_55 (fun x10 => ?_)
      refine s_iload C rfl dX1_addReaching_58 ?_
      refine s_iaload C hV dX1_addReaching_60 (fun x11 => ?_)
      refine s_iconst C (1 : Int32) (by decide) dX1_addReaching_61 ?_
      refine s_iload_n C rfl dX1_addReaching_62 ?_
      refine s_ishl C dX1_addReaching_63 ?_
      refine s_ior C dX1_addReaching_64 ?_
      refine s_iastore C hV dX1_addReaching_65 ?_
      refine s_aload_n C rfl dX1_addReaching_66 ?_
      refine s_dupr C dX1_addReaching_67 ?_
      refine s_getI C hV fl_X1_19 (fun _ _ _ => rfl) dX1_addReaching_68 (fun x12 => ?_)
      refine s_iconst C (1 : Int32) (by decide) dX1_addReaching_71 ?_
      refine s_iadd C dX1_addReaching_72 ?_
      refine s_putI C hV fw_X1_19 rfl dX1_addReaching_73 ?_
      refine s_iinc C (L' := fun x13 => [(5, .int x13), (0, .ref v0), (1, .ref v1), (2, .int v2), (4, .int v4)]) (1 : Int32) (by decide) rfl (by decide) (fun _ => rfl) dX1_addReaching_76 (fun x13 => ?_)
      refine s_goto C 9 (by decide) dX1_addReaching_79 ?_
      exact s_back [0, 1, 2, 4, 5] x13 rfl
set_option maxRecDepth 20000 in
theorem sm_Found_addReaching_9 {G : GT} {ad : Nat → Nat} {K : Unit → Dm → Prop} (C : Cx G rm_Found_addReaching cX1_addReaching 6 RX1) (hV : Vx G rm_Found_addReaching ad ZF (0, 0)) (hR : RtV G rm_Found_addReaching ad ZF (0, 0) cX1_addReaching K) (v0 : Nat) (v1 : Nat) (v2 : Int32) (v4 : Int32) (s : Int32) : Sm G rm_Found_addReaching ad ZF (0, 0) K 9 ((fun (s : Int32) => [(0, .ref v0), (1, .ref v1), (2, .int v2), (4, .int v4), (5, .int s)]) s) [] (Found_addReaching_9 v0 v1 v2 v4 s) :=
  s_loop (en := (fun (s : Int32) => [(0, .ref v0), (1, .ref v1), (2, .int v2), (4, .int v4), (5, .int s)])) (fun s => sm_Found_addReaching_9_b C hV hR v0 v1 v2 v4 s) s
set_option maxRecDepth 20000 in
theorem sm_Found_addReaching {G : GT} {ad : Nat → Nat} {K : Unit → Dm → Prop} (C : Cx G rm_Found_addReaching cX1_addReaching 6 RX1) (hV : Vx G rm_Found_addReaching ad ZF (0, 0)) (hR : RtV G rm_Found_addReaching ad ZF (0, 0) cX1_addReaching K) (v0 : Nat) (v1 : Nat) (v2 : Int32) (v3 : Int32) : Sm G rm_Found_addReaching ad ZF (0, 0) K 0 [(0, .ref v0), (1, .ref v1), (2, .int v2), (3, .int v3)] [] (Found_addReaching v0 v1 v2 v3) := by
  unfold Found_addReaching
  refine s_aload_n C rfl dX1_addReaching_0 ?_
  refine s_getI C hV fl_X1_19 (fun _ _ _ => rfl) dX1_addReaching_1 (fun x1 => ?_)
  refine s_istore C (L' := [(4, .int x1), (0, .ref v0), (1, .ref v1), (2, .int v2), (3, .int v3)]) (by decide) rfl dX1_addReaching_4 ?_
  refine s_iload_n C rfl dX1_addReaching_6 ?_
  refine s_istore C (L' := [(5, .int v3), (4, .int x1), (0, .ref v0), (1, .ref v1), (2, .int v2), (3, .int v3)]) (by decide) rfl dX1_addReaching_7 ?_
  exact s_weak [0, 1, 2, 4, 5] rfl (sm_Found_addReaching_9 C hV hR v0 v1 v2 x1 v3)
set_option maxRecDepth 20000 in
theorem met_Found_addReaching (v0 : Nat) (v1 : Nat) (v2 : Int32) (v3 : Int32) : MV ZF yX1_addReaching cX1_addReaching 6 rm_Found_addReaching [.ref v0, .ref v1, .int v2, .int v3] (Found_addReaching v0 v1 v2 v3) :=
  mv_of (L0 := [(0, .ref v0), (1, .ref v1), (2, .int v2), (3, .int v3)]) (by decide +kernel) (Nat.le_of_ble_eq_true rfl) rfl (fun G ad K C hV hR => sm_Found_addReaching C hV hR v0 v1 v2 v3)

noncomputable def Found_gather_98 (v0 : Nat) (v1 : Nat) (v2 : Int32) (v5 : Int32) (v6 : Int32) : MM ((Int32 × Int32) ⊕ Unit) :=
  ml (v6 + (1 : Int32)) fun x11 =>
  mp (.inl (v5, x11))
noncomputable def Found_gather_45_b (v0 : Nat) (v1 : Nat) (v2 : Int32) (v5 : Int32) (v6 : Int32) : MM ((Int32 × Int32) ⊕ Unit) :=
  if v2 ≤ v6 then
  mr (
  mp ())
  else
  mb (gR ZF 6 0 v1) fun x7 =>
  mb (aR ZF 26 x7 v6) fun x8 =>
  mb (vc ZF 1 x8 (Act_writes x8)) fun r9 =>
  if r9 = 0 then
  mb (gI ZF 1 0 x8) fun x10 =>
  if x10 = (2 : Int32) then
  mb (gI ZF 2 2 v0) fun x12 =>
  ml (x12 - (1 : Int32)) fun x13 =>
  Found_gather_98 v0 v1 v2 x13 v6
  else
  Found_gather_98 v0 v1 v2 v5 v6
  else
  mb (vc ZF 2 v0 (Found_addReaching v0 x8 v6 v5)) fun _ =>
  Found_gather_98 v0 v1 v2 v5 v6
noncomputable def Found_gather_45 (v0 : Nat) (v1 : Nat) (v2 : Int32) (s : (Int32 × Int32)) : MM Unit := lo (fun (s : (Int32 × Int32)) => Found_gather_45_b v0 v1 v2 s.1 s.2) s
noncomputable def Found_gather (v0 : Nat) (v1 : Nat) (v2 : Int32) : MM Unit :=
  mb (vc ZF 6 v1 (Prog_behindLastFlush v1 v2)) fun r1 =>
  mb (vc ZF 6 v1 (Prog_writesWithin v1 (0 : Int32) r1)) fun r2 =>
  mb (gR ZF 2 0 v0) fun x3 =>
  mb (vc ZF 6 v1 (Prog_plateOf v1 r2)) fun r4 =>
  mb (sL ZF x3 (0 : Int32) r4) fun _ =>
  mb (gR ZF 2 1 v0) fun x5 =>
  mb (sI ZF x5 (0 : Int32) r2) fun _ =>
  mb (pI ZF 2 2 v0 (1 : Int32)) fun _ =>
  ml (0 : Int32) fun x6 =>
  Found_gather_45 v0 v1 v2 (x6, r1)
set_option maxRecDepth 20000 in
theorem sm_Found_gather_98 {G : GT} {ad : Nat → Nat} {K : Unit → Dm → Prop} (C : Cx G rm_Found_gather cX1_gather 8 RX1) (hV : Vx G rm_Found_gather ad ZF (0, 0)) (hR : RtV G rm_Found_gather ad ZF (0, 0) cX1_gather K) (v0 : Nat) (v1 : Nat) (v2 : Int32) (v5 : Int32) (v6 : Int32) : Sm G rm_Found_gather ad ZF (0, 0) (lpK G rm_Found_gather ad ZF (0, 0) 45 (fun (s : (Int32 × Int32)) => [(0, .ref v0), (1, .ref v1), (2, .int v2), (5, .int s.1), (6, .int s.2)]) K) 98 [(0, .ref v0), (1, .ref v1), (2, .int v2), (5, .int v5), (6, .int v6)] [] (Found_gather_98 v0 v1 v2 v5 v6) := by
  unfold Found_gather_98
  refine s_iinc C (L' := fun x11 => [(6, .int x11), (0, .ref v0), (1, .ref v1), (2, .int v2), (5, .int v5)]) (1 : Int32) (by decide) rfl (by decide) (fun _ => rfl) dX1_gather_98 (fun x11 => ?_)
  refine s_goto C 45 (by decide) dX1_gather_101 ?_
  exact s_back [0, 1, 2, 5, 6] (v5, x11) rfl
set_option maxRecDepth 20000 in
theorem sm_Found_gather_45_b {G : GT} {ad : Nat → Nat} {K : Unit → Dm → Prop} (C : Cx G rm_Found_gather cX1_gather 8 RX1) (hV : Vx G rm_Found_gather ad ZF (0, 0)) (hR : RtV G rm_Found_gather ad ZF (0, 0) cX1_gather K) (v0 : Nat) (v1 : Nat) (v2 : Int32) (v5 : Int32) (v6 : Int32) : Sm G rm_Found_gather ad ZF (0, 0) (lpK G rm_Found_gather ad ZF (0, 0) 45 (fun (s : (Int32 × Int32)) => [(0, .ref v0), (1, .ref v1), (2, .int v2), (5, .int s.1), (6, .int s.2)]) K) 45 [(0, .ref v0), (1, .ref v1), (2, .int v2), (5, .int v5), (6, .int v6)] [] (Found_gather_45_b v0 v1 v2 v5 v6) := by
  unfold Found_gather_45_b
  refine s_iload C rfl dX1_gather_45 ?_
  refine s_iload_n C rfl dX1_gather_47 ?_
  refine s_icmp_ge C 104 (by decide) dX1_gather_48 ?_ ?_
  · refine s_exit ?_
    exact s_vret hR dX1_gather_104
  · refine s_aload_n C rfl dX1_gather_51 ?_
    refine s_getR C hV fl_X1_50 (fun _ _ _ => rfl) dX1_gather_52 (fun x7 => ?_)
    refine s_iload C rfl dX1_gather_55 ?_
    refine s_aaloadA C hV dX1_gather_57 (fun x8 => ?_)
    refine s_astore C (L' := [(7, .ref x8), (0, .ref v0), (1, .ref v1), (2, .int v2), (5, .int v5), (6, .int v6)]) (by decide) rfl dX1_gather_58 ?_
    refine s_aload C rfl dX1_gather_60 ?_
    refine s_wI C hV lv_X1_54 (st := []) (met_Act_writes x8) rf_Found_gather_Act_writes rfl rfl (Nat.le_of_ble_eq_true rfl) dX1_gather_62 (fun r9 => ?_)
    refine s_if_eq C 81 (by decide) dX1_gather_65 ?_ ?_
    · refine s_aload C rfl dX1_gather_81 ?_
      refine s_getI C hV fl_X1_64 (fun _ _ _ => rfl) dX1_gather_83 (fun x10 => ?_)
      refine s_iconst C (2 : Int32) (by decide) dX1_gather_86 ?_
      refine s_icmp_ne C 98 (by decide) dX1_gather_87 ?_ ?_
      · exact s_weak [0, 1, 2, 5, 6] rfl (sm_Found_gather_98 C hV hR v0 v1 v2 v5 v6)
      · refine s_aload_n C rfl dX1_gather_90 ?_
        refine s_getI C hV fl_X1_19 (fun _ _ _ => rfl) dX1_gather_91 (fun x12 => ?_)
        refine s_iconst C (1 : Int32) (by decide) dX1_gather_94 ?_
        refine s_isub C dX1_gather_95 ?_
        refine s_leti (fun x13 => ?_)
        refine s_istore C (L' := [(5, .int x13), (7, .ref x8), (0, .ref v0), (1, .ref v1), (2, .int v2), (6, .int v6)]) (by decide) rfl dX1_gather_96 ?_
        exact s_weak [0, 1, 2, 5, 6] rfl (sm_Found_gather_98 C hV hR v0 v1 v2 x13 v6)
    · refine s_aload_n C rfl dX1_gather_68 ?_
      refine s_aload C rfl dX1_gather_69 ?_
      refine s_iload C rfl dX1_gather_71 ?_
      refine s_iload C rfl dX1_gather_73 ?_
      refine s_wV C hV lv_X1_60 (st := []) (met_Found_addReaching v0 x8 v6 v5) rf_Found_gather_Found_addReaching rfl rfl (Nat.le_of_ble_eq_true rfl) dX1_gather_75 ?_
      refine s_goto C 98 (by decide) dX1_gather_78 ?_
      exact s_weak [0, 1, 2, 5, 6] rfl (sm_Found_gather_98 C hV hR v0 v1 v2 v5 v6)
set_option maxRecDepth 20000 in
theorem sm_Found_gather_45 {G : GT} {ad : Nat → Nat} {K : Unit → Dm → Prop} (C : Cx G rm_Found_gather cX1_gather 8 RX1) (hV : Vx G rm_Found_gather ad ZF (0, 0)) (hR : RtV G rm_Found_gather ad ZF (0, 0) cX1_gather K) (v0 : Nat) (v1 : Nat) (v2 : Int32) (s : (Int32 × Int32)) : Sm G rm_Found_gather ad ZF (0, 0) K 45 ((fun (s : (Int32 × Int32)) => [(0, .ref v0), (1, .ref v1), (2, .int v2), (5, .int s.1), (6, .int s.2)]) s) [] (Found_gather_45 v0 v1 v2 s) :=
  s_loop (en := (fun (s : (Int32 × Int32)) => [(0, .ref v0), (1, .ref v1), (2, .int v2), (5, .int s.1), (6, .int s.2)])) (fun s => sm_Found_gather_45_b C hV hR v0 v1 v2 s.1 s.2) s
set_option maxRecDepth 20000 in
theorem sm_Found_gather {G : GT} {ad : Nat → Nat} {K : Unit → Dm → Prop} (C : Cx G rm_Found_gather cX1_gather 8 RX1) (hV : Vx G rm_Found_gather ad ZF (0, 0)) (hR : RtV G rm_Found_gather ad ZF (0, 0) cX1_gather K) (v0 : Nat) (v1 : Nat) (v2 : Int32) : Sm G rm_Found_gather ad ZF (0, 0) K 0 [(0, .ref v0), (1, .ref v1), (2, .int v2)] [] (Found_gather v0 v1 v2) := by
  unfold Found_gather
  refine s_aload_n C rfl dX1_gather_0 ?_
  refine s_iload_n C rfl dX1_gather_1 ?_
  refine s_wI C hV lv_X1_36 (st := []) (met_Prog_behindLastFlush v1 v2) rf_Found_gather_Prog_behindLastFlush rfl rfl (Nat.le_of_ble_eq_true rfl) dX1_gather_2 (fun r1 => ?_)
  refine s_istore_n C (L' := [(3, .int r1), (0, .ref v0), (1, .ref v1), (2, .int v2)]) (by decide) rfl dX1_gather_5 ?_
  refine s_aload_n C rfl dX1_gather_6 ?_
  refine s_iconst C (0 : Int32) (by decide) dX1_gather_7 ?_
  refine s_iload_n C rfl dX1_gather_8 ?_
  refine s_wI C hV lv_X1_42 (st := []) (met_Prog_writesWithin v1 (0 : Int32) r1) rf_Found_gather_Prog_writesWithin rfl rfl (Nat.le_of_ble_eq_true rfl) dX1_gather_9 (fun r2 => ?_)
  refine s_istore C (L' := [(4, .int r2), (3, .int r1), (0, .ref v0), (1, .ref v1), (2, .int v2)]) (by decide) rfl dX1_gather_12 ?_
  refine s_aload_n C rfl dX1_gather_14 ?_
  refine s_getR C hV fl_X1_9 (fun _ _ _ => rfl) dX1_gather_15 (fun x3 => ?_)
  refine s_iconst C (0 : Int32) (by decide) dX1_gather_18 ?_
  refine s_aload_n C rfl dX1_gather_19 ?_
  refine s_iload C rfl dX1_gather_20 ?_
  refine s_wL C hV lv_X1_46 (st := [.int (0 : Int32), .ref x3]) (met_Prog_plateOf v1 r2) rf_Found_gather_Prog_plateOf rfl rfl (Nat.le_of_ble_eq_true rfl) dX1_gather_22 (fun r4 => ?_)
  refine s_lastore C hV dX1_gather_25 ?_
  refine s_aload_n C rfl dX1_gather_26 ?_
  refine s_getR C hV fl_X1_15 (fun _ _ _ => rfl) dX1_gather_27 (fun x5 => ?_)
  refine s_iconst C (0 : Int32) (by decide) dX1_gather_30 ?_
  refine s_iload C rfl dX1_gather_31 ?_
  refine s_iastore C hV dX1_gather_33 ?_
  refine s_aload_n C rfl dX1_gather_34 ?_
  refine s_iconst C (1 : Int32) (by decide) dX1_gather_35 ?_
  refine s_putI C hV fw_X1_19 rfl dX1_gather_36 ?_
  refine s_iconst C (0 : Int32) (by decide) dX1_gather_39 ?_
  refine s_leti (fun x6 => ?_)
  refine s_istore C (L' := [(5, .int x6), (4, .int r2), (3, .int r1), (0, .ref v0), (1, .ref v1), (2, .int v2)]) (by decide) rfl dX1_gather_40 ?_
  refine s_iload_n C rfl dX1_gather_42 ?_
  refine s_istore C (L' := [(6, .int r1), (5, .int x6), (4, .int r2), (3, .int r1), (0, .ref v0), (1, .ref v1), (2, .int v2)]) (by decide) rfl dX1_gather_43 ?_
  exact s_weak [0, 1, 2, 5, 6] rfl (sm_Found_gather_45 C hV hR v0 v1 v2 (x6, r1))
set_option maxRecDepth 20000 in
theorem met_Found_gather (v0 : Nat) (v1 : Nat) (v2 : Int32) : MV ZF yX1_gather cX1_gather 8 rm_Found_gather [.ref v0, .ref v1, .int v2] (Found_gather v0 v1 v2) :=
  mv_of (L0 := [(0, .ref v0), (1, .ref v1), (2, .int v2)]) (by decide +kernel) (Nat.le_of_ble_eq_true rfl) rfl (fun G ad K C hV hR => sm_Found_gather C hV hR v0 v1 v2)

noncomputable def Found_sink_107 (v0 : Nat) (v3 : Int64) (v5 : Int32) (v6 : Int32) : MM Unit :=
  mb (gR ZF 2 0 v0) fun x5 =>
  mb (sL ZF x5 v6 v3) fun _ =>
  mb (gR ZF 2 1 v0) fun x6 =>
  mb (sI ZF x6 v6 v5) fun _ =>
  mp ()
noncomputable def Found_sink_66 (v0 : Nat) (v2 : Int32) (v3 : Int64) (v5 : Int32) (v6 : Int32) : MM (Int32 ⊕ Unit) :=
  mb (gR ZF 2 0 v0) fun x9 =>
  mb (gR ZF 2 0 v0) fun x10 =>
  mb (aL ZF x10 (v6 - v2)) fun x11 =>
  mb (sL ZF x9 v6 x11) fun _ =>
  mb (gR ZF 2 1 v0) fun x12 =>
  mb (gR ZF 2 1 v0) fun x13 =>
  mb (aI ZF 23 x13 (v6 - v2)) fun x14 =>
  mb (sI ZF x12 v6 x14) fun _ =>
  ml (v6 - v2) fun x15 =>
  mp (.inl x15)
noncomputable def Found_sink_18_b (v0 : Nat) (v2 : Int32) (v3 : Int64) (v5 : Int32) (v6 : Int32) : MM (Int32 ⊕ Unit) :=
  if v6 < v2 then
  mr (Found_sink_107 v0 v3 v5 v6)
  else
  mb (gR ZF 2 0 v0) fun x7 =>
  mb (aL ZF x7 (v6 - v2)) fun x8 =>
  if v3 < x8 then
  Found_sink_66 v0 v2 v3 v5 v6
  else
  mb (gR ZF 2 0 v0) fun x16 =>
  mb (aL ZF x16 (v6 - v2)) fun x17 =>
  if x17 = v3 then
  mb (gR ZF 2 1 v0) fun x18 =>
  mb (aI ZF 23 x18 (v6 - v2)) fun x19 =>
  if x19 ≤ v5 then
  mr (Found_sink_107 v0 v3 v5 v6)
  else
  Found_sink_66 v0 v2 v3 v5 v6
  else
  mr (Found_sink_107 v0 v3 v5 v6)
noncomputable def Found_sink_18 (v0 : Nat) (v2 : Int32) (v3 : Int64) (v5 : Int32) (s : Int32) : MM Unit := lo (fun (s : Int32) => Found_sink_18_b v0 v2 v3 v5 s) s
noncomputable def Found_sink (v0 : Nat) (v1 : Int32) (v2 : Int32) : MM Unit :=
  mb (gR ZF 2 0 v0) fun x1 =>
  mb (aL ZF x1 v1) fun x2 =>
  mb (gR ZF 2 1 v0) fun x3 =>
  mb (aI ZF 23 x3 v1) fun x4 =>
  Found_sink_18 v0 v2 x2 x4 v1
set_option maxRecDepth 20000 in
theorem sm_Found_sink_107 {G : GT} {ad : Nat → Nat} {K : Unit → Dm → Prop} (C : Cx G rm_Found_sink cX1_sink 7 RX1) (hV : Vx G rm_Found_sink ad ZF (0, 0)) (hR : RtV G rm_Found_sink ad ZF (0, 0) cX1_sink K) (v0 : Nat) (v3 : Int64) (v5 : Int32) (v6 : Int32) : Sm G rm_Found_sink ad ZF (0, 0) K 107 [(0, .ref v0), (3, .long v3), (5, .int v5), (6, .int v6)] [] (Found_sink_107 v0 v3 v5 v6) := by
  unfold Found_sink_107
  refine s_aload_n C rfl dX1_sink_107 ?_
  refine s_getR C hV fl_X1_9 (fun _ _ _ => rfl) dX1_sink_108 (fun x5 => ?_)
  refine s_iload C rfl dX1_sink_111 ?_
  refine s_lload_n C rfl dX1_sink_113 ?_
  refine s_lastore C hV dX1_sink_114 ?_
  refine s_aload_n C rfl dX1_sink_115 ?_
  refine s_getR C hV fl_X1_15 (fun _ _ _ => rfl) dX1_sink_116 (fun x6 => ?_)
  refine s_iload C rfl dX1_sink_119 ?_
  refine s_iload C rfl dX1_sink_121 ?_
  refine s_iastore C hV dX1_sink_123 ?_
  exact s_vret hR dX1_sink_124
set_option maxRecDepth 20000 in
theorem sm_Found_sink_66 {G : GT} {ad : Nat → Nat} {K : Unit → Dm → Prop} (C : Cx G rm_Found_sink cX1_sink 7 RX1) (hV : Vx G rm_Found_sink ad ZF (0, 0)) (hR : RtV G rm_Found_sink ad ZF (0, 0) cX1_sink K) (v0 : Nat) (v2 : Int32) (v3 : Int64) (v5 : Int32) (v6 : Int32) : Sm G rm_Found_sink ad ZF (0, 0) (lpK G rm_Found_sink ad ZF (0, 0) 18 (fun (s : Int32) => [(0, .ref v0), (2, .int v2), (3, .long v3), (5, .int v5), (6, .int s)]) K) 66 [(0, .ref v0), (2, .int v2), (3, .long v3), (5, .int v5), (6, .int v6)] [] (Found_sink_66 v0 v2 v3 v5 v6) := by
  unfold Found_sink_66
  refine s_aload_n C rfl dX1_sink_66 ?_
  refine s_getR C hV fl_X1_9 (fun _ _ _ => rfl) dX1_sink_67 (fun x9 => ?_)
  refine s_iload C rfl dX1_sink_70 ?_
  refine s_aload_n C rfl dX1_sink_72 ?_
  refine s_getR C hV fl_X1_9 (fun _ _ _ => rfl) dX1_sink_73 (fun x10 => ?_)
  refine s_iload C rfl dX1_sink_76 ?_
  refine s_iload_n C rfl dX1_sink_78 ?_
  refine s_isub C dX1_sink_79 ?_
  refine s_laload C hV dX1_sink_80 (fun x11 => ?_)
  refine s_lastore C hV dX1_sink_81 ?_
  refine s_aload_n C rfl dX1_sink_82 ?_
  refine s_getR C hV fl_X1_15 (fun _ _ _ => rfl) dX1_sink_83 (fun x12 => ?_)
  refine s_iload C rfl dX1_sink_86 ?_
  refine s_aload_n C rfl dX1_sink_88 ?_
  refine s_getR C hV fl_X1_15 (fun _ _ _ => rfl) dX1_sink_89 (fun x13 => ?_)
  refine s_iload C rfl dX1_sink_92 ?_
  refine s_iload_n C rfl dX1_sink_94 ?_
  refine s_isub C dX1_sink_95 ?_
  refine s_iaload C hV dX1_sink_96 (fun x14 => ?_)
  refine s_iastore C hV dX1_sink_97 ?_
  refine s_iload C rfl dX1_sink_98 ?_
  refine s_iload_n C rfl dX1_sink_100 ?_
  refine s_isub C dX1_sink_101 ?_
  refine s_leti (fun x15 => ?_)
  refine s_istore C (L' := [(6, .int x15), (0, .ref v0), (2, .int v2), (3, .long v3), (5, .int v5)]) (by decide) rfl dX1_sink_102 ?_
  refine s_goto C 18 (by decide) dX1_sink_104 ?_
  exact s_back [0, 2, 3, 5, 6] x15 rfl
set_option maxRecDepth 20000 in
theorem sm_Found_sink_18_b {G : GT} {ad : Nat → Nat} {K : Unit → Dm → Prop} (C : Cx G rm_Found_sink cX1_sink 7 RX1) (hV : Vx G rm_Found_sink ad ZF (0, 0)) (hR : RtV G rm_Found_sink ad ZF (0, 0) cX1_sink K) (v0 : Nat) (v2 : Int32) (v3 : Int64) (v5 : Int32) (v6 : Int32) : Sm G rm_Found_sink ad ZF (0, 0) (lpK G rm_Found_sink ad ZF (0, 0) 18 (fun (s : Int32) => [(0, .ref v0), (2, .int v2), (3, .long v3), (5, .int v5), (6, .int s)]) K) 18 [(0, .ref v0), (2, .int v2), (3, .long v3), (5, .int v5), (6, .int v6)] [] (Found_sink_18_b v0 v2 v3 v5 v6) := by
  unfold Found_sink_18_b
  refine s_iload C rfl dX1_sink_18 ?_
  refine s_iload_n C rfl dX1_sink_20 ?_
  refine s_icmp_lt C 107 (by decide) dX1_sink_21 ?_ ?_
  · refine s_exit ?_
    exact s_weak [0, 3, 5, 6] rfl (sm_Found_sink_107 C hV hR v0 v3 v5 v6)
  · refine s_aload_n C rfl dX1_sink_24 ?_
    refine s_getR C hV fl_X1_9 (fun _ _ _ => rfl) dX1_sink_25 (fun x7 => ?_)
    refine s_iload C rfl dX1_sink_28 ?_
    refine s_iload_n C rfl dX1_sink_30 ?_
    refine s_isub C dX1_sink_31 ?_
    refine s_laload C hV dX1_sink_32 (fun x8 => ?_)
    refine s_lload_n C rfl dX1_sink_33 ?_
    refine s_lcmp_gt C 66 (by decide) dX1_sink_34 dX1_sink_35 ?_ ?_
    · exact s_weak [0, 2, 3, 5, 6] rfl (sm_Found_sink_66 C hV hR v0 v2 v3 v5 v6)
    · refine s_aload_n C rfl dX1_sink_38 ?_
      refine s_getR C hV fl_X1_9 (fun _ _ _ => rfl) dX1_sink_39 (fun x16 => ?_)
      refine s_iload C rfl dX1_sink_42 ?_
      refine s_iload_n C rfl dX1_sink_44 ?_
      refine s_isub C dX1_sink_45 ?_
      refine s_laload C hV dX1_sink_46 (fun x17 => ?_)
      refine s_lload_n C rfl dX1_sink_47 ?_
      refine s_lcmp_ne C 107 (by decide) dX1_sink_48 dX1_sink_49 ?_ ?_
      · refine s_exit ?_
        exact s_weak [0, 3, 5, 6] rfl (sm_Found_sink_107 C hV hR v0 v3 v5 v6)
      · refine s_aload_n C rfl dX1_sink_52 ?_
        refine s_getR C hV fl_X1_15 (fun _ _ _ => rfl) dX1_sink_53 (fun x18 => ?_)
        refine s_iload C rfl dX1_sink_56 ?_
        refine s_iload_n C rfl dX1_sink_58 ?_
        refine s_isub C dX1_sink_59 ?_
        refine s_iaload C hV dX1_sink_60 (fun x19 => ?_)
        refine s_iload C rfl dX1_sink_61 ?_
        refine s_icmp_le C 107 (by decide) dX1_sink_63 ?_ ?_
        · refine s_exit ?_
          exact s_weak [0, 3, 5, 6] rfl (sm_Found_sink_107 C hV hR v0 v3 v5 v6)
        · exact s_weak [0, 2, 3, 5, 6] rfl (sm_Found_sink_66 C hV hR v0 v2 v3 v5 v6)
set_option maxRecDepth 20000 in
theorem sm_Found_sink_18 {G : GT} {ad : Nat → Nat} {K : Unit → Dm → Prop} (C : Cx G rm_Found_sink cX1_sink 7 RX1) (hV : Vx G rm_Found_sink ad ZF (0, 0)) (hR : RtV G rm_Found_sink ad ZF (0, 0) cX1_sink K) (v0 : Nat) (v2 : Int32) (v3 : Int64) (v5 : Int32) (s : Int32) : Sm G rm_Found_sink ad ZF (0, 0) K 18 ((fun (s : Int32) => [(0, .ref v0), (2, .int v2), (3, .long v3), (5, .int v5), (6, .int s)]) s) [] (Found_sink_18 v0 v2 v3 v5 s) :=
  s_loop (en := (fun (s : Int32) => [(0, .ref v0), (2, .int v2), (3, .long v3), (5, .int v5), (6, .int s)])) (fun s => sm_Found_sink_18_b C hV hR v0 v2 v3 v5 s) s
set_option maxRecDepth 20000 in
theorem sm_Found_sink {G : GT} {ad : Nat → Nat} {K : Unit → Dm → Prop} (C : Cx G rm_Found_sink cX1_sink 7 RX1) (hV : Vx G rm_Found_sink ad ZF (0, 0)) (hR : RtV G rm_Found_sink ad ZF (0, 0) cX1_sink K) (v0 : Nat) (v1 : Int32) (v2 : Int32) : Sm G rm_Found_sink ad ZF (0, 0) K 0 [(0, .ref v0), (1, .int v1), (2, .int v2)] [] (Found_sink v0 v1 v2) := by
  unfold Found_sink
  refine s_aload_n C rfl dX1_sink_0 ?_
  refine s_getR C hV fl_X1_9 (fun _ _ _ => rfl) dX1_sink_1 (fun x1 => ?_)
  refine s_iload_n C rfl dX1_sink_4 ?_
  refine s_laload C hV dX1_sink_5 (fun x2 => ?_)
  refine s_lstore_n C (L' := [(3, .long x2), (0, .ref v0), (1, .int v1), (2, .int v2)]) (by decide) rfl dX1_sink_6 ?_
  refine s_aload_n C rfl dX1_sink_7 ?_
  refine s_getR C hV fl_X1_15 (fun _ _ _ => rfl) dX1_sink_8 (fun x3 => ?_)
  refine s_iload_n C rfl dX1_sink_11 ?_
  refine s_iaload C hV dX1_sink_12 (fun x4 => ?_)
  refine s_istore C (L' := [(5, .int x4), (3, .long x2), (0, .ref v0), (1, .int v1), (2, .int v2)]) (by decide) rfl dX1_sink_13 ?_
  refine s_iload_n C rfl dX1_sink_15 ?_
  refine s_istore C (L' := [(6, .int v1), (5, .int x4), (3, .long x2), (0, .ref v0), (1, .int v1), (2, .int v2)]) (by decide) rfl dX1_sink_16 ?_
  exact s_weak [0, 2, 3, 5, 6] rfl (sm_Found_sink_18 C hV hR v0 v2 x2 x4 v1)
set_option maxRecDepth 20000 in
theorem met_Found_sink (v0 : Nat) (v1 : Int32) (v2 : Int32) : MV ZF yX1_sink cX1_sink 7 rm_Found_sink [.ref v0, .int v1, .int v2] (Found_sink v0 v1 v2) :=
  mv_of (L0 := [(0, .ref v0), (1, .int v1), (2, .int v2)]) (by decide +kernel) (Nat.le_of_ble_eq_true rfl) rfl (fun G ad K C hV hR => sm_Found_sink C hV hR v0 v1 v2)

noncomputable def Found_sort_48 (v0 : Nat) (t0 : Int32) : MM (Int32 ⊕ Unit) :=
  mp (.inl t0)
noncomputable def Found_sort_13_b (v0 : Nat) (v1 : Int32) (v2 : Int32) : MM (Int32 ⊕ (Int32 ⊕ Unit)) :=
  mb (gI ZF 2 2 v0) fun x3 =>
  if x3 ≤ v2 then
  mr (
  Found_sort_48 v0 (if v1 = (2 : Int32) then (1 : Int32) else ((v1 * (5 : Int32)) / (11 : Int32))))
  else
  mb (vc ZF 2 v0 (Found_sink v0 v2 v1)) fun _ =>
  ml (v2 + (1 : Int32)) fun x4 =>
  mp (.inl x4)
noncomputable def Found_sort_13 (v0 : Nat) (v1 : Int32) (s : Int32) : MM (Int32 ⊕ Unit) := lo (fun (s : Int32) => Found_sort_13_b v0 v1 s) s
noncomputable def Found_sort_7_b (v0 : Nat) (v1 : Int32) : MM (Int32 ⊕ Unit) :=
  if v1 ≤ 0 then
  mr (
  mp ())
  else
  Found_sort_13 v0 v1 v1
noncomputable def Found_sort_7 (v0 : Nat) (s : Int32) : MM Unit := lo (fun (s : Int32) => Found_sort_7_b v0 s) s
noncomputable def Found_sort (v0 : Nat) : MM Unit :=
  mb (gI ZF 2 2 v0) fun x1 =>
  ml (x1 / (2 : Int32)) fun x2 =>
  Found_sort_7 v0 x2
set_option maxRecDepth 20000 in
theorem sm_Found_sort_48 {G : GT} {ad : Nat → Nat} {K : Unit → Dm → Prop} (C : Cx G rm_Found_sort cX1_sort 3 RX1) (hV : Vx G rm_Found_sort ad ZF (0, 0)) (hR : RtV G rm_Found_sort ad ZF (0, 0) cX1_sort K) (v0 : Nat) (t0 : Int32) : Sm G rm_Found_sort ad ZF (0, 0) (lpK G rm_Found_sort ad ZF (0, 0) 7 (fun (s : Int32) => [(0, .ref v0), (1, .int s)]) K) 48 [(0, .ref v0)] [.int t0] (Found_sort_48 v0 t0) := by
  unfold Found_sort_48
  refine s_istore_n C (L' := [(1, .int t0), (0, .ref v0)]) (by decide) rfl dX1_sort_48 ?_
  refine s_goto C 7 (by decide) dX1_sort_49 ?_
  exact s_back [0, 1] t0 rfl
set_option maxRecDepth 20000 in
theorem sm_Found_sort_13_b {G : GT} {ad : Nat → Nat} {K : Unit → Dm → Prop} (C : Cx G rm_Found_sort cX1_sort 3 RX1) (hV : Vx G rm_Found_sort ad ZF (0, 0)) (hR : RtV G rm_Found_sort ad ZF (0, 0) cX1_sort K) (v0 : Nat) (v1 : Int32) (v2 : Int32) : Sm G rm_Found_sort ad ZF (0, 0) (lpK G rm_Found_sort ad ZF (0, 0) 13 (fun (s : Int32) => [(0, .ref v0), (1, .int v1), (2, .int s)]) (lpK G rm_Found_sort ad ZF (0, 0) 7 (fun (s : Int32) => [(0, .ref v0), (1, .int s)]) K)) 13 [(0, .ref v0), (1, .int v1), (2, .int v2)] [] (Found_sort_13_b v0 v1 v2) := by
  unfold Found_sort_13_b
  refine s_iload_n C rfl dX1_sort_13 ?_
  refine s_aload_n C rfl dX1_sort_14 ?_
  refine s_getI C hV fl_X1_19 (fun _ _ _ => rfl) dX1_sort_15 (fun x3 => ?_)
  refine s_icmp_ge C 33 (by decide) dX1_sort_18 ?_ ?_
  · refine s_exit ?_
    refine s_iload_n C rfl dX1_sort_33 ?_
    refine s_iconst C (2 : Int32) (by decide) dX1_sort_34 ?_
    refine s_ite (g := fun z => Found_sort_48 v0 z) ?_
    refine s_icmp_ne C 42 (by decide) dX1_sort_35 ?_ ?_
    · refine s_iload_n C rfl dX1_sort_42 ?_
      refine s_iconst C (5 : Int32) (by decide) dX1_sort_43 ?_
      refine s_imul C dX1_sort_44 ?_
      refine s_bipush C (11 : Int32) (by decide) dX1_sort_45 ?_
      refine s_idiv C (by decide) dX1_sort_47 ?_
      exact s_weak [0] rfl (sm_Found_sort_48 C hV hR v0 ((v1 * (5 : Int32)) / (11 : Int32)))
    · refine s_iconst C (1 : Int32) (by decide) dX1_sort_38 ?_
      refine s_goto C 48 (by decide) dX1_sort_39 ?_
      exact s_weak [0] rfl (sm_Found_sort_48 C hV hR v0 (1 : Int32))
  · refine s_aload_n C rfl dX1_sort_21 ?_
    refine s_iload_n C rfl dX1_sort_22 ?_
    refine s_iload_n C rfl dX1_sort_23 ?_
    refine s_wV C hV lv_X1_70 (st := []) (met_Found_sink v0 v2 v1) rf_Found_sort_Found_sink rfl rfl (Nat.le_of_ble_eq_true rfl) dX1_sort_24 ?_
    refine s_iinc C (L' := fun x4 => [(2, .int x4), (0, .ref v0), (1, .int v1)]) (1 : Int32) (by decide) rfl (by decide) (fun _ => rfl) dX1_sort_27 (fun x4 => ?_)
    refine s_goto C 13 (by decide) dX1_sort_30 ?_
    exact s_back [0, 1, 2] x4 rfl
set_option maxRecDepth 20000 in
theorem sm_Found_sort_13 {G : GT} {ad : Nat → Nat} {K : Unit → Dm → Prop} (C : Cx G rm_Found_sort cX1_sort 3 RX1) (hV : Vx G rm_Found_sort ad ZF (0, 0)) (hR : RtV G rm_Found_sort ad ZF (0, 0) cX1_sort K) (v0 : Nat) (v1 : Int32) (s : Int32) : Sm G rm_Found_sort ad ZF (0, 0) (lpK G rm_Found_sort ad ZF (0, 0) 7 (fun (s : Int32) => [(0, .ref v0), (1, .int s)]) K) 13 ((fun (s : Int32) => [(0, .ref v0), (1, .int v1), (2, .int s)]) s) [] (Found_sort_13 v0 v1 s) :=
  s_loop (en := (fun (s : Int32) => [(0, .ref v0), (1, .int v1), (2, .int s)])) (fun s => sm_Found_sort_13_b C hV hR v0 v1 s) s
set_option maxRecDepth 20000 in
theorem sm_Found_sort_7_b {G : GT} {ad : Nat → Nat} {K : Unit → Dm → Prop} (C : Cx G rm_Found_sort cX1_sort 3 RX1) (hV : Vx G rm_Found_sort ad ZF (0, 0)) (hR : RtV G rm_Found_sort ad ZF (0, 0) cX1_sort K) (v0 : Nat) (v1 : Int32) : Sm G rm_Found_sort ad ZF (0, 0) (lpK G rm_Found_sort ad ZF (0, 0) 7 (fun (s : Int32) => [(0, .ref v0), (1, .int s)]) K) 7 [(0, .ref v0), (1, .int v1)] [] (Found_sort_7_b v0 v1) := by
  unfold Found_sort_7_b
  refine s_iload_n C rfl dX1_sort_7 ?_
  refine s_if_le C 52 (by decide) dX1_sort_8 ?_ ?_
  · refine s_exit ?_
    exact s_vret hR dX1_sort_52
  · refine s_iload_n C rfl dX1_sort_11 ?_
    refine s_istore_n C (L' := [(2, .int v1), (0, .ref v0), (1, .int v1)]) (by decide) rfl dX1_sort_12 ?_
    exact s_weak [0, 1, 2] rfl (sm_Found_sort_13 C hV hR v0 v1 v1)
set_option maxRecDepth 20000 in
theorem sm_Found_sort_7 {G : GT} {ad : Nat → Nat} {K : Unit → Dm → Prop} (C : Cx G rm_Found_sort cX1_sort 3 RX1) (hV : Vx G rm_Found_sort ad ZF (0, 0)) (hR : RtV G rm_Found_sort ad ZF (0, 0) cX1_sort K) (v0 : Nat) (s : Int32) : Sm G rm_Found_sort ad ZF (0, 0) K 7 ((fun (s : Int32) => [(0, .ref v0), (1, .int s)]) s) [] (Found_sort_7 v0 s) :=
  s_loop (en := (fun (s : Int32) => [(0, .ref v0), (1, .int s)])) (fun s => sm_Found_sort_7_b C hV hR v0 s) s
set_option maxRecDepth 20000 in
theorem sm_Found_sort {G : GT} {ad : Nat → Nat} {K : Unit → Dm → Prop} (C : Cx G rm_Found_sort cX1_sort 3 RX1) (hV : Vx G rm_Found_sort ad ZF (0, 0)) (hR : RtV G rm_Found_sort ad ZF (0, 0) cX1_sort K) (v0 : Nat) : Sm G rm_Found_sort ad ZF (0, 0) K 0 [(0, .ref v0)] [] (Found_sort v0) := by
  unfold Found_sort
  refine s_aload_n C rfl dX1_sort_0 ?_
  refine s_getI C hV fl_X1_19 (fun _ _ _ => rfl) dX1_sort_1 (fun x1 => ?_)
  refine s_iconst C (2 : Int32) (by decide) dX1_sort_4 ?_
  refine s_idiv C (by decide) dX1_sort_5 ?_
  refine s_leti (fun x2 => ?_)
  refine s_istore_n C (L' := [(1, .int x2), (0, .ref v0)]) (by decide) rfl dX1_sort_6 ?_
  exact s_weak [0, 1] rfl (sm_Found_sort_7 C hV hR v0 x2)
set_option maxRecDepth 20000 in
theorem met_Found_sort (v0 : Nat) : MV ZF yX1_sort cX1_sort 3 rm_Found_sort [.ref v0] (Found_sort v0) :=
  mv_of (L0 := [(0, .ref v0)]) (by decide +kernel) (Nat.le_of_ble_eq_true rfl) rfl (fun G ad K C hV hR => sm_Found_sort C hV hR v0)

noncomputable def Found_dropLike_57 (v0 : Nat) (v1 : Int32) (v2 : Int32) : MM ((Int32 × Int32) ⊕ Unit) :=
  ml (v2 + (1 : Int32)) fun x8 =>
  mp (.inl (v1, x8))
noncomputable def Found_dropLike_4_b (v0 : Nat) (v1 : Int32) (v2 : Int32) : MM ((Int32 × Int32) ⊕ Unit) :=
  mb (gI ZF 2 2 v0) fun x3 =>
  if x3 ≤ v2 then
  mr (
  mb (pI ZF 2 2 v0 v1) fun _ =>
  mp ())
  else
  mb (gR ZF 2 0 v0) fun x4 =>
  mb (aL ZF x4 v2) fun x5 =>
  mb (gR ZF 2 0 v0) fun x6 =>
  mb (aL ZF x6 (v1 - (1 : Int32))) fun x7 =>
  if x5 = x7 then
  Found_dropLike_57 v0 v1 v2
  else
  mb (gR ZF 2 0 v0) fun x9 =>
  mb (gR ZF 2 0 v0) fun x10 =>
  mb (aL ZF x10 v2) fun x11 =>
  mb (sL ZF x9 v1 x11) fun _ =>
  mb (gR ZF 2 1 v0) fun x12 =>
  mb (gR ZF 2 1 v0) fun x13 =>
  mb (aI ZF 23 x13 v2) fun x14 =>
  mb (sI ZF x12 v1 x14) fun _ =>
  ml (v1 + (1 : Int32)) fun x15 =>
  Found_dropLike_57 v0 x15 v2
noncomputable def Found_dropLike_4 (v0 : Nat) (s : (Int32 × Int32)) : MM Unit := lo (fun (s : (Int32 × Int32)) => Found_dropLike_4_b v0 s.1 s.2) s
noncomputable def Found_dropLike (v0 : Nat) : MM Unit :=
  ml (1 : Int32) fun x1 =>
  ml (1 : Int32) fun x2 =>
  Found_dropLike_4 v0 (x1, x2)
set_option maxRecDepth 20000 in
theorem sm_Found_dropLike_57 {G : GT} {ad : Nat → Nat} {K : Unit → Dm → Prop} (C : Cx G rm_Found_dropLike cX1_dropLike 3 RX1) (hV : Vx G rm_Found_dropLike ad ZF (0, 0)) (hR : RtV G rm_Found_dropLike ad ZF (0, 0) cX1_dropLike K) (v0 : Nat) (v1 : Int32) (v2 : Int32) : Sm G rm_Found_dropLike ad ZF (0, 0) (lpK G rm_Found_dropLike ad ZF (0, 0) 4 (fun (s : (Int32 × Int32)) => [(0, .ref v0), (1, .int s.1), (2, .int s.2)]) K) 57 [(0, .ref v0), (1, .int v1), (2, .int v2)] [] (Found_dropLike_57 v0 v1 v2) := by
  unfold Found_dropLike_57
  refine s_iinc C (L' := fun x8 => [(2, .int x8), (0, .ref v0), (1, .int v1)]) (1 : Int32) (by decide) rfl (by decide) (fun _ => rfl) dX1_dropLike_57 (fun x8 => ?_)
  refine s_goto C 4 (by decide) dX1_dropLike_60 ?_
  exact s_back [0, 1, 2] (v1, x8) rfl
set_option maxRecDepth 20000 in
theorem sm_Found_dropLike_4_b {G : GT} {ad : Nat → Nat} {K : Unit → Dm → Prop} (C : Cx G rm_Found_dropLike cX1_dropLike 3 RX1) (hV : Vx G rm_Found_dropLike ad ZF (0, 0)) (hR : RtV G rm_Found_dropLike ad ZF (0, 0) cX1_dropLike K) (v0 : Nat) (v1 : Int32) (v2 : Int32) : Sm G rm_Found_dropLike ad ZF (0, 0) (lpK G rm_Found_dropLike ad ZF (0, 0) 4 (fun (s : (Int32 × Int32)) => [(0, .ref v0), (1, .int s.1), (2, .int s.2)]) K) 4 [(0, .ref v0), (1, .int v1), (2, .int v2)] [] (Found_dropLike_4_b v0 v1 v2) := by
  unfold Found_dropLike_4_b
  refine s_iload_n C rfl dX1_dropLike_4 ?_
  refine s_aload_n C rfl dX1_dropLike_5 ?_
  refine s_getI C hV fl_X1_19 (fun _ _ _ => rfl) dX1_dropLike_6 (fun x3 => ?_)
  refine s_icmp_ge C 63 (by decide) dX1_dropLike_9 ?_ ?_
  · refine s_exit ?_
    refine s_aload_n C rfl dX1_dropLike_63 ?_
    refine s_iload_n C rfl dX1_dropLike_64 ?_
    refine s_putI C hV fw_X1_19 rfl dX1_dropLike_65 ?_
    exact s_vret hR dX1_dropLike_68
  · refine s_aload_n C rfl dX1_dropLike_12 ?_
    refine s_getR C hV fl_X1_9 (fun _ _ _ => rfl) dX1_dropLike_13 (fun x4 => ?_)
    refine s_iload_n C rfl dX1_dropLike_16 ?_
    refine s_laload C hV dX1_dropLike_17 (fun x5 => ?_)
    refine s_aload_n C rfl dX1_dropLike_18 ?_
    refine s_getR C hV fl_X1_9 (fun _ _ _ => rfl) dX1_dropLike_19 (fun x6 => ?_)
    refine s_iload_n C rfl dX1_dropLike_22 ?_
    refine s_iconst C (1 : Int32) (by decide) dX1_dropLike_23 ?_
    refine s_isub C dX1_dropLike_24 ?_
    refine s_laload C hV dX1_dropLike_25 (fun x7 => ?_)
    refine s_lcmp_eq C 57 (by decide) dX1_dropLike_26 dX1_dropLike_27 ?_ ?_
    · exact s_weak [0, 1, 2] rfl (sm_Found_dropLike_57 C hV hR v0 v1 v2)
    · refine s_aload_n C rfl dX1_dropLike_30 ?_
      refine s_getR C hV fl_X1_9 (fun _ _ _ => rfl) dX1_dropLike_31 (fun x9 => ?_)
      refine s_iload_n C rfl dX1_dropLike_34 ?_
      refine s_aload_n C rfl dX1_dropLike_35 ?_
      refine s_getR C hV fl_X1_9 (fun _ _ _ => rfl) dX1_dropLike_36 (fun x10 => ?_)
      refine s_iload_n C rfl dX1_dropLike_39 ?_
      refine s_laload C hV dX1_dropLike_40 (fun x11 => ?_)
      refine s_lastore C hV dX1_dropLike_41 ?_
      refine s_aload_n C rfl dX1_dropLike_42 ?_
      refine s_getR C hV fl_X1_15 (fun _ _ _ => rfl) dX1_dropLike_43 (fun x12 => ?_)
      refine s_iload_n C rfl dX1_dropLike_46 ?_
      refine s_aload_n C rfl dX1_dropLike_47 ?_
      refine s_getR C hV fl_X1_15 (fun _ _ _ => rfl) dX1_dropLike_48 (fun x13 => ?_)
      refine s_iload_n C rfl dX1_dropLike_51 ?_
      refine s_iaload C hV dX1_dropLike_52 (fun x14 => ?_)
      refine s_iastore C hV dX1_dropLike_53 ?_
      refine s_iinc C (L' := fun x15 => [(1, .int x15), (0, .ref v0), (2, .int v2)]) (1 : Int32) (by decide) rfl (by decide) (fun _ => rfl) dX1_dropLike_54 (fun x15 => ?_)
      exact s_weak [0, 1, 2] rfl (sm_Found_dropLike_57 C hV hR v0 x15 v2)
set_option maxRecDepth 20000 in
theorem sm_Found_dropLike_4 {G : GT} {ad : Nat → Nat} {K : Unit → Dm → Prop} (C : Cx G rm_Found_dropLike cX1_dropLike 3 RX1) (hV : Vx G rm_Found_dropLike ad ZF (0, 0)) (hR : RtV G rm_Found_dropLike ad ZF (0, 0) cX1_dropLike K) (v0 : Nat) (s : (Int32 × Int32)) : Sm G rm_Found_dropLike ad ZF (0, 0) K 4 ((fun (s : (Int32 × Int32)) => [(0, .ref v0), (1, .int s.1), (2, .int s.2)]) s) [] (Found_dropLike_4 v0 s) :=
  s_loop (en := (fun (s : (Int32 × Int32)) => [(0, .ref v0), (1, .int s.1), (2, .int s.2)])) (fun s => sm_Found_dropLike_4_b C hV hR v0 s.1 s.2) s
set_option maxRecDepth 20000 in
theorem sm_Found_dropLike {G : GT} {ad : Nat → Nat} {K : Unit → Dm → Prop} (C : Cx G rm_Found_dropLike cX1_dropLike 3 RX1) (hV : Vx G rm_Found_dropLike ad ZF (0, 0)) (hR : RtV G rm_Found_dropLike ad ZF (0, 0) cX1_dropLike K) (v0 : Nat) : Sm G rm_Found_dropLike ad ZF (0, 0) K 0 [(0, .ref v0)] [] (Found_dropLike v0) := by
  unfold Found_dropLike
  refine s_iconst C (1 : Int32) (by decide) dX1_dropLike_0 ?_
  refine s_leti (fun x1 => ?_)
  refine s_istore_n C (L' := [(1, .int x1), (0, .ref v0)]) (by decide) rfl dX1_dropLike_1 ?_
  refine s_iconst C (1 : Int32) (by decide) dX1_dropLike_2 ?_
  refine s_leti (fun x2 => ?_)
  refine s_istore_n C (L' := [(2, .int x2), (1, .int x1), (0, .ref v0)]) (by decide) rfl dX1_dropLike_3 ?_
  exact s_weak [0, 1, 2] rfl (sm_Found_dropLike_4 C hV hR v0 (x1, x2))
set_option maxRecDepth 20000 in
theorem met_Found_dropLike (v0 : Nat) : MV ZF yX1_dropLike cX1_dropLike 3 rm_Found_dropLike [.ref v0] (Found_dropLike v0) :=
  mv_of (L0 := [(0, .ref v0)]) (by decide +kernel) (Nat.le_of_ble_eq_true rfl) rfl (fun G ad K C hV hR => sm_Found_dropLike C hV hR v0)

noncomputable def Found_fill (v0 : Nat) (v1 : Nat) (v2 : Int32) : MM Unit :=
  mb (gI ZF 2 3 v0) fun x1 =>
  if x1 = v2 then
  mp ()
  else
  mb (vc ZF 2 v0 (Found_gather v0 v1 v2)) fun _ =>
  mb (vc ZF 2 v0 (Found_sort v0)) fun _ =>
  mb (vc ZF 2 v0 (Found_dropLike v0)) fun _ =>
  mb (pI ZF 2 3 v0 v2) fun _ =>
  mp ()
set_option maxRecDepth 20000 in
theorem sm_Found_fill {G : GT} {ad : Nat → Nat} {K : Unit → Dm → Prop} (C : Cx G rm_Found_fill cX1_fill 3 RX1) (hV : Vx G rm_Found_fill ad ZF (0, 0)) (hR : RtV G rm_Found_fill ad ZF (0, 0) cX1_fill K) (v0 : Nat) (v1 : Nat) (v2 : Int32) : Sm G rm_Found_fill ad ZF (0, 0) K 0 [(0, .ref v0), (1, .ref v1), (2, .int v2)] [] (Found_fill v0 v1 v2) := by
  unfold Found_fill
  refine s_aload_n C rfl dX1_fill_0 ?_
  refine s_getI C hV fl_X1_23 (fun _ _ _ => rfl) dX1_fill_1 (fun x1 => ?_)
  refine s_iload_n C rfl dX1_fill_4 ?_
  refine s_icmp_ne C 9 (by decide) dX1_fill_5 ?_ ?_
  · refine s_aload_n C rfl dX1_fill_9 ?_
    refine s_aload_n C rfl dX1_fill_10 ?_
    refine s_iload_n C rfl dX1_fill_11 ?_
    refine s_wV C hV lv_X1_26 (st := []) (met_Found_gather v0 v1 v2) rf_Found_fill_Found_gather rfl rfl (Nat.le_of_ble_eq_true rfl) dX1_fill_12 ?_
    refine s_aload_n C rfl dX1_fill_15 ?_
    refine s_wV C hV lv_X1_30 (st := []) (met_Found_sort v0) rf_Found_fill_Found_sort rfl rfl (Nat.le_of_ble_eq_true rfl) dX1_fill_16 ?_
    refine s_aload_n C rfl dX1_fill_19 ?_
    refine s_wV C hV lv_X1_33 (st := []) (met_Found_dropLike v0) rf_Found_fill_Found_dropLike rfl rfl (Nat.le_of_ble_eq_true rfl) dX1_fill_20 ?_
    refine s_aload_n C rfl dX1_fill_23 ?_
    refine s_iload_n C rfl dX1_fill_24 ?_
    refine s_putI C hV fw_X1_23 rfl dX1_fill_25 ?_
    exact s_vret hR dX1_fill_28
  · exact s_vret hR dX1_fill_8
set_option maxRecDepth 20000 in
theorem met_Found_fill (v0 : Nat) (v1 : Nat) (v2 : Int32) : MV ZF yX1_fill cX1_fill 3 rm_Found_fill [.ref v0, .ref v1, .int v2] (Found_fill v0 v1 v2) :=
  mv_of (L0 := [(0, .ref v0), (1, .ref v1), (2, .int v2)]) (by decide +kernel) (Nat.le_of_ble_eq_true rfl) rfl (fun G ad K C hV hR => sm_Found_fill C hV hR v0 v1 v2)

noncomputable def Text_sum_74 (v0 : Nat) (v1 : Nat) (v3 : Int32) (t0 : Int32) (t1 : Int32) : MM ((Int32 × Int32) ⊕ Int32) :=
  ml (t0 + t1) fun x10 =>
  ml (v3 + (1 : Int32)) fun x11 =>
  mp (.inl (x10, x11))
noncomputable def Text_sum_56 (v0 : Nat) (v1 : Nat) (v2 : Int32) (v3 : Int32) (v4 : Int32) (t0 : Int32) : MM ((Int32 × Int32) ⊕ Int32) :=
  Text_sum_74 v0 v1 v3 v2 (if (v4 &&& (1 : Int32)) = 0 then t0 else (-t0))
noncomputable def Text_sum_7_b (v0 : Nat) (v1 : Nat) (v2 : Int32) (v3 : Int32) : MM ((Int32 × Int32) ⊕ Int32) :=
  mb (gI ZF 9 1 v0) fun x3 =>
  if x3 ≤ v3 then
  mr (
  mp v2)
  else
  mb (gR ZF 9 0 v0) fun x4 =>
  mb (aI ZF 23 x4 v3) fun x5 =>
  ml (x5 >>> ((8 : Int32) &&& 31)) fun x6 =>
  if (2 : Int32) ≤ x6 then
  mb (gR ZF 9 0 v0) fun x7 =>
  mb (aI ZF 23 x7 v3) fun x8 =>
  mb (aI ZF 23 v1 (x8 &&& (7 : Int32))) fun x9 =>
  Text_sum_56 v0 v1 v2 v3 x6 x9
  else
  mb (gR ZF 9 0 v0) fun x12 =>
  mb (aI ZF 23 x12 v3) fun x13 =>
  Text_sum_56 v0 v1 v2 v3 x6 (x13 &&& (255 : Int32))
noncomputable def Text_sum_7 (v0 : Nat) (v1 : Nat) (s : (Int32 × Int32)) : MM Int32 := lo (fun (s : (Int32 × Int32)) => Text_sum_7_b v0 v1 s.1 s.2) s
noncomputable def Text_sum (v0 : Nat) (v1 : Nat) : MM Int32 :=
  ml (0 : Int32) fun x1 =>
  mb (gI ZF 9 2 v0) fun x2 =>
  Text_sum_7 v0 v1 (x1, x2)
set_option maxRecDepth 20000 in
theorem sm_Text_sum_74 {G : GT} {ad : Nat → Nat} {K : Int32 → Dm → Prop} (C : Cx G rm_Text_sum cX8_sum 6 RX8) (hV : Vx G rm_Text_sum ad ZF (0, 0)) (hR : RtI G rm_Text_sum ad ZF (0, 0) cX8_sum .int K) (v0 : Nat) (v1 : Nat) (v3 : Int32) (t0 : Int32) (t1 : Int32) : Sm G rm_Text_sum ad ZF (0, 0) (lpK G rm_Text_sum ad ZF (0, 0) 7 (fun (s : (Int32 × Int32)) => [(0, .ref v0), (1, .ref v1), (2, .int s.1), (3, .int s.2)]) K) 74 [(0, .ref v0), (1, .ref v1), (3, .int v3)] [.int t1, .int t0] (Text_sum_74 v0 v1 v3 t0 t1) := by
  unfold Text_sum_74
  refine s_iadd C dX8_sum_74 ?_
  refine s_leti (fun x10 => ?_)
  refine s_istore_n C (L' := [(2, .int x10), (0, .ref v0), (1, .ref v1), (3, .int v3)]) (by decide) rfl dX8_sum_75 ?_
  refine s_iinc C (L' := fun x11 => [(3, .int x11), (2, .int x10), (0, .ref v0), (1, .ref v1)]) (1 : Int32) (by decide) rfl (by decide) (fun _ => rfl) dX8_sum_76 (fun x11 => ?_)
  refine s_goto C 7 (by decide) dX8_sum_79 ?_
  exact s_back [0, 1, 2, 3] (x10, x11) rfl
set_option maxRecDepth 20000 in
theorem sm_Text_sum_56 {G : GT} {ad : Nat → Nat} {K : Int32 → Dm → Prop} (C : Cx G rm_Text_sum cX8_sum 6 RX8) (hV : Vx G rm_Text_sum ad ZF (0, 0)) (hR : RtI G rm_Text_sum ad ZF (0, 0) cX8_sum .int K) (v0 : Nat) (v1 : Nat) (v2 : Int32) (v3 : Int32) (v4 : Int32) (t0 : Int32) : Sm G rm_Text_sum ad ZF (0, 0) (lpK G rm_Text_sum ad ZF (0, 0) 7 (fun (s : (Int32 × Int32)) => [(0, .ref v0), (1, .ref v1), (2, .int s.1), (3, .int s.2)]) K) 56 [(0, .ref v0), (1, .ref v1), (2, .int v2), (3, .int v3), (4, .int v4)] [.int t0] (Text_sum_56 v0 v1 v2 v3 v4 t0) := by
  unfold Text_sum_56
  refine s_istore C (L' := [(5, .int t0), (0, .ref v0), (1, .ref v1), (2, .int v2), (3, .int v3), (4, .int v4)]) (by decide) rfl dX8_sum_56 ?_
  refine s_iload_n C rfl dX8_sum_58 ?_
  refine s_iload C rfl dX8_sum_59 ?_
  refine s_iconst C (1 : Int32) (by decide) dX8_sum_61 ?_
  refine s_iand C dX8_sum_62 ?_
  refine s_ite (g := fun z => Text_sum_74 v0 v1 v3 v2 z) ?_
  refine s_if_ne C 71 (by decide) dX8_sum_63 ?_ ?_
  · refine s_iload C rfl dX8_sum_71 ?_
    refine s_ineg C dX8_sum_73 ?_
    exact s_weak [0, 1, 3] rfl (sm_Text_sum_74 C hV hR v0 v1 v3 v2 (-t0))
  · refine s_iload C rfl dX8_sum_66 ?_
    refine s_goto C 74 (by decide) dX8_sum_68 ?_
    exact s_weak [0, 1, 3] rfl (sm_Text_sum_74 C hV hR v0 v1 v3 v2 t0)
set_option maxRecDepth 20000 in
theorem sm_Text_sum_7_b {G : GT} {ad : Nat → Nat} {K : Int32 → Dm → Prop} (C : Cx G rm_Text_sum cX8_sum 6 RX8) (hV : Vx G rm_Text_sum ad ZF (0, 0)) (hR : RtI G rm_Text_sum ad ZF (0, 0) cX8_sum .int K) (v0 : Nat) (v1 : Nat) (v2 : Int32) (v3 : Int32) : Sm G rm_Text_sum ad ZF (0, 0) (lpK G rm_Text_sum ad ZF (0, 0) 7 (fun (s : (Int32 × Int32)) => [(0, .ref v0), (1, .ref v1), (2, .int s.1), (3, .int s.2)]) K) 7 [(0, .ref v0), (1, .ref v1), (2, .int v2), (3, .int v3)] [] (Text_sum_7_b v0 v1 v2 v3) := by
  unfold Text_sum_7_b
  refine s_iload_n C rfl dX8_sum_7 ?_
  refine s_aload_n C rfl dX8_sum_8 ?_
  refine s_getI C hV fl_X8_15 (fun _ _ _ => rfl) dX8_sum_9 (fun x3 => ?_)
  refine s_icmp_ge C 82 (by decide) dX8_sum_12 ?_ ?_
  · refine s_exit ?_
    refine s_iload_n C rfl dX8_sum_82 ?_
    exact s_ireti hR dX8_sum_83
  · refine s_aload_n C rfl dX8_sum_15 ?_
    refine s_getR C hV fl_X8_9 (fun _ _ _ => rfl) dX8_sum_16 (fun x4 => ?_)
    refine s_iload_n C rfl dX8_sum_19 ?_
    refine s_iaload C hV dX8_sum_20 (fun x5 => ?_)
    refine s_bipush C (8 : Int32) (by decide) dX8_sum_21 ?_
    refine s_ishr C dX8_sum_23 ?_
    refine s_leti (fun x6 => ?_)
    refine s_istore C (L' := [(4, .int x6), (0, .ref v0), (1, .ref v1), (2, .int v2), (3, .int v3)]) (by decide) rfl dX8_sum_24 ?_
    refine s_iload C rfl dX8_sum_26 ?_
    refine s_iconst C (2 : Int32) (by decide) dX8_sum_28 ?_
    refine s_icmp_ge C 45 (by decide) dX8_sum_29 ?_ ?_
    · refine s_aload_n C rfl dX8_sum_45 ?_
      refine s_aload_n C rfl dX8_sum_46 ?_
      refine s_getR C hV fl_X8_9 (fun _ _ _ => rfl) dX8_sum_47 (fun x7 => ?_)
      refine s_iload_n C rfl dX8_sum_50 ?_
      refine s_iaload C hV dX8_sum_51 (fun x8 => ?_)
      refine s_bipush C (7 : Int32) (by decide) dX8_sum_52 ?_
      refine s_iand C dX8_sum_54 ?_
      refine s_iaload C hV dX8_sum_55 (fun x9 => ?_)
      exact s_weak [0, 1, 2, 3, 4] rfl (sm_Text_sum_56 C hV hR v0 v1 v2 v3 x6 x9)
    · refine s_aload_n C rfl dX8_sum_32 ?_
      refine s_getR C hV fl_X8_9 (fun _ _ _ => rfl) dX8_sum_33 (fun x12 => ?_)
      refine s_iload_n C rfl dX8_sum_36 ?_
      refine s_iaload C hV dX8_sum_37 (fun x13 => ?_)
      refine s_sipush C (255 : Int32) (by decide) dX8_sum_38 ?_
      refine s_iand C dX8_sum_41 ?_
      refine s_goto C 56 (by decide) dX8_sum_42 ?_
      exact s_weak [0, 1, 2, 3, 4] rfl (sm_Text_sum_56 C hV hR v0 v1 v2 v3 x6 (x13 &&& (255 : Int32)))
set_option maxRecDepth 20000 in
theorem sm_Text_sum_7 {G : GT} {ad : Nat → Nat} {K : Int32 → Dm → Prop} (C : Cx G rm_Text_sum cX8_sum 6 RX8) (hV : Vx G rm_Text_sum ad ZF (0, 0)) (hR : RtI G rm_Text_sum ad ZF (0, 0) cX8_sum .int K) (v0 : Nat) (v1 : Nat) (s : (Int32 × Int32)) : Sm G rm_Text_sum ad ZF (0, 0) K 7 ((fun (s : (Int32 × Int32)) => [(0, .ref v0), (1, .ref v1), (2, .int s.1), (3, .int s.2)]) s) [] (Text_sum_7 v0 v1 s) :=
  s_loop (en := (fun (s : (Int32 × Int32)) => [(0, .ref v0), (1, .ref v1), (2, .int s.1), (3, .int s.2)])) (fun s => sm_Text_sum_7_b C hV hR v0 v1 s.1 s.2) s
set_option maxRecDepth 20000 in
theorem sm_Text_sum {G : GT} {ad : Nat → Nat} {K : Int32 → Dm → Prop} (C : Cx G rm_Text_sum cX8_sum 6 RX8) (hV : Vx G rm_Text_sum ad ZF (0, 0)) (hR : RtI G rm_Text_sum ad ZF (0, 0) cX8_sum .int K) (v0 : Nat) (v1 : Nat) : Sm G rm_Text_sum ad ZF (0, 0) K 0 [(0, .ref v0), (1, .ref v1)] [] (Text_sum v0 v1) := by
  unfold Text_sum
  refine s_iconst C (0 : Int32) (by decide) dX8_sum_0 ?_
  refine s_leti (fun x1 => ?_)
  refine s_istore_n C (L' := [(2, .int x1), (0, .ref v0), (1, .ref v1)]) (by decide) rfl dX8_sum_1 ?_
  refine s_aload_n C rfl dX8_sum_2 ?_
  refine s_getI C hV fl_X8_19 (fun _ _ _ => rfl) dX8_sum_3 (fun x2 => ?_)
  refine s_istore_n C (L' := [(3, .int x2), (2, .int x1), (0, .ref v0), (1, .ref v1)]) (by decide) rfl dX8_sum_6 ?_
  exact s_weak [0, 1, 2, 3] rfl (sm_Text_sum_7 C hV hR v0 v1 (x1, x2))
set_option maxRecDepth 20000 in
theorem met_Text_sum (v0 : Nat) (v1 : Nat) : MI ZF yX8_sum cX8_sum 6 .int rm_Text_sum [.ref v0, .ref v1] (Text_sum v0 v1) :=
  mi_of (L0 := [(0, .ref v0), (1, .ref v1)]) (by decide +kernel) (Nat.le_of_ble_eq_true rfl) rfl (fun G ad K C hV hR => sm_Text_sum C hV hR v0 v1)

noncomputable def Main_pack_4_b (v0 : Nat) (v1 : Int64) (v3 : Int32) : MM ((Int64 × Int32) ⊕ Int64) :=
  mb (al ZF 23 v0) fun x3 =>
  if x3 ≤ v3 then
  mr (
  mp v1)
  else
  mb (aI ZF 23 v0 v3) fun x4 =>
  ml (v1 ||| ((x4.toInt64) <<< ((((8 : Int32) * v3)).toInt64 &&& 63))) fun x5 =>
  ml (v3 + (1 : Int32)) fun x6 =>
  mp (.inl (x5, x6))
noncomputable def Main_pack_4 (v0 : Nat) (s : (Int64 × Int32)) : MM Int64 := lo (fun (s : (Int64 × Int32)) => Main_pack_4_b v0 s.1 s.2) s
noncomputable def Main_pack (v0 : Nat) : MM Int64 :=
  ml (0 : Int64) fun x1 =>
  ml (0 : Int32) fun x2 =>
  Main_pack_4 v0 (x1, x2)
set_option maxRecDepth 20000 in
theorem sm_Main_pack_4_b {G : GT} {ad : Nat → Nat} {K : Int64 → Dm → Prop} (C : Cx G rm_Main_pack cX10_pack 4 RX10) (hV : Vx G rm_Main_pack ad ZF (0, 0)) (hR : RtL G rm_Main_pack ad ZF (0, 0) cX10_pack K) (v0 : Nat) (v1 : Int64) (v3 : Int32) : Sm G rm_Main_pack ad ZF (0, 0) (lpK G rm_Main_pack ad ZF (0, 0) 4 (fun (s : (Int64 × Int32)) => [(0, .ref v0), (1, .long s.1), (3, .int s.2)]) K) 4 [(0, .ref v0), (1, .long v1), (3, .int v3)] [] (Main_pack_4_b v0 v1 v3) := by
  unfold Main_pack_4_b
  refine s_iload_n C rfl dX10_pack_4 ?_
  refine s_aload_n C rfl dX10_pack_5 ?_
  refine s_alenI C hV dX10_pack_6 (fun x3 => ?_)
  refine s_icmp_ge C 28 (by decide) dX10_pack_7 ?_ ?_
  · refine s_exit ?_
    refine s_lload_n C rfl dX10_pack_28 ?_
    exact s_lret hR dX10_pack_29
  · refine s_lload_n C rfl dX10_pack_10 ?_
    refine s_aload_n C rfl dX10_pack_11 ?_
    refine s_iload_n C rfl dX10_pack_12 ?_
    refine s_iaload C hV dX10_pack_13 (fun x4 => ?_)
    refine s_i2l C dX10_pack_14 ?_
    refine s_bipush C (8 : Int32) (by decide) dX10_pack_15 ?_
    refine s_iload_n C rfl dX10_pack_17 ?_
    refine s_imul C dX10_pack_18 ?_
    refine s_lshl C dX10_pack_19 ?_
    refine s_lor C dX10_pack_20 ?_
    refine s_letl (fun x5 => ?_)
    refine s_lstore_n C (L' := [(1, .long x5), (0, .ref v0), (3, .int v3)]) (by decide) rfl dX10_pack_21 ?_
    refine s_iinc C (L' := fun x6 => [(3, .int x6), (1, .long x5), (0, .ref v0)]) (1 : Int32) (by decide) rfl (by decide) (fun _ => rfl) dX10_pack_22 (fun x6 => ?_)
    refine s_goto C 4 (by decide) dX10_pack_25 ?_
    exact s_back [0, 1, 3] (x5, x6) rfl
set_option maxRecDepth 20000 in
theorem sm_Main_pack_4 {G : GT} {ad : Nat → Nat} {K : Int64 → Dm → Prop} (C : Cx G rm_Main_pack cX10_pack 4 RX10) (hV : Vx G rm_Main_pack ad ZF (0, 0)) (hR : RtL G rm_Main_pack ad ZF (0, 0) cX10_pack K) (v0 : Nat) (s : (Int64 × Int32)) : Sm G rm_Main_pack ad ZF (0, 0) K 4 ((fun (s : (Int64 × Int32)) => [(0, .ref v0), (1, .long s.1), (3, .int s.2)]) s) [] (Main_pack_4 v0 s) :=
  s_loop (en := (fun (s : (Int64 × Int32)) => [(0, .ref v0), (1, .long s.1), (3, .int s.2)])) (fun s => sm_Main_pack_4_b C hV hR v0 s.1 s.2) s
set_option maxRecDepth 20000 in
theorem sm_Main_pack {G : GT} {ad : Nat → Nat} {K : Int64 → Dm → Prop} (C : Cx G rm_Main_pack cX10_pack 4 RX10) (hV : Vx G rm_Main_pack ad ZF (0, 0)) (hR : RtL G rm_Main_pack ad ZF (0, 0) cX10_pack K) (v0 : Nat) : Sm G rm_Main_pack ad ZF (0, 0) K 0 [(0, .ref v0)] [] (Main_pack v0) := by
  unfold Main_pack
  refine s_lconst C (0 : Int64) (by decide) dX10_pack_0 ?_
  refine s_letl (fun x1 => ?_)
  refine s_lstore_n C (L' := [(1, .long x1), (0, .ref v0)]) (by decide) rfl dX10_pack_1 ?_
  refine s_iconst C (0 : Int32) (by decide) dX10_pack_2 ?_
  refine s_leti (fun x2 => ?_)
  refine s_istore_n C (L' := [(3, .int x2), (1, .long x1), (0, .ref v0)]) (by decide) rfl dX10_pack_3 ?_
  exact s_weak [0, 1, 3] rfl (sm_Main_pack_4 C hV hR v0 (x1, x2))
set_option maxRecDepth 20000 in
theorem met_Main_pack (v0 : Nat) : ML ZF yX10_pack cX10_pack 4 rm_Main_pack [.ref v0] (Main_pack v0) :=
  ml_of (L0 := [(0, .ref v0)]) (by decide +kernel) (Nat.le_of_ble_eq_true rfl) rfl (fun G ad K C hV hR => sm_Main_pack C hV hR v0)

noncomputable def Heal_after_89 (v0 : Nat) (v4 : Int32) (v5 : Int32) : MM (Int32 ⊕ Int64) :=
  ml (v5 + (1 : Int32)) fun x8 =>
  mp (.inl x8)
noncomputable def Heal_after_88 (v0 : Nat) (v4 : Int32) (v5 : Int32) (t0 : Nat) (t1 : Int32) (t2 : Int32) : MM (Int32 ⊕ Int64) :=
  mb (sI ZF t0 t1 t2) fun _ =>
  Heal_after_89 v0 v4 v5
noncomputable def Heal_after_11_b (v0 : Nat) (v4 : Int32) (v5 : Int32) : MM (Int32 ⊕ Int64) :=
  if v4 ≤ v5 then
  mr (
  mb (gR ZF 3 2 v0) fun x2 =>
  mb ((Main_pack x2)) fun r3 =>
  mp r3)
  else
  mb (gR ZF 3 0 v0) fun x4 =>
  mb (aR ZF 27 x4 v5) fun x5 =>
  mb (gR ZF 3 2 v0) fun x6 =>
  mb (vc ZF 9 x5 (Text_isTrue x5 x6)) fun r7 =>
  if r7 = 0 then
  Heal_after_89 v0 v4 v5
  else
  mb (gR ZF 3 2 v0) fun x9 =>
  mb (vc ZF 9 x5 (Text_sum x5 x9)) fun r10 =>
  mb (gR ZF 3 2 v0) fun x11 =>
  mb (gI ZF 9 3 x5) fun x12 =>
  mb ((Main_isFigure r10)) fun r13 =>
  if r13 = 0 then
  mb (gR ZF 3 2 v0) fun x14 =>
  mb (gI ZF 9 3 x5) fun x15 =>
  mb (aI ZF 23 x14 (x15 &&& (7 : Int32))) fun x16 =>
  Heal_after_88 v0 v4 v5 x11 (x12 &&& (7 : Int32)) x16
  else
  Heal_after_88 v0 v4 v5 x11 (x12 &&& (7 : Int32)) r10
noncomputable def Heal_after_11 (v0 : Nat) (v4 : Int32) (s : Int32) : MM Int64 := lo (fun (s : Int32) => Heal_after_11_b v0 v4 s) s
noncomputable def Heal_after (v0 : Nat) (v1 : Int64) (v3 : Int32) (v4 : Int32) : MM Int64 :=
  mb (gR ZF 3 2 v0) fun x1 =>
  mb ((Main_unpack v1 x1)) fun _ =>
  Heal_after_11 v0 v4 v3
set_option maxRecDepth 20000 in
theorem sm_Heal_after_89 {G : GT} {ad : Nat → Nat} {K : Int64 → Dm → Prop} (C : Cx G rm_Heal_after cX2_after 8 RX2) (hV : Vx G rm_Heal_after ad ZF (0, 0)) (hR : RtL G rm_Heal_after ad ZF (0, 0) cX2_after K) (v0 : Nat) (v4 : Int32) (v5 : Int32) : Sm G rm_Heal_after ad ZF (0, 0) (lpK G rm_Heal_after ad ZF (0, 0) 11 (fun (s : Int32) => [(0, .ref v0), (4, .int v4), (5, .int s)]) K) 89 [(0, .ref v0), (4, .int v4), (5, .int v5)] [] (Heal_after_89 v0 v4 v5) := by
  unfold Heal_after_89
  refine s_iinc C (L' := fun x8 => [(5, .int x8), (0, .ref v0), (4, .int v4)]) (1 : Int32) (by decide) rfl (by decide) (fun _ => rfl) dX2_after_89 (fun x8 => ?_)
  refine s_goto C 11 (by decide) dX2_after_92 ?_
  exact s_back [0, 4, 5] x8 rfl
set_option maxRecDepth 20000 in
theorem sm_Heal_after_88 {G : GT} {ad : Nat → Nat} {K : Int64 → Dm → Prop} (C : Cx G rm_Heal_after cX2_after 8 RX2) (hV : Vx G rm_Heal_after ad ZF (0, 0)) (hR : RtL G rm_Heal_after ad ZF (0, 0) cX2_after K) (v0 : Nat) (v4 : Int32) (v5 : Int32) (t0 : Nat) (t1 : Int32) (t2 : Int32) : Sm G rm_Heal_after ad ZF (0, 0) (lpK G rm_Heal_after ad ZF (0, 0) 11 (fun (s : Int32) => [(0, .ref v0), (4, .int v4), (5, .int s)]) K) 88 [(0, .ref v0), (4, .int v4), (5, .int v5)] [.int t2, .int t1, .ref t0] (Heal_after_88 v0 v4 v5 t0 t1 t2) := by
  unfold Heal_after_88
  refine s_iastore C hV dX2_after_88 ?_
  exact s_weak [0, 4, 5] rfl (sm_Heal_after_89 C hV hR v0 v4 v5)
set_option maxRecDepth 20000 in
theorem sm_Heal_after_11_b {G : GT} {ad : Nat → Nat} {K : Int64 → Dm → Prop} (C : Cx G rm_Heal_after cX2_after 8 RX2) (hV : Vx G rm_Heal_after ad ZF (0, 0)) (hR : RtL G rm_Heal_after ad ZF (0, 0) cX2_after K) (v0 : Nat) (v4 : Int32) (v5 : Int32) : Sm G rm_Heal_after ad ZF (0, 0) (lpK G rm_Heal_after ad ZF (0, 0) 11 (fun (s : Int32) => [(0, .ref v0), (4, .int v4), (5, .int s)]) K) 11 [(0, .ref v0), (4, .int v4), (5, .int v5)] [] (Heal_after_11_b v0 v4 v5) := by
  unfold Heal_after_11_b
  refine s_iload C rfl dX2_after_11 ?_
  refine s_iload C rfl dX2_after_13 ?_
  refine s_icmp_ge C 95 (by decide) dX2_after_15 ?_ ?_
  · refine s_exit ?_
    refine s_aload_n C rfl dX2_after_95 ?_
    refine s_getR C hV fl_X2_21 (fun _ _ _ => rfl) dX2_after_96 (fun x2 => ?_)
    refine s_uLN C hV ls_X2_45 (st := []) (met_Main_pack x2) rf_Heal_after_Main_pack rfl rfl (Nat.le_of_ble_eq_true rfl) dX2_after_99 (fun r3 => ?_)
    exact s_lret hR dX2_after_102
  · refine s_aload_n C rfl dX2_after_18 ?_
    refine s_getR C hV fl_X2_11 (fun _ _ _ => rfl) dX2_after_19 (fun x4 => ?_)
    refine s_iload C rfl dX2_after_22 ?_
    refine s_aaloadT C hV dX2_after_24 (fun x5 => ?_)
    refine s_astore C (L' := [(6, .ref x5), (0, .ref v0), (4, .int v4), (5, .int v5)]) (by decide) rfl dX2_after_25 ?_
    refine s_aload C rfl dX2_after_27 ?_
    refine s_aload_n C rfl dX2_after_29 ?_
    refine s_getR C hV fl_X2_21 (fun _ _ _ => rfl) dX2_after_30 (fun x6 => ?_)
    refine s_wI C hV lv_X2_30 (st := []) (met_Text_isTrue x5 x6) rf_Heal_after_Text_isTrue rfl rfl (Nat.le_of_ble_eq_true rfl) dX2_after_33 (fun r7 => ?_)
    refine s_if_eq C 89 (by decide) dX2_after_36 ?_ ?_
    · exact s_weak [0, 4, 5] rfl (sm_Heal_after_89 C hV hR v0 v4 v5)
    · refine s_aload C rfl dX2_after_39 ?_
      refine s_aload_n C rfl dX2_after_41 ?_
      refine s_getR C hV fl_X2_21 (fun _ _ _ => rfl) dX2_after_42 (fun x9 => ?_)
      refine s_wI C hV lv_X2_34 (st := []) (met_Text_sum x5 x9) rf_Heal_after_Text_sum rfl rfl (Nat.le_of_ble_eq_true rfl) dX2_after_45 (fun r10 => ?_)
      refine s_istore C (L' := [(7, .int r10), (6, .ref x5), (0, .ref v0), (4, .int v4), (5, .int v5)]) (by decide) rfl dX2_after_48 ?_
      refine s_aload_n C rfl dX2_after_50 ?_
      refine s_getR C hV fl_X2_21 (fun _ _ _ => rfl) dX2_after_51 (fun x11 => ?_)
      refine s_aload C rfl dX2_after_54 ?_
      refine s_getI C hV fl_X2_38 (fun _ _ _ => rfl) dX2_after_56 (fun x12 => ?_)
      refine s_bipush C (7 : Int32) (by decide) dX2_after_59 ?_
      refine s_iand C dX2_after_61 ?_
      refine s_iload C rfl dX2_after_62 ?_
      refine s_uIN C hV ls_X2_41 (st := [.int (x12 &&& (7 : Int32)), .ref x11]) (met_Main_isFigure r10) rf_Heal_after_Main_isFigure rfl rfl (Nat.le_of_ble_eq_true rfl) dX2_after_64 (fun r13 => ?_)
      refine s_if_eq C 75 (by decide) dX2_after_67 ?_ ?_
      · refine s_aload_n C rfl dX2_after_75 ?_
        refine s_getR C hV fl_X2_21 (fun _ _ _ => rfl) dX2_after_76 (fun x14 => ?_)
        refine s_aload C rfl dX2_after_79 ?_
        refine s_getI C hV fl_X2_38 (fun _ _ _ => rfl) dX2_after_81 (fun x15 => ?_)
        refine s_bipush C (7 : Int32) (by decide) dX2_after_84 ?_
        refine s_iand C dX2_after_86 ?_
        refine s_iaload C hV dX2_after_87 (fun x16 => ?_)
        exact s_weak [0, 4, 5] rfl (sm_Heal_after_88 C hV hR v0 v4 v5 x11 (x12 &&& (7 : Int32)) x16)
      · refine s_iload C rfl dX2_after_70 ?_
        refine s_goto C 88 (by decide) dX2_after_72 ?_
        exact s_weak [0, 4, 5] rfl (sm_Heal_after_88 C hV hR v0 v4 v5 x11 (x12 &&& (7 : Int32)) r10)
set_option maxRecDepth 20000 in
theorem sm_Heal_after_11 {G : GT} {ad : Nat → Nat} {K : Int64 → Dm → Prop} (C : Cx G rm_Heal_after cX2_after 8 RX2) (hV : Vx G rm_Heal_after ad ZF (0, 0)) (hR : RtL G rm_Heal_after ad ZF (0, 0) cX2_after K) (v0 : Nat) (v4 : Int32) (s : Int32) : Sm G rm_Heal_after ad ZF (0, 0) K 11 ((fun (s : Int32) => [(0, .ref v0), (4, .int v4), (5, .int s)]) s) [] (Heal_after_11 v0 v4 s) :=
  s_loop (en := (fun (s : Int32) => [(0, .ref v0), (4, .int v4), (5, .int s)])) (fun s => sm_Heal_after_11_b C hV hR v0 v4 s) s
set_option maxRecDepth 20000 in
theorem sm_Heal_after {G : GT} {ad : Nat → Nat} {K : Int64 → Dm → Prop} (C : Cx G rm_Heal_after cX2_after 8 RX2) (hV : Vx G rm_Heal_after ad ZF (0, 0)) (hR : RtL G rm_Heal_after ad ZF (0, 0) cX2_after K) (v0 : Nat) (v1 : Int64) (v3 : Int32) (v4 : Int32) : Sm G rm_Heal_after ad ZF (0, 0) K 0 [(0, .ref v0), (1, .long v1), (3, .int v3), (4, .int v4)] [] (Heal_after v0 v1 v3 v4) := by
  unfold Heal_after
  refine s_lload_n C rfl dX2_after_0 ?_
  refine s_aload_n C rfl dX2_after_1 ?_
  refine s_getR C hV fl_X2_21 (fun _ _ _ => rfl) dX2_after_2 (fun x1 => ?_)
  refine s_uVN C hV ls_X2_26 (st := []) (met_Main_unpack v1 x1) rf_Heal_after_Main_unpack rfl rfl (Nat.le_of_ble_eq_true rfl) dX2_after_5 ?_
  refine s_iload_n C rfl dX2_after_8 ?_
  refine s_istore C (L' := [(5, .int v3), (0, .ref v0), (1, .long v1), (3, .int v3), (4, .int v4)]) (by decide) rfl dX2_after_9 ?_
  exact s_weak [0, 4, 5] rfl (sm_Heal_after_11 C hV hR v0 v4 v3)
set_option maxRecDepth 20000 in
theorem met_Heal_after (v0 : Nat) (v1 : Int64) (v3 : Int32) (v4 : Int32) : ML ZF yX2_after cX2_after 8 rm_Heal_after [.ref v0, .long v1, .int v3, .int v4] (Heal_after v0 v1 v3 v4) :=
  ml_of (L0 := [(0, .ref v0), (1, .long v1), (3, .int v3), (4, .int v4)]) (by decide +kernel) (Nat.le_of_ble_eq_true rfl) rfl (fun G ad K C hV hR => sm_Heal_after C hV hR v0 v1 v3 v4)

noncomputable def Heal_healed (v0 : Nat) (v1 : Int64) : MM Int64 :=
  mb (gI ZF 3 1 v0) fun x1 =>
  mb (vc ZF 3 v0 (Heal_after v0 v1 (0 : Int32) x1)) fun r2 =>
  mp r2
set_option maxRecDepth 20000 in
theorem sm_Heal_healed {G : GT} {ad : Nat → Nat} {K : Int64 → Dm → Prop} (C : Cx G rm_Heal_healed cX2_healed 3 RX2) (hV : Vx G rm_Heal_healed ad ZF (0, 0)) (hR : RtL G rm_Heal_healed ad ZF (0, 0) cX2_healed K) (v0 : Nat) (v1 : Int64) : Sm G rm_Heal_healed ad ZF (0, 0) K 0 [(0, .ref v0), (1, .long v1)] [] (Heal_healed v0 v1) := by
  unfold Heal_healed
  refine s_aload_n C rfl dX2_healed_0 ?_
  refine s_lload_n C rfl dX2_healed_1 ?_
  refine s_iconst C (0 : Int32) (by decide) dX2_healed_2 ?_
  refine s_aload_n C rfl dX2_healed_3 ?_
  refine s_getI C hV fl_X2_17 (fun _ _ _ => rfl) dX2_healed_4 (fun x1 => ?_)
  refine s_wL C hV lv_X2_49 (st := []) (met_Heal_after v0 v1 (0 : Int32) x1) rf_Heal_healed_Heal_after rfl rfl (Nat.le_of_ble_eq_true rfl) dX2_healed_7 (fun r2 => ?_)
  exact s_lret hR dX2_healed_10
set_option maxRecDepth 20000 in
theorem met_Heal_healed (v0 : Nat) (v1 : Int64) : ML ZF yX2_healed cX2_healed 3 rm_Heal_healed [.ref v0, .long v1] (Heal_healed v0 v1) :=
  ml_of (L0 := [(0, .ref v0), (1, .long v1)]) (by decide +kernel) (Nat.le_of_ble_eq_true rfl) rfl (fun G ad K C hV hR => sm_Heal_healed C hV hR v0 v1)

noncomputable def Heal_isSteady_55 (v0 : Nat) (v3 : Int64) (v7 : Int32) (v8 : Int64) : MM ((Int64 × Int32) ⊕ Int32) :=
  ml (v7 + (1 : Int32)) fun x4 =>
  mp (.inl (v8, x4))
noncomputable def Heal_isSteady_6_b (v0 : Nat) (v3 : Int64) (v5 : Int64) (v7 : Int32) : MM ((Int64 × Int32) ⊕ Int32) :=
  mb (gI ZF 3 1 v0) fun x2 =>
  if x2 ≤ v7 then
  mr (
  mz (1 : Int32))
  else
  mb (vc ZF 3 v0 (Heal_after v0 v5 v7 (v7 + (1 : Int32)))) fun r3 =>
  if r3 = v5 then
  Heal_isSteady_55 v0 v3 v7 r3
  else
  mb (gI ZF 3 1 v0) fun x5 =>
  mb (vc ZF 3 v0 (Heal_after v0 r3 (0 : Int32) x5)) fun r6 =>
  if r6 = v3 then
  Heal_isSteady_55 v0 v3 v7 r3
  else
  mr (
  mz (0 : Int32))
noncomputable def Heal_isSteady_6 (v0 : Nat) (v3 : Int64) (s : (Int64 × Int32)) : MM Int32 := lo (fun (s : (Int64 × Int32)) => Heal_isSteady_6_b v0 v3 s.1 s.2) s
noncomputable def Heal_isSteady (v0 : Nat) (v1 : Int64) (v3 : Int64) : MM Int32 :=
  ml (0 : Int32) fun x1 =>
  Heal_isSteady_6 v0 v3 (v1, x1)
set_option maxRecDepth 20000 in
theorem sm_Heal_isSteady_55 {G : GT} {ad : Nat → Nat} {K : Int32 → Dm → Prop} (C : Cx G rm_Heal_isSteady cX2_isSteady 10 RX2) (hV : Vx G rm_Heal_isSteady ad ZF (0, 0)) (hR : RtI G rm_Heal_isSteady ad ZF (0, 0) cX2_isSteady .boolean K) (v0 : Nat) (v3 : Int64) (v7 : Int32) (v8 : Int64) : Sm G rm_Heal_isSteady ad ZF (0, 0) (lpK G rm_Heal_isSteady ad ZF (0, 0) 6 (fun (s : (Int64 × Int32)) => [(0, .ref v0), (3, .long v3), (5, .long s.1), (7, .int s.2)]) K) 55 [(0, .ref v0), (3, .long v3), (7, .int v7), (8, .long v8)] [] (Heal_isSteady_55 v0 v3 v7 v8) := by
  unfold Heal_isSteady_55
  refine s_lload C rfl dX2_isSteady_55 ?_
  refine s_lstore C (L' := [(5, .long v8), (0, .ref v0), (3, .long v3), (7, .int v7), (8, .long v8)]) (by decide) rfl dX2_isSteady_57 ?_
  refine s_iinc C (L' := fun x4 => [(7, .int x4), (5, .long v8), (0, .ref v0), (3, .long v3), (8, .long v8)]) (1 : Int32) (by decide) rfl (by decide) (fun _ => rfl) dX2_isSteady_59 (fun x4 => ?_)
  refine s_goto C 6 (by decide) dX2_isSteady_62 ?_
  exact s_back [0, 3, 5, 7] (v8, x4) rfl
set_option maxRecDepth 20000 in
theorem sm_Heal_isSteady_6_b {G : GT} {ad : Nat → Nat} {K : Int32 → Dm → Prop} (C : Cx G rm_Heal_isSteady cX2_isSteady 10 RX2) (hV : Vx G rm_Heal_isSteady ad ZF (0, 0)) (hR : RtI G rm_Heal_isSteady ad ZF (0, 0) cX2_isSteady .boolean K) (v0 : Nat) (v3 : Int64) (v5 : Int64) (v7 : Int32) : Sm G rm_Heal_isSteady ad ZF (0, 0) (lpK G rm_Heal_isSteady ad ZF (0, 0) 6 (fun (s : (Int64 × Int32)) => [(0, .ref v0), (3, .long v3), (5, .long s.1), (7, .int s.2)]) K) 6 [(0, .ref v0), (3, .long v3), (5, .long v5), (7, .int v7)] [] (Heal_isSteady_6_b v0 v3 v5 v7) := by
  unfold Heal_isSteady_6_b
  refine s_iload C rfl dX2_isSteady_6 ?_
  refine s_aload_n C rfl dX2_isSteady_8 ?_
  refine s_getI C hV fl_X2_17 (fun _ _ _ => rfl) dX2_isSteady_9 (fun x2 => ?_)
  refine s_icmp_ge C 65 (by decide) dX2_isSteady_12 ?_ ?_
  · refine s_exit ?_
    refine s_iconst C (1 : Int32) (by decide) dX2_isSteady_65 ?_
    exact s_iretz hR dX2_isSteady_66
  · refine s_aload_n C rfl dX2_isSteady_15 ?_
    refine s_lload C rfl dX2_isSteady_16 ?_
    refine s_iload C rfl dX2_isSteady_18 ?_
    refine s_iload C rfl dX2_isSteady_20 ?_
    refine s_iconst C (1 : Int32) (by decide) dX2_isSteady_22 ?_
    refine s_iadd C dX2_isSteady_23 ?_
    refine s_wL C hV lv_X2_49 (st := []) (met_Heal_after v0 v5 v7 (v7 + (1 : Int32))) rf_Heal_isSteady_Heal_after rfl rfl (Nat.le_of_ble_eq_true rfl) dX2_isSteady_24 (fun r3 => ?_)
    refine s_lstore C (L' := [(8, .long r3), (0, .ref v0), (3, .long v3), (5, .long v5), (7, .int v7)]) (by decide) rfl dX2_isSteady_27 ?_
    refine s_lload C rfl dX2_isSteady_29 ?_
    refine s_lload C rfl dX2_isSteady_31 ?_
    refine s_lcmp_eq C 55 (by decide) dX2_isSteady_33 dX2_isSteady_34 ?_ ?_
    · exact s_weak [0, 3, 7, 8] rfl (sm_Heal_isSteady_55 C hV hR v0 v3 v7 r3)
    · refine s_aload_n C rfl dX2_isSteady_37 ?_
      refine s_lload C rfl dX2_isSteady_38 ?_
      refine s_iconst C (0 : Int32) (by decide) dX2_isSteady_40 ?_
      refine s_aload_n C rfl dX2_isSteady_41 ?_
      refine s_getI C hV fl_X2_17 (fun _ _ _ => rfl) dX2_isSteady_42 (fun x5 => ?_)
      refine s_wL C hV lv_X2_49 (st := []) (met_Heal_after v0 r3 (0 : Int32) x5) rf_Heal_isSteady_Heal_after rfl rfl (Nat.le_of_ble_eq_true rfl) dX2_isSteady_45 (fun r6 => ?_)
      refine s_lload_n C rfl dX2_isSteady_48 ?_
      refine s_lcmp_eq C 55 (by decide) dX2_isSteady_49 dX2_isSteady_50 ?_ ?_
      · exact s_weak [0, 3, 7, 8] rfl (sm_Heal_isSteady_55 C hV hR v0 v3 v7 r3)
      · refine s_exit ?_
        refine s_iconst C (0 : Int32) (by decide) dX2_isSteady_53 ?_
        exact s_iretz hR dX2_isSteady_54
set_option maxRecDepth 20000 in
theorem sm_Heal_isSteady_6 {G : GT} {ad : Nat → Nat} {K : Int32 → Dm → Prop} (C : Cx G rm_Heal_isSteady cX2_isSteady 10 RX2) (hV : Vx G rm_Heal_isSteady ad ZF (0, 0)) (hR : RtI G rm_Heal_isSteady ad ZF (0, 0) cX2_isSteady .boolean K) (v0 : Nat) (v3 : Int64) (s : (Int64 × Int32)) : Sm G rm_Heal_isSteady ad ZF (0, 0) K 6 ((fun (s : (Int64 × Int32)) => [(0, .ref v0), (3, .long v3), (5, .long s.1), (7, .int s.2)]) s) [] (Heal_isSteady_6 v0 v3 s) :=
  s_loop (en := (fun (s : (Int64 × Int32)) => [(0, .ref v0), (3, .long v3), (5, .long s.1), (7, .int s.2)])) (fun s => sm_Heal_isSteady_6_b C hV hR v0 v3 s.1 s.2) s
set_option maxRecDepth 20000 in
theorem sm_Heal_isSteady {G : GT} {ad : Nat → Nat} {K : Int32 → Dm → Prop} (C : Cx G rm_Heal_isSteady cX2_isSteady 10 RX2) (hV : Vx G rm_Heal_isSteady ad ZF (0, 0)) (hR : RtI G rm_Heal_isSteady ad ZF (0, 0) cX2_isSteady .boolean K) (v0 : Nat) (v1 : Int64) (v3 : Int64) : Sm G rm_Heal_isSteady ad ZF (0, 0) K 0 [(0, .ref v0), (1, .long v1), (3, .long v3)] [] (Heal_isSteady v0 v1 v3) := by
  unfold Heal_isSteady
  refine s_lload_n C rfl dX2_isSteady_0 ?_
  refine s_lstore C (L' := [(5, .long v1), (0, .ref v0), (1, .long v1), (3, .long v3)]) (by decide) rfl dX2_isSteady_1 ?_
  refine s_iconst C (0 : Int32) (by decide) dX2_isSteady_3 ?_
  refine s_leti (fun x1 => ?_)
  refine s_istore C (L' := [(7, .int x1), (5, .long v1), (0, .ref v0), (1, .long v1), (3, .long v3)]) (by decide) rfl dX2_isSteady_4 ?_
  exact s_weak [0, 3, 5, 7] rfl (sm_Heal_isSteady_6 C hV hR v0 v3 (v1, x1))
set_option maxRecDepth 20000 in
theorem met_Heal_isSteady (v0 : Nat) (v1 : Int64) (v3 : Int64) : MI ZF yX2_isSteady cX2_isSteady 10 .boolean rm_Heal_isSteady [.ref v0, .long v1, .long v3] (Heal_isSteady v0 v1 v3) :=
  mi_of (L0 := [(0, .ref v0), (1, .long v1), (3, .long v3)]) (by decide +kernel) (Nat.le_of_ble_eq_true rfl) rfl (fun G ad K C hV hR => sm_Heal_isSteady C hV hR v0 v1 v3)

noncomputable def Act_sectorBits (v0 : Nat) : MM Int32 :=
  mb (gI ZF 1 0 v0) fun x1 =>
  if x1 = (1 : Int32) then
  mb (gI ZF 1 1 v0) fun x3 =>
  mb (gI ZF 1 3 v0) fun x4 =>
  mp (((1 : Int32) <<< (x3 &&& 31)) ||| ((1 : Int32) <<< (x4 &&& 31)))
  else
  mb (gI ZF 1 1 v0) fun x2 =>
  mp ((1 : Int32) <<< (x2 &&& 31))
set_option maxRecDepth 20000 in
theorem sm_Act_sectorBits {G : GT} {ad : Nat → Nat} {K : Int32 → Dm → Prop} (C : Cx G rm_Act_sectorBits cX0_sectorBits 1 RX0) (hV : Vx G rm_Act_sectorBits ad ZF (0, 0)) (hR : RtI G rm_Act_sectorBits ad ZF (0, 0) cX0_sectorBits .int K) (v0 : Nat) : Sm G rm_Act_sectorBits ad ZF (0, 0) K 0 [(0, .ref v0)] [] (Act_sectorBits v0) := by
  unfold Act_sectorBits
  refine s_aload_n C rfl dX0_sectorBits_0 ?_
  refine s_getI C hV fl_X0_9 (fun _ _ _ => rfl) dX0_sectorBits_1 (fun x1 => ?_)
  refine s_iconst C (1 : Int32) (by decide) dX0_sectorBits_4 ?_
  refine s_icmp_ne C 24 (by decide) dX0_sectorBits_5 ?_ ?_
  · refine s_iconst C (1 : Int32) (by decide) dX0_sectorBits_24 ?_
    refine s_aload_n C rfl dX0_sectorBits_25 ?_
    refine s_getI C hV fl_X0_15 (fun _ _ _ => rfl) dX0_sectorBits_26 (fun x2 => ?_)
    refine s_ishl C dX0_sectorBits_29 ?_
    exact s_ireti hR dX0_sectorBits_30
  · refine s_iconst C (1 : Int32) (by decide) dX0_sectorBits_8 ?_
    refine s_aload_n C rfl dX0_sectorBits_9 ?_
    refine s_getI C hV fl_X0_15 (fun _ _ _ => rfl) dX0_sectorBits_10 (fun x3 => ?_)
    refine s_ishl C dX0_sectorBits_13 ?_
    refine s_iconst C (1 : Int32) (by decide) dX0_sectorBits_14 ?_
    refine s_aload_n C rfl dX0_sectorBits_15 ?_
    refine s_getI C hV fl_X0_21 (fun _ _ _ => rfl) dX0_sectorBits_16 (fun x4 => ?_)
    refine s_ishl C dX0_sectorBits_19 ?_
    refine s_ior C dX0_sectorBits_20 ?_
    refine s_goto C 30 (by decide) dX0_sectorBits_21 ?_
    exact s_ireti hR dX0_sectorBits_30
set_option maxRecDepth 20000 in
theorem met_Act_sectorBits (v0 : Nat) : MI ZF yX0_sectorBits cX0_sectorBits 1 .int rm_Act_sectorBits [.ref v0] (Act_sectorBits v0) :=
  mi_of (L0 := [(0, .ref v0)]) (by decide +kernel) (Nat.le_of_ble_eq_true rfl) rfl (fun G ad K C hV hR => sm_Act_sectorBits C hV hR v0)

noncomputable def Prog_shownOf_63 (v0 : Nat) (v1 : Int32) (v2 : Int32) (v3 : Int32) (v4 : Int32) : MM ((Int32 × Int32 × Int32) ⊕ Int32) :=
  ml (v4 + (-1)) fun x5 =>
  mp (.inl (v2, v3, x5))
noncomputable def Prog_shownOf_56 (v0 : Nat) (v1 : Int32) (v2 : Int32) (v4 : Int32) (v5 : Int32) (t0 : Int32) (t1 : Int32) : MM ((Int32 × Int32 × Int32) ⊕ Int32) :=
  ml (t0 ||| t1) fun x9 =>
  ml (v2 ||| v5) fun x10 =>
  Prog_shownOf_63 v0 v1 x10 x9 v4
noncomputable def Prog_shownOf_12_b (v0 : Nat) (v1 : Int32) (v2 : Int32) (v3 : Int32) (v4 : Int32) : MM ((Int32 × Int32 × Int32) ⊕ Int32) :=
  if v4 < 0 then
  mr (
  mp v3)
  else
  if ((v1 >>> (v4 &&& 31)) &&& (1 : Int32)) = 0 then
  Prog_shownOf_63 v0 v1 v2 v3 v4
  else
  mb (gR ZF 6 0 v0) fun x6 =>
  mb (aR ZF 26 x6 v4) fun x7 =>
  mb (vc ZF 1 x7 (Act_sectorBits x7)) fun r8 =>
  Prog_shownOf_56 v0 v1 v2 v4 r8 v3 (if (r8 &&& (v2 ^^^ ((-1) : Int32))) = 0 then (0 : Int32) else ((1 : Int32) <<< (v4 &&& 31)))
noncomputable def Prog_shownOf_12 (v0 : Nat) (v1 : Int32) (s : (Int32 × Int32 × Int32)) : MM Int32 := lo (fun (s : (Int32 × Int32 × Int32)) => Prog_shownOf_12_b v0 v1 s.1 s.2.1 s.2.2) s
noncomputable def Prog_shownOf (v0 : Nat) (v1 : Int32) : MM Int32 :=
  ml (0 : Int32) fun x1 =>
  ml (0 : Int32) fun x2 =>
  mb (gI ZF 6 1 v0) fun x3 =>
  ml (x3 - (1 : Int32)) fun x4 =>
  Prog_shownOf_12 v0 v1 (x1, x2, x4)
set_option maxRecDepth 20000 in
theorem sm_Prog_shownOf_63 {G : GT} {ad : Nat → Nat} {K : Int32 → Dm → Prop} (C : Cx G rm_Prog_shownOf cX5_shownOf 6 RX5) (hV : Vx G rm_Prog_shownOf ad ZF (0, 0)) (hR : RtI G rm_Prog_shownOf ad ZF (0, 0) cX5_shownOf .int K) (v0 : Nat) (v1 : Int32) (v2 : Int32) (v3 : Int32) (v4 : Int32) : Sm G rm_Prog_shownOf ad ZF (0, 0) (lpK G rm_Prog_shownOf ad ZF (0, 0) 12 (fun (s : (Int32 × Int32 × Int32)) => [(0, .ref v0), (1, .int v1), (2, .int s.1), (3, .int s.2.1), (4, .int s.2.2)]) K) 63 [(0, .ref v0), (1, .int v1), (2, .int v2), (3, .int v3), (4, .int v4)] [] (Prog_shownOf_63 v0 v1 v2 v3 v4) := by
  unfold Prog_shownOf_63
  refine s_iinc C (L' := fun x5 => [(4, .int x5), (0, .ref v0), (1, .int v1), (2, .int v2), (3, .int v3)]) (-1) (by decide) rfl (by decide) (fun _ => rfl) dX5_shownOf_63 (fun x5 => ?_)
  refine s_goto C 12 (by decide) dX5_shownOf_66 ?_
  exact s_back [0, 1, 2, 3, 4] (v2, v3, x5) rfl
set_option maxRecDepth 20000 in
theorem sm_Prog_shownOf_56 {G : GT} {ad : Nat → Nat} {K : Int32 → Dm → Prop} (C : Cx G rm_Prog_shownOf cX5_shownOf 6 RX5) (hV : Vx G rm_Prog_shownOf ad ZF (0, 0)) (hR : RtI G rm_Prog_shownOf ad ZF (0, 0) cX5_shownOf .int K) (v0 : Nat) (v1 : Int32) (v2 : Int32) (v4 : Int32) (v5 : Int32) (t0 : Int32) (t1 : Int32) : Sm G rm_Prog_shownOf ad ZF (0, 0) (lpK G rm_Prog_shownOf ad ZF (0, 0) 12 (fun (s : (Int32 × Int32 × Int32)) => [(0, .ref v0), (1, .int v1), (2, .int s.1), (3, .int s.2.1), (4, .int s.2.2)]) K) 56 [(0, .ref v0), (1, .int v1), (2, .int v2), (4, .int v4), (5, .int v5)] [.int t1, .int t0] (Prog_shownOf_56 v0 v1 v2 v4 v5 t0 t1) := by
  unfold Prog_shownOf_56
  refine s_ior C dX5_shownOf_56 ?_
  refine s_leti (fun x9 => ?_)
  refine s_istore_n C (L' := [(3, .int x9), (0, .ref v0), (1, .int v1), (2, .int v2), (4, .int v4), (5, .int v5)]) (by decide) rfl dX5_shownOf_57 ?_
  refine s_iload_n C rfl dX5_shownOf_58 ?_
  refine s_iload C rfl dX5_shownOf_59 ?_
  refine s_ior C dX5_shownOf_61 ?_
  refine s_leti (fun x10 => ?_)
  refine s_istore_n C (L' := [(2, .int x10), (3, .int x9), (0, .ref v0), (1, .int v1), (4, .int v4), (5, .int v5)]) (by decide) rfl dX5_shownOf_62 ?_
  exact s_weak [0, 1, 2, 3, 4] rfl (sm_Prog_shownOf_63 C hV hR v0 v1 x10 x9 v4)
set_option maxRecDepth 20000 in
theorem sm_Prog_shownOf_12_b {G : GT} {ad : Nat → Nat} {K : Int32 → Dm → Prop} (C : Cx G rm_Prog_shownOf cX5_shownOf 6 RX5) (hV : Vx G rm_Prog_shownOf ad ZF (0, 0)) (hR : RtI G rm_Prog_shownOf ad ZF (0, 0) cX5_shownOf .int K) (v0 : Nat) (v1 : Int32) (v2 : Int32) (v3 : Int32) (v4 : Int32) : Sm G rm_Prog_shownOf ad ZF (0, 0) (lpK G rm_Prog_shownOf ad ZF (0, 0) 12 (fun (s : (Int32 × Int32 × Int32)) => [(0, .ref v0), (1, .int v1), (2, .int s.1), (3, .int s.2.1), (4, .int s.2.2)]) K) 12 [(0, .ref v0), (1, .int v1), (2, .int v2), (3, .int v3), (4, .int v4)] [] (Prog_shownOf_12_b v0 v1 v2 v3 v4) := by
  unfold Prog_shownOf_12_b
  refine s_iload C rfl dX5_shownOf_12 ?_
  refine s_if_lt C 69 (by decide) dX5_shownOf_14 ?_ ?_
  · refine s_exit ?_
    refine s_iload_n C rfl dX5_shownOf_69 ?_
    exact s_ireti hR dX5_shownOf_70
  · refine s_iload_n C rfl dX5_shownOf_17 ?_
    refine s_iload C rfl dX5_shownOf_18 ?_
    refine s_ishr C dX5_shownOf_20 ?_
    refine s_iconst C (1 : Int32) (by decide) dX5_shownOf_21 ?_
    refine s_iand C dX5_shownOf_22 ?_
    refine s_if_eq C 63 (by decide) dX5_shownOf_23 ?_ ?_
    · exact s_weak [0, 1, 2, 3, 4] rfl (sm_Prog_shownOf_63 C hV hR v0 v1 v2 v3 v4)
    · refine s_aload_n C rfl dX5_shownOf_26 ?_
      refine s_getR C hV fl_X5_11 (fun _ _ _ => rfl) dX5_shownOf_27 (fun x6 => ?_)
      refine s_iload C rfl dX5_shownOf_30 ?_
      refine s_aaloadA C hV dX5_shownOf_32 (fun x7 => ?_)
      refine s_wI C hV lv_X5_48 (st := []) (met_Act_sectorBits x7) rf_Prog_shownOf_Act_sectorBits rfl rfl (Nat.le_of_ble_eq_true rfl) dX5_shownOf_33 (fun r8 => ?_)
      refine s_istore C (L' := [(5, .int r8), (0, .ref v0), (1, .int v1), (2, .int v2), (3, .int v3), (4, .int v4)]) (by decide) rfl dX5_shownOf_36 ?_
      refine s_iload_n C rfl dX5_shownOf_38 ?_
      refine s_iload C rfl dX5_shownOf_39 ?_
      refine s_iload_n C rfl dX5_shownOf_41 ?_
      refine s_iconst C ((-1) : Int32) (by decide) dX5_shownOf_42 ?_
      refine s_ixor C dX5_shownOf_43 ?_
      refine s_iand C dX5_shownOf_44 ?_
      refine s_ite (g := fun z => Prog_shownOf_56 v0 v1 v2 v4 r8 v3 z) ?_
      refine s_if_eq C 55 (by decide) dX5_shownOf_45 ?_ ?_
      · refine s_iconst C (0 : Int32) (by decide) dX5_shownOf_55 ?_
        exact s_weak [0, 1, 2, 4, 5] rfl (sm_Prog_shownOf_56 C hV hR v0 v1 v2 v4 r8 v3 (0 : Int32))
      · refine s_iconst C (1 : Int32) (by decide) dX5_shownOf_48 ?_
        refine s_iload C rfl dX5_shownOf_49 ?_
        refine s_ishl C dX5_shownOf_51 ?_
        refine s_goto C 56 (by decide) dX5_shownOf_52 ?_
        exact s_weak [0, 1, 2, 4, 5] rfl (sm_Prog_shownOf_56 C hV hR v0 v1 v2 v4 r8 v3 ((1 : Int32) <<< (v4 &&& 31)))
set_option maxRecDepth 20000 in
theorem sm_Prog_shownOf_12 {G : GT} {ad : Nat → Nat} {K : Int32 → Dm → Prop} (C : Cx G rm_Prog_shownOf cX5_shownOf 6 RX5) (hV : Vx G rm_Prog_shownOf ad ZF (0, 0)) (hR : RtI G rm_Prog_shownOf ad ZF (0, 0) cX5_shownOf .int K) (v0 : Nat) (v1 : Int32) (s : (Int32 × Int32 × Int32)) : Sm G rm_Prog_shownOf ad ZF (0, 0) K 12 ((fun (s : (Int32 × Int32 × Int32)) => [(0, .ref v0), (1, .int v1), (2, .int s.1), (3, .int s.2.1), (4, .int s.2.2)]) s) [] (Prog_shownOf_12 v0 v1 s) :=
  s_loop (en := (fun (s : (Int32 × Int32 × Int32)) => [(0, .ref v0), (1, .int v1), (2, .int s.1), (3, .int s.2.1), (4, .int s.2.2)])) (fun s => sm_Prog_shownOf_12_b C hV hR v0 v1 s.1 s.2.1 s.2.2) s
set_option maxRecDepth 20000 in
theorem sm_Prog_shownOf {G : GT} {ad : Nat → Nat} {K : Int32 → Dm → Prop} (C : Cx G rm_Prog_shownOf cX5_shownOf 6 RX5) (hV : Vx G rm_Prog_shownOf ad ZF (0, 0)) (hR : RtI G rm_Prog_shownOf ad ZF (0, 0) cX5_shownOf .int K) (v0 : Nat) (v1 : Int32) : Sm G rm_Prog_shownOf ad ZF (0, 0) K 0 [(0, .ref v0), (1, .int v1)] [] (Prog_shownOf v0 v1) := by
  unfold Prog_shownOf
  refine s_iconst C (0 : Int32) (by decide) dX5_shownOf_0 ?_
  refine s_leti (fun x1 => ?_)
  refine s_istore_n C (L' := [(2, .int x1), (0, .ref v0), (1, .int v1)]) (by decide) rfl dX5_shownOf_1 ?_
  refine s_iconst C (0 : Int32) (by decide) dX5_shownOf_2 ?_
  refine s_leti (fun x2 => ?_)
  refine s_istore_n C (L' := [(3, .int x2), (2, .int x1), (0, .ref v0), (1, .int v1)]) (by decide) rfl dX5_shownOf_3 ?_
  refine s_aload_n C rfl dX5_shownOf_4 ?_
  refine s_getI C hV fl_X5_17 (fun _ _ _ => rfl) dX5_shownOf_5 (fun x3 => ?_)
  refine s_iconst C (1 : Int32) (by decide) dX5_shownOf_8 ?_
  refine s_isub C dX5_shownOf_9 ?_
  refine s_leti (fun x4 => ?_)
  refine s_istore C (L' := [(4, .int x4), (3, .int x2), (2, .int x1), (0, .ref v0), (1, .int v1)]) (by decide) rfl dX5_shownOf_10 ?_
  exact s_weak [0, 1, 2, 3, 4] rfl (sm_Prog_shownOf_12 C hV hR v0 v1 (x1, x2, x4))
set_option maxRecDepth 20000 in
theorem met_Prog_shownOf (v0 : Nat) (v1 : Int32) : MI ZF yX5_shownOf cX5_shownOf 6 .int rm_Prog_shownOf [.ref v0, .int v1] (Prog_shownOf v0 v1) :=
  mi_of (L0 := [(0, .ref v0), (1, .int v1)]) (by decide +kernel) (Nat.le_of_ble_eq_true rfl) rfl (fun G ad K C hV hR => sm_Prog_shownOf C hV hR v0 v1)

noncomputable def Verd_of_140 (v0 : Nat) (v2 : Int32) : MM Int32 :=
  mb (gR ZF 10 3 v0) fun x5 =>
  mb (aI ZF 23 x5 v2) fun x6 =>
  mp (x6 &&& (255 : Int32))
noncomputable def Verd_of_128 (v0 : Nat) (v2 : Int32) (v3 : Int32) : MM Int32 :=
  mb (gR ZF 10 3 v0) fun x13 =>
  mb (gR ZF 10 3 v0) fun x14 =>
  mb (aI ZF 23 x14 v3) fun x15 =>
  mb (sI ZF x13 v2 x15) fun _ =>
  Verd_of_140 v0 v2
noncomputable def Verd_of_109 (v0 : Nat) (v2 : Int32) (v3 : Int32) (t0 : Int32) (t1 : Int32) : MM Int32 :=
  ml (t0 ||| t1) fun x26 =>
  mb (gR ZF 10 3 v0) fun x27 =>
  mb (gI ZF 10 4 v0) fun x28 =>
  mb (sI ZF x27 v3 ((x28 <<< ((8 : Int32) &&& 31)) ||| x26)) fun _ =>
  Verd_of_128 v0 v2 v3
noncomputable def Verd_of (v0 : Nat) (v1 : Int32) : MM Int32 :=
  ml (v1 &&& (4095 : Int32)) fun x1 =>
  mb (gR ZF 10 3 v0) fun x2 =>
  mb (aI ZF 23 x2 x1) fun x3 =>
  mb (gI ZF 10 4 v0) fun x4 =>
  if (x3 >>> ((8 : Int32) &&& 31)) = x4 then
  Verd_of_140 v0 x1
  else
  mb (gR ZF 10 0 v0) fun x7 =>
  mb (vc ZF 6 x7 (Prog_shownOf x7 x1)) fun r8 =>
  ml (r8 &&& (4095 : Int32)) fun x9 =>
  mb (gR ZF 10 3 v0) fun x10 =>
  mb (aI ZF 23 x10 x9) fun x11 =>
  mb (gI ZF 10 4 v0) fun x12 =>
  if (x11 >>> ((8 : Int32) &&& 31)) = x12 then
  Verd_of_128 v0 x1 x9
  else
  mb (gR ZF 10 0 v0) fun x16 =>
  mb (vc ZF 6 x16 (Prog_plateOf x16 x9)) fun r17 =>
  mb (gR ZF 10 2 v0) fun x18 =>
  mb (gR ZF 10 2 v0) fun x19 =>
  mb (gI ZF 3 1 x19) fun x20 =>
  mb (vc ZF 3 x18 (Heal_after x18 r17 (0 : Int32) x20)) fun r21 =>
  mb (gR ZF 10 1 v0) fun x22 =>
  mb (vc ZF 8 x22 (Rule_failingIn x22 r21)) fun r23 =>
  mb (gR ZF 10 2 v0) fun x24 =>
  mb (vc ZF 3 x24 (Heal_isSteady x24 r17 r21)) fun r25 =>
  Verd_of_109 v0 x1 x9 r23 (if r25 = 0 then (64 : Int32) else (0 : Int32))
set_option maxRecDepth 20000 in
theorem sm_Verd_of_140 {G : GT} {ad : Nat → Nat} {K : Int32 → Dm → Prop} (C : Cx G rm_Verd_of cX9_of 9 RX9) (hV : Vx G rm_Verd_of ad ZF (0, 0)) (hR : RtI G rm_Verd_of ad ZF (0, 0) cX9_of .int K) (v0 : Nat) (v2 : Int32) : Sm G rm_Verd_of ad ZF (0, 0) K 140 [(0, .ref v0), (2, .int v2)] [] (Verd_of_140 v0 v2) := by
  unfold Verd_of_140
  refine s_aload_n C rfl dX9_of_140 ?_
  refine s_getR C hV fl_X9_32 (fun _ _ _ => rfl) dX9_of_141 (fun x5 => ?_)
  refine s_iload_n C rfl dX9_of_144 ?_
  refine s_iaload C hV dX9_of_145 (fun x6 => ?_)
  refine s_sipush C (255 : Int32) (by decide) dX9_of_146 ?_
  refine s_iand C dX9_of_149 ?_
  exact s_ireti hR dX9_of_150
set_option maxRecDepth 20000 in
theorem sm_Verd_of_128 {G : GT} {ad : Nat → Nat} {K : Int32 → Dm → Prop} (C : Cx G rm_Verd_of cX9_of 9 RX9) (hV : Vx G rm_Verd_of ad ZF (0, 0)) (hR : RtI G rm_Verd_of ad ZF (0, 0) cX9_of .int K) (v0 : Nat) (v2 : Int32) (v3 : Int32) : Sm G rm_Verd_of ad ZF (0, 0) K 128 [(0, .ref v0), (2, .int v2), (3, .int v3)] [] (Verd_of_128 v0 v2 v3) := by
  unfold Verd_of_128
  refine s_aload_n C rfl dX9_of_128 ?_
  refine s_getR C hV fl_X9_32 (fun _ _ _ => rfl) dX9_of_129 (fun x13 => ?_)
  refine s_iload_n C rfl dX9_of_132 ?_
  refine s_aload_n C rfl dX9_of_133 ?_
  refine s_getR C hV fl_X9_32 (fun _ _ _ => rfl) dX9_of_134 (fun x14 => ?_)
  refine s_iload_n C rfl dX9_of_137 ?_
  refine s_iaload C hV dX9_of_138 (fun x15 => ?_)
  refine s_iastore C hV dX9_of_139 ?_
  exact s_weak [0, 2] rfl (sm_Verd_of_140 C hV hR v0 v2)
set_option maxRecDepth 20000 in
theorem sm_Verd_of_109 {G : GT} {ad : Nat → Nat} {K : Int32 → Dm → Prop} (C : Cx G rm_Verd_of cX9_of 9 RX9) (hV : Vx G rm_Verd_of ad ZF (0, 0)) (hR : RtI G rm_Verd_of ad ZF (0, 0) cX9_of .int K) (v0 : Nat) (v2 : Int32) (v3 : Int32) (t0 : Int32) (t1 : Int32) : Sm G rm_Verd_of ad ZF (0, 0) K 109 [(0, .ref v0), (2, .int v2), (3, .int v3)] [.int t1, .int t0] (Verd_of_109 v0 v2 v3 t0 t1) := by
  unfold Verd_of_109
  refine s_ior C dX9_of_109 ?_
  refine s_leti (fun x26 => ?_)
  refine s_istore C (L' := [(8, .int x26), (0, .ref v0), (2, .int v2), (3, .int v3)]) (by decide) rfl dX9_of_110 ?_
  refine s_aload_n C rfl dX9_of_112 ?_
  refine s_getR C hV fl_X9_32 (fun _ _ _ => rfl) dX9_of_113 (fun x27 => ?_)
  refine s_iload_n C rfl dX9_of_116 ?_
  refine s_aload_n C rfl dX9_of_117 ?_
  refine s_getI C hV fl_X9_36 (fun _ _ _ => rfl) dX9_of_118 (fun x28 => ?_)
  refine s_bipush C (8 : Int32) (by decide) dX9_of_121 ?_
  refine s_ishl C dX9_of_123 ?_
  refine s_iload C rfl dX9_of_124 ?_
  refine s_ior C dX9_of_126 ?_
  refine s_iastore C hV dX9_of_127 ?_
  exact s_weak [0, 2, 3] rfl (sm_Verd_of_128 C hV hR v0 v2 v3)
set_option maxRecDepth 20000 in
theorem sm_Verd_of {G : GT} {ad : Nat → Nat} {K : Int32 → Dm → Prop} (C : Cx G rm_Verd_of cX9_of 9 RX9) (hV : Vx G rm_Verd_of ad ZF (0, 0)) (hR : RtI G rm_Verd_of ad ZF (0, 0) cX9_of .int K) (v0 : Nat) (v1 : Int32) : Sm G rm_Verd_of ad ZF (0, 0) K 0 [(0, .ref v0), (1, .int v1)] [] (Verd_of v0 v1) := by
  unfold Verd_of
  refine s_iload_n C rfl dX9_of_0 ?_
  refine s_sipush C (4095 : Int32) (by decide) dX9_of_1 ?_
  refine s_iand C dX9_of_4 ?_
  refine s_leti (fun x1 => ?_)
  refine s_istore_n C (L' := [(2, .int x1), (0, .ref v0), (1, .int v1)]) (by decide) rfl dX9_of_5 ?_
  refine s_aload_n C rfl dX9_of_6 ?_
  refine s_getR C hV fl_X9_32 (fun _ _ _ => rfl) dX9_of_7 (fun x2 => ?_)
  refine s_iload_n C rfl dX9_of_10 ?_
  refine s_iaload C hV dX9_of_11 (fun x3 => ?_)
  refine s_bipush C (8 : Int32) (by decide) dX9_of_12 ?_
  refine s_ishr C dX9_of_14 ?_
  refine s_aload_n C rfl dX9_of_15 ?_
  refine s_getI C hV fl_X9_36 (fun _ _ _ => rfl) dX9_of_16 (fun x4 => ?_)
  refine s_icmp_eq C 140 (by decide) dX9_of_19 ?_ ?_
  · exact s_weak [0, 2] rfl (sm_Verd_of_140 C hV hR v0 x1)
  · refine s_aload_n C rfl dX9_of_22 ?_
    refine s_getR C hV fl_X9_12 (fun _ _ _ => rfl) dX9_of_23 (fun x7 => ?_)
    refine s_iload_n C rfl dX9_of_26 ?_
    refine s_wI C hV lv_X9_40 (st := []) (met_Prog_shownOf x7 x1) rf_Verd_of_Prog_shownOf rfl rfl (Nat.le_of_ble_eq_true rfl) dX9_of_27 (fun r8 => ?_)
    refine s_sipush C (4095 : Int32) (by decide) dX9_of_30 ?_
    refine s_iand C dX9_of_33 ?_
    refine s_leti (fun x9 => ?_)
    refine s_istore_n C (L' := [(3, .int x9), (2, .int x1), (0, .ref v0), (1, .int v1)]) (by decide) rfl dX9_of_34 ?_
    refine s_aload_n C rfl dX9_of_35 ?_
    refine s_getR C hV fl_X9_32 (fun _ _ _ => rfl) dX9_of_36 (fun x10 => ?_)
    refine s_iload_n C rfl dX9_of_39 ?_
    refine s_iaload C hV dX9_of_40 (fun x11 => ?_)
    refine s_bipush C (8 : Int32) (by decide) dX9_of_41 ?_
    refine s_ishr C dX9_of_43 ?_
    refine s_aload_n C rfl dX9_of_44 ?_
    refine s_getI C hV fl_X9_36 (fun _ _ _ => rfl) dX9_of_45 (fun x12 => ?_)
    refine s_icmp_eq C 128 (by decide) dX9_of_48 ?_ ?_
    · exact s_weak [0, 2, 3] rfl (sm_Verd_of_128 C hV hR v0 x1 x9)
    · refine s_aload_n C rfl dX9_of_51 ?_
      refine s_getR C hV fl_X9_12 (fun _ _ _ => rfl) dX9_of_52 (fun x16 => ?_)
      refine s_iload_n C rfl dX9_of_55 ?_
      refine s_wL C hV lv_X9_44 (st := []) (met_Prog_plateOf x16 x9) rf_Verd_of_Prog_plateOf rfl rfl (Nat.le_of_ble_eq_true rfl) dX9_of_56 (fun r17 => ?_)
      refine s_lstore C (L' := [(4, .long r17), (3, .int x9), (2, .int x1), (0, .ref v0), (1, .int v1)]) (by decide) rfl dX9_of_59 ?_
      refine s_aload_n C rfl dX9_of_61 ?_
      refine s_getR C hV fl_X9_28 (fun _ _ _ => rfl) dX9_of_62 (fun x18 => ?_)
      refine s_lload C rfl dX9_of_65 ?_
      refine s_iconst C (0 : Int32) (by decide) dX9_of_67 ?_
      refine s_aload_n C rfl dX9_of_68 ?_
      refine s_getR C hV fl_X9_28 (fun _ _ _ => rfl) dX9_of_69 (fun x19 => ?_)
      refine s_getI C hV fl_X9_48 (fun _ _ _ => rfl) dX9_of_72 (fun x20 => ?_)
      refine s_wL C hV lv_X9_51 (st := []) (met_Heal_after x18 r17 (0 : Int32) x20) rf_Verd_of_Heal_after rfl rfl (Nat.le_of_ble_eq_true rfl) dX9_of_75 (fun r21 => ?_)
      refine s_lstore C (L' := [(6, .long r21), (4, .long r17), (3, .int x9), (2, .int x1), (0, .ref v0), (1, .int v1)]) (by decide) rfl dX9_of_78 ?_
      refine s_aload_n C rfl dX9_of_80 ?_
      refine s_getR C hV fl_X9_21 (fun _ _ _ => rfl) dX9_of_81 (fun x22 => ?_)
      refine s_lload C rfl dX9_of_84 ?_
      refine s_wI C hV lv_X9_55 (st := []) (met_Rule_failingIn x22 r21) rf_Verd_of_Rule_failingIn rfl rfl (Nat.le_of_ble_eq_true rfl) dX9_of_86 (fun r23 => ?_)
      refine s_aload_n C rfl dX9_of_89 ?_
      refine s_getR C hV fl_X9_28 (fun _ _ _ => rfl) dX9_of_90 (fun x24 => ?_)
      refine s_lload C rfl dX9_of_93 ?_
      refine s_lload C rfl dX9_of_95 ?_
      refine s_wI C hV lv_X9_59 (st := [.int r23]) (met_Heal_isSteady x24 r17 r21) rf_Verd_of_Heal_isSteady rfl rfl (Nat.le_of_ble_eq_true rfl) dX9_of_97 (fun r25 => ?_)
      refine s_ite (g := fun z => Verd_of_109 v0 x1 x9 r23 z) ?_
      refine s_if_eq C 107 (by decide) dX9_of_100 ?_ ?_
      · refine s_bipush C (64 : Int32) (by decide) dX9_of_107 ?_
        exact s_weak [0, 2, 3] rfl (sm_Verd_of_109 C hV hR v0 x1 x9 r23 (64 : Int32))
      · refine s_iconst C (0 : Int32) (by decide) dX9_of_103 ?_
        refine s_goto C 109 (by decide) dX9_of_104 ?_
        exact s_weak [0, 2, 3] rfl (sm_Verd_of_109 C hV hR v0 x1 x9 r23 (0 : Int32))
set_option maxRecDepth 20000 in
theorem met_Verd_of (v0 : Nat) (v1 : Int32) : MI ZF yX9_of cX9_of 9 .int rm_Verd_of [.ref v0, .int v1] (Verd_of v0 v1) :=
  mi_of (L0 := [(0, .ref v0), (1, .int v1)]) (by decide +kernel) (Nat.le_of_ble_eq_true rfl) rfl (fun G ad K C hV hR => sm_Verd_of C hV hR v0 v1)

noncomputable def Prog_dueAt_45 (v0 : Nat) (v1 : Int32) (v4 : Int32) (t0 : Int32) (t1 : Int32) : MM ((Int32 × Int32) ⊕ Int32) :=
  ml (t0 ||| t1) fun x6 =>
  ml (v4 + (1 : Int32)) fun x7 =>
  mp (.inl (x6, x7))
noncomputable def Prog_dueAt_8_b (v0 : Nat) (v1 : Int32) (v3 : Int32) (v4 : Int32) : MM ((Int32 × Int32) ⊕ Int32) :=
  if v1 ≤ v4 then
  mr (
  mp v3)
  else
  mb (gR ZF 6 0 v0) fun x3 =>
  mb (aR ZF 26 x3 v4) fun x4 =>
  mb (gI ZF 1 0 x4) fun x5 =>
  if x5 = (4 : Int32) then
  mb (gR ZF 6 0 v0) fun x8 =>
  mb (aR ZF 26 x8 v4) fun x9 =>
  mb (gI ZF 1 1 x9) fun x10 =>
  Prog_dueAt_45 v0 v1 v4 v3 ((1 : Int32) <<< (x10 &&& 31))
  else
  Prog_dueAt_45 v0 v1 v4 v3 (0 : Int32)
noncomputable def Prog_dueAt_8 (v0 : Nat) (v1 : Int32) (s : (Int32 × Int32)) : MM Int32 := lo (fun (s : (Int32 × Int32)) => Prog_dueAt_8_b v0 v1 s.1 s.2) s
noncomputable def Prog_dueAt (v0 : Nat) (v1 : Int32) (v2 : Int32) : MM Int32 :=
  ml (v2 ||| (64 : Int32)) fun x1 =>
  ml (0 : Int32) fun x2 =>
  Prog_dueAt_8 v0 v1 (x1, x2)
set_option maxRecDepth 20000 in
theorem sm_Prog_dueAt_45 {G : GT} {ad : Nat → Nat} {K : Int32 → Dm → Prop} (C : Cx G rm_Prog_dueAt cX5_dueAt 5 RX5) (hV : Vx G rm_Prog_dueAt ad ZF (0, 0)) (hR : RtI G rm_Prog_dueAt ad ZF (0, 0) cX5_dueAt .int K) (v0 : Nat) (v1 : Int32) (v4 : Int32) (t0 : Int32) (t1 : Int32) : Sm G rm_Prog_dueAt ad ZF (0, 0) (lpK G rm_Prog_dueAt ad ZF (0, 0) 8 (fun (s : (Int32 × Int32)) => [(0, .ref v0), (1, .int v1), (3, .int s.1), (4, .int s.2)]) K) 45 [(0, .ref v0), (1, .int v1), (4, .int v4)] [.int t1, .int t0] (Prog_dueAt_45 v0 v1 v4 t0 t1) := by
  unfold Prog_dueAt_45
  refine s_ior C dX5_dueAt_45 ?_
  refine s_leti (fun x6 => ?_)
  refine s_istore_n C (L' := [(3, .int x6), (0, .ref v0), (1, .int v1), (4, .int v4)]) (by decide) rfl dX5_dueAt_46 ?_
  refine s_iinc C (L' := fun x7 => [(4, .int x7), (3, .int x6), (0, .ref v0), (1, .int v1)]) (1 : Int32) (by decide) rfl (by decide) (fun _ => rfl) dX5_dueAt_47 (fun x7 => ?_)
  refine s_goto C 8 (by decide) dX5_dueAt_50 ?_
  exact s_back [0, 1, 3, 4] (x6, x7) rfl
set_option maxRecDepth 20000 in
theorem sm_Prog_dueAt_8_b {G : GT} {ad : Nat → Nat} {K : Int32 → Dm → Prop} (C : Cx G rm_Prog_dueAt cX5_dueAt 5 RX5) (hV : Vx G rm_Prog_dueAt ad ZF (0, 0)) (hR : RtI G rm_Prog_dueAt ad ZF (0, 0) cX5_dueAt .int K) (v0 : Nat) (v1 : Int32) (v3 : Int32) (v4 : Int32) : Sm G rm_Prog_dueAt ad ZF (0, 0) (lpK G rm_Prog_dueAt ad ZF (0, 0) 8 (fun (s : (Int32 × Int32)) => [(0, .ref v0), (1, .int v1), (3, .int s.1), (4, .int s.2)]) K) 8 [(0, .ref v0), (1, .int v1), (3, .int v3), (4, .int v4)] [] (Prog_dueAt_8_b v0 v1 v3 v4) := by
  unfold Prog_dueAt_8_b
  refine s_iload C rfl dX5_dueAt_8 ?_
  refine s_iload_n C rfl dX5_dueAt_10 ?_
  refine s_icmp_ge C 53 (by decide) dX5_dueAt_11 ?_ ?_
  · refine s_exit ?_
    refine s_iload_n C rfl dX5_dueAt_53 ?_
    exact s_ireti hR dX5_dueAt_54
  · refine s_iload_n C rfl dX5_dueAt_14 ?_
    refine s_aload_n C rfl dX5_dueAt_15 ?_
    refine s_getR C hV fl_X5_11 (fun _ _ _ => rfl) dX5_dueAt_16 (fun x3 => ?_)
    refine s_iload C rfl dX5_dueAt_19 ?_
    refine s_aaloadA C hV dX5_dueAt_21 (fun x4 => ?_)
    refine s_getI C hV fl_X5_41 (fun _ _ _ => rfl) dX5_dueAt_22 (fun x5 => ?_)
    refine s_iconst C (4 : Int32) (by decide) dX5_dueAt_25 ?_
    refine s_icmp_ne C 44 (by decide) dX5_dueAt_26 ?_ ?_
    · refine s_iconst C (0 : Int32) (by decide) dX5_dueAt_44 ?_
      exact s_weak [0, 1, 4] rfl (sm_Prog_dueAt_45 C hV hR v0 v1 v4 v3 (0 : Int32))
    · refine s_iconst C (1 : Int32) (by decide) dX5_dueAt_29 ?_
      refine s_aload_n C rfl dX5_dueAt_30 ?_
      refine s_getR C hV fl_X5_11 (fun _ _ _ => rfl) dX5_dueAt_31 (fun x8 => ?_)
      refine s_iload C rfl dX5_dueAt_34 ?_
      refine s_aaloadA C hV dX5_dueAt_36 (fun x9 => ?_)
      refine s_getI C hV fl_X5_52 (fun _ _ _ => rfl) dX5_dueAt_37 (fun x10 => ?_)
      refine s_ishl C dX5_dueAt_40 ?_
      refine s_goto C 45 (by decide) dX5_dueAt_41 ?_
      exact s_weak [0, 1, 4] rfl (sm_Prog_dueAt_45 C hV hR v0 v1 v4 v3 ((1 : Int32) <<< (x10 &&& 31)))
set_option maxRecDepth 20000 in
theorem sm_Prog_dueAt_8 {G : GT} {ad : Nat → Nat} {K : Int32 → Dm → Prop} (C : Cx G rm_Prog_dueAt cX5_dueAt 5 RX5) (hV : Vx G rm_Prog_dueAt ad ZF (0, 0)) (hR : RtI G rm_Prog_dueAt ad ZF (0, 0) cX5_dueAt .int K) (v0 : Nat) (v1 : Int32) (s : (Int32 × Int32)) : Sm G rm_Prog_dueAt ad ZF (0, 0) K 8 ((fun (s : (Int32 × Int32)) => [(0, .ref v0), (1, .int v1), (3, .int s.1), (4, .int s.2)]) s) [] (Prog_dueAt_8 v0 v1 s) :=
  s_loop (en := (fun (s : (Int32 × Int32)) => [(0, .ref v0), (1, .int v1), (3, .int s.1), (4, .int s.2)])) (fun s => sm_Prog_dueAt_8_b C hV hR v0 v1 s.1 s.2) s
set_option maxRecDepth 20000 in
theorem sm_Prog_dueAt {G : GT} {ad : Nat → Nat} {K : Int32 → Dm → Prop} (C : Cx G rm_Prog_dueAt cX5_dueAt 5 RX5) (hV : Vx G rm_Prog_dueAt ad ZF (0, 0)) (hR : RtI G rm_Prog_dueAt ad ZF (0, 0) cX5_dueAt .int K) (v0 : Nat) (v1 : Int32) (v2 : Int32) : Sm G rm_Prog_dueAt ad ZF (0, 0) K 0 [(0, .ref v0), (1, .int v1), (2, .int v2)] [] (Prog_dueAt v0 v1 v2) := by
  unfold Prog_dueAt
  refine s_iload_n C rfl dX5_dueAt_0 ?_
  refine s_bipush C (64 : Int32) (by decide) dX5_dueAt_1 ?_
  refine s_ior C dX5_dueAt_3 ?_
  refine s_leti (fun x1 => ?_)
  refine s_istore_n C (L' := [(3, .int x1), (0, .ref v0), (1, .int v1), (2, .int v2)]) (by decide) rfl dX5_dueAt_4 ?_
  refine s_iconst C (0 : Int32) (by decide) dX5_dueAt_5 ?_
  refine s_leti (fun x2 => ?_)
  refine s_istore C (L' := [(4, .int x2), (3, .int x1), (0, .ref v0), (1, .int v1), (2, .int v2)]) (by decide) rfl dX5_dueAt_6 ?_
  exact s_weak [0, 1, 3, 4] rfl (sm_Prog_dueAt_8 C hV hR v0 v1 (x1, x2))
set_option maxRecDepth 20000 in
theorem met_Prog_dueAt (v0 : Nat) (v1 : Int32) (v2 : Int32) : MI ZF yX5_dueAt cX5_dueAt 5 .int rm_Prog_dueAt [.ref v0, .int v1, .int v2] (Prog_dueAt v0 v1 v2) :=
  mi_of (L0 := [(0, .ref v0), (1, .int v1), (2, .int v2)]) (by decide +kernel) (Nat.le_of_ble_eq_true rfl) rfl (fun G ad K C hV hR => sm_Prog_dueAt C hV hR v0 v1 v2)

noncomputable def JInt_bitCount (v0 : Int32) : MM Int32 :=
  ml (v0 - ((((v0).toUInt32 >>> (((1 : Int32)).toUInt32 &&& Int32.toUInt32 31)).toInt32) &&& (1431655765 : Int32))) fun x1 =>
  ml ((x1 &&& (858993459 : Int32)) + ((((x1).toUInt32 >>> (((2 : Int32)).toUInt32 &&& Int32.toUInt32 31)).toInt32) &&& (858993459 : Int32))) fun x2 =>
  ml ((x2 + (((x2).toUInt32 >>> (((4 : Int32)).toUInt32 &&& Int32.toUInt32 31)).toInt32)) &&& (252645135 : Int32)) fun x3 =>
  ml (x3 + (((x3).toUInt32 >>> (((8 : Int32)).toUInt32 &&& Int32.toUInt32 31)).toInt32)) fun x4 =>
  ml (x4 + (((x4).toUInt32 >>> (((16 : Int32)).toUInt32 &&& Int32.toUInt32 31)).toInt32)) fun x5 =>
  mp (x5 &&& (63 : Int32))
set_option maxRecDepth 20000 in
theorem sm_JInt_bitCount {G : GT} {ad : Nat → Nat} {K : Int32 → Dm → Prop} (C : Cx G rm_JInt_bitCount cJ6_bitCount_0f7a4 1 RJ6) (hV : Vx G rm_JInt_bitCount ad ZF (0, 0)) (hR : RtI G rm_JInt_bitCount ad ZF (0, 0) cJ6_bitCount_0f7a4 .int K) (v0 : Int32) : Sm G rm_JInt_bitCount ad ZF (0, 0) K 0 [(0, .int v0)] [] (JInt_bitCount v0) := by
  unfold JInt_bitCount
  refine s_iload_n C rfl dJ6_bitCount_0f7a4_0 ?_
  refine s_iload_n C rfl dJ6_bitCount_0f7a4_1 ?_
  refine s_iconst C (1 : Int32) (by decide) dJ6_bitCount_0f7a4_2 ?_
  refine s_iushr C dJ6_bitCount_0f7a4_3 ?_
  refine s_ldcw C kc_J6_265 dJ6_bitCount_0f7a4_4 ?_
  refine s_iand C dJ6_bitCount_0f7a4_7 ?_
  refine s_isub C dJ6_bitCount_0f7a4_8 ?_
  refine s_leti (fun x1 => ?_)
  refine s_istore_n C (L' := [(0, .int x1)]) (by decide) rfl dJ6_bitCount_0f7a4_9 ?_
  refine s_iload_n C rfl dJ6_bitCount_0f7a4_10 ?_
  refine s_ldcw C kc_J6_266 dJ6_bitCount_0f7a4_11 ?_
  refine s_iand C dJ6_bitCount_0f7a4_14 ?_
  refine s_iload_n C rfl dJ6_bitCount_0f7a4_15 ?_
  refine s_iconst C (2 : Int32) (by decide) dJ6_bitCount_0f7a4_16 ?_
  refine s_iushr C dJ6_bitCount_0f7a4_17 ?_
  refine s_ldcw C kc_J6_266 dJ6_bitCount_0f7a4_18 ?_
  refine s_iand C dJ6_bitCount_0f7a4_21 ?_
  refine s_iadd C dJ6_bitCount_0f7a4_22 ?_
  refine s_leti (fun x2 => ?_)
  refine s_istore_n C (L' := [(0, .int x2)]) (by decide) rfl dJ6_bitCount_0f7a4_23 ?_
  refine s_iload_n C rfl dJ6_bitCount_0f7a4_24 ?_
  refine s_iload_n C rfl dJ6_bitCount_0f7a4_25 ?_
  refine s_iconst C (4 : Int32) (by decide) dJ6_bitCount_0f7a4_26 ?_
  refine s_iushr C dJ6_bitCount_0f7a4_27 ?_
  refine s_iadd C dJ6_bitCount_0f7a4_28 ?_
  refine s_ldcw C kc_J6_267 dJ6_bitCount_0f7a4_29 ?_
  refine s_iand C dJ6_bitCount_0f7a4_32 ?_
  refine s_leti (fun x3 => ?_)
  refine s_istore_n C (L' := [(0, .int x3)]) (by decide) rfl dJ6_bitCount_0f7a4_33 ?_
  refine s_iload_n C rfl dJ6_bitCount_0f7a4_34 ?_
  refine s_iload_n C rfl dJ6_bitCount_0f7a4_35 ?_
  refine s_bipush C (8 : Int32) (by decide) dJ6_bitCount_0f7a4_36 ?_
  refine s_iushr C dJ6_bitCount_0f7a4_38 ?_
  refine s_iadd C dJ6_bitCount_0f7a4_39 ?_
  refine s_leti (fun x4 => ?_)
  refine s_istore_n C (L' := [(0, .int x4)]) (by decide) rfl dJ6_bitCount_0f7a4_40 ?_
  refine s_iload_n C rfl dJ6_bitCount_0f7a4_41 ?_
  refine s_iload_n C rfl dJ6_bitCount_0f7a4_42 ?_
  refine s_bipush C (16 : Int32) (by decide) dJ6_bitCount_0f7a4_43 ?_
  refine s_iushr C dJ6_bitCount_0f7a4_45 ?_
  refine s_iadd C dJ6_bitCount_0f7a4_46 ?_
  refine s_leti (fun x5 => ?_)
  refine s_istore_n C (L' := [(0, .int x5)]) (by decide) rfl dJ6_bitCount_0f7a4_47 ?_
  refine s_iload_n C rfl dJ6_bitCount_0f7a4_48 ?_
  refine s_bipush C (63 : Int32) (by decide) dJ6_bitCount_0f7a4_49 ?_
  refine s_iand C dJ6_bitCount_0f7a4_51 ?_
  exact s_ireti hR dJ6_bitCount_0f7a4_52
set_option maxRecDepth 20000 in
theorem met_JInt_bitCount (v0 : Int32) : MI ZF yJ6_bitCount_0f7a4 cJ6_bitCount_0f7a4 1 .int rm_JInt_bitCount [.int v0] (JInt_bitCount v0) :=
  mi_of (L0 := [(0, .int v0)]) (by decide +kernel) (Nat.le_of_ble_eq_true rfl) rfl (fun G ad K C hV hR => sm_JInt_bitCount C hV hR v0)

noncomputable def Main_nextSet (v0 : Int32) (v1 : Int32) : MM Int32 :=
  mp ((v0 - v1) &&& v1)
set_option maxRecDepth 20000 in
theorem sm_Main_nextSet {G : GT} {ad : Nat → Nat} {K : Int32 → Dm → Prop} (C : Cx G rm_Main_nextSet cX10_nextSet 2 RX10) (hV : Vx G rm_Main_nextSet ad ZF (0, 0)) (hR : RtI G rm_Main_nextSet ad ZF (0, 0) cX10_nextSet .int K) (v0 : Int32) (v1 : Int32) : Sm G rm_Main_nextSet ad ZF (0, 0) K 0 [(0, .int v0), (1, .int v1)] [] (Main_nextSet v0 v1) := by
  unfold Main_nextSet
  refine s_iload_n C rfl dX10_nextSet_0 ?_
  refine s_iload_n C rfl dX10_nextSet_1 ?_
  refine s_isub C dX10_nextSet_2 ?_
  refine s_iload_n C rfl dX10_nextSet_3 ?_
  refine s_iand C dX10_nextSet_4 ?_
  exact s_ireti hR dX10_nextSet_5
set_option maxRecDepth 20000 in
theorem met_Main_nextSet (v0 : Int32) (v1 : Int32) : MI ZF yX10_nextSet cX10_nextSet 2 .int rm_Main_nextSet [.int v0, .int v1] (Main_nextSet v0 v1) :=
  mi_of (L0 := [(0, .int v0), (1, .int v1)]) (by decide +kernel) (Nat.le_of_ble_eq_true rfl) rfl (fun G ad K C hV hR => sm_Main_nextSet C hV hR v0 v1)

noncomputable def Verd_ofEach_16_b (v0 : Nat) (v1 : Int32) (v2 : Int32) (v3 : Int32) (v4 : Int32) (v5 : Int32) (v6 : Int32) : MM ((Int32 × Int32 × Int32) ⊕ Int32) :=
  if v3 ≤ v6 then
  mr (
  mp v4)
  else
  mb (vc ZF 10 v0 (Verd_of v0 (v1 ||| v5))) fun r6 =>
  ml (v4 ||| r6) fun x7 =>
  mb ((Main_nextSet v5 v2)) fun r8 =>
  ml (v6 + (1 : Int32)) fun x9 =>
  mp (.inl (x7, r8, x9))
noncomputable def Verd_ofEach_16 (v0 : Nat) (v1 : Int32) (v2 : Int32) (v3 : Int32) (s : (Int32 × Int32 × Int32)) : MM Int32 := lo (fun (s : (Int32 × Int32 × Int32)) => Verd_ofEach_16_b v0 v1 v2 v3 s.1 s.2.1 s.2.2) s
noncomputable def Verd_ofEach (v0 : Nat) (v1 : Int32) (v2 : Int32) : MM Int32 :=
  mb ((JInt_bitCount v2)) fun r1 =>
  ml ((1 : Int32) <<< (r1 &&& 31)) fun x2 =>
  ml (0 : Int32) fun x3 =>
  ml (0 : Int32) fun x4 =>
  ml (0 : Int32) fun x5 =>
  Verd_ofEach_16 v0 v1 v2 x2 (x3, x4, x5)
set_option maxRecDepth 20000 in
theorem sm_Verd_ofEach_16_b {G : GT} {ad : Nat → Nat} {K : Int32 → Dm → Prop} (C : Cx G rm_Verd_ofEach cX9_ofEach 7 RX9) (hV : Vx G rm_Verd_ofEach ad ZF (0, 0)) (hR : RtI G rm_Verd_ofEach ad ZF (0, 0) cX9_ofEach .int K) (v0 : Nat) (v1 : Int32) (v2 : Int32) (v3 : Int32) (v4 : Int32) (v5 : Int32) (v6 : Int32) : Sm G rm_Verd_ofEach ad ZF (0, 0) (lpK G rm_Verd_ofEach ad ZF (0, 0) 16 (fun (s : (Int32 × Int32 × Int32)) => [(0, .ref v0), (1, .int v1), (2, .int v2), (3, .int v3), (4, .int s.1), (5, .int s.2.1), (6, .int s.2.2)]) K) 16 [(0, .ref v0), (1, .int v1), (2, .int v2), (3, .int v3), (4, .int v4), (5, .int v5), (6, .int v6)] [] (Verd_ofEach_16_b v0 v1 v2 v3 v4 v5 v6) := by
  unfold Verd_ofEach_16_b
  refine s_iload C rfl dX9_ofEach_16 ?_
  refine s_iload_n C rfl dX9_ofEach_18 ?_
  refine s_icmp_ge C 49 (by decide) dX9_ofEach_19 ?_ ?_
  · refine s_exit ?_
    refine s_iload C rfl dX9_ofEach_49 ?_
    exact s_ireti hR dX9_ofEach_51
  · refine s_iload C rfl dX9_ofEach_22 ?_
    refine s_aload_n C rfl dX9_ofEach_24 ?_
    refine s_iload_n C rfl dX9_ofEach_25 ?_
    refine s_iload C rfl dX9_ofEach_26 ?_
    refine s_ior C dX9_ofEach_28 ?_
    refine s_wI C hV lv_X9_68 (st := [.int v4]) (met_Verd_of v0 (v1 ||| v5)) rf_Verd_ofEach_Verd_of rfl rfl (Nat.le_of_ble_eq_true rfl) dX9_ofEach_29 (fun r6 => ?_)
    refine s_ior C dX9_ofEach_32 ?_
    refine s_leti (fun x7 => ?_)
    refine s_istore C (L' := [(4, .int x7), (0, .ref v0), (1, .int v1), (2, .int v2), (3, .int v3), (5, .int v5), (6, .int v6)]) (by decide) rfl dX9_ofEach_33 ?_
    refine s_iload C rfl dX9_ofEach_35 ?_
    refine s_iload_n C rfl dX9_ofEach_37 ?_
    refine s_uIN C hV ls_X9_71 (st := []) (met_Main_nextSet v5 v2) rf_Verd_ofEach_Main_nextSet rfl rfl (Nat.le_of_ble_eq_true rfl) dX9_ofEach_38 (fun r8 => ?_)
    refine s_istore C (L' := [(5, .int r8), (4, .int x7), (0, .ref v0), (1, .int v1), (2, .int v2), (3, .int v3), (6, .int v6)]) (by decide) rfl dX9_ofEach_41 ?_
    refine s_iinc C (L' := fun x9 => [(6, .int x9), (5, .int r8), (4, .int x7), (0, .ref v0), (1, .int v1), (2, .int v2), (3, .int v3)]) (1 : Int32) (by decide) rfl (by decide) (fun _ => rfl) dX9_ofEach_43 (fun x9 => ?_)
    refine s_goto C 16 (by decide) dX9_ofEach_46 ?_
    exact s_back [0, 1, 2, 3, 4, 5, 6] (x7, r8, x9) rfl
set_option maxRecDepth 20000 in
theorem sm_Verd_ofEach_16 {G : GT} {ad : Nat → Nat} {K : Int32 → Dm → Prop} (C : Cx G rm_Verd_ofEach cX9_ofEach 7 RX9) (hV : Vx G rm_Verd_ofEach ad ZF (0, 0)) (hR : RtI G rm_Verd_ofEach ad ZF (0, 0) cX9_ofEach .int K) (v0 : Nat) (v1 : Int32) (v2 : Int32) (v3 : Int32) (s : (Int32 × Int32 × Int32)) : Sm G rm_Verd_ofEach ad ZF (0, 0) K 16 ((fun (s : (Int32 × Int32 × Int32)) => [(0, .ref v0), (1, .int v1), (2, .int v2), (3, .int v3), (4, .int s.1), (5, .int s.2.1), (6, .int s.2.2)]) s) [] (Verd_ofEach_16 v0 v1 v2 v3 s) :=
  s_loop (en := (fun (s : (Int32 × Int32 × Int32)) => [(0, .ref v0), (1, .int v1), (2, .int v2), (3, .int v3), (4, .int s.1), (5, .int s.2.1), (6, .int s.2.2)])) (fun s => sm_Verd_ofEach_16_b C hV hR v0 v1 v2 v3 s.1 s.2.1 s.2.2) s
set_option maxRecDepth 20000 in
theorem sm_Verd_ofEach {G : GT} {ad : Nat → Nat} {K : Int32 → Dm → Prop} (C : Cx G rm_Verd_ofEach cX9_ofEach 7 RX9) (hV : Vx G rm_Verd_ofEach ad ZF (0, 0)) (hR : RtI G rm_Verd_ofEach ad ZF (0, 0) cX9_ofEach .int K) (v0 : Nat) (v1 : Int32) (v2 : Int32) : Sm G rm_Verd_ofEach ad ZF (0, 0) K 0 [(0, .ref v0), (1, .int v1), (2, .int v2)] [] (Verd_ofEach v0 v1 v2) := by
  unfold Verd_ofEach
  refine s_iconst C (1 : Int32) (by decide) dX9_ofEach_0 ?_
  refine s_iload_n C rfl dX9_ofEach_1 ?_
  refine s_uI C hV ls_X9_63 (st := [.int (1 : Int32)]) (met_JInt_bitCount v2) rf_Verd_ofEach_JInt_bitCount rfl rfl (Nat.le_of_ble_eq_true rfl) dX9_ofEach_2 (fun r1 => ?_)
  refine s_ishl C dX9_ofEach_5 ?_
  refine s_leti (fun x2 => ?_)
  refine s_istore_n C (L' := [(3, .int x2), (0, .ref v0), (1, .int v1), (2, .int v2)]) (by decide) rfl dX9_ofEach_6 ?_
  refine s_iconst C (0 : Int32) (by decide) dX9_ofEach_7 ?_
  refine s_leti (fun x3 => ?_)
  refine s_istore C (L' := [(4, .int x3), (3, .int x2), (0, .ref v0), (1, .int v1), (2, .int v2)]) (by decide) rfl dX9_ofEach_8 ?_
  refine s_iconst C (0 : Int32) (by decide) dX9_ofEach_10 ?_
  refine s_leti (fun x4 => ?_)
  refine s_istore C (L' := [(5, .int x4), (4, .int x3), (3, .int x2), (0, .ref v0), (1, .int v1), (2, .int v2)]) (by decide) rfl dX9_ofEach_11 ?_
  refine s_iconst C (0 : Int32) (by decide) dX9_ofEach_13 ?_
  refine s_leti (fun x5 => ?_)
  refine s_istore C (L' := [(6, .int x5), (5, .int x4), (4, .int x3), (3, .int x2), (0, .ref v0), (1, .int v1), (2, .int v2)]) (by decide) rfl dX9_ofEach_14 ?_
  exact s_weak [0, 1, 2, 3, 4, 5, 6] rfl (sm_Verd_ofEach_16 C hV hR v0 v1 v2 x2 (x3, x4, x5))
set_option maxRecDepth 20000 in
theorem met_Verd_ofEach (v0 : Nat) (v1 : Int32) (v2 : Int32) : MI ZF yX9_ofEach cX9_ofEach 7 .int rm_Verd_ofEach [.ref v0, .int v1, .int v2] (Verd_ofEach v0 v1 v2) :=
  mi_of (L0 := [(0, .ref v0), (1, .int v1), (2, .int v2)]) (by decide +kernel) (Nat.le_of_ble_eq_true rfl) rfl (fun G ad K C hV hR => sm_Verd_ofEach C hV hR v0 v1 v2)

noncomputable def Act_endsEpoch (v0 : Nat) : MM Int32 :=
  mb (gI ZF 1 0 v0) fun x1 =>
  if x1 = (2 : Int32) then
  mz (1 : Int32)
  else
  mb (gI ZF 1 0 v0) fun x2 =>
  if x2 = (3 : Int32) then
  mz (1 : Int32)
  else
  mz (0 : Int32)
set_option maxRecDepth 20000 in
theorem sm_Act_endsEpoch {G : GT} {ad : Nat → Nat} {K : Int32 → Dm → Prop} (C : Cx G rm_Act_endsEpoch cX0_endsEpoch 1 RX0) (hV : Vx G rm_Act_endsEpoch ad ZF (0, 0)) (hR : RtI G rm_Act_endsEpoch ad ZF (0, 0) cX0_endsEpoch .boolean K) (v0 : Nat) : Sm G rm_Act_endsEpoch ad ZF (0, 0) K 0 [(0, .ref v0)] [] (Act_endsEpoch v0) := by
  unfold Act_endsEpoch
  refine s_aload_n C rfl dX0_endsEpoch_0 ?_
  refine s_getI C hV fl_X0_9 (fun _ _ _ => rfl) dX0_endsEpoch_1 (fun x1 => ?_)
  refine s_iconst C (2 : Int32) (by decide) dX0_endsEpoch_4 ?_
  refine s_icmp_eq C 16 (by decide) dX0_endsEpoch_5 ?_ ?_
  · refine s_iconst C (1 : Int32) (by decide) dX0_endsEpoch_16 ?_
    refine s_goto C 21 (by decide) dX0_endsEpoch_17 ?_
    exact s_iretz hR dX0_endsEpoch_21
  · refine s_aload_n C rfl dX0_endsEpoch_8 ?_
    refine s_getI C hV fl_X0_9 (fun _ _ _ => rfl) dX0_endsEpoch_9 (fun x2 => ?_)
    refine s_iconst C (3 : Int32) (by decide) dX0_endsEpoch_12 ?_
    refine s_icmp_ne C 20 (by decide) dX0_endsEpoch_13 ?_ ?_
    · refine s_iconst C (0 : Int32) (by decide) dX0_endsEpoch_20 ?_
      exact s_iretz hR dX0_endsEpoch_21
    · refine s_iconst C (1 : Int32) (by decide) dX0_endsEpoch_16 ?_
      refine s_goto C 21 (by decide) dX0_endsEpoch_17 ?_
      exact s_iretz hR dX0_endsEpoch_21
set_option maxRecDepth 20000 in
theorem met_Act_endsEpoch (v0 : Nat) : MI ZF yX0_endsEpoch cX0_endsEpoch 1 .boolean rm_Act_endsEpoch [.ref v0] (Act_endsEpoch v0) :=
  mi_of (L0 := [(0, .ref v0)]) (by decide +kernel) (Nat.le_of_ble_eq_true rfl) rfl (fun G ad K C hV hR => sm_Act_endsEpoch C hV hR v0)

noncomputable def Verd_firstBroken_172 (v2 : Int32) (v5 : Int32) : MM Int32 :=
  if (v5 &&& v2) = 0 then
  mp ((-1) : Int32)
  else
  mp (0 : Int32)
noncomputable def Verd_firstBroken_154 (v0 : Nat) (v1 : Int32) (v2 : Int32) (v3 : Int32) (v4 : Int32) (v5 : Int32) (v6 : Int32) : MM ((Int32 × Int32 × Int32 × Int32 × Int32) ⊕ Int32) :=
  if (v5 &&& v2) = 0 then
  ml (v6 + (1 : Int32)) fun x16 =>
  mp (.inl (v2, v3, v4, v5, x16))
  else
  mr (
  mp (v6 + (1 : Int32)))
noncomputable def Verd_firstBroken_130 (v0 : Nat) (v1 : Int32) (v2 : Int32) (v3 : Int32) (v4 : Int32) (v6 : Int32) (t0 : Int32) : MM ((Int32 × Int32 × Int32 × Int32 × Int32) ⊕ Int32) :=
  Verd_firstBroken_154 v0 v1 v2 v3 v4 t0 v6
noncomputable def Verd_firstBroken_26_b (v0 : Nat) (v1 : Int32) (v2 : Int32) (v3 : Int32) (v4 : Int32) (v5 : Int32) (v6 : Int32) : MM ((Int32 × Int32 × Int32 × Int32 × Int32) ⊕ Int32) :=
  mb (gR ZF 10 0 v0) fun x8 =>
  mb (gI ZF 6 1 x8) fun x9 =>
  if x9 ≤ v6 then
  mr (Verd_firstBroken_172 v2 v5)
  else
  if (v5 &&& v2) = 0 then
  mb (gR ZF 10 0 v0) fun x10 =>
  mb (gR ZF 6 0 x10) fun x11 =>
  mb (aR ZF 26 x11 v6) fun x12 =>
  ml (v1 &&& ((1 : Int32) <<< (v6 &&& 31))) fun x13 =>
  if x13 = 0 then
  mb (vc ZF 1 x12 (Act_endsEpoch x12)) fun r14 =>
  if r14 = 0 then
  mb (gI ZF 1 0 x12) fun x15 =>
  if x15 = (4 : Int32) then
  mb (gI ZF 1 1 x12) fun x17 =>
  ml (v2 ||| ((1 : Int32) <<< (x17 &&& 31))) fun x18 =>
  Verd_firstBroken_154 v0 v1 x18 v3 v4 v5 v6
  else
  Verd_firstBroken_154 v0 v1 v2 v3 v4 v5 v6
  else
  ml (v3 ||| v4) fun x19 =>
  ml (0 : Int32) fun x20 =>
  mb (gI ZF 1 0 x12) fun x21 =>
  if x21 = (3 : Int32) then
  mb (vc ZF 10 v0 (Verd_of v0 x19)) fun r22 =>
  Verd_firstBroken_130 v0 v1 v2 x19 x20 v6 r22
  else
  Verd_firstBroken_130 v0 v1 v2 x19 x20 v6 v5
  else
  mb (vc ZF 10 v0 (Verd_ofEach v0 (v3 ||| x13) v4)) fun r23 =>
  ml (v5 ||| r23) fun x24 =>
  ml (v4 ||| x13) fun x25 =>
  Verd_firstBroken_154 v0 v1 v2 v3 x25 x24 v6
  else
  mr (Verd_firstBroken_172 v2 v5)
noncomputable def Verd_firstBroken_26 (v0 : Nat) (v1 : Int32) (s : (Int32 × Int32 × Int32 × Int32 × Int32)) : MM Int32 := lo (fun (s : (Int32 × Int32 × Int32 × Int32 × Int32)) => Verd_firstBroken_26_b v0 v1 s.1 s.2.1 s.2.2.1 s.2.2.2.1 s.2.2.2.2) s
noncomputable def Verd_firstBroken (v0 : Nat) (v1 : Int32) : MM Int32 :=
  mb (gR ZF 10 1 v0) fun x1 =>
  mb (gI ZF 8 2 x1) fun x2 =>
  ml (x2 ||| (64 : Int32)) fun x3 =>
  ml (0 : Int32) fun x4 =>
  ml (0 : Int32) fun x5 =>
  mb (vc ZF 10 v0 (Verd_of v0 (0 : Int32))) fun r6 =>
  ml (0 : Int32) fun x7 =>
  Verd_firstBroken_26 v0 v1 (x3, x4, x5, r6, x7)
set_option maxRecDepth 20000 in
theorem sm_Verd_firstBroken_172 {G : GT} {ad : Nat → Nat} {K : Int32 → Dm → Prop} (C : Cx G rm_Verd_firstBroken cX9_firstBroken 9 RX9) (hV : Vx G rm_Verd_firstBroken ad ZF (0, 0)) (hR : RtI G rm_Verd_firstBroken ad ZF (0, 0) cX9_firstBroken .int K) (v2 : Int32) (v5 : Int32) : Sm G rm_Verd_firstBroken ad ZF (0, 0) K 172 [(2, .int v2), (5, .int v5)] [] (Verd_firstBroken_172 v2 v5) := by
  unfold Verd_firstBroken_172
  refine s_iload C rfl dX9_firstBroken_172 ?_
  refine s_iload_n C rfl dX9_firstBroken_174 ?_
  refine s_iand C dX9_firstBroken_175 ?_
  refine s_if_eq C 183 (by decide) dX9_firstBroken_176 ?_ ?_
  · refine s_iconst C ((-1) : Int32) (by decide) dX9_firstBroken_183 ?_
    exact s_ireti hR dX9_firstBroken_184
  · refine s_iconst C (0 : Int32) (by decide) dX9_firstBroken_179 ?_
    refine s_goto C 184 (by decide) dX9_firstBroken_180 ?_
    exact s_ireti hR dX9_firstBroken_184
set_option maxRecDepth 20000 in
theorem sm_Verd_firstBroken_154 {G : GT} {ad : Nat → Nat} {K : Int32 → Dm → Prop} (C : Cx G rm_Verd_firstBroken cX9_firstBroken 9 RX9) (hV : Vx G rm_Verd_firstBroken ad ZF (0, 0)) (hR : RtI G rm_Verd_firstBroken ad ZF (0, 0) cX9_firstBroken .int K) (v0 : Nat) (v1 : Int32) (v2 : Int32) (v3 : Int32) (v4 : Int32) (v5 : Int32) (v6 : Int32) : Sm G rm_Verd_firstBroken ad ZF (0, 0) (lpK G rm_Verd_firstBroken ad ZF (0, 0) 26 (fun (s : (Int32 × Int32 × Int32 × Int32 × Int32)) => [(0, .ref v0), (1, .int v1), (2, .int s.1), (3, .int s.2.1), (4, .int s.2.2.1), (5, .int s.2.2.2.1), (6, .int s.2.2.2.2)]) K) 154 [(0, .ref v0), (1, .int v1), (2, .int v2), (3, .int v3), (4, .int v4), (5, .int v5), (6, .int v6)] [] (Verd_firstBroken_154 v0 v1 v2 v3 v4 v5 v6) := by
  unfold Verd_firstBroken_154
  refine s_iload C rfl dX9_firstBroken_154 ?_
  refine s_iload_n C rfl dX9_firstBroken_156 ?_
  refine s_iand C dX9_firstBroken_157 ?_
  refine s_if_eq C 166 (by decide) dX9_firstBroken_158 ?_ ?_
  · refine s_iinc C (L' := fun x16 => [(6, .int x16), (0, .ref v0), (1, .int v1), (2, .int v2), (3, .int v3), (4, .int v4), (5, .int v5)]) (1 : Int32) (by decide) rfl (by decide) (fun _ => rfl) dX9_firstBroken_166 (fun x16 => ?_)
    refine s_goto C 26 (by decide) dX9_firstBroken_169 ?_
    exact s_back [0, 1, 2, 3, 4, 5, 6] (v2, v3, v4, v5, x16) rfl
  · refine s_exit ?_
    refine s_iload C rfl dX9_firstBroken_161 ?_
    refine s_iconst C (1 : Int32) (by decide) dX9_firstBroken_163 ?_
    refine s_iadd C dX9_firstBroken_164 ?_
    exact s_ireti hR dX9_firstBroken_165
set_option maxRecDepth 20000 in
theorem sm_Verd_firstBroken_130 {G : GT} {ad : Nat → Nat} {K : Int32 → Dm → Prop} (C : Cx G rm_Verd_firstBroken cX9_firstBroken 9 RX9) (hV : Vx G rm_Verd_firstBroken ad ZF (0, 0)) (hR : RtI G rm_Verd_firstBroken ad ZF (0, 0) cX9_firstBroken .int K) (v0 : Nat) (v1 : Int32) (v2 : Int32) (v3 : Int32) (v4 : Int32) (v6 : Int32) (t0 : Int32) : Sm G rm_Verd_firstBroken ad ZF (0, 0) (lpK G rm_Verd_firstBroken ad ZF (0, 0) 26 (fun (s : (Int32 × Int32 × Int32 × Int32 × Int32)) => [(0, .ref v0), (1, .int v1), (2, .int s.1), (3, .int s.2.1), (4, .int s.2.2.1), (5, .int s.2.2.2.1), (6, .int s.2.2.2.2)]) K) 130 [(0, .ref v0), (1, .int v1), (2, .int v2), (3, .int v3), (4, .int v4), (6, .int v6)] [.int t0] (Verd_firstBroken_130 v0 v1 v2 v3 v4 v6 t0) := by
  unfold Verd_firstBroken_130
  refine s_istore C (L' := [(5, .int t0), (0, .ref v0), (1, .int v1), (2, .int v2), (3, .int v3), (4, .int v4), (6, .int v6)]) (by decide) rfl dX9_firstBroken_130 ?_
  refine s_goto C 154 (by decide) dX9_firstBroken_132 ?_
  exact s_weak [0, 1, 2, 3, 4, 5, 6] rfl (sm_Verd_firstBroken_154 C hV hR v0 v1 v2 v3 v4 t0 v6)
set_option maxRecDepth 20000 in
theorem sm_Verd_firstBroken_26_b {G : GT} {ad : Nat → Nat} {K : Int32 → Dm → Prop} (C : Cx G rm_Verd_firstBroken cX9_firstBroken 9 RX9) (hV : Vx G rm_Verd_firstBroken ad ZF (0, 0)) (hR : RtI G rm_Verd_firstBroken ad ZF (0, 0) cX9_firstBroken .int K) (v0 : Nat) (v1 : Int32) (v2 : Int32) (v3 : Int32) (v4 : Int32) (v5 : Int32) (v6 : Int32) : Sm G rm_Verd_firstBroken ad ZF (0, 0) (lpK G rm_Verd_firstBroken ad ZF (0, 0) 26 (fun (s : (Int32 × Int32 × Int32 × Int32 × Int32)) => [(0, .ref v0), (1, .int v1), (2, .int s.1), (3, .int s.2.1), (4, .int s.2.2.1), (5, .int s.2.2.2.1), (6, .int s.2.2.2.2)]) K) 26 [(0, .ref v0), (1, .int v1), (2, .int v2), (3, .int v3), (4, .int v4), (5, .int v5), (6, .int v6)] [] (Verd_firstBroken_26_b v0 v1 v2 v3 v4 v5 v6) := by
  unfold Verd_firstBroken_26_b
  refine s_iload C rfl dX9_firstBroken_26 ?_
  refine s_aload_n C rfl dX9_firstBroken_28 ?_
  refine s_getR C hV fl_X9_12 (fun _ _ _ => rfl) dX9_firstBroken_29 (fun x8 => ?_)
  refine s_getI C hV fl_X9_78 (fun _ _ _ => rfl) dX9_firstBroken_32 (fun x9 => ?_)
  refine s_icmp_ge C 172 (by decide) dX9_firstBroken_35 ?_ ?_
  · refine s_exit ?_
    exact s_weak [2, 5] rfl (sm_Verd_firstBroken_172 C hV hR v2 v5)
  · refine s_iload C rfl dX9_firstBroken_38 ?_
    refine s_iload_n C rfl dX9_firstBroken_40 ?_
    refine s_iand C dX9_firstBroken_41 ?_
    refine s_if_ne C 172 (by decide) dX9_firstBroken_42 ?_ ?_
    · refine s_exit ?_
      exact s_weak [2, 5] rfl (sm_Verd_firstBroken_172 C hV hR v2 v5)
    · refine s_aload_n C rfl dX9_firstBroken_45 ?_
      refine s_getR C hV fl_X9_12 (fun _ _ _ => rfl) dX9_firstBroken_46 (fun x10 => ?_)
      refine s_getR C hV fl_X9_79 (fun _ _ _ => rfl) dX9_firstBroken_49 (fun x11 => ?_)
      refine s_iload C rfl dX9_firstBroken_52 ?_
      refine s_aaloadA C hV dX9_firstBroken_54 (fun x12 => ?_)
      refine s_astore C (L' := [(7, .ref x12), (0, .ref v0), (1, .int v1), (2, .int v2), (3, .int v3), (4, .int v4), (5, .int v5), (6, .int v6)]) (by decide) rfl dX9_firstBroken_55 ?_
      refine s_iload_n C rfl dX9_firstBroken_57 ?_
      refine s_iconst C (1 : Int32) (by decide) dX9_firstBroken_58 ?_
      refine s_iload C rfl dX9_firstBroken_59 ?_
      refine s_ishl C dX9_firstBroken_61 ?_
      refine s_iand C dX9_firstBroken_62 ?_
      refine s_leti (fun x13 => ?_)
      refine s_istore C (L' := [(8, .int x13), (7, .ref x12), (0, .ref v0), (1, .int v1), (2, .int v2), (3, .int v3), (4, .int v4), (5, .int v5), (6, .int v6)]) (by decide) rfl dX9_firstBroken_63 ?_
      refine s_iload C rfl dX9_firstBroken_65 ?_
      refine s_if_eq C 95 (by decide) dX9_firstBroken_67 ?_ ?_
      · refine s_aload C rfl dX9_firstBroken_95 ?_
        refine s_wI C hV lv_X9_86 (st := []) (met_Act_endsEpoch x12) rf_Verd_firstBroken_Act_endsEpoch rfl rfl (Nat.le_of_ble_eq_true rfl) dX9_firstBroken_97 (fun r14 => ?_)
        refine s_if_eq C 135 (by decide) dX9_firstBroken_100 ?_ ?_
        · refine s_aload C rfl dX9_firstBroken_135 ?_
          refine s_getI C hV fl_X9_92 (fun _ _ _ => rfl) dX9_firstBroken_137 (fun x15 => ?_)
          refine s_iconst C (4 : Int32) (by decide) dX9_firstBroken_140 ?_
          refine s_icmp_ne C 154 (by decide) dX9_firstBroken_141 ?_ ?_
          · exact s_weak [0, 1, 2, 3, 4, 5, 6] rfl (sm_Verd_firstBroken_154 C hV hR v0 v1 v2 v3 v4 v5 v6)
          · refine s_iload_n C rfl dX9_firstBroken_144 ?_
            refine s_iconst C (1 : Int32) (by decide) dX9_firstBroken_145 ?_
            refine s_aload C rfl dX9_firstBroken_146 ?_
            refine s_getI C hV fl_X9_95 (fun _ _ _ => rfl) dX9_firstBroken_148 (fun x17 => ?_)
            refine s_ishl C dX9_firstBroken_151 ?_
            refine s_ior C dX9_firstBroken_152 ?_
            refine s_leti (fun x18 => ?_)
            refine s_istore_n C (L' := [(2, .int x18), (8, .int x13), (7, .ref x12), (0, .ref v0), (1, .int v1), (3, .int v3), (4, .int v4), (5, .int v5), (6, .int v6)]) (by decide) rfl dX9_firstBroken_153 ?_
            exact s_weak [0, 1, 2, 3, 4, 5, 6] rfl (sm_Verd_firstBroken_154 C hV hR v0 v1 x18 v3 v4 v5 v6)
        · refine s_iload_n C rfl dX9_firstBroken_103 ?_
          refine s_iload C rfl dX9_firstBroken_104 ?_
          refine s_ior C dX9_firstBroken_106 ?_
          refine s_leti (fun x19 => ?_)
          refine s_istore_n C (L' := [(3, .int x19), (8, .int x13), (7, .ref x12), (0, .ref v0), (1, .int v1), (2, .int v2), (4, .int v4), (5, .int v5), (6, .int v6)]) (by decide) rfl dX9_firstBroken_107 ?_
          refine s_iconst C (0 : Int32) (by decide) dX9_firstBroken_108 ?_
          refine s_leti (fun x20 => ?_)
          refine s_istore C (L' := [(4, .int x20), (3, .int x19), (8, .int x13), (7, .ref x12), (0, .ref v0), (1, .int v1), (2, .int v2), (5, .int v5), (6, .int v6)]) (by decide) rfl dX9_firstBroken_109 ?_
          refine s_aload C rfl dX9_firstBroken_111 ?_
          refine s_getI C hV fl_X9_92 (fun _ _ _ => rfl) dX9_firstBroken_113 (fun x21 => ?_)
          refine s_iconst C (3 : Int32) (by decide) dX9_firstBroken_116 ?_
          refine s_icmp_ne C 128 (by decide) dX9_firstBroken_117 ?_ ?_
          · refine s_iload C rfl dX9_firstBroken_128 ?_
            exact s_weak [0, 1, 2, 3, 4, 6] rfl (sm_Verd_firstBroken_130 C hV hR v0 v1 v2 x19 x20 v6 v5)
          · refine s_aload_n C rfl dX9_firstBroken_120 ?_
            refine s_iload_n C rfl dX9_firstBroken_121 ?_
            refine s_wI C hV lv_X9_68 (st := []) (met_Verd_of v0 x19) rf_Verd_firstBroken_Verd_of rfl rfl (Nat.le_of_ble_eq_true rfl) dX9_firstBroken_122 (fun r22 => ?_)
            refine s_goto C 130 (by decide) dX9_firstBroken_125 ?_
            exact s_weak [0, 1, 2, 3, 4, 6] rfl (sm_Verd_firstBroken_130 C hV hR v0 v1 v2 x19 x20 v6 r22)
      · refine s_iload C rfl dX9_firstBroken_70 ?_
        refine s_aload_n C rfl dX9_firstBroken_72 ?_
        refine s_iload_n C rfl dX9_firstBroken_73 ?_
        refine s_iload C rfl dX9_firstBroken_74 ?_
        refine s_ior C dX9_firstBroken_76 ?_
        refine s_iload C rfl dX9_firstBroken_77 ?_
        refine s_wI C hV lv_X9_83 (st := [.int v5]) (met_Verd_ofEach v0 (v3 ||| x13) v4) rf_Verd_firstBroken_Verd_ofEach rfl rfl (Nat.le_of_ble_eq_true rfl) dX9_firstBroken_79 (fun r23 => ?_)
        refine s_ior C dX9_firstBroken_82 ?_
        refine s_leti (fun x24 => ?_)
        refine s_istore C (L' := [(5, .int x24), (8, .int x13), (7, .ref x12), (0, .ref v0), (1, .int v1), (2, .int v2), (3, .int v3), (4, .int v4), (6, .int v6)]) (by decide) rfl dX9_firstBroken_83 ?_
        refine s_iload C rfl dX9_firstBroken_85 ?_
        refine s_iload C rfl dX9_firstBroken_87 ?_
        refine s_ior C dX9_firstBroken_89 ?_
        refine s_leti (fun x25 => ?_)
        refine s_istore C (L' := [(4, .int x25), (5, .int x24), (8, .int x13), (7, .ref x12), (0, .ref v0), (1, .int v1), (2, .int v2), (3, .int v3), (6, .int v6)]) (by decide) rfl dX9_firstBroken_90 ?_
        refine s_goto C 154 (by decide) dX9_firstBroken_92 ?_
        exact s_weak [0, 1, 2, 3, 4, 5, 6] rfl (sm_Verd_firstBroken_154 C hV hR v0 v1 v2 v3 x25 x24 v6)
set_option maxRecDepth 20000 in
theorem sm_Verd_firstBroken_26 {G : GT} {ad : Nat → Nat} {K : Int32 → Dm → Prop} (C : Cx G rm_Verd_firstBroken cX9_firstBroken 9 RX9) (hV : Vx G rm_Verd_firstBroken ad ZF (0, 0)) (hR : RtI G rm_Verd_firstBroken ad ZF (0, 0) cX9_firstBroken .int K) (v0 : Nat) (v1 : Int32) (s : (Int32 × Int32 × Int32 × Int32 × Int32)) : Sm G rm_Verd_firstBroken ad ZF (0, 0) K 26 ((fun (s : (Int32 × Int32 × Int32 × Int32 × Int32)) => [(0, .ref v0), (1, .int v1), (2, .int s.1), (3, .int s.2.1), (4, .int s.2.2.1), (5, .int s.2.2.2.1), (6, .int s.2.2.2.2)]) s) [] (Verd_firstBroken_26 v0 v1 s) :=
  s_loop (en := (fun (s : (Int32 × Int32 × Int32 × Int32 × Int32)) => [(0, .ref v0), (1, .int v1), (2, .int s.1), (3, .int s.2.1), (4, .int s.2.2.1), (5, .int s.2.2.2.1), (6, .int s.2.2.2.2)])) (fun s => sm_Verd_firstBroken_26_b C hV hR v0 v1 s.1 s.2.1 s.2.2.1 s.2.2.2.1 s.2.2.2.2) s
set_option maxRecDepth 20000 in
theorem sm_Verd_firstBroken {G : GT} {ad : Nat → Nat} {K : Int32 → Dm → Prop} (C : Cx G rm_Verd_firstBroken cX9_firstBroken 9 RX9) (hV : Vx G rm_Verd_firstBroken ad ZF (0, 0)) (hR : RtI G rm_Verd_firstBroken ad ZF (0, 0) cX9_firstBroken .int K) (v0 : Nat) (v1 : Int32) : Sm G rm_Verd_firstBroken ad ZF (0, 0) K 0 [(0, .ref v0), (1, .int v1)] [] (Verd_firstBroken v0 v1) := by
  unfold Verd_firstBroken
  refine s_aload_n C rfl dX9_firstBroken_0 ?_
  refine s_getR C hV fl_X9_21 (fun _ _ _ => rfl) dX9_firstBroken_1 (fun x1 => ?_)
  refine s_getI C hV fl_X9_75 (fun _ _ _ => rfl) dX9_firstBroken_4 (fun x2 => ?_)
  refine s_bipush C (64 : Int32) (by decide) dX9_firstBroken_7 ?_
  refine s_ior C dX9_firstBroken_9 ?_
  refine s_leti (fun x3 => ?_)
  refine s_istore_n C (L' := [(2, .int x3), (0, .ref v0), (1, .int v1)]) (by decide) rfl dX9_firstBroken_10 ?_
  refine s_iconst C (0 : Int32) (by decide) dX9_firstBroken_11 ?_
  refine s_leti (fun x4 => ?_)
  refine s_istore_n C (L' := [(3, .int x4), (2, .int x3), (0, .ref v0), (1, .int v1)]) (by decide) rfl dX9_firstBroken_12 ?_
  refine s_iconst C (0 : Int32) (by decide) dX9_firstBroken_13 ?_
  refine s_leti (fun x5 => ?_)
  refine s_istore C (L' := [(4, .int x5), (3, .int x4), (2, .int x3), (0, .ref v0), (1, .int v1)]) (by decide) rfl dX9_firstBroken_14 ?_
  refine s_aload_n C rfl dX9_firstBroken_16 ?_
  refine s_iconst C (0 : Int32) (by decide) dX9_firstBroken_17 ?_
  refine s_wI C hV lv_X9_68 (st := []) (met_Verd_of v0 (0 : Int32)) rf_Verd_firstBroken_Verd_of rfl rfl (Nat.le_of_ble_eq_true rfl) dX9_firstBroken_18 (fun r6 => ?_)
  refine s_istore C (L' := [(5, .int r6), (4, .int x5), (3, .int x4), (2, .int x3), (0, .ref v0), (1, .int v1)]) (by decide) rfl dX9_firstBroken_21 ?_
  refine s_iconst C (0 : Int32) (by decide) dX9_firstBroken_23 ?_
  refine s_leti (fun x7 => ?_)
  refine s_istore C (L' := [(6, .int x7), (5, .int r6), (4, .int x5), (3, .int x4), (2, .int x3), (0, .ref v0), (1, .int v1)]) (by decide) rfl dX9_firstBroken_24 ?_
  exact s_weak [0, 1, 2, 3, 4, 5, 6] rfl (sm_Verd_firstBroken_26 C hV hR v0 v1 (x3, x4, x5, r6, x7))
set_option maxRecDepth 20000 in
theorem met_Verd_firstBroken (v0 : Nat) (v1 : Int32) : MI ZF yX9_firstBroken cX9_firstBroken 9 .int rm_Verd_firstBroken [.ref v0, .int v1] (Verd_firstBroken v0 v1) :=
  mi_of (L0 := [(0, .ref v0), (1, .int v1)]) (by decide +kernel) (Nat.le_of_ble_eq_true rfl) rfl (fun G ad K C hV hR => sm_Verd_firstBroken C hV hR v0 v1)

noncomputable def JArr_fill_5_b (v0 : Nat) (v1 : Int32) (v2 : Int32) (v3 : Int32) : MM (Int32 ⊕ Unit) :=
  if v3 ≤ v2 then
  mr (
  mp ())
  else
  mb (sI ZF v0 v2 v1) fun _ =>
  ml (v2 + (1 : Int32)) fun x3 =>
  mp (.inl x3)
noncomputable def JArr_fill_5 (v0 : Nat) (v1 : Int32) (v3 : Int32) (s : Int32) : MM Unit := lo (fun (s : Int32) => JArr_fill_5_b v0 v1 s v3) s
noncomputable def JArr_fill (v0 : Nat) (v1 : Int32) : MM Unit :=
  ml (0 : Int32) fun x1 =>
  mb (al ZF 23 v0) fun x2 =>
  JArr_fill_5 v0 v1 x2 x1
set_option maxRecDepth 20000 in
theorem sm_JArr_fill_5_b {G : GT} {ad : Nat → Nat} {K : Unit → Dm → Prop} (C : Cx G rm_JArr_fill cJ7_fill_53178 4 RJ7) (hV : Vx G rm_JArr_fill ad ZF (0, 0)) (hR : RtV G rm_JArr_fill ad ZF (0, 0) cJ7_fill_53178 K) (v0 : Nat) (v1 : Int32) (v2 : Int32) (v3 : Int32) : Sm G rm_JArr_fill ad ZF (0, 0) (lpK G rm_JArr_fill ad ZF (0, 0) 5 (fun (s : Int32) => [(0, .ref v0), (1, .int v1), (2, .int s), (3, .int v3)]) K) 5 [(0, .ref v0), (1, .int v1), (2, .int v2), (3, .int v3)] [] (JArr_fill_5_b v0 v1 v2 v3) := by
  unfold JArr_fill_5_b
  refine s_iload_n C rfl dJ7_fill_53178_5 ?_
  refine s_iload_n C rfl dJ7_fill_53178_6 ?_
  refine s_icmp_ge C 20 (by decide) dJ7_fill_53178_7 ?_ ?_
  · refine s_exit ?_
    exact s_vret hR dJ7_fill_53178_20
  · refine s_aload_n C rfl dJ7_fill_53178_10 ?_
    refine s_iload_n C rfl dJ7_fill_53178_11 ?_
    refine s_iload_n C rfl dJ7_fill_53178_12 ?_
    refine s_iastore C hV dJ7_fill_53178_13 ?_
    refine s_iinc C (L' := fun x3 => [(2, .int x3), (0, .ref v0), (1, .int v1), (3, .int v3)]) (1 : Int32) (by decide) rfl (by decide) (fun _ => rfl) dJ7_fill_53178_14 (fun x3 => ?_)
    refine s_goto C 5 (by decide) dJ7_fill_53178_17 ?_
    exact s_back [0, 1, 2, 3] x3 rfl
set_option maxRecDepth 20000 in
theorem sm_JArr_fill_5 {G : GT} {ad : Nat → Nat} {K : Unit → Dm → Prop} (C : Cx G rm_JArr_fill cJ7_fill_53178 4 RJ7) (hV : Vx G rm_JArr_fill ad ZF (0, 0)) (hR : RtV G rm_JArr_fill ad ZF (0, 0) cJ7_fill_53178 K) (v0 : Nat) (v1 : Int32) (v3 : Int32) (s : Int32) : Sm G rm_JArr_fill ad ZF (0, 0) K 5 ((fun (s : Int32) => [(0, .ref v0), (1, .int v1), (2, .int s), (3, .int v3)]) s) [] (JArr_fill_5 v0 v1 v3 s) :=
  s_loop (en := (fun (s : Int32) => [(0, .ref v0), (1, .int v1), (2, .int s), (3, .int v3)])) (fun s => sm_JArr_fill_5_b C hV hR v0 v1 s v3) s
set_option maxRecDepth 20000 in
theorem sm_JArr_fill {G : GT} {ad : Nat → Nat} {K : Unit → Dm → Prop} (C : Cx G rm_JArr_fill cJ7_fill_53178 4 RJ7) (hV : Vx G rm_JArr_fill ad ZF (0, 0)) (hR : RtV G rm_JArr_fill ad ZF (0, 0) cJ7_fill_53178 K) (v0 : Nat) (v1 : Int32) : Sm G rm_JArr_fill ad ZF (0, 0) K 0 [(0, .ref v0), (1, .int v1)] [] (JArr_fill v0 v1) := by
  unfold JArr_fill
  refine s_iconst C (0 : Int32) (by decide) dJ7_fill_53178_0 ?_
  refine s_leti (fun x1 => ?_)
  refine s_istore_n C (L' := [(2, .int x1), (0, .ref v0), (1, .int v1)]) (by decide) rfl dJ7_fill_53178_1 ?_
  refine s_aload_n C rfl dJ7_fill_53178_2 ?_
  refine s_alenI C hV dJ7_fill_53178_3 (fun x2 => ?_)
  refine s_istore_n C (L' := [(3, .int x2), (2, .int x1), (0, .ref v0), (1, .int v1)]) (by decide) rfl dJ7_fill_53178_4 ?_
  exact s_weak [0, 1, 2, 3] rfl (sm_JArr_fill_5 C hV hR v0 v1 x2 x1)
set_option maxRecDepth 20000 in
theorem met_JArr_fill (v0 : Nat) (v1 : Int32) : MV ZF yJ7_fill_53178 cJ7_fill_53178 4 rm_JArr_fill [.ref v0, .int v1] (JArr_fill v0 v1) :=
  mv_of (L0 := [(0, .ref v0), (1, .int v1)]) (by decide +kernel) (Nat.le_of_ble_eq_true rfl) rfl (fun G ad K C hV hR => sm_JArr_fill C hV hR v0 v1)

noncomputable def Prog_isWrite (v0 : Nat) (v1 : Int32) : MM Int32 :=
  mb (vc ZF 6 v0 (Prog_has v0 v1)) fun r1 =>
  if r1 = 0 then
  mz (0 : Int32)
  else
  mb (gR ZF 6 0 v0) fun x2 =>
  mb (aR ZF 26 x2 v1) fun x3 =>
  mb (vc ZF 1 x3 (Act_writes x3)) fun r4 =>
  if r4 = 0 then
  mz (0 : Int32)
  else
  mz (1 : Int32)
set_option maxRecDepth 20000 in
theorem sm_Prog_isWrite {G : GT} {ad : Nat → Nat} {K : Int32 → Dm → Prop} (C : Cx G rm_Prog_isWrite cX5_isWrite 2 RX5) (hV : Vx G rm_Prog_isWrite ad ZF (0, 0)) (hR : RtI G rm_Prog_isWrite ad ZF (0, 0) cX5_isWrite .boolean K) (v0 : Nat) (v1 : Int32) : Sm G rm_Prog_isWrite ad ZF (0, 0) K 0 [(0, .ref v0), (1, .int v1)] [] (Prog_isWrite v0 v1) := by
  unfold Prog_isWrite
  refine s_aload_n C rfl dX5_isWrite_0 ?_
  refine s_iload_n C rfl dX5_isWrite_1 ?_
  refine s_wI C hV lv_X5_26 (st := []) (met_Prog_has v0 v1) rf_Prog_isWrite_Prog_has rfl rfl (Nat.le_of_ble_eq_true rfl) dX5_isWrite_2 (fun r1 => ?_)
  refine s_if_eq C 24 (by decide) dX5_isWrite_5 ?_ ?_
  · refine s_iconst C (0 : Int32) (by decide) dX5_isWrite_24 ?_
    exact s_iretz hR dX5_isWrite_25
  · refine s_aload_n C rfl dX5_isWrite_8 ?_
    refine s_getR C hV fl_X5_11 (fun _ _ _ => rfl) dX5_isWrite_9 (fun x2 => ?_)
    refine s_iload_n C rfl dX5_isWrite_12 ?_
    refine s_aaloadA C hV dX5_isWrite_13 (fun x3 => ?_)
    refine s_wI C hV lv_X5_30 (st := []) (met_Act_writes x3) rf_Prog_isWrite_Act_writes rfl rfl (Nat.le_of_ble_eq_true rfl) dX5_isWrite_14 (fun r4 => ?_)
    refine s_if_eq C 24 (by decide) dX5_isWrite_17 ?_ ?_
    · refine s_iconst C (0 : Int32) (by decide) dX5_isWrite_24 ?_
      exact s_iretz hR dX5_isWrite_25
    · refine s_iconst C (1 : Int32) (by decide) dX5_isWrite_20 ?_
      refine s_goto C 25 (by decide) dX5_isWrite_21 ?_
      exact s_iretz hR dX5_isWrite_25
set_option maxRecDepth 20000 in
theorem met_Prog_isWrite (v0 : Nat) (v1 : Int32) : MI ZF yX5_isWrite cX5_isWrite 2 .boolean rm_Prog_isWrite [.ref v0, .int v1] (Prog_isWrite v0 v1) :=
  mi_of (L0 := [(0, .ref v0), (1, .int v1)]) (by decide +kernel) (Nat.le_of_ble_eq_true rfl) rfl (fun G ad K C hV hR => sm_Prog_isWrite C hV hR v0 v1)

noncomputable def Prog_epochStart_2_b (v0 : Nat) (v2 : Int32) : MM (Int32 ⊕ Int32) :=
  if v2 ≤ 0 then
  mr (
  mp v2)
  else
  mb (gR ZF 6 0 v0) fun x1 =>
  mb (aR ZF 26 x1 (v2 - (1 : Int32))) fun x2 =>
  mb (vc ZF 1 x2 (Act_endsEpoch x2)) fun r3 =>
  if r3 = 0 then
  ml (v2 + (-1)) fun x4 =>
  mp (.inl x4)
  else
  mr (
  mp v2)
noncomputable def Prog_epochStart_2 (v0 : Nat) (s : Int32) : MM Int32 := lo (fun (s : Int32) => Prog_epochStart_2_b v0 s) s
noncomputable def Prog_epochStart (v0 : Nat) (v1 : Int32) : MM Int32 :=
  Prog_epochStart_2 v0 v1
set_option maxRecDepth 20000 in
theorem sm_Prog_epochStart_2_b {G : GT} {ad : Nat → Nat} {K : Int32 → Dm → Prop} (C : Cx G rm_Prog_epochStart cX5_epochStart 3 RX5) (hV : Vx G rm_Prog_epochStart ad ZF (0, 0)) (hR : RtI G rm_Prog_epochStart ad ZF (0, 0) cX5_epochStart .int K) (v0 : Nat) (v2 : Int32) : Sm G rm_Prog_epochStart ad ZF (0, 0) (lpK G rm_Prog_epochStart ad ZF (0, 0) 2 (fun (s : Int32) => [(0, .ref v0), (2, .int s)]) K) 2 [(0, .ref v0), (2, .int v2)] [] (Prog_epochStart_2_b v0 v2) := by
  unfold Prog_epochStart_2_b
  refine s_iload_n C rfl dX5_epochStart_2 ?_
  refine s_if_le C 26 (by decide) dX5_epochStart_3 ?_ ?_
  · refine s_exit ?_
    refine s_iload_n C rfl dX5_epochStart_26 ?_
    exact s_ireti hR dX5_epochStart_27
  · refine s_aload_n C rfl dX5_epochStart_6 ?_
    refine s_getR C hV fl_X5_11 (fun _ _ _ => rfl) dX5_epochStart_7 (fun x1 => ?_)
    refine s_iload_n C rfl dX5_epochStart_10 ?_
    refine s_iconst C (1 : Int32) (by decide) dX5_epochStart_11 ?_
    refine s_isub C dX5_epochStart_12 ?_
    refine s_aaloadA C hV dX5_epochStart_13 (fun x2 => ?_)
    refine s_wI C hV lv_X5_38 (st := []) (met_Act_endsEpoch x2) rf_Prog_epochStart_Act_endsEpoch rfl rfl (Nat.le_of_ble_eq_true rfl) dX5_epochStart_14 (fun r3 => ?_)
    refine s_if_ne C 26 (by decide) dX5_epochStart_17 ?_ ?_
    · refine s_exit ?_
      refine s_iload_n C rfl dX5_epochStart_26 ?_
      exact s_ireti hR dX5_epochStart_27
    · refine s_iinc C (L' := fun x4 => [(2, .int x4), (0, .ref v0)]) (-1) (by decide) rfl (by decide) (fun _ => rfl) dX5_epochStart_20 (fun x4 => ?_)
      refine s_goto C 2 (by decide) dX5_epochStart_23 ?_
      exact s_back [0, 2] x4 rfl
set_option maxRecDepth 20000 in
theorem sm_Prog_epochStart_2 {G : GT} {ad : Nat → Nat} {K : Int32 → Dm → Prop} (C : Cx G rm_Prog_epochStart cX5_epochStart 3 RX5) (hV : Vx G rm_Prog_epochStart ad ZF (0, 0)) (hR : RtI G rm_Prog_epochStart ad ZF (0, 0) cX5_epochStart .int K) (v0 : Nat) (s : Int32) : Sm G rm_Prog_epochStart ad ZF (0, 0) K 2 ((fun (s : Int32) => [(0, .ref v0), (2, .int s)]) s) [] (Prog_epochStart_2 v0 s) :=
  s_loop (en := (fun (s : Int32) => [(0, .ref v0), (2, .int s)])) (fun s => sm_Prog_epochStart_2_b C hV hR v0 s) s
set_option maxRecDepth 20000 in
theorem sm_Prog_epochStart {G : GT} {ad : Nat → Nat} {K : Int32 → Dm → Prop} (C : Cx G rm_Prog_epochStart cX5_epochStart 3 RX5) (hV : Vx G rm_Prog_epochStart ad ZF (0, 0)) (hR : RtI G rm_Prog_epochStart ad ZF (0, 0) cX5_epochStart .int K) (v0 : Nat) (v1 : Int32) : Sm G rm_Prog_epochStart ad ZF (0, 0) K 0 [(0, .ref v0), (1, .int v1)] [] (Prog_epochStart v0 v1) := by
  unfold Prog_epochStart
  refine s_iload_n C rfl dX5_epochStart_0 ?_
  refine s_istore_n C (L' := [(2, .int v1), (0, .ref v0), (1, .int v1)]) (by decide) rfl dX5_epochStart_1 ?_
  exact s_weak [0, 2] rfl (sm_Prog_epochStart_2 C hV hR v0 v1)
set_option maxRecDepth 20000 in
theorem met_Prog_epochStart (v0 : Nat) (v1 : Int32) : MI ZF yX5_epochStart cX5_epochStart 3 .int rm_Prog_epochStart [.ref v0, .int v1] (Prog_epochStart v0 v1) :=
  mi_of (L0 := [(0, .ref v0), (1, .int v1)]) (by decide +kernel) (Nat.le_of_ble_eq_true rfl) rfl (fun G ad K C hV hR => sm_Prog_epochStart C hV hR v0 v1)

noncomputable def Prog_epochEnd_2_b (v0 : Nat) (v2 : Int32) : MM (Int32 ⊕ Int32) :=
  mb (gI ZF 6 1 v0) fun x1 =>
  if x1 ≤ v2 then
  mr (
  mp v2)
  else
  mb (gR ZF 6 0 v0) fun x2 =>
  mb (aR ZF 26 x2 v2) fun x3 =>
  mb (vc ZF 1 x3 (Act_endsEpoch x3)) fun r4 =>
  if r4 = 0 then
  ml (v2 + (1 : Int32)) fun x5 =>
  mp (.inl x5)
  else
  mr (
  mp v2)
noncomputable def Prog_epochEnd_2 (v0 : Nat) (s : Int32) : MM Int32 := lo (fun (s : Int32) => Prog_epochEnd_2_b v0 s) s
noncomputable def Prog_epochEnd (v0 : Nat) (v1 : Int32) : MM Int32 :=
  Prog_epochEnd_2 v0 v1
set_option maxRecDepth 20000 in
theorem sm_Prog_epochEnd_2_b {G : GT} {ad : Nat → Nat} {K : Int32 → Dm → Prop} (C : Cx G rm_Prog_epochEnd cX5_epochEnd 3 RX5) (hV : Vx G rm_Prog_epochEnd ad ZF (0, 0)) (hR : RtI G rm_Prog_epochEnd ad ZF (0, 0) cX5_epochEnd .int K) (v0 : Nat) (v2 : Int32) : Sm G rm_Prog_epochEnd ad ZF (0, 0) (lpK G rm_Prog_epochEnd ad ZF (0, 0) 2 (fun (s : Int32) => [(0, .ref v0), (2, .int s)]) K) 2 [(0, .ref v0), (2, .int v2)] [] (Prog_epochEnd_2_b v0 v2) := by
  unfold Prog_epochEnd_2_b
  refine s_iload_n C rfl dX5_epochEnd_2 ?_
  refine s_aload_n C rfl dX5_epochEnd_3 ?_
  refine s_getI C hV fl_X5_17 (fun _ _ _ => rfl) dX5_epochEnd_4 (fun x1 => ?_)
  refine s_icmp_ge C 28 (by decide) dX5_epochEnd_7 ?_ ?_
  · refine s_exit ?_
    refine s_iload_n C rfl dX5_epochEnd_28 ?_
    exact s_ireti hR dX5_epochEnd_29
  · refine s_aload_n C rfl dX5_epochEnd_10 ?_
    refine s_getR C hV fl_X5_11 (fun _ _ _ => rfl) dX5_epochEnd_11 (fun x2 => ?_)
    refine s_iload_n C rfl dX5_epochEnd_14 ?_
    refine s_aaloadA C hV dX5_epochEnd_15 (fun x3 => ?_)
    refine s_wI C hV lv_X5_38 (st := []) (met_Act_endsEpoch x3) rf_Prog_epochEnd_Act_endsEpoch rfl rfl (Nat.le_of_ble_eq_true rfl) dX5_epochEnd_16 (fun r4 => ?_)
    refine s_if_ne C 28 (by decide) dX5_epochEnd_19 ?_ ?_
    · refine s_exit ?_
      refine s_iload_n C rfl dX5_epochEnd_28 ?_
      exact s_ireti hR dX5_epochEnd_29
    · refine s_iinc C (L' := fun x5 => [(2, .int x5), (0, .ref v0)]) (1 : Int32) (by decide) rfl (by decide) (fun _ => rfl) dX5_epochEnd_22 (fun x5 => ?_)
      refine s_goto C 2 (by decide) dX5_epochEnd_25 ?_
      exact s_back [0, 2] x5 rfl
set_option maxRecDepth 20000 in
theorem sm_Prog_epochEnd_2 {G : GT} {ad : Nat → Nat} {K : Int32 → Dm → Prop} (C : Cx G rm_Prog_epochEnd cX5_epochEnd 3 RX5) (hV : Vx G rm_Prog_epochEnd ad ZF (0, 0)) (hR : RtI G rm_Prog_epochEnd ad ZF (0, 0) cX5_epochEnd .int K) (v0 : Nat) (s : Int32) : Sm G rm_Prog_epochEnd ad ZF (0, 0) K 2 ((fun (s : Int32) => [(0, .ref v0), (2, .int s)]) s) [] (Prog_epochEnd_2 v0 s) :=
  s_loop (en := (fun (s : Int32) => [(0, .ref v0), (2, .int s)])) (fun s => sm_Prog_epochEnd_2_b C hV hR v0 s) s
set_option maxRecDepth 20000 in
theorem sm_Prog_epochEnd {G : GT} {ad : Nat → Nat} {K : Int32 → Dm → Prop} (C : Cx G rm_Prog_epochEnd cX5_epochEnd 3 RX5) (hV : Vx G rm_Prog_epochEnd ad ZF (0, 0)) (hR : RtI G rm_Prog_epochEnd ad ZF (0, 0) cX5_epochEnd .int K) (v0 : Nat) (v1 : Int32) : Sm G rm_Prog_epochEnd ad ZF (0, 0) K 0 [(0, .ref v0), (1, .int v1)] [] (Prog_epochEnd v0 v1) := by
  unfold Prog_epochEnd
  refine s_iload_n C rfl dX5_epochEnd_0 ?_
  refine s_istore_n C (L' := [(2, .int v1), (0, .ref v0), (1, .int v1)]) (by decide) rfl dX5_epochEnd_1 ?_
  exact s_weak [0, 2] rfl (sm_Prog_epochEnd_2 C hV hR v0 v1)
set_option maxRecDepth 20000 in
theorem met_Prog_epochEnd (v0 : Nat) (v1 : Int32) : MI ZF yX5_epochEnd cX5_epochEnd 3 .int rm_Prog_epochEnd [.ref v0, .int v1] (Prog_epochEnd v0 v1) :=
  mi_of (L0 := [(0, .ref v0), (1, .int v1)]) (by decide +kernel) (Nat.le_of_ble_eq_true rfl) rfl (fun G ad K C hV hR => sm_Prog_epochEnd C hV hR v0 v1)

noncomputable def Prog_epochsWithWrites_52 (v0 : Nat) (v1 : Int32) (v2 : Int32) (v3 : Int32) : MM ((Int32 × Int32 × Int32) ⊕ Int32) :=
  ml (v3 + (1 : Int32)) fun x11 =>
  mp (.inl (v1, v2, x11))
noncomputable def Prog_epochsWithWrites_38 (v0 : Nat) (v1 : Int32) (v2 : Int32) (v3 : Int32) : MM ((Int32 × Int32 × Int32) ⊕ Int32) :=
  mb (gR ZF 6 0 v0) fun x8 =>
  mb (aR ZF 26 x8 v3) fun x9 =>
  mb (vc ZF 1 x9 (Act_endsEpoch x9)) fun r10 =>
  if r10 = 0 then
  Prog_epochsWithWrites_52 v0 v1 v2 v3
  else
  ml (0 : Int32) fun x12 =>
  Prog_epochsWithWrites_52 v0 v1 x12 v3
noncomputable def Prog_epochsWithWrites_6_b (v0 : Nat) (v1 : Int32) (v2 : Int32) (v3 : Int32) : MM ((Int32 × Int32 × Int32) ⊕ Int32) :=
  mb (gI ZF 6 1 v0) fun x4 =>
  if x4 ≤ v3 then
  mr (
  mp v1)
  else
  mb (gR ZF 6 0 v0) fun x5 =>
  mb (aR ZF 26 x5 v3) fun x6 =>
  mb (vc ZF 1 x6 (Act_writes x6)) fun r7 =>
  if r7 = 0 then
  Prog_epochsWithWrites_38 v0 v1 v2 v3
  else
  if v2 = 0 then
  ml (v1 + (1 : Int32)) fun x13 =>
  ml (1 : Int32) fun x14 =>
  Prog_epochsWithWrites_52 v0 x13 x14 v3
  else
  Prog_epochsWithWrites_38 v0 v1 v2 v3
noncomputable def Prog_epochsWithWrites_6 (v0 : Nat) (s : (Int32 × Int32 × Int32)) : MM Int32 := lo (fun (s : (Int32 × Int32 × Int32)) => Prog_epochsWithWrites_6_b v0 s.1 s.2.1 s.2.2) s
noncomputable def Prog_epochsWithWrites (v0 : Nat) : MM Int32 :=
  ml (0 : Int32) fun x1 =>
  ml (0 : Int32) fun x2 =>
  ml (0 : Int32) fun x3 =>
  Prog_epochsWithWrites_6 v0 (x1, x2, x3)
set_option maxRecDepth 20000 in
theorem sm_Prog_epochsWithWrites_52 {G : GT} {ad : Nat → Nat} {K : Int32 → Dm → Prop} (C : Cx G rm_Prog_epochsWithWrites cX5_epochsWithWrites 4 RX5) (hV : Vx G rm_Prog_epochsWithWrites ad ZF (0, 0)) (hR : RtI G rm_Prog_epochsWithWrites ad ZF (0, 0) cX5_epochsWithWrites .int K) (v0 : Nat) (v1 : Int32) (v2 : Int32) (v3 : Int32) : Sm G rm_Prog_epochsWithWrites ad ZF (0, 0) (lpK G rm_Prog_epochsWithWrites ad ZF (0, 0) 6 (fun (s : (Int32 × Int32 × Int32)) => [(0, .ref v0), (1, .int s.1), (2, .int s.2.1), (3, .int s.2.2)]) K) 52 [(0, .ref v0), (1, .int v1), (2, .int v2), (3, .int v3)] [] (Prog_epochsWithWrites_52 v0 v1 v2 v3) := by
  unfold Prog_epochsWithWrites_52
  refine s_iinc C (L' := fun x11 => [(3, .int x11), (0, .ref v0), (1, .int v1), (2, .int v2)]) (1 : Int32) (by decide) rfl (by decide) (fun _ => rfl) dX5_epochsWithWrites_52 (fun x11 => ?_)
  refine s_goto C 6 (by decide) dX5_epochsWithWrites_55 ?_
  exact s_back [0, 1, 2, 3] (v1, v2, x11) rfl
set_option maxRecDepth 20000 in
theorem sm_Prog_epochsWithWrites_38 {G : GT} {ad : Nat → Nat} {K : Int32 → Dm → Prop} (C : Cx G rm_Prog_epochsWithWrites cX5_epochsWithWrites 4 RX5) (hV : Vx G rm_Prog_epochsWithWrites ad ZF (0, 0)) (hR : RtI G rm_Prog_epochsWithWrites ad ZF (0, 0) cX5_epochsWithWrites .int K) (v0 : Nat) (v1 : Int32) (v2 : Int32) (v3 : Int32) : Sm G rm_Prog_epochsWithWrites ad ZF (0, 0) (lpK G rm_Prog_epochsWithWrites ad ZF (0, 0) 6 (fun (s : (Int32 × Int32 × Int32)) => [(0, .ref v0), (1, .int s.1), (2, .int s.2.1), (3, .int s.2.2)]) K) 38 [(0, .ref v0), (1, .int v1), (2, .int v2), (3, .int v3)] [] (Prog_epochsWithWrites_38 v0 v1 v2 v3) := by
  unfold Prog_epochsWithWrites_38
  refine s_aload_n C rfl dX5_epochsWithWrites_38 ?_
  refine s_getR C hV fl_X5_11 (fun _ _ _ => rfl) dX5_epochsWithWrites_39 (fun x8 => ?_)
  refine s_iload_n C rfl dX5_epochsWithWrites_42 ?_
  refine s_aaloadA C hV dX5_epochsWithWrites_43 (fun x9 => ?_)
  refine s_wI C hV lv_X5_38 (st := []) (met_Act_endsEpoch x9) rf_Prog_epochsWithWrites_Act_endsEpoch rfl rfl (Nat.le_of_ble_eq_true rfl) dX5_epochsWithWrites_44 (fun r10 => ?_)
  refine s_if_eq C 52 (by decide) dX5_epochsWithWrites_47 ?_ ?_
  · exact s_weak [0, 1, 2, 3] rfl (sm_Prog_epochsWithWrites_52 C hV hR v0 v1 v2 v3)
  · refine s_iconst C (0 : Int32) (by decide) dX5_epochsWithWrites_50 ?_
    refine s_leti (fun x12 => ?_)
    refine s_istore_n C (L' := [(2, .int x12), (0, .ref v0), (1, .int v1), (3, .int v3)]) (by decide) rfl dX5_epochsWithWrites_51 ?_
    exact s_weak [0, 1, 2, 3] rfl (sm_Prog_epochsWithWrites_52 C hV hR v0 v1 x12 v3)
set_option maxRecDepth 20000 in
theorem sm_Prog_epochsWithWrites_6_b {G : GT} {ad : Nat → Nat} {K : Int32 → Dm → Prop} (C : Cx G rm_Prog_epochsWithWrites cX5_epochsWithWrites 4 RX5) (hV : Vx G rm_Prog_epochsWithWrites ad ZF (0, 0)) (hR : RtI G rm_Prog_epochsWithWrites ad ZF (0, 0) cX5_epochsWithWrites .int K) (v0 : Nat) (v1 : Int32) (v2 : Int32) (v3 : Int32) : Sm G rm_Prog_epochsWithWrites ad ZF (0, 0) (lpK G rm_Prog_epochsWithWrites ad ZF (0, 0) 6 (fun (s : (Int32 × Int32 × Int32)) => [(0, .ref v0), (1, .int s.1), (2, .int s.2.1), (3, .int s.2.2)]) K) 6 [(0, .ref v0), (1, .int v1), (2, .int v2), (3, .int v3)] [] (Prog_epochsWithWrites_6_b v0 v1 v2 v3) := by
  unfold Prog_epochsWithWrites_6_b
  refine s_iload_n C rfl dX5_epochsWithWrites_6 ?_
  refine s_aload_n C rfl dX5_epochsWithWrites_7 ?_
  refine s_getI C hV fl_X5_17 (fun _ _ _ => rfl) dX5_epochsWithWrites_8 (fun x4 => ?_)
  refine s_icmp_ge C 58 (by decide) dX5_epochsWithWrites_11 ?_ ?_
  · refine s_exit ?_
    refine s_iload_n C rfl dX5_epochsWithWrites_58 ?_
    exact s_ireti hR dX5_epochsWithWrites_59
  · refine s_aload_n C rfl dX5_epochsWithWrites_14 ?_
    refine s_getR C hV fl_X5_11 (fun _ _ _ => rfl) dX5_epochsWithWrites_15 (fun x5 => ?_)
    refine s_iload_n C rfl dX5_epochsWithWrites_18 ?_
    refine s_aaloadA C hV dX5_epochsWithWrites_19 (fun x6 => ?_)
    refine s_wI C hV lv_X5_30 (st := []) (met_Act_writes x6) rf_Prog_epochsWithWrites_Act_writes rfl rfl (Nat.le_of_ble_eq_true rfl) dX5_epochsWithWrites_20 (fun r7 => ?_)
    refine s_if_eq C 38 (by decide) dX5_epochsWithWrites_23 ?_ ?_
    · exact s_weak [0, 1, 2, 3] rfl (sm_Prog_epochsWithWrites_38 C hV hR v0 v1 v2 v3)
    · refine s_iload_n C rfl dX5_epochsWithWrites_26 ?_
      refine s_if_ne C 38 (by decide) dX5_epochsWithWrites_27 ?_ ?_
      · exact s_weak [0, 1, 2, 3] rfl (sm_Prog_epochsWithWrites_38 C hV hR v0 v1 v2 v3)
      · refine s_iinc C (L' := fun x13 => [(1, .int x13), (0, .ref v0), (2, .int v2), (3, .int v3)]) (1 : Int32) (by decide) rfl (by decide) (fun _ => rfl) dX5_epochsWithWrites_30 (fun x13 => ?_)
        refine s_iconst C (1 : Int32) (by decide) dX5_epochsWithWrites_33 ?_
        refine s_leti (fun x14 => ?_)
        refine s_istore_n C (L' := [(2, .int x14), (1, .int x13), (0, .ref v0), (3, .int v3)]) (by decide) rfl dX5_epochsWithWrites_34 ?_
        refine s_goto C 52 (by decide) dX5_epochsWithWrites_35 ?_
        exact s_weak [0, 1, 2, 3] rfl (sm_Prog_epochsWithWrites_52 C hV hR v0 x13 x14 v3)
set_option maxRecDepth 20000 in
theorem sm_Prog_epochsWithWrites_6 {G : GT} {ad : Nat → Nat} {K : Int32 → Dm → Prop} (C : Cx G rm_Prog_epochsWithWrites cX5_epochsWithWrites 4 RX5) (hV : Vx G rm_Prog_epochsWithWrites ad ZF (0, 0)) (hR : RtI G rm_Prog_epochsWithWrites ad ZF (0, 0) cX5_epochsWithWrites .int K) (v0 : Nat) (s : (Int32 × Int32 × Int32)) : Sm G rm_Prog_epochsWithWrites ad ZF (0, 0) K 6 ((fun (s : (Int32 × Int32 × Int32)) => [(0, .ref v0), (1, .int s.1), (2, .int s.2.1), (3, .int s.2.2)]) s) [] (Prog_epochsWithWrites_6 v0 s) :=
  s_loop (en := (fun (s : (Int32 × Int32 × Int32)) => [(0, .ref v0), (1, .int s.1), (2, .int s.2.1), (3, .int s.2.2)])) (fun s => sm_Prog_epochsWithWrites_6_b C hV hR v0 s.1 s.2.1 s.2.2) s
set_option maxRecDepth 20000 in
theorem sm_Prog_epochsWithWrites {G : GT} {ad : Nat → Nat} {K : Int32 → Dm → Prop} (C : Cx G rm_Prog_epochsWithWrites cX5_epochsWithWrites 4 RX5) (hV : Vx G rm_Prog_epochsWithWrites ad ZF (0, 0)) (hR : RtI G rm_Prog_epochsWithWrites ad ZF (0, 0) cX5_epochsWithWrites .int K) (v0 : Nat) : Sm G rm_Prog_epochsWithWrites ad ZF (0, 0) K 0 [(0, .ref v0)] [] (Prog_epochsWithWrites v0) := by
  unfold Prog_epochsWithWrites
  refine s_iconst C (0 : Int32) (by decide) dX5_epochsWithWrites_0 ?_
  refine s_leti (fun x1 => ?_)
  refine s_istore_n C (L' := [(1, .int x1), (0, .ref v0)]) (by decide) rfl dX5_epochsWithWrites_1 ?_
  refine s_iconst C (0 : Int32) (by decide) dX5_epochsWithWrites_2 ?_
  refine s_leti (fun x2 => ?_)
  refine s_istore_n C (L' := [(2, .int x2), (1, .int x1), (0, .ref v0)]) (by decide) rfl dX5_epochsWithWrites_3 ?_
  refine s_iconst C (0 : Int32) (by decide) dX5_epochsWithWrites_4 ?_
  refine s_leti (fun x3 => ?_)
  refine s_istore_n C (L' := [(3, .int x3), (2, .int x2), (1, .int x1), (0, .ref v0)]) (by decide) rfl dX5_epochsWithWrites_5 ?_
  exact s_weak [0, 1, 2, 3] rfl (sm_Prog_epochsWithWrites_6 C hV hR v0 (x1, x2, x3))
set_option maxRecDepth 20000 in
theorem met_Prog_epochsWithWrites (v0 : Nat) : MI ZF yX5_epochsWithWrites cX5_epochsWithWrites 4 .int rm_Prog_epochsWithWrites [.ref v0] (Prog_epochsWithWrites v0) :=
  mi_of (L0 := [(0, .ref v0)]) (by decide +kernel) (Nat.le_of_ble_eq_true rfl) rfl (fun G ad K C hV hR => sm_Prog_epochsWithWrites C hV hR v0)

noncomputable def Main_mix (v0 : Int64) (v2 : Int64) : MM Int64 :=
  mp (((31 : Int64) * v0) + v2)
set_option maxRecDepth 20000 in
theorem sm_Main_mix {G : GT} {ad : Nat → Nat} {K : Int64 → Dm → Prop} (C : Cx G rm_Main_mix cX10_mix 4 RX10) (hV : Vx G rm_Main_mix ad ZF (0, 0)) (hR : RtL G rm_Main_mix ad ZF (0, 0) cX10_mix K) (v0 : Int64) (v2 : Int64) : Sm G rm_Main_mix ad ZF (0, 0) K 0 [(0, .long v0), (2, .long v2)] [] (Main_mix v0 v2) := by
  unfold Main_mix
  refine s_ldc2 C kl_X10_300 dX10_mix_0 ?_
  refine s_lload_n C rfl dX10_mix_3 ?_
  refine s_lmul C dX10_mix_4 ?_
  refine s_lload_n C rfl dX10_mix_5 ?_
  refine s_ladd C dX10_mix_6 ?_
  exact s_lret hR dX10_mix_7
set_option maxRecDepth 20000 in
theorem met_Main_mix (v0 : Int64) (v2 : Int64) : ML ZF yX10_mix cX10_mix 4 rm_Main_mix [.long v0, .long v2] (Main_mix v0 v2) :=
  ml_of (L0 := [(0, .long v0), (2, .long v2)]) (by decide +kernel) (Nat.le_of_ble_eq_true rfl) rfl (fun G ad K C hV hR => sm_Main_mix C hV hR v0 v2)
