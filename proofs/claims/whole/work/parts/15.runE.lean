noncomputable def Mod_asActs_34 (v0 : Nat) (v1 : Int32) (v3 : Int32) (t0 : Int32) (t1 : Int32) : MM ((Int32 × Int32) ⊕ Int32) :=
  ml (t0 ||| t1) fun x4 =>
  ml (v3 + (1 : Int32)) fun x5 =>
  mp (.inl (x4, x5))
noncomputable def Mod_asActs_4_b (v0 : Nat) (v1 : Int32) (v2 : Int32) (v3 : Int32) : MM ((Int32 × Int32) ⊕ Int32) :=
  mb (gI ZF 12 34 v0) fun x3 =>
  if x3 ≤ v3 then
  mr (
  mp v2)
  else
  if ((v1 >>> (v3 &&& 31)) &&& (1 : Int32)) = (1 : Int32) then
  mb (gR ZF 12 33 v0) fun x6 =>
  mb (aI ZF 23 x6 v3) fun x7 =>
  Mod_asActs_34 v0 v1 v3 v2 ((1 : Int32) <<< (x7 &&& 31))
  else
  Mod_asActs_34 v0 v1 v3 v2 (0 : Int32)
noncomputable def Mod_asActs_4 (v0 : Nat) (v1 : Int32) (s : (Int32 × Int32)) : MM Int32 := lo (fun (s : (Int32 × Int32)) => Mod_asActs_4_b v0 v1 s.1 s.2) s
noncomputable def Mod_asActs (v0 : Nat) (v1 : Int32) : MM Int32 :=
  ml (0 : Int32) fun x1 =>
  ml (0 : Int32) fun x2 =>
  Mod_asActs_4 v0 v1 (x1, x2)
set_option maxRecDepth 20000 in
theorem sm_Mod_asActs_34 {G : GT} {ad : Nat → Nat} {K : Int32 → Dm → Prop} (C : Cx G rm_Mod_asActs cX11_asActs 4 RX11) (hV : Vx G rm_Mod_asActs ad ZF (0, 0)) (hR : RtI G rm_Mod_asActs ad ZF (0, 0) cX11_asActs .int K) (v0 : Nat) (v1 : Int32) (v3 : Int32) (t0 : Int32) (t1 : Int32) : Sm G rm_Mod_asActs ad ZF (0, 0) (lpK G rm_Mod_asActs ad ZF (0, 0) 4 (fun (s : (Int32 × Int32)) => [(0, .ref v0), (1, .int v1), (2, .int s.1), (3, .int s.2)]) K) 34 [(0, .ref v0), (1, .int v1), (3, .int v3)] [.int t1, .int t0] (Mod_asActs_34 v0 v1 v3 t0 t1) := by
  unfold Mod_asActs_34
  refine s_ior C dX11_asActs_34 ?_
  refine s_leti (fun x4 => ?_)
  refine s_istore_n C (L' := [(2, .int x4), (0, .ref v0), (1, .int v1), (3, .int v3)]) (by decide) rfl dX11_asActs_35 ?_
  refine s_iinc C (L' := fun x5 => [(3, .int x5), (2, .int x4), (0, .ref v0), (1, .int v1)]) (1 : Int32) (by decide) rfl (by decide) (fun _ => rfl) dX11_asActs_36 (fun x5 => ?_)
  refine s_goto C 4 (by decide) dX11_asActs_39 ?_
  exact s_back [0, 1, 2, 3] (x4, x5) rfl
set_option maxRecDepth 20000 in
theorem sm_Mod_asActs_4_b {G : GT} {ad : Nat → Nat} {K : Int32 → Dm → Prop} (C : Cx G rm_Mod_asActs cX11_asActs 4 RX11) (hV : Vx G rm_Mod_asActs ad ZF (0, 0)) (hR : RtI G rm_Mod_asActs ad ZF (0, 0) cX11_asActs .int K) (v0 : Nat) (v1 : Int32) (v2 : Int32) (v3 : Int32) : Sm G rm_Mod_asActs ad ZF (0, 0) (lpK G rm_Mod_asActs ad ZF (0, 0) 4 (fun (s : (Int32 × Int32)) => [(0, .ref v0), (1, .int v1), (2, .int s.1), (3, .int s.2)]) K) 4 [(0, .ref v0), (1, .int v1), (2, .int v2), (3, .int v3)] [] (Mod_asActs_4_b v0 v1 v2 v3) := by
  unfold Mod_asActs_4_b
  refine s_iload_n C rfl dX11_asActs_4 ?_
  refine s_aload_n C rfl dX11_asActs_5 ?_
  refine s_getI C hV fl_X11_226 (fun _ _ _ => rfl) dX11_asActs_6 (fun x3 => ?_)
  refine s_icmp_ge C 42 (by decide) dX11_asActs_9 ?_ ?_
  · refine s_exit ?_
    refine s_iload_n C rfl dX11_asActs_42 ?_
    exact s_ireti hR dX11_asActs_43
  · refine s_iload_n C rfl dX11_asActs_12 ?_
    refine s_iload_n C rfl dX11_asActs_13 ?_
    refine s_iload_n C rfl dX11_asActs_14 ?_
    refine s_ishr C dX11_asActs_15 ?_
    refine s_iconst C (1 : Int32) (by decide) dX11_asActs_16 ?_
    refine s_iand C dX11_asActs_17 ?_
    refine s_iconst C (1 : Int32) (by decide) dX11_asActs_18 ?_
    refine s_icmp_ne C 33 (by decide) dX11_asActs_19 ?_ ?_
    · refine s_iconst C (0 : Int32) (by decide) dX11_asActs_33 ?_
      exact s_weak [0, 1, 3] rfl (sm_Mod_asActs_34 C hV hR v0 v1 v3 v2 (0 : Int32))
    · refine s_iconst C (1 : Int32) (by decide) dX11_asActs_22 ?_
      refine s_aload_n C rfl dX11_asActs_23 ?_
      refine s_getR C hV fl_X11_74 (fun _ _ _ => rfl) dX11_asActs_24 (fun x6 => ?_)
      refine s_iload_n C rfl dX11_asActs_27 ?_
      refine s_iaload C hV dX11_asActs_28 (fun x7 => ?_)
      refine s_ishl C dX11_asActs_29 ?_
      refine s_goto C 34 (by decide) dX11_asActs_30 ?_
      exact s_weak [0, 1, 3] rfl (sm_Mod_asActs_34 C hV hR v0 v1 v3 v2 ((1 : Int32) <<< (x7 &&& 31)))
set_option maxRecDepth 20000 in
theorem sm_Mod_asActs_4 {G : GT} {ad : Nat → Nat} {K : Int32 → Dm → Prop} (C : Cx G rm_Mod_asActs cX11_asActs 4 RX11) (hV : Vx G rm_Mod_asActs ad ZF (0, 0)) (hR : RtI G rm_Mod_asActs ad ZF (0, 0) cX11_asActs .int K) (v0 : Nat) (v1 : Int32) (s : (Int32 × Int32)) : Sm G rm_Mod_asActs ad ZF (0, 0) K 4 ((fun (s : (Int32 × Int32)) => [(0, .ref v0), (1, .int v1), (2, .int s.1), (3, .int s.2)]) s) [] (Mod_asActs_4 v0 v1 s) :=
  s_loop (en := (fun (s : (Int32 × Int32)) => [(0, .ref v0), (1, .int v1), (2, .int s.1), (3, .int s.2)])) (fun s => sm_Mod_asActs_4_b C hV hR v0 v1 s.1 s.2) s
set_option maxRecDepth 20000 in
theorem sm_Mod_asActs {G : GT} {ad : Nat → Nat} {K : Int32 → Dm → Prop} (C : Cx G rm_Mod_asActs cX11_asActs 4 RX11) (hV : Vx G rm_Mod_asActs ad ZF (0, 0)) (hR : RtI G rm_Mod_asActs ad ZF (0, 0) cX11_asActs .int K) (v0 : Nat) (v1 : Int32) : Sm G rm_Mod_asActs ad ZF (0, 0) K 0 [(0, .ref v0), (1, .int v1)] [] (Mod_asActs v0 v1) := by
  unfold Mod_asActs
  refine s_iconst C (0 : Int32) (by decide) dX11_asActs_0 ?_
  refine s_leti (fun x1 => ?_)
  refine s_istore_n C (L' := [(2, .int x1), (0, .ref v0), (1, .int v1)]) (by decide) rfl dX11_asActs_1 ?_
  refine s_iconst C (0 : Int32) (by decide) dX11_asActs_2 ?_
  refine s_leti (fun x2 => ?_)
  refine s_istore_n C (L' := [(3, .int x2), (2, .int x1), (0, .ref v0), (1, .int v1)]) (by decide) rfl dX11_asActs_3 ?_
  exact s_weak [0, 1, 2, 3] rfl (sm_Mod_asActs_4 C hV hR v0 v1 (x1, x2))
set_option maxRecDepth 20000 in
theorem met_Mod_asActs (v0 : Nat) (v1 : Int32) : MI ZF yX11_asActs cX11_asActs 4 .int rm_Mod_asActs [.ref v0, .int v1] (Mod_asActs v0 v1) :=
  mi_of (L0 := [(0, .ref v0), (1, .int v1)]) (by decide +kernel) (Nat.le_of_ble_eq_true rfl) rfl (fun G ad K C hV hR => sm_Mod_asActs C hV hR v0 v1)

noncomputable def Mod_rulesNow_28 (v0 : Nat) (v2 : Int32) (t0 : Int32) (t1 : Int32) : MM ((Int32 × Int32) ⊕ Int32) :=
  ml (t0 ||| t1) fun x5 =>
  ml (v2 + (1 : Int32)) fun x6 =>
  mp (.inl (x5, x6))
noncomputable def Mod_rulesNow_4_b (v0 : Nat) (v1 : Int32) (v2 : Int32) : MM ((Int32 × Int32) ⊕ Int32) :=
  mb (gI ZF 12 6 v0) fun x3 =>
  if x3 ≤ v2 then
  mr (
  mp v1)
  else
  mb (vc ZF 12 v0 (Mod_holdsNow v0 v2)) fun r4 =>
  Mod_rulesNow_28 v0 v2 v1 (if r4 = 0 then (0 : Int32) else ((1 : Int32) <<< (v2 &&& 31)))
noncomputable def Mod_rulesNow_4 (v0 : Nat) (s : (Int32 × Int32)) : MM Int32 := lo (fun (s : (Int32 × Int32)) => Mod_rulesNow_4_b v0 s.1 s.2) s
noncomputable def Mod_rulesNow (v0 : Nat) : MM Int32 :=
  ml (0 : Int32) fun x1 =>
  ml (0 : Int32) fun x2 =>
  Mod_rulesNow_4 v0 (x1, x2)
set_option maxRecDepth 20000 in
theorem sm_Mod_rulesNow_28 {G : GT} {ad : Nat → Nat} {K : Int32 → Dm → Prop} (C : Cx G rm_Mod_rulesNow cX11_rulesNow 3 RX11) (hV : Vx G rm_Mod_rulesNow ad ZF (0, 0)) (hR : RtI G rm_Mod_rulesNow ad ZF (0, 0) cX11_rulesNow .int K) (v0 : Nat) (v2 : Int32) (t0 : Int32) (t1 : Int32) : Sm G rm_Mod_rulesNow ad ZF (0, 0) (lpK G rm_Mod_rulesNow ad ZF (0, 0) 4 (fun (s : (Int32 × Int32)) => [(0, .ref v0), (1, .int s.1), (2, .int s.2)]) K) 28 [(0, .ref v0), (2, .int v2)] [.int t1, .int t0] (Mod_rulesNow_28 v0 v2 t0 t1) := by
  unfold Mod_rulesNow_28
  refine s_ior C dX11_rulesNow_28 ?_
  refine s_leti (fun x5 => ?_)
  refine s_istore_n C (L' := [(1, .int x5), (0, .ref v0), (2, .int v2)]) (by decide) rfl dX11_rulesNow_29 ?_
  refine s_iinc C (L' := fun x6 => [(2, .int x6), (1, .int x5), (0, .ref v0)]) (1 : Int32) (by decide) rfl (by decide) (fun _ => rfl) dX11_rulesNow_30 (fun x6 => ?_)
  refine s_goto C 4 (by decide) dX11_rulesNow_33 ?_
  exact s_back [0, 1, 2] (x5, x6) rfl
set_option maxRecDepth 20000 in
theorem sm_Mod_rulesNow_4_b {G : GT} {ad : Nat → Nat} {K : Int32 → Dm → Prop} (C : Cx G rm_Mod_rulesNow cX11_rulesNow 3 RX11) (hV : Vx G rm_Mod_rulesNow ad ZF (0, 0)) (hR : RtI G rm_Mod_rulesNow ad ZF (0, 0) cX11_rulesNow .int K) (v0 : Nat) (v1 : Int32) (v2 : Int32) : Sm G rm_Mod_rulesNow ad ZF (0, 0) (lpK G rm_Mod_rulesNow ad ZF (0, 0) 4 (fun (s : (Int32 × Int32)) => [(0, .ref v0), (1, .int s.1), (2, .int s.2)]) K) 4 [(0, .ref v0), (1, .int v1), (2, .int v2)] [] (Mod_rulesNow_4_b v0 v1 v2) := by
  unfold Mod_rulesNow_4_b
  refine s_iload_n C rfl dX11_rulesNow_4 ?_
  refine s_aload_n C rfl dX11_rulesNow_5 ?_
  refine s_getI C hV fl_X11_111 (fun _ _ _ => rfl) dX11_rulesNow_6 (fun x3 => ?_)
  refine s_icmp_ge C 36 (by decide) dX11_rulesNow_9 ?_ ?_
  · refine s_exit ?_
    refine s_iload_n C rfl dX11_rulesNow_36 ?_
    exact s_ireti hR dX11_rulesNow_37
  · refine s_iload_n C rfl dX11_rulesNow_12 ?_
    refine s_aload_n C rfl dX11_rulesNow_13 ?_
    refine s_iload_n C rfl dX11_rulesNow_14 ?_
    refine s_wI C hV lv_X11_216 (st := [.int v1]) (met_Mod_holdsNow v0 v2) rf_Mod_rulesNow_Mod_holdsNow rfl rfl (Nat.le_of_ble_eq_true rfl) dX11_rulesNow_15 (fun r4 => ?_)
    refine s_ite (g := fun z => Mod_rulesNow_28 v0 v2 v1 z) ?_
    refine s_if_eq C 27 (by decide) dX11_rulesNow_18 ?_ ?_
    · refine s_iconst C (0 : Int32) (by decide) dX11_rulesNow_27 ?_
      exact s_weak [0, 2] rfl (sm_Mod_rulesNow_28 C hV hR v0 v2 v1 (0 : Int32))
    · refine s_iconst C (1 : Int32) (by decide) dX11_rulesNow_21 ?_
      refine s_iload_n C rfl dX11_rulesNow_22 ?_
      refine s_ishl C dX11_rulesNow_23 ?_
      refine s_goto C 28 (by decide) dX11_rulesNow_24 ?_
      exact s_weak [0, 2] rfl (sm_Mod_rulesNow_28 C hV hR v0 v2 v1 ((1 : Int32) <<< (v2 &&& 31)))
set_option maxRecDepth 20000 in
theorem sm_Mod_rulesNow_4 {G : GT} {ad : Nat → Nat} {K : Int32 → Dm → Prop} (C : Cx G rm_Mod_rulesNow cX11_rulesNow 3 RX11) (hV : Vx G rm_Mod_rulesNow ad ZF (0, 0)) (hR : RtI G rm_Mod_rulesNow ad ZF (0, 0) cX11_rulesNow .int K) (v0 : Nat) (s : (Int32 × Int32)) : Sm G rm_Mod_rulesNow ad ZF (0, 0) K 4 ((fun (s : (Int32 × Int32)) => [(0, .ref v0), (1, .int s.1), (2, .int s.2)]) s) [] (Mod_rulesNow_4 v0 s) :=
  s_loop (en := (fun (s : (Int32 × Int32)) => [(0, .ref v0), (1, .int s.1), (2, .int s.2)])) (fun s => sm_Mod_rulesNow_4_b C hV hR v0 s.1 s.2) s
set_option maxRecDepth 20000 in
theorem sm_Mod_rulesNow {G : GT} {ad : Nat → Nat} {K : Int32 → Dm → Prop} (C : Cx G rm_Mod_rulesNow cX11_rulesNow 3 RX11) (hV : Vx G rm_Mod_rulesNow ad ZF (0, 0)) (hR : RtI G rm_Mod_rulesNow ad ZF (0, 0) cX11_rulesNow .int K) (v0 : Nat) : Sm G rm_Mod_rulesNow ad ZF (0, 0) K 0 [(0, .ref v0)] [] (Mod_rulesNow v0) := by
  unfold Mod_rulesNow
  refine s_iconst C (0 : Int32) (by decide) dX11_rulesNow_0 ?_
  refine s_leti (fun x1 => ?_)
  refine s_istore_n C (L' := [(1, .int x1), (0, .ref v0)]) (by decide) rfl dX11_rulesNow_1 ?_
  refine s_iconst C (0 : Int32) (by decide) dX11_rulesNow_2 ?_
  refine s_leti (fun x2 => ?_)
  refine s_istore_n C (L' := [(2, .int x2), (1, .int x1), (0, .ref v0)]) (by decide) rfl dX11_rulesNow_3 ?_
  exact s_weak [0, 1, 2] rfl (sm_Mod_rulesNow_4 C hV hR v0 (x1, x2))
set_option maxRecDepth 20000 in
theorem met_Mod_rulesNow (v0 : Nat) : MI ZF yX11_rulesNow cX11_rulesNow 3 .int rm_Mod_rulesNow [.ref v0] (Mod_rulesNow v0) :=
  mi_of (L0 := [(0, .ref v0)]) (by decide +kernel) (Nat.le_of_ble_eq_true rfl) rfl (fun G ad K C hV hR => sm_Mod_rulesNow C hV hR v0)

noncomputable def Mod_stepNow_92 (t0 : Nat) (t1 : Int32) (t2 : Int32) : MM Unit :=
  mb (sI ZF t0 t1 t2) fun _ =>
  mp ()
noncomputable def Mod_stepNow (v0 : Nat) (v1 : Int32) : MM Unit :=
  mb (pZ ZF 12 19 v0 (1 : Int32)) fun _ =>
  mb (pI ZF 12 20 v0 ((60 : Int32) * v1)) fun _ =>
  mb (pI ZF 12 21 v0 (0 : Int32)) fun _ =>
  mb (gR ZF 12 12 v0) fun x1 =>
  mb (aI ZF 23 x1 v1) fun x2 =>
  mb (pI ZF 12 22 v0 x2) fun _ =>
  mb (vc ZF 12 v0 (Mod_holdsHere v0)) fun r3 =>
  if r3 = 0 then
  mp ()
  else
  mb (gR ZF 12 11 v0) fun x4 =>
  mb (gI ZF 12 20 v0) fun x5 =>
  mb (gI ZF 12 21 v0) fun x6 =>
  mb (aI ZF 21 x4 ((x5 + x6) + (1 : Int32))) fun x7 =>
  ml (x7 - (97 : Int32)) fun x8 =>
  mb (gI ZF 12 21 v0) fun x9 =>
  mb (pI ZF 12 21 v0 (x9 + (3 : Int32))) fun _ =>
  mb (vc ZF 12 v0 (Mod_sumHere v0)) fun r10 =>
  mb (gR ZF 12 16 v0) fun x11 =>
  mb ((Mod_isNumber r10)) fun r12 =>
  if r12 = 0 then
  mb (gR ZF 12 16 v0) fun x13 =>
  mb (aI ZF 23 x13 x8) fun x14 =>
  Mod_stepNow_92 x11 x8 x14
  else
  Mod_stepNow_92 x11 x8 r10
set_option maxRecDepth 20000 in
theorem sm_Mod_stepNow_92 {G : GT} {ad : Nat → Nat} {K : Unit → Dm → Prop} (C : Cx G rm_Mod_stepNow cX11_stepNow 4 RX11) (hV : Vx G rm_Mod_stepNow ad ZF (0, 0)) (hR : RtV G rm_Mod_stepNow ad ZF (0, 0) cX11_stepNow K) (t0 : Nat) (t1 : Int32) (t2 : Int32) : Sm G rm_Mod_stepNow ad ZF (0, 0) K 92 [] [.int t2, .int t1, .ref t0] (Mod_stepNow_92 t0 t1 t2) := by
  unfold Mod_stepNow_92
  refine s_iastore C hV dX11_stepNow_92 ?_
  exact s_vret hR dX11_stepNow_93
set_option maxRecDepth 20000 in
theorem sm_Mod_stepNow {G : GT} {ad : Nat → Nat} {K : Unit → Dm → Prop} (C : Cx G rm_Mod_stepNow cX11_stepNow 4 RX11) (hV : Vx G rm_Mod_stepNow ad ZF (0, 0)) (hR : RtV G rm_Mod_stepNow ad ZF (0, 0) cX11_stepNow K) (v0 : Nat) (v1 : Int32) : Sm G rm_Mod_stepNow ad ZF (0, 0) K 0 [(0, .ref v0), (1, .int v1)] [] (Mod_stepNow v0 v1) := by
  unfold Mod_stepNow
  refine s_aload_n C rfl dX11_stepNow_0 ?_
  refine s_iconst C (1 : Int32) (by decide) dX11_stepNow_1 ?_
  refine s_putZ C hV fw_X11_168 rfl dX11_stepNow_2 ?_
  refine s_aload_n C rfl dX11_stepNow_5 ?_
  refine s_bipush C (60 : Int32) (by decide) dX11_stepNow_6 ?_
  refine s_iload_n C rfl dX11_stepNow_8 ?_
  refine s_imul C dX11_stepNow_9 ?_
  refine s_putI C hV fw_X11_171 rfl dX11_stepNow_10 ?_
  refine s_aload_n C rfl dX11_stepNow_13 ?_
  refine s_iconst C (0 : Int32) (by decide) dX11_stepNow_14 ?_
  refine s_putI C hV fw_X11_162 rfl dX11_stepNow_15 ?_
  refine s_aload_n C rfl dX11_stepNow_18 ?_
  refine s_aload_n C rfl dX11_stepNow_19 ?_
  refine s_getR C hV fl_X11_36 (fun _ _ _ => rfl) dX11_stepNow_20 (fun x1 => ?_)
  refine s_iload_n C rfl dX11_stepNow_23 ?_
  refine s_iaload C hV dX11_stepNow_24 (fun x2 => ?_)
  refine s_putI C hV fw_X11_165 rfl dX11_stepNow_25 ?_
  refine s_aload_n C rfl dX11_stepNow_28 ?_
  refine s_wI C hV lv_X11_191 (st := []) (met_Mod_holdsHere v0) rf_Mod_stepNow_Mod_holdsHere rfl rfl (Nat.le_of_ble_eq_true rfl) dX11_stepNow_29 (fun r3 => ?_)
  refine s_if_eq C 93 (by decide) dX11_stepNow_32 ?_ ?_
  · exact s_vret hR dX11_stepNow_93
  · refine s_aload_n C rfl dX11_stepNow_35 ?_
    refine s_getR C hV fl_X11_33 (fun _ _ _ => rfl) dX11_stepNow_36 (fun x4 => ?_)
    refine s_aload_n C rfl dX11_stepNow_39 ?_
    refine s_getI C hV fl_X11_171 (fun _ _ _ => rfl) dX11_stepNow_40 (fun x5 => ?_)
    refine s_aload_n C rfl dX11_stepNow_43 ?_
    refine s_getI C hV fl_X11_162 (fun _ _ _ => rfl) dX11_stepNow_44 (fun x6 => ?_)
    refine s_iadd C dX11_stepNow_47 ?_
    refine s_iconst C (1 : Int32) (by decide) dX11_stepNow_48 ?_
    refine s_iadd C dX11_stepNow_49 ?_
    refine s_baload C hV dX11_stepNow_50 (fun x7 => ?_)
    refine s_bipush C (97 : Int32) (by decide) dX11_stepNow_51 ?_
    refine s_isub C dX11_stepNow_53 ?_
    refine s_leti (fun x8 => ?_)
    refine s_istore_n C (L' := [(2, .int x8), (0, .ref v0), (1, .int v1)]) (by decide) rfl dX11_stepNow_54 ?_
    refine s_aload_n C rfl dX11_stepNow_55 ?_
    refine s_dupr C dX11_stepNow_56 ?_
    refine s_getI C hV fl_X11_162 (fun _ _ _ => rfl) dX11_stepNow_57 (fun x9 => ?_)
    refine s_iconst C (3 : Int32) (by decide) dX11_stepNow_60 ?_
    refine s_iadd C dX11_stepNow_61 ?_
    refine s_putI C hV fw_X11_162 rfl dX11_stepNow_62 ?_
    refine s_aload_n C rfl dX11_stepNow_65 ?_
    refine s_wI C hV lv_X11_188 (st := []) (met_Mod_sumHere v0) rf_Mod_stepNow_Mod_sumHere rfl rfl (Nat.le_of_ble_eq_true rfl) dX11_stepNow_66 (fun r10 => ?_)
    refine s_istore_n C (L' := [(3, .int r10), (2, .int x8), (0, .ref v0), (1, .int v1)]) (by decide) rfl dX11_stepNow_69 ?_
    refine s_aload_n C rfl dX11_stepNow_70 ?_
    refine s_getR C hV fl_X11_46 (fun _ _ _ => rfl) dX11_stepNow_71 (fun x11 => ?_)
    refine s_iload_n C rfl dX11_stepNow_74 ?_
    refine s_iload_n C rfl dX11_stepNow_75 ?_
    refine s_uI C hV ls_X11_97 (st := [.int x8, .ref x11]) (met_Mod_isNumber r10) rf_Mod_stepNow_Mod_isNumber rfl rfl (Nat.le_of_ble_eq_true rfl) dX11_stepNow_76 (fun r12 => ?_)
    refine s_if_eq C 86 (by decide) dX11_stepNow_79 ?_ ?_
    · refine s_aload_n C rfl dX11_stepNow_86 ?_
      refine s_getR C hV fl_X11_46 (fun _ _ _ => rfl) dX11_stepNow_87 (fun x13 => ?_)
      refine s_iload_n C rfl dX11_stepNow_90 ?_
      refine s_iaload C hV dX11_stepNow_91 (fun x14 => ?_)
      exact s_weak [] rfl (sm_Mod_stepNow_92 C hV hR x11 x8 x14)
    · refine s_iload_n C rfl dX11_stepNow_82 ?_
      refine s_goto C 92 (by decide) dX11_stepNow_83 ?_
      exact s_weak [] rfl (sm_Mod_stepNow_92 C hV hR x11 x8 r10)
set_option maxRecDepth 20000 in
theorem met_Mod_stepNow (v0 : Nat) (v1 : Int32) : MV ZF yX11_stepNow cX11_stepNow 4 rm_Mod_stepNow [.ref v0, .int v1] (Mod_stepNow v0 v1) :=
  mv_of (L0 := [(0, .ref v0), (1, .int v1)]) (by decide +kernel) (Nat.le_of_ble_eq_true rfl) rfl (fun G ad K C hV hR => sm_Mod_stepNow C hV hR v0 v1)

noncomputable def Mod_healed_7_b (v0 : Nat) (v3 : Int32) : MM (Int32 ⊕ Int64) :=
  mb (gI ZF 12 10 v0) fun x2 =>
  if x2 ≤ v3 then
  mr (
  mb (vc ZF 12 v0 (Mod_told v0)) fun r3 =>
  mp r3)
  else
  mb (vc ZF 12 v0 (Mod_stepNow v0 v3)) fun _ =>
  ml (v3 + (1 : Int32)) fun x4 =>
  mp (.inl x4)
noncomputable def Mod_healed_7 (v0 : Nat) (s : Int32) : MM Int64 := lo (fun (s : Int32) => Mod_healed_7_b v0 s) s
noncomputable def Mod_healed (v0 : Nat) (v1 : Int64) : MM Int64 :=
  mb (vc ZF 12 v0 (Mod_lay v0 v1)) fun _ =>
  ml (0 : Int32) fun x1 =>
  Mod_healed_7 v0 x1
set_option maxRecDepth 20000 in
theorem sm_Mod_healed_7_b {G : GT} {ad : Nat → Nat} {K : Int64 → Dm → Prop} (C : Cx G rm_Mod_healed cX11_healed 4 RX11) (hV : Vx G rm_Mod_healed ad ZF (0, 0)) (hR : RtL G rm_Mod_healed ad ZF (0, 0) cX11_healed K) (v0 : Nat) (v3 : Int32) : Sm G rm_Mod_healed ad ZF (0, 0) (lpK G rm_Mod_healed ad ZF (0, 0) 7 (fun (s : Int32) => [(0, .ref v0), (3, .int s)]) K) 7 [(0, .ref v0), (3, .int v3)] [] (Mod_healed_7_b v0 v3) := by
  unfold Mod_healed_7_b
  refine s_iload_n C rfl dX11_healed_7 ?_
  refine s_aload_n C rfl dX11_healed_8 ?_
  refine s_getI C hV fl_X11_159 (fun _ _ _ => rfl) dX11_healed_9 (fun x2 => ?_)
  refine s_icmp_ge C 26 (by decide) dX11_healed_12 ?_ ?_
  · refine s_exit ?_
    refine s_aload_n C rfl dX11_healed_26 ?_
    refine s_wL C hV lv_X11_116 (st := []) (met_Mod_told v0) rf_Mod_healed_Mod_told rfl rfl (Nat.le_of_ble_eq_true rfl) dX11_healed_27 (fun r3 => ?_)
    exact s_lret hR dX11_healed_30
  · refine s_aload_n C rfl dX11_healed_15 ?_
    refine s_iload_n C rfl dX11_healed_16 ?_
    refine s_wV C hV lv_X11_199 (st := []) (met_Mod_stepNow v0 v3) rf_Mod_healed_Mod_stepNow rfl rfl (Nat.le_of_ble_eq_true rfl) dX11_healed_17 ?_
    refine s_iinc C (L' := fun x4 => [(3, .int x4), (0, .ref v0)]) (1 : Int32) (by decide) rfl (by decide) (fun _ => rfl) dX11_healed_20 (fun x4 => ?_)
    refine s_goto C 7 (by decide) dX11_healed_23 ?_
    exact s_back [0, 3] x4 rfl
set_option maxRecDepth 20000 in
theorem sm_Mod_healed_7 {G : GT} {ad : Nat → Nat} {K : Int64 → Dm → Prop} (C : Cx G rm_Mod_healed cX11_healed 4 RX11) (hV : Vx G rm_Mod_healed ad ZF (0, 0)) (hR : RtL G rm_Mod_healed ad ZF (0, 0) cX11_healed K) (v0 : Nat) (s : Int32) : Sm G rm_Mod_healed ad ZF (0, 0) K 7 ((fun (s : Int32) => [(0, .ref v0), (3, .int s)]) s) [] (Mod_healed_7 v0 s) :=
  s_loop (en := (fun (s : Int32) => [(0, .ref v0), (3, .int s)])) (fun s => sm_Mod_healed_7_b C hV hR v0 s) s
set_option maxRecDepth 20000 in
theorem sm_Mod_healed {G : GT} {ad : Nat → Nat} {K : Int64 → Dm → Prop} (C : Cx G rm_Mod_healed cX11_healed 4 RX11) (hV : Vx G rm_Mod_healed ad ZF (0, 0)) (hR : RtL G rm_Mod_healed ad ZF (0, 0) cX11_healed K) (v0 : Nat) (v1 : Int64) : Sm G rm_Mod_healed ad ZF (0, 0) K 0 [(0, .ref v0), (1, .long v1)] [] (Mod_healed v0 v1) := by
  unfold Mod_healed
  refine s_aload_n C rfl dX11_healed_0 ?_
  refine s_lload_n C rfl dX11_healed_1 ?_
  refine s_wV C hV lv_X11_195 (st := []) (met_Mod_lay v0 v1) rf_Mod_healed_Mod_lay rfl rfl (Nat.le_of_ble_eq_true rfl) dX11_healed_2 ?_
  refine s_iconst C (0 : Int32) (by decide) dX11_healed_5 ?_
  refine s_leti (fun x1 => ?_)
  refine s_istore_n C (L' := [(3, .int x1), (0, .ref v0), (1, .long v1)]) (by decide) rfl dX11_healed_6 ?_
  exact s_weak [0, 3] rfl (sm_Mod_healed_7 C hV hR v0 x1)
set_option maxRecDepth 20000 in
theorem met_Mod_healed (v0 : Nat) (v1 : Int64) : ML ZF yX11_healed cX11_healed 4 rm_Mod_healed [.ref v0, .long v1] (Mod_healed v0 v1) :=
  ml_of (L0 := [(0, .ref v0), (1, .long v1)]) (by decide +kernel) (Nat.le_of_ble_eq_true rfl) rfl (fun G ad K C hV hR => sm_Mod_healed C hV hR v0 v1)

noncomputable def Mod_cutAt_8_b (v0 : Nat) (v3 : Int32) (v4 : Int32) : MM (Int32 ⊕ Int64) :=
  if v3 ≤ v4 then
  mr (
  mb (vc ZF 12 v0 (Mod_told v0)) fun r2 =>
  mb (vc ZF 12 v0 (Mod_healed v0 r2)) fun r3 =>
  mp r3)
  else
  mb (vc ZF 12 v0 (Mod_stepNow v0 v4)) fun _ =>
  ml (v4 + (1 : Int32)) fun x4 =>
  mp (.inl x4)
noncomputable def Mod_cutAt_8 (v0 : Nat) (v3 : Int32) (s : Int32) : MM Int64 := lo (fun (s : Int32) => Mod_cutAt_8_b v0 v3 s) s
noncomputable def Mod_cutAt (v0 : Nat) (v1 : Int64) (v3 : Int32) : MM Int64 :=
  mb (vc ZF 12 v0 (Mod_lay v0 v1)) fun _ =>
  ml (0 : Int32) fun x1 =>
  Mod_cutAt_8 v0 v3 x1
set_option maxRecDepth 20000 in
theorem sm_Mod_cutAt_8_b {G : GT} {ad : Nat → Nat} {K : Int64 → Dm → Prop} (C : Cx G rm_Mod_cutAt cX11_cutAt 5 RX11) (hV : Vx G rm_Mod_cutAt ad ZF (0, 0)) (hR : RtL G rm_Mod_cutAt ad ZF (0, 0) cX11_cutAt K) (v0 : Nat) (v3 : Int32) (v4 : Int32) : Sm G rm_Mod_cutAt ad ZF (0, 0) (lpK G rm_Mod_cutAt ad ZF (0, 0) 8 (fun (s : Int32) => [(0, .ref v0), (3, .int v3), (4, .int s)]) K) 8 [(0, .ref v0), (3, .int v3), (4, .int v4)] [] (Mod_cutAt_8_b v0 v3 v4) := by
  unfold Mod_cutAt_8_b
  refine s_iload C rfl dX11_cutAt_8 ?_
  refine s_iload_n C rfl dX11_cutAt_10 ?_
  refine s_icmp_ge C 26 (by decide) dX11_cutAt_11 ?_ ?_
  · refine s_exit ?_
    refine s_aload_n C rfl dX11_cutAt_26 ?_
    refine s_aload_n C rfl dX11_cutAt_27 ?_
    refine s_wL C hV lv_X11_116 (st := [.ref v0]) (met_Mod_told v0) rf_Mod_cutAt_Mod_told rfl rfl (Nat.le_of_ble_eq_true rfl) dX11_cutAt_28 (fun r2 => ?_)
    refine s_wL C hV lv_X11_202 (st := []) (met_Mod_healed v0 r2) rf_Mod_cutAt_Mod_healed rfl rfl (Nat.le_of_ble_eq_true rfl) dX11_cutAt_31 (fun r3 => ?_)
    exact s_lret hR dX11_cutAt_34
  · refine s_aload_n C rfl dX11_cutAt_14 ?_
    refine s_iload C rfl dX11_cutAt_15 ?_
    refine s_wV C hV lv_X11_199 (st := []) (met_Mod_stepNow v0 v4) rf_Mod_cutAt_Mod_stepNow rfl rfl (Nat.le_of_ble_eq_true rfl) dX11_cutAt_17 ?_
    refine s_iinc C (L' := fun x4 => [(4, .int x4), (0, .ref v0), (3, .int v3)]) (1 : Int32) (by decide) rfl (by decide) (fun _ => rfl) dX11_cutAt_20 (fun x4 => ?_)
    refine s_goto C 8 (by decide) dX11_cutAt_23 ?_
    exact s_back [0, 3, 4] x4 rfl
set_option maxRecDepth 20000 in
theorem sm_Mod_cutAt_8 {G : GT} {ad : Nat → Nat} {K : Int64 → Dm → Prop} (C : Cx G rm_Mod_cutAt cX11_cutAt 5 RX11) (hV : Vx G rm_Mod_cutAt ad ZF (0, 0)) (hR : RtL G rm_Mod_cutAt ad ZF (0, 0) cX11_cutAt K) (v0 : Nat) (v3 : Int32) (s : Int32) : Sm G rm_Mod_cutAt ad ZF (0, 0) K 8 ((fun (s : Int32) => [(0, .ref v0), (3, .int v3), (4, .int s)]) s) [] (Mod_cutAt_8 v0 v3 s) :=
  s_loop (en := (fun (s : Int32) => [(0, .ref v0), (3, .int v3), (4, .int s)])) (fun s => sm_Mod_cutAt_8_b C hV hR v0 v3 s) s
set_option maxRecDepth 20000 in
theorem sm_Mod_cutAt {G : GT} {ad : Nat → Nat} {K : Int64 → Dm → Prop} (C : Cx G rm_Mod_cutAt cX11_cutAt 5 RX11) (hV : Vx G rm_Mod_cutAt ad ZF (0, 0)) (hR : RtL G rm_Mod_cutAt ad ZF (0, 0) cX11_cutAt K) (v0 : Nat) (v1 : Int64) (v3 : Int32) : Sm G rm_Mod_cutAt ad ZF (0, 0) K 0 [(0, .ref v0), (1, .long v1), (3, .int v3)] [] (Mod_cutAt v0 v1 v3) := by
  unfold Mod_cutAt
  refine s_aload_n C rfl dX11_cutAt_0 ?_
  refine s_lload_n C rfl dX11_cutAt_1 ?_
  refine s_wV C hV lv_X11_195 (st := []) (met_Mod_lay v0 v1) rf_Mod_cutAt_Mod_lay rfl rfl (Nat.le_of_ble_eq_true rfl) dX11_cutAt_2 ?_
  refine s_iconst C (0 : Int32) (by decide) dX11_cutAt_5 ?_
  refine s_leti (fun x1 => ?_)
  refine s_istore C (L' := [(4, .int x1), (0, .ref v0), (1, .long v1), (3, .int v3)]) (by decide) rfl dX11_cutAt_6 ?_
  exact s_weak [0, 3, 4] rfl (sm_Mod_cutAt_8 C hV hR v0 v3 x1)
set_option maxRecDepth 20000 in
theorem met_Mod_cutAt (v0 : Nat) (v1 : Int64) (v3 : Int32) : ML ZF yX11_cutAt cX11_cutAt 5 rm_Mod_cutAt [.ref v0, .long v1, .int v3] (Mod_cutAt v0 v1 v3) :=
  ml_of (L0 := [(0, .ref v0), (1, .long v1), (3, .int v3)]) (by decide +kernel) (Nat.le_of_ble_eq_true rfl) rfl (fun G ad K C hV hR => sm_Mod_cutAt C hV hR v0 v1 v3)

noncomputable def Mod_isSteady_43 (v0 : Nat) (v1 : Int64) (v3 : Int64) (v6 : Int32) (t0 : Int32) : MM ((Int32 × Int32) ⊕ Int32) :=
  ml (v6 + (1 : Int32)) fun x6 =>
  mp (.inl (t0, x6))
noncomputable def Mod_isSteady_12_b (v0 : Nat) (v1 : Int64) (v3 : Int64) (v5 : Int32) (v6 : Int32) : MM ((Int32 × Int32) ⊕ Int32) :=
  mb (gI ZF 12 10 v0) fun x4 =>
  if x4 < v6 then
  mr (
  mz v5)
  else
  if v5 = 0 then
  mr (
  mz v5)
  else
  mb (vc ZF 12 v0 (Mod_cutAt v0 v1 v6)) fun r5 =>
  Mod_isSteady_43 v0 v1 v3 v6 (if r5 = v3 then (1 : Int32) else (0 : Int32))
noncomputable def Mod_isSteady_12 (v0 : Nat) (v1 : Int64) (v3 : Int64) (s : (Int32 × Int32)) : MM Int32 := lo (fun (s : (Int32 × Int32)) => Mod_isSteady_12_b v0 v1 v3 s.1 s.2) s
noncomputable def Mod_isSteady (v0 : Nat) (v1 : Int64) : MM Int32 :=
  mb (vc ZF 12 v0 (Mod_healed v0 v1)) fun r1 =>
  ml (1 : Int32) fun x2 =>
  ml (0 : Int32) fun x3 =>
  Mod_isSteady_12 v0 v1 r1 (x2, x3)
set_option maxRecDepth 20000 in
theorem sm_Mod_isSteady_43 {G : GT} {ad : Nat → Nat} {K : Int32 → Dm → Prop} (C : Cx G rm_Mod_isSteady cX11_isSteady 7 RX11) (hV : Vx G rm_Mod_isSteady ad ZF (0, 0)) (hR : RtI G rm_Mod_isSteady ad ZF (0, 0) cX11_isSteady .boolean K) (v0 : Nat) (v1 : Int64) (v3 : Int64) (v6 : Int32) (t0 : Int32) : Sm G rm_Mod_isSteady ad ZF (0, 0) (lpK G rm_Mod_isSteady ad ZF (0, 0) 12 (fun (s : (Int32 × Int32)) => [(0, .ref v0), (1, .long v1), (3, .long v3), (5, .int s.1), (6, .int s.2)]) K) 43 [(0, .ref v0), (1, .long v1), (3, .long v3), (6, .int v6)] [.int t0] (Mod_isSteady_43 v0 v1 v3 v6 t0) := by
  unfold Mod_isSteady_43
  refine s_istore C (L' := [(5, .int t0), (0, .ref v0), (1, .long v1), (3, .long v3), (6, .int v6)]) (by decide) rfl dX11_isSteady_43 ?_
  refine s_iinc C (L' := fun x6 => [(6, .int x6), (5, .int t0), (0, .ref v0), (1, .long v1), (3, .long v3)]) (1 : Int32) (by decide) rfl (by decide) (fun _ => rfl) dX11_isSteady_45 (fun x6 => ?_)
  refine s_goto C 12 (by decide) dX11_isSteady_48 ?_
  exact s_back [0, 1, 3, 5, 6] (t0, x6) rfl
set_option maxRecDepth 20000 in
theorem sm_Mod_isSteady_12_b {G : GT} {ad : Nat → Nat} {K : Int32 → Dm → Prop} (C : Cx G rm_Mod_isSteady cX11_isSteady 7 RX11) (hV : Vx G rm_Mod_isSteady ad ZF (0, 0)) (hR : RtI G rm_Mod_isSteady ad ZF (0, 0) cX11_isSteady .boolean K) (v0 : Nat) (v1 : Int64) (v3 : Int64) (v5 : Int32) (v6 : Int32) : Sm G rm_Mod_isSteady ad ZF (0, 0) (lpK G rm_Mod_isSteady ad ZF (0, 0) 12 (fun (s : (Int32 × Int32)) => [(0, .ref v0), (1, .long v1), (3, .long v3), (5, .int s.1), (6, .int s.2)]) K) 12 [(0, .ref v0), (1, .long v1), (3, .long v3), (5, .int v5), (6, .int v6)] [] (Mod_isSteady_12_b v0 v1 v3 v5 v6) := by
  unfold Mod_isSteady_12_b
  refine s_iload C rfl dX11_isSteady_12 ?_
  refine s_aload_n C rfl dX11_isSteady_14 ?_
  refine s_getI C hV fl_X11_159 (fun _ _ _ => rfl) dX11_isSteady_15 (fun x4 => ?_)
  refine s_icmp_gt C 51 (by decide) dX11_isSteady_18 ?_ ?_
  · refine s_exit ?_
    refine s_iload C rfl dX11_isSteady_51 ?_
    exact s_iretz hR dX11_isSteady_53
  · refine s_iload C rfl dX11_isSteady_21 ?_
    refine s_if_eq C 51 (by decide) dX11_isSteady_23 ?_ ?_
    · refine s_exit ?_
      refine s_iload C rfl dX11_isSteady_51 ?_
      exact s_iretz hR dX11_isSteady_53
    · refine s_aload_n C rfl dX11_isSteady_26 ?_
      refine s_lload_n C rfl dX11_isSteady_27 ?_
      refine s_iload C rfl dX11_isSteady_28 ?_
      refine s_wL C hV lv_X11_206 (st := []) (met_Mod_cutAt v0 v1 v6) rf_Mod_isSteady_Mod_cutAt rfl rfl (Nat.le_of_ble_eq_true rfl) dX11_isSteady_30 (fun r5 => ?_)
      refine s_lload_n C rfl dX11_isSteady_33 ?_
      refine s_ite (g := fun z => Mod_isSteady_43 v0 v1 v3 v6 z) ?_
      refine s_lcmp_ne C 42 (by decide) dX11_isSteady_34 dX11_isSteady_35 ?_ ?_
      · refine s_iconst C (0 : Int32) (by decide) dX11_isSteady_42 ?_
        exact s_weak [0, 1, 3, 6] rfl (sm_Mod_isSteady_43 C hV hR v0 v1 v3 v6 (0 : Int32))
      · refine s_iconst C (1 : Int32) (by decide) dX11_isSteady_38 ?_
        refine s_goto C 43 (by decide) dX11_isSteady_39 ?_
        exact s_weak [0, 1, 3, 6] rfl (sm_Mod_isSteady_43 C hV hR v0 v1 v3 v6 (1 : Int32))
set_option maxRecDepth 20000 in
theorem sm_Mod_isSteady_12 {G : GT} {ad : Nat → Nat} {K : Int32 → Dm → Prop} (C : Cx G rm_Mod_isSteady cX11_isSteady 7 RX11) (hV : Vx G rm_Mod_isSteady ad ZF (0, 0)) (hR : RtI G rm_Mod_isSteady ad ZF (0, 0) cX11_isSteady .boolean K) (v0 : Nat) (v1 : Int64) (v3 : Int64) (s : (Int32 × Int32)) : Sm G rm_Mod_isSteady ad ZF (0, 0) K 12 ((fun (s : (Int32 × Int32)) => [(0, .ref v0), (1, .long v1), (3, .long v3), (5, .int s.1), (6, .int s.2)]) s) [] (Mod_isSteady_12 v0 v1 v3 s) :=
  s_loop (en := (fun (s : (Int32 × Int32)) => [(0, .ref v0), (1, .long v1), (3, .long v3), (5, .int s.1), (6, .int s.2)])) (fun s => sm_Mod_isSteady_12_b C hV hR v0 v1 v3 s.1 s.2) s
set_option maxRecDepth 20000 in
theorem sm_Mod_isSteady {G : GT} {ad : Nat → Nat} {K : Int32 → Dm → Prop} (C : Cx G rm_Mod_isSteady cX11_isSteady 7 RX11) (hV : Vx G rm_Mod_isSteady ad ZF (0, 0)) (hR : RtI G rm_Mod_isSteady ad ZF (0, 0) cX11_isSteady .boolean K) (v0 : Nat) (v1 : Int64) : Sm G rm_Mod_isSteady ad ZF (0, 0) K 0 [(0, .ref v0), (1, .long v1)] [] (Mod_isSteady v0 v1) := by
  unfold Mod_isSteady
  refine s_aload_n C rfl dX11_isSteady_0 ?_
  refine s_lload_n C rfl dX11_isSteady_1 ?_
  refine s_wL C hV lv_X11_202 (st := []) (met_Mod_healed v0 v1) rf_Mod_isSteady_Mod_healed rfl rfl (Nat.le_of_ble_eq_true rfl) dX11_isSteady_2 (fun r1 => ?_)
  refine s_lstore_n C (L' := [(3, .long r1), (0, .ref v0), (1, .long v1)]) (by decide) rfl dX11_isSteady_5 ?_
  refine s_iconst C (1 : Int32) (by decide) dX11_isSteady_6 ?_
  refine s_leti (fun x2 => ?_)
  refine s_istore C (L' := [(5, .int x2), (3, .long r1), (0, .ref v0), (1, .long v1)]) (by decide) rfl dX11_isSteady_7 ?_
  refine s_iconst C (0 : Int32) (by decide) dX11_isSteady_9 ?_
  refine s_leti (fun x3 => ?_)
  refine s_istore C (L' := [(6, .int x3), (5, .int x2), (3, .long r1), (0, .ref v0), (1, .long v1)]) (by decide) rfl dX11_isSteady_10 ?_
  exact s_weak [0, 1, 3, 5, 6] rfl (sm_Mod_isSteady_12 C hV hR v0 v1 r1 (x2, x3))
set_option maxRecDepth 20000 in
theorem met_Mod_isSteady (v0 : Nat) (v1 : Int64) : MI ZF yX11_isSteady cX11_isSteady 7 .boolean rm_Mod_isSteady [.ref v0, .long v1] (Mod_isSteady v0 v1) :=
  mi_of (L0 := [(0, .ref v0), (1, .long v1)]) (by decide +kernel) (Nat.le_of_ble_eq_true rfl) rfl (fun G ad K C hV hR => sm_Mod_isSteady C hV hR v0 v1)

noncomputable def Mod_layAll_58_b (v0 : Nat) (v1 : Int32) : MM (Int32 ⊕ Unit) :=
  mb (gI ZF 12 34 v0) fun x5 =>
  if ((1 : Int32) <<< (x5 &&& 31)) ≤ v1 then
  mr (
  mb (pZ ZF 12 27 v0 (1 : Int32)) fun _ =>
  mp ())
  else
  mb (gR ZF 12 28 v0) fun x6 =>
  mb (vc ZF 12 v0 (Mod_asActs v0 v1)) fun r7 =>
  mb (vc ZF 12 v0 (Mod_plateOf v0 r7)) fun r8 =>
  mb (sL ZF x6 v1 r8) fun _ =>
  mb (gR ZF 12 28 v0) fun x9 =>
  mb (aL ZF x9 v1) fun x10 =>
  mb (vc ZF 12 v0 (Mod_lay v0 x10)) fun _ =>
  mb (gR ZF 12 30 v0) fun x11 =>
  mb (vc ZF 12 v0 (Mod_rulesNow v0)) fun r12 =>
  mb (sI ZF x11 v1 r12) fun _ =>
  mb (gR ZF 12 29 v0) fun x13 =>
  mb (gR ZF 12 28 v0) fun x14 =>
  mb (aL ZF x14 v1) fun x15 =>
  mb (vc ZF 12 v0 (Mod_healed v0 x15)) fun r16 =>
  mb (sL ZF x13 v1 r16) fun _ =>
  mb (gR ZF 12 29 v0) fun x17 =>
  mb (aL ZF x17 v1) fun x18 =>
  mb (vc ZF 12 v0 (Mod_lay v0 x18)) fun _ =>
  mb (gR ZF 12 31 v0) fun x19 =>
  mb (vc ZF 12 v0 (Mod_rulesNow v0)) fun r20 =>
  mb (sI ZF x19 v1 r20) fun _ =>
  mb (gR ZF 12 32 v0) fun x21 =>
  mb (gR ZF 12 28 v0) fun x22 =>
  mb (aL ZF x22 v1) fun x23 =>
  mb (vc ZF 12 v0 (Mod_isSteady v0 x23)) fun r24 =>
  mb (sZ ZF x21 v1 r24) fun _ =>
  ml (v1 + (1 : Int32)) fun x25 =>
  mp (.inl x25)
noncomputable def Mod_layAll_58 (v0 : Nat) (s : Int32) : MM Unit := lo (fun (s : Int32) => Mod_layAll_58_b v0 s) s
noncomputable def Mod_layAll_50 (v0 : Nat) (v1 : Int32) : MM (Int32 ⊕ Unit) :=
  ml (v1 + (1 : Int32)) fun x27 =>
  mp (.inl x27)
noncomputable def Mod_layAll_14_b (v0 : Nat) (v1 : Int32) : MM (Int32 ⊕ Unit) :=
  mb (gI ZF 12 1 v0) fun x3 =>
  if x3 ≤ v1 then
  mr (
  ml (0 : Int32) fun x4 =>
  Mod_layAll_58 v0 x4)
  else
  mb (vc ZF 12 v0 (Mod_isWrite v0 v1)) fun r26 =>
  if r26 = 0 then
  Mod_layAll_50 v0 v1
  else
  mb (gR ZF 12 33 v0) fun x28 =>
  mb (gI ZF 12 34 v0) fun x29 =>
  mb (sI ZF x28 x29 v1) fun _ =>
  mb (gI ZF 12 34 v0) fun x30 =>
  mb (pI ZF 12 34 v0 (x30 + (1 : Int32))) fun _ =>
  Mod_layAll_50 v0 v1
noncomputable def Mod_layAll_14 (v0 : Nat) (s : Int32) : MM Unit := lo (fun (s : Int32) => Mod_layAll_14_b v0 s) s
noncomputable def Mod_layAll (v0 : Nat) : MM Unit :=
  mb (gI ZF 12 27 v0) fun x1 =>
  if x1 = 0 then
  mb (pI ZF 12 34 v0 (0 : Int32)) fun _ =>
  ml (0 : Int32) fun x2 =>
  Mod_layAll_14 v0 x2
  else
  mp ()
set_option maxRecDepth 20000 in
theorem sm_Mod_layAll_58_b {G : GT} {ad : Nat → Nat} {K : Unit → Dm → Prop} (C : Cx G rm_Mod_layAll cX11_layAll 2 RX11) (hV : Vx G rm_Mod_layAll ad ZF (0, 0)) (hR : RtV G rm_Mod_layAll ad ZF (0, 0) cX11_layAll K) (v0 : Nat) (v1 : Int32) : Sm G rm_Mod_layAll ad ZF (0, 0) (lpK G rm_Mod_layAll ad ZF (0, 0) 58 (fun (s : Int32) => [(0, .ref v0), (1, .int s)]) K) 58 [(0, .ref v0), (1, .int v1)] [] (Mod_layAll_58_b v0 v1) := by
  unfold Mod_layAll_58_b
  refine s_iload_n C rfl dX11_layAll_58 ?_
  refine s_iconst C (1 : Int32) (by decide) dX11_layAll_59 ?_
  refine s_aload_n C rfl dX11_layAll_60 ?_
  refine s_getI C hV fl_X11_226 (fun _ _ _ => rfl) dX11_layAll_61 (fun x5 => ?_)
  refine s_ishl C dX11_layAll_64 ?_
  refine s_icmp_ge C 161 (by decide) dX11_layAll_65 ?_ ?_
  · refine s_exit ?_
    refine s_aload_n C rfl dX11_layAll_161 ?_
    refine s_iconst C (1 : Int32) (by decide) dX11_layAll_162 ?_
    refine s_putZ C hV fw_X11_100 rfl dX11_layAll_163 ?_
    exact s_vret hR dX11_layAll_166
  · refine s_aload_n C rfl dX11_layAll_68 ?_
    refine s_getR C hV fl_X11_58 (fun _ _ _ => rfl) dX11_layAll_69 (fun x6 => ?_)
    refine s_iload_n C rfl dX11_layAll_72 ?_
    refine s_aload_n C rfl dX11_layAll_73 ?_
    refine s_aload_n C rfl dX11_layAll_74 ?_
    refine s_iload_n C rfl dX11_layAll_75 ?_
    refine s_wI C hV lv_X11_229 (st := [.ref v0, .int v1, .ref x6]) (met_Mod_asActs v0 v1) rf_Mod_layAll_Mod_asActs rfl rfl (Nat.le_of_ble_eq_true rfl) dX11_layAll_76 (fun r7 => ?_)
    refine s_wL C hV lv_X11_127 (st := [.int v1, .ref x6]) (met_Mod_plateOf v0 r7) rf_Mod_layAll_Mod_plateOf rfl rfl (Nat.le_of_ble_eq_true rfl) dX11_layAll_79 (fun r8 => ?_)
    refine s_lastore C hV dX11_layAll_82 ?_
    refine s_aload_n C rfl dX11_layAll_83 ?_
    refine s_aload_n C rfl dX11_layAll_84 ?_
    refine s_getR C hV fl_X11_58 (fun _ _ _ => rfl) dX11_layAll_85 (fun x9 => ?_)
    refine s_iload_n C rfl dX11_layAll_88 ?_
    refine s_laload C hV dX11_layAll_89 (fun x10 => ?_)
    refine s_wV C hV lv_X11_195 (st := []) (met_Mod_lay v0 x10) rf_Mod_layAll_Mod_lay rfl rfl (Nat.le_of_ble_eq_true rfl) dX11_layAll_90 ?_
    refine s_aload_n C rfl dX11_layAll_93 ?_
    refine s_getR C hV fl_X11_65 (fun _ _ _ => rfl) dX11_layAll_94 (fun x11 => ?_)
    refine s_iload_n C rfl dX11_layAll_97 ?_
    refine s_aload_n C rfl dX11_layAll_98 ?_
    refine s_wI C hV lv_X11_232 (st := [.int v1, .ref x11]) (met_Mod_rulesNow v0) rf_Mod_layAll_Mod_rulesNow rfl rfl (Nat.le_of_ble_eq_true rfl) dX11_layAll_99 (fun r12 => ?_)
    refine s_iastore C hV dX11_layAll_102 ?_
    refine s_aload_n C rfl dX11_layAll_103 ?_
    refine s_getR C hV fl_X11_62 (fun _ _ _ => rfl) dX11_layAll_104 (fun x13 => ?_)
    refine s_iload_n C rfl dX11_layAll_107 ?_
    refine s_aload_n C rfl dX11_layAll_108 ?_
    refine s_aload_n C rfl dX11_layAll_109 ?_
    refine s_getR C hV fl_X11_58 (fun _ _ _ => rfl) dX11_layAll_110 (fun x14 => ?_)
    refine s_iload_n C rfl dX11_layAll_113 ?_
    refine s_laload C hV dX11_layAll_114 (fun x15 => ?_)
    refine s_wL C hV lv_X11_202 (st := [.int v1, .ref x13]) (met_Mod_healed v0 x15) rf_Mod_layAll_Mod_healed rfl rfl (Nat.le_of_ble_eq_true rfl) dX11_layAll_115 (fun r16 => ?_)
    refine s_lastore C hV dX11_layAll_118 ?_
    refine s_aload_n C rfl dX11_layAll_119 ?_
    refine s_aload_n C rfl dX11_layAll_120 ?_
    refine s_getR C hV fl_X11_62 (fun _ _ _ => rfl) dX11_layAll_121 (fun x17 => ?_)
    refine s_iload_n C rfl dX11_layAll_124 ?_
    refine s_laload C hV dX11_layAll_125 (fun x18 => ?_)
    refine s_wV C hV lv_X11_195 (st := []) (met_Mod_lay v0 x18) rf_Mod_layAll_Mod_lay rfl rfl (Nat.le_of_ble_eq_true rfl) dX11_layAll_126 ?_
    refine s_aload_n C rfl dX11_layAll_129 ?_
    refine s_getR C hV fl_X11_68 (fun _ _ _ => rfl) dX11_layAll_130 (fun x19 => ?_)
    refine s_iload_n C rfl dX11_layAll_133 ?_
    refine s_aload_n C rfl dX11_layAll_134 ?_
    refine s_wI C hV lv_X11_232 (st := [.int v1, .ref x19]) (met_Mod_rulesNow v0) rf_Mod_layAll_Mod_rulesNow rfl rfl (Nat.le_of_ble_eq_true rfl) dX11_layAll_135 (fun r20 => ?_)
    refine s_iastore C hV dX11_layAll_138 ?_
    refine s_aload_n C rfl dX11_layAll_139 ?_
    refine s_getR C hV fl_X11_71 (fun _ _ _ => rfl) dX11_layAll_140 (fun x21 => ?_)
    refine s_iload_n C rfl dX11_layAll_143 ?_
    refine s_aload_n C rfl dX11_layAll_144 ?_
    refine s_aload_n C rfl dX11_layAll_145 ?_
    refine s_getR C hV fl_X11_58 (fun _ _ _ => rfl) dX11_layAll_146 (fun x22 => ?_)
    refine s_iload_n C rfl dX11_layAll_149 ?_
    refine s_laload C hV dX11_layAll_150 (fun x23 => ?_)
    refine s_wI C hV lv_X11_223 (st := [.int v1, .ref x21]) (met_Mod_isSteady v0 x23) rf_Mod_layAll_Mod_isSteady rfl rfl (Nat.le_of_ble_eq_true rfl) dX11_layAll_151 (fun r24 => ?_)
    refine s_zastore C hV dX11_layAll_154 ?_
    refine s_iinc C (L' := fun x25 => [(1, .int x25), (0, .ref v0)]) (1 : Int32) (by decide) rfl (by decide) (fun _ => rfl) dX11_layAll_155 (fun x25 => ?_)
    refine s_goto C 58 (by decide) dX11_layAll_158 ?_
    exact s_back [0, 1] x25 rfl
set_option maxRecDepth 20000 in
theorem sm_Mod_layAll_58 {G : GT} {ad : Nat → Nat} {K : Unit → Dm → Prop} (C : Cx G rm_Mod_layAll cX11_layAll 2 RX11) (hV : Vx G rm_Mod_layAll ad ZF (0, 0)) (hR : RtV G rm_Mod_layAll ad ZF (0, 0) cX11_layAll K) (v0 : Nat) (s : Int32) : Sm G rm_Mod_layAll ad ZF (0, 0) K 58 ((fun (s : Int32) => [(0, .ref v0), (1, .int s)]) s) [] (Mod_layAll_58 v0 s) :=
  s_loop (en := (fun (s : Int32) => [(0, .ref v0), (1, .int s)])) (fun s => sm_Mod_layAll_58_b C hV hR v0 s) s
set_option maxRecDepth 20000 in
theorem sm_Mod_layAll_50 {G : GT} {ad : Nat → Nat} {K : Unit → Dm → Prop} (C : Cx G rm_Mod_layAll cX11_layAll 2 RX11) (hV : Vx G rm_Mod_layAll ad ZF (0, 0)) (hR : RtV G rm_Mod_layAll ad ZF (0, 0) cX11_layAll K) (v0 : Nat) (v1 : Int32) : Sm G rm_Mod_layAll ad ZF (0, 0) (lpK G rm_Mod_layAll ad ZF (0, 0) 14 (fun (s : Int32) => [(0, .ref v0), (1, .int s)]) K) 50 [(0, .ref v0), (1, .int v1)] [] (Mod_layAll_50 v0 v1) := by
  unfold Mod_layAll_50
  refine s_iinc C (L' := fun x27 => [(1, .int x27), (0, .ref v0)]) (1 : Int32) (by decide) rfl (by decide) (fun _ => rfl) dX11_layAll_50 (fun x27 => ?_)
  refine s_goto C 14 (by decide) dX11_layAll_53 ?_
  exact s_back [0, 1] x27 rfl
set_option maxRecDepth 20000 in
theorem sm_Mod_layAll_14_b {G : GT} {ad : Nat → Nat} {K : Unit → Dm → Prop} (C : Cx G rm_Mod_layAll cX11_layAll 2 RX11) (hV : Vx G rm_Mod_layAll ad ZF (0, 0)) (hR : RtV G rm_Mod_layAll ad ZF (0, 0) cX11_layAll K) (v0 : Nat) (v1 : Int32) : Sm G rm_Mod_layAll ad ZF (0, 0) (lpK G rm_Mod_layAll ad ZF (0, 0) 14 (fun (s : Int32) => [(0, .ref v0), (1, .int s)]) K) 14 [(0, .ref v0), (1, .int v1)] [] (Mod_layAll_14_b v0 v1) := by
  unfold Mod_layAll_14_b
  refine s_iload_n C rfl dX11_layAll_14 ?_
  refine s_aload_n C rfl dX11_layAll_15 ?_
  refine s_getI C hV fl_X11_104 (fun _ _ _ => rfl) dX11_layAll_16 (fun x3 => ?_)
  refine s_icmp_ge C 56 (by decide) dX11_layAll_19 ?_ ?_
  · refine s_exit ?_
    refine s_iconst C (0 : Int32) (by decide) dX11_layAll_56 ?_
    refine s_leti (fun x4 => ?_)
    refine s_istore_n C (L' := [(1, .int x4), (0, .ref v0)]) (by decide) rfl dX11_layAll_57 ?_
    exact s_weak [0, 1] rfl (sm_Mod_layAll_58 C hV hR v0 x4)
  · refine s_aload_n C rfl dX11_layAll_22 ?_
    refine s_iload_n C rfl dX11_layAll_23 ?_
    refine s_wI C hV lv_X11_120 (st := []) (met_Mod_isWrite v0 v1) rf_Mod_layAll_Mod_isWrite rfl rfl (Nat.le_of_ble_eq_true rfl) dX11_layAll_24 (fun r26 => ?_)
    refine s_if_eq C 50 (by decide) dX11_layAll_27 ?_ ?_
    · exact s_weak [0, 1] rfl (sm_Mod_layAll_50 C hV hR v0 v1)
    · refine s_aload_n C rfl dX11_layAll_30 ?_
      refine s_getR C hV fl_X11_74 (fun _ _ _ => rfl) dX11_layAll_31 (fun x28 => ?_)
      refine s_aload_n C rfl dX11_layAll_34 ?_
      refine s_getI C hV fl_X11_226 (fun _ _ _ => rfl) dX11_layAll_35 (fun x29 => ?_)
      refine s_iload_n C rfl dX11_layAll_38 ?_
      refine s_iastore C hV dX11_layAll_39 ?_
      refine s_aload_n C rfl dX11_layAll_40 ?_
      refine s_dupr C dX11_layAll_41 ?_
      refine s_getI C hV fl_X11_226 (fun _ _ _ => rfl) dX11_layAll_42 (fun x30 => ?_)
      refine s_iconst C (1 : Int32) (by decide) dX11_layAll_45 ?_
      refine s_iadd C dX11_layAll_46 ?_
      refine s_putI C hV fw_X11_226 rfl dX11_layAll_47 ?_
      exact s_weak [0, 1] rfl (sm_Mod_layAll_50 C hV hR v0 v1)
set_option maxRecDepth 20000 in
theorem sm_Mod_layAll_14 {G : GT} {ad : Nat → Nat} {K : Unit → Dm → Prop} (C : Cx G rm_Mod_layAll cX11_layAll 2 RX11) (hV : Vx G rm_Mod_layAll ad ZF (0, 0)) (hR : RtV G rm_Mod_layAll ad ZF (0, 0) cX11_layAll K) (v0 : Nat) (s : Int32) : Sm G rm_Mod_layAll ad ZF (0, 0) K 14 ((fun (s : Int32) => [(0, .ref v0), (1, .int s)]) s) [] (Mod_layAll_14 v0 s) :=
  s_loop (en := (fun (s : Int32) => [(0, .ref v0), (1, .int s)])) (fun s => sm_Mod_layAll_14_b C hV hR v0 s) s
set_option maxRecDepth 20000 in
theorem sm_Mod_layAll {G : GT} {ad : Nat → Nat} {K : Unit → Dm → Prop} (C : Cx G rm_Mod_layAll cX11_layAll 2 RX11) (hV : Vx G rm_Mod_layAll ad ZF (0, 0)) (hR : RtV G rm_Mod_layAll ad ZF (0, 0) cX11_layAll K) (v0 : Nat) : Sm G rm_Mod_layAll ad ZF (0, 0) K 0 [(0, .ref v0)] [] (Mod_layAll v0) := by
  unfold Mod_layAll
  refine s_aload_n C rfl dX11_layAll_0 ?_
  refine s_getI C hV fl_X11_100 (fun _ _ _ => rfl) dX11_layAll_1 (fun x1 => ?_)
  refine s_if_ne C 166 (by decide) dX11_layAll_4 ?_ ?_
  · exact s_vret hR dX11_layAll_166
  · refine s_aload_n C rfl dX11_layAll_7 ?_
    refine s_iconst C (0 : Int32) (by decide) dX11_layAll_8 ?_
    refine s_putI C hV fw_X11_226 rfl dX11_layAll_9 ?_
    refine s_iconst C (0 : Int32) (by decide) dX11_layAll_12 ?_
    refine s_leti (fun x2 => ?_)
    refine s_istore_n C (L' := [(1, .int x2), (0, .ref v0)]) (by decide) rfl dX11_layAll_13 ?_
    exact s_weak [0, 1] rfl (sm_Mod_layAll_14 C hV hR v0 x2)
set_option maxRecDepth 20000 in
theorem met_Mod_layAll (v0 : Nat) : MV ZF yX11_layAll cX11_layAll 2 rm_Mod_layAll [.ref v0] (Mod_layAll v0) :=
  mv_of (L0 := [(0, .ref v0)]) (by decide +kernel) (Nat.le_of_ble_eq_true rfl) rfl (fun G ad K C hV hR => sm_Mod_layAll C hV hR v0)

noncomputable def Mod_putNothing_2_b (v0 : Nat) (v1 : Int32) : MM (Int32 ⊕ Unit) :=
  if (12 : Int32) ≤ v1 then
  mr (
  mp ())
  else
  mb (gR ZF 12 35 v0) fun x2 =>
  mb (sI ZF x2 v1 (0 : Int32)) fun _ =>
  ml (v1 + (1 : Int32)) fun x3 =>
  mp (.inl x3)
noncomputable def Mod_putNothing_2 (v0 : Nat) (s : Int32) : MM Unit := lo (fun (s : Int32) => Mod_putNothing_2_b v0 s) s
noncomputable def Mod_putNothing (v0 : Nat) : MM Unit :=
  ml (0 : Int32) fun x1 =>
  Mod_putNothing_2 v0 x1
set_option maxRecDepth 20000 in
theorem sm_Mod_putNothing_2_b {G : GT} {ad : Nat → Nat} {K : Unit → Dm → Prop} (C : Cx G rm_Mod_putNothing cX11_putNothing 2 RX11) (hV : Vx G rm_Mod_putNothing ad ZF (0, 0)) (hR : RtV G rm_Mod_putNothing ad ZF (0, 0) cX11_putNothing K) (v0 : Nat) (v1 : Int32) : Sm G rm_Mod_putNothing ad ZF (0, 0) (lpK G rm_Mod_putNothing ad ZF (0, 0) 2 (fun (s : Int32) => [(0, .ref v0), (1, .int s)]) K) 2 [(0, .ref v0), (1, .int v1)] [] (Mod_putNothing_2_b v0 v1) := by
  unfold Mod_putNothing_2_b
  refine s_iload_n C rfl dX11_putNothing_2 ?_
  refine s_bipush C (12 : Int32) (by decide) dX11_putNothing_3 ?_
  refine s_icmp_ge C 21 (by decide) dX11_putNothing_5 ?_ ?_
  · refine s_exit ?_
    exact s_vret hR dX11_putNothing_21
  · refine s_aload_n C rfl dX11_putNothing_8 ?_
    refine s_getR C hV fl_X11_77 (fun _ _ _ => rfl) dX11_putNothing_9 (fun x2 => ?_)
    refine s_iload_n C rfl dX11_putNothing_12 ?_
    refine s_iconst C (0 : Int32) (by decide) dX11_putNothing_13 ?_
    refine s_iastore C hV dX11_putNothing_14 ?_
    refine s_iinc C (L' := fun x3 => [(1, .int x3), (0, .ref v0)]) (1 : Int32) (by decide) rfl (by decide) (fun _ => rfl) dX11_putNothing_15 (fun x3 => ?_)
    refine s_goto C 2 (by decide) dX11_putNothing_18 ?_
    exact s_back [0, 1] x3 rfl
set_option maxRecDepth 20000 in
theorem sm_Mod_putNothing_2 {G : GT} {ad : Nat → Nat} {K : Unit → Dm → Prop} (C : Cx G rm_Mod_putNothing cX11_putNothing 2 RX11) (hV : Vx G rm_Mod_putNothing ad ZF (0, 0)) (hR : RtV G rm_Mod_putNothing ad ZF (0, 0) cX11_putNothing K) (v0 : Nat) (s : Int32) : Sm G rm_Mod_putNothing ad ZF (0, 0) K 2 ((fun (s : Int32) => [(0, .ref v0), (1, .int s)]) s) [] (Mod_putNothing_2 v0 s) :=
  s_loop (en := (fun (s : Int32) => [(0, .ref v0), (1, .int s)])) (fun s => sm_Mod_putNothing_2_b C hV hR v0 s) s
set_option maxRecDepth 20000 in
theorem sm_Mod_putNothing {G : GT} {ad : Nat → Nat} {K : Unit → Dm → Prop} (C : Cx G rm_Mod_putNothing cX11_putNothing 2 RX11) (hV : Vx G rm_Mod_putNothing ad ZF (0, 0)) (hR : RtV G rm_Mod_putNothing ad ZF (0, 0) cX11_putNothing K) (v0 : Nat) : Sm G rm_Mod_putNothing ad ZF (0, 0) K 0 [(0, .ref v0)] [] (Mod_putNothing v0) := by
  unfold Mod_putNothing
  refine s_iconst C (0 : Int32) (by decide) dX11_putNothing_0 ?_
  refine s_leti (fun x1 => ?_)
  refine s_istore_n C (L' := [(1, .int x1), (0, .ref v0)]) (by decide) rfl dX11_putNothing_1 ?_
  exact s_weak [0, 1] rfl (sm_Mod_putNothing_2 C hV hR v0 x1)
set_option maxRecDepth 20000 in
theorem met_Mod_putNothing (v0 : Nat) : MV ZF yX11_putNothing cX11_putNothing 2 rm_Mod_putNothing [.ref v0] (Mod_putNothing v0) :=
  mv_of (L0 := [(0, .ref v0)]) (by decide +kernel) (Nat.le_of_ble_eq_true rfl) rfl (fun G ad K C hV hR => sm_Mod_putNothing C hV hR v0)

noncomputable def Mod_endEpoch_41 (v0 : Nat) (v1 : Int32) : MM Unit :=
  if v1 ≤ 0 then
  mp ()
  else
  mb (gR ZF 12 36 v0) fun x1 =>
  mb (gI ZF 12 37 v0) fun x2 =>
  mb (sI ZF x1 x2 (0 : Int32)) fun _ =>
  mb (gI ZF 12 37 v0) fun x3 =>
  mb (pI ZF 12 37 v0 (x3 + (1 : Int32))) fun _ =>
  mp ()
noncomputable def Mod_endEpoch_7_b (v0 : Nat) (v1 : Int32) (v2 : Int32) : MM (Int32 ⊕ Unit) :=
  mb (gI ZF 12 37 v0) fun x5 =>
  if x5 ≤ v2 then
  mr (
  mb (pI ZF 12 37 v0 (0 : Int32)) fun _ =>
  Mod_endEpoch_41 v0 v1)
  else
  mb (gI ZF 12 38 v0) fun x6 =>
  mb (gR ZF 12 36 v0) fun x7 =>
  mb (aI ZF 23 x7 v2) fun x8 =>
  mb (pI ZF 12 38 v0 (x6 ||| x8)) fun _ =>
  ml (v2 + (1 : Int32)) fun x9 =>
  mp (.inl x9)
noncomputable def Mod_endEpoch_7 (v0 : Nat) (v1 : Int32) (s : Int32) : MM Unit := lo (fun (s : Int32) => Mod_endEpoch_7_b v0 v1 s) s
noncomputable def Mod_endEpoch (v0 : Nat) (v1 : Int32) : MM Unit :=
  if v1 = (2 : Int32) then
  ml (0 : Int32) fun x4 =>
  Mod_endEpoch_7 v0 v1 x4
  else
  Mod_endEpoch_41 v0 v1
set_option maxRecDepth 20000 in
theorem sm_Mod_endEpoch_41 {G : GT} {ad : Nat → Nat} {K : Unit → Dm → Prop} (C : Cx G rm_Mod_endEpoch cX11_endEpoch 3 RX11) (hV : Vx G rm_Mod_endEpoch ad ZF (0, 0)) (hR : RtV G rm_Mod_endEpoch ad ZF (0, 0) cX11_endEpoch K) (v0 : Nat) (v1 : Int32) : Sm G rm_Mod_endEpoch ad ZF (0, 0) K 41 [(0, .ref v0), (1, .int v1)] [] (Mod_endEpoch_41 v0 v1) := by
  unfold Mod_endEpoch_41
  refine s_iload_n C rfl dX11_endEpoch_41 ?_
  refine s_if_le C 65 (by decide) dX11_endEpoch_42 ?_ ?_
  · exact s_vret hR dX11_endEpoch_65
  · refine s_aload_n C rfl dX11_endEpoch_45 ?_
    refine s_getR C hV fl_X11_80 (fun _ _ _ => rfl) dX11_endEpoch_46 (fun x1 => ?_)
    refine s_aload_n C rfl dX11_endEpoch_49 ?_
    refine s_getI C hV fl_X11_238 (fun _ _ _ => rfl) dX11_endEpoch_50 (fun x2 => ?_)
    refine s_iconst C (0 : Int32) (by decide) dX11_endEpoch_53 ?_
    refine s_iastore C hV dX11_endEpoch_54 ?_
    refine s_aload_n C rfl dX11_endEpoch_55 ?_
    refine s_dupr C dX11_endEpoch_56 ?_
    refine s_getI C hV fl_X11_238 (fun _ _ _ => rfl) dX11_endEpoch_57 (fun x3 => ?_)
    refine s_iconst C (1 : Int32) (by decide) dX11_endEpoch_60 ?_
    refine s_iadd C dX11_endEpoch_61 ?_
    refine s_putI C hV fw_X11_238 rfl dX11_endEpoch_62 ?_
    exact s_vret hR dX11_endEpoch_65
set_option maxRecDepth 20000 in
theorem sm_Mod_endEpoch_7_b {G : GT} {ad : Nat → Nat} {K : Unit → Dm → Prop} (C : Cx G rm_Mod_endEpoch cX11_endEpoch 3 RX11) (hV : Vx G rm_Mod_endEpoch ad ZF (0, 0)) (hR : RtV G rm_Mod_endEpoch ad ZF (0, 0) cX11_endEpoch K) (v0 : Nat) (v1 : Int32) (v2 : Int32) : Sm G rm_Mod_endEpoch ad ZF (0, 0) (lpK G rm_Mod_endEpoch ad ZF (0, 0) 7 (fun (s : Int32) => [(0, .ref v0), (1, .int v1), (2, .int s)]) K) 7 [(0, .ref v0), (1, .int v1), (2, .int v2)] [] (Mod_endEpoch_7_b v0 v1 v2) := by
  unfold Mod_endEpoch_7_b
  refine s_iload_n C rfl dX11_endEpoch_7 ?_
  refine s_aload_n C rfl dX11_endEpoch_8 ?_
  refine s_getI C hV fl_X11_238 (fun _ _ _ => rfl) dX11_endEpoch_9 (fun x5 => ?_)
  refine s_icmp_ge C 36 (by decide) dX11_endEpoch_12 ?_ ?_
  · refine s_exit ?_
    refine s_aload_n C rfl dX11_endEpoch_36 ?_
    refine s_iconst C (0 : Int32) (by decide) dX11_endEpoch_37 ?_
    refine s_putI C hV fw_X11_238 rfl dX11_endEpoch_38 ?_
    exact s_weak [0, 1] rfl (sm_Mod_endEpoch_41 C hV hR v0 v1)
  · refine s_aload_n C rfl dX11_endEpoch_15 ?_
    refine s_dupr C dX11_endEpoch_16 ?_
    refine s_getI C hV fl_X11_235 (fun _ _ _ => rfl) dX11_endEpoch_17 (fun x6 => ?_)
    refine s_aload_n C rfl dX11_endEpoch_20 ?_
    refine s_getR C hV fl_X11_80 (fun _ _ _ => rfl) dX11_endEpoch_21 (fun x7 => ?_)
    refine s_iload_n C rfl dX11_endEpoch_24 ?_
    refine s_iaload C hV dX11_endEpoch_25 (fun x8 => ?_)
    refine s_ior C dX11_endEpoch_26 ?_
    refine s_putI C hV fw_X11_235 rfl dX11_endEpoch_27 ?_
    refine s_iinc C (L' := fun x9 => [(2, .int x9), (0, .ref v0), (1, .int v1)]) (1 : Int32) (by decide) rfl (by decide) (fun _ => rfl) dX11_endEpoch_30 (fun x9 => ?_)
    refine s_goto C 7 (by decide) dX11_endEpoch_33 ?_
    exact s_back [0, 1, 2] x9 rfl
set_option maxRecDepth 20000 in
theorem sm_Mod_endEpoch_7 {G : GT} {ad : Nat → Nat} {K : Unit → Dm → Prop} (C : Cx G rm_Mod_endEpoch cX11_endEpoch 3 RX11) (hV : Vx G rm_Mod_endEpoch ad ZF (0, 0)) (hR : RtV G rm_Mod_endEpoch ad ZF (0, 0) cX11_endEpoch K) (v0 : Nat) (v1 : Int32) (s : Int32) : Sm G rm_Mod_endEpoch ad ZF (0, 0) K 7 ((fun (s : Int32) => [(0, .ref v0), (1, .int v1), (2, .int s)]) s) [] (Mod_endEpoch_7 v0 v1 s) :=
  s_loop (en := (fun (s : Int32) => [(0, .ref v0), (1, .int v1), (2, .int s)])) (fun s => sm_Mod_endEpoch_7_b C hV hR v0 v1 s) s
set_option maxRecDepth 20000 in
theorem sm_Mod_endEpoch {G : GT} {ad : Nat → Nat} {K : Unit → Dm → Prop} (C : Cx G rm_Mod_endEpoch cX11_endEpoch 3 RX11) (hV : Vx G rm_Mod_endEpoch ad ZF (0, 0)) (hR : RtV G rm_Mod_endEpoch ad ZF (0, 0) cX11_endEpoch K) (v0 : Nat) (v1 : Int32) : Sm G rm_Mod_endEpoch ad ZF (0, 0) K 0 [(0, .ref v0), (1, .int v1)] [] (Mod_endEpoch v0 v1) := by
  unfold Mod_endEpoch
  refine s_iload_n C rfl dX11_endEpoch_0 ?_
  refine s_iconst C (2 : Int32) (by decide) dX11_endEpoch_1 ?_
  refine s_icmp_ne C 41 (by decide) dX11_endEpoch_2 ?_ ?_
  · exact s_weak [0, 1] rfl (sm_Mod_endEpoch_41 C hV hR v0 v1)
  · refine s_iconst C (0 : Int32) (by decide) dX11_endEpoch_5 ?_
    refine s_leti (fun x4 => ?_)
    refine s_istore_n C (L' := [(2, .int x4), (0, .ref v0), (1, .int v1)]) (by decide) rfl dX11_endEpoch_6 ?_
    exact s_weak [0, 1, 2] rfl (sm_Mod_endEpoch_7 C hV hR v0 v1 x4)
set_option maxRecDepth 20000 in
theorem met_Mod_endEpoch (v0 : Nat) (v1 : Int32) : MV ZF yX11_endEpoch cX11_endEpoch 3 rm_Mod_endEpoch [.ref v0, .int v1] (Mod_endEpoch v0 v1) :=
  mv_of (L0 := [(0, .ref v0), (1, .int v1)]) (by decide +kernel) (Nat.le_of_ble_eq_true rfl) rfl (fun G ad K C hV hR => sm_Mod_endEpoch C hV hR v0 v1)

noncomputable def Mod_cutEpochs_127 (v0 : Nat) (v1 : Int32) (v2 : Int32) (v3 : Int32) (v5 : Int32) (t0 : Int32) : MM (Int32 ⊕ Unit) :=
  mb (vc ZF 12 v0 (Mod_endEpoch v0 v5)) fun _ =>
  mb (vc ZF 12 v0 (Mod_endEpoch v0 t0)) fun _ =>
  ml (v3 + (1 : Int32)) fun x3 =>
  mp (.inl x3)
noncomputable def Mod_cutEpochs_108 (v0 : Nat) (v1 : Int32) (v2 : Int32) (v3 : Int32) (t0 : Int32) : MM (Int32 ⊕ Unit) :=
  if (v1 - (1 : Int32)) ≤ v3 then
  Mod_cutEpochs_127 v0 v1 v2 v3 t0 (0 : Int32)
  else
  mb (gR ZF 12 35 v0) fun x4 =>
  mb (aI ZF 23 x4 v3) fun x5 =>
  Mod_cutEpochs_127 v0 v1 v2 v3 t0 x5
noncomputable def Mod_cutEpochs_107 (v0 : Nat) (v1 : Int32) (v2 : Int32) (v3 : Int32) : MM (Int32 ⊕ Unit) :=
  Mod_cutEpochs_108 v0 v1 v2 v3 (0 : Int32)
noncomputable def Mod_cutEpochs_88 (v0 : Nat) (v1 : Int32) (v2 : Int32) (v3 : Int32) (v4 : Int32) : MM (Int32 ⊕ Unit) :=
  if v4 = 0 then
  Mod_cutEpochs_107 v0 v1 v2 v3
  else
  mb (gR ZF 12 2 v0) fun x6 =>
  mb (aI ZF 23 x6 v3) fun x7 =>
  if x7 = (3 : Int32) then
  Mod_cutEpochs_108 v0 v1 v2 v3 (2 : Int32)
  else
  Mod_cutEpochs_107 v0 v1 v2 v3
noncomputable def Mod_cutEpochs_69 (v0 : Nat) (v1 : Int32) (v2 : Int32) (v3 : Int32) (v4 : Int32) : MM (Int32 ⊕ Unit) :=
  if v4 = 0 then
  Mod_cutEpochs_88 v0 v1 v2 v3 v4
  else
  mb (gR ZF 12 2 v0) fun x8 =>
  mb (aI ZF 23 x8 v3) fun x9 =>
  if x9 = (2 : Int32) then
  Mod_cutEpochs_108 v0 v1 v2 v3 (1 : Int32)
  else
  Mod_cutEpochs_88 v0 v1 v2 v3 v4
noncomputable def Mod_cutEpochs_37 (v0 : Nat) (v1 : Int32) (v2 : Int32) (v3 : Int32) (t0 : Int32) : MM (Int32 ⊕ Unit) :=
  if t0 = 0 then
  Mod_cutEpochs_69 v0 v1 v2 v3 t0
  else
  mb (vc ZF 12 v0 (Mod_isWrite v0 v3)) fun r10 =>
  if r10 = 0 then
  Mod_cutEpochs_69 v0 v1 v2 v3 t0
  else
  mb (gR ZF 12 36 v0) fun x11 =>
  mb (gI ZF 12 37 v0) fun x12 =>
  mb (aI ZF 23 x11 (x12 - (1 : Int32))) fun x13 =>
  mb (sI ZF x11 (x12 - (1 : Int32)) (x13 ||| ((1 : Int32) <<< (v3 &&& 31)))) fun _ =>
  Mod_cutEpochs_69 v0 v1 v2 v3 t0
noncomputable def Mod_cutEpochs_19_b (v0 : Nat) (v1 : Int32) (v2 : Int32) (v3 : Int32) : MM (Int32 ⊕ Unit) :=
  if v1 ≤ v3 then
  mr (
  mp ())
  else
  Mod_cutEpochs_37 v0 v1 v2 v3 (if ((v2 >>> (v3 &&& 31)) &&& (1 : Int32)) = 0 then (1 : Int32) else (0 : Int32))
noncomputable def Mod_cutEpochs_19 (v0 : Nat) (v1 : Int32) (v2 : Int32) (s : Int32) : MM Unit := lo (fun (s : Int32) => Mod_cutEpochs_19_b v0 v1 v2 s) s
noncomputable def Mod_cutEpochs (v0 : Nat) (v1 : Int32) (v2 : Int32) : MM Unit :=
  mb (pI ZF 12 38 v0 (0 : Int32)) fun _ =>
  mb (pI ZF 12 37 v0 (1 : Int32)) fun _ =>
  mb (gR ZF 12 36 v0) fun x1 =>
  mb (sI ZF x1 (0 : Int32) (0 : Int32)) fun _ =>
  ml (0 : Int32) fun x2 =>
  Mod_cutEpochs_19 v0 v1 v2 x2
set_option maxRecDepth 20000 in
theorem sm_Mod_cutEpochs_127 {G : GT} {ad : Nat → Nat} {K : Unit → Dm → Prop} (C : Cx G rm_Mod_cutEpochs cX11_cutEpochs 7 RX11) (hV : Vx G rm_Mod_cutEpochs ad ZF (0, 0)) (hR : RtV G rm_Mod_cutEpochs ad ZF (0, 0) cX11_cutEpochs K) (v0 : Nat) (v1 : Int32) (v2 : Int32) (v3 : Int32) (v5 : Int32) (t0 : Int32) : Sm G rm_Mod_cutEpochs ad ZF (0, 0) (lpK G rm_Mod_cutEpochs ad ZF (0, 0) 19 (fun (s : Int32) => [(0, .ref v0), (1, .int v1), (2, .int v2), (3, .int s)]) K) 127 [(0, .ref v0), (1, .int v1), (2, .int v2), (3, .int v3), (5, .int v5)] [.int t0] (Mod_cutEpochs_127 v0 v1 v2 v3 v5 t0) := by
  unfold Mod_cutEpochs_127
  refine s_istore C (L' := [(6, .int t0), (0, .ref v0), (1, .int v1), (2, .int v2), (3, .int v3), (5, .int v5)]) (by decide) rfl dX11_cutEpochs_127 ?_
  refine s_aload_n C rfl dX11_cutEpochs_129 ?_
  refine s_iload C rfl dX11_cutEpochs_130 ?_
  refine s_wV C hV lv_X11_241 (st := []) (met_Mod_endEpoch v0 v5) rf_Mod_cutEpochs_Mod_endEpoch rfl rfl (Nat.le_of_ble_eq_true rfl) dX11_cutEpochs_132 ?_
  refine s_aload_n C rfl dX11_cutEpochs_135 ?_
  refine s_iload C rfl dX11_cutEpochs_136 ?_
  refine s_wV C hV lv_X11_241 (st := []) (met_Mod_endEpoch v0 t0) rf_Mod_cutEpochs_Mod_endEpoch rfl rfl (Nat.le_of_ble_eq_true rfl) dX11_cutEpochs_138 ?_
  refine s_iinc C (L' := fun x3 => [(3, .int x3), (6, .int t0), (0, .ref v0), (1, .int v1), (2, .int v2), (5, .int v5)]) (1 : Int32) (by decide) rfl (by decide) (fun _ => rfl) dX11_cutEpochs_141 (fun x3 => ?_)
  refine s_goto C 19 (by decide) dX11_cutEpochs_144 ?_
  exact s_back [0, 1, 2, 3] x3 rfl
set_option maxRecDepth 20000 in
theorem sm_Mod_cutEpochs_108 {G : GT} {ad : Nat → Nat} {K : Unit → Dm → Prop} (C : Cx G rm_Mod_cutEpochs cX11_cutEpochs 7 RX11) (hV : Vx G rm_Mod_cutEpochs ad ZF (0, 0)) (hR : RtV G rm_Mod_cutEpochs ad ZF (0, 0) cX11_cutEpochs K) (v0 : Nat) (v1 : Int32) (v2 : Int32) (v3 : Int32) (t0 : Int32) : Sm G rm_Mod_cutEpochs ad ZF (0, 0) (lpK G rm_Mod_cutEpochs ad ZF (0, 0) 19 (fun (s : Int32) => [(0, .ref v0), (1, .int v1), (2, .int v2), (3, .int s)]) K) 108 [(0, .ref v0), (1, .int v1), (2, .int v2), (3, .int v3)] [.int t0] (Mod_cutEpochs_108 v0 v1 v2 v3 t0) := by
  unfold Mod_cutEpochs_108
  refine s_istore C (L' := [(5, .int t0), (0, .ref v0), (1, .int v1), (2, .int v2), (3, .int v3)]) (by decide) rfl dX11_cutEpochs_108 ?_
  refine s_iload_n C rfl dX11_cutEpochs_110 ?_
  refine s_iload_n C rfl dX11_cutEpochs_111 ?_
  refine s_iconst C (1 : Int32) (by decide) dX11_cutEpochs_112 ?_
  refine s_isub C dX11_cutEpochs_113 ?_
  refine s_icmp_ge C 126 (by decide) dX11_cutEpochs_114 ?_ ?_
  · refine s_iconst C (0 : Int32) (by decide) dX11_cutEpochs_126 ?_
    exact s_weak [0, 1, 2, 3, 5] rfl (sm_Mod_cutEpochs_127 C hV hR v0 v1 v2 v3 t0 (0 : Int32))
  · refine s_aload_n C rfl dX11_cutEpochs_117 ?_
    refine s_getR C hV fl_X11_77 (fun _ _ _ => rfl) dX11_cutEpochs_118 (fun x4 => ?_)
    refine s_iload_n C rfl dX11_cutEpochs_121 ?_
    refine s_iaload C hV dX11_cutEpochs_122 (fun x5 => ?_)
    refine s_goto C 127 (by decide) dX11_cutEpochs_123 ?_
    exact s_weak [0, 1, 2, 3, 5] rfl (sm_Mod_cutEpochs_127 C hV hR v0 v1 v2 v3 t0 x5)
set_option maxRecDepth 20000 in
theorem sm_Mod_cutEpochs_107 {G : GT} {ad : Nat → Nat} {K : Unit → Dm → Prop} (C : Cx G rm_Mod_cutEpochs cX11_cutEpochs 7 RX11) (hV : Vx G rm_Mod_cutEpochs ad ZF (0, 0)) (hR : RtV G rm_Mod_cutEpochs ad ZF (0, 0) cX11_cutEpochs K) (v0 : Nat) (v1 : Int32) (v2 : Int32) (v3 : Int32) : Sm G rm_Mod_cutEpochs ad ZF (0, 0) (lpK G rm_Mod_cutEpochs ad ZF (0, 0) 19 (fun (s : Int32) => [(0, .ref v0), (1, .int v1), (2, .int v2), (3, .int s)]) K) 107 [(0, .ref v0), (1, .int v1), (2, .int v2), (3, .int v3)] [] (Mod_cutEpochs_107 v0 v1 v2 v3) := by
  unfold Mod_cutEpochs_107
  refine s_iconst C (0 : Int32) (by decide) dX11_cutEpochs_107 ?_
  exact s_weak [0, 1, 2, 3] rfl (sm_Mod_cutEpochs_108 C hV hR v0 v1 v2 v3 (0 : Int32))
set_option maxRecDepth 20000 in
theorem sm_Mod_cutEpochs_88 {G : GT} {ad : Nat → Nat} {K : Unit → Dm → Prop} (C : Cx G rm_Mod_cutEpochs cX11_cutEpochs 7 RX11) (hV : Vx G rm_Mod_cutEpochs ad ZF (0, 0)) (hR : RtV G rm_Mod_cutEpochs ad ZF (0, 0) cX11_cutEpochs K) (v0 : Nat) (v1 : Int32) (v2 : Int32) (v3 : Int32) (v4 : Int32) : Sm G rm_Mod_cutEpochs ad ZF (0, 0) (lpK G rm_Mod_cutEpochs ad ZF (0, 0) 19 (fun (s : Int32) => [(0, .ref v0), (1, .int v1), (2, .int v2), (3, .int s)]) K) 88 [(0, .ref v0), (1, .int v1), (2, .int v2), (3, .int v3), (4, .int v4)] [] (Mod_cutEpochs_88 v0 v1 v2 v3 v4) := by
  unfold Mod_cutEpochs_88
  refine s_iload C rfl dX11_cutEpochs_88 ?_
  refine s_if_eq C 107 (by decide) dX11_cutEpochs_90 ?_ ?_
  · exact s_weak [0, 1, 2, 3] rfl (sm_Mod_cutEpochs_107 C hV hR v0 v1 v2 v3)
  · refine s_aload_n C rfl dX11_cutEpochs_93 ?_
    refine s_getR C hV fl_X11_13 (fun _ _ _ => rfl) dX11_cutEpochs_94 (fun x6 => ?_)
    refine s_iload_n C rfl dX11_cutEpochs_97 ?_
    refine s_iaload C hV dX11_cutEpochs_98 (fun x7 => ?_)
    refine s_iconst C (3 : Int32) (by decide) dX11_cutEpochs_99 ?_
    refine s_icmp_ne C 107 (by decide) dX11_cutEpochs_100 ?_ ?_
    · exact s_weak [0, 1, 2, 3] rfl (sm_Mod_cutEpochs_107 C hV hR v0 v1 v2 v3)
    · refine s_iconst C (2 : Int32) (by decide) dX11_cutEpochs_103 ?_
      refine s_goto C 108 (by decide) dX11_cutEpochs_104 ?_
      exact s_weak [0, 1, 2, 3] rfl (sm_Mod_cutEpochs_108 C hV hR v0 v1 v2 v3 (2 : Int32))
set_option maxRecDepth 20000 in
theorem sm_Mod_cutEpochs_69 {G : GT} {ad : Nat → Nat} {K : Unit → Dm → Prop} (C : Cx G rm_Mod_cutEpochs cX11_cutEpochs 7 RX11) (hV : Vx G rm_Mod_cutEpochs ad ZF (0, 0)) (hR : RtV G rm_Mod_cutEpochs ad ZF (0, 0) cX11_cutEpochs K) (v0 : Nat) (v1 : Int32) (v2 : Int32) (v3 : Int32) (v4 : Int32) : Sm G rm_Mod_cutEpochs ad ZF (0, 0) (lpK G rm_Mod_cutEpochs ad ZF (0, 0) 19 (fun (s : Int32) => [(0, .ref v0), (1, .int v1), (2, .int v2), (3, .int s)]) K) 69 [(0, .ref v0), (1, .int v1), (2, .int v2), (3, .int v3), (4, .int v4)] [] (Mod_cutEpochs_69 v0 v1 v2 v3 v4) := by
  unfold Mod_cutEpochs_69
  refine s_iload C rfl dX11_cutEpochs_69 ?_
  refine s_if_eq C 88 (by decide) dX11_cutEpochs_71 ?_ ?_
  · exact s_weak [0, 1, 2, 3, 4] rfl (sm_Mod_cutEpochs_88 C hV hR v0 v1 v2 v3 v4)
  · refine s_aload_n C rfl dX11_cutEpochs_74 ?_
    refine s_getR C hV fl_X11_13 (fun _ _ _ => rfl) dX11_cutEpochs_75 (fun x8 => ?_)
    refine s_iload_n C rfl dX11_cutEpochs_78 ?_
    refine s_iaload C hV dX11_cutEpochs_79 (fun x9 => ?_)
    refine s_iconst C (2 : Int32) (by decide) dX11_cutEpochs_80 ?_
    refine s_icmp_ne C 88 (by decide) dX11_cutEpochs_81 ?_ ?_
    · exact s_weak [0, 1, 2, 3, 4] rfl (sm_Mod_cutEpochs_88 C hV hR v0 v1 v2 v3 v4)
    · refine s_iconst C (1 : Int32) (by decide) dX11_cutEpochs_84 ?_
      refine s_goto C 108 (by decide) dX11_cutEpochs_85 ?_
      exact s_weak [0, 1, 2, 3] rfl (sm_Mod_cutEpochs_108 C hV hR v0 v1 v2 v3 (1 : Int32))
set_option maxRecDepth 20000 in
theorem sm_Mod_cutEpochs_37 {G : GT} {ad : Nat → Nat} {K : Unit → Dm → Prop} (C : Cx G rm_Mod_cutEpochs cX11_cutEpochs 7 RX11) (hV : Vx G rm_Mod_cutEpochs ad ZF (0, 0)) (hR : RtV G rm_Mod_cutEpochs ad ZF (0, 0) cX11_cutEpochs K) (v0 : Nat) (v1 : Int32) (v2 : Int32) (v3 : Int32) (t0 : Int32) : Sm G rm_Mod_cutEpochs ad ZF (0, 0) (lpK G rm_Mod_cutEpochs ad ZF (0, 0) 19 (fun (s : Int32) => [(0, .ref v0), (1, .int v1), (2, .int v2), (3, .int s)]) K) 37 [(0, .ref v0), (1, .int v1), (2, .int v2), (3, .int v3)] [.int t0] (Mod_cutEpochs_37 v0 v1 v2 v3 t0) := by
  unfold Mod_cutEpochs_37
  refine s_istore C (L' := [(4, .int t0), (0, .ref v0), (1, .int v1), (2, .int v2), (3, .int v3)]) (by decide) rfl dX11_cutEpochs_37 ?_
  refine s_iload C rfl dX11_cutEpochs_39 ?_
  refine s_if_eq C 69 (by decide) dX11_cutEpochs_41 ?_ ?_
  · exact s_weak [0, 1, 2, 3, 4] rfl (sm_Mod_cutEpochs_69 C hV hR v0 v1 v2 v3 t0)
  · refine s_aload_n C rfl dX11_cutEpochs_44 ?_
    refine s_iload_n C rfl dX11_cutEpochs_45 ?_
    refine s_wI C hV lv_X11_120 (st := []) (met_Mod_isWrite v0 v3) rf_Mod_cutEpochs_Mod_isWrite rfl rfl (Nat.le_of_ble_eq_true rfl) dX11_cutEpochs_46 (fun r10 => ?_)
    refine s_if_eq C 69 (by decide) dX11_cutEpochs_49 ?_ ?_
    · exact s_weak [0, 1, 2, 3, 4] rfl (sm_Mod_cutEpochs_69 C hV hR v0 v1 v2 v3 t0)
    · refine s_aload_n C rfl dX11_cutEpochs_52 ?_
      refine s_getR C hV fl_X11_80 (fun _ _ _ => rfl) dX11_cutEpochs_53 (fun x11 => ?_)
      refine s_aload_n C rfl dX11_cutEpochs_56 ?_
      refine s_getI C hV fl_X11_238 (fun _ _ _ => rfl) dX11_cutEpochs_57 (fun x12 => ?_)
      refine s_iconst C (1 : Int32) (by decide) dX11_cutEpochs_60 ?_
      refine s_isub C dX11_cutEpochs_61 ?_
      refine s_dup2 C dX11_cutEpochs_62 ?_
      refine s_iaload C hV dX11_cutEpochs_63 (fun x13 => ?_)
      refine s_iconst C (1 : Int32) (by decide) dX11_cutEpochs_64 ?_
      refine s_iload_n C rfl dX11_cutEpochs_65 ?_
      refine s_ishl C dX11_cutEpochs_66 ?_
      refine s_ior C dX11_cutEpochs_67 ?_
      refine s_iastore C hV dX11_cutEpochs_68 ?_
      exact s_weak [0, 1, 2, 3, 4] rfl (sm_Mod_cutEpochs_69 C hV hR v0 v1 v2 v3 t0)
set_option maxRecDepth 20000 in
theorem sm_Mod_cutEpochs_19_b {G : GT} {ad : Nat → Nat} {K : Unit → Dm → Prop} (C : Cx G rm_Mod_cutEpochs cX11_cutEpochs 7 RX11) (hV : Vx G rm_Mod_cutEpochs ad ZF (0, 0)) (hR : RtV G rm_Mod_cutEpochs ad ZF (0, 0) cX11_cutEpochs K) (v0 : Nat) (v1 : Int32) (v2 : Int32) (v3 : Int32) : Sm G rm_Mod_cutEpochs ad ZF (0, 0) (lpK G rm_Mod_cutEpochs ad ZF (0, 0) 19 (fun (s : Int32) => [(0, .ref v0), (1, .int v1), (2, .int v2), (3, .int s)]) K) 19 [(0, .ref v0), (1, .int v1), (2, .int v2), (3, .int v3)] [] (Mod_cutEpochs_19_b v0 v1 v2 v3) := by
  unfold Mod_cutEpochs_19_b
  refine s_iload_n C rfl dX11_cutEpochs_19 ?_
  refine s_iload_n C rfl dX11_cutEpochs_20 ?_
  refine s_icmp_ge C 147 (by decide) dX11_cutEpochs_21 ?_ ?_
  · refine s_exit ?_
    exact s_vret hR dX11_cutEpochs_147
  · refine s_iload_n C rfl dX11_cutEpochs_24 ?_
    refine s_iload_n C rfl dX11_cutEpochs_25 ?_
    refine s_ishr C dX11_cutEpochs_26 ?_
    refine s_iconst C (1 : Int32) (by decide) dX11_cutEpochs_27 ?_
    refine s_iand C dX11_cutEpochs_28 ?_
    refine s_ite (g := fun z => Mod_cutEpochs_37 v0 v1 v2 v3 z) ?_
    refine s_if_ne C 36 (by decide) dX11_cutEpochs_29 ?_ ?_
    · refine s_iconst C (0 : Int32) (by decide) dX11_cutEpochs_36 ?_
      exact s_weak [0, 1, 2, 3] rfl (sm_Mod_cutEpochs_37 C hV hR v0 v1 v2 v3 (0 : Int32))
    · refine s_iconst C (1 : Int32) (by decide) dX11_cutEpochs_32 ?_
      refine s_goto C 37 (by decide) dX11_cutEpochs_33 ?_
      exact s_weak [0, 1, 2, 3] rfl (sm_Mod_cutEpochs_37 C hV hR v0 v1 v2 v3 (1 : Int32))
set_option maxRecDepth 20000 in
theorem sm_Mod_cutEpochs_19 {G : GT} {ad : Nat → Nat} {K : Unit → Dm → Prop} (C : Cx G rm_Mod_cutEpochs cX11_cutEpochs 7 RX11) (hV : Vx G rm_Mod_cutEpochs ad ZF (0, 0)) (hR : RtV G rm_Mod_cutEpochs ad ZF (0, 0) cX11_cutEpochs K) (v0 : Nat) (v1 : Int32) (v2 : Int32) (s : Int32) : Sm G rm_Mod_cutEpochs ad ZF (0, 0) K 19 ((fun (s : Int32) => [(0, .ref v0), (1, .int v1), (2, .int v2), (3, .int s)]) s) [] (Mod_cutEpochs_19 v0 v1 v2 s) :=
  s_loop (en := (fun (s : Int32) => [(0, .ref v0), (1, .int v1), (2, .int v2), (3, .int s)])) (fun s => sm_Mod_cutEpochs_19_b C hV hR v0 v1 v2 s) s
set_option maxRecDepth 20000 in
theorem sm_Mod_cutEpochs {G : GT} {ad : Nat → Nat} {K : Unit → Dm → Prop} (C : Cx G rm_Mod_cutEpochs cX11_cutEpochs 7 RX11) (hV : Vx G rm_Mod_cutEpochs ad ZF (0, 0)) (hR : RtV G rm_Mod_cutEpochs ad ZF (0, 0) cX11_cutEpochs K) (v0 : Nat) (v1 : Int32) (v2 : Int32) : Sm G rm_Mod_cutEpochs ad ZF (0, 0) K 0 [(0, .ref v0), (1, .int v1), (2, .int v2)] [] (Mod_cutEpochs v0 v1 v2) := by
  unfold Mod_cutEpochs
  refine s_aload_n C rfl dX11_cutEpochs_0 ?_
  refine s_iconst C (0 : Int32) (by decide) dX11_cutEpochs_1 ?_
  refine s_putI C hV fw_X11_235 rfl dX11_cutEpochs_2 ?_
  refine s_aload_n C rfl dX11_cutEpochs_5 ?_
  refine s_iconst C (1 : Int32) (by decide) dX11_cutEpochs_6 ?_
  refine s_putI C hV fw_X11_238 rfl dX11_cutEpochs_7 ?_
  refine s_aload_n C rfl dX11_cutEpochs_10 ?_
  refine s_getR C hV fl_X11_80 (fun _ _ _ => rfl) dX11_cutEpochs_11 (fun x1 => ?_)
  refine s_iconst C (0 : Int32) (by decide) dX11_cutEpochs_14 ?_
  refine s_iconst C (0 : Int32) (by decide) dX11_cutEpochs_15 ?_
  refine s_iastore C hV dX11_cutEpochs_16 ?_
  refine s_iconst C (0 : Int32) (by decide) dX11_cutEpochs_17 ?_
  refine s_leti (fun x2 => ?_)
  refine s_istore_n C (L' := [(3, .int x2), (0, .ref v0), (1, .int v1), (2, .int v2)]) (by decide) rfl dX11_cutEpochs_18 ?_
  exact s_weak [0, 1, 2, 3] rfl (sm_Mod_cutEpochs_19 C hV hR v0 v1 v2 x2)
set_option maxRecDepth 20000 in
theorem met_Mod_cutEpochs (v0 : Nat) (v1 : Int32) (v2 : Int32) : MV ZF yX11_cutEpochs cX11_cutEpochs 7 rm_Mod_cutEpochs [.ref v0, .int v1, .int v2] (Mod_cutEpochs v0 v1 v2) :=
  mv_of (L0 := [(0, .ref v0), (1, .int v1), (2, .int v2)]) (by decide +kernel) (Nat.le_of_ble_eq_true rfl) rfl (fun G ad K C hV hR => sm_Mod_cutEpochs C hV hR v0 v1 v2)

noncomputable def Mod_asCode_34 (v0 : Nat) (v1 : Int32) (v3 : Int32) (t0 : Int32) (t1 : Int32) : MM ((Int32 × Int32) ⊕ Int32) :=
  ml (t0 ||| t1) fun x6 =>
  ml (v3 + (1 : Int32)) fun x7 =>
  mp (.inl (x6, x7))
noncomputable def Mod_asCode_4_b (v0 : Nat) (v1 : Int32) (v2 : Int32) (v3 : Int32) : MM ((Int32 × Int32) ⊕ Int32) :=
  mb (gI ZF 12 34 v0) fun x3 =>
  if x3 ≤ v3 then
  mr (
  mp v2)
  else
  mb (gR ZF 12 33 v0) fun x4 =>
  mb (aI ZF 23 x4 v3) fun x5 =>
  Mod_asCode_34 v0 v1 v3 v2 (if ((v1 >>> (x5 &&& 31)) &&& (1 : Int32)) = (1 : Int32) then ((1 : Int32) <<< (v3 &&& 31)) else (0 : Int32))
noncomputable def Mod_asCode_4 (v0 : Nat) (v1 : Int32) (s : (Int32 × Int32)) : MM Int32 := lo (fun (s : (Int32 × Int32)) => Mod_asCode_4_b v0 v1 s.1 s.2) s
noncomputable def Mod_asCode (v0 : Nat) (v1 : Int32) : MM Int32 :=
  ml (0 : Int32) fun x1 =>
  ml (0 : Int32) fun x2 =>
  Mod_asCode_4 v0 v1 (x1, x2)
set_option maxRecDepth 20000 in
theorem sm_Mod_asCode_34 {G : GT} {ad : Nat → Nat} {K : Int32 → Dm → Prop} (C : Cx G rm_Mod_asCode cX11_asCode 4 RX11) (hV : Vx G rm_Mod_asCode ad ZF (0, 0)) (hR : RtI G rm_Mod_asCode ad ZF (0, 0) cX11_asCode .int K) (v0 : Nat) (v1 : Int32) (v3 : Int32) (t0 : Int32) (t1 : Int32) : Sm G rm_Mod_asCode ad ZF (0, 0) (lpK G rm_Mod_asCode ad ZF (0, 0) 4 (fun (s : (Int32 × Int32)) => [(0, .ref v0), (1, .int v1), (2, .int s.1), (3, .int s.2)]) K) 34 [(0, .ref v0), (1, .int v1), (3, .int v3)] [.int t1, .int t0] (Mod_asCode_34 v0 v1 v3 t0 t1) := by
  unfold Mod_asCode_34
  refine s_ior C dX11_asCode_34 ?_
  refine s_leti (fun x6 => ?_)
  refine s_istore_n C (L' := [(2, .int x6), (0, .ref v0), (1, .int v1), (3, .int v3)]) (by decide) rfl dX11_asCode_35 ?_
  refine s_iinc C (L' := fun x7 => [(3, .int x7), (2, .int x6), (0, .ref v0), (1, .int v1)]) (1 : Int32) (by decide) rfl (by decide) (fun _ => rfl) dX11_asCode_36 (fun x7 => ?_)
  refine s_goto C 4 (by decide) dX11_asCode_39 ?_
  exact s_back [0, 1, 2, 3] (x6, x7) rfl
set_option maxRecDepth 20000 in
theorem sm_Mod_asCode_4_b {G : GT} {ad : Nat → Nat} {K : Int32 → Dm → Prop} (C : Cx G rm_Mod_asCode cX11_asCode 4 RX11) (hV : Vx G rm_Mod_asCode ad ZF (0, 0)) (hR : RtI G rm_Mod_asCode ad ZF (0, 0) cX11_asCode .int K) (v0 : Nat) (v1 : Int32) (v2 : Int32) (v3 : Int32) : Sm G rm_Mod_asCode ad ZF (0, 0) (lpK G rm_Mod_asCode ad ZF (0, 0) 4 (fun (s : (Int32 × Int32)) => [(0, .ref v0), (1, .int v1), (2, .int s.1), (3, .int s.2)]) K) 4 [(0, .ref v0), (1, .int v1), (2, .int v2), (3, .int v3)] [] (Mod_asCode_4_b v0 v1 v2 v3) := by
  unfold Mod_asCode_4_b
  refine s_iload_n C rfl dX11_asCode_4 ?_
  refine s_aload_n C rfl dX11_asCode_5 ?_
  refine s_getI C hV fl_X11_226 (fun _ _ _ => rfl) dX11_asCode_6 (fun x3 => ?_)
  refine s_icmp_ge C 42 (by decide) dX11_asCode_9 ?_ ?_
  · refine s_exit ?_
    refine s_iload_n C rfl dX11_asCode_42 ?_
    exact s_ireti hR dX11_asCode_43
  · refine s_iload_n C rfl dX11_asCode_12 ?_
    refine s_iload_n C rfl dX11_asCode_13 ?_
    refine s_aload_n C rfl dX11_asCode_14 ?_
    refine s_getR C hV fl_X11_74 (fun _ _ _ => rfl) dX11_asCode_15 (fun x4 => ?_)
    refine s_iload_n C rfl dX11_asCode_18 ?_
    refine s_iaload C hV dX11_asCode_19 (fun x5 => ?_)
    refine s_ishr C dX11_asCode_20 ?_
    refine s_iconst C (1 : Int32) (by decide) dX11_asCode_21 ?_
    refine s_iand C dX11_asCode_22 ?_
    refine s_iconst C (1 : Int32) (by decide) dX11_asCode_23 ?_
    refine s_ite (g := fun z => Mod_asCode_34 v0 v1 v3 v2 z) ?_
    refine s_icmp_ne C 33 (by decide) dX11_asCode_24 ?_ ?_
    · refine s_iconst C (0 : Int32) (by decide) dX11_asCode_33 ?_
      exact s_weak [0, 1, 3] rfl (sm_Mod_asCode_34 C hV hR v0 v1 v3 v2 (0 : Int32))
    · refine s_iconst C (1 : Int32) (by decide) dX11_asCode_27 ?_
      refine s_iload_n C rfl dX11_asCode_28 ?_
      refine s_ishl C dX11_asCode_29 ?_
      refine s_goto C 34 (by decide) dX11_asCode_30 ?_
      exact s_weak [0, 1, 3] rfl (sm_Mod_asCode_34 C hV hR v0 v1 v3 v2 ((1 : Int32) <<< (v3 &&& 31)))
set_option maxRecDepth 20000 in
theorem sm_Mod_asCode_4 {G : GT} {ad : Nat → Nat} {K : Int32 → Dm → Prop} (C : Cx G rm_Mod_asCode cX11_asCode 4 RX11) (hV : Vx G rm_Mod_asCode ad ZF (0, 0)) (hR : RtI G rm_Mod_asCode ad ZF (0, 0) cX11_asCode .int K) (v0 : Nat) (v1 : Int32) (s : (Int32 × Int32)) : Sm G rm_Mod_asCode ad ZF (0, 0) K 4 ((fun (s : (Int32 × Int32)) => [(0, .ref v0), (1, .int v1), (2, .int s.1), (3, .int s.2)]) s) [] (Mod_asCode_4 v0 v1 s) :=
  s_loop (en := (fun (s : (Int32 × Int32)) => [(0, .ref v0), (1, .int v1), (2, .int s.1), (3, .int s.2)])) (fun s => sm_Mod_asCode_4_b C hV hR v0 v1 s.1 s.2) s
set_option maxRecDepth 20000 in
theorem sm_Mod_asCode {G : GT} {ad : Nat → Nat} {K : Int32 → Dm → Prop} (C : Cx G rm_Mod_asCode cX11_asCode 4 RX11) (hV : Vx G rm_Mod_asCode ad ZF (0, 0)) (hR : RtI G rm_Mod_asCode ad ZF (0, 0) cX11_asCode .int K) (v0 : Nat) (v1 : Int32) : Sm G rm_Mod_asCode ad ZF (0, 0) K 0 [(0, .ref v0), (1, .int v1)] [] (Mod_asCode v0 v1) := by
  unfold Mod_asCode
  refine s_iconst C (0 : Int32) (by decide) dX11_asCode_0 ?_
  refine s_leti (fun x1 => ?_)
  refine s_istore_n C (L' := [(2, .int x1), (0, .ref v0), (1, .int v1)]) (by decide) rfl dX11_asCode_1 ?_
  refine s_iconst C (0 : Int32) (by decide) dX11_asCode_2 ?_
  refine s_leti (fun x2 => ?_)
  refine s_istore_n C (L' := [(3, .int x2), (2, .int x1), (0, .ref v0), (1, .int v1)]) (by decide) rfl dX11_asCode_3 ?_
  exact s_weak [0, 1, 2, 3] rfl (sm_Mod_asCode_4 C hV hR v0 v1 (x1, x2))
set_option maxRecDepth 20000 in
theorem met_Mod_asCode (v0 : Nat) (v1 : Int32) : MI ZF yX11_asCode cX11_asCode 4 .int rm_Mod_asCode [.ref v0, .int v1] (Mod_asCode v0 v1) :=
  mi_of (L0 := [(0, .ref v0), (1, .int v1)]) (by decide +kernel) (Nat.le_of_ble_eq_true rfl) rfl (fun G ad K C hV hR => sm_Mod_asCode C hV hR v0 v1)

noncomputable def Mod_findSets_94 (v0 : Nat) (v3 : Int32) (v4 : Int32) (v5 : Int32) (v6 : Int32) (v7 : Int32) (t0 : Int32) : MM ((Int32 × Int32) ⊕ ((Int32 × Int32) ⊕ Unit)) :=
  ml ((v7 - (1 : Int32)) &&& v5) fun x16 =>
  mp (.inl (x16, t0))
noncomputable def Mod_findSets_55_b (v0 : Nat) (v3 : Int32) (v4 : Int32) (v5 : Int32) (v6 : Int32) (v7 : Int32) (v8 : Int32) : MM ((Int32 × Int32) ⊕ ((Int32 × Int32) ⊕ Unit)) :=
  if v8 = 0 then
  mr (
  mb (gR ZF 12 36 v0) fun x9 =>
  mb (aI ZF 23 x9 v4) fun x10 =>
  ml (v3 ||| x10) fun x11 =>
  ml (v4 + (1 : Int32)) fun x12 =>
  mp (.inl (x11, x12)))
  else
  mb (gR ZF 12 39 v0) fun x13 =>
  mb (gI ZF 12 40 v0) fun x14 =>
  mb (sI ZF x13 x14 (v6 ||| v7)) fun _ =>
  mb (gI ZF 12 40 v0) fun x15 =>
  mb (pI ZF 12 40 v0 (x15 + (1 : Int32))) fun _ =>
  Mod_findSets_94 v0 v3 v4 v5 v6 v7 (if v7 = 0 then (0 : Int32) else (1 : Int32))
noncomputable def Mod_findSets_55 (v0 : Nat) (v3 : Int32) (v4 : Int32) (v5 : Int32) (v6 : Int32) (s : (Int32 × Int32)) : MM ((Int32 × Int32) ⊕ Unit) := lo (fun (s : (Int32 × Int32)) => Mod_findSets_55_b v0 v3 v4 v5 v6 s.1 s.2) s
noncomputable def Mod_findSets_19_b (v0 : Nat) (v3 : Int32) (v4 : Int32) : MM ((Int32 × Int32) ⊕ Unit) :=
  mb (gI ZF 12 37 v0) fun x3 =>
  if x3 ≤ v4 then
  mr (
  mp ())
  else
  mb (gR ZF 12 36 v0) fun x4 =>
  mb (aI ZF 23 x4 v4) fun x5 =>
  mb (vc ZF 12 v0 (Mod_asCode v0 x5)) fun r6 =>
  mb (vc ZF 12 v0 (Mod_asCode v0 v3)) fun r7 =>
  ml (1 : Int32) fun x8 =>
  Mod_findSets_55 v0 v3 v4 r6 r7 (r6, x8)
noncomputable def Mod_findSets_19 (v0 : Nat) (s : (Int32 × Int32)) : MM Unit := lo (fun (s : (Int32 × Int32)) => Mod_findSets_19_b v0 s.1 s.2) s
noncomputable def Mod_findSets (v0 : Nat) (v1 : Int32) (v2 : Int32) : MM Unit :=
  mb (vc ZF 12 v0 (Mod_cutEpochs v0 v1 v2)) fun _ =>
  mb (pI ZF 12 40 v0 (0 : Int32)) fun _ =>
  mb (gI ZF 12 38 v0) fun x1 =>
  ml (0 : Int32) fun x2 =>
  Mod_findSets_19 v0 (x1, x2)
set_option maxRecDepth 20000 in
theorem sm_Mod_findSets_94 {G : GT} {ad : Nat → Nat} {K : Unit → Dm → Prop} (C : Cx G rm_Mod_findSets cX11_findSets 9 RX11) (hV : Vx G rm_Mod_findSets ad ZF (0, 0)) (hR : RtV G rm_Mod_findSets ad ZF (0, 0) cX11_findSets K) (v0 : Nat) (v3 : Int32) (v4 : Int32) (v5 : Int32) (v6 : Int32) (v7 : Int32) (t0 : Int32) : Sm G rm_Mod_findSets ad ZF (0, 0) (lpK G rm_Mod_findSets ad ZF (0, 0) 55 (fun (s : (Int32 × Int32)) => [(0, .ref v0), (3, .int v3), (4, .int v4), (5, .int v5), (6, .int v6), (7, .int s.1), (8, .int s.2)]) (lpK G rm_Mod_findSets ad ZF (0, 0) 19 (fun (s : (Int32 × Int32)) => [(0, .ref v0), (3, .int s.1), (4, .int s.2)]) K)) 94 [(0, .ref v0), (3, .int v3), (4, .int v4), (5, .int v5), (6, .int v6), (7, .int v7)] [.int t0] (Mod_findSets_94 v0 v3 v4 v5 v6 v7 t0) := by
  unfold Mod_findSets_94
  refine s_istore C (L' := [(8, .int t0), (0, .ref v0), (3, .int v3), (4, .int v4), (5, .int v5), (6, .int v6), (7, .int v7)]) (by decide) rfl dX11_findSets_94 ?_
  refine s_iload C rfl dX11_findSets_96 ?_
  refine s_iconst C (1 : Int32) (by decide) dX11_findSets_98 ?_
  refine s_isub C dX11_findSets_99 ?_
  refine s_iload C rfl dX11_findSets_100 ?_
  refine s_iand C dX11_findSets_102 ?_
  refine s_leti (fun x16 => ?_)
  refine s_istore C (L' := [(7, .int x16), (8, .int t0), (0, .ref v0), (3, .int v3), (4, .int v4), (5, .int v5), (6, .int v6)]) (by decide) rfl dX11_findSets_103 ?_
  refine s_goto C 55 (by decide) dX11_findSets_105 ?_
  exact s_back [0, 3, 4, 5, 6, 7, 8] (x16, t0) rfl
set_option maxRecDepth 20000 in
theorem sm_Mod_findSets_55_b {G : GT} {ad : Nat → Nat} {K : Unit → Dm → Prop} (C : Cx G rm_Mod_findSets cX11_findSets 9 RX11) (hV : Vx G rm_Mod_findSets ad ZF (0, 0)) (hR : RtV G rm_Mod_findSets ad ZF (0, 0) cX11_findSets K) (v0 : Nat) (v3 : Int32) (v4 : Int32) (v5 : Int32) (v6 : Int32) (v7 : Int32) (v8 : Int32) : Sm G rm_Mod_findSets ad ZF (0, 0) (lpK G rm_Mod_findSets ad ZF (0, 0) 55 (fun (s : (Int32 × Int32)) => [(0, .ref v0), (3, .int v3), (4, .int v4), (5, .int v5), (6, .int v6), (7, .int s.1), (8, .int s.2)]) (lpK G rm_Mod_findSets ad ZF (0, 0) 19 (fun (s : (Int32 × Int32)) => [(0, .ref v0), (3, .int s.1), (4, .int s.2)]) K)) 55 [(0, .ref v0), (3, .int v3), (4, .int v4), (5, .int v5), (6, .int v6), (7, .int v7), (8, .int v8)] [] (Mod_findSets_55_b v0 v3 v4 v5 v6 v7 v8) := by
  unfold Mod_findSets_55_b
  refine s_iload C rfl dX11_findSets_55 ?_
  refine s_if_eq C 108 (by decide) dX11_findSets_57 ?_ ?_
  · refine s_exit ?_
    refine s_iload_n C rfl dX11_findSets_108 ?_
    refine s_aload_n C rfl dX11_findSets_109 ?_
    refine s_getR C hV fl_X11_80 (fun _ _ _ => rfl) dX11_findSets_110 (fun x9 => ?_)
    refine s_iload C rfl dX11_findSets_113 ?_
    refine s_iaload C hV dX11_findSets_115 (fun x10 => ?_)
    refine s_ior C dX11_findSets_116 ?_
    refine s_leti (fun x11 => ?_)
    refine s_istore_n C (L' := [(3, .int x11), (0, .ref v0), (4, .int v4), (5, .int v5), (6, .int v6), (7, .int v7), (8, .int v8)]) (by decide) rfl dX11_findSets_117 ?_
    refine s_iinc C (L' := fun x12 => [(4, .int x12), (3, .int x11), (0, .ref v0), (5, .int v5), (6, .int v6), (7, .int v7), (8, .int v8)]) (1 : Int32) (by decide) rfl (by decide) (fun _ => rfl) dX11_findSets_118 (fun x12 => ?_)
    refine s_goto C 19 (by decide) dX11_findSets_121 ?_
    exact s_back [0, 3, 4] (x11, x12) rfl
  · refine s_aload_n C rfl dX11_findSets_60 ?_
    refine s_getR C hV fl_X11_83 (fun _ _ _ => rfl) dX11_findSets_61 (fun x13 => ?_)
    refine s_aload_n C rfl dX11_findSets_64 ?_
    refine s_getI C hV fl_X11_248 (fun _ _ _ => rfl) dX11_findSets_65 (fun x14 => ?_)
    refine s_iload C rfl dX11_findSets_68 ?_
    refine s_iload C rfl dX11_findSets_70 ?_
    refine s_ior C dX11_findSets_72 ?_
    refine s_iastore C hV dX11_findSets_73 ?_
    refine s_aload_n C rfl dX11_findSets_74 ?_
    refine s_dupr C dX11_findSets_75 ?_
    refine s_getI C hV fl_X11_248 (fun _ _ _ => rfl) dX11_findSets_76 (fun x15 => ?_)
    refine s_iconst C (1 : Int32) (by decide) dX11_findSets_79 ?_
    refine s_iadd C dX11_findSets_80 ?_
    refine s_putI C hV fw_X11_248 rfl dX11_findSets_81 ?_
    refine s_iload C rfl dX11_findSets_84 ?_
    refine s_ite (g := fun z => Mod_findSets_94 v0 v3 v4 v5 v6 v7 z) ?_
    refine s_if_eq C 93 (by decide) dX11_findSets_86 ?_ ?_
    · refine s_iconst C (0 : Int32) (by decide) dX11_findSets_93 ?_
      exact s_weak [0, 3, 4, 5, 6, 7] rfl (sm_Mod_findSets_94 C hV hR v0 v3 v4 v5 v6 v7 (0 : Int32))
    · refine s_iconst C (1 : Int32) (by decide) dX11_findSets_89 ?_
      refine s_goto C 94 (by decide) dX11_findSets_90 ?_
      exact s_weak [0, 3, 4, 5, 6, 7] rfl (sm_Mod_findSets_94 C hV hR v0 v3 v4 v5 v6 v7 (1 : Int32))
set_option maxRecDepth 20000 in
theorem sm_Mod_findSets_55 {G : GT} {ad : Nat → Nat} {K : Unit → Dm → Prop} (C : Cx G rm_Mod_findSets cX11_findSets 9 RX11) (hV : Vx G rm_Mod_findSets ad ZF (0, 0)) (hR : RtV G rm_Mod_findSets ad ZF (0, 0) cX11_findSets K) (v0 : Nat) (v3 : Int32) (v4 : Int32) (v5 : Int32) (v6 : Int32) (s : (Int32 × Int32)) : Sm G rm_Mod_findSets ad ZF (0, 0) (lpK G rm_Mod_findSets ad ZF (0, 0) 19 (fun (s : (Int32 × Int32)) => [(0, .ref v0), (3, .int s.1), (4, .int s.2)]) K) 55 ((fun (s : (Int32 × Int32)) => [(0, .ref v0), (3, .int v3), (4, .int v4), (5, .int v5), (6, .int v6), (7, .int s.1), (8, .int s.2)]) s) [] (Mod_findSets_55 v0 v3 v4 v5 v6 s) :=
  s_loop (en := (fun (s : (Int32 × Int32)) => [(0, .ref v0), (3, .int v3), (4, .int v4), (5, .int v5), (6, .int v6), (7, .int s.1), (8, .int s.2)])) (fun s => sm_Mod_findSets_55_b C hV hR v0 v3 v4 v5 v6 s.1 s.2) s
set_option maxRecDepth 20000 in
theorem sm_Mod_findSets_19_b {G : GT} {ad : Nat → Nat} {K : Unit → Dm → Prop} (C : Cx G rm_Mod_findSets cX11_findSets 9 RX11) (hV : Vx G rm_Mod_findSets ad ZF (0, 0)) (hR : RtV G rm_Mod_findSets ad ZF (0, 0) cX11_findSets K) (v0 : Nat) (v3 : Int32) (v4 : Int32) : Sm G rm_Mod_findSets ad ZF (0, 0) (lpK G rm_Mod_findSets ad ZF (0, 0) 19 (fun (s : (Int32 × Int32)) => [(0, .ref v0), (3, .int s.1), (4, .int s.2)]) K) 19 [(0, .ref v0), (3, .int v3), (4, .int v4)] [] (Mod_findSets_19_b v0 v3 v4) := by
  unfold Mod_findSets_19_b
  refine s_iload C rfl dX11_findSets_19 ?_
  refine s_aload_n C rfl dX11_findSets_21 ?_
  refine s_getI C hV fl_X11_238 (fun _ _ _ => rfl) dX11_findSets_22 (fun x3 => ?_)
  refine s_icmp_ge C 124 (by decide) dX11_findSets_25 ?_ ?_
  · refine s_exit ?_
    exact s_vret hR dX11_findSets_124
  · refine s_aload_n C rfl dX11_findSets_28 ?_
    refine s_aload_n C rfl dX11_findSets_29 ?_
    refine s_getR C hV fl_X11_80 (fun _ _ _ => rfl) dX11_findSets_30 (fun x4 => ?_)
    refine s_iload C rfl dX11_findSets_33 ?_
    refine s_iaload C hV dX11_findSets_35 (fun x5 => ?_)
    refine s_wI C hV lv_X11_251 (st := []) (met_Mod_asCode v0 x5) rf_Mod_findSets_Mod_asCode rfl rfl (Nat.le_of_ble_eq_true rfl) dX11_findSets_36 (fun r6 => ?_)
    refine s_istore C (L' := [(5, .int r6), (0, .ref v0), (3, .int v3), (4, .int v4)]) (by decide) rfl dX11_findSets_39 ?_
    refine s_aload_n C rfl dX11_findSets_41 ?_
    refine s_iload_n C rfl dX11_findSets_42 ?_
    refine s_wI C hV lv_X11_251 (st := []) (met_Mod_asCode v0 v3) rf_Mod_findSets_Mod_asCode rfl rfl (Nat.le_of_ble_eq_true rfl) dX11_findSets_43 (fun r7 => ?_)
    refine s_istore C (L' := [(6, .int r7), (5, .int r6), (0, .ref v0), (3, .int v3), (4, .int v4)]) (by decide) rfl dX11_findSets_46 ?_
    refine s_iload C rfl dX11_findSets_48 ?_
    refine s_istore C (L' := [(7, .int r6), (6, .int r7), (5, .int r6), (0, .ref v0), (3, .int v3), (4, .int v4)]) (by decide) rfl dX11_findSets_50 ?_
    refine s_iconst C (1 : Int32) (by decide) dX11_findSets_52 ?_
    refine s_leti (fun x8 => ?_)
    refine s_istore C (L' := [(8, .int x8), (7, .int r6), (6, .int r7), (5, .int r6), (0, .ref v0), (3, .int v3), (4, .int v4)]) (by decide) rfl dX11_findSets_53 ?_
    exact s_weak [0, 3, 4, 5, 6, 7, 8] rfl (sm_Mod_findSets_55 C hV hR v0 v3 v4 r6 r7 (r6, x8))
set_option maxRecDepth 20000 in
theorem sm_Mod_findSets_19 {G : GT} {ad : Nat → Nat} {K : Unit → Dm → Prop} (C : Cx G rm_Mod_findSets cX11_findSets 9 RX11) (hV : Vx G rm_Mod_findSets ad ZF (0, 0)) (hR : RtV G rm_Mod_findSets ad ZF (0, 0) cX11_findSets K) (v0 : Nat) (s : (Int32 × Int32)) : Sm G rm_Mod_findSets ad ZF (0, 0) K 19 ((fun (s : (Int32 × Int32)) => [(0, .ref v0), (3, .int s.1), (4, .int s.2)]) s) [] (Mod_findSets_19 v0 s) :=
  s_loop (en := (fun (s : (Int32 × Int32)) => [(0, .ref v0), (3, .int s.1), (4, .int s.2)])) (fun s => sm_Mod_findSets_19_b C hV hR v0 s.1 s.2) s
set_option maxRecDepth 20000 in
theorem sm_Mod_findSets {G : GT} {ad : Nat → Nat} {K : Unit → Dm → Prop} (C : Cx G rm_Mod_findSets cX11_findSets 9 RX11) (hV : Vx G rm_Mod_findSets ad ZF (0, 0)) (hR : RtV G rm_Mod_findSets ad ZF (0, 0) cX11_findSets K) (v0 : Nat) (v1 : Int32) (v2 : Int32) : Sm G rm_Mod_findSets ad ZF (0, 0) K 0 [(0, .ref v0), (1, .int v1), (2, .int v2)] [] (Mod_findSets v0 v1 v2) := by
  unfold Mod_findSets
  refine s_aload_n C rfl dX11_findSets_0 ?_
  refine s_iload_n C rfl dX11_findSets_1 ?_
  refine s_iload_n C rfl dX11_findSets_2 ?_
  refine s_wV C hV lv_X11_244 (st := []) (met_Mod_cutEpochs v0 v1 v2) rf_Mod_findSets_Mod_cutEpochs rfl rfl (Nat.le_of_ble_eq_true rfl) dX11_findSets_3 ?_
  refine s_aload_n C rfl dX11_findSets_6 ?_
  refine s_iconst C (0 : Int32) (by decide) dX11_findSets_7 ?_
  refine s_putI C hV fw_X11_248 rfl dX11_findSets_8 ?_
  refine s_aload_n C rfl dX11_findSets_11 ?_
  refine s_getI C hV fl_X11_235 (fun _ _ _ => rfl) dX11_findSets_12 (fun x1 => ?_)
  refine s_istore_n C (L' := [(3, .int x1), (0, .ref v0), (1, .int v1), (2, .int v2)]) (by decide) rfl dX11_findSets_15 ?_
  refine s_iconst C (0 : Int32) (by decide) dX11_findSets_16 ?_
  refine s_leti (fun x2 => ?_)
  refine s_istore C (L' := [(4, .int x2), (3, .int x1), (0, .ref v0), (1, .int v1), (2, .int v2)]) (by decide) rfl dX11_findSets_17 ?_
  exact s_weak [0, 3, 4] rfl (sm_Mod_findSets_19 C hV hR v0 (x1, x2))
set_option maxRecDepth 20000 in
theorem met_Mod_findSets (v0 : Nat) (v1 : Int32) (v2 : Int32) : MV ZF yX11_findSets cX11_findSets 9 rm_Mod_findSets [.ref v0, .int v1, .int v2] (Mod_findSets v0 v1 v2) :=
  mv_of (L0 := [(0, .ref v0), (1, .int v1), (2, .int v2)]) (by decide +kernel) (Nat.le_of_ble_eq_true rfl) rfl (fun G ad K C hV hR => sm_Mod_findSets C hV hR v0 v1 v2)

noncomputable def Mod_findPlates_193 (v0 : Nat) (v2 : Int32) : MM (Int32 ⊕ Unit) :=
  ml (v2 + (1 : Int32)) fun x9 =>
  mp (.inl x9)
noncomputable def Mod_findPlates_168 (v0 : Nat) (v2 : Int32) : MM (Int32 ⊕ Unit) :=
  mb (gR ZF 12 41 v0) fun x4 =>
  mb (gI ZF 12 42 v0) fun x5 =>
  mb (gR ZF 12 39 v0) fun x6 =>
  mb (aI ZF 23 x6 v2) fun x7 =>
  mb (sI ZF x4 x5 x7) fun _ =>
  mb (gI ZF 12 42 v0) fun x8 =>
  mb (pI ZF 12 42 v0 (x8 + (1 : Int32))) fun _ =>
  Mod_findPlates_193 v0 v2
noncomputable def Mod_findPlates_128_b (v0 : Nat) (v2 : Int32) : MM (Int32 ⊕ Unit) :=
  mb (gI ZF 12 40 v0) fun x3 =>
  if x3 ≤ v2 then
  mr (
  mp ())
  else
  if v2 = 0 then
  Mod_findPlates_168 v0 v2
  else
  mb (gR ZF 12 28 v0) fun x10 =>
  mb (gR ZF 12 39 v0) fun x11 =>
  mb (aI ZF 23 x11 v2) fun x12 =>
  mb (aL ZF x10 x12) fun x13 =>
  mb (gR ZF 12 28 v0) fun x14 =>
  mb (gR ZF 12 39 v0) fun x15 =>
  mb (aI ZF 23 x15 (v2 - (1 : Int32))) fun x16 =>
  mb (aL ZF x14 x16) fun x17 =>
  if x13 = x17 then
  Mod_findPlates_193 v0 v2
  else
  Mod_findPlates_168 v0 v2
noncomputable def Mod_findPlates_128 (v0 : Nat) (s : Int32) : MM Unit := lo (fun (s : Int32) => Mod_findPlates_128_b v0 s) s
noncomputable def Mod_findPlates_99 (v0 : Nat) (v2 : Int32) (v3 : Int32) (v4 : Int32) (v5 : Int32) : MM (Int32 ⊕ (Int32 ⊕ Unit)) :=
  mb (gR ZF 12 39 v0) fun x22 =>
  mb (sI ZF x22 v5 v4) fun _ =>
  ml (v3 + (1 : Int32)) fun x23 =>
  mp (.inl x23)
noncomputable def Mod_findPlates_43_b (v0 : Nat) (v2 : Int32) (v3 : Int32) (v4 : Int32) (v5 : Int32) : MM (Int32 ⊕ (Int32 ⊕ (Int32 ⊕ Unit))) :=
  if v5 < v2 then
  mr (Mod_findPlates_99 v0 v2 v3 v4 v5)
  else
  mb (gR ZF 12 28 v0) fun x24 =>
  mb (gR ZF 12 39 v0) fun x25 =>
  mb (aI ZF 23 x25 (v5 - v2)) fun x26 =>
  mb (aL ZF x24 x26) fun x27 =>
  mb (gR ZF 12 28 v0) fun x28 =>
  mb (aL ZF x28 v4) fun x29 =>
  if x27 ≤ x29 then
  mr (Mod_findPlates_99 v0 v2 v3 v4 v5)
  else
  mb (gR ZF 12 39 v0) fun x30 =>
  mb (gR ZF 12 39 v0) fun x31 =>
  mb (aI ZF 23 x31 (v5 - v2)) fun x32 =>
  mb (sI ZF x30 v5 x32) fun _ =>
  ml (v5 - v2) fun x33 =>
  mp (.inl x33)
noncomputable def Mod_findPlates_43 (v0 : Nat) (v2 : Int32) (v3 : Int32) (v4 : Int32) (s : Int32) : MM (Int32 ⊕ (Int32 ⊕ Unit)) := lo (fun (s : Int32) => Mod_findPlates_43_b v0 v2 v3 v4 s) s
noncomputable def Mod_findPlates_24_b (v0 : Nat) (v2 : Int32) (v3 : Int32) : MM (Int32 ⊕ (Int32 ⊕ Unit)) :=
  mb (gI ZF 12 40 v0) fun x18 =>
  if x18 ≤ v3 then
  mr (
  ml (v2 / (3 : Int32)) fun x19 =>
  mp (.inl x19))
  else
  mb (gR ZF 12 39 v0) fun x20 =>
  mb (aI ZF 23 x20 v3) fun x21 =>
  Mod_findPlates_43 v0 v2 v3 x21 v3
noncomputable def Mod_findPlates_24 (v0 : Nat) (v2 : Int32) (s : Int32) : MM (Int32 ⊕ Unit) := lo (fun (s : Int32) => Mod_findPlates_24_b v0 v2 s) s
noncomputable def Mod_findPlates_18_b (v0 : Nat) (v2 : Int32) : MM (Int32 ⊕ Unit) :=
  if v2 ≤ 0 then
  mr (
  mb (pI ZF 12 42 v0 (0 : Int32)) fun _ =>
  ml (0 : Int32) fun x2 =>
  Mod_findPlates_128 v0 x2)
  else
  Mod_findPlates_24 v0 v2 v2
noncomputable def Mod_findPlates_18 (v0 : Nat) (s : Int32) : MM Unit := lo (fun (s : Int32) => Mod_findPlates_18_b v0 s) s
noncomputable def Mod_findPlates (v0 : Nat) (v1 : Int32) : MM Unit :=
  mb (vc ZF 12 v0 (Mod_layAll v0)) fun _ =>
  mb (vc ZF 12 v0 (Mod_putNothing v0)) fun _ =>
  mb (vc ZF 12 v0 (Mod_findSets v0 v1 (0 : Int32))) fun _ =>
  ml (3280 : Int32) fun x1 =>
  Mod_findPlates_18 v0 x1
set_option maxRecDepth 20000 in
theorem sm_Mod_findPlates_193 {G : GT} {ad : Nat → Nat} {K : Unit → Dm → Prop} (C : Cx G rm_Mod_findPlates cX11_findPlates 6 RX11) (hV : Vx G rm_Mod_findPlates ad ZF (0, 0)) (hR : RtV G rm_Mod_findPlates ad ZF (0, 0) cX11_findPlates K) (v0 : Nat) (v2 : Int32) : Sm G rm_Mod_findPlates ad ZF (0, 0) (lpK G rm_Mod_findPlates ad ZF (0, 0) 128 (fun (s : Int32) => [(0, .ref v0), (2, .int s)]) K) 193 [(0, .ref v0), (2, .int v2)] [] (Mod_findPlates_193 v0 v2) := by
  unfold Mod_findPlates_193
  refine s_iinc C (L' := fun x9 => [(2, .int x9), (0, .ref v0)]) (1 : Int32) (by decide) rfl (by decide) (fun _ => rfl) dX11_findPlates_193 (fun x9 => ?_)
  refine s_goto C 128 (by decide) dX11_findPlates_196 ?_
  exact s_back [0, 2] x9 rfl
set_option maxRecDepth 20000 in
theorem sm_Mod_findPlates_168 {G : GT} {ad : Nat → Nat} {K : Unit → Dm → Prop} (C : Cx G rm_Mod_findPlates cX11_findPlates 6 RX11) (hV : Vx G rm_Mod_findPlates ad ZF (0, 0)) (hR : RtV G rm_Mod_findPlates ad ZF (0, 0) cX11_findPlates K) (v0 : Nat) (v2 : Int32) : Sm G rm_Mod_findPlates ad ZF (0, 0) (lpK G rm_Mod_findPlates ad ZF (0, 0) 128 (fun (s : Int32) => [(0, .ref v0), (2, .int s)]) K) 168 [(0, .ref v0), (2, .int v2)] [] (Mod_findPlates_168 v0 v2) := by
  unfold Mod_findPlates_168
  refine s_aload_n C rfl dX11_findPlates_168 ?_
  refine s_getR C hV fl_X11_86 (fun _ _ _ => rfl) dX11_findPlates_169 (fun x4 => ?_)
  refine s_aload_n C rfl dX11_findPlates_172 ?_
  refine s_getI C hV fl_X11_270 (fun _ _ _ => rfl) dX11_findPlates_173 (fun x5 => ?_)
  refine s_aload_n C rfl dX11_findPlates_176 ?_
  refine s_getR C hV fl_X11_83 (fun _ _ _ => rfl) dX11_findPlates_177 (fun x6 => ?_)
  refine s_iload_n C rfl dX11_findPlates_180 ?_
  refine s_iaload C hV dX11_findPlates_181 (fun x7 => ?_)
  refine s_iastore C hV dX11_findPlates_182 ?_
  refine s_aload_n C rfl dX11_findPlates_183 ?_
  refine s_dupr C dX11_findPlates_184 ?_
  refine s_getI C hV fl_X11_270 (fun _ _ _ => rfl) dX11_findPlates_185 (fun x8 => ?_)
  refine s_iconst C (1 : Int32) (by decide) dX11_findPlates_188 ?_
  refine s_iadd C dX11_findPlates_189 ?_
  refine s_putI C hV fw_X11_270 rfl dX11_findPlates_190 ?_
  exact s_weak [0, 2] rfl (sm_Mod_findPlates_193 C hV hR v0 v2)
set_option maxRecDepth 20000 in
theorem sm_Mod_findPlates_128_b {G : GT} {ad : Nat → Nat} {K : Unit → Dm → Prop} (C : Cx G rm_Mod_findPlates cX11_findPlates 6 RX11) (hV : Vx G rm_Mod_findPlates ad ZF (0, 0)) (hR : RtV G rm_Mod_findPlates ad ZF (0, 0) cX11_findPlates K) (v0 : Nat) (v2 : Int32) : Sm G rm_Mod_findPlates ad ZF (0, 0) (lpK G rm_Mod_findPlates ad ZF (0, 0) 128 (fun (s : Int32) => [(0, .ref v0), (2, .int s)]) K) 128 [(0, .ref v0), (2, .int v2)] [] (Mod_findPlates_128_b v0 v2) := by
  unfold Mod_findPlates_128_b
  refine s_iload_n C rfl dX11_findPlates_128 ?_
  refine s_aload_n C rfl dX11_findPlates_129 ?_
  refine s_getI C hV fl_X11_248 (fun _ _ _ => rfl) dX11_findPlates_130 (fun x3 => ?_)
  refine s_icmp_ge C 199 (by decide) dX11_findPlates_133 ?_ ?_
  · refine s_exit ?_
    exact s_vret hR dX11_findPlates_199
  · refine s_iload_n C rfl dX11_findPlates_136 ?_
    refine s_if_eq C 168 (by decide) dX11_findPlates_137 ?_ ?_
    · exact s_weak [0, 2] rfl (sm_Mod_findPlates_168 C hV hR v0 v2)
    · refine s_aload_n C rfl dX11_findPlates_140 ?_
      refine s_getR C hV fl_X11_58 (fun _ _ _ => rfl) dX11_findPlates_141 (fun x10 => ?_)
      refine s_aload_n C rfl dX11_findPlates_144 ?_
      refine s_getR C hV fl_X11_83 (fun _ _ _ => rfl) dX11_findPlates_145 (fun x11 => ?_)
      refine s_iload_n C rfl dX11_findPlates_148 ?_
      refine s_iaload C hV dX11_findPlates_149 (fun x12 => ?_)
      refine s_laload C hV dX11_findPlates_150 (fun x13 => ?_)
      refine s_aload_n C rfl dX11_findPlates_151 ?_
      refine s_getR C hV fl_X11_58 (fun _ _ _ => rfl) dX11_findPlates_152 (fun x14 => ?_)
      refine s_aload_n C rfl dX11_findPlates_155 ?_
      refine s_getR C hV fl_X11_83 (fun _ _ _ => rfl) dX11_findPlates_156 (fun x15 => ?_)
      refine s_iload_n C rfl dX11_findPlates_159 ?_
      refine s_iconst C (1 : Int32) (by decide) dX11_findPlates_160 ?_
      refine s_isub C dX11_findPlates_161 ?_
      refine s_iaload C hV dX11_findPlates_162 (fun x16 => ?_)
      refine s_laload C hV dX11_findPlates_163 (fun x17 => ?_)
      refine s_lcmp_eq C 193 (by decide) dX11_findPlates_164 dX11_findPlates_165 ?_ ?_
      · exact s_weak [0, 2] rfl (sm_Mod_findPlates_193 C hV hR v0 v2)
      · exact s_weak [0, 2] rfl (sm_Mod_findPlates_168 C hV hR v0 v2)
set_option maxRecDepth 20000 in
theorem sm_Mod_findPlates_128 {G : GT} {ad : Nat → Nat} {K : Unit → Dm → Prop} (C : Cx G rm_Mod_findPlates cX11_findPlates 6 RX11) (hV : Vx G rm_Mod_findPlates ad ZF (0, 0)) (hR : RtV G rm_Mod_findPlates ad ZF (0, 0) cX11_findPlates K) (v0 : Nat) (s : Int32) : Sm G rm_Mod_findPlates ad ZF (0, 0) K 128 ((fun (s : Int32) => [(0, .ref v0), (2, .int s)]) s) [] (Mod_findPlates_128 v0 s) :=
  s_loop (en := (fun (s : Int32) => [(0, .ref v0), (2, .int s)])) (fun s => sm_Mod_findPlates_128_b C hV hR v0 s) s
set_option maxRecDepth 20000 in
theorem sm_Mod_findPlates_99 {G : GT} {ad : Nat → Nat} {K : Unit → Dm → Prop} (C : Cx G rm_Mod_findPlates cX11_findPlates 6 RX11) (hV : Vx G rm_Mod_findPlates ad ZF (0, 0)) (hR : RtV G rm_Mod_findPlates ad ZF (0, 0) cX11_findPlates K) (v0 : Nat) (v2 : Int32) (v3 : Int32) (v4 : Int32) (v5 : Int32) : Sm G rm_Mod_findPlates ad ZF (0, 0) (lpK G rm_Mod_findPlates ad ZF (0, 0) 24 (fun (s : Int32) => [(0, .ref v0), (2, .int v2), (3, .int s)]) (lpK G rm_Mod_findPlates ad ZF (0, 0) 18 (fun (s : Int32) => [(0, .ref v0), (2, .int s)]) K)) 99 [(0, .ref v0), (2, .int v2), (3, .int v3), (4, .int v4), (5, .int v5)] [] (Mod_findPlates_99 v0 v2 v3 v4 v5) := by
  unfold Mod_findPlates_99
  refine s_aload_n C rfl dX11_findPlates_99 ?_
  refine s_getR C hV fl_X11_83 (fun _ _ _ => rfl) dX11_findPlates_100 (fun x22 => ?_)
  refine s_iload C rfl dX11_findPlates_103 ?_
  refine s_iload C rfl dX11_findPlates_105 ?_
  refine s_iastore C hV dX11_findPlates_107 ?_
  refine s_iinc C (L' := fun x23 => [(3, .int x23), (0, .ref v0), (2, .int v2), (4, .int v4), (5, .int v5)]) (1 : Int32) (by decide) rfl (by decide) (fun _ => rfl) dX11_findPlates_108 (fun x23 => ?_)
  refine s_goto C 24 (by decide) dX11_findPlates_111 ?_
  exact s_back [0, 2, 3] x23 rfl
set_option maxRecDepth 20000 in
theorem sm_Mod_findPlates_43_b {G : GT} {ad : Nat → Nat} {K : Unit → Dm → Prop} (C : Cx G rm_Mod_findPlates cX11_findPlates 6 RX11) (hV : Vx G rm_Mod_findPlates ad ZF (0, 0)) (hR : RtV G rm_Mod_findPlates ad ZF (0, 0) cX11_findPlates K) (v0 : Nat) (v2 : Int32) (v3 : Int32) (v4 : Int32) (v5 : Int32) : Sm G rm_Mod_findPlates ad ZF (0, 0) (lpK G rm_Mod_findPlates ad ZF (0, 0) 43 (fun (s : Int32) => [(0, .ref v0), (2, .int v2), (3, .int v3), (4, .int v4), (5, .int s)]) (lpK G rm_Mod_findPlates ad ZF (0, 0) 24 (fun (s : Int32) => [(0, .ref v0), (2, .int v2), (3, .int s)]) (lpK G rm_Mod_findPlates ad ZF (0, 0) 18 (fun (s : Int32) => [(0, .ref v0), (2, .int s)]) K))) 43 [(0, .ref v0), (2, .int v2), (3, .int v3), (4, .int v4), (5, .int v5)] [] (Mod_findPlates_43_b v0 v2 v3 v4 v5) := by
  unfold Mod_findPlates_43_b
  refine s_iload C rfl dX11_findPlates_43 ?_
  refine s_iload_n C rfl dX11_findPlates_45 ?_
  refine s_icmp_lt C 99 (by decide) dX11_findPlates_46 ?_ ?_
  · refine s_exit ?_
    exact s_weak [0, 2, 3, 4, 5] rfl (sm_Mod_findPlates_99 C hV hR v0 v2 v3 v4 v5)
  · refine s_aload_n C rfl dX11_findPlates_49 ?_
    refine s_getR C hV fl_X11_58 (fun _ _ _ => rfl) dX11_findPlates_50 (fun x24 => ?_)
    refine s_aload_n C rfl dX11_findPlates_53 ?_
    refine s_getR C hV fl_X11_83 (fun _ _ _ => rfl) dX11_findPlates_54 (fun x25 => ?_)
    refine s_iload C rfl dX11_findPlates_57 ?_
    refine s_iload_n C rfl dX11_findPlates_59 ?_
    refine s_isub C dX11_findPlates_60 ?_
    refine s_iaload C hV dX11_findPlates_61 (fun x26 => ?_)
    refine s_laload C hV dX11_findPlates_62 (fun x27 => ?_)
    refine s_aload_n C rfl dX11_findPlates_63 ?_
    refine s_getR C hV fl_X11_58 (fun _ _ _ => rfl) dX11_findPlates_64 (fun x28 => ?_)
    refine s_iload C rfl dX11_findPlates_67 ?_
    refine s_laload C hV dX11_findPlates_69 (fun x29 => ?_)
    refine s_lcmp_le C 99 (by decide) dX11_findPlates_70 dX11_findPlates_71 ?_ ?_
    · refine s_exit ?_
      exact s_weak [0, 2, 3, 4, 5] rfl (sm_Mod_findPlates_99 C hV hR v0 v2 v3 v4 v5)
    · refine s_aload_n C rfl dX11_findPlates_74 ?_
      refine s_getR C hV fl_X11_83 (fun _ _ _ => rfl) dX11_findPlates_75 (fun x30 => ?_)
      refine s_iload C rfl dX11_findPlates_78 ?_
      refine s_aload_n C rfl dX11_findPlates_80 ?_
      refine s_getR C hV fl_X11_83 (fun _ _ _ => rfl) dX11_findPlates_81 (fun x31 => ?_)
      refine s_iload C rfl dX11_findPlates_84 ?_
      refine s_iload_n C rfl dX11_findPlates_86 ?_
      refine s_isub C dX11_findPlates_87 ?_
      refine s_iaload C hV dX11_findPlates_88 (fun x32 => ?_)
      refine s_iastore C hV dX11_findPlates_89 ?_
      refine s_iload C rfl dX11_findPlates_90 ?_
      refine s_iload_n C rfl dX11_findPlates_92 ?_
      refine s_isub C dX11_findPlates_93 ?_
      refine s_leti (fun x33 => ?_)
      refine s_istore C (L' := [(5, .int x33), (0, .ref v0), (2, .int v2), (3, .int v3), (4, .int v4)]) (by decide) rfl dX11_findPlates_94 ?_
      refine s_goto C 43 (by decide) dX11_findPlates_96 ?_
      exact s_back [0, 2, 3, 4, 5] x33 rfl
set_option maxRecDepth 20000 in
theorem sm_Mod_findPlates_43 {G : GT} {ad : Nat → Nat} {K : Unit → Dm → Prop} (C : Cx G rm_Mod_findPlates cX11_findPlates 6 RX11) (hV : Vx G rm_Mod_findPlates ad ZF (0, 0)) (hR : RtV G rm_Mod_findPlates ad ZF (0, 0) cX11_findPlates K) (v0 : Nat) (v2 : Int32) (v3 : Int32) (v4 : Int32) (s : Int32) : Sm G rm_Mod_findPlates ad ZF (0, 0) (lpK G rm_Mod_findPlates ad ZF (0, 0) 24 (fun (s : Int32) => [(0, .ref v0), (2, .int v2), (3, .int s)]) (lpK G rm_Mod_findPlates ad ZF (0, 0) 18 (fun (s : Int32) => [(0, .ref v0), (2, .int s)]) K)) 43 ((fun (s : Int32) => [(0, .ref v0), (2, .int v2), (3, .int v3), (4, .int v4), (5, .int s)]) s) [] (Mod_findPlates_43 v0 v2 v3 v4 s) :=
  s_loop (en := (fun (s : Int32) => [(0, .ref v0), (2, .int v2), (3, .int v3), (4, .int v4), (5, .int s)])) (fun s => sm_Mod_findPlates_43_b C hV hR v0 v2 v3 v4 s) s
set_option maxRecDepth 20000 in
theorem sm_Mod_findPlates_24_b {G : GT} {ad : Nat → Nat} {K : Unit → Dm → Prop} (C : Cx G rm_Mod_findPlates cX11_findPlates 6 RX11) (hV : Vx G rm_Mod_findPlates ad ZF (0, 0)) (hR : RtV G rm_Mod_findPlates ad ZF (0, 0) cX11_findPlates K) (v0 : Nat) (v2 : Int32) (v3 : Int32) : Sm G rm_Mod_findPlates ad ZF (0, 0) (lpK G rm_Mod_findPlates ad ZF (0, 0) 24 (fun (s : Int32) => [(0, .ref v0), (2, .int v2), (3, .int s)]) (lpK G rm_Mod_findPlates ad ZF (0, 0) 18 (fun (s : Int32) => [(0, .ref v0), (2, .int s)]) K)) 24 [(0, .ref v0), (2, .int v2), (3, .int v3)] [] (Mod_findPlates_24_b v0 v2 v3) := by
  unfold Mod_findPlates_24_b
  refine s_iload_n C rfl dX11_findPlates_24 ?_
  refine s_aload_n C rfl dX11_findPlates_25 ?_
  refine s_getI C hV fl_X11_248 (fun _ _ _ => rfl) dX11_findPlates_26 (fun x18 => ?_)
  refine s_icmp_ge C 114 (by decide) dX11_findPlates_29 ?_ ?_
  · refine s_exit ?_
    refine s_iload_n C rfl dX11_findPlates_114 ?_
    refine s_iconst C (3 : Int32) (by decide) dX11_findPlates_115 ?_
    refine s_idiv C (by decide) dX11_findPlates_116 ?_
    refine s_leti (fun x19 => ?_)
    refine s_istore_n C (L' := [(2, .int x19), (0, .ref v0), (3, .int v3)]) (by decide) rfl dX11_findPlates_117 ?_
    refine s_goto C 18 (by decide) dX11_findPlates_118 ?_
    exact s_back [0, 2] x19 rfl
  · refine s_aload_n C rfl dX11_findPlates_32 ?_
    refine s_getR C hV fl_X11_83 (fun _ _ _ => rfl) dX11_findPlates_33 (fun x20 => ?_)
    refine s_iload_n C rfl dX11_findPlates_36 ?_
    refine s_iaload C hV dX11_findPlates_37 (fun x21 => ?_)
    refine s_istore C (L' := [(4, .int x21), (0, .ref v0), (2, .int v2), (3, .int v3)]) (by decide) rfl dX11_findPlates_38 ?_
    refine s_iload_n C rfl dX11_findPlates_40 ?_
    refine s_istore C (L' := [(5, .int v3), (4, .int x21), (0, .ref v0), (2, .int v2), (3, .int v3)]) (by decide) rfl dX11_findPlates_41 ?_
    exact s_weak [0, 2, 3, 4, 5] rfl (sm_Mod_findPlates_43 C hV hR v0 v2 v3 x21 v3)
set_option maxRecDepth 20000 in
theorem sm_Mod_findPlates_24 {G : GT} {ad : Nat → Nat} {K : Unit → Dm → Prop} (C : Cx G rm_Mod_findPlates cX11_findPlates 6 RX11) (hV : Vx G rm_Mod_findPlates ad ZF (0, 0)) (hR : RtV G rm_Mod_findPlates ad ZF (0, 0) cX11_findPlates K) (v0 : Nat) (v2 : Int32) (s : Int32) : Sm G rm_Mod_findPlates ad ZF (0, 0) (lpK G rm_Mod_findPlates ad ZF (0, 0) 18 (fun (s : Int32) => [(0, .ref v0), (2, .int s)]) K) 24 ((fun (s : Int32) => [(0, .ref v0), (2, .int v2), (3, .int s)]) s) [] (Mod_findPlates_24 v0 v2 s) :=
  s_loop (en := (fun (s : Int32) => [(0, .ref v0), (2, .int v2), (3, .int s)])) (fun s => sm_Mod_findPlates_24_b C hV hR v0 v2 s) s
set_option maxRecDepth 20000 in
theorem sm_Mod_findPlates_18_b {G : GT} {ad : Nat → Nat} {K : Unit → Dm → Prop} (C : Cx G rm_Mod_findPlates cX11_findPlates 6 RX11) (hV : Vx G rm_Mod_findPlates ad ZF (0, 0)) (hR : RtV G rm_Mod_findPlates ad ZF (0, 0) cX11_findPlates K) (v0 : Nat) (v2 : Int32) : Sm G rm_Mod_findPlates ad ZF (0, 0) (lpK G rm_Mod_findPlates ad ZF (0, 0) 18 (fun (s : Int32) => [(0, .ref v0), (2, .int s)]) K) 18 [(0, .ref v0), (2, .int v2)] [] (Mod_findPlates_18_b v0 v2) := by
  unfold Mod_findPlates_18_b
  refine s_iload_n C rfl dX11_findPlates_18 ?_
  refine s_if_le C 121 (by decide) dX11_findPlates_19 ?_ ?_
  · refine s_exit ?_
    refine s_aload_n C rfl dX11_findPlates_121 ?_
    refine s_iconst C (0 : Int32) (by decide) dX11_findPlates_122 ?_
    refine s_putI C hV fw_X11_270 rfl dX11_findPlates_123 ?_
    refine s_iconst C (0 : Int32) (by decide) dX11_findPlates_126 ?_
    refine s_leti (fun x2 => ?_)
    refine s_istore_n C (L' := [(2, .int x2), (0, .ref v0)]) (by decide) rfl dX11_findPlates_127 ?_
    exact s_weak [0, 2] rfl (sm_Mod_findPlates_128 C hV hR v0 x2)
  · refine s_iload_n C rfl dX11_findPlates_22 ?_
    refine s_istore_n C (L' := [(3, .int v2), (0, .ref v0), (2, .int v2)]) (by decide) rfl dX11_findPlates_23 ?_
    exact s_weak [0, 2, 3] rfl (sm_Mod_findPlates_24 C hV hR v0 v2 v2)
set_option maxRecDepth 20000 in
theorem sm_Mod_findPlates_18 {G : GT} {ad : Nat → Nat} {K : Unit → Dm → Prop} (C : Cx G rm_Mod_findPlates cX11_findPlates 6 RX11) (hV : Vx G rm_Mod_findPlates ad ZF (0, 0)) (hR : RtV G rm_Mod_findPlates ad ZF (0, 0) cX11_findPlates K) (v0 : Nat) (s : Int32) : Sm G rm_Mod_findPlates ad ZF (0, 0) K 18 ((fun (s : Int32) => [(0, .ref v0), (2, .int s)]) s) [] (Mod_findPlates_18 v0 s) :=
  s_loop (en := (fun (s : Int32) => [(0, .ref v0), (2, .int s)])) (fun s => sm_Mod_findPlates_18_b C hV hR v0 s) s
set_option maxRecDepth 20000 in
theorem sm_Mod_findPlates {G : GT} {ad : Nat → Nat} {K : Unit → Dm → Prop} (C : Cx G rm_Mod_findPlates cX11_findPlates 6 RX11) (hV : Vx G rm_Mod_findPlates ad ZF (0, 0)) (hR : RtV G rm_Mod_findPlates ad ZF (0, 0) cX11_findPlates K) (v0 : Nat) (v1 : Int32) : Sm G rm_Mod_findPlates ad ZF (0, 0) K 0 [(0, .ref v0), (1, .int v1)] [] (Mod_findPlates v0 v1) := by
  unfold Mod_findPlates
  refine s_aload_n C rfl dX11_findPlates_0 ?_
  refine s_wV C hV lv_X11_264 (st := []) (met_Mod_layAll v0) rf_Mod_findPlates_Mod_layAll rfl rfl (Nat.le_of_ble_eq_true rfl) dX11_findPlates_1 ?_
  refine s_aload_n C rfl dX11_findPlates_4 ?_
  refine s_wV C hV lv_X11_267 (st := []) (met_Mod_putNothing v0) rf_Mod_findPlates_Mod_putNothing rfl rfl (Nat.le_of_ble_eq_true rfl) dX11_findPlates_5 ?_
  refine s_aload_n C rfl dX11_findPlates_8 ?_
  refine s_iload_n C rfl dX11_findPlates_9 ?_
  refine s_iconst C (0 : Int32) (by decide) dX11_findPlates_10 ?_
  refine s_wV C hV lv_X11_257 (st := []) (met_Mod_findSets v0 v1 (0 : Int32)) rf_Mod_findPlates_Mod_findSets rfl rfl (Nat.le_of_ble_eq_true rfl) dX11_findPlates_11 ?_
  refine s_sipush C (3280 : Int32) (by decide) dX11_findPlates_14 ?_
  refine s_leti (fun x1 => ?_)
  refine s_istore_n C (L' := [(2, .int x1), (0, .ref v0), (1, .int v1)]) (by decide) rfl dX11_findPlates_17 ?_
  exact s_weak [0, 2] rfl (sm_Mod_findPlates_18 C hV hR v0 x1)
set_option maxRecDepth 20000 in
theorem met_Mod_findPlates (v0 : Nat) (v1 : Int32) : MV ZF yX11_findPlates cX11_findPlates 6 rm_Mod_findPlates [.ref v0, .int v1] (Mod_findPlates v0 v1) :=
  mv_of (L0 := [(0, .ref v0), (1, .int v1)]) (by decide +kernel) (Nat.le_of_ble_eq_true rfl) rfl (fun G ad K C hV hR => sm_Mod_findPlates C hV hR v0 v1)

noncomputable def Mod_found (v0 : Nat) (v1 : Int32) : MM Int32 :=
  mb (gI ZF 12 1 v0) fun x1 =>
  mb ((Mod_in v1 (0 : Int32) x1)) fun r2 =>
  if r2 = 0 then
  mp ((-102) : Int32)
  else
  mb (vc ZF 12 v0 (Mod_findPlates v0 v1)) fun _ =>
  mb (gI ZF 12 42 v0) fun x3 =>
  mp x3
set_option maxRecDepth 20000 in
theorem sm_Mod_found {G : GT} {ad : Nat → Nat} {K : Int32 → Dm → Prop} (C : Cx G rm_Mod_found cX11_found 2 RX11) (hV : Vx G rm_Mod_found ad ZF (0, 0)) (hR : RtI G rm_Mod_found ad ZF (0, 0) cX11_found .int K) (v0 : Nat) (v1 : Int32) : Sm G rm_Mod_found ad ZF (0, 0) K 0 [(0, .ref v0), (1, .int v1)] [] (Mod_found v0 v1) := by
  unfold Mod_found
  refine s_iload_n C rfl dX11_found_0 ?_
  refine s_iconst C (0 : Int32) (by decide) dX11_found_1 ?_
  refine s_aload_n C rfl dX11_found_2 ?_
  refine s_getI C hV fl_X11_104 (fun _ _ _ => rfl) dX11_found_3 (fun x1 => ?_)
  refine s_uI C hV ls_X11_89 (st := []) (met_Mod_in v1 (0 : Int32) x1) rf_Mod_found_Mod_in rfl rfl (Nat.le_of_ble_eq_true rfl) dX11_found_6 (fun r2 => ?_)
  refine s_if_ne C 15 (by decide) dX11_found_9 ?_ ?_
  · refine s_aload_n C rfl dX11_found_15 ?_
    refine s_iload_n C rfl dX11_found_16 ?_
    refine s_wV C hV lv_X11_273 (st := []) (met_Mod_findPlates v0 v1) rf_Mod_found_Mod_findPlates rfl rfl (Nat.le_of_ble_eq_true rfl) dX11_found_17 ?_
    refine s_aload_n C rfl dX11_found_20 ?_
    refine s_getI C hV fl_X11_270 (fun _ _ _ => rfl) dX11_found_21 (fun x3 => ?_)
    exact s_ireti hR dX11_found_24
  · refine s_bipush C ((-102) : Int32) (by decide) dX11_found_12 ?_
    exact s_ireti hR dX11_found_14
set_option maxRecDepth 20000 in
theorem met_Mod_found (v0 : Nat) (v1 : Int32) : MI ZF yX11_found cX11_found 2 .int rm_Mod_found [.ref v0, .int v1] (Mod_found v0 v1) :=
  mi_of (L0 := [(0, .ref v0), (1, .int v1)]) (by decide +kernel) (Nat.le_of_ble_eq_true rfl) rfl (fun G ad K C hV hR => sm_Mod_found C hV hR v0 v1)

noncomputable def Mod_plate (v0 : Nat) (v1 : Int32) (v2 : Int32) : MM Int64 :=
  mb (gI ZF 12 1 v0) fun x1 =>
  mb ((Mod_in v1 (0 : Int32) x1)) fun r2 =>
  if r2 = 0 then
  mp ((-2) : Int64)
  else
  mb (vc ZF 12 v0 (Mod_findPlates v0 v1)) fun _ =>
  mb (gI ZF 12 42 v0) fun x3 =>
  mb ((Mod_in v2 (0 : Int32) (x3 - (1 : Int32)))) fun r4 =>
  if r4 = 0 then
  mp ((-1) : Int64)
  else
  mb (gR ZF 12 28 v0) fun x5 =>
  mb (gR ZF 12 41 v0) fun x6 =>
  mb (aI ZF 23 x6 v2) fun x7 =>
  mb (aL ZF x5 x7) fun x8 =>
  mp x8
set_option maxRecDepth 20000 in
theorem sm_Mod_plate {G : GT} {ad : Nat → Nat} {K : Int64 → Dm → Prop} (C : Cx G rm_Mod_plate cX11_plate 3 RX11) (hV : Vx G rm_Mod_plate ad ZF (0, 0)) (hR : RtL G rm_Mod_plate ad ZF (0, 0) cX11_plate K) (v0 : Nat) (v1 : Int32) (v2 : Int32) : Sm G rm_Mod_plate ad ZF (0, 0) K 0 [(0, .ref v0), (1, .int v1), (2, .int v2)] [] (Mod_plate v0 v1 v2) := by
  unfold Mod_plate
  refine s_iload_n C rfl dX11_plate_0 ?_
  refine s_iconst C (0 : Int32) (by decide) dX11_plate_1 ?_
  refine s_aload_n C rfl dX11_plate_2 ?_
  refine s_getI C hV fl_X11_104 (fun _ _ _ => rfl) dX11_plate_3 (fun x1 => ?_)
  refine s_uI C hV ls_X11_89 (st := []) (met_Mod_in v1 (0 : Int32) x1) rf_Mod_plate_Mod_in rfl rfl (Nat.le_of_ble_eq_true rfl) dX11_plate_6 (fun r2 => ?_)
  refine s_if_ne C 16 (by decide) dX11_plate_9 ?_ ?_
  · refine s_aload_n C rfl dX11_plate_16 ?_
    refine s_iload_n C rfl dX11_plate_17 ?_
    refine s_wV C hV lv_X11_273 (st := []) (met_Mod_findPlates v0 v1) rf_Mod_plate_Mod_findPlates rfl rfl (Nat.le_of_ble_eq_true rfl) dX11_plate_18 ?_
    refine s_iload_n C rfl dX11_plate_21 ?_
    refine s_iconst C (0 : Int32) (by decide) dX11_plate_22 ?_
    refine s_aload_n C rfl dX11_plate_23 ?_
    refine s_getI C hV fl_X11_270 (fun _ _ _ => rfl) dX11_plate_24 (fun x3 => ?_)
    refine s_iconst C (1 : Int32) (by decide) dX11_plate_27 ?_
    refine s_isub C dX11_plate_28 ?_
    refine s_uI C hV ls_X11_89 (st := []) (met_Mod_in v2 (0 : Int32) (x3 - (1 : Int32))) rf_Mod_plate_Mod_in rfl rfl (Nat.le_of_ble_eq_true rfl) dX11_plate_29 (fun r4 => ?_)
    refine s_if_eq C 49 (by decide) dX11_plate_32 ?_ ?_
    · refine s_ldc2 C kl_X11_221 dX11_plate_49 ?_
      exact s_lret hR dX11_plate_52
    · refine s_aload_n C rfl dX11_plate_35 ?_
      refine s_getR C hV fl_X11_58 (fun _ _ _ => rfl) dX11_plate_36 (fun x5 => ?_)
      refine s_aload_n C rfl dX11_plate_39 ?_
      refine s_getR C hV fl_X11_86 (fun _ _ _ => rfl) dX11_plate_40 (fun x6 => ?_)
      refine s_iload_n C rfl dX11_plate_43 ?_
      refine s_iaload C hV dX11_plate_44 (fun x7 => ?_)
      refine s_laload C hV dX11_plate_45 (fun x8 => ?_)
      refine s_goto C 52 (by decide) dX11_plate_46 ?_
      exact s_lret hR dX11_plate_52
  · refine s_ldc2 C kl_X11_219 dX11_plate_12 ?_
    exact s_lret hR dX11_plate_15
set_option maxRecDepth 20000 in
theorem met_Mod_plate (v0 : Nat) (v1 : Int32) (v2 : Int32) : ML ZF yX11_plate cX11_plate 3 rm_Mod_plate [.ref v0, .int v1, .int v2] (Mod_plate v0 v1 v2) :=
  ml_of (L0 := [(0, .ref v0), (1, .int v1), (2, .int v2)]) (by decide +kernel) (Nat.le_of_ble_eq_true rfl) rfl (fun G ad K C hV hR => sm_Mod_plate C hV hR v0 v1 v2)

noncomputable def Mod_heal (v0 : Nat) (v1 : Int64) : MM Int64 :=
  mb ((Mod_isPlate v1)) fun r1 =>
  if r1 = 0 then
  mp ((-2) : Int64)
  else
  mb (vc ZF 12 v0 (Mod_healed v0 v1)) fun r2 =>
  mp r2
set_option maxRecDepth 20000 in
theorem sm_Mod_heal {G : GT} {ad : Nat → Nat} {K : Int64 → Dm → Prop} (C : Cx G rm_Mod_heal cX11_heal 3 RX11) (hV : Vx G rm_Mod_heal ad ZF (0, 0)) (hR : RtL G rm_Mod_heal ad ZF (0, 0) cX11_heal K) (v0 : Nat) (v1 : Int64) : Sm G rm_Mod_heal ad ZF (0, 0) K 0 [(0, .ref v0), (1, .long v1)] [] (Mod_heal v0 v1) := by
  unfold Mod_heal
  refine s_lload_n C rfl dX11_heal_0 ?_
  refine s_uI C hV ls_X11_212 (st := []) (met_Mod_isPlate v1) rf_Mod_heal_Mod_isPlate rfl rfl (Nat.le_of_ble_eq_true rfl) dX11_heal_1 (fun r1 => ?_)
  refine s_if_eq C 15 (by decide) dX11_heal_4 ?_ ?_
  · refine s_ldc2 C kl_X11_219 dX11_heal_15 ?_
    exact s_lret hR dX11_heal_18
  · refine s_aload_n C rfl dX11_heal_7 ?_
    refine s_lload_n C rfl dX11_heal_8 ?_
    refine s_wL C hV lv_X11_202 (st := []) (met_Mod_healed v0 v1) rf_Mod_heal_Mod_healed rfl rfl (Nat.le_of_ble_eq_true rfl) dX11_heal_9 (fun r2 => ?_)
    refine s_goto C 18 (by decide) dX11_heal_12 ?_
    exact s_lret hR dX11_heal_18
set_option maxRecDepth 20000 in
theorem met_Mod_heal (v0 : Nat) (v1 : Int64) : ML ZF yX11_heal cX11_heal 3 rm_Mod_heal [.ref v0, .long v1] (Mod_heal v0 v1) :=
  ml_of (L0 := [(0, .ref v0), (1, .long v1)]) (by decide +kernel) (Nat.le_of_ble_eq_true rfl) rfl (fun G ad K C hV hR => sm_Mod_heal C hV hR v0 v1)

noncomputable def Mod_cut (v0 : Nat) (v1 : Int64) (v3 : Int32) : MM Int64 :=
  mb ((Mod_isPlate v1)) fun r1 =>
  if r1 = 0 then
  mp ((-2) : Int64)
  else
  mb (gI ZF 12 10 v0) fun x2 =>
  mb ((Mod_in v3 (0 : Int32) x2)) fun r3 =>
  if r3 = 0 then
  mp ((-1) : Int64)
  else
  mb (vc ZF 12 v0 (Mod_cutAt v0 v1 v3)) fun r4 =>
  mp r4
set_option maxRecDepth 20000 in
theorem sm_Mod_cut {G : GT} {ad : Nat → Nat} {K : Int64 → Dm → Prop} (C : Cx G rm_Mod_cut cX11_cut 4 RX11) (hV : Vx G rm_Mod_cut ad ZF (0, 0)) (hR : RtL G rm_Mod_cut ad ZF (0, 0) cX11_cut K) (v0 : Nat) (v1 : Int64) (v3 : Int32) : Sm G rm_Mod_cut ad ZF (0, 0) K 0 [(0, .ref v0), (1, .long v1), (3, .int v3)] [] (Mod_cut v0 v1 v3) := by
  unfold Mod_cut
  refine s_lload_n C rfl dX11_cut_0 ?_
  refine s_uI C hV ls_X11_212 (st := []) (met_Mod_isPlate v1) rf_Mod_cut_Mod_isPlate rfl rfl (Nat.le_of_ble_eq_true rfl) dX11_cut_1 (fun r1 => ?_)
  refine s_if_ne C 11 (by decide) dX11_cut_4 ?_ ?_
  · refine s_iload_n C rfl dX11_cut_11 ?_
    refine s_iconst C (0 : Int32) (by decide) dX11_cut_12 ?_
    refine s_aload_n C rfl dX11_cut_13 ?_
    refine s_getI C hV fl_X11_159 (fun _ _ _ => rfl) dX11_cut_14 (fun x2 => ?_)
    refine s_uI C hV ls_X11_89 (st := []) (met_Mod_in v3 (0 : Int32) x2) rf_Mod_cut_Mod_in rfl rfl (Nat.le_of_ble_eq_true rfl) dX11_cut_17 (fun r3 => ?_)
    refine s_if_eq C 32 (by decide) dX11_cut_20 ?_ ?_
    · refine s_ldc2 C kl_X11_221 dX11_cut_32 ?_
      exact s_lret hR dX11_cut_35
    · refine s_aload_n C rfl dX11_cut_23 ?_
      refine s_lload_n C rfl dX11_cut_24 ?_
      refine s_iload_n C rfl dX11_cut_25 ?_
      refine s_wL C hV lv_X11_206 (st := []) (met_Mod_cutAt v0 v1 v3) rf_Mod_cut_Mod_cutAt rfl rfl (Nat.le_of_ble_eq_true rfl) dX11_cut_26 (fun r4 => ?_)
      refine s_goto C 35 (by decide) dX11_cut_29 ?_
      exact s_lret hR dX11_cut_35
  · refine s_ldc2 C kl_X11_219 dX11_cut_7 ?_
    exact s_lret hR dX11_cut_10
set_option maxRecDepth 20000 in
theorem met_Mod_cut (v0 : Nat) (v1 : Int64) (v3 : Int32) : ML ZF yX11_cut cX11_cut 4 rm_Mod_cut [.ref v0, .long v1, .int v3] (Mod_cut v0 v1 v3) :=
  ml_of (L0 := [(0, .ref v0), (1, .long v1), (3, .int v3)]) (by decide +kernel) (Nat.le_of_ble_eq_true rfl) rfl (fun G ad K C hV hR => sm_Mod_cut C hV hR v0 v1 v3)

noncomputable def Mod_steady (v0 : Nat) (v1 : Int64) : MM Int32 :=
  mb ((Mod_isPlate v1)) fun r1 =>
  if r1 = 0 then
  mp ((-102) : Int32)
  else
  mb (vc ZF 12 v0 (Mod_isSteady v0 v1)) fun r2 =>
  if r2 = 0 then
  mp (0 : Int32)
  else
  mp (1 : Int32)
set_option maxRecDepth 20000 in
theorem sm_Mod_steady {G : GT} {ad : Nat → Nat} {K : Int32 → Dm → Prop} (C : Cx G rm_Mod_steady cX11_steady 3 RX11) (hV : Vx G rm_Mod_steady ad ZF (0, 0)) (hR : RtI G rm_Mod_steady ad ZF (0, 0) cX11_steady .int K) (v0 : Nat) (v1 : Int64) : Sm G rm_Mod_steady ad ZF (0, 0) K 0 [(0, .ref v0), (1, .long v1)] [] (Mod_steady v0 v1) := by
  unfold Mod_steady
  refine s_lload_n C rfl dX11_steady_0 ?_
  refine s_uI C hV ls_X11_212 (st := []) (met_Mod_isPlate v1) rf_Mod_steady_Mod_isPlate rfl rfl (Nat.le_of_ble_eq_true rfl) dX11_steady_1 (fun r1 => ?_)
  refine s_if_ne C 12 (by decide) dX11_steady_4 ?_ ?_
  · refine s_aload_n C rfl dX11_steady_12 ?_
    refine s_lload_n C rfl dX11_steady_13 ?_
    refine s_wI C hV lv_X11_223 (st := []) (met_Mod_isSteady v0 v1) rf_Mod_steady_Mod_isSteady rfl rfl (Nat.le_of_ble_eq_true rfl) dX11_steady_14 (fun r2 => ?_)
    refine s_if_eq C 24 (by decide) dX11_steady_17 ?_ ?_
    · refine s_iconst C (0 : Int32) (by decide) dX11_steady_24 ?_
      exact s_ireti hR dX11_steady_25
    · refine s_iconst C (1 : Int32) (by decide) dX11_steady_20 ?_
      refine s_goto C 25 (by decide) dX11_steady_21 ?_
      exact s_ireti hR dX11_steady_25
  · refine s_bipush C ((-102) : Int32) (by decide) dX11_steady_7 ?_
    refine s_goto C 25 (by decide) dX11_steady_9 ?_
    exact s_ireti hR dX11_steady_25
set_option maxRecDepth 20000 in
theorem met_Mod_steady (v0 : Nat) (v1 : Int64) : MI ZF yX11_steady cX11_steady 3 .int rm_Mod_steady [.ref v0, .long v1] (Mod_steady v0 v1) :=
  mi_of (L0 := [(0, .ref v0), (1, .long v1)]) (by decide +kernel) (Nat.le_of_ble_eq_true rfl) rfl (fun G ad K C hV hR => sm_Mod_steady C hV hR v0 v1)

noncomputable def Mod_kept_92 (v0 : Nat) (v1 : Int32) (v3 : Int32) (v4 : Int32) (v5 : Int32) (t0 : Int32) : MM ((Int32 × Int32) ⊕ Int32) :=
  ml (v4 + ((t0 >>> (v1 &&& 31)) &&& (1 : Int32))) fun x13 =>
  ml (v5 + (1 : Int32)) fun x14 =>
  mp (.inl (x13, x14))
noncomputable def Mod_kept_52_b (v0 : Nat) (v1 : Int32) (v3 : Int32) (v4 : Int32) (v5 : Int32) : MM ((Int32 × Int32) ⊕ Int32) :=
  mb (gI ZF 12 42 v0) fun x8 =>
  if x8 ≤ v5 then
  mr (
  mp v4)
  else
  if v3 = 0 then
  mb (gR ZF 12 30 v0) fun x15 =>
  mb (gR ZF 12 41 v0) fun x16 =>
  mb (aI ZF 23 x16 v5) fun x17 =>
  mb (aI ZF 23 x15 x17) fun x18 =>
  Mod_kept_92 v0 v1 v3 v4 v5 x18
  else
  mb (gR ZF 12 31 v0) fun x9 =>
  mb (gR ZF 12 41 v0) fun x10 =>
  mb (aI ZF 23 x10 v5) fun x11 =>
  mb (aI ZF 23 x9 x11) fun x12 =>
  Mod_kept_92 v0 v1 v3 v4 v5 x12
noncomputable def Mod_kept_52 (v0 : Nat) (v1 : Int32) (v3 : Int32) (s : (Int32 × Int32)) : MM Int32 := lo (fun (s : (Int32 × Int32)) => Mod_kept_52_b v0 v1 v3 s.1 s.2) s
noncomputable def Mod_kept (v0 : Nat) (v1 : Int32) (v2 : Int32) (v3 : Int32) : MM Int32 :=
  mb (gI ZF 12 6 v0) fun x1 =>
  mb ((Mod_in v1 (0 : Int32) (x1 - (1 : Int32)))) fun r2 =>
  if r2 = 0 then
  mp ((-101) : Int32)
  else
  mb (gI ZF 12 1 v0) fun x3 =>
  mb ((Mod_in v2 (0 : Int32) x3)) fun r4 =>
  if r4 = 0 then
  mp ((-102) : Int32)
  else
  mb ((Mod_in v3 (0 : Int32) (1 : Int32))) fun r5 =>
  if r5 = 0 then
  mp ((-102) : Int32)
  else
  mb (vc ZF 12 v0 (Mod_findPlates v0 v2)) fun _ =>
  ml (0 : Int32) fun x6 =>
  ml (0 : Int32) fun x7 =>
  Mod_kept_52 v0 v1 v3 (x6, x7)
set_option maxRecDepth 20000 in
theorem sm_Mod_kept_92 {G : GT} {ad : Nat → Nat} {K : Int32 → Dm → Prop} (C : Cx G rm_Mod_kept cX11_kept 7 RX11) (hV : Vx G rm_Mod_kept ad ZF (0, 0)) (hR : RtI G rm_Mod_kept ad ZF (0, 0) cX11_kept .int K) (v0 : Nat) (v1 : Int32) (v3 : Int32) (v4 : Int32) (v5 : Int32) (t0 : Int32) : Sm G rm_Mod_kept ad ZF (0, 0) (lpK G rm_Mod_kept ad ZF (0, 0) 52 (fun (s : (Int32 × Int32)) => [(0, .ref v0), (1, .int v1), (3, .int v3), (4, .int s.1), (5, .int s.2)]) K) 92 [(0, .ref v0), (1, .int v1), (3, .int v3), (4, .int v4), (5, .int v5)] [.int t0] (Mod_kept_92 v0 v1 v3 v4 v5 t0) := by
  unfold Mod_kept_92
  refine s_istore C (L' := [(6, .int t0), (0, .ref v0), (1, .int v1), (3, .int v3), (4, .int v4), (5, .int v5)]) (by decide) rfl dX11_kept_92 ?_
  refine s_iload C rfl dX11_kept_94 ?_
  refine s_iload C rfl dX11_kept_96 ?_
  refine s_iload_n C rfl dX11_kept_98 ?_
  refine s_ishr C dX11_kept_99 ?_
  refine s_iconst C (1 : Int32) (by decide) dX11_kept_100 ?_
  refine s_iand C dX11_kept_101 ?_
  refine s_iadd C dX11_kept_102 ?_
  refine s_leti (fun x13 => ?_)
  refine s_istore C (L' := [(4, .int x13), (6, .int t0), (0, .ref v0), (1, .int v1), (3, .int v3), (5, .int v5)]) (by decide) rfl dX11_kept_103 ?_
  refine s_iinc C (L' := fun x14 => [(5, .int x14), (4, .int x13), (6, .int t0), (0, .ref v0), (1, .int v1), (3, .int v3)]) (1 : Int32) (by decide) rfl (by decide) (fun _ => rfl) dX11_kept_105 (fun x14 => ?_)
  refine s_goto C 52 (by decide) dX11_kept_108 ?_
  exact s_back [0, 1, 3, 4, 5] (x13, x14) rfl
set_option maxRecDepth 20000 in
theorem sm_Mod_kept_52_b {G : GT} {ad : Nat → Nat} {K : Int32 → Dm → Prop} (C : Cx G rm_Mod_kept cX11_kept 7 RX11) (hV : Vx G rm_Mod_kept ad ZF (0, 0)) (hR : RtI G rm_Mod_kept ad ZF (0, 0) cX11_kept .int K) (v0 : Nat) (v1 : Int32) (v3 : Int32) (v4 : Int32) (v5 : Int32) : Sm G rm_Mod_kept ad ZF (0, 0) (lpK G rm_Mod_kept ad ZF (0, 0) 52 (fun (s : (Int32 × Int32)) => [(0, .ref v0), (1, .int v1), (3, .int v3), (4, .int s.1), (5, .int s.2)]) K) 52 [(0, .ref v0), (1, .int v1), (3, .int v3), (4, .int v4), (5, .int v5)] [] (Mod_kept_52_b v0 v1 v3 v4 v5) := by
  unfold Mod_kept_52_b
  refine s_iload C rfl dX11_kept_52 ?_
  refine s_aload_n C rfl dX11_kept_54 ?_
  refine s_getI C hV fl_X11_270 (fun _ _ _ => rfl) dX11_kept_55 (fun x8 => ?_)
  refine s_icmp_ge C 111 (by decide) dX11_kept_58 ?_ ?_
  · refine s_exit ?_
    refine s_iload C rfl dX11_kept_111 ?_
    exact s_ireti hR dX11_kept_113
  · refine s_iload_n C rfl dX11_kept_61 ?_
    refine s_if_ne C 80 (by decide) dX11_kept_62 ?_ ?_
    · refine s_aload_n C rfl dX11_kept_80 ?_
      refine s_getR C hV fl_X11_68 (fun _ _ _ => rfl) dX11_kept_81 (fun x9 => ?_)
      refine s_aload_n C rfl dX11_kept_84 ?_
      refine s_getR C hV fl_X11_86 (fun _ _ _ => rfl) dX11_kept_85 (fun x10 => ?_)
      refine s_iload C rfl dX11_kept_88 ?_
      refine s_iaload C hV dX11_kept_90 (fun x11 => ?_)
      refine s_iaload C hV dX11_kept_91 (fun x12 => ?_)
      exact s_weak [0, 1, 3, 4, 5] rfl (sm_Mod_kept_92 C hV hR v0 v1 v3 v4 v5 x12)
    · refine s_aload_n C rfl dX11_kept_65 ?_
      refine s_getR C hV fl_X11_65 (fun _ _ _ => rfl) dX11_kept_66 (fun x15 => ?_)
      refine s_aload_n C rfl dX11_kept_69 ?_
      refine s_getR C hV fl_X11_86 (fun _ _ _ => rfl) dX11_kept_70 (fun x16 => ?_)
      refine s_iload C rfl dX11_kept_73 ?_
      refine s_iaload C hV dX11_kept_75 (fun x17 => ?_)
      refine s_iaload C hV dX11_kept_76 (fun x18 => ?_)
      refine s_goto C 92 (by decide) dX11_kept_77 ?_
      exact s_weak [0, 1, 3, 4, 5] rfl (sm_Mod_kept_92 C hV hR v0 v1 v3 v4 v5 x18)
set_option maxRecDepth 20000 in
theorem sm_Mod_kept_52 {G : GT} {ad : Nat → Nat} {K : Int32 → Dm → Prop} (C : Cx G rm_Mod_kept cX11_kept 7 RX11) (hV : Vx G rm_Mod_kept ad ZF (0, 0)) (hR : RtI G rm_Mod_kept ad ZF (0, 0) cX11_kept .int K) (v0 : Nat) (v1 : Int32) (v3 : Int32) (s : (Int32 × Int32)) : Sm G rm_Mod_kept ad ZF (0, 0) K 52 ((fun (s : (Int32 × Int32)) => [(0, .ref v0), (1, .int v1), (3, .int v3), (4, .int s.1), (5, .int s.2)]) s) [] (Mod_kept_52 v0 v1 v3 s) :=
  s_loop (en := (fun (s : (Int32 × Int32)) => [(0, .ref v0), (1, .int v1), (3, .int v3), (4, .int s.1), (5, .int s.2)])) (fun s => sm_Mod_kept_52_b C hV hR v0 v1 v3 s.1 s.2) s
set_option maxRecDepth 20000 in
theorem sm_Mod_kept {G : GT} {ad : Nat → Nat} {K : Int32 → Dm → Prop} (C : Cx G rm_Mod_kept cX11_kept 7 RX11) (hV : Vx G rm_Mod_kept ad ZF (0, 0)) (hR : RtI G rm_Mod_kept ad ZF (0, 0) cX11_kept .int K) (v0 : Nat) (v1 : Int32) (v2 : Int32) (v3 : Int32) : Sm G rm_Mod_kept ad ZF (0, 0) K 0 [(0, .ref v0), (1, .int v1), (2, .int v2), (3, .int v3)] [] (Mod_kept v0 v1 v2 v3) := by
  unfold Mod_kept
  refine s_iload_n C rfl dX11_kept_0 ?_
  refine s_iconst C (0 : Int32) (by decide) dX11_kept_1 ?_
  refine s_aload_n C rfl dX11_kept_2 ?_
  refine s_getI C hV fl_X11_111 (fun _ _ _ => rfl) dX11_kept_3 (fun x1 => ?_)
  refine s_iconst C (1 : Int32) (by decide) dX11_kept_6 ?_
  refine s_isub C dX11_kept_7 ?_
  refine s_uI C hV ls_X11_89 (st := []) (met_Mod_in v1 (0 : Int32) (x1 - (1 : Int32))) rf_Mod_kept_Mod_in rfl rfl (Nat.le_of_ble_eq_true rfl) dX11_kept_8 (fun r2 => ?_)
  refine s_if_ne C 17 (by decide) dX11_kept_11 ?_ ?_
  · refine s_iload_n C rfl dX11_kept_17 ?_
    refine s_iconst C (0 : Int32) (by decide) dX11_kept_18 ?_
    refine s_aload_n C rfl dX11_kept_19 ?_
    refine s_getI C hV fl_X11_104 (fun _ _ _ => rfl) dX11_kept_20 (fun x3 => ?_)
    refine s_uI C hV ls_X11_89 (st := []) (met_Mod_in v2 (0 : Int32) x3) rf_Mod_kept_Mod_in rfl rfl (Nat.le_of_ble_eq_true rfl) dX11_kept_23 (fun r4 => ?_)
    refine s_if_eq C 38 (by decide) dX11_kept_26 ?_ ?_
    · refine s_bipush C ((-102) : Int32) (by decide) dX11_kept_38 ?_
      exact s_ireti hR dX11_kept_40
    · refine s_iload_n C rfl dX11_kept_29 ?_
      refine s_iconst C (0 : Int32) (by decide) dX11_kept_30 ?_
      refine s_iconst C (1 : Int32) (by decide) dX11_kept_31 ?_
      refine s_uI C hV ls_X11_89 (st := []) (met_Mod_in v3 (0 : Int32) (1 : Int32)) rf_Mod_kept_Mod_in rfl rfl (Nat.le_of_ble_eq_true rfl) dX11_kept_32 (fun r5 => ?_)
      refine s_if_ne C 41 (by decide) dX11_kept_35 ?_ ?_
      · refine s_aload_n C rfl dX11_kept_41 ?_
        refine s_iload_n C rfl dX11_kept_42 ?_
        refine s_wV C hV lv_X11_273 (st := []) (met_Mod_findPlates v0 v2) rf_Mod_kept_Mod_findPlates rfl rfl (Nat.le_of_ble_eq_true rfl) dX11_kept_43 ?_
        refine s_iconst C (0 : Int32) (by decide) dX11_kept_46 ?_
        refine s_leti (fun x6 => ?_)
        refine s_istore C (L' := [(4, .int x6), (0, .ref v0), (1, .int v1), (2, .int v2), (3, .int v3)]) (by decide) rfl dX11_kept_47 ?_
        refine s_iconst C (0 : Int32) (by decide) dX11_kept_49 ?_
        refine s_leti (fun x7 => ?_)
        refine s_istore C (L' := [(5, .int x7), (4, .int x6), (0, .ref v0), (1, .int v1), (2, .int v2), (3, .int v3)]) (by decide) rfl dX11_kept_50 ?_
        exact s_weak [0, 1, 3, 4, 5] rfl (sm_Mod_kept_52 C hV hR v0 v1 v3 (x6, x7))
      · refine s_bipush C ((-102) : Int32) (by decide) dX11_kept_38 ?_
        exact s_ireti hR dX11_kept_40
  · refine s_bipush C ((-101) : Int32) (by decide) dX11_kept_14 ?_
    exact s_ireti hR dX11_kept_16
set_option maxRecDepth 20000 in
theorem met_Mod_kept (v0 : Nat) (v1 : Int32) (v2 : Int32) (v3 : Int32) : MI ZF yX11_kept cX11_kept 7 .int rm_Mod_kept [.ref v0, .int v1, .int v2, .int v3] (Mod_kept v0 v1 v2 v3) :=
  mi_of (L0 := [(0, .ref v0), (1, .int v1), (2, .int v2), (3, .int v3)]) (by decide +kernel) (Nat.le_of_ble_eq_true rfl) rfl (fun G ad K C hV hR => sm_Mod_kept C hV hR v0 v1 v2 v3)

noncomputable def Mod_dueAt_69 (v0 : Nat) (v1 : Int32) (v3 : Int32) (t0 : Int32) (t1 : Int32) : MM ((Int32 × Int32) ⊕ Int32) :=
  ml (t0 ||| t1) fun x7 =>
  ml (v3 + (1 : Int32)) fun x8 =>
  mp (.inl (x7, x8))
noncomputable def Mod_dueAt_39_b (v0 : Nat) (v1 : Int32) (v2 : Int32) (v3 : Int32) : MM ((Int32 × Int32) ⊕ Int32) :=
  if v1 ≤ v3 then
  mr (
  mp v2)
  else
  mb (gR ZF 12 2 v0) fun x5 =>
  mb (aI ZF 23 x5 v3) fun x6 =>
  if x6 = (4 : Int32) then
  mb (gR ZF 12 3 v0) fun x9 =>
  mb (aI ZF 23 x9 ((4 : Int32) * v3)) fun x10 =>
  Mod_dueAt_69 v0 v1 v3 v2 ((1 : Int32) <<< (x10 &&& 31))
  else
  Mod_dueAt_69 v0 v1 v3 v2 (0 : Int32)
noncomputable def Mod_dueAt_39 (v0 : Nat) (v1 : Int32) (s : (Int32 × Int32)) : MM Int32 := lo (fun (s : (Int32 × Int32)) => Mod_dueAt_39_b v0 v1 s.1 s.2) s
noncomputable def Mod_dueAt_29 (v0 : Nat) (v1 : Int32) (v3 : Int32) (t0 : Int32) (t1 : Int32) : MM ((Int32 × Int32) ⊕ Int32) :=
  ml (t0 ||| t1) fun x13 =>
  ml (v3 + (1 : Int32)) fun x14 =>
  mp (.inl (x13, x14))
noncomputable def Mod_dueAt_4_b (v0 : Nat) (v1 : Int32) (v2 : Int32) (v3 : Int32) : MM ((Int32 × Int32) ⊕ Int32) :=
  mb (gI ZF 12 6 v0) fun x3 =>
  if x3 ≤ v3 then
  mr (
  ml (0 : Int32) fun x4 =>
  Mod_dueAt_39 v0 v1 (v2, x4))
  else
  mb (gR ZF 12 9 v0) fun x11 =>
  mb (aI ZF 25 x11 v3) fun x12 =>
  Mod_dueAt_29 v0 v1 v3 v2 (if x12 = 0 then (0 : Int32) else ((1 : Int32) <<< (v3 &&& 31)))
noncomputable def Mod_dueAt_4 (v0 : Nat) (v1 : Int32) (s : (Int32 × Int32)) : MM Int32 := lo (fun (s : (Int32 × Int32)) => Mod_dueAt_4_b v0 v1 s.1 s.2) s
noncomputable def Mod_dueAt (v0 : Nat) (v1 : Int32) : MM Int32 :=
  ml (0 : Int32) fun x1 =>
  ml (0 : Int32) fun x2 =>
  Mod_dueAt_4 v0 v1 (x1, x2)
set_option maxRecDepth 20000 in
theorem sm_Mod_dueAt_69 {G : GT} {ad : Nat → Nat} {K : Int32 → Dm → Prop} (C : Cx G rm_Mod_dueAt cX11_dueAt 4 RX11) (hV : Vx G rm_Mod_dueAt ad ZF (0, 0)) (hR : RtI G rm_Mod_dueAt ad ZF (0, 0) cX11_dueAt .int K) (v0 : Nat) (v1 : Int32) (v3 : Int32) (t0 : Int32) (t1 : Int32) : Sm G rm_Mod_dueAt ad ZF (0, 0) (lpK G rm_Mod_dueAt ad ZF (0, 0) 39 (fun (s : (Int32 × Int32)) => [(0, .ref v0), (1, .int v1), (2, .int s.1), (3, .int s.2)]) K) 69 [(0, .ref v0), (1, .int v1), (3, .int v3)] [.int t1, .int t0] (Mod_dueAt_69 v0 v1 v3 t0 t1) := by
  unfold Mod_dueAt_69
  refine s_ior C dX11_dueAt_69 ?_
  refine s_leti (fun x7 => ?_)
  refine s_istore_n C (L' := [(2, .int x7), (0, .ref v0), (1, .int v1), (3, .int v3)]) (by decide) rfl dX11_dueAt_70 ?_
  refine s_iinc C (L' := fun x8 => [(3, .int x8), (2, .int x7), (0, .ref v0), (1, .int v1)]) (1 : Int32) (by decide) rfl (by decide) (fun _ => rfl) dX11_dueAt_71 (fun x8 => ?_)
  refine s_goto C 39 (by decide) dX11_dueAt_74 ?_
  exact s_back [0, 1, 2, 3] (x7, x8) rfl
set_option maxRecDepth 20000 in
theorem sm_Mod_dueAt_39_b {G : GT} {ad : Nat → Nat} {K : Int32 → Dm → Prop} (C : Cx G rm_Mod_dueAt cX11_dueAt 4 RX11) (hV : Vx G rm_Mod_dueAt ad ZF (0, 0)) (hR : RtI G rm_Mod_dueAt ad ZF (0, 0) cX11_dueAt .int K) (v0 : Nat) (v1 : Int32) (v2 : Int32) (v3 : Int32) : Sm G rm_Mod_dueAt ad ZF (0, 0) (lpK G rm_Mod_dueAt ad ZF (0, 0) 39 (fun (s : (Int32 × Int32)) => [(0, .ref v0), (1, .int v1), (2, .int s.1), (3, .int s.2)]) K) 39 [(0, .ref v0), (1, .int v1), (2, .int v2), (3, .int v3)] [] (Mod_dueAt_39_b v0 v1 v2 v3) := by
  unfold Mod_dueAt_39_b
  refine s_iload_n C rfl dX11_dueAt_39 ?_
  refine s_iload_n C rfl dX11_dueAt_40 ?_
  refine s_icmp_ge C 77 (by decide) dX11_dueAt_41 ?_ ?_
  · refine s_exit ?_
    refine s_iload_n C rfl dX11_dueAt_77 ?_
    exact s_ireti hR dX11_dueAt_78
  · refine s_iload_n C rfl dX11_dueAt_44 ?_
    refine s_aload_n C rfl dX11_dueAt_45 ?_
    refine s_getR C hV fl_X11_13 (fun _ _ _ => rfl) dX11_dueAt_46 (fun x5 => ?_)
    refine s_iload_n C rfl dX11_dueAt_49 ?_
    refine s_iaload C hV dX11_dueAt_50 (fun x6 => ?_)
    refine s_iconst C (4 : Int32) (by decide) dX11_dueAt_51 ?_
    refine s_icmp_ne C 68 (by decide) dX11_dueAt_52 ?_ ?_
    · refine s_iconst C (0 : Int32) (by decide) dX11_dueAt_68 ?_
      exact s_weak [0, 1, 3] rfl (sm_Mod_dueAt_69 C hV hR v0 v1 v3 v2 (0 : Int32))
    · refine s_iconst C (1 : Int32) (by decide) dX11_dueAt_55 ?_
      refine s_aload_n C rfl dX11_dueAt_56 ?_
      refine s_getR C hV fl_X11_16 (fun _ _ _ => rfl) dX11_dueAt_57 (fun x9 => ?_)
      refine s_iconst C (4 : Int32) (by decide) dX11_dueAt_60 ?_
      refine s_iload_n C rfl dX11_dueAt_61 ?_
      refine s_imul C dX11_dueAt_62 ?_
      refine s_iaload C hV dX11_dueAt_63 (fun x10 => ?_)
      refine s_ishl C dX11_dueAt_64 ?_
      refine s_goto C 69 (by decide) dX11_dueAt_65 ?_
      exact s_weak [0, 1, 3] rfl (sm_Mod_dueAt_69 C hV hR v0 v1 v3 v2 ((1 : Int32) <<< (x10 &&& 31)))
set_option maxRecDepth 20000 in
theorem sm_Mod_dueAt_39 {G : GT} {ad : Nat → Nat} {K : Int32 → Dm → Prop} (C : Cx G rm_Mod_dueAt cX11_dueAt 4 RX11) (hV : Vx G rm_Mod_dueAt ad ZF (0, 0)) (hR : RtI G rm_Mod_dueAt ad ZF (0, 0) cX11_dueAt .int K) (v0 : Nat) (v1 : Int32) (s : (Int32 × Int32)) : Sm G rm_Mod_dueAt ad ZF (0, 0) K 39 ((fun (s : (Int32 × Int32)) => [(0, .ref v0), (1, .int v1), (2, .int s.1), (3, .int s.2)]) s) [] (Mod_dueAt_39 v0 v1 s) :=
  s_loop (en := (fun (s : (Int32 × Int32)) => [(0, .ref v0), (1, .int v1), (2, .int s.1), (3, .int s.2)])) (fun s => sm_Mod_dueAt_39_b C hV hR v0 v1 s.1 s.2) s
set_option maxRecDepth 20000 in
theorem sm_Mod_dueAt_29 {G : GT} {ad : Nat → Nat} {K : Int32 → Dm → Prop} (C : Cx G rm_Mod_dueAt cX11_dueAt 4 RX11) (hV : Vx G rm_Mod_dueAt ad ZF (0, 0)) (hR : RtI G rm_Mod_dueAt ad ZF (0, 0) cX11_dueAt .int K) (v0 : Nat) (v1 : Int32) (v3 : Int32) (t0 : Int32) (t1 : Int32) : Sm G rm_Mod_dueAt ad ZF (0, 0) (lpK G rm_Mod_dueAt ad ZF (0, 0) 4 (fun (s : (Int32 × Int32)) => [(0, .ref v0), (1, .int v1), (2, .int s.1), (3, .int s.2)]) K) 29 [(0, .ref v0), (1, .int v1), (3, .int v3)] [.int t1, .int t0] (Mod_dueAt_29 v0 v1 v3 t0 t1) := by
  unfold Mod_dueAt_29
  refine s_ior C dX11_dueAt_29 ?_
  refine s_leti (fun x13 => ?_)
  refine s_istore_n C (L' := [(2, .int x13), (0, .ref v0), (1, .int v1), (3, .int v3)]) (by decide) rfl dX11_dueAt_30 ?_
  refine s_iinc C (L' := fun x14 => [(3, .int x14), (2, .int x13), (0, .ref v0), (1, .int v1)]) (1 : Int32) (by decide) rfl (by decide) (fun _ => rfl) dX11_dueAt_31 (fun x14 => ?_)
  refine s_goto C 4 (by decide) dX11_dueAt_34 ?_
  exact s_back [0, 1, 2, 3] (x13, x14) rfl
set_option maxRecDepth 20000 in
theorem sm_Mod_dueAt_4_b {G : GT} {ad : Nat → Nat} {K : Int32 → Dm → Prop} (C : Cx G rm_Mod_dueAt cX11_dueAt 4 RX11) (hV : Vx G rm_Mod_dueAt ad ZF (0, 0)) (hR : RtI G rm_Mod_dueAt ad ZF (0, 0) cX11_dueAt .int K) (v0 : Nat) (v1 : Int32) (v2 : Int32) (v3 : Int32) : Sm G rm_Mod_dueAt ad ZF (0, 0) (lpK G rm_Mod_dueAt ad ZF (0, 0) 4 (fun (s : (Int32 × Int32)) => [(0, .ref v0), (1, .int v1), (2, .int s.1), (3, .int s.2)]) K) 4 [(0, .ref v0), (1, .int v1), (2, .int v2), (3, .int v3)] [] (Mod_dueAt_4_b v0 v1 v2 v3) := by
  unfold Mod_dueAt_4_b
  refine s_iload_n C rfl dX11_dueAt_4 ?_
  refine s_aload_n C rfl dX11_dueAt_5 ?_
  refine s_getI C hV fl_X11_111 (fun _ _ _ => rfl) dX11_dueAt_6 (fun x3 => ?_)
  refine s_icmp_ge C 37 (by decide) dX11_dueAt_9 ?_ ?_
  · refine s_exit ?_
    refine s_iconst C (0 : Int32) (by decide) dX11_dueAt_37 ?_
    refine s_leti (fun x4 => ?_)
    refine s_istore_n C (L' := [(3, .int x4), (0, .ref v0), (1, .int v1), (2, .int v2)]) (by decide) rfl dX11_dueAt_38 ?_
    exact s_weak [0, 1, 2, 3] rfl (sm_Mod_dueAt_39 C hV hR v0 v1 (v2, x4))
  · refine s_iload_n C rfl dX11_dueAt_12 ?_
    refine s_aload_n C rfl dX11_dueAt_13 ?_
    refine s_getR C hV fl_X11_29 (fun _ _ _ => rfl) dX11_dueAt_14 (fun x11 => ?_)
    refine s_iload_n C rfl dX11_dueAt_17 ?_
    refine s_zaload C hV dX11_dueAt_18 (fun x12 => ?_)
    refine s_ite (g := fun z => Mod_dueAt_29 v0 v1 v3 v2 z) ?_
    refine s_if_eq C 28 (by decide) dX11_dueAt_19 ?_ ?_
    · refine s_iconst C (0 : Int32) (by decide) dX11_dueAt_28 ?_
      exact s_weak [0, 1, 3] rfl (sm_Mod_dueAt_29 C hV hR v0 v1 v3 v2 (0 : Int32))
    · refine s_iconst C (1 : Int32) (by decide) dX11_dueAt_22 ?_
      refine s_iload_n C rfl dX11_dueAt_23 ?_
      refine s_ishl C dX11_dueAt_24 ?_
      refine s_goto C 29 (by decide) dX11_dueAt_25 ?_
      exact s_weak [0, 1, 3] rfl (sm_Mod_dueAt_29 C hV hR v0 v1 v3 v2 ((1 : Int32) <<< (v3 &&& 31)))
set_option maxRecDepth 20000 in
theorem sm_Mod_dueAt_4 {G : GT} {ad : Nat → Nat} {K : Int32 → Dm → Prop} (C : Cx G rm_Mod_dueAt cX11_dueAt 4 RX11) (hV : Vx G rm_Mod_dueAt ad ZF (0, 0)) (hR : RtI G rm_Mod_dueAt ad ZF (0, 0) cX11_dueAt .int K) (v0 : Nat) (v1 : Int32) (s : (Int32 × Int32)) : Sm G rm_Mod_dueAt ad ZF (0, 0) K 4 ((fun (s : (Int32 × Int32)) => [(0, .ref v0), (1, .int v1), (2, .int s.1), (3, .int s.2)]) s) [] (Mod_dueAt_4 v0 v1 s) :=
  s_loop (en := (fun (s : (Int32 × Int32)) => [(0, .ref v0), (1, .int v1), (2, .int s.1), (3, .int s.2)])) (fun s => sm_Mod_dueAt_4_b C hV hR v0 v1 s.1 s.2) s
set_option maxRecDepth 20000 in
theorem sm_Mod_dueAt {G : GT} {ad : Nat → Nat} {K : Int32 → Dm → Prop} (C : Cx G rm_Mod_dueAt cX11_dueAt 4 RX11) (hV : Vx G rm_Mod_dueAt ad ZF (0, 0)) (hR : RtI G rm_Mod_dueAt ad ZF (0, 0) cX11_dueAt .int K) (v0 : Nat) (v1 : Int32) : Sm G rm_Mod_dueAt ad ZF (0, 0) K 0 [(0, .ref v0), (1, .int v1)] [] (Mod_dueAt v0 v1) := by
  unfold Mod_dueAt
  refine s_iconst C (0 : Int32) (by decide) dX11_dueAt_0 ?_
  refine s_leti (fun x1 => ?_)
  refine s_istore_n C (L' := [(2, .int x1), (0, .ref v0), (1, .int v1)]) (by decide) rfl dX11_dueAt_1 ?_
  refine s_iconst C (0 : Int32) (by decide) dX11_dueAt_2 ?_
  refine s_leti (fun x2 => ?_)
  refine s_istore_n C (L' := [(3, .int x2), (2, .int x1), (0, .ref v0), (1, .int v1)]) (by decide) rfl dX11_dueAt_3 ?_
  exact s_weak [0, 1, 2, 3] rfl (sm_Mod_dueAt_4 C hV hR v0 v1 (x1, x2))
set_option maxRecDepth 20000 in
theorem met_Mod_dueAt (v0 : Nat) (v1 : Int32) : MI ZF yX11_dueAt cX11_dueAt 4 .int rm_Mod_dueAt [.ref v0, .int v1] (Mod_dueAt v0 v1) :=
  mi_of (L0 := [(0, .ref v0), (1, .int v1)]) (by decide +kernel) (Nat.le_of_ble_eq_true rfl) rfl (fun G ad K C hV hR => sm_Mod_dueAt C hV hR v0 v1)

noncomputable def Mod_isBroken (v0 : Nat) (v1 : Int32) (v2 : Int32) : MM Int32 :=
  mb (gR ZF 12 31 v0) fun x1 =>
  mb (aI ZF 23 x1 v1) fun x2 =>
  if (x2 &&& v2) = v2 then
  mb (gR ZF 12 32 v0) fun x3 =>
  mb (aI ZF 25 x3 v1) fun x4 =>
  if x4 = 0 then
  mz (1 : Int32)
  else
  mz (0 : Int32)
  else
  mz (1 : Int32)
set_option maxRecDepth 20000 in
theorem sm_Mod_isBroken {G : GT} {ad : Nat → Nat} {K : Int32 → Dm → Prop} (C : Cx G rm_Mod_isBroken cX11_isBroken 3 RX11) (hV : Vx G rm_Mod_isBroken ad ZF (0, 0)) (hR : RtI G rm_Mod_isBroken ad ZF (0, 0) cX11_isBroken .boolean K) (v0 : Nat) (v1 : Int32) (v2 : Int32) : Sm G rm_Mod_isBroken ad ZF (0, 0) K 0 [(0, .ref v0), (1, .int v1), (2, .int v2)] [] (Mod_isBroken v0 v1 v2) := by
  unfold Mod_isBroken
  refine s_aload_n C rfl dX11_isBroken_0 ?_
  refine s_getR C hV fl_X11_68 (fun _ _ _ => rfl) dX11_isBroken_1 (fun x1 => ?_)
  refine s_iload_n C rfl dX11_isBroken_4 ?_
  refine s_iaload C hV dX11_isBroken_5 (fun x2 => ?_)
  refine s_iload_n C rfl dX11_isBroken_6 ?_
  refine s_iand C dX11_isBroken_7 ?_
  refine s_iload_n C rfl dX11_isBroken_8 ?_
  refine s_icmp_ne C 21 (by decide) dX11_isBroken_9 ?_ ?_
  · refine s_iconst C (1 : Int32) (by decide) dX11_isBroken_21 ?_
    refine s_goto C 26 (by decide) dX11_isBroken_22 ?_
    exact s_iretz hR dX11_isBroken_26
  · refine s_aload_n C rfl dX11_isBroken_12 ?_
    refine s_getR C hV fl_X11_71 (fun _ _ _ => rfl) dX11_isBroken_13 (fun x3 => ?_)
    refine s_iload_n C rfl dX11_isBroken_16 ?_
    refine s_zaload C hV dX11_isBroken_17 (fun x4 => ?_)
    refine s_if_ne C 25 (by decide) dX11_isBroken_18 ?_ ?_
    · refine s_iconst C (0 : Int32) (by decide) dX11_isBroken_25 ?_
      exact s_iretz hR dX11_isBroken_26
    · refine s_iconst C (1 : Int32) (by decide) dX11_isBroken_21 ?_
      refine s_goto C 26 (by decide) dX11_isBroken_22 ?_
      exact s_iretz hR dX11_isBroken_26
set_option maxRecDepth 20000 in
theorem met_Mod_isBroken (v0 : Nat) (v1 : Int32) (v2 : Int32) : MI ZF yX11_isBroken cX11_isBroken 3 .boolean rm_Mod_isBroken [.ref v0, .int v1, .int v2] (Mod_isBroken v0 v1 v2) :=
  mi_of (L0 := [(0, .ref v0), (1, .int v1), (2, .int v2)]) (by decide +kernel) (Nat.le_of_ble_eq_true rfl) rfl (fun G ad K C hV hR => sm_Mod_isBroken C hV hR v0 v1 v2)

noncomputable def Mod_broken_61 (v0 : Nat) (v2 : Int32) (v4 : Int32) (t0 : Int32) (t1 : Int32) : MM ((Int32 × Int32) ⊕ Int32) :=
  ml (t0 + t1) fun x10 =>
  ml (v4 + (1 : Int32)) fun x11 =>
  mp (.inl (x10, x11))
noncomputable def Mod_broken_31_b (v0 : Nat) (v2 : Int32) (v3 : Int32) (v4 : Int32) : MM ((Int32 × Int32) ⊕ Int32) :=
  mb (gI ZF 12 42 v0) fun x6 =>
  if x6 ≤ v4 then
  mr (
  mp v3)
  else
  mb (gR ZF 12 41 v0) fun x7 =>
  mb (aI ZF 23 x7 v4) fun x8 =>
  mb (vc ZF 12 v0 (Mod_isBroken v0 x8 v2)) fun r9 =>
  Mod_broken_61 v0 v2 v4 v3 (if r9 = 0 then (0 : Int32) else (1 : Int32))
noncomputable def Mod_broken_31 (v0 : Nat) (v2 : Int32) (s : (Int32 × Int32)) : MM Int32 := lo (fun (s : (Int32 × Int32)) => Mod_broken_31_b v0 v2 s.1 s.2) s
noncomputable def Mod_broken (v0 : Nat) (v1 : Int32) : MM Int32 :=
  mb (gI ZF 12 1 v0) fun x1 =>
  mb ((Mod_in v1 (0 : Int32) x1)) fun r2 =>
  if r2 = 0 then
  mp ((-102) : Int32)
  else
  mb (vc ZF 12 v0 (Mod_findPlates v0 v1)) fun _ =>
  mb (vc ZF 12 v0 (Mod_dueAt v0 v1)) fun r3 =>
  ml (0 : Int32) fun x4 =>
  ml (0 : Int32) fun x5 =>
  Mod_broken_31 v0 r3 (x4, x5)
set_option maxRecDepth 20000 in
theorem sm_Mod_broken_61 {G : GT} {ad : Nat → Nat} {K : Int32 → Dm → Prop} (C : Cx G rm_Mod_broken cX11_broken 5 RX11) (hV : Vx G rm_Mod_broken ad ZF (0, 0)) (hR : RtI G rm_Mod_broken ad ZF (0, 0) cX11_broken .int K) (v0 : Nat) (v2 : Int32) (v4 : Int32) (t0 : Int32) (t1 : Int32) : Sm G rm_Mod_broken ad ZF (0, 0) (lpK G rm_Mod_broken ad ZF (0, 0) 31 (fun (s : (Int32 × Int32)) => [(0, .ref v0), (2, .int v2), (3, .int s.1), (4, .int s.2)]) K) 61 [(0, .ref v0), (2, .int v2), (4, .int v4)] [.int t1, .int t0] (Mod_broken_61 v0 v2 v4 t0 t1) := by
  unfold Mod_broken_61
  refine s_iadd C dX11_broken_61 ?_
  refine s_leti (fun x10 => ?_)
  refine s_istore_n C (L' := [(3, .int x10), (0, .ref v0), (2, .int v2), (4, .int v4)]) (by decide) rfl dX11_broken_62 ?_
  refine s_iinc C (L' := fun x11 => [(4, .int x11), (3, .int x10), (0, .ref v0), (2, .int v2)]) (1 : Int32) (by decide) rfl (by decide) (fun _ => rfl) dX11_broken_63 (fun x11 => ?_)
  refine s_goto C 31 (by decide) dX11_broken_66 ?_
  exact s_back [0, 2, 3, 4] (x10, x11) rfl
set_option maxRecDepth 20000 in
theorem sm_Mod_broken_31_b {G : GT} {ad : Nat → Nat} {K : Int32 → Dm → Prop} (C : Cx G rm_Mod_broken cX11_broken 5 RX11) (hV : Vx G rm_Mod_broken ad ZF (0, 0)) (hR : RtI G rm_Mod_broken ad ZF (0, 0) cX11_broken .int K) (v0 : Nat) (v2 : Int32) (v3 : Int32) (v4 : Int32) : Sm G rm_Mod_broken ad ZF (0, 0) (lpK G rm_Mod_broken ad ZF (0, 0) 31 (fun (s : (Int32 × Int32)) => [(0, .ref v0), (2, .int v2), (3, .int s.1), (4, .int s.2)]) K) 31 [(0, .ref v0), (2, .int v2), (3, .int v3), (4, .int v4)] [] (Mod_broken_31_b v0 v2 v3 v4) := by
  unfold Mod_broken_31_b
  refine s_iload C rfl dX11_broken_31 ?_
  refine s_aload_n C rfl dX11_broken_33 ?_
  refine s_getI C hV fl_X11_270 (fun _ _ _ => rfl) dX11_broken_34 (fun x6 => ?_)
  refine s_icmp_ge C 69 (by decide) dX11_broken_37 ?_ ?_
  · refine s_exit ?_
    refine s_iload_n C rfl dX11_broken_69 ?_
    exact s_ireti hR dX11_broken_70
  · refine s_iload_n C rfl dX11_broken_40 ?_
    refine s_aload_n C rfl dX11_broken_41 ?_
    refine s_aload_n C rfl dX11_broken_42 ?_
    refine s_getR C hV fl_X11_86 (fun _ _ _ => rfl) dX11_broken_43 (fun x7 => ?_)
    refine s_iload C rfl dX11_broken_46 ?_
    refine s_iaload C hV dX11_broken_48 (fun x8 => ?_)
    refine s_iload_n C rfl dX11_broken_49 ?_
    refine s_wI C hV lv_X11_260 (st := [.int v3]) (met_Mod_isBroken v0 x8 v2) rf_Mod_broken_Mod_isBroken rfl rfl (Nat.le_of_ble_eq_true rfl) dX11_broken_50 (fun r9 => ?_)
    refine s_ite (g := fun z => Mod_broken_61 v0 v2 v4 v3 z) ?_
    refine s_if_eq C 60 (by decide) dX11_broken_53 ?_ ?_
    · refine s_iconst C (0 : Int32) (by decide) dX11_broken_60 ?_
      exact s_weak [0, 2, 4] rfl (sm_Mod_broken_61 C hV hR v0 v2 v4 v3 (0 : Int32))
    · refine s_iconst C (1 : Int32) (by decide) dX11_broken_56 ?_
      refine s_goto C 61 (by decide) dX11_broken_57 ?_
      exact s_weak [0, 2, 4] rfl (sm_Mod_broken_61 C hV hR v0 v2 v4 v3 (1 : Int32))
set_option maxRecDepth 20000 in
theorem sm_Mod_broken_31 {G : GT} {ad : Nat → Nat} {K : Int32 → Dm → Prop} (C : Cx G rm_Mod_broken cX11_broken 5 RX11) (hV : Vx G rm_Mod_broken ad ZF (0, 0)) (hR : RtI G rm_Mod_broken ad ZF (0, 0) cX11_broken .int K) (v0 : Nat) (v2 : Int32) (s : (Int32 × Int32)) : Sm G rm_Mod_broken ad ZF (0, 0) K 31 ((fun (s : (Int32 × Int32)) => [(0, .ref v0), (2, .int v2), (3, .int s.1), (4, .int s.2)]) s) [] (Mod_broken_31 v0 v2 s) :=
  s_loop (en := (fun (s : (Int32 × Int32)) => [(0, .ref v0), (2, .int v2), (3, .int s.1), (4, .int s.2)])) (fun s => sm_Mod_broken_31_b C hV hR v0 v2 s.1 s.2) s
set_option maxRecDepth 20000 in
theorem sm_Mod_broken {G : GT} {ad : Nat → Nat} {K : Int32 → Dm → Prop} (C : Cx G rm_Mod_broken cX11_broken 5 RX11) (hV : Vx G rm_Mod_broken ad ZF (0, 0)) (hR : RtI G rm_Mod_broken ad ZF (0, 0) cX11_broken .int K) (v0 : Nat) (v1 : Int32) : Sm G rm_Mod_broken ad ZF (0, 0) K 0 [(0, .ref v0), (1, .int v1)] [] (Mod_broken v0 v1) := by
  unfold Mod_broken
  refine s_iload_n C rfl dX11_broken_0 ?_
  refine s_iconst C (0 : Int32) (by decide) dX11_broken_1 ?_
  refine s_aload_n C rfl dX11_broken_2 ?_
  refine s_getI C hV fl_X11_104 (fun _ _ _ => rfl) dX11_broken_3 (fun x1 => ?_)
  refine s_uI C hV ls_X11_89 (st := []) (met_Mod_in v1 (0 : Int32) x1) rf_Mod_broken_Mod_in rfl rfl (Nat.le_of_ble_eq_true rfl) dX11_broken_6 (fun r2 => ?_)
  refine s_if_ne C 15 (by decide) dX11_broken_9 ?_ ?_
  · refine s_aload_n C rfl dX11_broken_15 ?_
    refine s_iload_n C rfl dX11_broken_16 ?_
    refine s_wV C hV lv_X11_273 (st := []) (met_Mod_findPlates v0 v1) rf_Mod_broken_Mod_findPlates rfl rfl (Nat.le_of_ble_eq_true rfl) dX11_broken_17 ?_
    refine s_aload_n C rfl dX11_broken_20 ?_
    refine s_iload_n C rfl dX11_broken_21 ?_
    refine s_wI C hV lv_X11_254 (st := []) (met_Mod_dueAt v0 v1) rf_Mod_broken_Mod_dueAt rfl rfl (Nat.le_of_ble_eq_true rfl) dX11_broken_22 (fun r3 => ?_)
    refine s_istore_n C (L' := [(2, .int r3), (0, .ref v0), (1, .int v1)]) (by decide) rfl dX11_broken_25 ?_
    refine s_iconst C (0 : Int32) (by decide) dX11_broken_26 ?_
    refine s_leti (fun x4 => ?_)
    refine s_istore_n C (L' := [(3, .int x4), (2, .int r3), (0, .ref v0), (1, .int v1)]) (by decide) rfl dX11_broken_27 ?_
    refine s_iconst C (0 : Int32) (by decide) dX11_broken_28 ?_
    refine s_leti (fun x5 => ?_)
    refine s_istore C (L' := [(4, .int x5), (3, .int x4), (2, .int r3), (0, .ref v0), (1, .int v1)]) (by decide) rfl dX11_broken_29 ?_
    exact s_weak [0, 2, 3, 4] rfl (sm_Mod_broken_31 C hV hR v0 r3 (x4, x5))
  · refine s_bipush C ((-102) : Int32) (by decide) dX11_broken_12 ?_
    exact s_ireti hR dX11_broken_14
set_option maxRecDepth 20000 in
theorem met_Mod_broken (v0 : Nat) (v1 : Int32) : MI ZF yX11_broken cX11_broken 5 .int rm_Mod_broken [.ref v0, .int v1] (Mod_broken v0 v1) :=
  mi_of (L0 := [(0, .ref v0), (1, .int v1)]) (by decide +kernel) (Nat.le_of_ble_eq_true rfl) rfl (fun G ad K C hV hR => sm_Mod_broken C hV hR v0 v1)

noncomputable def Mod_bounds_128 (v0 : Nat) (v1 : Int32) (v3 : Int32) (v5 : Int32) (t0 : Int32) : MM ((Int32 × Int32) ⊕ Int32) :=
  ml (v5 + (1 : Int32)) fun x12 =>
  mp (.inl (t0, x12))
noncomputable def Mod_bounds_110 (v0 : Nat) (v1 : Int32) (v3 : Int32) (v4 : Int32) (v5 : Int32) (t0 : Int32) : MM ((Int32 × Int32) ⊕ Int32) :=
  if t0 = 0 then
  Mod_bounds_128 v0 v1 v3 v5 v4
  else
  mb (gR ZF 12 16 v0) fun x13 =>
  mb (aI ZF 23 x13 v1) fun x14 =>
  Mod_bounds_128 v0 v1 v3 v5 x14
noncomputable def Mod_bounds_105 (v0 : Nat) (v1 : Int32) (v3 : Int32) (v4 : Int32) (v5 : Int32) : MM ((Int32 × Int32) ⊕ Int32) :=
  Mod_bounds_110 v0 v1 v3 v4 v5 (1 : Int32)
noncomputable def Mod_bounds_109 (v0 : Nat) (v1 : Int32) (v3 : Int32) (v4 : Int32) (v5 : Int32) : MM ((Int32 × Int32) ⊕ Int32) :=
  Mod_bounds_110 v0 v1 v3 v4 v5 (0 : Int32)
noncomputable def Mod_bounds_45_b (v0 : Nat) (v1 : Int32) (v3 : Int32) (v4 : Int32) (v5 : Int32) : MM ((Int32 × Int32) ⊕ Int32) :=
  mb (gI ZF 12 42 v0) fun x7 =>
  if x7 ≤ v5 then
  mr (
  mp v4)
  else
  mb (gR ZF 12 28 v0) fun x8 =>
  mb (gR ZF 12 41 v0) fun x9 =>
  mb (aI ZF 23 x9 v5) fun x10 =>
  mb (aL ZF x8 x10) fun x11 =>
  mb (vc ZF 12 v0 (Mod_lay v0 x11)) fun _ =>
  if v4 = ((-1) : Int32) then
  Mod_bounds_105 v0 v1 v3 v4 v5
  else
  if v3 = 0 then
  mb (gR ZF 12 16 v0) fun x17 =>
  mb (aI ZF 23 x17 v1) fun x18 =>
  if v4 ≤ x18 then
  Mod_bounds_109 v0 v1 v3 v4 v5
  else
  Mod_bounds_105 v0 v1 v3 v4 v5
  else
  mb (gR ZF 12 16 v0) fun x15 =>
  mb (aI ZF 23 x15 v1) fun x16 =>
  if x16 ≤ v4 then
  Mod_bounds_109 v0 v1 v3 v4 v5
  else
  Mod_bounds_105 v0 v1 v3 v4 v5
noncomputable def Mod_bounds_45 (v0 : Nat) (v1 : Int32) (v3 : Int32) (s : (Int32 × Int32)) : MM Int32 := lo (fun (s : (Int32 × Int32)) => Mod_bounds_45_b v0 v1 v3 s.1 s.2) s
noncomputable def Mod_bounds (v0 : Nat) (v1 : Int32) (v2 : Int32) (v3 : Int32) : MM Int32 :=
  mb ((Mod_isSector v1)) fun r1 =>
  if r1 = 0 then
  mp ((-101) : Int32)
  else
  mb (gI ZF 12 1 v0) fun x2 =>
  mb ((Mod_in v2 (0 : Int32) x2)) fun r3 =>
  if r3 = 0 then
  mp ((-102) : Int32)
  else
  mb ((Mod_in v3 (0 : Int32) (1 : Int32))) fun r4 =>
  if r4 = 0 then
  mp ((-102) : Int32)
  else
  mb (vc ZF 12 v0 (Mod_findPlates v0 v2)) fun _ =>
  ml ((-1) : Int32) fun x5 =>
  ml (0 : Int32) fun x6 =>
  Mod_bounds_45 v0 v1 v3 (x5, x6)
set_option maxRecDepth 20000 in
theorem sm_Mod_bounds_128 {G : GT} {ad : Nat → Nat} {K : Int32 → Dm → Prop} (C : Cx G rm_Mod_bounds cX11_bounds 7 RX11) (hV : Vx G rm_Mod_bounds ad ZF (0, 0)) (hR : RtI G rm_Mod_bounds ad ZF (0, 0) cX11_bounds .int K) (v0 : Nat) (v1 : Int32) (v3 : Int32) (v5 : Int32) (t0 : Int32) : Sm G rm_Mod_bounds ad ZF (0, 0) (lpK G rm_Mod_bounds ad ZF (0, 0) 45 (fun (s : (Int32 × Int32)) => [(0, .ref v0), (1, .int v1), (3, .int v3), (4, .int s.1), (5, .int s.2)]) K) 128 [(0, .ref v0), (1, .int v1), (3, .int v3), (5, .int v5)] [.int t0] (Mod_bounds_128 v0 v1 v3 v5 t0) := by
  unfold Mod_bounds_128
  refine s_istore C (L' := [(4, .int t0), (0, .ref v0), (1, .int v1), (3, .int v3), (5, .int v5)]) (by decide) rfl dX11_bounds_128 ?_
  refine s_iinc C (L' := fun x12 => [(5, .int x12), (4, .int t0), (0, .ref v0), (1, .int v1), (3, .int v3)]) (1 : Int32) (by decide) rfl (by decide) (fun _ => rfl) dX11_bounds_130 (fun x12 => ?_)
  refine s_goto C 45 (by decide) dX11_bounds_133 ?_
  exact s_back [0, 1, 3, 4, 5] (t0, x12) rfl
set_option maxRecDepth 20000 in
theorem sm_Mod_bounds_110 {G : GT} {ad : Nat → Nat} {K : Int32 → Dm → Prop} (C : Cx G rm_Mod_bounds cX11_bounds 7 RX11) (hV : Vx G rm_Mod_bounds ad ZF (0, 0)) (hR : RtI G rm_Mod_bounds ad ZF (0, 0) cX11_bounds .int K) (v0 : Nat) (v1 : Int32) (v3 : Int32) (v4 : Int32) (v5 : Int32) (t0 : Int32) : Sm G rm_Mod_bounds ad ZF (0, 0) (lpK G rm_Mod_bounds ad ZF (0, 0) 45 (fun (s : (Int32 × Int32)) => [(0, .ref v0), (1, .int v1), (3, .int v3), (4, .int s.1), (5, .int s.2)]) K) 110 [(0, .ref v0), (1, .int v1), (3, .int v3), (4, .int v4), (5, .int v5)] [.int t0] (Mod_bounds_110 v0 v1 v3 v4 v5 t0) := by
  unfold Mod_bounds_110
  refine s_istore C (L' := [(6, .int t0), (0, .ref v0), (1, .int v1), (3, .int v3), (4, .int v4), (5, .int v5)]) (by decide) rfl dX11_bounds_110 ?_
  refine s_iload C rfl dX11_bounds_112 ?_
  refine s_if_eq C 126 (by decide) dX11_bounds_114 ?_ ?_
  · refine s_iload C rfl dX11_bounds_126 ?_
    exact s_weak [0, 1, 3, 5] rfl (sm_Mod_bounds_128 C hV hR v0 v1 v3 v5 v4)
  · refine s_aload_n C rfl dX11_bounds_117 ?_
    refine s_getR C hV fl_X11_46 (fun _ _ _ => rfl) dX11_bounds_118 (fun x13 => ?_)
    refine s_iload_n C rfl dX11_bounds_121 ?_
    refine s_iaload C hV dX11_bounds_122 (fun x14 => ?_)
    refine s_goto C 128 (by decide) dX11_bounds_123 ?_
    exact s_weak [0, 1, 3, 5] rfl (sm_Mod_bounds_128 C hV hR v0 v1 v3 v5 x14)
set_option maxRecDepth 20000 in
theorem sm_Mod_bounds_105 {G : GT} {ad : Nat → Nat} {K : Int32 → Dm → Prop} (C : Cx G rm_Mod_bounds cX11_bounds 7 RX11) (hV : Vx G rm_Mod_bounds ad ZF (0, 0)) (hR : RtI G rm_Mod_bounds ad ZF (0, 0) cX11_bounds .int K) (v0 : Nat) (v1 : Int32) (v3 : Int32) (v4 : Int32) (v5 : Int32) : Sm G rm_Mod_bounds ad ZF (0, 0) (lpK G rm_Mod_bounds ad ZF (0, 0) 45 (fun (s : (Int32 × Int32)) => [(0, .ref v0), (1, .int v1), (3, .int v3), (4, .int s.1), (5, .int s.2)]) K) 105 [(0, .ref v0), (1, .int v1), (3, .int v3), (4, .int v4), (5, .int v5)] [] (Mod_bounds_105 v0 v1 v3 v4 v5) := by
  unfold Mod_bounds_105
  refine s_iconst C (1 : Int32) (by decide) dX11_bounds_105 ?_
  refine s_goto C 110 (by decide) dX11_bounds_106 ?_
  exact s_weak [0, 1, 3, 4, 5] rfl (sm_Mod_bounds_110 C hV hR v0 v1 v3 v4 v5 (1 : Int32))
set_option maxRecDepth 20000 in
theorem sm_Mod_bounds_109 {G : GT} {ad : Nat → Nat} {K : Int32 → Dm → Prop} (C : Cx G rm_Mod_bounds cX11_bounds 7 RX11) (hV : Vx G rm_Mod_bounds ad ZF (0, 0)) (hR : RtI G rm_Mod_bounds ad ZF (0, 0) cX11_bounds .int K) (v0 : Nat) (v1 : Int32) (v3 : Int32) (v4 : Int32) (v5 : Int32) : Sm G rm_Mod_bounds ad ZF (0, 0) (lpK G rm_Mod_bounds ad ZF (0, 0) 45 (fun (s : (Int32 × Int32)) => [(0, .ref v0), (1, .int v1), (3, .int v3), (4, .int s.1), (5, .int s.2)]) K) 109 [(0, .ref v0), (1, .int v1), (3, .int v3), (4, .int v4), (5, .int v5)] [] (Mod_bounds_109 v0 v1 v3 v4 v5) := by
  unfold Mod_bounds_109
  refine s_iconst C (0 : Int32) (by decide) dX11_bounds_109 ?_
  exact s_weak [0, 1, 3, 4, 5] rfl (sm_Mod_bounds_110 C hV hR v0 v1 v3 v4 v5 (0 : Int32))
set_option maxRecDepth 20000 in
theorem sm_Mod_bounds_45_b {G : GT} {ad : Nat → Nat} {K : Int32 → Dm → Prop} (C : Cx G rm_Mod_bounds cX11_bounds 7 RX11) (hV : Vx G rm_Mod_bounds ad ZF (0, 0)) (hR : RtI G rm_Mod_bounds ad ZF (0, 0) cX11_bounds .int K) (v0 : Nat) (v1 : Int32) (v3 : Int32) (v4 : Int32) (v5 : Int32) : Sm G rm_Mod_bounds ad ZF (0, 0) (lpK G rm_Mod_bounds ad ZF (0, 0) 45 (fun (s : (Int32 × Int32)) => [(0, .ref v0), (1, .int v1), (3, .int v3), (4, .int s.1), (5, .int s.2)]) K) 45 [(0, .ref v0), (1, .int v1), (3, .int v3), (4, .int v4), (5, .int v5)] [] (Mod_bounds_45_b v0 v1 v3 v4 v5) := by
  unfold Mod_bounds_45_b
  refine s_iload C rfl dX11_bounds_45 ?_
  refine s_aload_n C rfl dX11_bounds_47 ?_
  refine s_getI C hV fl_X11_270 (fun _ _ _ => rfl) dX11_bounds_48 (fun x7 => ?_)
  refine s_icmp_ge C 136 (by decide) dX11_bounds_51 ?_ ?_
  · refine s_exit ?_
    refine s_iload C rfl dX11_bounds_136 ?_
    exact s_ireti hR dX11_bounds_138
  · refine s_aload_n C rfl dX11_bounds_54 ?_
    refine s_aload_n C rfl dX11_bounds_55 ?_
    refine s_getR C hV fl_X11_58 (fun _ _ _ => rfl) dX11_bounds_56 (fun x8 => ?_)
    refine s_aload_n C rfl dX11_bounds_59 ?_
    refine s_getR C hV fl_X11_86 (fun _ _ _ => rfl) dX11_bounds_60 (fun x9 => ?_)
    refine s_iload C rfl dX11_bounds_63 ?_
    refine s_iaload C hV dX11_bounds_65 (fun x10 => ?_)
    refine s_laload C hV dX11_bounds_66 (fun x11 => ?_)
    refine s_wV C hV lv_X11_195 (st := []) (met_Mod_lay v0 x11) rf_Mod_bounds_Mod_lay rfl rfl (Nat.le_of_ble_eq_true rfl) dX11_bounds_67 ?_
    refine s_iload C rfl dX11_bounds_70 ?_
    refine s_iconst C ((-1) : Int32) (by decide) dX11_bounds_72 ?_
    refine s_icmp_eq C 105 (by decide) dX11_bounds_73 ?_ ?_
    · exact s_weak [0, 1, 3, 4, 5] rfl (sm_Mod_bounds_105 C hV hR v0 v1 v3 v4 v5)
    · refine s_iload_n C rfl dX11_bounds_76 ?_
      refine s_if_ne C 94 (by decide) dX11_bounds_77 ?_ ?_
      · refine s_aload_n C rfl dX11_bounds_94 ?_
        refine s_getR C hV fl_X11_46 (fun _ _ _ => rfl) dX11_bounds_95 (fun x15 => ?_)
        refine s_iload_n C rfl dX11_bounds_98 ?_
        refine s_iaload C hV dX11_bounds_99 (fun x16 => ?_)
        refine s_iload C rfl dX11_bounds_100 ?_
        refine s_icmp_le C 109 (by decide) dX11_bounds_102 ?_ ?_
        · exact s_weak [0, 1, 3, 4, 5] rfl (sm_Mod_bounds_109 C hV hR v0 v1 v3 v4 v5)
        · exact s_weak [0, 1, 3, 4, 5] rfl (sm_Mod_bounds_105 C hV hR v0 v1 v3 v4 v5)
      · refine s_aload_n C rfl dX11_bounds_80 ?_
        refine s_getR C hV fl_X11_46 (fun _ _ _ => rfl) dX11_bounds_81 (fun x17 => ?_)
        refine s_iload_n C rfl dX11_bounds_84 ?_
        refine s_iaload C hV dX11_bounds_85 (fun x18 => ?_)
        refine s_iload C rfl dX11_bounds_86 ?_
        refine s_icmp_ge C 109 (by decide) dX11_bounds_88 ?_ ?_
        · exact s_weak [0, 1, 3, 4, 5] rfl (sm_Mod_bounds_109 C hV hR v0 v1 v3 v4 v5)
        · refine s_goto C 105 (by decide) dX11_bounds_91 ?_
          exact s_weak [0, 1, 3, 4, 5] rfl (sm_Mod_bounds_105 C hV hR v0 v1 v3 v4 v5)
set_option maxRecDepth 20000 in
theorem sm_Mod_bounds_45 {G : GT} {ad : Nat → Nat} {K : Int32 → Dm → Prop} (C : Cx G rm_Mod_bounds cX11_bounds 7 RX11) (hV : Vx G rm_Mod_bounds ad ZF (0, 0)) (hR : RtI G rm_Mod_bounds ad ZF (0, 0) cX11_bounds .int K) (v0 : Nat) (v1 : Int32) (v3 : Int32) (s : (Int32 × Int32)) : Sm G rm_Mod_bounds ad ZF (0, 0) K 45 ((fun (s : (Int32 × Int32)) => [(0, .ref v0), (1, .int v1), (3, .int v3), (4, .int s.1), (5, .int s.2)]) s) [] (Mod_bounds_45 v0 v1 v3 s) :=
  s_loop (en := (fun (s : (Int32 × Int32)) => [(0, .ref v0), (1, .int v1), (3, .int v3), (4, .int s.1), (5, .int s.2)])) (fun s => sm_Mod_bounds_45_b C hV hR v0 v1 v3 s.1 s.2) s
set_option maxRecDepth 20000 in
theorem sm_Mod_bounds {G : GT} {ad : Nat → Nat} {K : Int32 → Dm → Prop} (C : Cx G rm_Mod_bounds cX11_bounds 7 RX11) (hV : Vx G rm_Mod_bounds ad ZF (0, 0)) (hR : RtI G rm_Mod_bounds ad ZF (0, 0) cX11_bounds .int K) (v0 : Nat) (v1 : Int32) (v2 : Int32) (v3 : Int32) : Sm G rm_Mod_bounds ad ZF (0, 0) K 0 [(0, .ref v0), (1, .int v1), (2, .int v2), (3, .int v3)] [] (Mod_bounds v0 v1 v2 v3) := by
  unfold Mod_bounds
  refine s_iload_n C rfl dX11_bounds_0 ?_
  refine s_uI C hV ls_X11_93 (st := []) (met_Mod_isSector v1) rf_Mod_bounds_Mod_isSector rfl rfl (Nat.le_of_ble_eq_true rfl) dX11_bounds_1 (fun r1 => ?_)
  refine s_if_ne C 10 (by decide) dX11_bounds_4 ?_ ?_
  · refine s_iload_n C rfl dX11_bounds_10 ?_
    refine s_iconst C (0 : Int32) (by decide) dX11_bounds_11 ?_
    refine s_aload_n C rfl dX11_bounds_12 ?_
    refine s_getI C hV fl_X11_104 (fun _ _ _ => rfl) dX11_bounds_13 (fun x2 => ?_)
    refine s_uI C hV ls_X11_89 (st := []) (met_Mod_in v2 (0 : Int32) x2) rf_Mod_bounds_Mod_in rfl rfl (Nat.le_of_ble_eq_true rfl) dX11_bounds_16 (fun r3 => ?_)
    refine s_if_eq C 31 (by decide) dX11_bounds_19 ?_ ?_
    · refine s_bipush C ((-102) : Int32) (by decide) dX11_bounds_31 ?_
      exact s_ireti hR dX11_bounds_33
    · refine s_iload_n C rfl dX11_bounds_22 ?_
      refine s_iconst C (0 : Int32) (by decide) dX11_bounds_23 ?_
      refine s_iconst C (1 : Int32) (by decide) dX11_bounds_24 ?_
      refine s_uI C hV ls_X11_89 (st := []) (met_Mod_in v3 (0 : Int32) (1 : Int32)) rf_Mod_bounds_Mod_in rfl rfl (Nat.le_of_ble_eq_true rfl) dX11_bounds_25 (fun r4 => ?_)
      refine s_if_ne C 34 (by decide) dX11_bounds_28 ?_ ?_
      · refine s_aload_n C rfl dX11_bounds_34 ?_
        refine s_iload_n C rfl dX11_bounds_35 ?_
        refine s_wV C hV lv_X11_273 (st := []) (met_Mod_findPlates v0 v2) rf_Mod_bounds_Mod_findPlates rfl rfl (Nat.le_of_ble_eq_true rfl) dX11_bounds_36 ?_
        refine s_iconst C ((-1) : Int32) (by decide) dX11_bounds_39 ?_
        refine s_leti (fun x5 => ?_)
        refine s_istore C (L' := [(4, .int x5), (0, .ref v0), (1, .int v1), (2, .int v2), (3, .int v3)]) (by decide) rfl dX11_bounds_40 ?_
        refine s_iconst C (0 : Int32) (by decide) dX11_bounds_42 ?_
        refine s_leti (fun x6 => ?_)
        refine s_istore C (L' := [(5, .int x6), (4, .int x5), (0, .ref v0), (1, .int v1), (2, .int v2), (3, .int v3)]) (by decide) rfl dX11_bounds_43 ?_
        exact s_weak [0, 1, 3, 4, 5] rfl (sm_Mod_bounds_45 C hV hR v0 v1 v3 (x5, x6))
      · refine s_bipush C ((-102) : Int32) (by decide) dX11_bounds_31 ?_
        exact s_ireti hR dX11_bounds_33
  · refine s_bipush C ((-101) : Int32) (by decide) dX11_bounds_7 ?_
    exact s_ireti hR dX11_bounds_9
set_option maxRecDepth 20000 in
theorem met_Mod_bounds (v0 : Nat) (v1 : Int32) (v2 : Int32) (v3 : Int32) : MI ZF yX11_bounds cX11_bounds 7 .int rm_Mod_bounds [.ref v0, .int v1, .int v2, .int v3] (Mod_bounds v0 v1 v2 v3) :=
  mi_of (L0 := [(0, .ref v0), (1, .int v1), (2, .int v2), (3, .int v3)]) (by decide +kernel) (Nat.le_of_ble_eq_true rfl) rfl (fun G ad K C hV hR => sm_Mod_bounds C hV hR v0 v1 v2 v3)

noncomputable def Mod_isSafe_25_b (v0 : Nat) (v1 : Int32) (v2 : Int32) (v3 : Int32) (v4 : Int32) : MM (Int32 ⊕ (Int32 ⊕ Int32)) :=
  mb (gI ZF 12 40 v0) fun x5 =>
  if x5 ≤ v4 then
  mr (
  ml (v2 + (1 : Int32)) fun x6 =>
  mp (.inl x6))
  else
  mb (gR ZF 12 39 v0) fun x7 =>
  mb (aI ZF 23 x7 v4) fun x8 =>
  mb (vc ZF 12 v0 (Mod_isBroken v0 x8 v3)) fun r9 =>
  if r9 = 0 then
  ml (v4 + (1 : Int32)) fun x10 =>
  mp (.inl x10)
  else
  mr (
mr (
  mz (0 : Int32)))
noncomputable def Mod_isSafe_25 (v0 : Nat) (v1 : Int32) (v2 : Int32) (v3 : Int32) (s : Int32) : MM (Int32 ⊕ Int32) := lo (fun (s : Int32) => Mod_isSafe_25_b v0 v1 v2 v3 s) s
noncomputable def Mod_isSafe_2_b (v0 : Nat) (v1 : Int32) (v2 : Int32) : MM (Int32 ⊕ Int32) :=
  mb (gI ZF 12 1 v0) fun x2 =>
  if x2 < v2 then
  mr (
  mz (1 : Int32))
  else
  mb (vc ZF 12 v0 (Mod_dueAt v0 v2)) fun r3 =>
  mb (vc ZF 12 v0 (Mod_findSets v0 v2 v1)) fun _ =>
  ml (0 : Int32) fun x4 =>
  Mod_isSafe_25 v0 v1 v2 r3 x4
noncomputable def Mod_isSafe_2 (v0 : Nat) (v1 : Int32) (s : Int32) : MM Int32 := lo (fun (s : Int32) => Mod_isSafe_2_b v0 v1 s) s
noncomputable def Mod_isSafe (v0 : Nat) (v1 : Int32) : MM Int32 :=
  ml (0 : Int32) fun x1 =>
  Mod_isSafe_2 v0 v1 x1
set_option maxRecDepth 20000 in
theorem sm_Mod_isSafe_25_b {G : GT} {ad : Nat → Nat} {K : Int32 → Dm → Prop} (C : Cx G rm_Mod_isSafe cX11_isSafe 5 RX11) (hV : Vx G rm_Mod_isSafe ad ZF (0, 0)) (hR : RtI G rm_Mod_isSafe ad ZF (0, 0) cX11_isSafe .boolean K) (v0 : Nat) (v1 : Int32) (v2 : Int32) (v3 : Int32) (v4 : Int32) : Sm G rm_Mod_isSafe ad ZF (0, 0) (lpK G rm_Mod_isSafe ad ZF (0, 0) 25 (fun (s : Int32) => [(0, .ref v0), (1, .int v1), (2, .int v2), (3, .int v3), (4, .int s)]) (lpK G rm_Mod_isSafe ad ZF (0, 0) 2 (fun (s : Int32) => [(0, .ref v0), (1, .int v1), (2, .int s)]) K)) 25 [(0, .ref v0), (1, .int v1), (2, .int v2), (3, .int v3), (4, .int v4)] [] (Mod_isSafe_25_b v0 v1 v2 v3 v4) := by
  unfold Mod_isSafe_25_b
  refine s_iload C rfl dX11_isSafe_25 ?_
  refine s_aload_n C rfl dX11_isSafe_27 ?_
  refine s_getI C hV fl_X11_248 (fun _ _ _ => rfl) dX11_isSafe_28 (fun x5 => ?_)
  refine s_icmp_ge C 57 (by decide) dX11_isSafe_31 ?_ ?_
  · refine s_exit ?_
    refine s_iinc C (L' := fun x6 => [(2, .int x6), (0, .ref v0), (1, .int v1), (3, .int v3), (4, .int v4)]) (1 : Int32) (by decide) rfl (by decide) (fun _ => rfl) dX11_isSafe_57 (fun x6 => ?_)
    refine s_goto C 2 (by decide) dX11_isSafe_60 ?_
    exact s_back [0, 1, 2] x6 rfl
  · refine s_aload_n C rfl dX11_isSafe_34 ?_
    refine s_aload_n C rfl dX11_isSafe_35 ?_
    refine s_getR C hV fl_X11_83 (fun _ _ _ => rfl) dX11_isSafe_36 (fun x7 => ?_)
    refine s_iload C rfl dX11_isSafe_39 ?_
    refine s_iaload C hV dX11_isSafe_41 (fun x8 => ?_)
    refine s_iload_n C rfl dX11_isSafe_42 ?_
    refine s_wI C hV lv_X11_260 (st := []) (met_Mod_isBroken v0 x8 v3) rf_Mod_isSafe_Mod_isBroken rfl rfl (Nat.le_of_ble_eq_true rfl) dX11_isSafe_43 (fun r9 => ?_)
    refine s_if_eq C 51 (by decide) dX11_isSafe_46 ?_ ?_
    · refine s_iinc C (L' := fun x10 => [(4, .int x10), (0, .ref v0), (1, .int v1), (2, .int v2), (3, .int v3)]) (1 : Int32) (by decide) rfl (by decide) (fun _ => rfl) dX11_isSafe_51 (fun x10 => ?_)
      refine s_goto C 25 (by decide) dX11_isSafe_54 ?_
      exact s_back [0, 1, 2, 3, 4] x10 rfl
    · refine s_exit ?_
      refine s_exit ?_
      refine s_iconst C (0 : Int32) (by decide) dX11_isSafe_49 ?_
      exact s_iretz hR dX11_isSafe_50
set_option maxRecDepth 20000 in
theorem sm_Mod_isSafe_25 {G : GT} {ad : Nat → Nat} {K : Int32 → Dm → Prop} (C : Cx G rm_Mod_isSafe cX11_isSafe 5 RX11) (hV : Vx G rm_Mod_isSafe ad ZF (0, 0)) (hR : RtI G rm_Mod_isSafe ad ZF (0, 0) cX11_isSafe .boolean K) (v0 : Nat) (v1 : Int32) (v2 : Int32) (v3 : Int32) (s : Int32) : Sm G rm_Mod_isSafe ad ZF (0, 0) (lpK G rm_Mod_isSafe ad ZF (0, 0) 2 (fun (s : Int32) => [(0, .ref v0), (1, .int v1), (2, .int s)]) K) 25 ((fun (s : Int32) => [(0, .ref v0), (1, .int v1), (2, .int v2), (3, .int v3), (4, .int s)]) s) [] (Mod_isSafe_25 v0 v1 v2 v3 s) :=
  s_loop (en := (fun (s : Int32) => [(0, .ref v0), (1, .int v1), (2, .int v2), (3, .int v3), (4, .int s)])) (fun s => sm_Mod_isSafe_25_b C hV hR v0 v1 v2 v3 s) s
set_option maxRecDepth 20000 in
theorem sm_Mod_isSafe_2_b {G : GT} {ad : Nat → Nat} {K : Int32 → Dm → Prop} (C : Cx G rm_Mod_isSafe cX11_isSafe 5 RX11) (hV : Vx G rm_Mod_isSafe ad ZF (0, 0)) (hR : RtI G rm_Mod_isSafe ad ZF (0, 0) cX11_isSafe .boolean K) (v0 : Nat) (v1 : Int32) (v2 : Int32) : Sm G rm_Mod_isSafe ad ZF (0, 0) (lpK G rm_Mod_isSafe ad ZF (0, 0) 2 (fun (s : Int32) => [(0, .ref v0), (1, .int v1), (2, .int s)]) K) 2 [(0, .ref v0), (1, .int v1), (2, .int v2)] [] (Mod_isSafe_2_b v0 v1 v2) := by
  unfold Mod_isSafe_2_b
  refine s_iload_n C rfl dX11_isSafe_2 ?_
  refine s_aload_n C rfl dX11_isSafe_3 ?_
  refine s_getI C hV fl_X11_104 (fun _ _ _ => rfl) dX11_isSafe_4 (fun x2 => ?_)
  refine s_icmp_gt C 63 (by decide) dX11_isSafe_7 ?_ ?_
  · refine s_exit ?_
    refine s_iconst C (1 : Int32) (by decide) dX11_isSafe_63 ?_
    exact s_iretz hR dX11_isSafe_64
  · refine s_aload_n C rfl dX11_isSafe_10 ?_
    refine s_iload_n C rfl dX11_isSafe_11 ?_
    refine s_wI C hV lv_X11_254 (st := []) (met_Mod_dueAt v0 v2) rf_Mod_isSafe_Mod_dueAt rfl rfl (Nat.le_of_ble_eq_true rfl) dX11_isSafe_12 (fun r3 => ?_)
    refine s_istore_n C (L' := [(3, .int r3), (0, .ref v0), (1, .int v1), (2, .int v2)]) (by decide) rfl dX11_isSafe_15 ?_
    refine s_aload_n C rfl dX11_isSafe_16 ?_
    refine s_iload_n C rfl dX11_isSafe_17 ?_
    refine s_iload_n C rfl dX11_isSafe_18 ?_
    refine s_wV C hV lv_X11_257 (st := []) (met_Mod_findSets v0 v2 v1) rf_Mod_isSafe_Mod_findSets rfl rfl (Nat.le_of_ble_eq_true rfl) dX11_isSafe_19 ?_
    refine s_iconst C (0 : Int32) (by decide) dX11_isSafe_22 ?_
    refine s_leti (fun x4 => ?_)
    refine s_istore C (L' := [(4, .int x4), (3, .int r3), (0, .ref v0), (1, .int v1), (2, .int v2)]) (by decide) rfl dX11_isSafe_23 ?_
    exact s_weak [0, 1, 2, 3, 4] rfl (sm_Mod_isSafe_25 C hV hR v0 v1 v2 r3 x4)
set_option maxRecDepth 20000 in
theorem sm_Mod_isSafe_2 {G : GT} {ad : Nat → Nat} {K : Int32 → Dm → Prop} (C : Cx G rm_Mod_isSafe cX11_isSafe 5 RX11) (hV : Vx G rm_Mod_isSafe ad ZF (0, 0)) (hR : RtI G rm_Mod_isSafe ad ZF (0, 0) cX11_isSafe .boolean K) (v0 : Nat) (v1 : Int32) (s : Int32) : Sm G rm_Mod_isSafe ad ZF (0, 0) K 2 ((fun (s : Int32) => [(0, .ref v0), (1, .int v1), (2, .int s)]) s) [] (Mod_isSafe_2 v0 v1 s) :=
  s_loop (en := (fun (s : Int32) => [(0, .ref v0), (1, .int v1), (2, .int s)])) (fun s => sm_Mod_isSafe_2_b C hV hR v0 v1 s) s
set_option maxRecDepth 20000 in
theorem sm_Mod_isSafe {G : GT} {ad : Nat → Nat} {K : Int32 → Dm → Prop} (C : Cx G rm_Mod_isSafe cX11_isSafe 5 RX11) (hV : Vx G rm_Mod_isSafe ad ZF (0, 0)) (hR : RtI G rm_Mod_isSafe ad ZF (0, 0) cX11_isSafe .boolean K) (v0 : Nat) (v1 : Int32) : Sm G rm_Mod_isSafe ad ZF (0, 0) K 0 [(0, .ref v0), (1, .int v1)] [] (Mod_isSafe v0 v1) := by
  unfold Mod_isSafe
  refine s_iconst C (0 : Int32) (by decide) dX11_isSafe_0 ?_
  refine s_leti (fun x1 => ?_)
  refine s_istore_n C (L' := [(2, .int x1), (0, .ref v0), (1, .int v1)]) (by decide) rfl dX11_isSafe_1 ?_
  exact s_weak [0, 1, 2] rfl (sm_Mod_isSafe_2 C hV hR v0 v1 x1)
set_option maxRecDepth 20000 in
theorem met_Mod_isSafe (v0 : Nat) (v1 : Int32) : MI ZF yX11_isSafe cX11_isSafe 5 .boolean rm_Mod_isSafe [.ref v0, .int v1] (Mod_isSafe v0 v1) :=
  mi_of (L0 := [(0, .ref v0), (1, .int v1)]) (by decide +kernel) (Nat.le_of_ble_eq_true rfl) rfl (fun G ad K C hV hR => sm_Mod_isSafe C hV hR v0 v1)

noncomputable def Mod_safe (v0 : Nat) : MM Int32 :=
  mb (vc ZF 12 v0 (Mod_layAll v0)) fun _ =>
  mb (vc ZF 12 v0 (Mod_putNothing v0)) fun _ =>
  mb (vc ZF 12 v0 (Mod_isSafe v0 (0 : Int32))) fun r1 =>
  if r1 = 0 then
  mp (0 : Int32)
  else
  mp (1 : Int32)
set_option maxRecDepth 20000 in
theorem sm_Mod_safe {G : GT} {ad : Nat → Nat} {K : Int32 → Dm → Prop} (C : Cx G rm_Mod_safe cX11_safe 1 RX11) (hV : Vx G rm_Mod_safe ad ZF (0, 0)) (hR : RtI G rm_Mod_safe ad ZF (0, 0) cX11_safe .int K) (v0 : Nat) : Sm G rm_Mod_safe ad ZF (0, 0) K 0 [(0, .ref v0)] [] (Mod_safe v0) := by
  unfold Mod_safe
  refine s_aload_n C rfl dX11_safe_0 ?_
  refine s_wV C hV lv_X11_264 (st := []) (met_Mod_layAll v0) rf_Mod_safe_Mod_layAll rfl rfl (Nat.le_of_ble_eq_true rfl) dX11_safe_1 ?_
  refine s_aload_n C rfl dX11_safe_4 ?_
  refine s_wV C hV lv_X11_267 (st := []) (met_Mod_putNothing v0) rf_Mod_safe_Mod_putNothing rfl rfl (Nat.le_of_ble_eq_true rfl) dX11_safe_5 ?_
  refine s_aload_n C rfl dX11_safe_8 ?_
  refine s_iconst C (0 : Int32) (by decide) dX11_safe_9 ?_
  refine s_wI C hV lv_X11_276 (st := []) (met_Mod_isSafe v0 (0 : Int32)) rf_Mod_safe_Mod_isSafe rfl rfl (Nat.le_of_ble_eq_true rfl) dX11_safe_10 (fun r1 => ?_)
  refine s_if_eq C 20 (by decide) dX11_safe_13 ?_ ?_
  · refine s_iconst C (0 : Int32) (by decide) dX11_safe_20 ?_
    exact s_ireti hR dX11_safe_21
  · refine s_iconst C (1 : Int32) (by decide) dX11_safe_16 ?_
    refine s_goto C 21 (by decide) dX11_safe_17 ?_
    exact s_ireti hR dX11_safe_21
set_option maxRecDepth 20000 in
theorem met_Mod_safe (v0 : Nat) : MI ZF yX11_safe cX11_safe 1 .int rm_Mod_safe [.ref v0] (Mod_safe v0) :=
  mi_of (L0 := [(0, .ref v0)]) (by decide +kernel) (Nat.le_of_ble_eq_true rfl) rfl (fun G ad K C hV hR => sm_Mod_safe C hV hR v0)

noncomputable def Mod_leastSet_66 (v0 : Nat) (v1 : Int64) (v3 : Int64) (v5 : Int32) : MM ((Int64 × Int32) ⊕ Int64) :=
  ml (v5 + (1 : Int32)) fun x11 =>
  mp (.inl (v3, x11))
noncomputable def Mod_leastSet_62 (v0 : Nat) (v1 : Int64) (v5 : Int32) (v6 : Int32) : MM ((Int64 × Int32) ⊕ Int64) :=
  ml (v6.toInt64) fun x12 =>
  Mod_leastSet_66 v0 v1 x12 v5
noncomputable def Mod_leastSet_7_b (v0 : Nat) (v1 : Int64) (v3 : Int64) (v5 : Int32) : MM ((Int64 × Int32) ⊕ Int64) :=
  mb (gI ZF 12 40 v0) fun x3 =>
  if x3 ≤ v5 then
  mr (
  mp v3)
  else
  mb (gR ZF 12 39 v0) fun x4 =>
  mb (aI ZF 23 x4 v5) fun x5 =>
  mb (vc ZF 12 v0 (Mod_asActs v0 x5)) fun r6 =>
  mb (gR ZF 12 28 v0) fun x7 =>
  mb (gR ZF 12 39 v0) fun x8 =>
  mb (aI ZF 23 x8 v5) fun x9 =>
  mb (aL ZF x7 x9) fun x10 =>
  if x10 = v1 then
  if v3 = ((-1) : Int64) then
  Mod_leastSet_62 v0 v1 v5 r6
  else
  if v3 ≤ (r6.toInt64) then
  Mod_leastSet_66 v0 v1 v3 v5
  else
  Mod_leastSet_62 v0 v1 v5 r6
  else
  Mod_leastSet_66 v0 v1 v3 v5
noncomputable def Mod_leastSet_7 (v0 : Nat) (v1 : Int64) (s : (Int64 × Int32)) : MM Int64 := lo (fun (s : (Int64 × Int32)) => Mod_leastSet_7_b v0 v1 s.1 s.2) s
noncomputable def Mod_leastSet (v0 : Nat) (v1 : Int64) : MM Int64 :=
  ml ((-1) : Int64) fun x1 =>
  ml (0 : Int32) fun x2 =>
  Mod_leastSet_7 v0 v1 (x1, x2)
set_option maxRecDepth 20000 in
theorem sm_Mod_leastSet_66 {G : GT} {ad : Nat → Nat} {K : Int64 → Dm → Prop} (C : Cx G rm_Mod_leastSet cX11_leastSet 7 RX11) (hV : Vx G rm_Mod_leastSet ad ZF (0, 0)) (hR : RtL G rm_Mod_leastSet ad ZF (0, 0) cX11_leastSet K) (v0 : Nat) (v1 : Int64) (v3 : Int64) (v5 : Int32) : Sm G rm_Mod_leastSet ad ZF (0, 0) (lpK G rm_Mod_leastSet ad ZF (0, 0) 7 (fun (s : (Int64 × Int32)) => [(0, .ref v0), (1, .long v1), (3, .long s.1), (5, .int s.2)]) K) 66 [(0, .ref v0), (1, .long v1), (3, .long v3), (5, .int v5)] [] (Mod_leastSet_66 v0 v1 v3 v5) := by
  unfold Mod_leastSet_66
  refine s_iinc C (L' := fun x11 => [(5, .int x11), (0, .ref v0), (1, .long v1), (3, .long v3)]) (1 : Int32) (by decide) rfl (by decide) (fun _ => rfl) dX11_leastSet_66 (fun x11 => ?_)
  refine s_goto C 7 (by decide) dX11_leastSet_69 ?_
  exact s_back [0, 1, 3, 5] (v3, x11) rfl
set_option maxRecDepth 20000 in
theorem sm_Mod_leastSet_62 {G : GT} {ad : Nat → Nat} {K : Int64 → Dm → Prop} (C : Cx G rm_Mod_leastSet cX11_leastSet 7 RX11) (hV : Vx G rm_Mod_leastSet ad ZF (0, 0)) (hR : RtL G rm_Mod_leastSet ad ZF (0, 0) cX11_leastSet K) (v0 : Nat) (v1 : Int64) (v5 : Int32) (v6 : Int32) : Sm G rm_Mod_leastSet ad ZF (0, 0) (lpK G rm_Mod_leastSet ad ZF (0, 0) 7 (fun (s : (Int64 × Int32)) => [(0, .ref v0), (1, .long v1), (3, .long s.1), (5, .int s.2)]) K) 62 [(0, .ref v0), (1, .long v1), (5, .int v5), (6, .int v6)] [] (Mod_leastSet_62 v0 v1 v5 v6) := by
  unfold Mod_leastSet_62
  refine s_iload C rfl dX11_leastSet_62 ?_
  refine s_i2l C dX11_leastSet_64 ?_
  refine s_letl (fun x12 => ?_)
  refine s_lstore_n C (L' := [(3, .long x12), (0, .ref v0), (1, .long v1), (5, .int v5), (6, .int v6)]) (by decide) rfl dX11_leastSet_65 ?_
  exact s_weak [0, 1, 3, 5] rfl (sm_Mod_leastSet_66 C hV hR v0 v1 x12 v5)
set_option maxRecDepth 20000 in
theorem sm_Mod_leastSet_7_b {G : GT} {ad : Nat → Nat} {K : Int64 → Dm → Prop} (C : Cx G rm_Mod_leastSet cX11_leastSet 7 RX11) (hV : Vx G rm_Mod_leastSet ad ZF (0, 0)) (hR : RtL G rm_Mod_leastSet ad ZF (0, 0) cX11_leastSet K) (v0 : Nat) (v1 : Int64) (v3 : Int64) (v5 : Int32) : Sm G rm_Mod_leastSet ad ZF (0, 0) (lpK G rm_Mod_leastSet ad ZF (0, 0) 7 (fun (s : (Int64 × Int32)) => [(0, .ref v0), (1, .long v1), (3, .long s.1), (5, .int s.2)]) K) 7 [(0, .ref v0), (1, .long v1), (3, .long v3), (5, .int v5)] [] (Mod_leastSet_7_b v0 v1 v3 v5) := by
  unfold Mod_leastSet_7_b
  refine s_iload C rfl dX11_leastSet_7 ?_
  refine s_aload_n C rfl dX11_leastSet_9 ?_
  refine s_getI C hV fl_X11_248 (fun _ _ _ => rfl) dX11_leastSet_10 (fun x3 => ?_)
  refine s_icmp_ge C 72 (by decide) dX11_leastSet_13 ?_ ?_
  · refine s_exit ?_
    refine s_lload_n C rfl dX11_leastSet_72 ?_
    exact s_lret hR dX11_leastSet_73
  · refine s_aload_n C rfl dX11_leastSet_16 ?_
    refine s_aload_n C rfl dX11_leastSet_17 ?_
    refine s_getR C hV fl_X11_83 (fun _ _ _ => rfl) dX11_leastSet_18 (fun x4 => ?_)
    refine s_iload C rfl dX11_leastSet_21 ?_
    refine s_iaload C hV dX11_leastSet_23 (fun x5 => ?_)
    refine s_wI C hV lv_X11_229 (st := []) (met_Mod_asActs v0 x5) rf_Mod_leastSet_Mod_asActs rfl rfl (Nat.le_of_ble_eq_true rfl) dX11_leastSet_24 (fun r6 => ?_)
    refine s_istore C (L' := [(6, .int r6), (0, .ref v0), (1, .long v1), (3, .long v3), (5, .int v5)]) (by decide) rfl dX11_leastSet_27 ?_
    refine s_aload_n C rfl dX11_leastSet_29 ?_
    refine s_getR C hV fl_X11_58 (fun _ _ _ => rfl) dX11_leastSet_30 (fun x7 => ?_)
    refine s_aload_n C rfl dX11_leastSet_33 ?_
    refine s_getR C hV fl_X11_83 (fun _ _ _ => rfl) dX11_leastSet_34 (fun x8 => ?_)
    refine s_iload C rfl dX11_leastSet_37 ?_
    refine s_iaload C hV dX11_leastSet_39 (fun x9 => ?_)
    refine s_laload C hV dX11_leastSet_40 (fun x10 => ?_)
    refine s_lload_n C rfl dX11_leastSet_41 ?_
    refine s_lcmp_ne C 66 (by decide) dX11_leastSet_42 dX11_leastSet_43 ?_ ?_
    · exact s_weak [0, 1, 3, 5] rfl (sm_Mod_leastSet_66 C hV hR v0 v1 v3 v5)
    · refine s_lload_n C rfl dX11_leastSet_46 ?_
      refine s_ldc2 C kl_X11_221 dX11_leastSet_47 ?_
      refine s_lcmp_eq C 62 (by decide) dX11_leastSet_50 dX11_leastSet_51 ?_ ?_
      · exact s_weak [0, 1, 5, 6] rfl (sm_Mod_leastSet_62 C hV hR v0 v1 v5 r6)
      · refine s_iload C rfl dX11_leastSet_54 ?_
        refine s_i2l C dX11_leastSet_56 ?_
        refine s_lload_n C rfl dX11_leastSet_57 ?_
        refine s_lcmp_ge C 66 (by decide) dX11_leastSet_58 dX11_leastSet_59 ?_ ?_
        · exact s_weak [0, 1, 3, 5] rfl (sm_Mod_leastSet_66 C hV hR v0 v1 v3 v5)
        · exact s_weak [0, 1, 5, 6] rfl (sm_Mod_leastSet_62 C hV hR v0 v1 v5 r6)
set_option maxRecDepth 20000 in
theorem sm_Mod_leastSet_7 {G : GT} {ad : Nat → Nat} {K : Int64 → Dm → Prop} (C : Cx G rm_Mod_leastSet cX11_leastSet 7 RX11) (hV : Vx G rm_Mod_leastSet ad ZF (0, 0)) (hR : RtL G rm_Mod_leastSet ad ZF (0, 0) cX11_leastSet K) (v0 : Nat) (v1 : Int64) (s : (Int64 × Int32)) : Sm G rm_Mod_leastSet ad ZF (0, 0) K 7 ((fun (s : (Int64 × Int32)) => [(0, .ref v0), (1, .long v1), (3, .long s.1), (5, .int s.2)]) s) [] (Mod_leastSet_7 v0 v1 s) :=
  s_loop (en := (fun (s : (Int64 × Int32)) => [(0, .ref v0), (1, .long v1), (3, .long s.1), (5, .int s.2)])) (fun s => sm_Mod_leastSet_7_b C hV hR v0 v1 s.1 s.2) s
set_option maxRecDepth 20000 in
theorem sm_Mod_leastSet {G : GT} {ad : Nat → Nat} {K : Int64 → Dm → Prop} (C : Cx G rm_Mod_leastSet cX11_leastSet 7 RX11) (hV : Vx G rm_Mod_leastSet ad ZF (0, 0)) (hR : RtL G rm_Mod_leastSet ad ZF (0, 0) cX11_leastSet K) (v0 : Nat) (v1 : Int64) : Sm G rm_Mod_leastSet ad ZF (0, 0) K 0 [(0, .ref v0), (1, .long v1)] [] (Mod_leastSet v0 v1) := by
  unfold Mod_leastSet
  refine s_ldc2 C kl_X11_221 dX11_leastSet_0 ?_
  refine s_letl (fun x1 => ?_)
  refine s_lstore_n C (L' := [(3, .long x1), (0, .ref v0), (1, .long v1)]) (by decide) rfl dX11_leastSet_3 ?_
  refine s_iconst C (0 : Int32) (by decide) dX11_leastSet_4 ?_
  refine s_leti (fun x2 => ?_)
  refine s_istore C (L' := [(5, .int x2), (3, .long x1), (0, .ref v0), (1, .long v1)]) (by decide) rfl dX11_leastSet_5 ?_
  exact s_weak [0, 1, 3, 5] rfl (sm_Mod_leastSet_7 C hV hR v0 v1 (x1, x2))
set_option maxRecDepth 20000 in
theorem met_Mod_leastSet (v0 : Nat) (v1 : Int64) : ML ZF yX11_leastSet cX11_leastSet 7 rm_Mod_leastSet [.ref v0, .long v1] (Mod_leastSet v0 v1) :=
  ml_of (L0 := [(0, .ref v0), (1, .long v1)]) (by decide +kernel) (Nat.le_of_ble_eq_true rfl) rfl (fun G ad K C hV hR => sm_Mod_leastSet C hV hR v0 v1)

noncomputable def Mod_shortest_37_b (v0 : Nat) (v1 : Int32) (v2 : Int32) (v3 : Int32) (v4 : Int32) : MM (Int32 ⊕ (Int32 ⊕ Int64)) :=
  mb (gI ZF 12 42 v0) fun x6 =>
  if x6 ≤ v4 then
  mr (
  ml (v2 + (1 : Int32)) fun x7 =>
  mp (.inl x7))
  else
  mb (gR ZF 12 41 v0) fun x8 =>
  mb (aI ZF 23 x8 v4) fun x9 =>
  mb (vc ZF 12 v0 (Mod_isBroken v0 x9 v3)) fun r10 =>
  if r10 = 0 then
  ml (v4 + (1 : Int32)) fun x11 =>
  mp (.inl x11)
  else
  mr (
mr (
  if v1 = 0 then
  mp (v2.toInt64)
  else
  if v1 = (1 : Int32) then
  mb (gR ZF 12 28 v0) fun x21 =>
  mb (gR ZF 12 41 v0) fun x22 =>
  mb (aI ZF 23 x22 v4) fun x23 =>
  mb (aL ZF x21 x23) fun x24 =>
  mp x24
  else
  if v1 = (2 : Int32) then
  mb (gR ZF 12 28 v0) fun x16 =>
  mb (gR ZF 12 41 v0) fun x17 =>
  mb (aI ZF 23 x17 v4) fun x18 =>
  mb (aL ZF x16 x18) fun x19 =>
  mb (vc ZF 12 v0 (Mod_leastSet v0 x19)) fun r20 =>
  mp r20
  else
  mb (gR ZF 12 29 v0) fun x12 =>
  mb (gR ZF 12 41 v0) fun x13 =>
  mb (aI ZF 23 x13 v4) fun x14 =>
  mb (aL ZF x12 x14) fun x15 =>
  mp x15))
noncomputable def Mod_shortest_37 (v0 : Nat) (v1 : Int32) (v2 : Int32) (v3 : Int32) (s : Int32) : MM (Int32 ⊕ Int64) := lo (fun (s : Int32) => Mod_shortest_37_b v0 v1 v2 v3 s) s
noncomputable def Mod_shortest_15_b (v0 : Nat) (v1 : Int32) (v2 : Int32) : MM (Int32 ⊕ Int64) :=
  mb (gI ZF 12 1 v0) fun x3 =>
  if x3 < v2 then
  mr (
  mp ((-1) : Int64))
  else
  mb (vc ZF 12 v0 (Mod_findPlates v0 v2)) fun _ =>
  mb (vc ZF 12 v0 (Mod_dueAt v0 v2)) fun r4 =>
  ml (0 : Int32) fun x5 =>
  Mod_shortest_37 v0 v1 v2 r4 x5
noncomputable def Mod_shortest_15 (v0 : Nat) (v1 : Int32) (s : Int32) : MM Int64 := lo (fun (s : Int32) => Mod_shortest_15_b v0 v1 s) s
noncomputable def Mod_shortest (v0 : Nat) (v1 : Int32) : MM Int64 :=
  mb ((Mod_in v1 (0 : Int32) (3 : Int32))) fun r1 =>
  if r1 = 0 then
  mp ((-2) : Int64)
  else
  ml (0 : Int32) fun x2 =>
  Mod_shortest_15 v0 v1 x2
set_option maxRecDepth 20000 in
theorem sm_Mod_shortest_37_b {G : GT} {ad : Nat → Nat} {K : Int64 → Dm → Prop} (C : Cx G rm_Mod_shortest cX11_shortest 5 RX11) (hV : Vx G rm_Mod_shortest ad ZF (0, 0)) (hR : RtL G rm_Mod_shortest ad ZF (0, 0) cX11_shortest K) (v0 : Nat) (v1 : Int32) (v2 : Int32) (v3 : Int32) (v4 : Int32) : Sm G rm_Mod_shortest ad ZF (0, 0) (lpK G rm_Mod_shortest ad ZF (0, 0) 37 (fun (s : Int32) => [(0, .ref v0), (1, .int v1), (2, .int v2), (3, .int v3), (4, .int s)]) (lpK G rm_Mod_shortest ad ZF (0, 0) 15 (fun (s : Int32) => [(0, .ref v0), (1, .int v1), (2, .int s)]) K)) 37 [(0, .ref v0), (1, .int v1), (2, .int v2), (3, .int v3), (4, .int v4)] [] (Mod_shortest_37_b v0 v1 v2 v3 v4) := by
  unfold Mod_shortest_37_b
  refine s_iload C rfl dX11_shortest_37 ?_
  refine s_aload_n C rfl dX11_shortest_39 ?_
  refine s_getI C hV fl_X11_270 (fun _ _ _ => rfl) dX11_shortest_40 (fun x6 => ?_)
  refine s_icmp_ge C 133 (by decide) dX11_shortest_43 ?_ ?_
  · refine s_exit ?_
    refine s_iinc C (L' := fun x7 => [(2, .int x7), (0, .ref v0), (1, .int v1), (3, .int v3), (4, .int v4)]) (1 : Int32) (by decide) rfl (by decide) (fun _ => rfl) dX11_shortest_133 (fun x7 => ?_)
    refine s_goto C 15 (by decide) dX11_shortest_136 ?_
    exact s_back [0, 1, 2] x7 rfl
  · refine s_aload_n C rfl dX11_shortest_46 ?_
    refine s_aload_n C rfl dX11_shortest_47 ?_
    refine s_getR C hV fl_X11_86 (fun _ _ _ => rfl) dX11_shortest_48 (fun x8 => ?_)
    refine s_iload C rfl dX11_shortest_51 ?_
    refine s_iaload C hV dX11_shortest_53 (fun x9 => ?_)
    refine s_iload_n C rfl dX11_shortest_54 ?_
    refine s_wI C hV lv_X11_260 (st := []) (met_Mod_isBroken v0 x9 v3) rf_Mod_shortest_Mod_isBroken rfl rfl (Nat.le_of_ble_eq_true rfl) dX11_shortest_55 (fun r10 => ?_)
    refine s_if_eq C 127 (by decide) dX11_shortest_58 ?_ ?_
    · refine s_iinc C (L' := fun x11 => [(4, .int x11), (0, .ref v0), (1, .int v1), (2, .int v2), (3, .int v3)]) (1 : Int32) (by decide) rfl (by decide) (fun _ => rfl) dX11_shortest_127 (fun x11 => ?_)
      refine s_goto C 37 (by decide) dX11_shortest_130 ?_
      exact s_back [0, 1, 2, 3, 4] x11 rfl
    · refine s_exit ?_
      refine s_exit ?_
      refine s_iload_n C rfl dX11_shortest_61 ?_
      refine s_if_ne C 70 (by decide) dX11_shortest_62 ?_ ?_
      · refine s_iload_n C rfl dX11_shortest_70 ?_
        refine s_iconst C (1 : Int32) (by decide) dX11_shortest_71 ?_
        refine s_icmp_ne C 90 (by decide) dX11_shortest_72 ?_ ?_
        · refine s_iload_n C rfl dX11_shortest_90 ?_
          refine s_iconst C (2 : Int32) (by decide) dX11_shortest_91 ?_
          refine s_icmp_ne C 114 (by decide) dX11_shortest_92 ?_ ?_
          · refine s_aload_n C rfl dX11_shortest_114 ?_
            refine s_getR C hV fl_X11_62 (fun _ _ _ => rfl) dX11_shortest_115 (fun x12 => ?_)
            refine s_aload_n C rfl dX11_shortest_118 ?_
            refine s_getR C hV fl_X11_86 (fun _ _ _ => rfl) dX11_shortest_119 (fun x13 => ?_)
            refine s_iload C rfl dX11_shortest_122 ?_
            refine s_iaload C hV dX11_shortest_124 (fun x14 => ?_)
            refine s_laload C hV dX11_shortest_125 (fun x15 => ?_)
            exact s_lret hR dX11_shortest_126
          · refine s_aload_n C rfl dX11_shortest_95 ?_
            refine s_aload_n C rfl dX11_shortest_96 ?_
            refine s_getR C hV fl_X11_58 (fun _ _ _ => rfl) dX11_shortest_97 (fun x16 => ?_)
            refine s_aload_n C rfl dX11_shortest_100 ?_
            refine s_getR C hV fl_X11_86 (fun _ _ _ => rfl) dX11_shortest_101 (fun x17 => ?_)
            refine s_iload C rfl dX11_shortest_104 ?_
            refine s_iaload C hV dX11_shortest_106 (fun x18 => ?_)
            refine s_laload C hV dX11_shortest_107 (fun x19 => ?_)
            refine s_wL C hV lv_X11_279 (st := []) (met_Mod_leastSet v0 x19) rf_Mod_shortest_Mod_leastSet rfl rfl (Nat.le_of_ble_eq_true rfl) dX11_shortest_108 (fun r20 => ?_)
            refine s_goto C 126 (by decide) dX11_shortest_111 ?_
            exact s_lret hR dX11_shortest_126
        · refine s_aload_n C rfl dX11_shortest_75 ?_
          refine s_getR C hV fl_X11_58 (fun _ _ _ => rfl) dX11_shortest_76 (fun x21 => ?_)
          refine s_aload_n C rfl dX11_shortest_79 ?_
          refine s_getR C hV fl_X11_86 (fun _ _ _ => rfl) dX11_shortest_80 (fun x22 => ?_)
          refine s_iload C rfl dX11_shortest_83 ?_
          refine s_iaload C hV dX11_shortest_85 (fun x23 => ?_)
          refine s_laload C hV dX11_shortest_86 (fun x24 => ?_)
          refine s_goto C 126 (by decide) dX11_shortest_87 ?_
          exact s_lret hR dX11_shortest_126
      · refine s_iload_n C rfl dX11_shortest_65 ?_
        refine s_i2l C dX11_shortest_66 ?_
        refine s_goto C 126 (by decide) dX11_shortest_67 ?_
        exact s_lret hR dX11_shortest_126
set_option maxRecDepth 20000 in
theorem sm_Mod_shortest_37 {G : GT} {ad : Nat → Nat} {K : Int64 → Dm → Prop} (C : Cx G rm_Mod_shortest cX11_shortest 5 RX11) (hV : Vx G rm_Mod_shortest ad ZF (0, 0)) (hR : RtL G rm_Mod_shortest ad ZF (0, 0) cX11_shortest K) (v0 : Nat) (v1 : Int32) (v2 : Int32) (v3 : Int32) (s : Int32) : Sm G rm_Mod_shortest ad ZF (0, 0) (lpK G rm_Mod_shortest ad ZF (0, 0) 15 (fun (s : Int32) => [(0, .ref v0), (1, .int v1), (2, .int s)]) K) 37 ((fun (s : Int32) => [(0, .ref v0), (1, .int v1), (2, .int v2), (3, .int v3), (4, .int s)]) s) [] (Mod_shortest_37 v0 v1 v2 v3 s) :=
  s_loop (en := (fun (s : Int32) => [(0, .ref v0), (1, .int v1), (2, .int v2), (3, .int v3), (4, .int s)])) (fun s => sm_Mod_shortest_37_b C hV hR v0 v1 v2 v3 s) s
set_option maxRecDepth 20000 in
theorem sm_Mod_shortest_15_b {G : GT} {ad : Nat → Nat} {K : Int64 → Dm → Prop} (C : Cx G rm_Mod_shortest cX11_shortest 5 RX11) (hV : Vx G rm_Mod_shortest ad ZF (0, 0)) (hR : RtL G rm_Mod_shortest ad ZF (0, 0) cX11_shortest K) (v0 : Nat) (v1 : Int32) (v2 : Int32) : Sm G rm_Mod_shortest ad ZF (0, 0) (lpK G rm_Mod_shortest ad ZF (0, 0) 15 (fun (s : Int32) => [(0, .ref v0), (1, .int v1), (2, .int s)]) K) 15 [(0, .ref v0), (1, .int v1), (2, .int v2)] [] (Mod_shortest_15_b v0 v1 v2) := by
  unfold Mod_shortest_15_b
  refine s_iload_n C rfl dX11_shortest_15 ?_
  refine s_aload_n C rfl dX11_shortest_16 ?_
  refine s_getI C hV fl_X11_104 (fun _ _ _ => rfl) dX11_shortest_17 (fun x3 => ?_)
  refine s_icmp_gt C 139 (by decide) dX11_shortest_20 ?_ ?_
  · refine s_exit ?_
    refine s_ldc2 C kl_X11_221 dX11_shortest_139 ?_
    exact s_lret hR dX11_shortest_142
  · refine s_aload_n C rfl dX11_shortest_23 ?_
    refine s_iload_n C rfl dX11_shortest_24 ?_
    refine s_wV C hV lv_X11_273 (st := []) (met_Mod_findPlates v0 v2) rf_Mod_shortest_Mod_findPlates rfl rfl (Nat.le_of_ble_eq_true rfl) dX11_shortest_25 ?_
    refine s_aload_n C rfl dX11_shortest_28 ?_
    refine s_iload_n C rfl dX11_shortest_29 ?_
    refine s_wI C hV lv_X11_254 (st := []) (met_Mod_dueAt v0 v2) rf_Mod_shortest_Mod_dueAt rfl rfl (Nat.le_of_ble_eq_true rfl) dX11_shortest_30 (fun r4 => ?_)
    refine s_istore_n C (L' := [(3, .int r4), (0, .ref v0), (1, .int v1), (2, .int v2)]) (by decide) rfl dX11_shortest_33 ?_
    refine s_iconst C (0 : Int32) (by decide) dX11_shortest_34 ?_
    refine s_leti (fun x5 => ?_)
    refine s_istore C (L' := [(4, .int x5), (3, .int r4), (0, .ref v0), (1, .int v1), (2, .int v2)]) (by decide) rfl dX11_shortest_35 ?_
    exact s_weak [0, 1, 2, 3, 4] rfl (sm_Mod_shortest_37 C hV hR v0 v1 v2 r4 x5)
set_option maxRecDepth 20000 in
theorem sm_Mod_shortest_15 {G : GT} {ad : Nat → Nat} {K : Int64 → Dm → Prop} (C : Cx G rm_Mod_shortest cX11_shortest 5 RX11) (hV : Vx G rm_Mod_shortest ad ZF (0, 0)) (hR : RtL G rm_Mod_shortest ad ZF (0, 0) cX11_shortest K) (v0 : Nat) (v1 : Int32) (s : Int32) : Sm G rm_Mod_shortest ad ZF (0, 0) K 15 ((fun (s : Int32) => [(0, .ref v0), (1, .int v1), (2, .int s)]) s) [] (Mod_shortest_15 v0 v1 s) :=
  s_loop (en := (fun (s : Int32) => [(0, .ref v0), (1, .int v1), (2, .int s)])) (fun s => sm_Mod_shortest_15_b C hV hR v0 v1 s) s
set_option maxRecDepth 20000 in
theorem sm_Mod_shortest {G : GT} {ad : Nat → Nat} {K : Int64 → Dm → Prop} (C : Cx G rm_Mod_shortest cX11_shortest 5 RX11) (hV : Vx G rm_Mod_shortest ad ZF (0, 0)) (hR : RtL G rm_Mod_shortest ad ZF (0, 0) cX11_shortest K) (v0 : Nat) (v1 : Int32) : Sm G rm_Mod_shortest ad ZF (0, 0) K 0 [(0, .ref v0), (1, .int v1)] [] (Mod_shortest v0 v1) := by
  unfold Mod_shortest
  refine s_iload_n C rfl dX11_shortest_0 ?_
  refine s_iconst C (0 : Int32) (by decide) dX11_shortest_1 ?_
  refine s_iconst C (3 : Int32) (by decide) dX11_shortest_2 ?_
  refine s_uI C hV ls_X11_89 (st := []) (met_Mod_in v1 (0 : Int32) (3 : Int32)) rf_Mod_shortest_Mod_in rfl rfl (Nat.le_of_ble_eq_true rfl) dX11_shortest_3 (fun r1 => ?_)
  refine s_if_ne C 13 (by decide) dX11_shortest_6 ?_ ?_
  · refine s_iconst C (0 : Int32) (by decide) dX11_shortest_13 ?_
    refine s_leti (fun x2 => ?_)
    refine s_istore_n C (L' := [(2, .int x2), (0, .ref v0), (1, .int v1)]) (by decide) rfl dX11_shortest_14 ?_
    exact s_weak [0, 1, 2] rfl (sm_Mod_shortest_15 C hV hR v0 v1 x2)
  · refine s_ldc2 C kl_X11_219 dX11_shortest_9 ?_
    exact s_lret hR dX11_shortest_12
set_option maxRecDepth 20000 in
theorem met_Mod_shortest (v0 : Nat) (v1 : Int32) : ML ZF yX11_shortest cX11_shortest 5 rm_Mod_shortest [.ref v0, .int v1] (Mod_shortest v0 v1) :=
  ml_of (L0 := [(0, .ref v0), (1, .int v1)]) (by decide +kernel) (Nat.le_of_ble_eq_true rfl) rfl (fun G ad K C hV hR => sm_Mod_shortest C hV hR v0 v1)

noncomputable def Mod_cost_80 (v3 : Int32) (t0 : Nat) (t1 : Int32) : MM Int32 :=
  mb (pI ZF 12 14 t0 t1) fun _ =>
  mp v3
noncomputable def Mod_cost_63 (v0 : Nat) (v1 : Int32) (v2 : Int32) (v3 : Int32) (t0 : Nat) (t1 : Int32) : MM Int32 :=
  mb (pI ZF 12 13 t0 t1) fun _ =>
  if v1 = (1 : Int32) then
  Mod_cost_80 v3 v0 v2
  else
  mb (gI ZF 12 14 v0) fun x5 =>
  Mod_cost_80 v3 v0 x5
noncomputable def Mod_cost_49 (v0 : Nat) (v1 : Int32) (v2 : Int32) (t0 : Int32) : MM Int32 :=
  if v1 = 0 then
  Mod_cost_63 v0 v1 v2 t0 v0 v2
  else
  mb (gI ZF 12 13 v0) fun x4 =>
  Mod_cost_63 v0 v1 v2 t0 v0 x4
noncomputable def Mod_cost_25 (v0 : Nat) (v1 : Int32) (v2 : Int32) (t0 : Int32) (t1 : Int32) (t2 : Int32) : MM Int32 :=
  mb ((Mod_in t0 t1 t2)) fun r2 =>
  if r2 = 0 then
  mp ((-102) : Int32)
  else
  if v1 = 0 then
  mb (gI ZF 12 13 v0) fun x6 =>
  Mod_cost_49 v0 v1 v2 x6
  else
  mb (gI ZF 12 14 v0) fun x3 =>
  Mod_cost_49 v0 v1 v2 x3
noncomputable def Mod_cost (v0 : Nat) (v1 : Int32) (v2 : Int32) : MM Int32 :=
  mb ((Mod_in v1 (0 : Int32) (1 : Int32))) fun r1 =>
  if r1 = 0 then
  mp ((-101) : Int32)
  else
  Mod_cost_25 v0 v1 v2 v2 (1 : Int32) (if v1 = 0 then (9 : Int32) else (99 : Int32))
set_option maxRecDepth 20000 in
theorem sm_Mod_cost_80 {G : GT} {ad : Nat → Nat} {K : Int32 → Dm → Prop} (C : Cx G rm_Mod_cost cX11_cost 4 RX11) (hV : Vx G rm_Mod_cost ad ZF (0, 0)) (hR : RtI G rm_Mod_cost ad ZF (0, 0) cX11_cost .int K) (v3 : Int32) (t0 : Nat) (t1 : Int32) : Sm G rm_Mod_cost ad ZF (0, 0) K 80 [(3, .int v3)] [.int t1, .ref t0] (Mod_cost_80 v3 t0 t1) := by
  unfold Mod_cost_80
  refine s_putI C hV fw_X11_43 rfl dX11_cost_80 ?_
  refine s_iload_n C rfl dX11_cost_83 ?_
  exact s_ireti hR dX11_cost_84
set_option maxRecDepth 20000 in
theorem sm_Mod_cost_63 {G : GT} {ad : Nat → Nat} {K : Int32 → Dm → Prop} (C : Cx G rm_Mod_cost cX11_cost 4 RX11) (hV : Vx G rm_Mod_cost ad ZF (0, 0)) (hR : RtI G rm_Mod_cost ad ZF (0, 0) cX11_cost .int K) (v0 : Nat) (v1 : Int32) (v2 : Int32) (v3 : Int32) (t0 : Nat) (t1 : Int32) : Sm G rm_Mod_cost ad ZF (0, 0) K 63 [(0, .ref v0), (1, .int v1), (2, .int v2), (3, .int v3)] [.int t1, .ref t0] (Mod_cost_63 v0 v1 v2 v3 t0 t1) := by
  unfold Mod_cost_63
  refine s_putI C hV fw_X11_39 rfl dX11_cost_63 ?_
  refine s_aload_n C rfl dX11_cost_66 ?_
  refine s_iload_n C rfl dX11_cost_67 ?_
  refine s_iconst C (1 : Int32) (by decide) dX11_cost_68 ?_
  refine s_icmp_ne C 76 (by decide) dX11_cost_69 ?_ ?_
  · refine s_aload_n C rfl dX11_cost_76 ?_
    refine s_getI C hV fl_X11_43 (fun _ _ _ => rfl) dX11_cost_77 (fun x5 => ?_)
    exact s_weak [3] rfl (sm_Mod_cost_80 C hV hR v3 v0 x5)
  · refine s_iload_n C rfl dX11_cost_72 ?_
    refine s_goto C 80 (by decide) dX11_cost_73 ?_
    exact s_weak [3] rfl (sm_Mod_cost_80 C hV hR v3 v0 v2)
set_option maxRecDepth 20000 in
theorem sm_Mod_cost_49 {G : GT} {ad : Nat → Nat} {K : Int32 → Dm → Prop} (C : Cx G rm_Mod_cost cX11_cost 4 RX11) (hV : Vx G rm_Mod_cost ad ZF (0, 0)) (hR : RtI G rm_Mod_cost ad ZF (0, 0) cX11_cost .int K) (v0 : Nat) (v1 : Int32) (v2 : Int32) (t0 : Int32) : Sm G rm_Mod_cost ad ZF (0, 0) K 49 [(0, .ref v0), (1, .int v1), (2, .int v2)] [.int t0] (Mod_cost_49 v0 v1 v2 t0) := by
  unfold Mod_cost_49
  refine s_istore_n C (L' := [(3, .int t0), (0, .ref v0), (1, .int v1), (2, .int v2)]) (by decide) rfl dX11_cost_49 ?_
  refine s_aload_n C rfl dX11_cost_50 ?_
  refine s_iload_n C rfl dX11_cost_51 ?_
  refine s_if_ne C 59 (by decide) dX11_cost_52 ?_ ?_
  · refine s_aload_n C rfl dX11_cost_59 ?_
    refine s_getI C hV fl_X11_39 (fun _ _ _ => rfl) dX11_cost_60 (fun x4 => ?_)
    exact s_weak [0, 1, 2, 3] rfl (sm_Mod_cost_63 C hV hR v0 v1 v2 t0 v0 x4)
  · refine s_iload_n C rfl dX11_cost_55 ?_
    refine s_goto C 63 (by decide) dX11_cost_56 ?_
    exact s_weak [0, 1, 2, 3] rfl (sm_Mod_cost_63 C hV hR v0 v1 v2 t0 v0 v2)
set_option maxRecDepth 20000 in
theorem sm_Mod_cost_25 {G : GT} {ad : Nat → Nat} {K : Int32 → Dm → Prop} (C : Cx G rm_Mod_cost cX11_cost 4 RX11) (hV : Vx G rm_Mod_cost ad ZF (0, 0)) (hR : RtI G rm_Mod_cost ad ZF (0, 0) cX11_cost .int K) (v0 : Nat) (v1 : Int32) (v2 : Int32) (t0 : Int32) (t1 : Int32) (t2 : Int32) : Sm G rm_Mod_cost ad ZF (0, 0) K 25 [(0, .ref v0), (1, .int v1), (2, .int v2)] [.int t2, .int t1, .int t0] (Mod_cost_25 v0 v1 v2 t0 t1 t2) := by
  unfold Mod_cost_25
  refine s_uI C hV ls_X11_89 (st := []) (met_Mod_in t0 t1 t2) rf_Mod_cost_Mod_in rfl rfl (Nat.le_of_ble_eq_true rfl) dX11_cost_25 (fun r2 => ?_)
  refine s_if_ne C 34 (by decide) dX11_cost_28 ?_ ?_
  · refine s_iload_n C rfl dX11_cost_34 ?_
    refine s_if_ne C 45 (by decide) dX11_cost_35 ?_ ?_
    · refine s_aload_n C rfl dX11_cost_45 ?_
      refine s_getI C hV fl_X11_43 (fun _ _ _ => rfl) dX11_cost_46 (fun x3 => ?_)
      exact s_weak [0, 1, 2] rfl (sm_Mod_cost_49 C hV hR v0 v1 v2 x3)
    · refine s_aload_n C rfl dX11_cost_38 ?_
      refine s_getI C hV fl_X11_39 (fun _ _ _ => rfl) dX11_cost_39 (fun x6 => ?_)
      refine s_goto C 49 (by decide) dX11_cost_42 ?_
      exact s_weak [0, 1, 2] rfl (sm_Mod_cost_49 C hV hR v0 v1 v2 x6)
  · refine s_bipush C ((-102) : Int32) (by decide) dX11_cost_31 ?_
    exact s_ireti hR dX11_cost_33
set_option maxRecDepth 20000 in
theorem sm_Mod_cost {G : GT} {ad : Nat → Nat} {K : Int32 → Dm → Prop} (C : Cx G rm_Mod_cost cX11_cost 4 RX11) (hV : Vx G rm_Mod_cost ad ZF (0, 0)) (hR : RtI G rm_Mod_cost ad ZF (0, 0) cX11_cost .int K) (v0 : Nat) (v1 : Int32) (v2 : Int32) : Sm G rm_Mod_cost ad ZF (0, 0) K 0 [(0, .ref v0), (1, .int v1), (2, .int v2)] [] (Mod_cost v0 v1 v2) := by
  unfold Mod_cost
  refine s_iload_n C rfl dX11_cost_0 ?_
  refine s_iconst C (0 : Int32) (by decide) dX11_cost_1 ?_
  refine s_iconst C (1 : Int32) (by decide) dX11_cost_2 ?_
  refine s_uI C hV ls_X11_89 (st := []) (met_Mod_in v1 (0 : Int32) (1 : Int32)) rf_Mod_cost_Mod_in rfl rfl (Nat.le_of_ble_eq_true rfl) dX11_cost_3 (fun r1 => ?_)
  refine s_if_ne C 12 (by decide) dX11_cost_6 ?_ ?_
  · refine s_iload_n C rfl dX11_cost_12 ?_
    refine s_iconst C (1 : Int32) (by decide) dX11_cost_13 ?_
    refine s_iload_n C rfl dX11_cost_14 ?_
    refine s_ite (g := fun z => Mod_cost_25 v0 v1 v2 v2 (1 : Int32) z) ?_
    refine s_if_ne C 23 (by decide) dX11_cost_15 ?_ ?_
    · refine s_bipush C (99 : Int32) (by decide) dX11_cost_23 ?_
      exact s_weak [0, 1, 2] rfl (sm_Mod_cost_25 C hV hR v0 v1 v2 v2 (1 : Int32) (99 : Int32))
    · refine s_bipush C (9 : Int32) (by decide) dX11_cost_18 ?_
      refine s_goto C 25 (by decide) dX11_cost_20 ?_
      exact s_weak [0, 1, 2] rfl (sm_Mod_cost_25 C hV hR v0 v1 v2 v2 (1 : Int32) (9 : Int32))
  · refine s_bipush C ((-101) : Int32) (by decide) dX11_cost_9 ?_
    exact s_ireti hR dX11_cost_11
set_option maxRecDepth 20000 in
theorem met_Mod_cost (v0 : Nat) (v1 : Int32) (v2 : Int32) : MI ZF yX11_cost cX11_cost 4 .int rm_Mod_cost [.ref v0, .int v1, .int v2] (Mod_cost v0 v1 v2) :=
  mi_of (L0 := [(0, .ref v0), (1, .int v1), (2, .int v2)]) (by decide +kernel) (Nat.le_of_ble_eq_true rfl) rfl (fun G ad K C hV hR => sm_Mod_cost C hV hR v0 v1 v2)

noncomputable def Mod_putBy_13_b (v0 : Nat) (v2 : Int32) (v3 : Int32) : MM ((Int32 × Int32) ⊕ Unit) :=
  if v3 < 0 then
  mr (
  mp ())
  else
  mb (gR ZF 12 35 v0) fun x3 =>
  mb (sI ZF x3 v3 (v2 - v2 / (3 : Int32) * (3 : Int32))) fun _ =>
  ml (v2 / (3 : Int32)) fun x4 =>
  ml (v3 + (-1)) fun x5 =>
  mp (.inl (x4, x5))
noncomputable def Mod_putBy_13 (v0 : Nat) (s : (Int32 × Int32)) : MM Unit := lo (fun (s : (Int32 × Int32)) => Mod_putBy_13_b v0 s.1 s.2) s
noncomputable def Mod_putBy (v0 : Nat) (v1 : Int32) : MM Unit :=
  mb (vc ZF 12 v0 (Mod_putNothing v0)) fun _ =>
  mb (gI ZF 12 1 v0) fun x1 =>
  ml (x1 - (2 : Int32)) fun x2 =>
  Mod_putBy_13 v0 (v1, x2)
set_option maxRecDepth 20000 in
theorem sm_Mod_putBy_13_b {G : GT} {ad : Nat → Nat} {K : Unit → Dm → Prop} (C : Cx G rm_Mod_putBy cX11_putBy 4 RX11) (hV : Vx G rm_Mod_putBy ad ZF (0, 0)) (hR : RtV G rm_Mod_putBy ad ZF (0, 0) cX11_putBy K) (v0 : Nat) (v2 : Int32) (v3 : Int32) : Sm G rm_Mod_putBy ad ZF (0, 0) (lpK G rm_Mod_putBy ad ZF (0, 0) 13 (fun (s : (Int32 × Int32)) => [(0, .ref v0), (2, .int s.1), (3, .int s.2)]) K) 13 [(0, .ref v0), (2, .int v2), (3, .int v3)] [] (Mod_putBy_13_b v0 v2 v3) := by
  unfold Mod_putBy_13_b
  refine s_iload_n C rfl dX11_putBy_13 ?_
  refine s_if_lt C 36 (by decide) dX11_putBy_14 ?_ ?_
  · refine s_exit ?_
    exact s_vret hR dX11_putBy_36
  · refine s_aload_n C rfl dX11_putBy_17 ?_
    refine s_getR C hV fl_X11_77 (fun _ _ _ => rfl) dX11_putBy_18 (fun x3 => ?_)
    refine s_iload_n C rfl dX11_putBy_21 ?_
    refine s_iload_n C rfl dX11_putBy_22 ?_
    refine s_iconst C (3 : Int32) (by decide) dX11_putBy_23 ?_
    refine s_irem C (by decide) dX11_putBy_24 ?_
    refine s_iastore C hV dX11_putBy_25 ?_
    refine s_iload_n C rfl dX11_putBy_26 ?_
    refine s_iconst C (3 : Int32) (by decide) dX11_putBy_27 ?_
    refine s_idiv C (by decide) dX11_putBy_28 ?_
    refine s_leti (fun x4 => ?_)
    refine s_istore_n C (L' := [(2, .int x4), (0, .ref v0), (3, .int v3)]) (by decide) rfl dX11_putBy_29 ?_
    refine s_iinc C (L' := fun x5 => [(3, .int x5), (2, .int x4), (0, .ref v0)]) (-1) (by decide) rfl (by decide) (fun _ => rfl) dX11_putBy_30 (fun x5 => ?_)
    refine s_goto C 13 (by decide) dX11_putBy_33 ?_
    exact s_back [0, 2, 3] (x4, x5) rfl
set_option maxRecDepth 20000 in
theorem sm_Mod_putBy_13 {G : GT} {ad : Nat → Nat} {K : Unit → Dm → Prop} (C : Cx G rm_Mod_putBy cX11_putBy 4 RX11) (hV : Vx G rm_Mod_putBy ad ZF (0, 0)) (hR : RtV G rm_Mod_putBy ad ZF (0, 0) cX11_putBy K) (v0 : Nat) (s : (Int32 × Int32)) : Sm G rm_Mod_putBy ad ZF (0, 0) K 13 ((fun (s : (Int32 × Int32)) => [(0, .ref v0), (2, .int s.1), (3, .int s.2)]) s) [] (Mod_putBy_13 v0 s) :=
  s_loop (en := (fun (s : (Int32 × Int32)) => [(0, .ref v0), (2, .int s.1), (3, .int s.2)])) (fun s => sm_Mod_putBy_13_b C hV hR v0 s.1 s.2) s
set_option maxRecDepth 20000 in
theorem sm_Mod_putBy {G : GT} {ad : Nat → Nat} {K : Unit → Dm → Prop} (C : Cx G rm_Mod_putBy cX11_putBy 4 RX11) (hV : Vx G rm_Mod_putBy ad ZF (0, 0)) (hR : RtV G rm_Mod_putBy ad ZF (0, 0) cX11_putBy K) (v0 : Nat) (v1 : Int32) : Sm G rm_Mod_putBy ad ZF (0, 0) K 0 [(0, .ref v0), (1, .int v1)] [] (Mod_putBy v0 v1) := by
  unfold Mod_putBy
  refine s_iload_n C rfl dX11_putBy_0 ?_
  refine s_istore_n C (L' := [(2, .int v1), (0, .ref v0), (1, .int v1)]) (by decide) rfl dX11_putBy_1 ?_
  refine s_aload_n C rfl dX11_putBy_2 ?_
  refine s_wV C hV lv_X11_267 (st := []) (met_Mod_putNothing v0) rf_Mod_putBy_Mod_putNothing rfl rfl (Nat.le_of_ble_eq_true rfl) dX11_putBy_3 ?_
  refine s_aload_n C rfl dX11_putBy_6 ?_
  refine s_getI C hV fl_X11_104 (fun _ _ _ => rfl) dX11_putBy_7 (fun x1 => ?_)
  refine s_iconst C (2 : Int32) (by decide) dX11_putBy_10 ?_
  refine s_isub C dX11_putBy_11 ?_
  refine s_leti (fun x2 => ?_)
  refine s_istore_n C (L' := [(3, .int x2), (2, .int v1), (0, .ref v0), (1, .int v1)]) (by decide) rfl dX11_putBy_12 ?_
  exact s_weak [0, 2, 3] rfl (sm_Mod_putBy_13 C hV hR v0 (v1, x2))
set_option maxRecDepth 20000 in
theorem met_Mod_putBy (v0 : Nat) (v1 : Int32) : MV ZF yX11_putBy cX11_putBy 4 rm_Mod_putBy [.ref v0, .int v1] (Mod_putBy v0 v1) :=
  mv_of (L0 := [(0, .ref v0), (1, .int v1)]) (by decide +kernel) (Nat.le_of_ble_eq_true rfl) rfl (fun G ad K C hV hR => sm_Mod_putBy C hV hR v0 v1)

noncomputable def Mod_fewest_250 (v0 : Nat) (v1 : Int32) (v2 : Int32) (v3 : Int32) (v4 : Int32) (v5 : Int32) (v6 : Int32) : MM ((Int32 × Int32 × Int32 × Int32) ⊕ Int32) :=
  ml (v6 + (1 : Int32)) fun x19 =>
  mp (.inl (v3, v4, v5, x19))
noncomputable def Mod_fewest_224 (v0 : Nat) (v1 : Int32) (v2 : Int32) (v3 : Int32) (v4 : Int32) (v5 : Int32) (v6 : Int32) (v7 : Int32) (v8 : Int32) (t0 : Int32) : MM ((Int32 × Int32 × Int32 × Int32) ⊕ Int32) :=
  if t0 = 0 then
  Mod_fewest_250 v0 v1 v2 v3 v4 v5 v6
  else
  mb (vc ZF 12 v0 (Mod_isSafe v0 (0 : Int32))) fun r20 =>
  if r20 = 0 then
  Mod_fewest_250 v0 v1 v2 v3 v4 v5 v6
  else
  Mod_fewest_250 v0 v1 v2 v6 v7 v8 v6
noncomputable def Mod_fewest_219 (v0 : Nat) (v1 : Int32) (v2 : Int32) (v3 : Int32) (v4 : Int32) (v5 : Int32) (v6 : Int32) (v7 : Int32) (v8 : Int32) : MM ((Int32 × Int32 × Int32 × Int32) ⊕ Int32) :=
  Mod_fewest_224 v0 v1 v2 v3 v4 v5 v6 v7 v8 (1 : Int32)
noncomputable def Mod_fewest_223 (v0 : Nat) (v1 : Int32) (v2 : Int32) (v3 : Int32) (v4 : Int32) (v5 : Int32) (v6 : Int32) (v7 : Int32) (v8 : Int32) : MM ((Int32 × Int32 × Int32 × Int32) ⊕ Int32) :=
  Mod_fewest_224 v0 v1 v2 v3 v4 v5 v6 v7 v8 (0 : Int32)
noncomputable def Mod_fewest_184 (v0 : Nat) (v1 : Int32) (v2 : Int32) (v3 : Int32) (v4 : Int32) (v5 : Int32) (v6 : Int32) (v7 : Int32) (v9 : Int32) (t0 : Int32) (t1 : Int32) : MM ((Int32 × Int32 × Int32) ⊕ ((Int32 × Int32 × Int32 × Int32) ⊕ Int32)) :=
  ml (t0 + t1) fun x28 =>
  ml (v9 + (1 : Int32)) fun x29 =>
  mp (.inl (v7, x28, x29))
noncomputable def Mod_fewest_164 (v0 : Nat) (v1 : Int32) (v2 : Int32) (v3 : Int32) (v4 : Int32) (v5 : Int32) (v6 : Int32) (v8 : Int32) (v9 : Int32) (t0 : Int32) (t1 : Int32) : MM ((Int32 × Int32 × Int32) ⊕ ((Int32 × Int32 × Int32 × Int32) ⊕ Int32)) :=
  ml (t0 + t1) fun x25 =>
  mb (gR ZF 12 35 v0) fun x26 =>
  mb (aI ZF 23 x26 v9) fun x27 =>
  Mod_fewest_184 v0 v1 v2 v3 v4 v5 v6 x25 v9 v8 (if x27 ≤ 0 then (0 : Int32) else (1 : Int32))
noncomputable def Mod_fewest_114_b (v0 : Nat) (v1 : Int32) (v2 : Int32) (v3 : Int32) (v4 : Int32) (v5 : Int32) (v6 : Int32) (v7 : Int32) (v8 : Int32) (v9 : Int32) : MM ((Int32 × Int32 × Int32) ⊕ ((Int32 × Int32 × Int32 × Int32) ⊕ Int32)) :=
  mb (gI ZF 12 1 v0) fun x18 =>
  if (x18 - (1 : Int32)) ≤ v9 then
  mr (
  if v3 = ((-1) : Int32) then
  Mod_fewest_219 v0 v1 v2 v3 v4 v5 v6 v7 v8
  else
  if v7 < v4 then
  Mod_fewest_219 v0 v1 v2 v3 v4 v5 v6 v7 v8
  else
  if v7 = v4 then
  if v5 ≤ v8 then
  Mod_fewest_223 v0 v1 v2 v3 v4 v5 v6 v7 v8
  else
  Mod_fewest_219 v0 v1 v2 v3 v4 v5 v6 v7 v8
  else
  Mod_fewest_223 v0 v1 v2 v3 v4 v5 v6 v7 v8)
  else
  mb (gR ZF 12 35 v0) fun x21 =>
  mb (aI ZF 23 x21 v9) fun x22 =>
  if x22 = (1 : Int32) then
  mb (gI ZF 12 13 v0) fun x31 =>
  Mod_fewest_164 v0 v1 v2 v3 v4 v5 v6 v8 v9 v7 x31
  else
  mb (gR ZF 12 35 v0) fun x23 =>
  mb (aI ZF 23 x23 v9) fun x24 =>
  if x24 = (2 : Int32) then
  mb (gI ZF 12 14 v0) fun x30 =>
  Mod_fewest_164 v0 v1 v2 v3 v4 v5 v6 v8 v9 v7 x30
  else
  Mod_fewest_164 v0 v1 v2 v3 v4 v5 v6 v8 v9 v7 (0 : Int32)
noncomputable def Mod_fewest_114 (v0 : Nat) (v1 : Int32) (v2 : Int32) (v3 : Int32) (v4 : Int32) (v5 : Int32) (v6 : Int32) (s : (Int32 × Int32 × Int32)) : MM ((Int32 × Int32 × Int32 × Int32) ⊕ Int32) := lo (fun (s : (Int32 × Int32 × Int32)) => Mod_fewest_114_b v0 v1 v2 v3 v4 v5 v6 s.1 s.2.1 s.2.2) s
noncomputable def Mod_fewest_93_b (v0 : Nat) (v1 : Int32) (v2 : Int32) (v3 : Int32) (v4 : Int32) (v5 : Int32) (v6 : Int32) : MM ((Int32 × Int32 × Int32 × Int32) ⊕ Int32) :=
  if v2 ≤ v6 then
  mr (
  if v3 = ((-1) : Int32) then
  mp ((-1) : Int32)
  else
  mb (vc ZF 12 v0 (Mod_putBy v0 v3)) fun _ =>
  if v1 = 0 then
  mp v4
  else
  if v1 = (1 : Int32) then
  mp v5
  else
  mb (gI ZF 12 1 v0) fun x12 =>
  if (x12 - (1 : Int32)) ≤ (v1 - (10 : Int32)) then
  mp ((-1) : Int32)
  else
  mb (gR ZF 12 35 v0) fun x13 =>
  mb (aI ZF 23 x13 (v1 - (10 : Int32))) fun x14 =>
  mp x14)
  else
  mb (vc ZF 12 v0 (Mod_putBy v0 v6)) fun _ =>
  ml (0 : Int32) fun x15 =>
  ml (0 : Int32) fun x16 =>
  ml (0 : Int32) fun x17 =>
  Mod_fewest_114 v0 v1 v2 v3 v4 v5 v6 (x15, x16, x17)
noncomputable def Mod_fewest_93 (v0 : Nat) (v1 : Int32) (v2 : Int32) (s : (Int32 × Int32 × Int32 × Int32)) : MM Int32 := lo (fun (s : (Int32 × Int32 × Int32 × Int32)) => Mod_fewest_93_b v0 v1 v2 s.1 s.2.1 s.2.2.1 s.2.2.2) s
noncomputable def Mod_fewest_62_b (v0 : Nat) (v1 : Int32) (v2 : Int32) (v3 : Int32) : MM ((Int32 × Int32) ⊕ Int32) :=
  mb (gI ZF 12 1 v0) fun x7 =>
  if (x7 - (1 : Int32)) ≤ v3 then
  mr (
  ml ((-1) : Int32) fun x8 =>
  ml (0 : Int32) fun x9 =>
  ml (0 : Int32) fun x10 =>
  ml (0 : Int32) fun x11 =>
  Mod_fewest_93 v0 v1 v2 (x8, x9, x10, x11))
  else
  ml (v2 * (3 : Int32)) fun x32 =>
  ml (v3 + (1 : Int32)) fun x33 =>
  mp (.inl (x32, x33))
noncomputable def Mod_fewest_62 (v0 : Nat) (v1 : Int32) (s : (Int32 × Int32)) : MM Int32 := lo (fun (s : (Int32 × Int32)) => Mod_fewest_62_b v0 v1 s.1 s.2) s
noncomputable def Mod_fewest_23 (v0 : Nat) (v1 : Int32) : MM Int32 :=
  mb (gI ZF 12 1 v0) fun x2 =>
  if (8 : Int32) < x2 then
  mp ((-103) : Int32)
  else
  mb (gI ZF 12 15 v0) fun x3 =>
  if x3 = (12 : Int32) then
  mp ((-103) : Int32)
  else
  mb (gI ZF 12 15 v0) fun x4 =>
  mb (pI ZF 12 15 v0 (x4 + (1 : Int32))) fun _ =>
  mb (vc ZF 12 v0 (Mod_layAll v0)) fun _ =>
  ml (1 : Int32) fun x5 =>
  ml (0 : Int32) fun x6 =>
  Mod_fewest_62 v0 v1 (x5, x6)
noncomputable def Mod_fewest (v0 : Nat) (v1 : Int32) : MM Int32 :=
  mb ((Mod_in v1 (0 : Int32) (1 : Int32))) fun r1 =>
  if r1 = 0 then
  mb ((Mod_in v1 (10 : Int32) (16 : Int32))) fun r34 =>
  if r34 = 0 then
  mp ((-102) : Int32)
  else
  Mod_fewest_23 v0 v1
  else
  Mod_fewest_23 v0 v1
set_option maxRecDepth 20000 in
theorem sm_Mod_fewest_250 {G : GT} {ad : Nat → Nat} {K : Int32 → Dm → Prop} (C : Cx G rm_Mod_fewest cX11_fewest 10 RX11) (hV : Vx G rm_Mod_fewest ad ZF (0, 0)) (hR : RtI G rm_Mod_fewest ad ZF (0, 0) cX11_fewest .int K) (v0 : Nat) (v1 : Int32) (v2 : Int32) (v3 : Int32) (v4 : Int32) (v5 : Int32) (v6 : Int32) : Sm G rm_Mod_fewest ad ZF (0, 0) (lpK G rm_Mod_fewest ad ZF (0, 0) 93 (fun (s : (Int32 × Int32 × Int32 × Int32)) => [(0, .ref v0), (1, .int v1), (2, .int v2), (3, .int s.1), (4, .int s.2.1), (5, .int s.2.2.1), (6, .int s.2.2.2)]) K) 250 [(0, .ref v0), (1, .int v1), (2, .int v2), (3, .int v3), (4, .int v4), (5, .int v5), (6, .int v6)] [] (Mod_fewest_250 v0 v1 v2 v3 v4 v5 v6) := by
  unfold Mod_fewest_250
  refine s_iinc C (L' := fun x19 => [(6, .int x19), (0, .ref v0), (1, .int v1), (2, .int v2), (3, .int v3), (4, .int v4), (5, .int v5)]) (1 : Int32) (by decide) rfl (by decide) (fun _ => rfl) dX11_fewest_250 (fun x19 => ?_)
  refine s_goto C 93 (by decide) dX11_fewest_253 ?_
  exact s_back [0, 1, 2, 3, 4, 5, 6] (v3, v4, v5, x19) rfl
set_option maxRecDepth 20000 in
theorem sm_Mod_fewest_224 {G : GT} {ad : Nat → Nat} {K : Int32 → Dm → Prop} (C : Cx G rm_Mod_fewest cX11_fewest 10 RX11) (hV : Vx G rm_Mod_fewest ad ZF (0, 0)) (hR : RtI G rm_Mod_fewest ad ZF (0, 0) cX11_fewest .int K) (v0 : Nat) (v1 : Int32) (v2 : Int32) (v3 : Int32) (v4 : Int32) (v5 : Int32) (v6 : Int32) (v7 : Int32) (v8 : Int32) (t0 : Int32) : Sm G rm_Mod_fewest ad ZF (0, 0) (lpK G rm_Mod_fewest ad ZF (0, 0) 93 (fun (s : (Int32 × Int32 × Int32 × Int32)) => [(0, .ref v0), (1, .int v1), (2, .int v2), (3, .int s.1), (4, .int s.2.1), (5, .int s.2.2.1), (6, .int s.2.2.2)]) K) 224 [(0, .ref v0), (1, .int v1), (2, .int v2), (3, .int v3), (4, .int v4), (5, .int v5), (6, .int v6), (7, .int v7), (8, .int v8)] [.int t0] (Mod_fewest_224 v0 v1 v2 v3 v4 v5 v6 v7 v8 t0) := by
  unfold Mod_fewest_224
  refine s_istore C (L' := [(9, .int t0), (0, .ref v0), (1, .int v1), (2, .int v2), (3, .int v3), (4, .int v4), (5, .int v5), (6, .int v6), (7, .int v7), (8, .int v8)]) (by decide) rfl dX11_fewest_224 ?_
  refine s_iload C rfl dX11_fewest_226 ?_
  refine s_if_eq C 250 (by decide) dX11_fewest_228 ?_ ?_
  · exact s_weak [0, 1, 2, 3, 4, 5, 6] rfl (sm_Mod_fewest_250 C hV hR v0 v1 v2 v3 v4 v5 v6)
  · refine s_aload_n C rfl dX11_fewest_231 ?_
    refine s_iconst C (0 : Int32) (by decide) dX11_fewest_232 ?_
    refine s_wI C hV lv_X11_276 (st := []) (met_Mod_isSafe v0 (0 : Int32)) rf_Mod_fewest_Mod_isSafe rfl rfl (Nat.le_of_ble_eq_true rfl) dX11_fewest_233 (fun r20 => ?_)
    refine s_if_eq C 250 (by decide) dX11_fewest_236 ?_ ?_
    · exact s_weak [0, 1, 2, 3, 4, 5, 6] rfl (sm_Mod_fewest_250 C hV hR v0 v1 v2 v3 v4 v5 v6)
    · refine s_iload C rfl dX11_fewest_239 ?_
      refine s_istore_n C (L' := [(3, .int v6), (9, .int t0), (0, .ref v0), (1, .int v1), (2, .int v2), (4, .int v4), (5, .int v5), (6, .int v6), (7, .int v7), (8, .int v8)]) (by decide) rfl dX11_fewest_241 ?_
      refine s_iload C rfl dX11_fewest_242 ?_
      refine s_istore C (L' := [(4, .int v7), (3, .int v6), (9, .int t0), (0, .ref v0), (1, .int v1), (2, .int v2), (5, .int v5), (6, .int v6), (7, .int v7), (8, .int v8)]) (by decide) rfl dX11_fewest_244 ?_
      refine s_iload C rfl dX11_fewest_246 ?_
      refine s_istore C (L' := [(5, .int v8), (4, .int v7), (3, .int v6), (9, .int t0), (0, .ref v0), (1, .int v1), (2, .int v2), (6, .int v6), (7, .int v7), (8, .int v8)]) (by decide) rfl dX11_fewest_248 ?_
      exact s_weak [0, 1, 2, 3, 4, 5, 6] rfl (sm_Mod_fewest_250 C hV hR v0 v1 v2 v6 v7 v8 v6)
set_option maxRecDepth 20000 in
theorem sm_Mod_fewest_219 {G : GT} {ad : Nat → Nat} {K : Int32 → Dm → Prop} (C : Cx G rm_Mod_fewest cX11_fewest 10 RX11) (hV : Vx G rm_Mod_fewest ad ZF (0, 0)) (hR : RtI G rm_Mod_fewest ad ZF (0, 0) cX11_fewest .int K) (v0 : Nat) (v1 : Int32) (v2 : Int32) (v3 : Int32) (v4 : Int32) (v5 : Int32) (v6 : Int32) (v7 : Int32) (v8 : Int32) : Sm G rm_Mod_fewest ad ZF (0, 0) (lpK G rm_Mod_fewest ad ZF (0, 0) 93 (fun (s : (Int32 × Int32 × Int32 × Int32)) => [(0, .ref v0), (1, .int v1), (2, .int v2), (3, .int s.1), (4, .int s.2.1), (5, .int s.2.2.1), (6, .int s.2.2.2)]) K) 219 [(0, .ref v0), (1, .int v1), (2, .int v2), (3, .int v3), (4, .int v4), (5, .int v5), (6, .int v6), (7, .int v7), (8, .int v8)] [] (Mod_fewest_219 v0 v1 v2 v3 v4 v5 v6 v7 v8) := by
  unfold Mod_fewest_219
  refine s_iconst C (1 : Int32) (by decide) dX11_fewest_219 ?_
  refine s_goto C 224 (by decide) dX11_fewest_220 ?_
  exact s_weak [0, 1, 2, 3, 4, 5, 6, 7, 8] rfl (sm_Mod_fewest_224 C hV hR v0 v1 v2 v3 v4 v5 v6 v7 v8 (1 : Int32))
set_option maxRecDepth 20000 in
theorem sm_Mod_fewest_223 {G : GT} {ad : Nat → Nat} {K : Int32 → Dm → Prop} (C : Cx G rm_Mod_fewest cX11_fewest 10 RX11) (hV : Vx G rm_Mod_fewest ad ZF (0, 0)) (hR : RtI G rm_Mod_fewest ad ZF (0, 0) cX11_fewest .int K) (v0 : Nat) (v1 : Int32) (v2 : Int32) (v3 : Int32) (v4 : Int32) (v5 : Int32) (v6 : Int32) (v7 : Int32) (v8 : Int32) : Sm G rm_Mod_fewest ad ZF (0, 0) (lpK G rm_Mod_fewest ad ZF (0, 0) 93 (fun (s : (Int32 × Int32 × Int32 × Int32)) => [(0, .ref v0), (1, .int v1), (2, .int v2), (3, .int s.1), (4, .int s.2.1), (5, .int s.2.2.1), (6, .int s.2.2.2)]) K) 223 [(0, .ref v0), (1, .int v1), (2, .int v2), (3, .int v3), (4, .int v4), (5, .int v5), (6, .int v6), (7, .int v7), (8, .int v8)] [] (Mod_fewest_223 v0 v1 v2 v3 v4 v5 v6 v7 v8) := by
  unfold Mod_fewest_223
  refine s_iconst C (0 : Int32) (by decide) dX11_fewest_223 ?_
  exact s_weak [0, 1, 2, 3, 4, 5, 6, 7, 8] rfl (sm_Mod_fewest_224 C hV hR v0 v1 v2 v3 v4 v5 v6 v7 v8 (0 : Int32))
set_option maxRecDepth 20000 in
theorem sm_Mod_fewest_184 {G : GT} {ad : Nat → Nat} {K : Int32 → Dm → Prop} (C : Cx G rm_Mod_fewest cX11_fewest 10 RX11) (hV : Vx G rm_Mod_fewest ad ZF (0, 0)) (hR : RtI G rm_Mod_fewest ad ZF (0, 0) cX11_fewest .int K) (v0 : Nat) (v1 : Int32) (v2 : Int32) (v3 : Int32) (v4 : Int32) (v5 : Int32) (v6 : Int32) (v7 : Int32) (v9 : Int32) (t0 : Int32) (t1 : Int32) : Sm G rm_Mod_fewest ad ZF (0, 0) (lpK G rm_Mod_fewest ad ZF (0, 0) 114 (fun (s : (Int32 × Int32 × Int32)) => [(0, .ref v0), (1, .int v1), (2, .int v2), (3, .int v3), (4, .int v4), (5, .int v5), (6, .int v6), (7, .int s.1), (8, .int s.2.1), (9, .int s.2.2)]) (lpK G rm_Mod_fewest ad ZF (0, 0) 93 (fun (s : (Int32 × Int32 × Int32 × Int32)) => [(0, .ref v0), (1, .int v1), (2, .int v2), (3, .int s.1), (4, .int s.2.1), (5, .int s.2.2.1), (6, .int s.2.2.2)]) K)) 184 [(0, .ref v0), (1, .int v1), (2, .int v2), (3, .int v3), (4, .int v4), (5, .int v5), (6, .int v6), (7, .int v7), (9, .int v9)] [.int t1, .int t0] (Mod_fewest_184 v0 v1 v2 v3 v4 v5 v6 v7 v9 t0 t1) := by
  unfold Mod_fewest_184
  refine s_iadd C dX11_fewest_184 ?_
  refine s_leti (fun x28 => ?_)
  refine s_istore C (L' := [(8, .int x28), (0, .ref v0), (1, .int v1), (2, .int v2), (3, .int v3), (4, .int v4), (5, .int v5), (6, .int v6), (7, .int v7), (9, .int v9)]) (by decide) rfl dX11_fewest_185 ?_
  refine s_iinc C (L' := fun x29 => [(9, .int x29), (8, .int x28), (0, .ref v0), (1, .int v1), (2, .int v2), (3, .int v3), (4, .int v4), (5, .int v5), (6, .int v6), (7, .int v7)]) (1 : Int32) (by decide) rfl (by decide) (fun _ => rfl) dX11_fewest_187 (fun x29 => ?_)
  refine s_goto C 114 (by decide) dX11_fewest_190 ?_
  exact s_back [0, 1, 2, 3, 4, 5, 6, 7, 8, 9] (v7, x28, x29) rfl
set_option maxRecDepth 20000 in
theorem sm_Mod_fewest_164 {G : GT} {ad : Nat → Nat} {K : Int32 → Dm → Prop} (C : Cx G rm_Mod_fewest cX11_fewest 10 RX11) (hV : Vx G rm_Mod_fewest ad ZF (0, 0)) (hR : RtI G rm_Mod_fewest ad ZF (0, 0) cX11_fewest .int K) (v0 : Nat) (v1 : Int32) (v2 : Int32) (v3 : Int32) (v4 : Int32) (v5 : Int32) (v6 : Int32) (v8 : Int32) (v9 : Int32) (t0 : Int32) (t1 : Int32) : Sm G rm_Mod_fewest ad ZF (0, 0) (lpK G rm_Mod_fewest ad ZF (0, 0) 114 (fun (s : (Int32 × Int32 × Int32)) => [(0, .ref v0), (1, .int v1), (2, .int v2), (3, .int v3), (4, .int v4), (5, .int v5), (6, .int v6), (7, .int s.1), (8, .int s.2.1), (9, .int s.2.2)]) (lpK G rm_Mod_fewest ad ZF (0, 0) 93 (fun (s : (Int32 × Int32 × Int32 × Int32)) => [(0, .ref v0), (1, .int v1), (2, .int v2), (3, .int s.1), (4, .int s.2.1), (5, .int s.2.2.1), (6, .int s.2.2.2)]) K)) 164 [(0, .ref v0), (1, .int v1), (2, .int v2), (3, .int v3), (4, .int v4), (5, .int v5), (6, .int v6), (8, .int v8), (9, .int v9)] [.int t1, .int t0] (Mod_fewest_164 v0 v1 v2 v3 v4 v5 v6 v8 v9 t0 t1) := by
  unfold Mod_fewest_164
  refine s_iadd C dX11_fewest_164 ?_
  refine s_leti (fun x25 => ?_)
  refine s_istore C (L' := [(7, .int x25), (0, .ref v0), (1, .int v1), (2, .int v2), (3, .int v3), (4, .int v4), (5, .int v5), (6, .int v6), (8, .int v8), (9, .int v9)]) (by decide) rfl dX11_fewest_165 ?_
  refine s_iload C rfl dX11_fewest_167 ?_
  refine s_aload_n C rfl dX11_fewest_169 ?_
  refine s_getR C hV fl_X11_77 (fun _ _ _ => rfl) dX11_fewest_170 (fun x26 => ?_)
  refine s_iload C rfl dX11_fewest_173 ?_
  refine s_iaload C hV dX11_fewest_175 (fun x27 => ?_)
  refine s_ite (g := fun z => Mod_fewest_184 v0 v1 v2 v3 v4 v5 v6 x25 v9 v8 z) ?_
  refine s_if_le C 183 (by decide) dX11_fewest_176 ?_ ?_
  · refine s_iconst C (0 : Int32) (by decide) dX11_fewest_183 ?_
    exact s_weak [0, 1, 2, 3, 4, 5, 6, 7, 9] rfl (sm_Mod_fewest_184 C hV hR v0 v1 v2 v3 v4 v5 v6 x25 v9 v8 (0 : Int32))
  · refine s_iconst C (1 : Int32) (by decide) dX11_fewest_179 ?_
    refine s_goto C 184 (by decide) dX11_fewest_180 ?_
    exact s_weak [0, 1, 2, 3, 4, 5, 6, 7, 9] rfl (sm_Mod_fewest_184 C hV hR v0 v1 v2 v3 v4 v5 v6 x25 v9 v8 (1 : Int32))
set_option maxRecDepth 20000 in
theorem sm_Mod_fewest_114_b {G : GT} {ad : Nat → Nat} {K : Int32 → Dm → Prop} (C : Cx G rm_Mod_fewest cX11_fewest 10 RX11) (hV : Vx G rm_Mod_fewest ad ZF (0, 0)) (hR : RtI G rm_Mod_fewest ad ZF (0, 0) cX11_fewest .int K) (v0 : Nat) (v1 : Int32) (v2 : Int32) (v3 : Int32) (v4 : Int32) (v5 : Int32) (v6 : Int32) (v7 : Int32) (v8 : Int32) (v9 : Int32) : Sm G rm_Mod_fewest ad ZF (0, 0) (lpK G rm_Mod_fewest ad ZF (0, 0) 114 (fun (s : (Int32 × Int32 × Int32)) => [(0, .ref v0), (1, .int v1), (2, .int v2), (3, .int v3), (4, .int v4), (5, .int v5), (6, .int v6), (7, .int s.1), (8, .int s.2.1), (9, .int s.2.2)]) (lpK G rm_Mod_fewest ad ZF (0, 0) 93 (fun (s : (Int32 × Int32 × Int32 × Int32)) => [(0, .ref v0), (1, .int v1), (2, .int v2), (3, .int s.1), (4, .int s.2.1), (5, .int s.2.2.1), (6, .int s.2.2.2)]) K)) 114 [(0, .ref v0), (1, .int v1), (2, .int v2), (3, .int v3), (4, .int v4), (5, .int v5), (6, .int v6), (7, .int v7), (8, .int v8), (9, .int v9)] [] (Mod_fewest_114_b v0 v1 v2 v3 v4 v5 v6 v7 v8 v9) := by
  unfold Mod_fewest_114_b
  refine s_iload C rfl dX11_fewest_114 ?_
  refine s_aload_n C rfl dX11_fewest_116 ?_
  refine s_getI C hV fl_X11_104 (fun _ _ _ => rfl) dX11_fewest_117 (fun x18 => ?_)
  refine s_iconst C (1 : Int32) (by decide) dX11_fewest_120 ?_
  refine s_isub C dX11_fewest_121 ?_
  refine s_icmp_ge C 193 (by decide) dX11_fewest_122 ?_ ?_
  · refine s_exit ?_
    refine s_iload_n C rfl dX11_fewest_193 ?_
    refine s_iconst C ((-1) : Int32) (by decide) dX11_fewest_194 ?_
    refine s_icmp_eq C 219 (by decide) dX11_fewest_195 ?_ ?_
    · exact s_weak [0, 1, 2, 3, 4, 5, 6, 7, 8] rfl (sm_Mod_fewest_219 C hV hR v0 v1 v2 v3 v4 v5 v6 v7 v8)
    · refine s_iload C rfl dX11_fewest_198 ?_
      refine s_iload C rfl dX11_fewest_200 ?_
      refine s_icmp_lt C 219 (by decide) dX11_fewest_202 ?_ ?_
      · exact s_weak [0, 1, 2, 3, 4, 5, 6, 7, 8] rfl (sm_Mod_fewest_219 C hV hR v0 v1 v2 v3 v4 v5 v6 v7 v8)
      · refine s_iload C rfl dX11_fewest_205 ?_
        refine s_iload C rfl dX11_fewest_207 ?_
        refine s_icmp_ne C 223 (by decide) dX11_fewest_209 ?_ ?_
        · exact s_weak [0, 1, 2, 3, 4, 5, 6, 7, 8] rfl (sm_Mod_fewest_223 C hV hR v0 v1 v2 v3 v4 v5 v6 v7 v8)
        · refine s_iload C rfl dX11_fewest_212 ?_
          refine s_iload C rfl dX11_fewest_214 ?_
          refine s_icmp_ge C 223 (by decide) dX11_fewest_216 ?_ ?_
          · exact s_weak [0, 1, 2, 3, 4, 5, 6, 7, 8] rfl (sm_Mod_fewest_223 C hV hR v0 v1 v2 v3 v4 v5 v6 v7 v8)
          · exact s_weak [0, 1, 2, 3, 4, 5, 6, 7, 8] rfl (sm_Mod_fewest_219 C hV hR v0 v1 v2 v3 v4 v5 v6 v7 v8)
  · refine s_iload C rfl dX11_fewest_125 ?_
    refine s_aload_n C rfl dX11_fewest_127 ?_
    refine s_getR C hV fl_X11_77 (fun _ _ _ => rfl) dX11_fewest_128 (fun x21 => ?_)
    refine s_iload C rfl dX11_fewest_131 ?_
    refine s_iaload C hV dX11_fewest_133 (fun x22 => ?_)
    refine s_iconst C (1 : Int32) (by decide) dX11_fewest_134 ?_
    refine s_icmp_ne C 145 (by decide) dX11_fewest_135 ?_ ?_
    · refine s_aload_n C rfl dX11_fewest_145 ?_
      refine s_getR C hV fl_X11_77 (fun _ _ _ => rfl) dX11_fewest_146 (fun x23 => ?_)
      refine s_iload C rfl dX11_fewest_149 ?_
      refine s_iaload C hV dX11_fewest_151 (fun x24 => ?_)
      refine s_iconst C (2 : Int32) (by decide) dX11_fewest_152 ?_
      refine s_icmp_ne C 163 (by decide) dX11_fewest_153 ?_ ?_
      · refine s_iconst C (0 : Int32) (by decide) dX11_fewest_163 ?_
        exact s_weak [0, 1, 2, 3, 4, 5, 6, 8, 9] rfl (sm_Mod_fewest_164 C hV hR v0 v1 v2 v3 v4 v5 v6 v8 v9 v7 (0 : Int32))
      · refine s_aload_n C rfl dX11_fewest_156 ?_
        refine s_getI C hV fl_X11_43 (fun _ _ _ => rfl) dX11_fewest_157 (fun x30 => ?_)
        refine s_goto C 164 (by decide) dX11_fewest_160 ?_
        exact s_weak [0, 1, 2, 3, 4, 5, 6, 8, 9] rfl (sm_Mod_fewest_164 C hV hR v0 v1 v2 v3 v4 v5 v6 v8 v9 v7 x30)
    · refine s_aload_n C rfl dX11_fewest_138 ?_
      refine s_getI C hV fl_X11_39 (fun _ _ _ => rfl) dX11_fewest_139 (fun x31 => ?_)
      refine s_goto C 164 (by decide) dX11_fewest_142 ?_
      exact s_weak [0, 1, 2, 3, 4, 5, 6, 8, 9] rfl (sm_Mod_fewest_164 C hV hR v0 v1 v2 v3 v4 v5 v6 v8 v9 v7 x31)
set_option maxRecDepth 20000 in
theorem sm_Mod_fewest_114 {G : GT} {ad : Nat → Nat} {K : Int32 → Dm → Prop} (C : Cx G rm_Mod_fewest cX11_fewest 10 RX11) (hV : Vx G rm_Mod_fewest ad ZF (0, 0)) (hR : RtI G rm_Mod_fewest ad ZF (0, 0) cX11_fewest .int K) (v0 : Nat) (v1 : Int32) (v2 : Int32) (v3 : Int32) (v4 : Int32) (v5 : Int32) (v6 : Int32) (s : (Int32 × Int32 × Int32)) : Sm G rm_Mod_fewest ad ZF (0, 0) (lpK G rm_Mod_fewest ad ZF (0, 0) 93 (fun (s : (Int32 × Int32 × Int32 × Int32)) => [(0, .ref v0), (1, .int v1), (2, .int v2), (3, .int s.1), (4, .int s.2.1), (5, .int s.2.2.1), (6, .int s.2.2.2)]) K) 114 ((fun (s : (Int32 × Int32 × Int32)) => [(0, .ref v0), (1, .int v1), (2, .int v2), (3, .int v3), (4, .int v4), (5, .int v5), (6, .int v6), (7, .int s.1), (8, .int s.2.1), (9, .int s.2.2)]) s) [] (Mod_fewest_114 v0 v1 v2 v3 v4 v5 v6 s) :=
  s_loop (en := (fun (s : (Int32 × Int32 × Int32)) => [(0, .ref v0), (1, .int v1), (2, .int v2), (3, .int v3), (4, .int v4), (5, .int v5), (6, .int v6), (7, .int s.1), (8, .int s.2.1), (9, .int s.2.2)])) (fun s => sm_Mod_fewest_114_b C hV hR v0 v1 v2 v3 v4 v5 v6 s.1 s.2.1 s.2.2) s
set_option maxRecDepth 20000 in
theorem sm_Mod_fewest_93_b {G : GT} {ad : Nat → Nat} {K : Int32 → Dm → Prop} (C : Cx G rm_Mod_fewest cX11_fewest 10 RX11) (hV : Vx G rm_Mod_fewest ad ZF (0, 0)) (hR : RtI G rm_Mod_fewest ad ZF (0, 0) cX11_fewest .int K) (v0 : Nat) (v1 : Int32) (v2 : Int32) (v3 : Int32) (v4 : Int32) (v5 : Int32) (v6 : Int32) : Sm G rm_Mod_fewest ad ZF (0, 0) (lpK G rm_Mod_fewest ad ZF (0, 0) 93 (fun (s : (Int32 × Int32 × Int32 × Int32)) => [(0, .ref v0), (1, .int v1), (2, .int v2), (3, .int s.1), (4, .int s.2.1), (5, .int s.2.2.1), (6, .int s.2.2.2)]) K) 93 [(0, .ref v0), (1, .int v1), (2, .int v2), (3, .int v3), (4, .int v4), (5, .int v5), (6, .int v6)] [] (Mod_fewest_93_b v0 v1 v2 v3 v4 v5 v6) := by
  unfold Mod_fewest_93_b
  refine s_iload C rfl dX11_fewest_93 ?_
  refine s_iload_n C rfl dX11_fewest_95 ?_
  refine s_icmp_ge C 256 (by decide) dX11_fewest_96 ?_ ?_
  · refine s_exit ?_
    refine s_iload_n C rfl dX11_fewest_256 ?_
    refine s_iconst C ((-1) : Int32) (by decide) dX11_fewest_257 ?_
    refine s_icmp_ne C 263 (by decide) dX11_fewest_258 ?_ ?_
    · refine s_aload_n C rfl dX11_fewest_263 ?_
      refine s_iload_n C rfl dX11_fewest_264 ?_
      refine s_wV C hV lv_X11_285 (st := []) (met_Mod_putBy v0 v3) rf_Mod_fewest_Mod_putBy rfl rfl (Nat.le_of_ble_eq_true rfl) dX11_fewest_265 ?_
      refine s_iload_n C rfl dX11_fewest_268 ?_
      refine s_if_ne C 277 (by decide) dX11_fewest_269 ?_ ?_
      · refine s_iload_n C rfl dX11_fewest_277 ?_
        refine s_iconst C (1 : Int32) (by decide) dX11_fewest_278 ?_
        refine s_icmp_ne C 287 (by decide) dX11_fewest_279 ?_ ?_
        · refine s_iload_n C rfl dX11_fewest_287 ?_
          refine s_bipush C (10 : Int32) (by decide) dX11_fewest_288 ?_
          refine s_isub C dX11_fewest_290 ?_
          refine s_aload_n C rfl dX11_fewest_291 ?_
          refine s_getI C hV fl_X11_104 (fun _ _ _ => rfl) dX11_fewest_292 (fun x12 => ?_)
          refine s_iconst C (1 : Int32) (by decide) dX11_fewest_295 ?_
          refine s_isub C dX11_fewest_296 ?_
          refine s_icmp_ge C 312 (by decide) dX11_fewest_297 ?_ ?_
          · refine s_iconst C ((-1) : Int32) (by decide) dX11_fewest_312 ?_
            exact s_ireti hR dX11_fewest_313
          · refine s_aload_n C rfl dX11_fewest_300 ?_
            refine s_getR C hV fl_X11_77 (fun _ _ _ => rfl) dX11_fewest_301 (fun x13 => ?_)
            refine s_iload_n C rfl dX11_fewest_304 ?_
            refine s_bipush C (10 : Int32) (by decide) dX11_fewest_305 ?_
            refine s_isub C dX11_fewest_307 ?_
            refine s_iaload C hV dX11_fewest_308 (fun x14 => ?_)
            refine s_goto C 313 (by decide) dX11_fewest_309 ?_
            exact s_ireti hR dX11_fewest_313
        · refine s_iload C rfl dX11_fewest_282 ?_
          refine s_goto C 313 (by decide) dX11_fewest_284 ?_
          exact s_ireti hR dX11_fewest_313
      · refine s_iload C rfl dX11_fewest_272 ?_
        refine s_goto C 313 (by decide) dX11_fewest_274 ?_
        exact s_ireti hR dX11_fewest_313
    · refine s_iconst C ((-1) : Int32) (by decide) dX11_fewest_261 ?_
      exact s_ireti hR dX11_fewest_262
  · refine s_aload_n C rfl dX11_fewest_99 ?_
    refine s_iload C rfl dX11_fewest_100 ?_
    refine s_wV C hV lv_X11_285 (st := []) (met_Mod_putBy v0 v6) rf_Mod_fewest_Mod_putBy rfl rfl (Nat.le_of_ble_eq_true rfl) dX11_fewest_102 ?_
    refine s_iconst C (0 : Int32) (by decide) dX11_fewest_105 ?_
    refine s_leti (fun x15 => ?_)
    refine s_istore C (L' := [(7, .int x15), (0, .ref v0), (1, .int v1), (2, .int v2), (3, .int v3), (4, .int v4), (5, .int v5), (6, .int v6)]) (by decide) rfl dX11_fewest_106 ?_
    refine s_iconst C (0 : Int32) (by decide) dX11_fewest_108 ?_
    refine s_leti (fun x16 => ?_)
    refine s_istore C (L' := [(8, .int x16), (7, .int x15), (0, .ref v0), (1, .int v1), (2, .int v2), (3, .int v3), (4, .int v4), (5, .int v5), (6, .int v6)]) (by decide) rfl dX11_fewest_109 ?_
    refine s_iconst C (0 : Int32) (by decide) dX11_fewest_111 ?_
    refine s_leti (fun x17 => ?_)
    refine s_istore C (L' := [(9, .int x17), (8, .int x16), (7, .int x15), (0, .ref v0), (1, .int v1), (2, .int v2), (3, .int v3), (4, .int v4), (5, .int v5), (6, .int v6)]) (by decide) rfl dX11_fewest_112 ?_
    exact s_weak [0, 1, 2, 3, 4, 5, 6, 7, 8, 9] rfl (sm_Mod_fewest_114 C hV hR v0 v1 v2 v3 v4 v5 v6 (x15, x16, x17))
set_option maxRecDepth 20000 in
theorem sm_Mod_fewest_93 {G : GT} {ad : Nat → Nat} {K : Int32 → Dm → Prop} (C : Cx G rm_Mod_fewest cX11_fewest 10 RX11) (hV : Vx G rm_Mod_fewest ad ZF (0, 0)) (hR : RtI G rm_Mod_fewest ad ZF (0, 0) cX11_fewest .int K) (v0 : Nat) (v1 : Int32) (v2 : Int32) (s : (Int32 × Int32 × Int32 × Int32)) : Sm G rm_Mod_fewest ad ZF (0, 0) K 93 ((fun (s : (Int32 × Int32 × Int32 × Int32)) => [(0, .ref v0), (1, .int v1), (2, .int v2), (3, .int s.1), (4, .int s.2.1), (5, .int s.2.2.1), (6, .int s.2.2.2)]) s) [] (Mod_fewest_93 v0 v1 v2 s) :=
  s_loop (en := (fun (s : (Int32 × Int32 × Int32 × Int32)) => [(0, .ref v0), (1, .int v1), (2, .int v2), (3, .int s.1), (4, .int s.2.1), (5, .int s.2.2.1), (6, .int s.2.2.2)])) (fun s => sm_Mod_fewest_93_b C hV hR v0 v1 v2 s.1 s.2.1 s.2.2.1 s.2.2.2) s
set_option maxRecDepth 20000 in
theorem sm_Mod_fewest_62_b {G : GT} {ad : Nat → Nat} {K : Int32 → Dm → Prop} (C : Cx G rm_Mod_fewest cX11_fewest 10 RX11) (hV : Vx G rm_Mod_fewest ad ZF (0, 0)) (hR : RtI G rm_Mod_fewest ad ZF (0, 0) cX11_fewest .int K) (v0 : Nat) (v1 : Int32) (v2 : Int32) (v3 : Int32) : Sm G rm_Mod_fewest ad ZF (0, 0) (lpK G rm_Mod_fewest ad ZF (0, 0) 62 (fun (s : (Int32 × Int32)) => [(0, .ref v0), (1, .int v1), (2, .int s.1), (3, .int s.2)]) K) 62 [(0, .ref v0), (1, .int v1), (2, .int v2), (3, .int v3)] [] (Mod_fewest_62_b v0 v1 v2 v3) := by
  unfold Mod_fewest_62_b
  refine s_iload_n C rfl dX11_fewest_62 ?_
  refine s_aload_n C rfl dX11_fewest_63 ?_
  refine s_getI C hV fl_X11_104 (fun _ _ _ => rfl) dX11_fewest_64 (fun x7 => ?_)
  refine s_iconst C (1 : Int32) (by decide) dX11_fewest_67 ?_
  refine s_isub C dX11_fewest_68 ?_
  refine s_icmp_ge C 82 (by decide) dX11_fewest_69 ?_ ?_
  · refine s_exit ?_
    refine s_iconst C ((-1) : Int32) (by decide) dX11_fewest_82 ?_
    refine s_leti (fun x8 => ?_)
    refine s_istore_n C (L' := [(3, .int x8), (0, .ref v0), (1, .int v1), (2, .int v2)]) (by decide) rfl dX11_fewest_83 ?_
    refine s_iconst C (0 : Int32) (by decide) dX11_fewest_84 ?_
    refine s_leti (fun x9 => ?_)
    refine s_istore C (L' := [(4, .int x9), (3, .int x8), (0, .ref v0), (1, .int v1), (2, .int v2)]) (by decide) rfl dX11_fewest_85 ?_
    refine s_iconst C (0 : Int32) (by decide) dX11_fewest_87 ?_
    refine s_leti (fun x10 => ?_)
    refine s_istore C (L' := [(5, .int x10), (4, .int x9), (3, .int x8), (0, .ref v0), (1, .int v1), (2, .int v2)]) (by decide) rfl dX11_fewest_88 ?_
    refine s_iconst C (0 : Int32) (by decide) dX11_fewest_90 ?_
    refine s_leti (fun x11 => ?_)
    refine s_istore C (L' := [(6, .int x11), (5, .int x10), (4, .int x9), (3, .int x8), (0, .ref v0), (1, .int v1), (2, .int v2)]) (by decide) rfl dX11_fewest_91 ?_
    exact s_weak [0, 1, 2, 3, 4, 5, 6] rfl (sm_Mod_fewest_93 C hV hR v0 v1 v2 (x8, x9, x10, x11))
  · refine s_iload_n C rfl dX11_fewest_72 ?_
    refine s_iconst C (3 : Int32) (by decide) dX11_fewest_73 ?_
    refine s_imul C dX11_fewest_74 ?_
    refine s_leti (fun x32 => ?_)
    refine s_istore_n C (L' := [(2, .int x32), (0, .ref v0), (1, .int v1), (3, .int v3)]) (by decide) rfl dX11_fewest_75 ?_
    refine s_iinc C (L' := fun x33 => [(3, .int x33), (2, .int x32), (0, .ref v0), (1, .int v1)]) (1 : Int32) (by decide) rfl (by decide) (fun _ => rfl) dX11_fewest_76 (fun x33 => ?_)
    refine s_goto C 62 (by decide) dX11_fewest_79 ?_
    exact s_back [0, 1, 2, 3] (x32, x33) rfl
set_option maxRecDepth 20000 in
theorem sm_Mod_fewest_62 {G : GT} {ad : Nat → Nat} {K : Int32 → Dm → Prop} (C : Cx G rm_Mod_fewest cX11_fewest 10 RX11) (hV : Vx G rm_Mod_fewest ad ZF (0, 0)) (hR : RtI G rm_Mod_fewest ad ZF (0, 0) cX11_fewest .int K) (v0 : Nat) (v1 : Int32) (s : (Int32 × Int32)) : Sm G rm_Mod_fewest ad ZF (0, 0) K 62 ((fun (s : (Int32 × Int32)) => [(0, .ref v0), (1, .int v1), (2, .int s.1), (3, .int s.2)]) s) [] (Mod_fewest_62 v0 v1 s) :=
  s_loop (en := (fun (s : (Int32 × Int32)) => [(0, .ref v0), (1, .int v1), (2, .int s.1), (3, .int s.2)])) (fun s => sm_Mod_fewest_62_b C hV hR v0 v1 s.1 s.2) s
set_option maxRecDepth 20000 in
theorem sm_Mod_fewest_23 {G : GT} {ad : Nat → Nat} {K : Int32 → Dm → Prop} (C : Cx G rm_Mod_fewest cX11_fewest 10 RX11) (hV : Vx G rm_Mod_fewest ad ZF (0, 0)) (hR : RtI G rm_Mod_fewest ad ZF (0, 0) cX11_fewest .int K) (v0 : Nat) (v1 : Int32) : Sm G rm_Mod_fewest ad ZF (0, 0) K 23 [(0, .ref v0), (1, .int v1)] [] (Mod_fewest_23 v0 v1) := by
  unfold Mod_fewest_23
  refine s_aload_n C rfl dX11_fewest_23 ?_
  refine s_getI C hV fl_X11_104 (fun _ _ _ => rfl) dX11_fewest_24 (fun x2 => ?_)
  refine s_bipush C (8 : Int32) (by decide) dX11_fewest_27 ?_
  refine s_icmp_gt C 41 (by decide) dX11_fewest_29 ?_ ?_
  · refine s_bipush C ((-103) : Int32) (by decide) dX11_fewest_41 ?_
    exact s_ireti hR dX11_fewest_43
  · refine s_aload_n C rfl dX11_fewest_32 ?_
    refine s_getI C hV fl_X11_282 (fun _ _ _ => rfl) dX11_fewest_33 (fun x3 => ?_)
    refine s_bipush C (12 : Int32) (by decide) dX11_fewest_36 ?_
    refine s_icmp_ne C 44 (by decide) dX11_fewest_38 ?_ ?_
    · refine s_aload_n C rfl dX11_fewest_44 ?_
      refine s_dupr C dX11_fewest_45 ?_
      refine s_getI C hV fl_X11_282 (fun _ _ _ => rfl) dX11_fewest_46 (fun x4 => ?_)
      refine s_iconst C (1 : Int32) (by decide) dX11_fewest_49 ?_
      refine s_iadd C dX11_fewest_50 ?_
      refine s_putI C hV fw_X11_282 rfl dX11_fewest_51 ?_
      refine s_aload_n C rfl dX11_fewest_54 ?_
      refine s_wV C hV lv_X11_264 (st := []) (met_Mod_layAll v0) rf_Mod_fewest_Mod_layAll rfl rfl (Nat.le_of_ble_eq_true rfl) dX11_fewest_55 ?_
      refine s_iconst C (1 : Int32) (by decide) dX11_fewest_58 ?_
      refine s_leti (fun x5 => ?_)
      refine s_istore_n C (L' := [(2, .int x5), (0, .ref v0), (1, .int v1)]) (by decide) rfl dX11_fewest_59 ?_
      refine s_iconst C (0 : Int32) (by decide) dX11_fewest_60 ?_
      refine s_leti (fun x6 => ?_)
      refine s_istore_n C (L' := [(3, .int x6), (2, .int x5), (0, .ref v0), (1, .int v1)]) (by decide) rfl dX11_fewest_61 ?_
      exact s_weak [0, 1, 2, 3] rfl (sm_Mod_fewest_62 C hV hR v0 v1 (x5, x6))
    · refine s_bipush C ((-103) : Int32) (by decide) dX11_fewest_41 ?_
      exact s_ireti hR dX11_fewest_43
set_option maxRecDepth 20000 in
theorem sm_Mod_fewest {G : GT} {ad : Nat → Nat} {K : Int32 → Dm → Prop} (C : Cx G rm_Mod_fewest cX11_fewest 10 RX11) (hV : Vx G rm_Mod_fewest ad ZF (0, 0)) (hR : RtI G rm_Mod_fewest ad ZF (0, 0) cX11_fewest .int K) (v0 : Nat) (v1 : Int32) : Sm G rm_Mod_fewest ad ZF (0, 0) K 0 [(0, .ref v0), (1, .int v1)] [] (Mod_fewest v0 v1) := by
  unfold Mod_fewest
  refine s_iload_n C rfl dX11_fewest_0 ?_
  refine s_iconst C (0 : Int32) (by decide) dX11_fewest_1 ?_
  refine s_iconst C (1 : Int32) (by decide) dX11_fewest_2 ?_
  refine s_uI C hV ls_X11_89 (st := []) (met_Mod_in v1 (0 : Int32) (1 : Int32)) rf_Mod_fewest_Mod_in rfl rfl (Nat.le_of_ble_eq_true rfl) dX11_fewest_3 (fun r1 => ?_)
  refine s_if_ne C 23 (by decide) dX11_fewest_6 ?_ ?_
  · exact s_weak [0, 1] rfl (sm_Mod_fewest_23 C hV hR v0 v1)
  · refine s_iload_n C rfl dX11_fewest_9 ?_
    refine s_bipush C (10 : Int32) (by decide) dX11_fewest_10 ?_
    refine s_bipush C (16 : Int32) (by decide) dX11_fewest_12 ?_
    refine s_uI C hV ls_X11_89 (st := []) (met_Mod_in v1 (10 : Int32) (16 : Int32)) rf_Mod_fewest_Mod_in rfl rfl (Nat.le_of_ble_eq_true rfl) dX11_fewest_14 (fun r34 => ?_)
    refine s_if_ne C 23 (by decide) dX11_fewest_17 ?_ ?_
    · exact s_weak [0, 1] rfl (sm_Mod_fewest_23 C hV hR v0 v1)
    · refine s_bipush C ((-102) : Int32) (by decide) dX11_fewest_20 ?_
      exact s_ireti hR dX11_fewest_22
set_option maxRecDepth 20000 in
theorem met_Mod_fewest (v0 : Nat) (v1 : Int32) : MI ZF yX11_fewest cX11_fewest 10 .int rm_Mod_fewest [.ref v0, .int v1] (Mod_fewest v0 v1) :=
  mi_of (L0 := [(0, .ref v0), (1, .int v1)]) (by decide +kernel) (Nat.le_of_ble_eq_true rfl) rfl (fun G ad K C hV hR => sm_Mod_fewest C hV hR v0 v1)

noncomputable def Mod_needless_78 (v0 : Nat) (v1 : Int32) (v2 : Int64) (v4 : Int32) : MM ((Int32 × Int32) ⊕ Int32) :=
  ml (v4 + (1 : Int32)) fun x6 =>
  mp (.inl (v1, x6))
noncomputable def Mod_needless_18_b (v0 : Nat) (v1 : Int32) (v2 : Int64) (v4 : Int32) : MM ((Int32 × Int32) ⊕ Int32) :=
  mb (gI ZF 12 1 v0) fun x4 =>
  if x4 ≤ v4 then
  mr (
  mp v1)
  else
  mb (vc ZF 12 v0 (Mod_isWrite v0 v4)) fun r5 =>
  if r5 = 0 then
  Mod_needless_78 v0 v1 v2 v4
  else
  mb (gI ZF 12 1 v0) fun x7 =>
  mb (vc ZF 12 v0 (Mod_writesAhead v0 x7)) fun r8 =>
  mb (vc ZF 12 v0 (Mod_plateOf v0 (r8 &&& (((1 : Int32) <<< (v4 &&& 31)) ^^^ ((-1) : Int32))))) fun r9 =>
  if r9 = v2 then
  mb (vc ZF 12 v0 (Mod_isSafe v0 ((1 : Int32) <<< (v4 &&& 31)))) fun r10 =>
  if r10 = 0 then
  Mod_needless_78 v0 v1 v2 v4
  else
  ml (v1 ||| ((1 : Int32) <<< (v4 &&& 31))) fun x11 =>
  Mod_needless_78 v0 x11 v2 v4
  else
  Mod_needless_78 v0 v1 v2 v4
noncomputable def Mod_needless_18 (v0 : Nat) (v2 : Int64) (s : (Int32 × Int32)) : MM Int32 := lo (fun (s : (Int32 × Int32)) => Mod_needless_18_b v0 s.1 v2 s.2) s
noncomputable def Mod_needless (v0 : Nat) : MM Int32 :=
  mb (vc ZF 12 v0 (Mod_layAll v0)) fun _ =>
  mb (vc ZF 12 v0 (Mod_putNothing v0)) fun _ =>
  ml (0 : Int32) fun x1 =>
  mb (vc ZF 12 v0 (Mod_end v0)) fun r2 =>
  ml (0 : Int32) fun x3 =>
  Mod_needless_18 v0 r2 (x1, x3)
set_option maxRecDepth 20000 in
theorem sm_Mod_needless_78 {G : GT} {ad : Nat → Nat} {K : Int32 → Dm → Prop} (C : Cx G rm_Mod_needless cX11_needless 5 RX11) (hV : Vx G rm_Mod_needless ad ZF (0, 0)) (hR : RtI G rm_Mod_needless ad ZF (0, 0) cX11_needless .int K) (v0 : Nat) (v1 : Int32) (v2 : Int64) (v4 : Int32) : Sm G rm_Mod_needless ad ZF (0, 0) (lpK G rm_Mod_needless ad ZF (0, 0) 18 (fun (s : (Int32 × Int32)) => [(0, .ref v0), (1, .int s.1), (2, .long v2), (4, .int s.2)]) K) 78 [(0, .ref v0), (1, .int v1), (2, .long v2), (4, .int v4)] [] (Mod_needless_78 v0 v1 v2 v4) := by
  unfold Mod_needless_78
  refine s_iinc C (L' := fun x6 => [(4, .int x6), (0, .ref v0), (1, .int v1), (2, .long v2)]) (1 : Int32) (by decide) rfl (by decide) (fun _ => rfl) dX11_needless_78 (fun x6 => ?_)
  refine s_goto C 18 (by decide) dX11_needless_81 ?_
  exact s_back [0, 1, 2, 4] (v1, x6) rfl
set_option maxRecDepth 20000 in
theorem sm_Mod_needless_18_b {G : GT} {ad : Nat → Nat} {K : Int32 → Dm → Prop} (C : Cx G rm_Mod_needless cX11_needless 5 RX11) (hV : Vx G rm_Mod_needless ad ZF (0, 0)) (hR : RtI G rm_Mod_needless ad ZF (0, 0) cX11_needless .int K) (v0 : Nat) (v1 : Int32) (v2 : Int64) (v4 : Int32) : Sm G rm_Mod_needless ad ZF (0, 0) (lpK G rm_Mod_needless ad ZF (0, 0) 18 (fun (s : (Int32 × Int32)) => [(0, .ref v0), (1, .int s.1), (2, .long v2), (4, .int s.2)]) K) 18 [(0, .ref v0), (1, .int v1), (2, .long v2), (4, .int v4)] [] (Mod_needless_18_b v0 v1 v2 v4) := by
  unfold Mod_needless_18_b
  refine s_iload C rfl dX11_needless_18 ?_
  refine s_aload_n C rfl dX11_needless_20 ?_
  refine s_getI C hV fl_X11_104 (fun _ _ _ => rfl) dX11_needless_21 (fun x4 => ?_)
  refine s_icmp_ge C 84 (by decide) dX11_needless_24 ?_ ?_
  · refine s_exit ?_
    refine s_iload_n C rfl dX11_needless_84 ?_
    exact s_ireti hR dX11_needless_85
  · refine s_aload_n C rfl dX11_needless_27 ?_
    refine s_iload C rfl dX11_needless_28 ?_
    refine s_wI C hV lv_X11_120 (st := []) (met_Mod_isWrite v0 v4) rf_Mod_needless_Mod_isWrite rfl rfl (Nat.le_of_ble_eq_true rfl) dX11_needless_30 (fun r5 => ?_)
    refine s_if_eq C 78 (by decide) dX11_needless_33 ?_ ?_
    · exact s_weak [0, 1, 2, 4] rfl (sm_Mod_needless_78 C hV hR v0 v1 v2 v4)
    · refine s_aload_n C rfl dX11_needless_36 ?_
      refine s_aload_n C rfl dX11_needless_37 ?_
      refine s_aload_n C rfl dX11_needless_38 ?_
      refine s_getI C hV fl_X11_104 (fun _ _ _ => rfl) dX11_needless_39 (fun x7 => ?_)
      refine s_wI C hV lv_X11_123 (st := [.ref v0]) (met_Mod_writesAhead v0 x7) rf_Mod_needless_Mod_writesAhead rfl rfl (Nat.le_of_ble_eq_true rfl) dX11_needless_42 (fun r8 => ?_)
      refine s_iconst C (1 : Int32) (by decide) dX11_needless_45 ?_
      refine s_iload C rfl dX11_needless_46 ?_
      refine s_ishl C dX11_needless_48 ?_
      refine s_iconst C ((-1) : Int32) (by decide) dX11_needless_49 ?_
      refine s_ixor C dX11_needless_50 ?_
      refine s_iand C dX11_needless_51 ?_
      refine s_wL C hV lv_X11_127 (st := []) (met_Mod_plateOf v0 (r8 &&& (((1 : Int32) <<< (v4 &&& 31)) ^^^ ((-1) : Int32)))) rf_Mod_needless_Mod_plateOf rfl rfl (Nat.le_of_ble_eq_true rfl) dX11_needless_52 (fun r9 => ?_)
      refine s_lload_n C rfl dX11_needless_55 ?_
      refine s_lcmp_ne C 78 (by decide) dX11_needless_56 dX11_needless_57 ?_ ?_
      · exact s_weak [0, 1, 2, 4] rfl (sm_Mod_needless_78 C hV hR v0 v1 v2 v4)
      · refine s_aload_n C rfl dX11_needless_60 ?_
        refine s_iconst C (1 : Int32) (by decide) dX11_needless_61 ?_
        refine s_iload C rfl dX11_needless_62 ?_
        refine s_ishl C dX11_needless_64 ?_
        refine s_wI C hV lv_X11_276 (st := []) (met_Mod_isSafe v0 ((1 : Int32) <<< (v4 &&& 31))) rf_Mod_needless_Mod_isSafe rfl rfl (Nat.le_of_ble_eq_true rfl) dX11_needless_65 (fun r10 => ?_)
        refine s_if_eq C 78 (by decide) dX11_needless_68 ?_ ?_
        · exact s_weak [0, 1, 2, 4] rfl (sm_Mod_needless_78 C hV hR v0 v1 v2 v4)
        · refine s_iload_n C rfl dX11_needless_71 ?_
          refine s_iconst C (1 : Int32) (by decide) dX11_needless_72 ?_
          refine s_iload C rfl dX11_needless_73 ?_
          refine s_ishl C dX11_needless_75 ?_
          refine s_ior C dX11_needless_76 ?_
          refine s_leti (fun x11 => ?_)
          refine s_istore_n C (L' := [(1, .int x11), (0, .ref v0), (2, .long v2), (4, .int v4)]) (by decide) rfl dX11_needless_77 ?_
          exact s_weak [0, 1, 2, 4] rfl (sm_Mod_needless_78 C hV hR v0 x11 v2 v4)
set_option maxRecDepth 20000 in
theorem sm_Mod_needless_18 {G : GT} {ad : Nat → Nat} {K : Int32 → Dm → Prop} (C : Cx G rm_Mod_needless cX11_needless 5 RX11) (hV : Vx G rm_Mod_needless ad ZF (0, 0)) (hR : RtI G rm_Mod_needless ad ZF (0, 0) cX11_needless .int K) (v0 : Nat) (v2 : Int64) (s : (Int32 × Int32)) : Sm G rm_Mod_needless ad ZF (0, 0) K 18 ((fun (s : (Int32 × Int32)) => [(0, .ref v0), (1, .int s.1), (2, .long v2), (4, .int s.2)]) s) [] (Mod_needless_18 v0 v2 s) :=
  s_loop (en := (fun (s : (Int32 × Int32)) => [(0, .ref v0), (1, .int s.1), (2, .long v2), (4, .int s.2)])) (fun s => sm_Mod_needless_18_b C hV hR v0 s.1 v2 s.2) s
set_option maxRecDepth 20000 in
theorem sm_Mod_needless {G : GT} {ad : Nat → Nat} {K : Int32 → Dm → Prop} (C : Cx G rm_Mod_needless cX11_needless 5 RX11) (hV : Vx G rm_Mod_needless ad ZF (0, 0)) (hR : RtI G rm_Mod_needless ad ZF (0, 0) cX11_needless .int K) (v0 : Nat) : Sm G rm_Mod_needless ad ZF (0, 0) K 0 [(0, .ref v0)] [] (Mod_needless v0) := by
  unfold Mod_needless
  refine s_aload_n C rfl dX11_needless_0 ?_
  refine s_wV C hV lv_X11_264 (st := []) (met_Mod_layAll v0) rf_Mod_needless_Mod_layAll rfl rfl (Nat.le_of_ble_eq_true rfl) dX11_needless_1 ?_
  refine s_aload_n C rfl dX11_needless_4 ?_
  refine s_wV C hV lv_X11_267 (st := []) (met_Mod_putNothing v0) rf_Mod_needless_Mod_putNothing rfl rfl (Nat.le_of_ble_eq_true rfl) dX11_needless_5 ?_
  refine s_iconst C (0 : Int32) (by decide) dX11_needless_8 ?_
  refine s_leti (fun x1 => ?_)
  refine s_istore_n C (L' := [(1, .int x1), (0, .ref v0)]) (by decide) rfl dX11_needless_9 ?_
  refine s_aload_n C rfl dX11_needless_10 ?_
  refine s_wL C hV lv_X11_288 (st := []) (met_Mod_end v0) rf_Mod_needless_Mod_end rfl rfl (Nat.le_of_ble_eq_true rfl) dX11_needless_11 (fun r2 => ?_)
  refine s_lstore_n C (L' := [(2, .long r2), (1, .int x1), (0, .ref v0)]) (by decide) rfl dX11_needless_14 ?_
  refine s_iconst C (0 : Int32) (by decide) dX11_needless_15 ?_
  refine s_leti (fun x3 => ?_)
  refine s_istore C (L' := [(4, .int x3), (2, .long r2), (1, .int x1), (0, .ref v0)]) (by decide) rfl dX11_needless_16 ?_
  exact s_weak [0, 1, 2, 4] rfl (sm_Mod_needless_18 C hV hR v0 r2 (x1, x3))
set_option maxRecDepth 20000 in
theorem met_Mod_needless (v0 : Nat) : MI ZF yX11_needless cX11_needless 5 .int rm_Mod_needless [.ref v0] (Mod_needless v0) :=
  mi_of (L0 := [(0, .ref v0)]) (by decide +kernel) (Nat.le_of_ble_eq_true rfl) rfl (fun G ad K C hV hR => sm_Mod_needless C hV hR v0)

noncomputable def Mod_isWriteAt (v0 : Nat) (v1 : Int32) : MM Int32 :=
  mb (gI ZF 12 1 v0) fun x1 =>
  mb ((Mod_in v1 (0 : Int32) (x1 - (1 : Int32)))) fun r2 =>
  if r2 = 0 then
  mz (0 : Int32)
  else
  mb (vc ZF 12 v0 (Mod_isWrite v0 v1)) fun r3 =>
  if r3 = 0 then
  mz (0 : Int32)
  else
  mz (1 : Int32)
set_option maxRecDepth 20000 in
theorem sm_Mod_isWriteAt {G : GT} {ad : Nat → Nat} {K : Int32 → Dm → Prop} (C : Cx G rm_Mod_isWriteAt cX11_isWriteAt 2 RX11) (hV : Vx G rm_Mod_isWriteAt ad ZF (0, 0)) (hR : RtI G rm_Mod_isWriteAt ad ZF (0, 0) cX11_isWriteAt .boolean K) (v0 : Nat) (v1 : Int32) : Sm G rm_Mod_isWriteAt ad ZF (0, 0) K 0 [(0, .ref v0), (1, .int v1)] [] (Mod_isWriteAt v0 v1) := by
  unfold Mod_isWriteAt
  refine s_iload_n C rfl dX11_isWriteAt_0 ?_
  refine s_iconst C (0 : Int32) (by decide) dX11_isWriteAt_1 ?_
  refine s_aload_n C rfl dX11_isWriteAt_2 ?_
  refine s_getI C hV fl_X11_104 (fun _ _ _ => rfl) dX11_isWriteAt_3 (fun x1 => ?_)
  refine s_iconst C (1 : Int32) (by decide) dX11_isWriteAt_6 ?_
  refine s_isub C dX11_isWriteAt_7 ?_
  refine s_uI C hV ls_X11_89 (st := []) (met_Mod_in v1 (0 : Int32) (x1 - (1 : Int32))) rf_Mod_isWriteAt_Mod_in rfl rfl (Nat.le_of_ble_eq_true rfl) dX11_isWriteAt_8 (fun r2 => ?_)
  refine s_if_eq C 26 (by decide) dX11_isWriteAt_11 ?_ ?_
  · refine s_iconst C (0 : Int32) (by decide) dX11_isWriteAt_26 ?_
    exact s_iretz hR dX11_isWriteAt_27
  · refine s_aload_n C rfl dX11_isWriteAt_14 ?_
    refine s_iload_n C rfl dX11_isWriteAt_15 ?_
    refine s_wI C hV lv_X11_120 (st := []) (met_Mod_isWrite v0 v1) rf_Mod_isWriteAt_Mod_isWrite rfl rfl (Nat.le_of_ble_eq_true rfl) dX11_isWriteAt_16 (fun r3 => ?_)
    refine s_if_eq C 26 (by decide) dX11_isWriteAt_19 ?_ ?_
    · refine s_iconst C (0 : Int32) (by decide) dX11_isWriteAt_26 ?_
      exact s_iretz hR dX11_isWriteAt_27
    · refine s_iconst C (1 : Int32) (by decide) dX11_isWriteAt_22 ?_
      refine s_goto C 27 (by decide) dX11_isWriteAt_23 ?_
      exact s_iretz hR dX11_isWriteAt_27
set_option maxRecDepth 20000 in
theorem met_Mod_isWriteAt (v0 : Nat) (v1 : Int32) : MI ZF yX11_isWriteAt cX11_isWriteAt 2 .boolean rm_Mod_isWriteAt [.ref v0, .int v1] (Mod_isWriteAt v0 v1) :=
  mi_of (L0 := [(0, .ref v0), (1, .int v1)]) (by decide +kernel) (Nat.le_of_ble_eq_true rfl) rfl (fun G ad K C hV hR => sm_Mod_isWriteAt C hV hR v0 v1)

noncomputable def Mod_countOrder_81 (v0 : Nat) (v1 : Int32) (v2 : Int32) (v5 : Int32) (v6 : Int32) (v7 : Int32) (v8 : Int32) (t0 : Int32) : MM ((Int32 × Int32 × Int32) ⊕ Int32) :=
  ml ((v8 - (1 : Int32)) &&& v6) fun x8 =>
  mp (.inl (v7, x8, t0))
noncomputable def Mod_countOrder_68 (v0 : Nat) (v1 : Int32) (v2 : Int32) (v5 : Int32) (v6 : Int32) (v8 : Int32) (t0 : Int32) (t1 : Int32) : MM ((Int32 × Int32 × Int32) ⊕ Int32) :=
  ml (t0 + t1) fun x7 =>
  Mod_countOrder_81 v0 v1 v2 v5 v6 x7 v8 (if v8 = 0 then (0 : Int32) else (1 : Int32))
noncomputable def Mod_countOrder_27_b (v0 : Nat) (v1 : Int32) (v2 : Int32) (v5 : Int32) (v6 : Int32) (v7 : Int32) (v8 : Int32) (v9 : Int32) : MM ((Int32 × Int32 × Int32) ⊕ Int32) :=
  if v9 = 0 then
  mr (
  mp v7)
  else
  mb (vc ZF 12 v0 (Mod_asCode v0 ((v2 ||| v8) ||| ((1 : Int32) <<< (v5 &&& 31))))) fun r4 =>
  mb (gR ZF 12 31 v0) fun x5 =>
  mb (aI ZF 23 x5 r4) fun x6 =>
  Mod_countOrder_68 v0 v1 v2 v5 v6 v8 v7 (if ((x6 >>> (v1 &&& 31)) &&& (1 : Int32)) = 0 then (1 : Int32) else (0 : Int32))
noncomputable def Mod_countOrder_27 (v0 : Nat) (v1 : Int32) (v2 : Int32) (v5 : Int32) (v6 : Int32) (s : (Int32 × Int32 × Int32)) : MM Int32 := lo (fun (s : (Int32 × Int32 × Int32)) => Mod_countOrder_27_b v0 v1 v2 v5 v6 s.1 s.2.1 s.2.2) s
noncomputable def Mod_countOrder (v0 : Nat) (v1 : Int32) (v2 : Int32) (v3 : Int32) (v4 : Int32) (v5 : Int32) : MM Int32 :=
  ml ((v3 &&& (((1 : Int32) <<< (v4 &&& 31)) ^^^ ((-1) : Int32))) &&& (((1 : Int32) <<< (v5 &&& 31)) ^^^ ((-1) : Int32))) fun x1 =>
  ml (0 : Int32) fun x2 =>
  ml (1 : Int32) fun x3 =>
  Mod_countOrder_27 v0 v1 v2 v5 x1 (x2, x1, x3)
set_option maxRecDepth 20000 in
theorem sm_Mod_countOrder_81 {G : GT} {ad : Nat → Nat} {K : Int32 → Dm → Prop} (C : Cx G rm_Mod_countOrder cX11_countOrder 11 RX11) (hV : Vx G rm_Mod_countOrder ad ZF (0, 0)) (hR : RtI G rm_Mod_countOrder ad ZF (0, 0) cX11_countOrder .int K) (v0 : Nat) (v1 : Int32) (v2 : Int32) (v5 : Int32) (v6 : Int32) (v7 : Int32) (v8 : Int32) (t0 : Int32) : Sm G rm_Mod_countOrder ad ZF (0, 0) (lpK G rm_Mod_countOrder ad ZF (0, 0) 27 (fun (s : (Int32 × Int32 × Int32)) => [(0, .ref v0), (1, .int v1), (2, .int v2), (5, .int v5), (6, .int v6), (7, .int s.1), (8, .int s.2.1), (9, .int s.2.2)]) K) 81 [(0, .ref v0), (1, .int v1), (2, .int v2), (5, .int v5), (6, .int v6), (7, .int v7), (8, .int v8)] [.int t0] (Mod_countOrder_81 v0 v1 v2 v5 v6 v7 v8 t0) := by
  unfold Mod_countOrder_81
  refine s_istore C (L' := [(9, .int t0), (0, .ref v0), (1, .int v1), (2, .int v2), (5, .int v5), (6, .int v6), (7, .int v7), (8, .int v8)]) (by decide) rfl dX11_countOrder_81 ?_
  refine s_iload C rfl dX11_countOrder_83 ?_
  refine s_iconst C (1 : Int32) (by decide) dX11_countOrder_85 ?_
  refine s_isub C dX11_countOrder_86 ?_
  refine s_iload C rfl dX11_countOrder_87 ?_
  refine s_iand C dX11_countOrder_89 ?_
  refine s_leti (fun x8 => ?_)
  refine s_istore C (L' := [(8, .int x8), (9, .int t0), (0, .ref v0), (1, .int v1), (2, .int v2), (5, .int v5), (6, .int v6), (7, .int v7)]) (by decide) rfl dX11_countOrder_90 ?_
  refine s_goto C 27 (by decide) dX11_countOrder_92 ?_
  exact s_back [0, 1, 2, 5, 6, 7, 8, 9] (v7, x8, t0) rfl
set_option maxRecDepth 20000 in
theorem sm_Mod_countOrder_68 {G : GT} {ad : Nat → Nat} {K : Int32 → Dm → Prop} (C : Cx G rm_Mod_countOrder cX11_countOrder 11 RX11) (hV : Vx G rm_Mod_countOrder ad ZF (0, 0)) (hR : RtI G rm_Mod_countOrder ad ZF (0, 0) cX11_countOrder .int K) (v0 : Nat) (v1 : Int32) (v2 : Int32) (v5 : Int32) (v6 : Int32) (v8 : Int32) (t0 : Int32) (t1 : Int32) : Sm G rm_Mod_countOrder ad ZF (0, 0) (lpK G rm_Mod_countOrder ad ZF (0, 0) 27 (fun (s : (Int32 × Int32 × Int32)) => [(0, .ref v0), (1, .int v1), (2, .int v2), (5, .int v5), (6, .int v6), (7, .int s.1), (8, .int s.2.1), (9, .int s.2.2)]) K) 68 [(0, .ref v0), (1, .int v1), (2, .int v2), (5, .int v5), (6, .int v6), (8, .int v8)] [.int t1, .int t0] (Mod_countOrder_68 v0 v1 v2 v5 v6 v8 t0 t1) := by
  unfold Mod_countOrder_68
  refine s_iadd C dX11_countOrder_68 ?_
  refine s_leti (fun x7 => ?_)
  refine s_istore C (L' := [(7, .int x7), (0, .ref v0), (1, .int v1), (2, .int v2), (5, .int v5), (6, .int v6), (8, .int v8)]) (by decide) rfl dX11_countOrder_69 ?_
  refine s_iload C rfl dX11_countOrder_71 ?_
  refine s_ite (g := fun z => Mod_countOrder_81 v0 v1 v2 v5 v6 x7 v8 z) ?_
  refine s_if_eq C 80 (by decide) dX11_countOrder_73 ?_ ?_
  · refine s_iconst C (0 : Int32) (by decide) dX11_countOrder_80 ?_
    exact s_weak [0, 1, 2, 5, 6, 7, 8] rfl (sm_Mod_countOrder_81 C hV hR v0 v1 v2 v5 v6 x7 v8 (0 : Int32))
  · refine s_iconst C (1 : Int32) (by decide) dX11_countOrder_76 ?_
    refine s_goto C 81 (by decide) dX11_countOrder_77 ?_
    exact s_weak [0, 1, 2, 5, 6, 7, 8] rfl (sm_Mod_countOrder_81 C hV hR v0 v1 v2 v5 v6 x7 v8 (1 : Int32))
set_option maxRecDepth 20000 in
theorem sm_Mod_countOrder_27_b {G : GT} {ad : Nat → Nat} {K : Int32 → Dm → Prop} (C : Cx G rm_Mod_countOrder cX11_countOrder 11 RX11) (hV : Vx G rm_Mod_countOrder ad ZF (0, 0)) (hR : RtI G rm_Mod_countOrder ad ZF (0, 0) cX11_countOrder .int K) (v0 : Nat) (v1 : Int32) (v2 : Int32) (v5 : Int32) (v6 : Int32) (v7 : Int32) (v8 : Int32) (v9 : Int32) : Sm G rm_Mod_countOrder ad ZF (0, 0) (lpK G rm_Mod_countOrder ad ZF (0, 0) 27 (fun (s : (Int32 × Int32 × Int32)) => [(0, .ref v0), (1, .int v1), (2, .int v2), (5, .int v5), (6, .int v6), (7, .int s.1), (8, .int s.2.1), (9, .int s.2.2)]) K) 27 [(0, .ref v0), (1, .int v1), (2, .int v2), (5, .int v5), (6, .int v6), (7, .int v7), (8, .int v8), (9, .int v9)] [] (Mod_countOrder_27_b v0 v1 v2 v5 v6 v7 v8 v9) := by
  unfold Mod_countOrder_27_b
  refine s_iload C rfl dX11_countOrder_27 ?_
  refine s_if_eq C 95 (by decide) dX11_countOrder_29 ?_ ?_
  · refine s_exit ?_
    refine s_iload C rfl dX11_countOrder_95 ?_
    exact s_ireti hR dX11_countOrder_97
  · refine s_aload_n C rfl dX11_countOrder_32 ?_
    refine s_iload_n C rfl dX11_countOrder_33 ?_
    refine s_iload C rfl dX11_countOrder_34 ?_
    refine s_ior C dX11_countOrder_36 ?_
    refine s_iconst C (1 : Int32) (by decide) dX11_countOrder_37 ?_
    refine s_iload C rfl dX11_countOrder_38 ?_
    refine s_ishl C dX11_countOrder_40 ?_
    refine s_ior C dX11_countOrder_41 ?_
    refine s_wI C hV lv_X11_251 (st := []) (met_Mod_asCode v0 ((v2 ||| v8) ||| ((1 : Int32) <<< (v5 &&& 31)))) rf_Mod_countOrder_Mod_asCode rfl rfl (Nat.le_of_ble_eq_true rfl) dX11_countOrder_42 (fun r4 => ?_)
    refine s_istore C (L' := [(10, .int r4), (0, .ref v0), (1, .int v1), (2, .int v2), (5, .int v5), (6, .int v6), (7, .int v7), (8, .int v8), (9, .int v9)]) (by decide) rfl dX11_countOrder_45 ?_
    refine s_iload C rfl dX11_countOrder_47 ?_
    refine s_aload_n C rfl dX11_countOrder_49 ?_
    refine s_getR C hV fl_X11_68 (fun _ _ _ => rfl) dX11_countOrder_50 (fun x5 => ?_)
    refine s_iload C rfl dX11_countOrder_53 ?_
    refine s_iaload C hV dX11_countOrder_55 (fun x6 => ?_)
    refine s_iload_n C rfl dX11_countOrder_56 ?_
    refine s_ishr C dX11_countOrder_57 ?_
    refine s_iconst C (1 : Int32) (by decide) dX11_countOrder_58 ?_
    refine s_iand C dX11_countOrder_59 ?_
    refine s_ite (g := fun z => Mod_countOrder_68 v0 v1 v2 v5 v6 v8 v7 z) ?_
    refine s_if_ne C 67 (by decide) dX11_countOrder_60 ?_ ?_
    · refine s_iconst C (0 : Int32) (by decide) dX11_countOrder_67 ?_
      exact s_weak [0, 1, 2, 5, 6, 8] rfl (sm_Mod_countOrder_68 C hV hR v0 v1 v2 v5 v6 v8 v7 (0 : Int32))
    · refine s_iconst C (1 : Int32) (by decide) dX11_countOrder_63 ?_
      refine s_goto C 68 (by decide) dX11_countOrder_64 ?_
      exact s_weak [0, 1, 2, 5, 6, 8] rfl (sm_Mod_countOrder_68 C hV hR v0 v1 v2 v5 v6 v8 v7 (1 : Int32))
set_option maxRecDepth 20000 in
theorem sm_Mod_countOrder_27 {G : GT} {ad : Nat → Nat} {K : Int32 → Dm → Prop} (C : Cx G rm_Mod_countOrder cX11_countOrder 11 RX11) (hV : Vx G rm_Mod_countOrder ad ZF (0, 0)) (hR : RtI G rm_Mod_countOrder ad ZF (0, 0) cX11_countOrder .int K) (v0 : Nat) (v1 : Int32) (v2 : Int32) (v5 : Int32) (v6 : Int32) (s : (Int32 × Int32 × Int32)) : Sm G rm_Mod_countOrder ad ZF (0, 0) K 27 ((fun (s : (Int32 × Int32 × Int32)) => [(0, .ref v0), (1, .int v1), (2, .int v2), (5, .int v5), (6, .int v6), (7, .int s.1), (8, .int s.2.1), (9, .int s.2.2)]) s) [] (Mod_countOrder_27 v0 v1 v2 v5 v6 s) :=
  s_loop (en := (fun (s : (Int32 × Int32 × Int32)) => [(0, .ref v0), (1, .int v1), (2, .int v2), (5, .int v5), (6, .int v6), (7, .int s.1), (8, .int s.2.1), (9, .int s.2.2)])) (fun s => sm_Mod_countOrder_27_b C hV hR v0 v1 v2 v5 v6 s.1 s.2.1 s.2.2) s
set_option maxRecDepth 20000 in
theorem sm_Mod_countOrder {G : GT} {ad : Nat → Nat} {K : Int32 → Dm → Prop} (C : Cx G rm_Mod_countOrder cX11_countOrder 11 RX11) (hV : Vx G rm_Mod_countOrder ad ZF (0, 0)) (hR : RtI G rm_Mod_countOrder ad ZF (0, 0) cX11_countOrder .int K) (v0 : Nat) (v1 : Int32) (v2 : Int32) (v3 : Int32) (v4 : Int32) (v5 : Int32) : Sm G rm_Mod_countOrder ad ZF (0, 0) K 0 [(0, .ref v0), (1, .int v1), (2, .int v2), (3, .int v3), (4, .int v4), (5, .int v5)] [] (Mod_countOrder v0 v1 v2 v3 v4 v5) := by
  unfold Mod_countOrder
  refine s_iload_n C rfl dX11_countOrder_0 ?_
  refine s_iconst C (1 : Int32) (by decide) dX11_countOrder_1 ?_
  refine s_iload C rfl dX11_countOrder_2 ?_
  refine s_ishl C dX11_countOrder_4 ?_
  refine s_iconst C ((-1) : Int32) (by decide) dX11_countOrder_5 ?_
  refine s_ixor C dX11_countOrder_6 ?_
  refine s_iand C dX11_countOrder_7 ?_
  refine s_iconst C (1 : Int32) (by decide) dX11_countOrder_8 ?_
  refine s_iload C rfl dX11_countOrder_9 ?_
  refine s_ishl C dX11_countOrder_11 ?_
  refine s_iconst C ((-1) : Int32) (by decide) dX11_countOrder_12 ?_
  refine s_ixor C dX11_countOrder_13 ?_
  refine s_iand C dX11_countOrder_14 ?_
  refine s_leti (fun x1 => ?_)
  refine s_istore C (L' := [(6, .int x1), (0, .ref v0), (1, .int v1), (2, .int v2), (3, .int v3), (4, .int v4), (5, .int v5)]) (by decide) rfl dX11_countOrder_15 ?_
  refine s_iconst C (0 : Int32) (by decide) dX11_countOrder_17 ?_
  refine s_leti (fun x2 => ?_)
  refine s_istore C (L' := [(7, .int x2), (6, .int x1), (0, .ref v0), (1, .int v1), (2, .int v2), (3, .int v3), (4, .int v4), (5, .int v5)]) (by decide) rfl dX11_countOrder_18 ?_
  refine s_iload C rfl dX11_countOrder_20 ?_
  refine s_istore C (L' := [(8, .int x1), (7, .int x2), (6, .int x1), (0, .ref v0), (1, .int v1), (2, .int v2), (3, .int v3), (4, .int v4), (5, .int v5)]) (by decide) rfl dX11_countOrder_22 ?_
  refine s_iconst C (1 : Int32) (by decide) dX11_countOrder_24 ?_
  refine s_leti (fun x3 => ?_)
  refine s_istore C (L' := [(9, .int x3), (8, .int x1), (7, .int x2), (6, .int x1), (0, .ref v0), (1, .int v1), (2, .int v2), (3, .int v3), (4, .int v4), (5, .int v5)]) (by decide) rfl dX11_countOrder_25 ?_
  exact s_weak [0, 1, 2, 5, 6, 7, 8, 9] rfl (sm_Mod_countOrder_27 C hV hR v0 v1 v2 v5 x1 (x2, x1, x3))
set_option maxRecDepth 20000 in
theorem met_Mod_countOrder (v0 : Nat) (v1 : Int32) (v2 : Int32) (v3 : Int32) (v4 : Int32) (v5 : Int32) : MI ZF yX11_countOrder cX11_countOrder 11 .int rm_Mod_countOrder [.ref v0, .int v1, .int v2, .int v3, .int v4, .int v5] (Mod_countOrder v0 v1 v2 v3 v4 v5) :=
  mi_of (L0 := [(0, .ref v0), (1, .int v1), (2, .int v2), (3, .int v3), (4, .int v4), (5, .int v5)]) (by decide +kernel) (Nat.le_of_ble_eq_true rfl) rfl (fun G ad K C hV hR => sm_Mod_countOrder C hV hR v0 v1 v2 v3 v4 v5)

noncomputable def Mod_order_120 (v0 : Nat) (v1 : Int32) (v2 : Int32) (v3 : Int32) (v4 : Int32) (v5 : Int32) : MM ((Int32 × Int32) ⊕ Int32) :=
  mb (gR ZF 12 36 v0) fun x11 =>
  mb (aI ZF 23 x11 v5) fun x12 =>
  ml (v4 ||| x12) fun x13 =>
  ml (v5 + (1 : Int32)) fun x14 =>
  mp (.inl (x13, x14))
noncomputable def Mod_order_64_b (v0 : Nat) (v1 : Int32) (v2 : Int32) (v3 : Int32) (v4 : Int32) (v5 : Int32) : MM ((Int32 × Int32) ⊕ Int32) :=
  mb (gI ZF 12 37 v0) fun x8 =>
  if x8 ≤ v5 then
  mr (
  mp ((-103) : Int32))
  else
  mb (gR ZF 12 36 v0) fun x9 =>
  mb (aI ZF 23 x9 v5) fun x10 =>
  if ((x10 >>> (v2 &&& 31)) &&& (1 : Int32)) = (1 : Int32) then
  mb (gR ZF 12 36 v0) fun x15 =>
  mb (aI ZF 23 x15 v5) fun x16 =>
  if ((x16 >>> (v3 &&& 31)) &&& (1 : Int32)) = (1 : Int32) then
  mr (
  mb (gR ZF 12 36 v0) fun x17 =>
  mb (aI ZF 23 x17 v5) fun x18 =>
  mb (vc ZF 12 v0 (Mod_countOrder v0 v1 v4 x18 v2 v3)) fun r19 =>
  mp r19)
  else
  Mod_order_120 v0 v1 v2 v3 v4 v5
  else
  Mod_order_120 v0 v1 v2 v3 v4 v5
noncomputable def Mod_order_64 (v0 : Nat) (v1 : Int32) (v2 : Int32) (v3 : Int32) (s : (Int32 × Int32)) : MM Int32 := lo (fun (s : (Int32 × Int32)) => Mod_order_64_b v0 v1 v2 v3 s.1 s.2) s
noncomputable def Mod_order (v0 : Nat) (v1 : Int32) (v2 : Int32) (v3 : Int32) : MM Int32 :=
  mb (gI ZF 12 6 v0) fun x1 =>
  mb ((Mod_in v1 (0 : Int32) (x1 - (1 : Int32)))) fun r2 =>
  if r2 = 0 then
  mp ((-101) : Int32)
  else
  mb (vc ZF 12 v0 (Mod_isWriteAt v0 v2)) fun r3 =>
  if r3 = 0 then
  mp ((-101) : Int32)
  else
  mb (vc ZF 12 v0 (Mod_isWriteAt v0 v3)) fun r4 =>
  if r4 = 0 then
  mp ((-101) : Int32)
  else
  if v2 = v3 then
  mp ((-101) : Int32)
  else
  mb (vc ZF 12 v0 (Mod_layAll v0)) fun _ =>
  mb (vc ZF 12 v0 (Mod_putNothing v0)) fun _ =>
  mb (gI ZF 12 1 v0) fun x5 =>
  mb (vc ZF 12 v0 (Mod_cutEpochs v0 x5 (0 : Int32))) fun _ =>
  mb (gI ZF 12 38 v0) fun x6 =>
  ml (0 : Int32) fun x7 =>
  Mod_order_64 v0 v1 v2 v3 (x6, x7)
set_option maxRecDepth 20000 in
theorem sm_Mod_order_120 {G : GT} {ad : Nat → Nat} {K : Int32 → Dm → Prop} (C : Cx G rm_Mod_order cX11_order 6 RX11) (hV : Vx G rm_Mod_order ad ZF (0, 0)) (hR : RtI G rm_Mod_order ad ZF (0, 0) cX11_order .int K) (v0 : Nat) (v1 : Int32) (v2 : Int32) (v3 : Int32) (v4 : Int32) (v5 : Int32) : Sm G rm_Mod_order ad ZF (0, 0) (lpK G rm_Mod_order ad ZF (0, 0) 64 (fun (s : (Int32 × Int32)) => [(0, .ref v0), (1, .int v1), (2, .int v2), (3, .int v3), (4, .int s.1), (5, .int s.2)]) K) 120 [(0, .ref v0), (1, .int v1), (2, .int v2), (3, .int v3), (4, .int v4), (5, .int v5)] [] (Mod_order_120 v0 v1 v2 v3 v4 v5) := by
  unfold Mod_order_120
  refine s_iload C rfl dX11_order_120 ?_
  refine s_aload_n C rfl dX11_order_122 ?_
  refine s_getR C hV fl_X11_80 (fun _ _ _ => rfl) dX11_order_123 (fun x11 => ?_)
  refine s_iload C rfl dX11_order_126 ?_
  refine s_iaload C hV dX11_order_128 (fun x12 => ?_)
  refine s_ior C dX11_order_129 ?_
  refine s_leti (fun x13 => ?_)
  refine s_istore C (L' := [(4, .int x13), (0, .ref v0), (1, .int v1), (2, .int v2), (3, .int v3), (5, .int v5)]) (by decide) rfl dX11_order_130 ?_
  refine s_iinc C (L' := fun x14 => [(5, .int x14), (4, .int x13), (0, .ref v0), (1, .int v1), (2, .int v2), (3, .int v3)]) (1 : Int32) (by decide) rfl (by decide) (fun _ => rfl) dX11_order_132 (fun x14 => ?_)
  refine s_goto C 64 (by decide) dX11_order_135 ?_
  exact s_back [0, 1, 2, 3, 4, 5] (x13, x14) rfl
set_option maxRecDepth 20000 in
theorem sm_Mod_order_64_b {G : GT} {ad : Nat → Nat} {K : Int32 → Dm → Prop} (C : Cx G rm_Mod_order cX11_order 6 RX11) (hV : Vx G rm_Mod_order ad ZF (0, 0)) (hR : RtI G rm_Mod_order ad ZF (0, 0) cX11_order .int K) (v0 : Nat) (v1 : Int32) (v2 : Int32) (v3 : Int32) (v4 : Int32) (v5 : Int32) : Sm G rm_Mod_order ad ZF (0, 0) (lpK G rm_Mod_order ad ZF (0, 0) 64 (fun (s : (Int32 × Int32)) => [(0, .ref v0), (1, .int v1), (2, .int v2), (3, .int v3), (4, .int s.1), (5, .int s.2)]) K) 64 [(0, .ref v0), (1, .int v1), (2, .int v2), (3, .int v3), (4, .int v4), (5, .int v5)] [] (Mod_order_64_b v0 v1 v2 v3 v4 v5) := by
  unfold Mod_order_64_b
  refine s_iload C rfl dX11_order_64 ?_
  refine s_aload_n C rfl dX11_order_66 ?_
  refine s_getI C hV fl_X11_238 (fun _ _ _ => rfl) dX11_order_67 (fun x8 => ?_)
  refine s_icmp_ge C 138 (by decide) dX11_order_70 ?_ ?_
  · refine s_exit ?_
    refine s_bipush C ((-103) : Int32) (by decide) dX11_order_138 ?_
    exact s_ireti hR dX11_order_140
  · refine s_aload_n C rfl dX11_order_73 ?_
    refine s_getR C hV fl_X11_80 (fun _ _ _ => rfl) dX11_order_74 (fun x9 => ?_)
    refine s_iload C rfl dX11_order_77 ?_
    refine s_iaload C hV dX11_order_79 (fun x10 => ?_)
    refine s_iload_n C rfl dX11_order_80 ?_
    refine s_ishr C dX11_order_81 ?_
    refine s_iconst C (1 : Int32) (by decide) dX11_order_82 ?_
    refine s_iand C dX11_order_83 ?_
    refine s_iconst C (1 : Int32) (by decide) dX11_order_84 ?_
    refine s_icmp_ne C 120 (by decide) dX11_order_85 ?_ ?_
    · exact s_weak [0, 1, 2, 3, 4, 5] rfl (sm_Mod_order_120 C hV hR v0 v1 v2 v3 v4 v5)
    · refine s_aload_n C rfl dX11_order_88 ?_
      refine s_getR C hV fl_X11_80 (fun _ _ _ => rfl) dX11_order_89 (fun x15 => ?_)
      refine s_iload C rfl dX11_order_92 ?_
      refine s_iaload C hV dX11_order_94 (fun x16 => ?_)
      refine s_iload_n C rfl dX11_order_95 ?_
      refine s_ishr C dX11_order_96 ?_
      refine s_iconst C (1 : Int32) (by decide) dX11_order_97 ?_
      refine s_iand C dX11_order_98 ?_
      refine s_iconst C (1 : Int32) (by decide) dX11_order_99 ?_
      refine s_icmp_ne C 120 (by decide) dX11_order_100 ?_ ?_
      · exact s_weak [0, 1, 2, 3, 4, 5] rfl (sm_Mod_order_120 C hV hR v0 v1 v2 v3 v4 v5)
      · refine s_exit ?_
        refine s_aload_n C rfl dX11_order_103 ?_
        refine s_iload_n C rfl dX11_order_104 ?_
        refine s_iload C rfl dX11_order_105 ?_
        refine s_aload_n C rfl dX11_order_107 ?_
        refine s_getR C hV fl_X11_80 (fun _ _ _ => rfl) dX11_order_108 (fun x17 => ?_)
        refine s_iload C rfl dX11_order_111 ?_
        refine s_iaload C hV dX11_order_113 (fun x18 => ?_)
        refine s_iload_n C rfl dX11_order_114 ?_
        refine s_iload_n C rfl dX11_order_115 ?_
        refine s_wI C hV lv_X11_293 (st := []) (met_Mod_countOrder v0 v1 v4 x18 v2 v3) rf_Mod_order_Mod_countOrder rfl rfl (Nat.le_of_ble_eq_true rfl) dX11_order_116 (fun r19 => ?_)
        exact s_ireti hR dX11_order_119
set_option maxRecDepth 20000 in
theorem sm_Mod_order_64 {G : GT} {ad : Nat → Nat} {K : Int32 → Dm → Prop} (C : Cx G rm_Mod_order cX11_order 6 RX11) (hV : Vx G rm_Mod_order ad ZF (0, 0)) (hR : RtI G rm_Mod_order ad ZF (0, 0) cX11_order .int K) (v0 : Nat) (v1 : Int32) (v2 : Int32) (v3 : Int32) (s : (Int32 × Int32)) : Sm G rm_Mod_order ad ZF (0, 0) K 64 ((fun (s : (Int32 × Int32)) => [(0, .ref v0), (1, .int v1), (2, .int v2), (3, .int v3), (4, .int s.1), (5, .int s.2)]) s) [] (Mod_order_64 v0 v1 v2 v3 s) :=
  s_loop (en := (fun (s : (Int32 × Int32)) => [(0, .ref v0), (1, .int v1), (2, .int v2), (3, .int v3), (4, .int s.1), (5, .int s.2)])) (fun s => sm_Mod_order_64_b C hV hR v0 v1 v2 v3 s.1 s.2) s
set_option maxRecDepth 20000 in
theorem sm_Mod_order {G : GT} {ad : Nat → Nat} {K : Int32 → Dm → Prop} (C : Cx G rm_Mod_order cX11_order 6 RX11) (hV : Vx G rm_Mod_order ad ZF (0, 0)) (hR : RtI G rm_Mod_order ad ZF (0, 0) cX11_order .int K) (v0 : Nat) (v1 : Int32) (v2 : Int32) (v3 : Int32) : Sm G rm_Mod_order ad ZF (0, 0) K 0 [(0, .ref v0), (1, .int v1), (2, .int v2), (3, .int v3)] [] (Mod_order v0 v1 v2 v3) := by
  unfold Mod_order
  refine s_iload_n C rfl dX11_order_0 ?_
  refine s_iconst C (0 : Int32) (by decide) dX11_order_1 ?_
  refine s_aload_n C rfl dX11_order_2 ?_
  refine s_getI C hV fl_X11_111 (fun _ _ _ => rfl) dX11_order_3 (fun x1 => ?_)
  refine s_iconst C (1 : Int32) (by decide) dX11_order_6 ?_
  refine s_isub C dX11_order_7 ?_
  refine s_uI C hV ls_X11_89 (st := []) (met_Mod_in v1 (0 : Int32) (x1 - (1 : Int32))) rf_Mod_order_Mod_in rfl rfl (Nat.le_of_ble_eq_true rfl) dX11_order_8 (fun r2 => ?_)
  refine s_if_eq C 35 (by decide) dX11_order_11 ?_ ?_
  · refine s_bipush C ((-101) : Int32) (by decide) dX11_order_35 ?_
    exact s_ireti hR dX11_order_37
  · refine s_aload_n C rfl dX11_order_14 ?_
    refine s_iload_n C rfl dX11_order_15 ?_
    refine s_wI C hV lv_X11_290 (st := []) (met_Mod_isWriteAt v0 v2) rf_Mod_order_Mod_isWriteAt rfl rfl (Nat.le_of_ble_eq_true rfl) dX11_order_16 (fun r3 => ?_)
    refine s_if_eq C 35 (by decide) dX11_order_19 ?_ ?_
    · refine s_bipush C ((-101) : Int32) (by decide) dX11_order_35 ?_
      exact s_ireti hR dX11_order_37
    · refine s_aload_n C rfl dX11_order_22 ?_
      refine s_iload_n C rfl dX11_order_23 ?_
      refine s_wI C hV lv_X11_290 (st := []) (met_Mod_isWriteAt v0 v3) rf_Mod_order_Mod_isWriteAt rfl rfl (Nat.le_of_ble_eq_true rfl) dX11_order_24 (fun r4 => ?_)
      refine s_if_eq C 35 (by decide) dX11_order_27 ?_ ?_
      · refine s_bipush C ((-101) : Int32) (by decide) dX11_order_35 ?_
        exact s_ireti hR dX11_order_37
      · refine s_iload_n C rfl dX11_order_30 ?_
        refine s_iload_n C rfl dX11_order_31 ?_
        refine s_icmp_ne C 38 (by decide) dX11_order_32 ?_ ?_
        · refine s_aload_n C rfl dX11_order_38 ?_
          refine s_wV C hV lv_X11_264 (st := []) (met_Mod_layAll v0) rf_Mod_order_Mod_layAll rfl rfl (Nat.le_of_ble_eq_true rfl) dX11_order_39 ?_
          refine s_aload_n C rfl dX11_order_42 ?_
          refine s_wV C hV lv_X11_267 (st := []) (met_Mod_putNothing v0) rf_Mod_order_Mod_putNothing rfl rfl (Nat.le_of_ble_eq_true rfl) dX11_order_43 ?_
          refine s_aload_n C rfl dX11_order_46 ?_
          refine s_aload_n C rfl dX11_order_47 ?_
          refine s_getI C hV fl_X11_104 (fun _ _ _ => rfl) dX11_order_48 (fun x5 => ?_)
          refine s_iconst C (0 : Int32) (by decide) dX11_order_51 ?_
          refine s_wV C hV lv_X11_244 (st := []) (met_Mod_cutEpochs v0 x5 (0 : Int32)) rf_Mod_order_Mod_cutEpochs rfl rfl (Nat.le_of_ble_eq_true rfl) dX11_order_52 ?_
          refine s_aload_n C rfl dX11_order_55 ?_
          refine s_getI C hV fl_X11_235 (fun _ _ _ => rfl) dX11_order_56 (fun x6 => ?_)
          refine s_istore C (L' := [(4, .int x6), (0, .ref v0), (1, .int v1), (2, .int v2), (3, .int v3)]) (by decide) rfl dX11_order_59 ?_
          refine s_iconst C (0 : Int32) (by decide) dX11_order_61 ?_
          refine s_leti (fun x7 => ?_)
          refine s_istore C (L' := [(5, .int x7), (4, .int x6), (0, .ref v0), (1, .int v1), (2, .int v2), (3, .int v3)]) (by decide) rfl dX11_order_62 ?_
          exact s_weak [0, 1, 2, 3, 4, 5] rfl (sm_Mod_order_64 C hV hR v0 v1 v2 v3 (x6, x7))
        · refine s_bipush C ((-101) : Int32) (by decide) dX11_order_35 ?_
          exact s_ireti hR dX11_order_37
set_option maxRecDepth 20000 in
theorem met_Mod_order (v0 : Nat) (v1 : Int32) (v2 : Int32) (v3 : Int32) : MI ZF yX11_order cX11_order 6 .int rm_Mod_order [.ref v0, .int v1, .int v2, .int v3] (Mod_order v0 v1 v2 v3) :=
  mi_of (L0 := [(0, .ref v0), (1, .int v1), (2, .int v2), (3, .int v3)]) (by decide +kernel) (Nat.le_of_ble_eq_true rfl) rfl (fun G ad K C hV hR => sm_Mod_order C hV hR v0 v1 v2 v3)

noncomputable def Mod_epochsWithWrites_61 (v0 : Nat) (v1 : Int32) (v2 : Int32) (v3 : Int32) : MM ((Int32 × Int32 × Int32) ⊕ Int32) :=
  ml (v3 + (1 : Int32)) fun x5 =>
  mp (.inl (v1, v2, x5))
noncomputable def Mod_epochsWithWrites_56 (v0 : Nat) (v1 : Int32) (v3 : Int32) : MM ((Int32 × Int32 × Int32) ⊕ Int32) :=
  ml (v1 + (1 : Int32)) fun x8 =>
  ml (0 : Int32) fun x9 =>
  Mod_epochsWithWrites_61 v0 x8 x9 v3
noncomputable def Mod_epochsWithWrites_31 (v0 : Nat) (v1 : Int32) (v3 : Int32) (t0 : Int32) : MM ((Int32 × Int32 × Int32) ⊕ Int32) :=
  if t0 = 0 then
  Mod_epochsWithWrites_61 v0 v1 t0 v3
  else
  mb (gR ZF 12 2 v0) fun x6 =>
  mb (aI ZF 23 x6 v3) fun x7 =>
  if x7 = (2 : Int32) then
  Mod_epochsWithWrites_56 v0 v1 v3
  else
  mb (gR ZF 12 2 v0) fun x10 =>
  mb (aI ZF 23 x10 v3) fun x11 =>
  if x11 = (3 : Int32) then
  Mod_epochsWithWrites_56 v0 v1 v3
  else
  Mod_epochsWithWrites_61 v0 v1 t0 v3
noncomputable def Mod_epochsWithWrites_26 (v0 : Nat) (v1 : Int32) (v3 : Int32) : MM ((Int32 × Int32 × Int32) ⊕ Int32) :=
  Mod_epochsWithWrites_31 v0 v1 v3 (1 : Int32)
noncomputable def Mod_epochsWithWrites_6_b (v0 : Nat) (v1 : Int32) (v2 : Int32) (v3 : Int32) : MM ((Int32 × Int32 × Int32) ⊕ Int32) :=
  mb (gI ZF 12 1 v0) fun x4 =>
  if x4 ≤ v3 then
  mr (
  if v2 = 0 then
  mp v1
  else
  mp (v1 + (1 : Int32)))
  else
  if v2 = 0 then
  mb (vc ZF 12 v0 (Mod_isWrite v0 v3)) fun r12 =>
  if r12 = 0 then
  Mod_epochsWithWrites_31 v0 v1 v3 (0 : Int32)
  else
  Mod_epochsWithWrites_26 v0 v1 v3
  else
  Mod_epochsWithWrites_26 v0 v1 v3
noncomputable def Mod_epochsWithWrites_6 (v0 : Nat) (s : (Int32 × Int32 × Int32)) : MM Int32 := lo (fun (s : (Int32 × Int32 × Int32)) => Mod_epochsWithWrites_6_b v0 s.1 s.2.1 s.2.2) s
noncomputable def Mod_epochsWithWrites (v0 : Nat) : MM Int32 :=
  ml (0 : Int32) fun x1 =>
  ml (0 : Int32) fun x2 =>
  ml (0 : Int32) fun x3 =>
  Mod_epochsWithWrites_6 v0 (x1, x2, x3)
set_option maxRecDepth 20000 in
theorem sm_Mod_epochsWithWrites_61 {G : GT} {ad : Nat → Nat} {K : Int32 → Dm → Prop} (C : Cx G rm_Mod_epochsWithWrites cX11_epochsWithWrites 4 RX11) (hV : Vx G rm_Mod_epochsWithWrites ad ZF (0, 0)) (hR : RtI G rm_Mod_epochsWithWrites ad ZF (0, 0) cX11_epochsWithWrites .int K) (v0 : Nat) (v1 : Int32) (v2 : Int32) (v3 : Int32) : Sm G rm_Mod_epochsWithWrites ad ZF (0, 0) (lpK G rm_Mod_epochsWithWrites ad ZF (0, 0) 6 (fun (s : (Int32 × Int32 × Int32)) => [(0, .ref v0), (1, .int s.1), (2, .int s.2.1), (3, .int s.2.2)]) K) 61 [(0, .ref v0), (1, .int v1), (2, .int v2), (3, .int v3)] [] (Mod_epochsWithWrites_61 v0 v1 v2 v3) := by
  unfold Mod_epochsWithWrites_61
  refine s_iinc C (L' := fun x5 => [(3, .int x5), (0, .ref v0), (1, .int v1), (2, .int v2)]) (1 : Int32) (by decide) rfl (by decide) (fun _ => rfl) dX11_epochsWithWrites_61 (fun x5 => ?_)
  refine s_goto C 6 (by decide) dX11_epochsWithWrites_64 ?_
  exact s_back [0, 1, 2, 3] (v1, v2, x5) rfl
set_option maxRecDepth 20000 in
theorem sm_Mod_epochsWithWrites_56 {G : GT} {ad : Nat → Nat} {K : Int32 → Dm → Prop} (C : Cx G rm_Mod_epochsWithWrites cX11_epochsWithWrites 4 RX11) (hV : Vx G rm_Mod_epochsWithWrites ad ZF (0, 0)) (hR : RtI G rm_Mod_epochsWithWrites ad ZF (0, 0) cX11_epochsWithWrites .int K) (v0 : Nat) (v1 : Int32) (v3 : Int32) : Sm G rm_Mod_epochsWithWrites ad ZF (0, 0) (lpK G rm_Mod_epochsWithWrites ad ZF (0, 0) 6 (fun (s : (Int32 × Int32 × Int32)) => [(0, .ref v0), (1, .int s.1), (2, .int s.2.1), (3, .int s.2.2)]) K) 56 [(0, .ref v0), (1, .int v1), (3, .int v3)] [] (Mod_epochsWithWrites_56 v0 v1 v3) := by
  unfold Mod_epochsWithWrites_56
  refine s_iinc C (L' := fun x8 => [(1, .int x8), (0, .ref v0), (3, .int v3)]) (1 : Int32) (by decide) rfl (by decide) (fun _ => rfl) dX11_epochsWithWrites_56 (fun x8 => ?_)
  refine s_iconst C (0 : Int32) (by decide) dX11_epochsWithWrites_59 ?_
  refine s_leti (fun x9 => ?_)
  refine s_istore_n C (L' := [(2, .int x9), (1, .int x8), (0, .ref v0), (3, .int v3)]) (by decide) rfl dX11_epochsWithWrites_60 ?_
  exact s_weak [0, 1, 2, 3] rfl (sm_Mod_epochsWithWrites_61 C hV hR v0 x8 x9 v3)
set_option maxRecDepth 20000 in
theorem sm_Mod_epochsWithWrites_31 {G : GT} {ad : Nat → Nat} {K : Int32 → Dm → Prop} (C : Cx G rm_Mod_epochsWithWrites cX11_epochsWithWrites 4 RX11) (hV : Vx G rm_Mod_epochsWithWrites ad ZF (0, 0)) (hR : RtI G rm_Mod_epochsWithWrites ad ZF (0, 0) cX11_epochsWithWrites .int K) (v0 : Nat) (v1 : Int32) (v3 : Int32) (t0 : Int32) : Sm G rm_Mod_epochsWithWrites ad ZF (0, 0) (lpK G rm_Mod_epochsWithWrites ad ZF (0, 0) 6 (fun (s : (Int32 × Int32 × Int32)) => [(0, .ref v0), (1, .int s.1), (2, .int s.2.1), (3, .int s.2.2)]) K) 31 [(0, .ref v0), (1, .int v1), (3, .int v3)] [.int t0] (Mod_epochsWithWrites_31 v0 v1 v3 t0) := by
  unfold Mod_epochsWithWrites_31
  refine s_istore_n C (L' := [(2, .int t0), (0, .ref v0), (1, .int v1), (3, .int v3)]) (by decide) rfl dX11_epochsWithWrites_31 ?_
  refine s_iload_n C rfl dX11_epochsWithWrites_32 ?_
  refine s_if_eq C 61 (by decide) dX11_epochsWithWrites_33 ?_ ?_
  · exact s_weak [0, 1, 2, 3] rfl (sm_Mod_epochsWithWrites_61 C hV hR v0 v1 t0 v3)
  · refine s_aload_n C rfl dX11_epochsWithWrites_36 ?_
    refine s_getR C hV fl_X11_13 (fun _ _ _ => rfl) dX11_epochsWithWrites_37 (fun x6 => ?_)
    refine s_iload_n C rfl dX11_epochsWithWrites_40 ?_
    refine s_iaload C hV dX11_epochsWithWrites_41 (fun x7 => ?_)
    refine s_iconst C (2 : Int32) (by decide) dX11_epochsWithWrites_42 ?_
    refine s_icmp_eq C 56 (by decide) dX11_epochsWithWrites_43 ?_ ?_
    · exact s_weak [0, 1, 3] rfl (sm_Mod_epochsWithWrites_56 C hV hR v0 v1 v3)
    · refine s_aload_n C rfl dX11_epochsWithWrites_46 ?_
      refine s_getR C hV fl_X11_13 (fun _ _ _ => rfl) dX11_epochsWithWrites_47 (fun x10 => ?_)
      refine s_iload_n C rfl dX11_epochsWithWrites_50 ?_
      refine s_iaload C hV dX11_epochsWithWrites_51 (fun x11 => ?_)
      refine s_iconst C (3 : Int32) (by decide) dX11_epochsWithWrites_52 ?_
      refine s_icmp_ne C 61 (by decide) dX11_epochsWithWrites_53 ?_ ?_
      · exact s_weak [0, 1, 2, 3] rfl (sm_Mod_epochsWithWrites_61 C hV hR v0 v1 t0 v3)
      · exact s_weak [0, 1, 3] rfl (sm_Mod_epochsWithWrites_56 C hV hR v0 v1 v3)
set_option maxRecDepth 20000 in
theorem sm_Mod_epochsWithWrites_26 {G : GT} {ad : Nat → Nat} {K : Int32 → Dm → Prop} (C : Cx G rm_Mod_epochsWithWrites cX11_epochsWithWrites 4 RX11) (hV : Vx G rm_Mod_epochsWithWrites ad ZF (0, 0)) (hR : RtI G rm_Mod_epochsWithWrites ad ZF (0, 0) cX11_epochsWithWrites .int K) (v0 : Nat) (v1 : Int32) (v3 : Int32) : Sm G rm_Mod_epochsWithWrites ad ZF (0, 0) (lpK G rm_Mod_epochsWithWrites ad ZF (0, 0) 6 (fun (s : (Int32 × Int32 × Int32)) => [(0, .ref v0), (1, .int s.1), (2, .int s.2.1), (3, .int s.2.2)]) K) 26 [(0, .ref v0), (1, .int v1), (3, .int v3)] [] (Mod_epochsWithWrites_26 v0 v1 v3) := by
  unfold Mod_epochsWithWrites_26
  refine s_iconst C (1 : Int32) (by decide) dX11_epochsWithWrites_26 ?_
  refine s_goto C 31 (by decide) dX11_epochsWithWrites_27 ?_
  exact s_weak [0, 1, 3] rfl (sm_Mod_epochsWithWrites_31 C hV hR v0 v1 v3 (1 : Int32))
set_option maxRecDepth 20000 in
theorem sm_Mod_epochsWithWrites_6_b {G : GT} {ad : Nat → Nat} {K : Int32 → Dm → Prop} (C : Cx G rm_Mod_epochsWithWrites cX11_epochsWithWrites 4 RX11) (hV : Vx G rm_Mod_epochsWithWrites ad ZF (0, 0)) (hR : RtI G rm_Mod_epochsWithWrites ad ZF (0, 0) cX11_epochsWithWrites .int K) (v0 : Nat) (v1 : Int32) (v2 : Int32) (v3 : Int32) : Sm G rm_Mod_epochsWithWrites ad ZF (0, 0) (lpK G rm_Mod_epochsWithWrites ad ZF (0, 0) 6 (fun (s : (Int32 × Int32 × Int32)) => [(0, .ref v0), (1, .int s.1), (2, .int s.2.1), (3, .int s.2.2)]) K) 6 [(0, .ref v0), (1, .int v1), (2, .int v2), (3, .int v3)] [] (Mod_epochsWithWrites_6_b v0 v1 v2 v3) := by
  unfold Mod_epochsWithWrites_6_b
  refine s_iload_n C rfl dX11_epochsWithWrites_6 ?_
  refine s_aload_n C rfl dX11_epochsWithWrites_7 ?_
  refine s_getI C hV fl_X11_104 (fun _ _ _ => rfl) dX11_epochsWithWrites_8 (fun x4 => ?_)
  refine s_icmp_ge C 67 (by decide) dX11_epochsWithWrites_11 ?_ ?_
  · refine s_exit ?_
    refine s_iload_n C rfl dX11_epochsWithWrites_67 ?_
    refine s_if_eq C 77 (by decide) dX11_epochsWithWrites_68 ?_ ?_
    · refine s_iload_n C rfl dX11_epochsWithWrites_77 ?_
      exact s_ireti hR dX11_epochsWithWrites_78
    · refine s_iload_n C rfl dX11_epochsWithWrites_71 ?_
      refine s_iconst C (1 : Int32) (by decide) dX11_epochsWithWrites_72 ?_
      refine s_iadd C dX11_epochsWithWrites_73 ?_
      refine s_goto C 78 (by decide) dX11_epochsWithWrites_74 ?_
      exact s_ireti hR dX11_epochsWithWrites_78
  · refine s_iload_n C rfl dX11_epochsWithWrites_14 ?_
    refine s_if_ne C 26 (by decide) dX11_epochsWithWrites_15 ?_ ?_
    · exact s_weak [0, 1, 3] rfl (sm_Mod_epochsWithWrites_26 C hV hR v0 v1 v3)
    · refine s_aload_n C rfl dX11_epochsWithWrites_18 ?_
      refine s_iload_n C rfl dX11_epochsWithWrites_19 ?_
      refine s_wI C hV lv_X11_120 (st := []) (met_Mod_isWrite v0 v3) rf_Mod_epochsWithWrites_Mod_isWrite rfl rfl (Nat.le_of_ble_eq_true rfl) dX11_epochsWithWrites_20 (fun r12 => ?_)
      refine s_if_eq C 30 (by decide) dX11_epochsWithWrites_23 ?_ ?_
      · refine s_iconst C (0 : Int32) (by decide) dX11_epochsWithWrites_30 ?_
        exact s_weak [0, 1, 3] rfl (sm_Mod_epochsWithWrites_31 C hV hR v0 v1 v3 (0 : Int32))
      · exact s_weak [0, 1, 3] rfl (sm_Mod_epochsWithWrites_26 C hV hR v0 v1 v3)
set_option maxRecDepth 20000 in
theorem sm_Mod_epochsWithWrites_6 {G : GT} {ad : Nat → Nat} {K : Int32 → Dm → Prop} (C : Cx G rm_Mod_epochsWithWrites cX11_epochsWithWrites 4 RX11) (hV : Vx G rm_Mod_epochsWithWrites ad ZF (0, 0)) (hR : RtI G rm_Mod_epochsWithWrites ad ZF (0, 0) cX11_epochsWithWrites .int K) (v0 : Nat) (s : (Int32 × Int32 × Int32)) : Sm G rm_Mod_epochsWithWrites ad ZF (0, 0) K 6 ((fun (s : (Int32 × Int32 × Int32)) => [(0, .ref v0), (1, .int s.1), (2, .int s.2.1), (3, .int s.2.2)]) s) [] (Mod_epochsWithWrites_6 v0 s) :=
  s_loop (en := (fun (s : (Int32 × Int32 × Int32)) => [(0, .ref v0), (1, .int s.1), (2, .int s.2.1), (3, .int s.2.2)])) (fun s => sm_Mod_epochsWithWrites_6_b C hV hR v0 s.1 s.2.1 s.2.2) s
set_option maxRecDepth 20000 in
theorem sm_Mod_epochsWithWrites {G : GT} {ad : Nat → Nat} {K : Int32 → Dm → Prop} (C : Cx G rm_Mod_epochsWithWrites cX11_epochsWithWrites 4 RX11) (hV : Vx G rm_Mod_epochsWithWrites ad ZF (0, 0)) (hR : RtI G rm_Mod_epochsWithWrites ad ZF (0, 0) cX11_epochsWithWrites .int K) (v0 : Nat) : Sm G rm_Mod_epochsWithWrites ad ZF (0, 0) K 0 [(0, .ref v0)] [] (Mod_epochsWithWrites v0) := by
  unfold Mod_epochsWithWrites
  refine s_iconst C (0 : Int32) (by decide) dX11_epochsWithWrites_0 ?_
  refine s_leti (fun x1 => ?_)
  refine s_istore_n C (L' := [(1, .int x1), (0, .ref v0)]) (by decide) rfl dX11_epochsWithWrites_1 ?_
  refine s_iconst C (0 : Int32) (by decide) dX11_epochsWithWrites_2 ?_
  refine s_leti (fun x2 => ?_)
  refine s_istore_n C (L' := [(2, .int x2), (1, .int x1), (0, .ref v0)]) (by decide) rfl dX11_epochsWithWrites_3 ?_
  refine s_iconst C (0 : Int32) (by decide) dX11_epochsWithWrites_4 ?_
  refine s_leti (fun x3 => ?_)
  refine s_istore_n C (L' := [(3, .int x3), (2, .int x2), (1, .int x1), (0, .ref v0)]) (by decide) rfl dX11_epochsWithWrites_5 ?_
  exact s_weak [0, 1, 2, 3] rfl (sm_Mod_epochsWithWrites_6 C hV hR v0 (x1, x2, x3))
set_option maxRecDepth 20000 in
theorem met_Mod_epochsWithWrites (v0 : Nat) : MI ZF yX11_epochsWithWrites cX11_epochsWithWrites 4 .int rm_Mod_epochsWithWrites [.ref v0] (Mod_epochsWithWrites v0) :=
  mi_of (L0 := [(0, .ref v0)]) (by decide +kernel) (Nat.le_of_ble_eq_true rfl) rfl (fun G ad K C hV hR => sm_Mod_epochsWithWrites C hV hR v0)

noncomputable def Mod_writeMany_26 (v0 : Nat) (v2 : Int32) (t0 : Int32) (t1 : Int32) : MM ((Int32 × Int32) ⊕ Int32) :=
  ml (t0 + t1) fun x5 =>
  ml (v2 + (1 : Int32)) fun x6 =>
  mp (.inl (x5, x6))
noncomputable def Mod_writeMany_4_b (v0 : Nat) (v1 : Int32) (v2 : Int32) : MM ((Int32 × Int32) ⊕ Int32) :=
  mb (gI ZF 12 1 v0) fun x3 =>
  if x3 ≤ v2 then
  mr (
  mp v1)
  else
  mb (vc ZF 12 v0 (Mod_isWrite v0 v2)) fun r4 =>
  Mod_writeMany_26 v0 v2 v1 (if r4 = 0 then (0 : Int32) else (1 : Int32))
noncomputable def Mod_writeMany_4 (v0 : Nat) (s : (Int32 × Int32)) : MM Int32 := lo (fun (s : (Int32 × Int32)) => Mod_writeMany_4_b v0 s.1 s.2) s
noncomputable def Mod_writeMany (v0 : Nat) : MM Int32 :=
  ml (0 : Int32) fun x1 =>
  ml (0 : Int32) fun x2 =>
  Mod_writeMany_4 v0 (x1, x2)
set_option maxRecDepth 20000 in
theorem sm_Mod_writeMany_26 {G : GT} {ad : Nat → Nat} {K : Int32 → Dm → Prop} (C : Cx G rm_Mod_writeMany cX11_writeMany 3 RX11) (hV : Vx G rm_Mod_writeMany ad ZF (0, 0)) (hR : RtI G rm_Mod_writeMany ad ZF (0, 0) cX11_writeMany .int K) (v0 : Nat) (v2 : Int32) (t0 : Int32) (t1 : Int32) : Sm G rm_Mod_writeMany ad ZF (0, 0) (lpK G rm_Mod_writeMany ad ZF (0, 0) 4 (fun (s : (Int32 × Int32)) => [(0, .ref v0), (1, .int s.1), (2, .int s.2)]) K) 26 [(0, .ref v0), (2, .int v2)] [.int t1, .int t0] (Mod_writeMany_26 v0 v2 t0 t1) := by
  unfold Mod_writeMany_26
  refine s_iadd C dX11_writeMany_26 ?_
  refine s_leti (fun x5 => ?_)
  refine s_istore_n C (L' := [(1, .int x5), (0, .ref v0), (2, .int v2)]) (by decide) rfl dX11_writeMany_27 ?_
  refine s_iinc C (L' := fun x6 => [(2, .int x6), (1, .int x5), (0, .ref v0)]) (1 : Int32) (by decide) rfl (by decide) (fun _ => rfl) dX11_writeMany_28 (fun x6 => ?_)
  refine s_goto C 4 (by decide) dX11_writeMany_31 ?_
  exact s_back [0, 1, 2] (x5, x6) rfl
set_option maxRecDepth 20000 in
theorem sm_Mod_writeMany_4_b {G : GT} {ad : Nat → Nat} {K : Int32 → Dm → Prop} (C : Cx G rm_Mod_writeMany cX11_writeMany 3 RX11) (hV : Vx G rm_Mod_writeMany ad ZF (0, 0)) (hR : RtI G rm_Mod_writeMany ad ZF (0, 0) cX11_writeMany .int K) (v0 : Nat) (v1 : Int32) (v2 : Int32) : Sm G rm_Mod_writeMany ad ZF (0, 0) (lpK G rm_Mod_writeMany ad ZF (0, 0) 4 (fun (s : (Int32 × Int32)) => [(0, .ref v0), (1, .int s.1), (2, .int s.2)]) K) 4 [(0, .ref v0), (1, .int v1), (2, .int v2)] [] (Mod_writeMany_4_b v0 v1 v2) := by
  unfold Mod_writeMany_4_b
  refine s_iload_n C rfl dX11_writeMany_4 ?_
  refine s_aload_n C rfl dX11_writeMany_5 ?_
  refine s_getI C hV fl_X11_104 (fun _ _ _ => rfl) dX11_writeMany_6 (fun x3 => ?_)
  refine s_icmp_ge C 34 (by decide) dX11_writeMany_9 ?_ ?_
  · refine s_exit ?_
    refine s_iload_n C rfl dX11_writeMany_34 ?_
    exact s_ireti hR dX11_writeMany_35
  · refine s_iload_n C rfl dX11_writeMany_12 ?_
    refine s_aload_n C rfl dX11_writeMany_13 ?_
    refine s_iload_n C rfl dX11_writeMany_14 ?_
    refine s_wI C hV lv_X11_120 (st := [.int v1]) (met_Mod_isWrite v0 v2) rf_Mod_writeMany_Mod_isWrite rfl rfl (Nat.le_of_ble_eq_true rfl) dX11_writeMany_15 (fun r4 => ?_)
    refine s_ite (g := fun z => Mod_writeMany_26 v0 v2 v1 z) ?_
    refine s_if_eq C 25 (by decide) dX11_writeMany_18 ?_ ?_
    · refine s_iconst C (0 : Int32) (by decide) dX11_writeMany_25 ?_
      exact s_weak [0, 2] rfl (sm_Mod_writeMany_26 C hV hR v0 v2 v1 (0 : Int32))
    · refine s_iconst C (1 : Int32) (by decide) dX11_writeMany_21 ?_
      refine s_goto C 26 (by decide) dX11_writeMany_22 ?_
      exact s_weak [0, 2] rfl (sm_Mod_writeMany_26 C hV hR v0 v2 v1 (1 : Int32))
set_option maxRecDepth 20000 in
theorem sm_Mod_writeMany_4 {G : GT} {ad : Nat → Nat} {K : Int32 → Dm → Prop} (C : Cx G rm_Mod_writeMany cX11_writeMany 3 RX11) (hV : Vx G rm_Mod_writeMany ad ZF (0, 0)) (hR : RtI G rm_Mod_writeMany ad ZF (0, 0) cX11_writeMany .int K) (v0 : Nat) (s : (Int32 × Int32)) : Sm G rm_Mod_writeMany ad ZF (0, 0) K 4 ((fun (s : (Int32 × Int32)) => [(0, .ref v0), (1, .int s.1), (2, .int s.2)]) s) [] (Mod_writeMany_4 v0 s) :=
  s_loop (en := (fun (s : (Int32 × Int32)) => [(0, .ref v0), (1, .int s.1), (2, .int s.2)])) (fun s => sm_Mod_writeMany_4_b C hV hR v0 s.1 s.2) s
set_option maxRecDepth 20000 in
theorem sm_Mod_writeMany {G : GT} {ad : Nat → Nat} {K : Int32 → Dm → Prop} (C : Cx G rm_Mod_writeMany cX11_writeMany 3 RX11) (hV : Vx G rm_Mod_writeMany ad ZF (0, 0)) (hR : RtI G rm_Mod_writeMany ad ZF (0, 0) cX11_writeMany .int K) (v0 : Nat) : Sm G rm_Mod_writeMany ad ZF (0, 0) K 0 [(0, .ref v0)] [] (Mod_writeMany v0) := by
  unfold Mod_writeMany
  refine s_iconst C (0 : Int32) (by decide) dX11_writeMany_0 ?_
  refine s_leti (fun x1 => ?_)
  refine s_istore_n C (L' := [(1, .int x1), (0, .ref v0)]) (by decide) rfl dX11_writeMany_1 ?_
  refine s_iconst C (0 : Int32) (by decide) dX11_writeMany_2 ?_
  refine s_leti (fun x2 => ?_)
  refine s_istore_n C (L' := [(2, .int x2), (1, .int x1), (0, .ref v0)]) (by decide) rfl dX11_writeMany_3 ?_
  exact s_weak [0, 1, 2] rfl (sm_Mod_writeMany_4 C hV hR v0 (x1, x2))
set_option maxRecDepth 20000 in
theorem met_Mod_writeMany (v0 : Nat) : MI ZF yX11_writeMany cX11_writeMany 3 .int rm_Mod_writeMany [.ref v0] (Mod_writeMany v0) :=
  mi_of (L0 := [(0, .ref v0)]) (by decide +kernel) (Nat.le_of_ble_eq_true rfl) rfl (fun G ad K C hV hR => sm_Mod_writeMany C hV hR v0)

noncomputable def Mod_countOf (v0 : Nat) (v1 : Int32) : MM Int32 :=
  sw v1 (0 : Int32) [(
  mb (gI ZF 12 1 v0) fun x1 =>
  mp x1),
(
  mb (gI ZF 12 6 v0) fun x2 =>
  mp x2),
(
  mb (gI ZF 12 10 v0) fun x3 =>
  mp x3),
(
  mb (gI ZF 12 4 v0) fun x4 =>
  mp x4),
(
  mb (vc ZF 12 v0 (Mod_epochsWithWrites v0)) fun r5 =>
  mp r5),
(
  mb (vc ZF 12 v0 (Mod_writeMany v0)) fun r6 =>
  mp r6),
(
  mb (gI ZF 12 15 v0) fun x7 =>
  mp x7)] (
  mp ((-102) : Int32))
set_option maxRecDepth 20000 in
theorem sm_Mod_countOf {G : GT} {ad : Nat → Nat} {K : Int32 → Dm → Prop} (C : Cx G rm_Mod_countOf cX11_countOf 2 RX11) (hV : Vx G rm_Mod_countOf ad ZF (0, 0)) (hR : RtI G rm_Mod_countOf ad ZF (0, 0) cX11_countOf .int K) (v0 : Nat) (v1 : Int32) : Sm G rm_Mod_countOf ad ZF (0, 0) K 0 [(0, .ref v0), (1, .int v1)] [] (Mod_countOf v0 v1) := by
  unfold Mod_countOf
  refine s_iload_n C rfl dX11_countOf_0 ?_
  refine s_tsw C (k := (0 : Int32)) (by decide) (by simp) (by simp) dX11_countOf_1 79 (by decide) ?_ ?_
  · refine s_bipush C ((-102) : Int32) (by decide) dX11_countOf_79 ?_
    exact s_ireti hR dX11_countOf_81
  · intro i g hg
    match i, hg with
    | 0, hg =>
      cases hg
      refine ⟨43, 44, rfl, by decide, ?_⟩
      refine s_aload_n C rfl dX11_countOf_44 ?_
      refine s_getI C hV fl_X11_104 (fun _ _ _ => rfl) dX11_countOf_45 (fun x1 => ?_)
      exact s_ireti hR dX11_countOf_48
    | 1, hg =>
      cases hg
      refine ⟨48, 49, rfl, by decide, ?_⟩
      refine s_aload_n C rfl dX11_countOf_49 ?_
      refine s_getI C hV fl_X11_111 (fun _ _ _ => rfl) dX11_countOf_50 (fun x2 => ?_)
      exact s_ireti hR dX11_countOf_53
    | 2, hg =>
      cases hg
      refine ⟨53, 54, rfl, by decide, ?_⟩
      refine s_aload_n C rfl dX11_countOf_54 ?_
      refine s_getI C hV fl_X11_159 (fun _ _ _ => rfl) dX11_countOf_55 (fun x3 => ?_)
      exact s_ireti hR dX11_countOf_58
    | 3, hg =>
      cases hg
      refine ⟨58, 59, rfl, by decide, ?_⟩
      refine s_aload_n C rfl dX11_countOf_59 ?_
      refine s_getI C hV fl_X11_133 (fun _ _ _ => rfl) dX11_countOf_60 (fun x4 => ?_)
      exact s_ireti hR dX11_countOf_63
    | 4, hg =>
      cases hg
      refine ⟨63, 64, rfl, by decide, ?_⟩
      refine s_aload_n C rfl dX11_countOf_64 ?_
      refine s_wI C hV lv_X11_296 (st := []) (met_Mod_epochsWithWrites v0) rf_Mod_countOf_Mod_epochsWithWrites rfl rfl (Nat.le_of_ble_eq_true rfl) dX11_countOf_65 (fun r5 => ?_)
      exact s_ireti hR dX11_countOf_68
    | 5, hg =>
      cases hg
      refine ⟨68, 69, rfl, by decide, ?_⟩
      refine s_aload_n C rfl dX11_countOf_69 ?_
      refine s_wI C hV lv_X11_299 (st := []) (met_Mod_writeMany v0) rf_Mod_countOf_Mod_writeMany rfl rfl (Nat.le_of_ble_eq_true rfl) dX11_countOf_70 (fun r6 => ?_)
      exact s_ireti hR dX11_countOf_73
    | 6, hg =>
      cases hg
      refine ⟨73, 74, rfl, by decide, ?_⟩
      refine s_aload_n C rfl dX11_countOf_74 ?_
      refine s_getI C hV fl_X11_282 (fun _ _ _ => rfl) dX11_countOf_75 (fun x7 => ?_)
      exact s_ireti hR dX11_countOf_78
    | i + 7, hg => cases hg
set_option maxRecDepth 20000 in
theorem met_Mod_countOf (v0 : Nat) (v1 : Int32) : MI ZF yX11_countOf cX11_countOf 2 .int rm_Mod_countOf [.ref v0, .int v1] (Mod_countOf v0 v1) :=
  mi_of (L0 := [(0, .ref v0), (1, .int v1)]) (by decide +kernel) (Nat.le_of_ble_eq_true rfl) rfl (fun G ad K C hV hR => sm_Mod_countOf C hV hR v0 v1)

noncomputable def Mod_count (v0 : Nat) (v1 : Int32) : MM Int32 :=
  mb (vc ZF 12 v0 (Mod_countOf v0 v1)) fun r1 =>
  mp r1
set_option maxRecDepth 20000 in
theorem sm_Mod_count {G : GT} {ad : Nat → Nat} {K : Int32 → Dm → Prop} (C : Cx G rm_Mod_count cX11_count 2 RX11) (hV : Vx G rm_Mod_count ad ZF (0, 0)) (hR : RtI G rm_Mod_count ad ZF (0, 0) cX11_count .int K) (v0 : Nat) (v1 : Int32) : Sm G rm_Mod_count ad ZF (0, 0) K 0 [(0, .ref v0), (1, .int v1)] [] (Mod_count v0 v1) := by
  unfold Mod_count
  refine s_aload_n C rfl dX11_count_0 ?_
  refine s_iload_n C rfl dX11_count_1 ?_
  refine s_wI C hV lv_X11_302 (st := []) (met_Mod_countOf v0 v1) rf_Mod_count_Mod_countOf rfl rfl (Nat.le_of_ble_eq_true rfl) dX11_count_2 (fun r1 => ?_)
  exact s_ireti hR dX11_count_5
set_option maxRecDepth 20000 in
theorem met_Mod_count (v0 : Nat) (v1 : Int32) : MI ZF yX11_count cX11_count 2 .int rm_Mod_count [.ref v0, .int v1] (Mod_count v0 v1) :=
  mi_of (L0 := [(0, .ref v0), (1, .int v1)]) (by decide +kernel) (Nat.le_of_ble_eq_true rfl) rfl (fun G ad K C hV hR => sm_Mod_count C hV hR v0 v1)

noncomputable def Mod_mix (v0 : Nat) (v1 : Int64) : MM Unit :=
  mb (gL ZF 12 43 v0) fun x1 =>
  mb (pL ZF 12 43 v0 (((31 : Int64) * x1) + v1)) fun _ =>
  mp ()
set_option maxRecDepth 20000 in
theorem sm_Mod_mix {G : GT} {ad : Nat → Nat} {K : Unit → Dm → Prop} (C : Cx G rm_Mod_mix cX11_mix 3 RX11) (hV : Vx G rm_Mod_mix ad ZF (0, 0)) (hR : RtV G rm_Mod_mix ad ZF (0, 0) cX11_mix K) (v0 : Nat) (v1 : Int64) : Sm G rm_Mod_mix ad ZF (0, 0) K 0 [(0, .ref v0), (1, .long v1)] [] (Mod_mix v0 v1) := by
  unfold Mod_mix
  refine s_aload_n C rfl dX11_mix_0 ?_
  refine s_ldc2 C kl_X11_305 dX11_mix_1 ?_
  refine s_aload_n C rfl dX11_mix_4 ?_
  refine s_getL C hV fl_X11_307 (fun _ _ _ => rfl) dX11_mix_5 (fun x1 => ?_)
  refine s_lmul C dX11_mix_8 ?_
  refine s_lload_n C rfl dX11_mix_9 ?_
  refine s_ladd C dX11_mix_10 ?_
  refine s_putL C hV fw_X11_307 rfl dX11_mix_11 ?_
  exact s_vret hR dX11_mix_14
set_option maxRecDepth 20000 in
theorem met_Mod_mix (v0 : Nat) (v1 : Int64) : MV ZF yX11_mix cX11_mix 3 rm_Mod_mix [.ref v0, .long v1] (Mod_mix v0 v1) :=
  mv_of (L0 := [(0, .ref v0), (1, .long v1)]) (by decide +kernel) (Nat.le_of_ble_eq_true rfl) rfl (fun G ad K C hV hR => sm_Mod_mix C hV hR v0 v1)

noncomputable def Mod_digest_226_b (v0 : Nat) (v3 : Int32) : MM (Int32 ⊕ Int64) :=
  if (7 : Int32) ≤ v3 then
  mr (
  mb (gL ZF 12 43 v0) fun x15 =>
  mp x15)
  else
  mb (vc ZF 12 v0 (Mod_countOf v0 v3)) fun r16 =>
  mb (vc ZF 12 v0 (Mod_mix v0 (r16.toInt64))) fun _ =>
  ml (v3 + (1 : Int32)) fun x17 =>
  mp (.inl x17)
noncomputable def Mod_digest_226 (v0 : Nat) (s : Int32) : MM Int64 := lo (fun (s : Int32) => Mod_digest_226_b v0 s) s
noncomputable def Mod_digest_199_b (v0 : Nat) (v3 : Int32) : MM (Int32 ⊕ Int64) :=
  mb (gI ZF 12 4 v0) fun x13 =>
  if x13 ≤ v3 then
  mr (
  ml (0 : Int32) fun x14 =>
  Mod_digest_226 v0 x14)
  else
  mb (gR ZF 12 5 v0) fun x18 =>
  mb (aI ZF 21 x18 v3) fun x19 =>
  mb (vc ZF 12 v0 (Mod_mix v0 (x19.toInt64))) fun _ =>
  ml (v3 + (1 : Int32)) fun x20 =>
  mp (.inl x20)
noncomputable def Mod_digest_199 (v0 : Nat) (s : Int32) : MM Int64 := lo (fun (s : Int32) => Mod_digest_199_b v0 s) s
noncomputable def Mod_digest_142_b (v0 : Nat) (v1 : Int64) (v3 : Int32) : MM (Int32 ⊕ Int64) :=
  mb (gI ZF 12 1 v0) fun x8 =>
  if x8 < v3 then
  mr (
  mb (vc ZF 12 v0 (Mod_healed v0 v1)) fun r9 =>
  mb (vc ZF 12 v0 (Mod_mix v0 r9)) fun _ =>
  mb (gI ZF 12 13 v0) fun x10 =>
  mb (vc ZF 12 v0 (Mod_mix v0 (x10.toInt64))) fun _ =>
  mb (gI ZF 12 14 v0) fun x11 =>
  mb (vc ZF 12 v0 (Mod_mix v0 (x11.toInt64))) fun _ =>
  ml (0 : Int32) fun x12 =>
  Mod_digest_199 v0 x12)
  else
  mb (vc ZF 12 v0 (Mod_findPlates v0 v3)) fun _ =>
  mb (gI ZF 12 42 v0) fun x21 =>
  mb (vc ZF 12 v0 (Mod_mix v0 (x21.toInt64))) fun _ =>
  ml (v3 + (1 : Int32)) fun x22 =>
  mp (.inl x22)
noncomputable def Mod_digest_142 (v0 : Nat) (v1 : Int64) (s : Int32) : MM Int64 := lo (fun (s : Int32) => Mod_digest_142_b v0 v1 s) s
noncomputable def Mod_digest_131 (v0 : Nat) (v1 : Int64) (v3 : Int32) (t0 : Nat) (t1 : Int64) : MM (Int32 ⊕ Int64) :=
  mb (vc ZF 12 t0 (Mod_mix t0 t1)) fun _ =>
  ml (v3 + (1 : Int32)) fun x26 =>
  mp (.inl x26)
noncomputable def Mod_digest_114 (v0 : Nat) (v1 : Int64) (v3 : Int32) (t0 : Nat) (t1 : Int64) : MM (Int32 ⊕ Int64) :=
  mb (vc ZF 12 t0 (Mod_mix t0 t1)) fun _ =>
  mb (vc ZF 12 v0 (Mod_holdsNow v0 v3)) fun r25 =>
  Mod_digest_131 v0 v1 v3 v0 (if r25 = 0 then (0 : Int64) else (1 : Int64))
noncomputable def Mod_digest_86_b (v0 : Nat) (v1 : Int64) (v3 : Int32) : MM (Int32 ⊕ Int64) :=
  mb (gI ZF 12 6 v0) fun x6 =>
  if x6 ≤ v3 then
  mr (
  ml (0 : Int32) fun x7 =>
  Mod_digest_142 v0 v1 x7)
  else
  mb (vc ZF 12 v0 (Mod_lay v0 v1)) fun _ =>
  mb (gR ZF 12 9 v0) fun x23 =>
  mb (aI ZF 25 x23 v3) fun x24 =>
  Mod_digest_114 v0 v1 v3 v0 (if x24 = 0 then (0 : Int64) else (1 : Int64))
noncomputable def Mod_digest_86 (v0 : Nat) (v1 : Int64) (s : Int32) : MM Int64 := lo (fun (s : Int32) => Mod_digest_86_b v0 v1 s) s
noncomputable def Mod_digest_42_b (v0 : Nat) (v1 : Int64) (v3 : Int32) (v4 : Int32) : MM (Int32 ⊕ (Int32 ⊕ Int64)) :=
  if (4 : Int32) ≤ v4 then
  mr (
  ml (v3 + (1 : Int32)) fun x30 =>
  mp (.inl x30))
  else
  mb (gR ZF 12 3 v0) fun x31 =>
  mb (aI ZF 23 x31 (((4 : Int32) * v3) + v4)) fun x32 =>
  mb (vc ZF 12 v0 (Mod_mix v0 (x32.toInt64))) fun _ =>
  ml (v4 + (1 : Int32)) fun x33 =>
  mp (.inl x33)
noncomputable def Mod_digest_42 (v0 : Nat) (v1 : Int64) (v3 : Int32) (s : Int32) : MM (Int32 ⊕ Int64) := lo (fun (s : Int32) => Mod_digest_42_b v0 v1 v3 s) s
noncomputable def Mod_digest_20_b (v0 : Nat) (v1 : Int64) (v3 : Int32) : MM (Int32 ⊕ Int64) :=
  mb (gI ZF 12 1 v0) fun x3 =>
  if x3 ≤ v3 then
  mr (
  mb (vc ZF 12 v0 (Mod_end v0)) fun r4 =>
  mb (vc ZF 12 v0 (Mod_mix v0 r4)) fun _ =>
  ml (0 : Int32) fun x5 =>
  Mod_digest_86 v0 v1 x5)
  else
  mb (gR ZF 12 2 v0) fun x27 =>
  mb (aI ZF 23 x27 v3) fun x28 =>
  mb (vc ZF 12 v0 (Mod_mix v0 (x28.toInt64))) fun _ =>
  ml (0 : Int32) fun x29 =>
  Mod_digest_42 v0 v1 v3 x29
noncomputable def Mod_digest_20 (v0 : Nat) (v1 : Int64) (s : Int32) : MM Int64 := lo (fun (s : Int32) => Mod_digest_20_b v0 v1 s) s
noncomputable def Mod_digest (v0 : Nat) : MM Int64 :=
  mb (pL ZF 12 43 v0 (269 : Int64)) fun _ =>
  mb (vc ZF 12 v0 (Mod_plateOf v0 (0 : Int32))) fun r1 =>
  mb (vc ZF 12 v0 (Mod_mix v0 r1)) fun _ =>
  ml (0 : Int32) fun x2 =>
  Mod_digest_20 v0 r1 x2
set_option maxRecDepth 20000 in
theorem sm_Mod_digest_226_b {G : GT} {ad : Nat → Nat} {K : Int64 → Dm → Prop} (C : Cx G rm_Mod_digest cX11_digest 5 RX11) (hV : Vx G rm_Mod_digest ad ZF (0, 0)) (hR : RtL G rm_Mod_digest ad ZF (0, 0) cX11_digest K) (v0 : Nat) (v3 : Int32) : Sm G rm_Mod_digest ad ZF (0, 0) (lpK G rm_Mod_digest ad ZF (0, 0) 226 (fun (s : Int32) => [(0, .ref v0), (3, .int s)]) K) 226 [(0, .ref v0), (3, .int v3)] [] (Mod_digest_226_b v0 v3) := by
  unfold Mod_digest_226_b
  refine s_iload_n C rfl dX11_digest_226 ?_
  refine s_bipush C (7 : Int32) (by decide) dX11_digest_227 ?_
  refine s_icmp_ge C 248 (by decide) dX11_digest_229 ?_ ?_
  · refine s_exit ?_
    refine s_aload_n C rfl dX11_digest_248 ?_
    refine s_getL C hV fl_X11_307 (fun _ _ _ => rfl) dX11_digest_249 (fun x15 => ?_)
    exact s_lret hR dX11_digest_252
  · refine s_aload_n C rfl dX11_digest_232 ?_
    refine s_aload_n C rfl dX11_digest_233 ?_
    refine s_iload_n C rfl dX11_digest_234 ?_
    refine s_wI C hV lv_X11_302 (st := [.ref v0]) (met_Mod_countOf v0 v3) rf_Mod_digest_Mod_countOf rfl rfl (Nat.le_of_ble_eq_true rfl) dX11_digest_235 (fun r16 => ?_)
    refine s_i2l C dX11_digest_238 ?_
    refine s_wV C hV lv_X11_313 (st := []) (met_Mod_mix v0 (r16.toInt64)) rf_Mod_digest_Mod_mix rfl rfl (Nat.le_of_ble_eq_true rfl) dX11_digest_239 ?_
    refine s_iinc C (L' := fun x17 => [(3, .int x17), (0, .ref v0)]) (1 : Int32) (by decide) rfl (by decide) (fun _ => rfl) dX11_digest_242 (fun x17 => ?_)
    refine s_goto C 226 (by decide) dX11_digest_245 ?_
    exact s_back [0, 3] x17 rfl
set_option maxRecDepth 20000 in
theorem sm_Mod_digest_226 {G : GT} {ad : Nat → Nat} {K : Int64 → Dm → Prop} (C : Cx G rm_Mod_digest cX11_digest 5 RX11) (hV : Vx G rm_Mod_digest ad ZF (0, 0)) (hR : RtL G rm_Mod_digest ad ZF (0, 0) cX11_digest K) (v0 : Nat) (s : Int32) : Sm G rm_Mod_digest ad ZF (0, 0) K 226 ((fun (s : Int32) => [(0, .ref v0), (3, .int s)]) s) [] (Mod_digest_226 v0 s) :=
  s_loop (en := (fun (s : Int32) => [(0, .ref v0), (3, .int s)])) (fun s => sm_Mod_digest_226_b C hV hR v0 s) s
set_option maxRecDepth 20000 in
theorem sm_Mod_digest_199_b {G : GT} {ad : Nat → Nat} {K : Int64 → Dm → Prop} (C : Cx G rm_Mod_digest cX11_digest 5 RX11) (hV : Vx G rm_Mod_digest ad ZF (0, 0)) (hR : RtL G rm_Mod_digest ad ZF (0, 0) cX11_digest K) (v0 : Nat) (v3 : Int32) : Sm G rm_Mod_digest ad ZF (0, 0) (lpK G rm_Mod_digest ad ZF (0, 0) 199 (fun (s : Int32) => [(0, .ref v0), (3, .int s)]) K) 199 [(0, .ref v0), (3, .int v3)] [] (Mod_digest_199_b v0 v3) := by
  unfold Mod_digest_199_b
  refine s_iload_n C rfl dX11_digest_199 ?_
  refine s_aload_n C rfl dX11_digest_200 ?_
  refine s_getI C hV fl_X11_133 (fun _ _ _ => rfl) dX11_digest_201 (fun x13 => ?_)
  refine s_icmp_ge C 224 (by decide) dX11_digest_204 ?_ ?_
  · refine s_exit ?_
    refine s_iconst C (0 : Int32) (by decide) dX11_digest_224 ?_
    refine s_leti (fun x14 => ?_)
    refine s_istore_n C (L' := [(3, .int x14), (0, .ref v0)]) (by decide) rfl dX11_digest_225 ?_
    exact s_weak [0, 3] rfl (sm_Mod_digest_226 C hV hR v0 x14)
  · refine s_aload_n C rfl dX11_digest_207 ?_
    refine s_aload_n C rfl dX11_digest_208 ?_
    refine s_getR C hV fl_X11_19 (fun _ _ _ => rfl) dX11_digest_209 (fun x18 => ?_)
    refine s_iload_n C rfl dX11_digest_212 ?_
    refine s_baload C hV dX11_digest_213 (fun x19 => ?_)
    refine s_i2l C dX11_digest_214 ?_
    refine s_wV C hV lv_X11_313 (st := []) (met_Mod_mix v0 (x19.toInt64)) rf_Mod_digest_Mod_mix rfl rfl (Nat.le_of_ble_eq_true rfl) dX11_digest_215 ?_
    refine s_iinc C (L' := fun x20 => [(3, .int x20), (0, .ref v0)]) (1 : Int32) (by decide) rfl (by decide) (fun _ => rfl) dX11_digest_218 (fun x20 => ?_)
    refine s_goto C 199 (by decide) dX11_digest_221 ?_
    exact s_back [0, 3] x20 rfl
set_option maxRecDepth 20000 in
theorem sm_Mod_digest_199 {G : GT} {ad : Nat → Nat} {K : Int64 → Dm → Prop} (C : Cx G rm_Mod_digest cX11_digest 5 RX11) (hV : Vx G rm_Mod_digest ad ZF (0, 0)) (hR : RtL G rm_Mod_digest ad ZF (0, 0) cX11_digest K) (v0 : Nat) (s : Int32) : Sm G rm_Mod_digest ad ZF (0, 0) K 199 ((fun (s : Int32) => [(0, .ref v0), (3, .int s)]) s) [] (Mod_digest_199 v0 s) :=
  s_loop (en := (fun (s : Int32) => [(0, .ref v0), (3, .int s)])) (fun s => sm_Mod_digest_199_b C hV hR v0 s) s
set_option maxRecDepth 20000 in
theorem sm_Mod_digest_142_b {G : GT} {ad : Nat → Nat} {K : Int64 → Dm → Prop} (C : Cx G rm_Mod_digest cX11_digest 5 RX11) (hV : Vx G rm_Mod_digest ad ZF (0, 0)) (hR : RtL G rm_Mod_digest ad ZF (0, 0) cX11_digest K) (v0 : Nat) (v1 : Int64) (v3 : Int32) : Sm G rm_Mod_digest ad ZF (0, 0) (lpK G rm_Mod_digest ad ZF (0, 0) 142 (fun (s : Int32) => [(0, .ref v0), (1, .long v1), (3, .int s)]) K) 142 [(0, .ref v0), (1, .long v1), (3, .int v3)] [] (Mod_digest_142_b v0 v1 v3) := by
  unfold Mod_digest_142_b
  refine s_iload_n C rfl dX11_digest_142 ?_
  refine s_aload_n C rfl dX11_digest_143 ?_
  refine s_getI C hV fl_X11_104 (fun _ _ _ => rfl) dX11_digest_144 (fun x8 => ?_)
  refine s_icmp_gt C 170 (by decide) dX11_digest_147 ?_ ?_
  · refine s_exit ?_
    refine s_aload_n C rfl dX11_digest_170 ?_
    refine s_aload_n C rfl dX11_digest_171 ?_
    refine s_lload_n C rfl dX11_digest_172 ?_
    refine s_wL C hV lv_X11_202 (st := [.ref v0]) (met_Mod_healed v0 v1) rf_Mod_digest_Mod_healed rfl rfl (Nat.le_of_ble_eq_true rfl) dX11_digest_173 (fun r9 => ?_)
    refine s_wV C hV lv_X11_313 (st := []) (met_Mod_mix v0 r9) rf_Mod_digest_Mod_mix rfl rfl (Nat.le_of_ble_eq_true rfl) dX11_digest_176 ?_
    refine s_aload_n C rfl dX11_digest_179 ?_
    refine s_aload_n C rfl dX11_digest_180 ?_
    refine s_getI C hV fl_X11_39 (fun _ _ _ => rfl) dX11_digest_181 (fun x10 => ?_)
    refine s_i2l C dX11_digest_184 ?_
    refine s_wV C hV lv_X11_313 (st := []) (met_Mod_mix v0 (x10.toInt64)) rf_Mod_digest_Mod_mix rfl rfl (Nat.le_of_ble_eq_true rfl) dX11_digest_185 ?_
    refine s_aload_n C rfl dX11_digest_188 ?_
    refine s_aload_n C rfl dX11_digest_189 ?_
    refine s_getI C hV fl_X11_43 (fun _ _ _ => rfl) dX11_digest_190 (fun x11 => ?_)
    refine s_i2l C dX11_digest_193 ?_
    refine s_wV C hV lv_X11_313 (st := []) (met_Mod_mix v0 (x11.toInt64)) rf_Mod_digest_Mod_mix rfl rfl (Nat.le_of_ble_eq_true rfl) dX11_digest_194 ?_
    refine s_iconst C (0 : Int32) (by decide) dX11_digest_197 ?_
    refine s_leti (fun x12 => ?_)
    refine s_istore_n C (L' := [(3, .int x12), (0, .ref v0), (1, .long v1)]) (by decide) rfl dX11_digest_198 ?_
    exact s_weak [0, 3] rfl (sm_Mod_digest_199 C hV hR v0 x12)
  · refine s_aload_n C rfl dX11_digest_150 ?_
    refine s_iload_n C rfl dX11_digest_151 ?_
    refine s_wV C hV lv_X11_273 (st := []) (met_Mod_findPlates v0 v3) rf_Mod_digest_Mod_findPlates rfl rfl (Nat.le_of_ble_eq_true rfl) dX11_digest_152 ?_
    refine s_aload_n C rfl dX11_digest_155 ?_
    refine s_aload_n C rfl dX11_digest_156 ?_
    refine s_getI C hV fl_X11_270 (fun _ _ _ => rfl) dX11_digest_157 (fun x21 => ?_)
    refine s_i2l C dX11_digest_160 ?_
    refine s_wV C hV lv_X11_313 (st := []) (met_Mod_mix v0 (x21.toInt64)) rf_Mod_digest_Mod_mix rfl rfl (Nat.le_of_ble_eq_true rfl) dX11_digest_161 ?_
    refine s_iinc C (L' := fun x22 => [(3, .int x22), (0, .ref v0), (1, .long v1)]) (1 : Int32) (by decide) rfl (by decide) (fun _ => rfl) dX11_digest_164 (fun x22 => ?_)
    refine s_goto C 142 (by decide) dX11_digest_167 ?_
    exact s_back [0, 1, 3] x22 rfl
set_option maxRecDepth 20000 in
theorem sm_Mod_digest_142 {G : GT} {ad : Nat → Nat} {K : Int64 → Dm → Prop} (C : Cx G rm_Mod_digest cX11_digest 5 RX11) (hV : Vx G rm_Mod_digest ad ZF (0, 0)) (hR : RtL G rm_Mod_digest ad ZF (0, 0) cX11_digest K) (v0 : Nat) (v1 : Int64) (s : Int32) : Sm G rm_Mod_digest ad ZF (0, 0) K 142 ((fun (s : Int32) => [(0, .ref v0), (1, .long v1), (3, .int s)]) s) [] (Mod_digest_142 v0 v1 s) :=
  s_loop (en := (fun (s : Int32) => [(0, .ref v0), (1, .long v1), (3, .int s)])) (fun s => sm_Mod_digest_142_b C hV hR v0 v1 s) s
set_option maxRecDepth 20000 in
theorem sm_Mod_digest_131 {G : GT} {ad : Nat → Nat} {K : Int64 → Dm → Prop} (C : Cx G rm_Mod_digest cX11_digest 5 RX11) (hV : Vx G rm_Mod_digest ad ZF (0, 0)) (hR : RtL G rm_Mod_digest ad ZF (0, 0) cX11_digest K) (v0 : Nat) (v1 : Int64) (v3 : Int32) (t0 : Nat) (t1 : Int64) : Sm G rm_Mod_digest ad ZF (0, 0) (lpK G rm_Mod_digest ad ZF (0, 0) 86 (fun (s : Int32) => [(0, .ref v0), (1, .long v1), (3, .int s)]) K) 131 [(0, .ref v0), (1, .long v1), (3, .int v3)] [.long t1, .ref t0] (Mod_digest_131 v0 v1 v3 t0 t1) := by
  unfold Mod_digest_131
  refine s_wV C hV lv_X11_313 (st := []) (met_Mod_mix t0 t1) rf_Mod_digest_Mod_mix rfl rfl (Nat.le_of_ble_eq_true rfl) dX11_digest_131 ?_
  refine s_iinc C (L' := fun x26 => [(3, .int x26), (0, .ref v0), (1, .long v1)]) (1 : Int32) (by decide) rfl (by decide) (fun _ => rfl) dX11_digest_134 (fun x26 => ?_)
  refine s_goto C 86 (by decide) dX11_digest_137 ?_
  exact s_back [0, 1, 3] x26 rfl
set_option maxRecDepth 20000 in
theorem sm_Mod_digest_114 {G : GT} {ad : Nat → Nat} {K : Int64 → Dm → Prop} (C : Cx G rm_Mod_digest cX11_digest 5 RX11) (hV : Vx G rm_Mod_digest ad ZF (0, 0)) (hR : RtL G rm_Mod_digest ad ZF (0, 0) cX11_digest K) (v0 : Nat) (v1 : Int64) (v3 : Int32) (t0 : Nat) (t1 : Int64) : Sm G rm_Mod_digest ad ZF (0, 0) (lpK G rm_Mod_digest ad ZF (0, 0) 86 (fun (s : Int32) => [(0, .ref v0), (1, .long v1), (3, .int s)]) K) 114 [(0, .ref v0), (1, .long v1), (3, .int v3)] [.long t1, .ref t0] (Mod_digest_114 v0 v1 v3 t0 t1) := by
  unfold Mod_digest_114
  refine s_wV C hV lv_X11_313 (st := []) (met_Mod_mix t0 t1) rf_Mod_digest_Mod_mix rfl rfl (Nat.le_of_ble_eq_true rfl) dX11_digest_114 ?_
  refine s_aload_n C rfl dX11_digest_117 ?_
  refine s_aload_n C rfl dX11_digest_118 ?_
  refine s_iload_n C rfl dX11_digest_119 ?_
  refine s_wI C hV lv_X11_216 (st := [.ref v0]) (met_Mod_holdsNow v0 v3) rf_Mod_digest_Mod_holdsNow rfl rfl (Nat.le_of_ble_eq_true rfl) dX11_digest_120 (fun r25 => ?_)
  refine s_ite (g := fun z => Mod_digest_131 v0 v1 v3 v0 z) ?_
  refine s_if_eq C 130 (by decide) dX11_digest_123 ?_ ?_
  · refine s_lconst C (0 : Int64) (by decide) dX11_digest_130 ?_
    exact s_weak [0, 1, 3] rfl (sm_Mod_digest_131 C hV hR v0 v1 v3 v0 (0 : Int64))
  · refine s_lconst C (1 : Int64) (by decide) dX11_digest_126 ?_
    refine s_goto C 131 (by decide) dX11_digest_127 ?_
    exact s_weak [0, 1, 3] rfl (sm_Mod_digest_131 C hV hR v0 v1 v3 v0 (1 : Int64))
set_option maxRecDepth 20000 in
theorem sm_Mod_digest_86_b {G : GT} {ad : Nat → Nat} {K : Int64 → Dm → Prop} (C : Cx G rm_Mod_digest cX11_digest 5 RX11) (hV : Vx G rm_Mod_digest ad ZF (0, 0)) (hR : RtL G rm_Mod_digest ad ZF (0, 0) cX11_digest K) (v0 : Nat) (v1 : Int64) (v3 : Int32) : Sm G rm_Mod_digest ad ZF (0, 0) (lpK G rm_Mod_digest ad ZF (0, 0) 86 (fun (s : Int32) => [(0, .ref v0), (1, .long v1), (3, .int s)]) K) 86 [(0, .ref v0), (1, .long v1), (3, .int v3)] [] (Mod_digest_86_b v0 v1 v3) := by
  unfold Mod_digest_86_b
  refine s_iload_n C rfl dX11_digest_86 ?_
  refine s_aload_n C rfl dX11_digest_87 ?_
  refine s_getI C hV fl_X11_111 (fun _ _ _ => rfl) dX11_digest_88 (fun x6 => ?_)
  refine s_icmp_ge C 140 (by decide) dX11_digest_91 ?_ ?_
  · refine s_exit ?_
    refine s_iconst C (0 : Int32) (by decide) dX11_digest_140 ?_
    refine s_leti (fun x7 => ?_)
    refine s_istore_n C (L' := [(3, .int x7), (0, .ref v0), (1, .long v1)]) (by decide) rfl dX11_digest_141 ?_
    exact s_weak [0, 1, 3] rfl (sm_Mod_digest_142 C hV hR v0 v1 x7)
  · refine s_aload_n C rfl dX11_digest_94 ?_
    refine s_lload_n C rfl dX11_digest_95 ?_
    refine s_wV C hV lv_X11_195 (st := []) (met_Mod_lay v0 v1) rf_Mod_digest_Mod_lay rfl rfl (Nat.le_of_ble_eq_true rfl) dX11_digest_96 ?_
    refine s_aload_n C rfl dX11_digest_99 ?_
    refine s_aload_n C rfl dX11_digest_100 ?_
    refine s_getR C hV fl_X11_29 (fun _ _ _ => rfl) dX11_digest_101 (fun x23 => ?_)
    refine s_iload_n C rfl dX11_digest_104 ?_
    refine s_zaload C hV dX11_digest_105 (fun x24 => ?_)
    refine s_ite (g := fun z => Mod_digest_114 v0 v1 v3 v0 z) ?_
    refine s_if_eq C 113 (by decide) dX11_digest_106 ?_ ?_
    · refine s_lconst C (0 : Int64) (by decide) dX11_digest_113 ?_
      exact s_weak [0, 1, 3] rfl (sm_Mod_digest_114 C hV hR v0 v1 v3 v0 (0 : Int64))
    · refine s_lconst C (1 : Int64) (by decide) dX11_digest_109 ?_
      refine s_goto C 114 (by decide) dX11_digest_110 ?_
      exact s_weak [0, 1, 3] rfl (sm_Mod_digest_114 C hV hR v0 v1 v3 v0 (1 : Int64))
set_option maxRecDepth 20000 in
theorem sm_Mod_digest_86 {G : GT} {ad : Nat → Nat} {K : Int64 → Dm → Prop} (C : Cx G rm_Mod_digest cX11_digest 5 RX11) (hV : Vx G rm_Mod_digest ad ZF (0, 0)) (hR : RtL G rm_Mod_digest ad ZF (0, 0) cX11_digest K) (v0 : Nat) (v1 : Int64) (s : Int32) : Sm G rm_Mod_digest ad ZF (0, 0) K 86 ((fun (s : Int32) => [(0, .ref v0), (1, .long v1), (3, .int s)]) s) [] (Mod_digest_86 v0 v1 s) :=
  s_loop (en := (fun (s : Int32) => [(0, .ref v0), (1, .long v1), (3, .int s)])) (fun s => sm_Mod_digest_86_b C hV hR v0 v1 s) s
set_option maxRecDepth 20000 in
theorem sm_Mod_digest_42_b {G : GT} {ad : Nat → Nat} {K : Int64 → Dm → Prop} (C : Cx G rm_Mod_digest cX11_digest 5 RX11) (hV : Vx G rm_Mod_digest ad ZF (0, 0)) (hR : RtL G rm_Mod_digest ad ZF (0, 0) cX11_digest K) (v0 : Nat) (v1 : Int64) (v3 : Int32) (v4 : Int32) : Sm G rm_Mod_digest ad ZF (0, 0) (lpK G rm_Mod_digest ad ZF (0, 0) 42 (fun (s : Int32) => [(0, .ref v0), (1, .long v1), (3, .int v3), (4, .int s)]) (lpK G rm_Mod_digest ad ZF (0, 0) 20 (fun (s : Int32) => [(0, .ref v0), (1, .long v1), (3, .int s)]) K)) 42 [(0, .ref v0), (1, .long v1), (3, .int v3), (4, .int v4)] [] (Mod_digest_42_b v0 v1 v3 v4) := by
  unfold Mod_digest_42_b
  refine s_iload C rfl dX11_digest_42 ?_
  refine s_iconst C (4 : Int32) (by decide) dX11_digest_44 ?_
  refine s_icmp_ge C 70 (by decide) dX11_digest_45 ?_ ?_
  · refine s_exit ?_
    refine s_iinc C (L' := fun x30 => [(3, .int x30), (0, .ref v0), (1, .long v1), (4, .int v4)]) (1 : Int32) (by decide) rfl (by decide) (fun _ => rfl) dX11_digest_70 (fun x30 => ?_)
    refine s_goto C 20 (by decide) dX11_digest_73 ?_
    exact s_back [0, 1, 3] x30 rfl
  · refine s_aload_n C rfl dX11_digest_48 ?_
    refine s_aload_n C rfl dX11_digest_49 ?_
    refine s_getR C hV fl_X11_16 (fun _ _ _ => rfl) dX11_digest_50 (fun x31 => ?_)
    refine s_iconst C (4 : Int32) (by decide) dX11_digest_53 ?_
    refine s_iload_n C rfl dX11_digest_54 ?_
    refine s_imul C dX11_digest_55 ?_
    refine s_iload C rfl dX11_digest_56 ?_
    refine s_iadd C dX11_digest_58 ?_
    refine s_iaload C hV dX11_digest_59 (fun x32 => ?_)
    refine s_i2l C dX11_digest_60 ?_
    refine s_wV C hV lv_X11_313 (st := []) (met_Mod_mix v0 (x32.toInt64)) rf_Mod_digest_Mod_mix rfl rfl (Nat.le_of_ble_eq_true rfl) dX11_digest_61 ?_
    refine s_iinc C (L' := fun x33 => [(4, .int x33), (0, .ref v0), (1, .long v1), (3, .int v3)]) (1 : Int32) (by decide) rfl (by decide) (fun _ => rfl) dX11_digest_64 (fun x33 => ?_)
    refine s_goto C 42 (by decide) dX11_digest_67 ?_
    exact s_back [0, 1, 3, 4] x33 rfl
set_option maxRecDepth 20000 in
theorem sm_Mod_digest_42 {G : GT} {ad : Nat → Nat} {K : Int64 → Dm → Prop} (C : Cx G rm_Mod_digest cX11_digest 5 RX11) (hV : Vx G rm_Mod_digest ad ZF (0, 0)) (hR : RtL G rm_Mod_digest ad ZF (0, 0) cX11_digest K) (v0 : Nat) (v1 : Int64) (v3 : Int32) (s : Int32) : Sm G rm_Mod_digest ad ZF (0, 0) (lpK G rm_Mod_digest ad ZF (0, 0) 20 (fun (s : Int32) => [(0, .ref v0), (1, .long v1), (3, .int s)]) K) 42 ((fun (s : Int32) => [(0, .ref v0), (1, .long v1), (3, .int v3), (4, .int s)]) s) [] (Mod_digest_42 v0 v1 v3 s) :=
  s_loop (en := (fun (s : Int32) => [(0, .ref v0), (1, .long v1), (3, .int v3), (4, .int s)])) (fun s => sm_Mod_digest_42_b C hV hR v0 v1 v3 s) s
set_option maxRecDepth 20000 in
theorem sm_Mod_digest_20_b {G : GT} {ad : Nat → Nat} {K : Int64 → Dm → Prop} (C : Cx G rm_Mod_digest cX11_digest 5 RX11) (hV : Vx G rm_Mod_digest ad ZF (0, 0)) (hR : RtL G rm_Mod_digest ad ZF (0, 0) cX11_digest K) (v0 : Nat) (v1 : Int64) (v3 : Int32) : Sm G rm_Mod_digest ad ZF (0, 0) (lpK G rm_Mod_digest ad ZF (0, 0) 20 (fun (s : Int32) => [(0, .ref v0), (1, .long v1), (3, .int s)]) K) 20 [(0, .ref v0), (1, .long v1), (3, .int v3)] [] (Mod_digest_20_b v0 v1 v3) := by
  unfold Mod_digest_20_b
  refine s_iload_n C rfl dX11_digest_20 ?_
  refine s_aload_n C rfl dX11_digest_21 ?_
  refine s_getI C hV fl_X11_104 (fun _ _ _ => rfl) dX11_digest_22 (fun x3 => ?_)
  refine s_icmp_ge C 76 (by decide) dX11_digest_25 ?_ ?_
  · refine s_exit ?_
    refine s_aload_n C rfl dX11_digest_76 ?_
    refine s_aload_n C rfl dX11_digest_77 ?_
    refine s_wL C hV lv_X11_288 (st := [.ref v0]) (met_Mod_end v0) rf_Mod_digest_Mod_end rfl rfl (Nat.le_of_ble_eq_true rfl) dX11_digest_78 (fun r4 => ?_)
    refine s_wV C hV lv_X11_313 (st := []) (met_Mod_mix v0 r4) rf_Mod_digest_Mod_mix rfl rfl (Nat.le_of_ble_eq_true rfl) dX11_digest_81 ?_
    refine s_iconst C (0 : Int32) (by decide) dX11_digest_84 ?_
    refine s_leti (fun x5 => ?_)
    refine s_istore_n C (L' := [(3, .int x5), (0, .ref v0), (1, .long v1)]) (by decide) rfl dX11_digest_85 ?_
    exact s_weak [0, 1, 3] rfl (sm_Mod_digest_86 C hV hR v0 v1 x5)
  · refine s_aload_n C rfl dX11_digest_28 ?_
    refine s_aload_n C rfl dX11_digest_29 ?_
    refine s_getR C hV fl_X11_13 (fun _ _ _ => rfl) dX11_digest_30 (fun x27 => ?_)
    refine s_iload_n C rfl dX11_digest_33 ?_
    refine s_iaload C hV dX11_digest_34 (fun x28 => ?_)
    refine s_i2l C dX11_digest_35 ?_
    refine s_wV C hV lv_X11_313 (st := []) (met_Mod_mix v0 (x28.toInt64)) rf_Mod_digest_Mod_mix rfl rfl (Nat.le_of_ble_eq_true rfl) dX11_digest_36 ?_
    refine s_iconst C (0 : Int32) (by decide) dX11_digest_39 ?_
    refine s_leti (fun x29 => ?_)
    refine s_istore C (L' := [(4, .int x29), (0, .ref v0), (1, .long v1), (3, .int v3)]) (by decide) rfl dX11_digest_40 ?_
    exact s_weak [0, 1, 3, 4] rfl (sm_Mod_digest_42 C hV hR v0 v1 v3 x29)
set_option maxRecDepth 20000 in
theorem sm_Mod_digest_20 {G : GT} {ad : Nat → Nat} {K : Int64 → Dm → Prop} (C : Cx G rm_Mod_digest cX11_digest 5 RX11) (hV : Vx G rm_Mod_digest ad ZF (0, 0)) (hR : RtL G rm_Mod_digest ad ZF (0, 0) cX11_digest K) (v0 : Nat) (v1 : Int64) (s : Int32) : Sm G rm_Mod_digest ad ZF (0, 0) K 20 ((fun (s : Int32) => [(0, .ref v0), (1, .long v1), (3, .int s)]) s) [] (Mod_digest_20 v0 v1 s) :=
  s_loop (en := (fun (s : Int32) => [(0, .ref v0), (1, .long v1), (3, .int s)])) (fun s => sm_Mod_digest_20_b C hV hR v0 v1 s) s
set_option maxRecDepth 20000 in
theorem sm_Mod_digest {G : GT} {ad : Nat → Nat} {K : Int64 → Dm → Prop} (C : Cx G rm_Mod_digest cX11_digest 5 RX11) (hV : Vx G rm_Mod_digest ad ZF (0, 0)) (hR : RtL G rm_Mod_digest ad ZF (0, 0) cX11_digest K) (v0 : Nat) : Sm G rm_Mod_digest ad ZF (0, 0) K 0 [(0, .ref v0)] [] (Mod_digest v0) := by
  unfold Mod_digest
  refine s_aload_n C rfl dX11_digest_0 ?_
  refine s_ldc2 C kl_X11_311 dX11_digest_1 ?_
  refine s_putL C hV fw_X11_307 rfl dX11_digest_4 ?_
  refine s_aload_n C rfl dX11_digest_7 ?_
  refine s_iconst C (0 : Int32) (by decide) dX11_digest_8 ?_
  refine s_wL C hV lv_X11_127 (st := []) (met_Mod_plateOf v0 (0 : Int32)) rf_Mod_digest_Mod_plateOf rfl rfl (Nat.le_of_ble_eq_true rfl) dX11_digest_9 (fun r1 => ?_)
  refine s_lstore_n C (L' := [(1, .long r1), (0, .ref v0)]) (by decide) rfl dX11_digest_12 ?_
  refine s_aload_n C rfl dX11_digest_13 ?_
  refine s_lload_n C rfl dX11_digest_14 ?_
  refine s_wV C hV lv_X11_313 (st := []) (met_Mod_mix v0 r1) rf_Mod_digest_Mod_mix rfl rfl (Nat.le_of_ble_eq_true rfl) dX11_digest_15 ?_
  refine s_iconst C (0 : Int32) (by decide) dX11_digest_18 ?_
  refine s_leti (fun x2 => ?_)
  refine s_istore_n C (L' := [(3, .int x2), (1, .long r1), (0, .ref v0)]) (by decide) rfl dX11_digest_19 ?_
  exact s_weak [0, 1, 3] rfl (sm_Mod_digest_20 C hV hR v0 r1 x2)
set_option maxRecDepth 20000 in
theorem met_Mod_digest (v0 : Nat) : ML ZF yX11_digest cX11_digest 5 rm_Mod_digest [.ref v0] (Mod_digest v0) :=
  ml_of (L0 := [(0, .ref v0)]) (by decide +kernel) (Nat.le_of_ble_eq_true rfl) rfl (fun G ad K C hV hR => sm_Mod_digest C hV hR v0)
