def FF (own : String) (idx ci k : Nat) : Prop := ∃ C T N, CF ci C T N ∧ k < N ∧ Cond.fieldLink own idx (T k).1 (T k).2.1 (T k).2.2.1 ∈ TT ∧ (T k).2.2.2 = true ∧ (T k).1 = own
def In (G : GT) : Prop := match G with
  | (_, _, _, _, _, _, _, meth, _, _, _, _, _) => meth.name = "<init>"
def MC (Z Z' : Zt) (y : MethodName) (bc : ByteArray) (mL : Nat) (rm : Room) (mc ms a : Nat) (d d' : Dm) : Prop := ∀ (l : Launch) (D : va_G) (cy : Nat → ClassId) (ad : Nat → Nat), Vk ad Z → ∀ sz, Met l y (.code y bc mL none :: TT) rm (va_Pc [cv ad (.ref a)] (PW D cy ad Z d sz)) (va_Qv (fun (ad' : Nat → Nat) => (∀ i, (i ≤ Z.1 ∨ Z'.1 < i) → ad' i = ad i) ∧ Vk ad' Z' ∧ ∀ i, 1 ≤ i → i ≤ Z'.1 → va_A (wd cy ad Z d) sz (ad' i)) (fun ad' t => va_P D vwCl (wd cy ad' Z' d') t.heap) (va_A (wd cy ad Z d) sz)) mc ms (va_A (wd cy ad Z d) sz)
def RC (G : GT) (R : Room) (Z' : Zt) (ck : Nat × Nat) (ad0 : Nat → Nat) (n : Nat) (cc : ByteArray) (d : Dm) : Prop := match G with
  | (p, l, e, s, m, args, below, meth, c, Q, A, cy, D) => ∀ (ad : Nat → Nat) (pc : Nat) (H : Heap) (locs : List Loc) (ls : Array Slot), (∀ i, (i ≤ n ∨ Z'.1 < i) → ad i = ad0 i) → Vk ad Z' → (∀ i, 1 ≤ i → i ≤ Z'.1 → A (ad i)) → decode cc pc = .ok (.return_, 1) → va_P D vwCl (wd cy ad Z' d) H → va_S A s.heap H locs → W p l e R s m args below meth c H locs ck.1 ck.2 Q (F0 m pc ls [])
def RI (R rm : Room) (mL mc ms : Nat) : Prop := rm.cells = mc ∧ rm.slots = ms ∧ rm.frames + 1 ≤ R.frames ∧ 8 + (mL + 11) + rm.locals ≤ R.locals
theorem ag_up {n m i q : Nat} {ad ad0 : Nat → Nat} (h : ∀ a, (a ≤ n ∨ m < a) → ad a = ad0 a) (h1 : n < i) (h2 : i ≤ m) : ∀ a, (a ≤ n ∨ m < a) → va_up ad i q a = ad0 a := fun a ha => by
  rw [show va_up ad i q a = ad a from if_neg (by omega)]
  exact h a ha
theorem ag_call {n m n1 m1 : Nat} {ad ad0 ad' : Nat → Nat} (h : ∀ a, (a ≤ n ∨ m < a) → ad a = ad0 a) (h1 : ∀ a, (a ≤ n1 ∨ m1 < a) → ad' a = ad a) (e1 : n ≤ n1) (e2 : m1 ≤ m) : ∀ a, (a ≤ n ∨ m < a) → ad' a = ad0 a := fun a ha => by
  rw [h1 a (by omega)]
  exact h a ha
section
variable {G : GT} {R : Room} {ad : Nat → Nat} {Z Z' : Zt} {ck : Nat × Nat} {pc nL : Nat} {cc : ByteArray} {own : String} {L : List (Nat × Value)} {st : List Value} {d : Dm}
theorem c_newq (C : Cx G R cc nL own) (hV : Vx G R ad Z ck) {idx kd ln t0 : Nat} {Cn : String} (hkd : (kd = 26 ∧ Cn = RX0 ∧ t0 = 5) ∨ (kd = 27 ∧ Cn = RX8 ∧ t0 = 6)) (hw : Cond.classLink own idx Cn ∈ TT) {n : Int32} (hn : ¬ n < 0) (hN : n.toNatClampNeg = ln) (hby : ln * 4 ≤ 536870912) (hZ : Zs Z Z' kd ln) (hcl : Cl d Z.1) (hrf : okr Z.1 (Z.1 + 1) L st) (hrm : ck.1 + 1 ≤ R.cells ∧ ck.2 + ln ≤ R.slots) (hd : decode cc pc = .ok (.anewarray idx, 3))
    (kk : ∀ q, Vx G R (va_up ad (Z.1 + 1) q) Z' (ck.1 + 1, ck.2 + ln) → Sm G R (va_up ad (Z.1 + 1) q) Z' (ck.1 + 1, ck.2 + ln) KT (pc + 3) L (.ref (Z.1 + 1) :: st) (eqd (nwD d (Z.1 + 1)))) : Sm G R ad Z ck KT pc L (.int n :: st) (eqd d) := by
  obtain ⟨p, l, e, s, m, args, below, meth, c, Q, A, cy, D⟩ := G
  obtain ⟨hx, hb, hml, hown, hts, hTy, hWd, hA, hlk⟩ := C
  obtain ⟨hVk, hVA, hVc⟩ := hV
  have hVA : ∀ a, 1 ≤ a → a ≤ Z.1 → A (ad a) := hVA
  intro d0 r d' hf hK H locs ls hl hP hS
  obtain ⟨rfl, -⟩ := eqd_some hf
  have hag : ∀ q a, (a ≤ Z.1 ∨ Z.1 + 1 < a) → va_up ad (Z.1 + 1) q a = ad a := fun q a h => if_neg (by omega)
  have ht : (tysF cy)[t0]? = some (cy kd, .object Cn) := by
    rcases hkd with ⟨rfl, rfl, rfl⟩ | ⟨rfl, rfl, rfl⟩ <;> rfl
  have hAO : va_AO Cn s := by
    rcases hkd with ⟨_, rfl, _⟩ | ⟨_, rfl, _⟩
    · exact hWd.2.1
    · exact hWd.2.2
  have hwx : ∀ q, wc cy (va_up ad (Z.1 + 1) q) Z' (nwD d0 (Z.1 + 1)) (Z.1 + 1) = .inl (cy kd, ln, .inr (.inr (.inr (.inr (fun _ => none))))) := fun q => by
    rw [wc_ref hZ.2.2.1 (by omega), hZ.2.2.2]
    congr 7
    funext k
    show ro _ (if Z.1 + 1 = Z.1 + 1 then 0 else d0.2.2 (Z.1 + 1) k) = none
    rw [if_pos rfl]; rfl
  refine va_newq hx hb hown (hts _ hw) hAO hTy hP (vk_D hVk hVA) hS hA hn hN hby hrm.1 hrm.2 hd (fun q cA H1 hK1 hP1 hD1 hS1 => ?_)
  rw [ca_one hK1 t0 ht, ← hwx q, ← wd_push hZ hcl] at hP1 hD1
  have hv := vk_of_D hD1
  have k := kk q ⟨⟨hv.1, zs_wf hZ hVk.2⟩, hv.2, hrm.1, hrm.2⟩ (nwD d0 (Z.1 + 1)) () (nwD d0 (Z.1 + 1)) (eqd_self _) trivial H1 locs ls
  rw [okr_L (hag q) hrf.1, List.map_cons, rfs_cv (hag q) hrf.2] at k
  have k := k hl hP1 hS1
  rw [show cv (va_up ad (Z.1 + 1) q) (.ref (Z.1 + 1)) = .ref q from (rv_n (by omega)).trans (by rw [show va_up ad (Z.1 + 1) q (Z.1 + 1) = q from if_pos rfl])] at k
  exact k
theorem c_objI (C : Cx G R cc nL own) {idx a : Nat} (ha : a ≠ 0) (hw : Cond.methodLink own idx objectInit ∈ TT ∧ Cond.instanceMethod objectInit ∈ TT ∧ Cond.code objectInit ⟨#[0xb1]⟩ 1 none ∈ TT) (hR : 1 ≤ R.frames ∧ (st.map fun v => v.category).sum + 12 ≤ R.locals) (hd : decode cc pc = .ok (.invokespecial idx, 3)) (k : Sm G R ad Z ck KT (pc + 3) L st (eqd d)) : Sm G R ad Z ck KT pc L (.ref a :: st) (eqd d) := by
  obtain ⟨p, l, e, s, m, args, below, meth, c, Q, A, cy, D⟩ := G
  obtain ⟨hx, hb, hml, hown, hts, hTy, hWd, hA, hlk⟩ := C
  intro d0 r d' hf hK H locs ls hl hP hS
  have kk := k d0 r d' hf hK H locs ls hl hP hS
  rw [List.map_cons, show cv ad (.ref a) = .ref (ad a) from rv_n ha]
  refine W.objInit hx hb hown (hts _ hw.1) (hts _ hw.2.1) (hts _ hw.2.2) rfl hl.1 rfl hd hR.1 ?_ kk
  show 2 * 0 + _ + 12 ≤ _
  rw [cat_map]
  have := hR.2
  omega
theorem c_getR (C : Cx G R cc nL own) (hV : Vx G R ad Z ck) {idx ci k : Nat} (hF : FL own idx ci k) (hty : ∀ (ad : Nat → Nat) (d : Dm) (a : Nat), fv ad d a k (ctF ci k) = rv ad (d.2.2 a k)) {a : Nat} (ha : Z.2.1 a = ci + 1) (x : Nat) (hx : d.2.2 a k = x) (hd : decode cc pc = .ok (.getfield idx, 3)) (kk : Sm G R ad Z ck KT (pc + 3) L (.ref x :: st) (eqd d)) : Sm G R ad Z ck KT pc L (.ref a :: st) (eqd d) := by
  have k := s_getR (K := KT) (L := L) (st := st) (kf := fun y => fun d1 => if y = x then eqd d d1 else none) C hV hF hty (a := a) hd (fun y => by
    by_cases h : y = x
    · subst h
      simp only [if_true]
      exact kk
    · obtain ⟨p, l, e, s, m, args, below, meth, c, Q, A, cy, D⟩ := G
      intro d0 r d' hf
      simp only [if_neg h] at hf
      cases hf)
  obtain ⟨p, l, e, s, m, args, below, meth, c, Q, A, cy, D⟩ := G
  intro d0 r d' hf hK H locs ls hl hP hS
  obtain ⟨rfl, he⟩ := eqd_some hf
  refine k d0 r d0 ?_ trivial H locs ls hl hP hS
  unfold mb gR
  simp only [ha, if_true]
  rw [if_pos hx]
  exact eqd_self d0
theorem c_putI (C : Cx G R cc nL own) (hV : Vx G R ad Z ck) {idx ci k : Nat} {ty : FieldType} (hF : FW own idx ci k) (hty : ctF ci k = ty) (hi : ∀ (ad : Nat → Nat) (d : Dm) (a : Nat), fv ad d a k ty = .int (d.1 a k)) {a : Nat} (ha : Z.2.1 a = ci + 1) {v : Int32} (hn : narrow ty (.int v) = .int v) (hfit : fits ty (.int v) = true) (hd : decode cc pc = .ok (.putfield idx, 3)) (kk : Sm G R ad Z ck KT (pc + 3) L st (eqd (pId d a k v))) : Sm G R ad Z ck KT pc L (.int v :: .ref a :: st) (eqd d) := by
  obtain ⟨p, l, e, s, m, args, below, meth, c, Q, A, cy, D⟩ := G
  obtain ⟨hx, hb, hml, hown, hts, hTy, hWd, hA, hlk⟩ := C
  obtain ⟨hVk, hVA, hVc⟩ := hV
  have hVA : ∀ a, 1 ≤ a → a ≤ Z.1 → A (ad a) := hVA
  intro d0 r d' hf hK H locs ls hl hP hS
  obtain ⟨rfl, -⟩ := eqd_some hf
  obtain ⟨hz, hr⟩ := ref_st hVk (a := a) (by omega)
  obtain ⟨C', T, N, hcf, hkN, hw, hfin⟩ := hF
  rw [List.map_cons, List.map_cons, hr]
  refine va_put (v := .int v) hx hb hts hcf.2.2.1 (ctF ci) hcf.2.2.2.1 hcf.2.2.2.2.1 hown hTy hP (vk_D hVk hVA) hS (a - 1) ((wd_at hz.1 hz.2).trans (by rw [wc_obj ha hcf.2.2.2.2.2])) hcf.1 k hkN (hts _ hw) (fun _ h => h) hfin ((hcf.2.2.2.1 k hkN).trans (by rw [hty])) hn hfit (by rw [fl_len, hcf.2.1]; exact hkN) hd (fun H1 locs1 hP1 _ hS1 => ?_)
  refine kk _ () _ (eqd_self _) trivial H1 locs1 ls hl ?_ hS1
  rw [← wd_set (d := d0) (d' := pId d0 a k v) hz.1 (wc_obj ha hcf.2.2.2.2.2) (fun b hb2 => wc_congr (u2_row d0.1 hb2 k v) rfl rfl), ← fl_set (d := d0) (k := k)]
  · exact hP1
  · rw [hty, hi]; show Value.int (u2 _ a k v a k) = Value.int v; rw [u2_s]
  · intro j hj; unfold fv pId; simp only [u2_k _ _ _ hj]
theorem c_putL (C : Cx G R cc nL own) (hV : Vx G R ad Z ck) {idx ci k : Nat} (hF : FW own idx ci k) (hty : ctF ci k = .long) {a : Nat} (ha : Z.2.1 a = ci + 1) {v : Int64} (hd : decode cc pc = .ok (.putfield idx, 3)) (kk : Sm G R ad Z ck KT (pc + 3) L st (eqd (pLd d a k v))) : Sm G R ad Z ck KT pc L (.long v :: .ref a :: st) (eqd d) := by
  obtain ⟨p, l, e, s, m, args, below, meth, c, Q, A, cy, D⟩ := G
  obtain ⟨hx, hb, hml, hown, hts, hTy, hWd, hA, hlk⟩ := C
  obtain ⟨hVk, hVA, hVc⟩ := hV
  have hVA : ∀ a, 1 ≤ a → a ≤ Z.1 → A (ad a) := hVA
  intro d0 r d' hf hK H locs ls hl hP hS
  obtain ⟨rfl, -⟩ := eqd_some hf
  obtain ⟨hz, hr⟩ := ref_st hVk (a := a) (by omega)
  obtain ⟨C', T, N, hcf, hkN, hw, hfin⟩ := hF
  rw [List.map_cons, List.map_cons, hr]
  refine va_put (v := .long v) hx hb hts hcf.2.2.1 (ctF ci) hcf.2.2.2.1 hcf.2.2.2.2.1 hown hTy hP (vk_D hVk hVA) hS (a - 1) ((wd_at hz.1 hz.2).trans (by rw [wc_obj ha hcf.2.2.2.2.2])) hcf.1 k hkN (hts _ hw) (fun _ h => h) hfin ((hcf.2.2.2.1 k hkN).trans (by rw [hty])) rfl rfl (by rw [fl_len, hcf.2.1]; exact hkN) hd (fun H1 locs1 hP1 _ hS1 => ?_)
  refine kk _ () _ (eqd_self _) trivial H1 locs1 ls hl ?_ hS1
  rw [← wd_set (d := d0) (d' := pLd d0 a k v) hz.1 (wc_obj ha hcf.2.2.2.2.2) (fun b hb2 => wc_congr rfl (u2_row d0.2.1 hb2 k v) rfl), ← fl_set (d := d0) (k := k)]
  · exact hP1
  · rw [hty]; show Value.long (u2 _ a k v a k) = Value.long v; rw [u2_s]
  · intro j hj; unfold fv pLd; simp only [u2_k _ _ _ hj]
theorem c_putR (C : Cx G R cc nL own) (hI : In G) (hV : Vx G R ad Z ck) {idx ci k : Nat} (hF : FF own idx ci k) (hty : ∀ (ad : Nat → Nat) (d : Dm) (a : Nat), fv ad d a k (ctF ci k) = rv ad (d.2.2 a k)) (hrt : ∀ q, narrow (ctF ci k) (.ref q) = .ref q ∧ fits (ctF ci k) (.ref q) = true) {a v : Nat} (ha : Z.2.1 a = ci + 1) (hv : Z.2.1 v ≠ 0) (hd : decode cc pc = .ok (.putfield idx, 3)) (kk : Sm G R ad Z ck KT (pc + 3) L st (eqd (pRd d a k v))) : Sm G R ad Z ck KT pc L (.ref v :: .ref a :: st) (eqd d) := by
  obtain ⟨p, l, e, s, m, args, below, meth, c, Q, A, cy, D⟩ := G
  obtain ⟨hx, hb, hml, hown, hts, hTy, hWd, hA, hlk⟩ := C
  obtain ⟨hVk, hVA, hVc⟩ := hV
  have hVA : ∀ a, 1 ≤ a → a ≤ Z.1 → A (ad a) := hVA
  intro d0 r d' hf hK H locs ls hl hP hS
  obtain ⟨rfl, -⟩ := eqd_some hf
  obtain ⟨hz, hr⟩ := ref_st hVk (a := a) (by omega)
  obtain ⟨hzv, hrv⟩ := ref_st hVk (a := v) hv
  obtain ⟨C', T, N, hcf, hkN, hw, hfin, hdc⟩ := hF
  rw [List.map_cons, List.map_cons, hr, hrv]
  refine va_putF (v := .ref (ad v)) hx hb hts hcf.2.2.1 (ctF ci) hcf.2.2.2.1 hcf.2.2.2.2.1 hown hTy hP (vk_D hVk hVA) hS (a - 1) ((wd_at hz.1 hz.2).trans (by rw [wc_obj ha hcf.2.2.2.2.2])) hcf.1 k hkN (hts _ hw) (fun _ h => h) hfin hI hdc (hcf.2.2.2.1 k hkN) (hrt _).1 (hrt _).2 (by rw [fl_len, hcf.2.1]; exact hkN) hd (fun H1 locs1 hP1 _ hS1 => ?_)
  refine kk _ () _ (eqd_self _) trivial H1 locs1 ls hl ?_ hS1
  rw [← wd_set (d := d0) (d' := pRd d0 a k v) hz.1 (wc_obj ha hcf.2.2.2.2.2) (fun b hb2 => wc_congr rfl rfl (u2_row d0.2.2 hb2 k v)), ← fl_set (d := d0) (k := k)]
  · exact hP1
  · rw [hty]; show rv ad (u2 _ a k v a k) = .ref (ad v); rw [u2_s]; exact hrv
  · intro j hj; unfold fv pRd; simp only [u2_k _ _ _ hj]
theorem c_aast (C : Cx G R cc nL own) (hV : Vx G R ad Z ck) {kd ek : Nat} (hk : (kd = 26 ∧ ek = 1) ∨ (kd = 27 ∧ ek = 9)) {a v : Nat} {i : Int32} (j : Nat) (hj : i.toNatClampNeg = j) (ha : Z.2.1 a = kd) (hi : ib i (Z.2.2 a)) (hv : Z.2.1 v = ek) (hd : decode cc pc = .ok (.aastore, 1)) (kk : Sm G R ad Z ck KT (pc + 1) L st (eqd (pRd d a j v))) : Sm G R ad Z ck KT pc L (.ref v :: .int i :: .ref a :: st) (eqd d) := by
  have k : Sm G R ad Z ck KT pc L (.ref v :: .int i :: .ref a :: st) (mb (sR Z kd ek a i v) (fun _ => eqd (pRd d a j v))) := by
    rcases hk with ⟨rfl, rfl⟩ | ⟨rfl, rfl⟩
    · exact s_aastoreA C hV hd kk
    · exact s_aastoreT C hV hd kk
  obtain ⟨p, l, e, s, m, args, below, meth, c, Q, A, cy, D⟩ := G
  intro d0 r d' hf hK H locs ls hl hP hS
  obtain ⟨rfl, -⟩ := eqd_some hf
  refine k d0 () (pRd d0 a j v) ?_ trivial H locs ls hl hP hS
  unfold mb sR
  rw [if_pos ⟨⟨ha, hi⟩, hv⟩]
  show eqd _ (d0.1, d0.2.1, u2 d0.2.2 a i.toNatClampNeg v) = _
  rw [hj]
  exact eqd_self _
theorem c_call (C : Cx G R cc nL own) (hV : Vx G R ad Z ck) {idx mL mc ms a : Nat} {y : MethodName} {bc : ByteArray} {rm : Room} {d1 : Dm} (hL : LC own idx y bc mL none 0 ∨ ∃ host, LN own idx y host bc mL none 0) (hy : y.name = "<init>" ∧ Cond.instanceMethod y ∈ TT) (ha : Z.2.1 a ≠ 0) (hM : MC Z Z' y bc mL rm mc ms a d d1) (hrm : RI R rm mL mc ms) (hrf : okr Z.1 Z'.1 L st) (hcat : (st.map fun v => v.category).sum ≤ 8) (hck : ck.1 + mc ≤ R.cells ∧ ck.2 + ms ≤ R.slots) (hd : decode cc pc = .ok (.invokespecial idx, 3)) (kk : ∀ ad' : Nat → Nat, (∀ i, (i ≤ Z.1 ∨ Z'.1 < i) → ad' i = ad i) → Vx G R ad' Z' (ck.1 + mc, ck.2 + ms) → Sm G R ad' Z' (ck.1 + mc, ck.2 + ms) KT (pc + 3) L st (eqd d1)) : Sm G R ad Z ck KT pc L (.ref a :: st) (eqd d) := by
  obtain ⟨p, l, e, s, m, args, below, meth, c, Q, A, cy, D⟩ := G
  obtain ⟨hx, hb, hml, hown, hts, hTy, hWd, hA, hlk⟩ := C
  obtain ⟨hVk, hVA, hVc⟩ := hV
  have hVA : ∀ a, 1 ≤ a → a ≤ Z.1 → A (ad a) := hVA
  intro d0 r d' hf hK H locs ls hl hP hS
  obtain ⟨rfl, -⟩ := eqd_some hf
  obtain ⟨hz, hr⟩ := ref_st hVk (a := a) ha
  have hMet := hM l D cy ad hVk H.size
  rw [hr] at hMet
  rw [List.map_cons, hr]
  have hFc := wd_A (cy := cy) (d := d0) hVA hS hA
  have hrun : va_Run p l e R s m args below meth c H locs ck.1 ck.2 mc ms (F0 m pc ls (.ref (ad a) :: st.map (cv ad))) (st.map (cv ad)) (va_Qv (fun (ad' : Nat → Nat) => (∀ i, (i ≤ Z.1 ∨ Z'.1 < i) → ad' i = ad i) ∧ Vk ad' Z' ∧ ∀ i, 1 ≤ i → i ≤ Z'.1 → va_A (wd cy ad Z d0) H.size (ad' i)) (fun ad' t => va_P D vwCl (wd cy ad' Z' d1) t.heap) (va_A (wd cy ad Z d0) H.size) (Value.ref (ad a) :: []).toArray) (va_A (wd cy ad Z d0) H.size) := by
    rcases hL with hL | ⟨host, hL⟩
    · exact va_runI (As := []) (n := 0) ⟨hx, hb, hml, hown, hts⟩ hMet ⟨callB_of 0 hts (gi_t0 hL.2.2.1) rfl hrm.1 hrm.2.1 (hts _ hL.2.1) (hts _ hL.1) hL.2.2.2 hrm.2.2, hy.1, hts _ hy.2⟩ ⟨pw_blind, fun U hU hW => ⟨rfl, by rw [hU], by rw [hU]; exact hP, va_K.moved hW.alike hTy, hWd.warm hW⟩⟩ rfl rfl (hl.1.trans hml) rfl (lv_room (by rw [cat_map]; exact hcat)) hd hck
    · exact va_runIN (As := []) (n := 0) ⟨hx, hb, hml, hown, hts⟩ hMet ⟨va_cnB 0 hts (gi_t0 hL.2.2.1) rfl hrm.1 hrm.2.1 (hWd.1 _ hL.1) (hts _ hL.2.1) hL.2.2.2 hrm.2.2, hy.1, hts _ hy.2⟩ ⟨pw_blind, fun U hU hW => ⟨rfl, by rw [hU], by rw [hU]; exact hP, va_K.moved hW.alike hTy, hWd.warm hW⟩⟩ rfl rfl (hl.1.trans hml) rfl (lv_room (by rw [cat_map]; exact hcat)) hd hck
  refine va_callv hrun hS (fun q _ h => hFc q h) hFc (fun ad' t H1 locs1 ht hvm hw hB hz1 hk1 hS1 => ?_)
  have hB : va_P D vwCl (wd cy ad' Z' d1) t.heap := hB
  rw [ht] at hB
  obtain ⟨hag, hVk', hA'⟩ := hw
  have k := kk ad' hag ⟨hVk', fun i h1 h2 => hFc _ (hA' i h1 h2), hck.1, hck.2⟩ d1 () d1 (eqd_self _) trivial H1 locs1 ls
  rw [okr_L hag hrf.1, rfs_cv hag hrf.2] at k
  exact k hl hB hS1
theorem c_ret {ad0 : Nat → Nat} {n : Nat} (hR : RC G R Z ck ad0 n cc d) (hag : ∀ i, (i ≤ n ∨ Z.1 < i) → ad i = ad0 i) (hV : Vx G R ad Z ck) (hd : decode cc pc = .ok (.return_, 1)) : Sm G R ad Z ck KT pc L [] (eqd d) := by
  obtain ⟨p, l, e, s, m, args, below, meth, c, Q, A, cy, D⟩ := G
  intro d0 r d' hf hK H locs ls hl hP hS
  obtain ⟨rfl, -⟩ := eqd_some hf
  exact hR ad pc H locs ls hag hV.1 hV.2.1 hd hP hS
theorem s_icmp_geT (C : Cx G R cc nL own) {x y : Int32} {off : Int} (h : y ≤ x) (tgt : Nat) (ht : (pc : Int) + off = (tgt : Int)) (hd : decode cc pc = .ok (.if_icmp .ge off, 3)) (kt : Sm G R ad Z ck KT tgt L st (eqd d)) : Sm G R ad Z ck KT pc L (.int y :: .int x :: st) (eqd d) := by
  have k := s_icmp_ge (K := KT) (f := eqd d) (g := fun _ => none) (x := x) (y := y) (st := st) C tgt ht hd kt (by
    obtain ⟨p, l, e, s, m, args, below, meth, c, Q, A, cy, D⟩ := G
    intro d0 r d' hf
    cases hf)
  rw [if_pos h] at k
  exact k
theorem s_icmp_geF (C : Cx G R cc nL own) {x y : Int32} {off : Int} (h : ¬ y ≤ x) (tgt : Nat) (ht : (pc : Int) + off = (tgt : Int)) (hd : decode cc pc = .ok (.if_icmp .ge off, 3)) (kf : Sm G R ad Z ck KT (pc + 3) L st (eqd d)) : Sm G R ad Z ck KT pc L (.int y :: .int x :: st) (eqd d) := by
  have k := s_icmp_ge (K := KT) (f := fun _ => none) (g := eqd d) (x := x) (y := y) (st := st) C tgt ht hd (by
    obtain ⟨p, l, e, s, m, args, below, meth, c, Q, A, cy, D⟩ := G
    intro d0 r d' hf
    cases hf) kf
  rw [if_neg h] at k
  exact k
theorem s_iincK (C : Cx G R cc nL own) {n : Nat} {z : Int} {x : Int32} (v : Int32) {L' : List (Nat × Value)} (hv : x + Int32.ofInt z = v) (hk : lk L n = some (.int x)) (hn : n < nL) (hL : st1 L n (.int v) = L') (hd : decode cc pc = .ok (.iinc n z, 3)) (k : Sm G R ad Z ck KT (pc + 3) L' st (eqd d)) : Sm G R ad Z ck KT pc L st (eqd d) := by
  subst hL
  obtain ⟨p, l, e, s, m, args, below, meth, c, Q, A, cy, D⟩ := G
  obtain ⟨hx, hb, hml, hown, hts, hTy, hWd, hA, hlk⟩ := C
  intro d0 r d' hf hK H locs ls hl hP hS
  obtain ⟨j, hj, hj2⟩ := List.getElem_of_mem (List.mem_map.mpr ⟨(n, Value.int x), lk_mem hk, rfl⟩ : (n, Value.int x) ∈ L.map (cw ad))
  exact lv_iinc (k := j) hx hb hd hl (by rw [List.getElem?_eq_getElem hj, hj2]) hv (by rw [hml]; exact hn) (st1_map ad L n (.int v)) (fun ls' hl' => k d0 r d' hf hK H locs ls' hl' hP hS)
end
theorem mc_of {Z Z' : Zt} {y : MethodName} {bc : ByteArray} {mL : Nat} {rm : Room} {mc ms a : Nat} {d d' : Dm} (hpl : plainName y.cls = true) (hnm : y.name = "<init>") (hlen : 1 ≤ mL) (hb : ∀ (G : GT) (ad : Nat → Nat), Cx G rm bc mL y.cls → In G → Vx G rm ad Z (0, 0) → RC G rm Z' (mc, ms) ad Z.1 bc d' → Sm G rm ad Z (0, 0) KT 0 [(0, .ref a)] [] (eqd d)) : MC Z Z' y bc mL rm mc ms a d d' := by
  intro l D cy ad hVk sz
  refine Met.ofW (cc := bc) (maxL := mL) hpl rfl ?_
  intro p e s m args below meth c s₁ B hml hv
  obtain ⟨rfl, hsz, hP, hK, hWd⟩ := hv
  have hts : ∀ w ∈ TT, w.before ([cv ad (.ref a)].toArray) s = true := fun w hw => atoms_spec B.pre w (List.mem_cons_of_mem _ hw)
  subst hsz
  have hl := lv_entry ([Value.ref a].map (cv ad)) (n := mL) (by rw [sl_len]; exact hlen)
  rw [show [cv ad (.ref a)] = [Value.ref a].map (cv ad) from rfl, lg_entry_eq]
  generalize (lg_sl ([Value.ref a].map (cv ad)) ++ List.replicate (mL - (lg_sl ([Value.ref a].map (cv ad))).length) Slot.unset).toArray = ls at hl ⊢
  rw [args_map, ← hml] at hl
  refine hb (p, l, e, s, m, ([Value.ref a].map (cv ad)).toArray, below, meth, c, MQ below (va_Qv (fun (ad' : Nat → Nat) => (∀ i, (i ≤ Z.1 ∨ Z'.1 < i) → ad' i = ad i) ∧ Vk ad' Z' ∧ ∀ i, 1 ≤ i → i ≤ Z'.1 → va_A (wd cy ad Z d) s.heap.size (ad' i)) (fun ad' t => va_P D vwCl (wd cy ad' Z' d') t.heap) (va_A (wd cy ad Z d) s.heap.size)) ([Value.ref a].map (cv ad)).toArray s mc ms (va_A (wd cy ad Z d) s.heap.size), va_A (wd cy ad Z d) s.heap.size, cy, D) ad ⟨B.exec, B.bytes, hml, findClass_of_methodNamed B.named, hts, hK, hWd, fun q h => Or.inr h, B.notSynchronized⟩ ?_ ⟨hVk, ?_, Nat.zero_le _, Nat.zero_le _⟩ ?_ d () d (eqd_self _) trivial s.heap [] ls hl hP va_S.rf
  · show meth.name = "<init>"
    rw [(name_of_methodNamed B.named B.method).1]
    exact hnm
  · intro i h1 h2
    exact Or.inl ⟨i - 1, _, wd_at h1 h2⟩
  · show ∀ _, _
    intro ad' pc H locs ls hag hVk' hA' hdg hP hS
    exact W.vret B.exec B.bytes B.returns (fun t ht hW => ⟨⟨ad', rfl, ⟨hag, hVk', hA'⟩, by show va_P D vwCl _ t.heap; rw [ht]; exact hP⟩, hS.F ht⟩) hS.2.2 hdg B.notSynchronized
