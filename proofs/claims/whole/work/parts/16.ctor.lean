/-! ===== constructors: the memory told as it stands; what is made ===== -/
noncomputable def eqd (d : Dm) : MM Unit := fun x => @ite _ (x = d) (Classical.propDecidable _) (some ((), x)) none
theorem eqd_some {d x : Dm} {q : Unit × Dm} (h : eqd d x = some q) : x = d ∧ q.2 = d := by
  unfold eqd at h
  by_cases hx : x = d
  · rw [if_pos hx] at h
    cases h
    exact ⟨hx, hx⟩
  · rw [if_neg hx] at h
    cases h
theorem eqd_self (d : Dm) : eqd d d = some ((), d) := if_pos rfl
abbrev KT : Unit → Dm → Prop := fun _ _ => True
def nwD (d : Dm) (a : Nat) : Dm := (fun i j => if i = a then 0 else d.1 i j, fun i j => if i = a then 0 else d.2.1 i j, fun i j => if i = a then 0 else d.2.2 i j)
def pId (d : Dm) (a k : Nat) (x : Int32) : Dm := (u2 d.1 a k x, d.2)
def pLd (d : Dm) (a k : Nat) (x : Int64) : Dm := (d.1, u2 d.2.1 a k x, d.2.2)
def pRd (d : Dm) (a k : Nat) (x : Nat) : Dm := (d.1, d.2.1, u2 d.2.2 a k x)
def Cl (d : Dm) (n : Nat) : Prop := ∀ a k, d.2.2 a k ≤ n
theorem Cl_nw {d : Dm} {n : Nat} (h : Cl d n) (a : Nat) : Cl (nwD d a) (n + 1) := fun i j => by
  show (if i = a then 0 else d.2.2 i j) ≤ _
  split
  · omega
  · have := h i j; omega
theorem Cl_pI {d : Dm} {n : Nat} (h : Cl d n) (a k : Nat) (x : Int32) : Cl (pId d a k x) n := h
theorem Cl_pL {d : Dm} {n : Nat} (h : Cl d n) (a k : Nat) (x : Int64) : Cl (pLd d a k x) n := h
theorem Cl_pR {d : Dm} {n : Nat} (h : Cl d n) (a k : Nat) {x : Nat} (hx : x ≤ n) : Cl (pRd d a k x) n := fun i j => by
  show u2 d.2.2 a k x i j ≤ n
  unfold u2
  split
  · exact hx
  · exact h i j
def ZP (k : Nat) : Zt := (k, fun a => if a ≤ k then kfl.getD a 0 else 0, fun a => if a ≤ k then lfl.getD a 0 else 0)
def Zs (Z Z' : Zt) (kd ln : Nat) : Prop := Z'.1 = Z.1 + 1 ∧ (∀ a, a ≠ Z.1 + 1 → Z'.2.1 a = Z.2.1 a ∧ Z'.2.2 a = Z.2.2 a) ∧ Z'.2.1 (Z.1 + 1) = kd ∧ Z'.2.2 (Z.1 + 1) = ln
theorem zp_s {k kd ln : Nat} (h1 : kfl.getD (k + 1) 0 = kd) (h2 : lfl.getD (k + 1) 0 = ln) : Zs (ZP k) (ZP (k + 1)) kd ln := by
  refine ⟨rfl, fun a ha => ?_, ?_, ?_⟩
  · have ha : a ≠ k + 1 := ha
    simp only [ZP]
    by_cases h : a ≤ k
    · rw [if_pos h, if_pos h, if_pos (by omega), if_pos (by omega)]; exact ⟨rfl, rfl⟩
    · rw [if_neg h, if_neg h, if_neg (by omega), if_neg (by omega)]; exact ⟨rfl, rfl⟩
  · show (if k + 1 ≤ k + 1 then _ else _) = kd
    rw [if_pos (Nat.le_refl _)]; exact h1
  · show (if k + 1 ≤ k + 1 then _ else _) = ln
    rw [if_pos (Nat.le_refl _)]; exact h2
def rfs (n m : Nat) : List Value → Prop
  | [] => True
  | .ref a :: t => (a ≤ n ∨ m < a) ∧ rfs n m t
  | _ :: t => rfs n m t
def okr (n m : Nat) (L : List (Nat × Value)) (st : List Value) : Prop := rfs n m (L.map Prod.snd) ∧ rfs n m st
theorem rfs_cv {n m : Nat} {ad ad' : Nat → Nat} (h : ∀ a, (a ≤ n ∨ m < a) → ad' a = ad a) : ∀ {st : List Value}, rfs n m st → st.map (cv ad') = st.map (cv ad)
  | [], _ => rfl
  | v :: t, hr => by
    rw [List.map_cons, List.map_cons]
    cases v with
    | ref a =>
      rw [rfs_cv h hr.2]
      congr 1
      show rv ad' a = rv ad a
      unfold rv ro
      rw [h a hr.1]
    | int _ => rw [rfs_cv h (show rfs n m t from hr)]; rfl
    | long _ => rw [rfs_cv h (show rfs n m t from hr)]; rfl
    | float _ => rw [rfs_cv h (show rfs n m t from hr)]; rfl
    | double _ => rw [rfs_cv h (show rfs n m t from hr)]; rfl
    | null => rw [rfs_cv h (show rfs n m t from hr)]; rfl
    | retAddr _ => rw [rfs_cv h (show rfs n m t from hr)]; rfl
theorem okr_L {n m : Nat} {ad ad' : Nat → Nat} {L : List (Nat × Value)} (h : ∀ a, (a ≤ n ∨ m < a) → ad' a = ad a) (hr : rfs n m (L.map Prod.snd)) : L.map (cw ad') = L.map (cw ad) := by
  induction L with
  | nil => rfl
  | cons q t ih =>
    obtain ⟨i, v⟩ := q
    have h1 : rfs n m [v] ∧ rfs n m (t.map Prod.snd) := by
      cases v with
      | ref a => exact ⟨⟨hr.1, trivial⟩, hr.2⟩
      | _ => exact ⟨trivial, hr⟩
    rw [List.map_cons, List.map_cons, ih h1.2]
    congr 1
    have h2 := rfs_cv h h1.1
    simp only [List.map_cons, List.map_nil, List.cons.injEq, and_true] at h2
    show (i, cv ad' v) = (i, cv ad v)
    rw [h2]
def fv0 (ty : FieldType) : Value := match ty with
  | .long => .long 0
  | .object _ => .null
  | .array _ => .null
  | _ => .int 0
theorem fv_nw (ad : Nat → Nat) (d : Dm) (a k : Nat) (ty : FieldType) : fv ad (nwD d a) a k ty = fv0 ty := by
  cases ty <;> simp [fv, fv0, nwD, rv, ro, va_rf]
theorem wd_push {cy : Nat → ClassId} {ad : Nat → Nat} {Z Z' : Zt} {d : Dm} {q kd ln : Nat} (hZ : Zs Z Z' kd ln) (hcl : Cl d Z.1) : wd cy (va_up ad (Z.1 + 1) q) Z' (nwD d (Z.1 + 1)) = wd cy ad Z d ++ [(q, wc cy (va_up ad (Z.1 + 1) q) Z' (nwD d (Z.1 + 1)) (Z.1 + 1))] := by
  unfold wd
  rw [hZ.1, List.range_succ, List.map_append]
  congr 1
  · apply List.map_congr_left
    intro i hi
    have hi : i < Z.1 := List.mem_range.mp hi
    have hne : i + 1 ≠ Z.1 + 1 := by omega
    have e1 : va_up ad (Z.1 + 1) q (i + 1) = ad (i + 1) := if_neg hne
    have hr : ∀ r, r ≤ Z.1 → ro (va_up ad (Z.1 + 1) q) r = ro ad r := fun r hr => by
      unfold ro
      rw [show va_up ad (Z.1 + 1) q r = ad r from if_neg (by omega)]
    have f1 : (nwD d (Z.1 + 1)).1 (i + 1) = d.1 (i + 1) := funext fun j => if_neg hne
    have f2 : (nwD d (Z.1 + 1)).2.1 (i + 1) = d.2.1 (i + 1) := funext fun j => if_neg hne
    have f3 : (nwD d (Z.1 + 1)).2.2 (i + 1) = d.2.2 (i + 1) := funext fun j => if_neg hne
    rw [e1]
    congr 1
    rw [wc_congr (d := d) f1 f2 f3]
    have ef : ∀ ci, fl (va_up ad (Z.1 + 1) q) d (i + 1) ci = fl ad d (i + 1) ci := fun ci => by
      unfold fl
      apply List.map_congr_left
      intro k _
      unfold fv rv
      rw [hr _ (hcl (i + 1) k)]
    have eg : (fun k => ro (va_up ad (Z.1 + 1) q) (d.2.2 (i + 1) k)) = fun k => ro ad (d.2.2 (i + 1) k) := funext fun k => hr _ (hcl (i + 1) k)
    unfold wc
    rw [(hZ.2.1 (i + 1) hne).1, (hZ.2.1 (i + 1) hne).2, ef, eg]
  · simp only [List.map_cons, List.map_nil]
    rw [show va_up ad (Z.1 + 1) q (Z.1 + 1) = q from if_pos rfl]
theorem vk_of_D {A : Nat → Prop} {cy : Nat → ClassId} {ad : Nat → Nat} {Z : Zt} {d : Dm} (h : va_D A (wd cy ad Z d)) : (∀ a b, 1 ≤ a → a ≤ Z.1 → 1 ≤ b → b ≤ Z.1 → ad a = ad b → a = b) ∧ ∀ a, 1 ≤ a → a ≤ Z.1 → A (ad a) := by
  constructor
  · intro a b h1 h2 h3 h4 e
    have := h.1 (a - 1) (b - 1) _ _ (wd_at h1 h2) (wd_at h3 h4) e
    omega
  · intro a h1 h2
    exact h.2 (a - 1) _ (wd_at h1 h2)
theorem zs_wf {Z Z' : Zt} {kd ln : Nat} (hZ : Zs Z Z' kd ln) (h : ∀ a, Z.2.1 a ≠ 0 → 1 ≤ a ∧ a ≤ Z.1) : ∀ a, Z'.2.1 a ≠ 0 → 1 ≤ a ∧ a ≤ Z'.1 := fun a ha => by
  rw [hZ.1]
  by_cases e : a = Z.1 + 1
  · omega
  · rw [(hZ.2.1 a e).1] at ha
    have := h a ha
    omega
theorem ca_one {D : va_G} {cl : List vw_C} {tys : List (ClassId × FieldType)} {s : State} {cA : ClassId} {ty : FieldType} (h : va_K D cl (tys ++ [(cA, ty)]) s) (i : Nat) {cB : ClassId} (hi : tys[i]? = some (cB, ty)) : cA = cB := by
  have hl : i < tys.length := (List.getElem?_eq_some_iff.mp hi).1
  have h1 := (h.2 i (cB, ty) (by rw [List.getElem?_append_left hl]; exact hi)).2
  have h2 := (h.2 tys.length (cA, ty) (by simp)).2
  cases ty with
  | object C =>
    obtain ⟨_, _, _, _, _, e1⟩ := h1
    obtain ⟨_, _, _, _, _, e2⟩ := h2
    rw [e2] at e1
    exact Option.some.inj e1
  | _ =>
    have e1 := h1
    have e2 := h2
    simp only [va_RA] at e1 e2
    rw [e2] at e1
    exact Option.some.inj e1
section
variable {G : GT} {R : Room} {ad : Nat → Nat} {Z Z' : Zt} {ck : Nat × Nat} {pc nL : Nat} {cc : ByteArray} {own : String} {L : List (Nat × Value)} {st : List Value} {d : Dm}
theorem c_new (C : Cx G R cc nL own) (hV : Vx G R ad Z ck) {idx ci N : Nat} {Cn : String} {T : u_T} (hcf : CF ci Cn T N) (hw : Cond.classLink own idx Cn ∈ TT ∧ Cond.instantiable Cn N ∈ TT ∧ Cond.initialized Cn ∈ TT) (hdf : ∀ j, j < N → defaultValue (ctF ci j) = fv0 (ctF ci j)) (hZ : Zs Z Z' (ci + 1) 0) (hcl : Cl d Z.1) (hrf : okr Z.1 (Z.1 + 1) L st) (hrm : ck.1 + 1 ≤ R.cells ∧ ck.2 + N ≤ R.slots) (hd : decode cc pc = .ok (.new idx, 3))
    (kk : ∀ q, Vx G R (va_up ad (Z.1 + 1) q) Z' (ck.1 + 1, ck.2 + N) → Sm G R (va_up ad (Z.1 + 1) q) Z' (ck.1 + 1, ck.2 + N) KT (pc + 3) L (.ref (Z.1 + 1) :: st) (eqd (nwD d (Z.1 + 1)))) : Sm G R ad Z ck KT pc L st (eqd d) := by
  obtain ⟨p, l, e, s, m, args, below, meth, c, Q, A, cy, D⟩ := G
  obtain ⟨hx, hb, hml, hown, hts, hTy, hWd, hA, hlk⟩ := C
  obtain ⟨hVk, hVA, hVc⟩ := hV
  have hVA : ∀ a, 1 ≤ a → a ≤ Z.1 → A (ad a) := hVA
  intro d0 r d' hf hK H locs ls hl hP hS
  obtain ⟨rfl, -⟩ := eqd_some hf
  have hag : ∀ q a, (a ≤ Z.1 ∨ Z.1 + 1 < a) → va_up ad (Z.1 + 1) q a = ad a := fun q a h => if_neg (by omega)
  refine va_new (fs := fl (va_up ad (Z.1 + 1) 0) (nwD d0 (Z.1 + 1)) (Z.1 + 1) ci) hx hb hts hcf.2.2.1 (ctF ci) hcf.2.2.2.1 hown (hts _ hw.1) (hts _ hw.2.1) (hts _ hw.2.2) hTy hP (vk_D hVk hVA) hS hA hcf.1 (fun j hj => ?_) hrm.1 hrm.2 hd (fun q H1 hP1 hD1 hS1 => ?_)
  · unfold vp_V
    rw [List.getD_eq_getElem?_getD, fl_get (by rw [hcf.2.1]; exact hj), fv_nw]
    exact hdf j hj
  · have ew : wc cy (va_up ad (Z.1 + 1) q) Z' (nwD d0 (Z.1 + 1)) (Z.1 + 1) = .inr (ci, fl (va_up ad (Z.1 + 1) 0) (nwD d0 (Z.1 + 1)) (Z.1 + 1) ci) := by
      rw [wc_obj hZ.2.2.1 hcf.2.2.2.2.2]
      congr 2
      unfold fl
      exact List.map_congr_left (fun k _ => by rw [fv_nw, fv_nw])
    rw [← ew, ← wd_push hZ hcl] at hP1 hD1
    have hv := vk_of_D hD1
    have k := kk q ⟨⟨hv.1, zs_wf hZ hVk.2⟩, hv.2, hrm.1, hrm.2⟩ (nwD d0 (Z.1 + 1)) () (nwD d0 (Z.1 + 1)) (eqd_self _) trivial H1 locs ls
    rw [okr_L (hag q) hrf.1, List.map_cons, rfs_cv (hag q) hrf.2] at k
    have k := k hl hP1 hS1
    rw [show cv (va_up ad (Z.1 + 1) q) (.ref (Z.1 + 1)) = .ref q from (rv_n (by omega)).trans (by rw [show va_up ad (Z.1 + 1) q (Z.1 + 1) = q from if_pos rfl])] at k
    exact k
theorem c_newa (C : Cx G R cc nL own) (hV : Vx G R ad Z ck) {at_ : ArrayType} {ty : FieldType} (hty : newarray.typeOf at_ = ty) {kd ln t0 : Nat} (hkd : (kd = 21 ∧ ty = .byte ∧ t0 = 0) ∨ (kd = 22 ∧ ty = .char ∧ t0 = 1) ∨ (kd = 23 ∧ ty = .int ∧ t0 = 2) ∨ (kd = 24 ∧ ty = .long ∧ t0 = 3) ∨ (kd = 25 ∧ ty = .boolean ∧ t0 = 4)) (hw : Cond.arrayClass ty ∈ TT) {n : Int32} (hn : ¬ n < 0) (hN : n.toNatClampNeg = ln) (hby : ln * 8 ≤ 536870912) (hZ : Zs Z Z' kd ln) (hcl : Cl d Z.1) (hrf : okr Z.1 (Z.1 + 1) L st) (hrm : ck.1 + 1 ≤ R.cells ∧ ck.2 + ln ≤ R.slots) (hd : decode cc pc = .ok (.newarray at_, 2))
    (kk : ∀ q, Vx G R (va_up ad (Z.1 + 1) q) Z' (ck.1 + 1, ck.2 + ln) → Sm G R (va_up ad (Z.1 + 1) q) Z' (ck.1 + 1, ck.2 + ln) KT (pc + 2) L (.ref (Z.1 + 1) :: st) (eqd (nwD d (Z.1 + 1)))) : Sm G R ad Z ck KT pc L (.int n :: st) (eqd d) := by
  obtain ⟨p, l, e, s, m, args, below, meth, c, Q, A, cy, D⟩ := G
  obtain ⟨hx, hb, hml, hown, hts, hTy, hWd, hA, hlk⟩ := C
  obtain ⟨hVk, hVA, hVc⟩ := hV
  have hVA : ∀ a, 1 ≤ a → a ≤ Z.1 → A (ad a) := hVA
  intro d0 r d' hf hK H locs ls hl hP hS
  obtain ⟨rfl, -⟩ := eqd_some hf
  have hag : ∀ q a, (a ≤ Z.1 ∨ Z.1 + 1 < a) → va_up ad (Z.1 + 1) q a = ad a := fun q a h => if_neg (by omega)
  have ht : (tysF cy)[t0]? = some (cy kd, ty) := by
    rcases hkd with ⟨rfl, rfl, rfl⟩ | ⟨rfl, rfl, rfl⟩ | ⟨rfl, rfl, rfl⟩ | ⟨rfl, rfl, rfl⟩ | ⟨rfl, rfl, rfl⟩ <;> rfl
  have hsz : componentBytes ty ≤ 8 := by
    rcases hkd with ⟨rfl, rfl, rfl⟩ | ⟨rfl, rfl, rfl⟩ | ⟨rfl, rfl, rfl⟩ | ⟨rfl, rfl, rfl⟩ | ⟨rfl, rfl, rfl⟩ <;> decide
  obtain ⟨x, hwx, hcell⟩ : ∃ x : vp_A, (∀ q, wc cy (va_up ad (Z.1 + 1) q) Z' (nwD d0 (Z.1 + 1)) (Z.1 + 1) = .inl (cy kd, x)) ∧ ∀ cA, vp_cell cA x = arrV cA ln (fun _ => defaultValue ty) := by
    have hz1 : (nwD d0 (Z.1 + 1)).1 (Z.1 + 1) = fun _ => 0 := funext fun j => if_pos rfl
    have hz2 : (nwD d0 (Z.1 + 1)).2.1 (Z.1 + 1) = fun _ => 0 := funext fun j => if_pos rfl
    by_cases h24 : kd = 24
    · refine ⟨(ln, .inr (.inl (fun _ => 0))), fun q => ?_, fun cA => ?_⟩
      · rw [wc_long (by rw [hZ.2.2.1]; exact h24), hZ.2.2.2, hz2, h24]
      · have : ty = .long := by rcases hkd with ⟨h, _⟩ | ⟨h, _⟩ | ⟨h, _⟩ | ⟨_, h, _⟩ | ⟨h, _⟩ <;> first | exact h | omega
        rw [this]; rfl
    · refine ⟨(ln, .inl (fun _ => 0)), fun q => ?_, fun cA => ?_⟩
      · rw [wc_int hZ.2.2.1 (by omega), hZ.2.2.2, hz1]
      · rcases hkd with ⟨rfl, rfl, rfl⟩ | ⟨rfl, rfl, rfl⟩ | ⟨rfl, rfl, rfl⟩ | ⟨rfl, rfl, rfl⟩ | ⟨rfl, rfl, rfl⟩ <;> first | rfl | exact absurd rfl h24
  refine va_newa (a0 := x) hx hb (by rw [hty]; exact hts _ hw) hty hTy hP (vk_D hVk hVA) hS hA hcell hn hN (Nat.le_trans (Nat.mul_le_mul_left _ hsz) hby) hrm.1 hrm.2 hd (fun q cA H1 hK1 hP1 hD1 hS1 => ?_)
  rw [ca_one hK1 t0 ht, ← hwx q, ← wd_push hZ hcl] at hP1 hD1
  have hv := vk_of_D hD1
  have k := kk q ⟨⟨hv.1, zs_wf hZ hVk.2⟩, hv.2, hrm.1, hrm.2⟩ (nwD d0 (Z.1 + 1)) () (nwD d0 (Z.1 + 1)) (eqd_self _) trivial H1 locs ls
  rw [okr_L (hag q) hrf.1, List.map_cons, rfs_cv (hag q) hrf.2] at k
  have k := k hl hP1 hS1
  rw [show cv (va_up ad (Z.1 + 1) q) (.ref (Z.1 + 1)) = .ref q from (rv_n (by omega)).trans (by rw [show va_up ad (Z.1 + 1) q (Z.1 + 1) = q from if_pos rfl])] at k
  exact k
end
