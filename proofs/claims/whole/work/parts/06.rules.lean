section
variable {ρ : Type} {G : GT} {R : Room} {ad : Nat → Nat} {Z : Zt} {ck : Nat × Nat} {K : ρ → Dm → Prop} {pc nL : Nat} {cc : ByteArray} {own : String} {L : List (Nat × Value)} {st : List Value} {f : MM ρ}
theorem s_iadd (C : Cx G R cc nL own) {x y : Int32} (hd : decode cc pc = .ok (.iadd, 1)) (k : Sm G R ad Z ck K (pc + 1) L (.int (x + y) :: st) f) : Sm G R ad Z ck K pc L (.int y :: .int x :: st) f := by
  obtain ⟨p, l, e, s, m, args, below, meth, c, Q, A, cy, D⟩ := G
  obtain ⟨hx, hb, hml, hown, hts, hTy, hWd, hA, hlk⟩ := C
  intro d r d' hf hK H locs ls hl hP hS
  exact lv_iadd hx hb hd (k d r d' hf hK H locs ls hl hP hS)
theorem s_isub (C : Cx G R cc nL own) {x y : Int32} (hd : decode cc pc = .ok (.isub, 1)) (k : Sm G R ad Z ck K (pc + 1) L (.int (x - y) :: st) f) : Sm G R ad Z ck K pc L (.int y :: .int x :: st) f := by
  obtain ⟨p, l, e, s, m, args, below, meth, c, Q, A, cy, D⟩ := G
  obtain ⟨hx, hb, hml, hown, hts, hTy, hWd, hA, hlk⟩ := C
  intro d r d' hf hK H locs ls hl hP hS
  exact lv_isub hx hb hd (k d r d' hf hK H locs ls hl hP hS)
theorem s_imul (C : Cx G R cc nL own) {x y : Int32} (hd : decode cc pc = .ok (.imul, 1)) (k : Sm G R ad Z ck K (pc + 1) L (.int (x * y) :: st) f) : Sm G R ad Z ck K pc L (.int y :: .int x :: st) f := by
  obtain ⟨p, l, e, s, m, args, below, meth, c, Q, A, cy, D⟩ := G
  obtain ⟨hx, hb, hml, hown, hts, hTy, hWd, hA, hlk⟩ := C
  intro d r d' hf hK H locs ls hl hP hS
  exact lv_imul hx hb hd (k d r d' hf hK H locs ls hl hP hS)
theorem s_iand (C : Cx G R cc nL own) {x y : Int32} (hd : decode cc pc = .ok (.iand, 1)) (k : Sm G R ad Z ck K (pc + 1) L (.int (x &&& y) :: st) f) : Sm G R ad Z ck K pc L (.int y :: .int x :: st) f := by
  obtain ⟨p, l, e, s, m, args, below, meth, c, Q, A, cy, D⟩ := G
  obtain ⟨hx, hb, hml, hown, hts, hTy, hWd, hA, hlk⟩ := C
  intro d r d' hf hK H locs ls hl hP hS
  exact lv_iand hx hb hd (k d r d' hf hK H locs ls hl hP hS)
theorem s_ior (C : Cx G R cc nL own) {x y : Int32} (hd : decode cc pc = .ok (.ior, 1)) (k : Sm G R ad Z ck K (pc + 1) L (.int (x ||| y) :: st) f) : Sm G R ad Z ck K pc L (.int y :: .int x :: st) f := by
  obtain ⟨p, l, e, s, m, args, below, meth, c, Q, A, cy, D⟩ := G
  obtain ⟨hx, hb, hml, hown, hts, hTy, hWd, hA, hlk⟩ := C
  intro d r d' hf hK H locs ls hl hP hS
  exact lv_ior hx hb hd (k d r d' hf hK H locs ls hl hP hS)
theorem s_ixor (C : Cx G R cc nL own) {x y : Int32} (hd : decode cc pc = .ok (.ixor, 1)) (k : Sm G R ad Z ck K (pc + 1) L (.int (x ^^^ y) :: st) f) : Sm G R ad Z ck K pc L (.int y :: .int x :: st) f := by
  obtain ⟨p, l, e, s, m, args, below, meth, c, Q, A, cy, D⟩ := G
  obtain ⟨hx, hb, hml, hown, hts, hTy, hWd, hA, hlk⟩ := C
  intro d r d' hf hK H locs ls hl hP hS
  exact lv_ixor hx hb hd (k d r d' hf hK H locs ls hl hP hS)
theorem s_ishl (C : Cx G R cc nL own) {x y : Int32} (hd : decode cc pc = .ok (.ishl, 1)) (k : Sm G R ad Z ck K (pc + 1) L (.int (x <<< (y &&& 31)) :: st) f) : Sm G R ad Z ck K pc L (.int y :: .int x :: st) f := by
  obtain ⟨p, l, e, s, m, args, below, meth, c, Q, A, cy, D⟩ := G
  obtain ⟨hx, hb, hml, hown, hts, hTy, hWd, hA, hlk⟩ := C
  intro d r d' hf hK H locs ls hl hP hS
  exact lv_ishl hx hb hd (k d r d' hf hK H locs ls hl hP hS)
theorem s_ishr (C : Cx G R cc nL own) {x y : Int32} (hd : decode cc pc = .ok (.ishr, 1)) (k : Sm G R ad Z ck K (pc + 1) L (.int (x >>> (y &&& 31)) :: st) f) : Sm G R ad Z ck K pc L (.int y :: .int x :: st) f := by
  obtain ⟨p, l, e, s, m, args, below, meth, c, Q, A, cy, D⟩ := G
  obtain ⟨hx, hb, hml, hown, hts, hTy, hWd, hA, hlk⟩ := C
  intro d r d' hf hK H locs ls hl hP hS
  exact lv_ishr hx hb hd (k d r d' hf hK H locs ls hl hP hS)
theorem s_iushr (C : Cx G R cc nL own) {x y : Int32} (hd : decode cc pc = .ok (.iushr, 1)) (k : Sm G R ad Z ck K (pc + 1) L (.int ((x.toUInt32 >>> (y.toUInt32 &&& Int32.toUInt32 31)).toInt32) :: st) f) : Sm G R ad Z ck K pc L (.int y :: .int x :: st) f := by
  obtain ⟨p, l, e, s, m, args, below, meth, c, Q, A, cy, D⟩ := G
  obtain ⟨hx, hb, hml, hown, hts, hTy, hWd, hA, hlk⟩ := C
  intro d r d' hf hK H locs ls hl hP hS
  exact lv_iushr hx hb hd rfl (k d r d' hf hK H locs ls hl hP hS)
theorem s_idiv (C : Cx G R cc nL own) {x y : Int32} (hn : ¬ y = 0) (hd : decode cc pc = .ok (.idiv, 1)) (k : Sm G R ad Z ck K (pc + 1) L (.int (x / y) :: st) f) : Sm G R ad Z ck K pc L (.int y :: .int x :: st) f := by
  obtain ⟨p, l, e, s, m, args, below, meth, c, Q, A, cy, D⟩ := G
  obtain ⟨hx, hb, hml, hown, hts, hTy, hWd, hA, hlk⟩ := C
  intro d r d' hf hK H locs ls hl hP hS
  exact lv_idiv hx hb hd hn (k d r d' hf hK H locs ls hl hP hS)
theorem s_irem (C : Cx G R cc nL own) {x y : Int32} (hn : ¬ y = 0) (hd : decode cc pc = .ok (.irem, 1)) (k : Sm G R ad Z ck K (pc + 1) L (.int (x - x / y * y) :: st) f) : Sm G R ad Z ck K pc L (.int y :: .int x :: st) f := by
  obtain ⟨p, l, e, s, m, args, below, meth, c, Q, A, cy, D⟩ := G
  obtain ⟨hx, hb, hml, hown, hts, hTy, hWd, hA, hlk⟩ := C
  intro d r d' hf hK H locs ls hl hP hS
  exact lv_irem hx hb hd hn (k d r d' hf hK H locs ls hl hP hS)
theorem s_ineg (C : Cx G R cc nL own) {x : Int32} (hd : decode cc pc = .ok (.ineg, 1)) (k : Sm G R ad Z ck K (pc + 1) L (.int (-x) :: st) f) : Sm G R ad Z ck K pc L (.int x :: st) f := by
  obtain ⟨p, l, e, s, m, args, below, meth, c, Q, A, cy, D⟩ := G
  obtain ⟨hx, hb, hml, hown, hts, hTy, hWd, hA, hlk⟩ := C
  intro d r d' hf hK H locs ls hl hP hS
  exact lv_ineg hx hb hd (k d r d' hf hK H locs ls hl hP hS)
theorem s_ladd (C : Cx G R cc nL own) {x y : Int64} (hd : decode cc pc = .ok (.ladd, 1)) (k : Sm G R ad Z ck K (pc + 1) L (.long (x + y) :: st) f) : Sm G R ad Z ck K pc L (.long y :: .long x :: st) f := by
  obtain ⟨p, l, e, s, m, args, below, meth, c, Q, A, cy, D⟩ := G
  obtain ⟨hx, hb, hml, hown, hts, hTy, hWd, hA, hlk⟩ := C
  intro d r d' hf hK H locs ls hl hP hS
  exact lv_ladd hx hb hd (k d r d' hf hK H locs ls hl hP hS)
theorem s_lmul (C : Cx G R cc nL own) {x y : Int64} (hd : decode cc pc = .ok (.lmul, 1)) (k : Sm G R ad Z ck K (pc + 1) L (.long (x * y) :: st) f) : Sm G R ad Z ck K pc L (.long y :: .long x :: st) f := by
  obtain ⟨p, l, e, s, m, args, below, meth, c, Q, A, cy, D⟩ := G
  obtain ⟨hx, hb, hml, hown, hts, hTy, hWd, hA, hlk⟩ := C
  intro d r d' hf hK H locs ls hl hP hS
  exact lv_lmul hx hb hd (k d r d' hf hK H locs ls hl hP hS)
theorem s_land (C : Cx G R cc nL own) {x y : Int64} (hd : decode cc pc = .ok (.land, 1)) (k : Sm G R ad Z ck K (pc + 1) L (.long (x &&& y) :: st) f) : Sm G R ad Z ck K pc L (.long y :: .long x :: st) f := by
  obtain ⟨p, l, e, s, m, args, below, meth, c, Q, A, cy, D⟩ := G
  obtain ⟨hx, hb, hml, hown, hts, hTy, hWd, hA, hlk⟩ := C
  intro d r d' hf hK H locs ls hl hP hS
  exact lv_land hx hb hd (k d r d' hf hK H locs ls hl hP hS)
theorem s_lor (C : Cx G R cc nL own) {x y : Int64} (hd : decode cc pc = .ok (.lor, 1)) (k : Sm G R ad Z ck K (pc + 1) L (.long (x ||| y) :: st) f) : Sm G R ad Z ck K pc L (.long y :: .long x :: st) f := by
  obtain ⟨p, l, e, s, m, args, below, meth, c, Q, A, cy, D⟩ := G
  obtain ⟨hx, hb, hml, hown, hts, hTy, hWd, hA, hlk⟩ := C
  intro d r d' hf hK H locs ls hl hP hS
  exact lv_lor hx hb hd (k d r d' hf hK H locs ls hl hP hS)
theorem s_lxor (C : Cx G R cc nL own) {x y : Int64} (hd : decode cc pc = .ok (.lxor, 1)) (k : Sm G R ad Z ck K (pc + 1) L (.long (x ^^^ y) :: st) f) : Sm G R ad Z ck K pc L (.long y :: .long x :: st) f := by
  obtain ⟨p, l, e, s, m, args, below, meth, c, Q, A, cy, D⟩ := G
  obtain ⟨hx, hb, hml, hown, hts, hTy, hWd, hA, hlk⟩ := C
  intro d r d' hf hK H locs ls hl hP hS
  exact lv_lxor hx hb hd (k d r d' hf hK H locs ls hl hP hS)
theorem s_ldiv (C : Cx G R cc nL own) {x y : Int64} (hn : ¬ y = 0) (hd : decode cc pc = .ok (.ldiv, 1)) (k : Sm G R ad Z ck K (pc + 1) L (.long (x / y) :: st) f) : Sm G R ad Z ck K pc L (.long y :: .long x :: st) f := by
  obtain ⟨p, l, e, s, m, args, below, meth, c, Q, A, cy, D⟩ := G
  obtain ⟨hx, hb, hml, hown, hts, hTy, hWd, hA, hlk⟩ := C
  intro d r d' hf hK H locs ls hl hP hS
  exact lv_ldiv hx hb hd hn (k d r d' hf hK H locs ls hl hP hS)
theorem s_lrem (C : Cx G R cc nL own) {x y : Int64} (hn : ¬ y = 0) (hd : decode cc pc = .ok (.lrem, 1)) (k : Sm G R ad Z ck K (pc + 1) L (.long (x - x / y * y) :: st) f) : Sm G R ad Z ck K pc L (.long y :: .long x :: st) f := by
  obtain ⟨p, l, e, s, m, args, below, meth, c, Q, A, cy, D⟩ := G
  obtain ⟨hx, hb, hml, hown, hts, hTy, hWd, hA, hlk⟩ := C
  intro d r d' hf hK H locs ls hl hP hS
  exact lv_lrem hx hb hd hn (k d r d' hf hK H locs ls hl hP hS)
theorem s_lshl (C : Cx G R cc nL own) {x : Int64} {y : Int32} (hd : decode cc pc = .ok (.lshl, 1)) (k : Sm G R ad Z ck K (pc + 1) L (.long (x <<< (y.toInt64 &&& 63)) :: st) f) : Sm G R ad Z ck K pc L (.int y :: .long x :: st) f := by
  obtain ⟨p, l, e, s, m, args, below, meth, c, Q, A, cy, D⟩ := G
  obtain ⟨hx, hb, hml, hown, hts, hTy, hWd, hA, hlk⟩ := C
  intro d r d' hf hK H locs ls hl hP hS
  exact lv_lshl hx hb hd rfl (k d r d' hf hK H locs ls hl hP hS)
theorem s_lshr (C : Cx G R cc nL own) {x : Int64} {y : Int32} (hd : decode cc pc = .ok (.lshr, 1)) (k : Sm G R ad Z ck K (pc + 1) L (.long (x >>> (y.toInt64 &&& 63)) :: st) f) : Sm G R ad Z ck K pc L (.int y :: .long x :: st) f := by
  obtain ⟨p, l, e, s, m, args, below, meth, c, Q, A, cy, D⟩ := G
  obtain ⟨hx, hb, hml, hown, hts, hTy, hWd, hA, hlk⟩ := C
  intro d r d' hf hK H locs ls hl hP hS
  exact lv_lshr hx hb hd rfl (k d r d' hf hK H locs ls hl hP hS)
theorem s_lushr (C : Cx G R cc nL own) {x : Int64} {y : Int32} (hd : decode cc pc = .ok (.lushr, 1)) (k : Sm G R ad Z ck K (pc + 1) L (.long ((x.toUInt64 >>> (y.toInt64.toUInt64 &&& Int64.toUInt64 63)).toInt64) :: st) f) : Sm G R ad Z ck K pc L (.int y :: .long x :: st) f := by
  obtain ⟨p, l, e, s, m, args, below, meth, c, Q, A, cy, D⟩ := G
  obtain ⟨hx, hb, hml, hown, hts, hTy, hWd, hA, hlk⟩ := C
  intro d r d' hf hK H locs ls hl hP hS
  exact lv_lushr hx hb hd rfl (k d r d' hf hK H locs ls hl hP hS)
theorem s_i2l (C : Cx G R cc nL own) {x : Int32} (hd : decode cc pc = .ok (.i2l, 1)) (k : Sm G R ad Z ck K (pc + 1) L (.long x.toInt64 :: st) f) : Sm G R ad Z ck K pc L (.int x :: st) f := by
  obtain ⟨p, l, e, s, m, args, below, meth, c, Q, A, cy, D⟩ := G
  obtain ⟨hx, hb, hml, hown, hts, hTy, hWd, hA, hlk⟩ := C
  intro d r d' hf hK H locs ls hl hP hS
  exact lv_i2l hx hb hd rfl (k d r d' hf hK H locs ls hl hP hS)
theorem s_l2i (C : Cx G R cc nL own) {x : Int64} (hd : decode cc pc = .ok (.l2i, 1)) (k : Sm G R ad Z ck K (pc + 1) L (.int x.toInt32 :: st) f) : Sm G R ad Z ck K pc L (.long x :: st) f := by
  obtain ⟨p, l, e, s, m, args, below, meth, c, Q, A, cy, D⟩ := G
  obtain ⟨hx, hb, hml, hown, hts, hTy, hWd, hA, hlk⟩ := C
  intro d r d' hf hK H locs ls hl hP hS
  exact lv_l2i hx hb hd rfl (k d r d' hf hK H locs ls hl hP hS)
theorem s_i2b (C : Cx G R cc nL own) {x : Int32} (hd : decode cc pc = .ok (.i2b, 1)) (k : Sm G R ad Z ck K (pc + 1) L (.int x.toInt8.toInt32 :: st) f) : Sm G R ad Z ck K pc L (.int x :: st) f := by
  obtain ⟨p, l, e, s, m, args, below, meth, c, Q, A, cy, D⟩ := G
  obtain ⟨hx, hb, hml, hown, hts, hTy, hWd, hA, hlk⟩ := C
  intro d r d' hf hK H locs ls hl hP hS
  exact lv_i2b hx hb hd rfl (k d r d' hf hK H locs ls hl hP hS)
theorem s_i2c (C : Cx G R cc nL own) {x : Int32} (hd : decode cc pc = .ok (.i2c, 1)) (k : Sm G R ad Z ck K (pc + 1) L (.int (x.toUInt32 % 65536).toInt32 :: st) f) : Sm G R ad Z ck K pc L (.int x :: st) f := by
  obtain ⟨p, l, e, s, m, args, below, meth, c, Q, A, cy, D⟩ := G
  obtain ⟨hx, hb, hml, hown, hts, hTy, hWd, hA, hlk⟩ := C
  intro d r d' hf hK H locs ls hl hP hS
  exact lv_i2c hx hb hd rfl (k d r d' hf hK H locs ls hl hP hS)
theorem s_iconst (C : Cx G R cc nL own) {n : Int} (v : Int32) (hv : Int32.ofInt n = v) (hd : decode cc pc = .ok (.iconst n, 1)) (k : Sm G R ad Z ck K (pc + 1) L (.int v :: st) f) : Sm G R ad Z ck K pc L (st) f := by
  obtain ⟨p, l, e, s, m, args, below, meth, c, Q, A, cy, D⟩ := G
  obtain ⟨hx, hb, hml, hown, hts, hTy, hWd, hA, hlk⟩ := C
  intro d r d' hf hK H locs ls hl hP hS
  exact lv_iconst hx hb hd hv (k d r d' hf hK H locs ls hl hP hS)
theorem s_bipush (C : Cx G R cc nL own) {n : Int} (v : Int32) (hv : (Int8.ofInt n).toInt32 = v) (hd : decode cc pc = .ok (.bipush n, 2)) (k : Sm G R ad Z ck K (pc + 2) L (.int v :: st) f) : Sm G R ad Z ck K pc L (st) f := by
  obtain ⟨p, l, e, s, m, args, below, meth, c, Q, A, cy, D⟩ := G
  obtain ⟨hx, hb, hml, hown, hts, hTy, hWd, hA, hlk⟩ := C
  intro d r d' hf hK H locs ls hl hP hS
  exact lv_bipush hx hb hd hv (k d r d' hf hK H locs ls hl hP hS)
theorem s_sipush (C : Cx G R cc nL own) {n : Int} (v : Int32) (hv : (Int16.ofInt n).toInt32 = v) (hd : decode cc pc = .ok (.sipush n, 3)) (k : Sm G R ad Z ck K (pc + 3) L (.int v :: st) f) : Sm G R ad Z ck K pc L (st) f := by
  obtain ⟨p, l, e, s, m, args, below, meth, c, Q, A, cy, D⟩ := G
  obtain ⟨hx, hb, hml, hown, hts, hTy, hWd, hA, hlk⟩ := C
  intro d r d' hf hK H locs ls hl hP hS
  exact lv_sipush hx hb hd hv (k d r d' hf hK H locs ls hl hP hS)
theorem s_lconst (C : Cx G R cc nL own) {n : Fin 2} (v : Int64) (hv : Int64.ofNat (n : Nat) = v) (hd : decode cc pc = .ok (.lconst n, 1)) (k : Sm G R ad Z ck K (pc + 1) L (.long v :: st) f) : Sm G R ad Z ck K pc L (st) f := by
  obtain ⟨p, l, e, s, m, args, below, meth, c, Q, A, cy, D⟩ := G
  obtain ⟨hx, hb, hml, hown, hts, hTy, hWd, hA, hlk⟩ := C
  intro d r d' hf hK H locs ls hl hP hS
  exact lv_lconst hx hb hd hv (k d r d' hf hK H locs ls hl hP hS)
theorem s_ldc2 (C : Cx G R cc nL own) {n : Nat} {v : Int64} (hw : Jvm.Cond.constantLong own n v ∈ TT) (hd : decode cc pc = .ok (.ldc2_w n, 3)) (k : Sm G R ad Z ck K (pc + 3) L (.long v :: st) f) : Sm G R ad Z ck K pc L (st) f := by
  obtain ⟨p, l, e, s, m, args, below, meth, c, Q, A, cy, D⟩ := G
  obtain ⟨hx, hb, hml, hown, hts, hTy, hWd, hA, hlk⟩ := C
  intro d r d' hf hK H locs ls hl hP hS
  exact lv_ldc2 hx hb hown (hts _ hw) hd (k d r d' hf hK H locs ls hl hP hS)
theorem s_ldcw (C : Cx G R cc nL own) {n : Nat} {v : Int32} (hw : Jvm.Cond.constant own n v ∈ TT) (hd : decode cc pc = .ok (.ldc_w n, 3)) (k : Sm G R ad Z ck K (pc + 3) L (.int v :: st) f) : Sm G R ad Z ck K pc L (st) f := by
  obtain ⟨p, l, e, s, m, args, below, meth, c, Q, A, cy, D⟩ := G
  obtain ⟨hx, hb, hml, hown, hts, hTy, hWd, hA, hlk⟩ := C
  intro d r d' hf hK H locs ls hl hP hS
  exact lv_ldcw hx hb hown (hts _ hw) hd (k d r d' hf hK H locs ls hl hP hS)
theorem s_dupi (C : Cx G R cc nL own) {x : Int32} (hd : decode cc pc = .ok (.dup, 1)) (k : Sm G R ad Z ck K (pc + 1) L (.int x :: .int x :: st) f) : Sm G R ad Z ck K pc L (.int x :: st) f := by
  obtain ⟨p, l, e, s, m, args, below, meth, c, Q, A, cy, D⟩ := G
  obtain ⟨hx, hb, hml, hown, hts, hTy, hWd, hA, hlk⟩ := C
  intro d r d' hf hK H locs ls hl hP hS
  exact lv_dup hx hb hd rfl (k d r d' hf hK H locs ls hl hP hS)
theorem s_iload_n (C : Cx G R cc nL own) {n : Fin 4} {x : Int32} (hk : lk L (n : Nat) = some (.int x)) (hd : decode cc pc = .ok (.iload_n n, 1)) (k : Sm G R ad Z ck K (pc + 1) L (.int x :: st) f) : Sm G R ad Z ck K pc L (st) f := by
  obtain ⟨p, l, e, s, m, args, below, meth, c, Q, A, cy, D⟩ := G
  obtain ⟨hx, hb, hml, hown, hts, hTy, hWd, hA, hlk⟩ := C
  intro d r d' hf hK H locs ls hl hP hS
  exact lv_iload_n hx hb hd rfl (lk_at hl hk) (k d r d' hf hK H locs ls hl hP hS)
theorem s_iload (C : Cx G R cc nL own) {n : Nat} {x : Int32} (hk : lk L n = some (.int x)) (hd : decode cc pc = .ok (.iload n, 2)) (k : Sm G R ad Z ck K (pc + 2) L (.int x :: st) f) : Sm G R ad Z ck K pc L (st) f := by
  obtain ⟨p, l, e, s, m, args, below, meth, c, Q, A, cy, D⟩ := G
  obtain ⟨hx, hb, hml, hown, hts, hTy, hWd, hA, hlk⟩ := C
  intro d r d' hf hK H locs ls hl hP hS
  exact lv_iload hx hb hd (lk_at hl hk) (k d r d' hf hK H locs ls hl hP hS)
theorem s_lload_n (C : Cx G R cc nL own) {n : Fin 4} {x : Int64} (hk : lk L (n : Nat) = some (.long x)) (hd : decode cc pc = .ok (.lload_n n, 1)) (k : Sm G R ad Z ck K (pc + 1) L (.long x :: st) f) : Sm G R ad Z ck K pc L (st) f := by
  obtain ⟨p, l, e, s, m, args, below, meth, c, Q, A, cy, D⟩ := G
  obtain ⟨hx, hb, hml, hown, hts, hTy, hWd, hA, hlk⟩ := C
  intro d r d' hf hK H locs ls hl hP hS
  exact lv_lload_n hx hb hd rfl (lk_at hl hk) (k d r d' hf hK H locs ls hl hP hS)
theorem s_lload (C : Cx G R cc nL own) {n : Nat} {x : Int64} (hk : lk L n = some (.long x)) (hd : decode cc pc = .ok (.lload n, 2)) (k : Sm G R ad Z ck K (pc + 2) L (.long x :: st) f) : Sm G R ad Z ck K pc L (st) f := by
  obtain ⟨p, l, e, s, m, args, below, meth, c, Q, A, cy, D⟩ := G
  obtain ⟨hx, hb, hml, hown, hts, hTy, hWd, hA, hlk⟩ := C
  intro d r d' hf hK H locs ls hl hP hS
  exact lv_lload hx hb hd (lk_at hl hk) (k d r d' hf hK H locs ls hl hP hS)
theorem s_aload_n (C : Cx G R cc nL own) {n : Fin 4} {x : Nat} (hk : lk L (n : Nat) = some (.ref x)) (hd : decode cc pc = .ok (.aload_n n, 1)) (k : Sm G R ad Z ck K (pc + 1) L (.ref x :: st) f) : Sm G R ad Z ck K pc L st f := by
  obtain ⟨p, l, e, s, m, args, below, meth, c, Q, A, cy, D⟩ := G
  obtain ⟨hx, hb, hml, hown, hts, hTy, hWd, hA, hlk⟩ := C
  intro d r d' hf hK H locs ls hl hP hS
  have h := lk_at hl hk
  have kk := k d r d' hf hK H locs ls hl hP hS
  rw [List.map_cons] at kk
  rw [show cv ad (.ref x) = rv ad x from rfl] at h kk
  by_cases hz : x = 0
  · rw [rv_0 hz] at h kk
    exact lv_aload_nN hx hb hd rfl h kk
  · rw [rv_n hz] at h kk
    exact lv_aload_n hx hb hd rfl h kk
theorem s_aload (C : Cx G R cc nL own) {n : Nat} {x : Nat} (hk : lk L n = some (.ref x)) (hd : decode cc pc = .ok (.aload n, 2)) (k : Sm G R ad Z ck K (pc + 2) L (.ref x :: st) f) : Sm G R ad Z ck K pc L st f := by
  obtain ⟨p, l, e, s, m, args, below, meth, c, Q, A, cy, D⟩ := G
  obtain ⟨hx, hb, hml, hown, hts, hTy, hWd, hA, hlk⟩ := C
  intro d r d' hf hK H locs ls hl hP hS
  have h := lk_at hl hk
  have kk := k d r d' hf hK H locs ls hl hP hS
  rw [List.map_cons] at kk
  rw [show cv ad (.ref x) = rv ad x from rfl] at h kk
  by_cases hz : x = 0
  · rw [rv_0 hz] at h kk
    exact lv_aloadN hx hb hd h kk
  · rw [rv_n hz] at h kk
    exact lv_aload hx hb hd h kk
theorem s_istore_n (C : Cx G R cc nL own) {n : Fin 4} {x : Int32} {L' : List (Nat × Value)} (hn : (n : Nat) < nL) (hL : st1 L (n : Nat) (.int x) = L') (hd : decode cc pc = .ok (.istore_n n, 1)) (k : Sm G R ad Z ck K (pc + 1) L' st f) : Sm G R ad Z ck K pc L (.int x :: st) f := by
  subst hL
  obtain ⟨p, l, e, s, m, args, below, meth, c, Q, A, cy, D⟩ := G
  obtain ⟨hx, hb, hml, hown, hts, hTy, hWd, hA, hlk⟩ := C
  intro d r d' hf hK H locs ls hl hP hS
  exact lv_istore_n hx hb hd rfl hl (by rw [hml]; exact hn) (st1_map ad L (n : Nat) (.int x)) (fun ls' hl' => k d r d' hf hK H locs ls' hl' hP hS)
theorem s_istore (C : Cx G R cc nL own) {n : Nat} {x : Int32} {L' : List (Nat × Value)} (hn : n < nL) (hL : st1 L n (.int x) = L') (hd : decode cc pc = .ok (.istore n, 2)) (k : Sm G R ad Z ck K (pc + 2) L' st f) : Sm G R ad Z ck K pc L (.int x :: st) f := by
  subst hL
  obtain ⟨p, l, e, s, m, args, below, meth, c, Q, A, cy, D⟩ := G
  obtain ⟨hx, hb, hml, hown, hts, hTy, hWd, hA, hlk⟩ := C
  intro d r d' hf hK H locs ls hl hP hS
  exact lv_istore hx hb hd hl (by rw [hml]; exact hn) (st1_map ad L n (.int x)) (fun ls' hl' => k d r d' hf hK H locs ls' hl' hP hS)
theorem s_lstore_n (C : Cx G R cc nL own) {n : Fin 4} {x : Int64} {L' : List (Nat × Value)} (hn : (n : Nat) + 1 < nL) (hL : st2 L (n : Nat) (.long x) = L') (hd : decode cc pc = .ok (.lstore_n n, 1)) (k : Sm G R ad Z ck K (pc + 1) L' st f) : Sm G R ad Z ck K pc L (.long x :: st) f := by
  subst hL
  obtain ⟨p, l, e, s, m, args, below, meth, c, Q, A, cy, D⟩ := G
  obtain ⟨hx, hb, hml, hown, hts, hTy, hWd, hA, hlk⟩ := C
  intro d r d' hf hK H locs ls hl hP hS
  exact lv_lstore_n hx hb hd rfl hl (by rw [hml]; exact hn) (st2_map ad L (n : Nat) (.long x)) (fun ls' hl' => k d r d' hf hK H locs ls' hl' hP hS)
theorem s_lstore (C : Cx G R cc nL own) {n : Nat} {x : Int64} {L' : List (Nat × Value)} (hn : n + 1 < nL) (hL : st2 L n (.long x) = L') (hd : decode cc pc = .ok (.lstore n, 2)) (k : Sm G R ad Z ck K (pc + 2) L' st f) : Sm G R ad Z ck K pc L (.long x :: st) f := by
  subst hL
  obtain ⟨p, l, e, s, m, args, below, meth, c, Q, A, cy, D⟩ := G
  obtain ⟨hx, hb, hml, hown, hts, hTy, hWd, hA, hlk⟩ := C
  intro d r d' hf hK H locs ls hl hP hS
  exact lv_lstore hx hb hd hl (by rw [hml]; exact hn) (st2_map ad L n (.long x)) (fun ls' hl' => k d r d' hf hK H locs ls' hl' hP hS)
theorem s_astore_n (C : Cx G R cc nL own) {n : Fin 4} {x : Nat} {L' : List (Nat × Value)} (hn : (n : Nat) < nL) (hL : st1 L (n : Nat) (.ref x) = L') (hd : decode cc pc = .ok (.astore_n n, 1)) (k : Sm G R ad Z ck K (pc + 1) L' st f) : Sm G R ad Z ck K pc L (.ref x :: st) f := by
  subst hL
  obtain ⟨p, l, e, s, m, args, below, meth, c, Q, A, cy, D⟩ := G
  obtain ⟨hx, hb, hml, hown, hts, hTy, hWd, hA, hlk⟩ := C
  intro d r d' hf hK H locs ls hl hP hS
  have kk := fun ls' hl' => k d r d' hf hK H locs ls' hl' hP hS
  have hm := st1_map ad L (n : Nat) (.ref x)
  rw [List.map_cons]
  rw [show cv ad (.ref x) = rv ad x from rfl] at hm ⊢
  by_cases hz : x = 0
  · rw [rv_0 hz] at hm ⊢
    exact lv_astore_nN hx hb hd rfl hl (by rw [hml]; exact hn) hm kk
  · rw [rv_n hz] at hm ⊢
    exact lv_astore_n hx hb hd rfl hl (by rw [hml]; exact hn) hm kk
theorem s_astore (C : Cx G R cc nL own) {n : Nat} {x : Nat} {L' : List (Nat × Value)} (hn : n < nL) (hL : st1 L n (.ref x) = L') (hd : decode cc pc = .ok (.astore n, 2)) (k : Sm G R ad Z ck K (pc + 2) L' st f) : Sm G R ad Z ck K pc L (.ref x :: st) f := by
  subst hL
  obtain ⟨p, l, e, s, m, args, below, meth, c, Q, A, cy, D⟩ := G
  obtain ⟨hx, hb, hml, hown, hts, hTy, hWd, hA, hlk⟩ := C
  intro d r d' hf hK H locs ls hl hP hS
  have kk := fun ls' hl' => k d r d' hf hK H locs ls' hl' hP hS
  have hm := st1_map ad L n (.ref x)
  rw [List.map_cons]
  rw [show cv ad (.ref x) = rv ad x from rfl] at hm ⊢
  by_cases hz : x = 0
  · rw [rv_0 hz] at hm ⊢
    exact lv_astoreN hx hb hd hl (by rw [hml]; exact hn) hm kk
  · rw [rv_n hz] at hm ⊢
    exact lv_astore hx hb hd hl (by rw [hml]; exact hn) hm kk
theorem s_iinc (C : Cx G R cc nL own) {n : Nat} {z : Int} {x : Int32} {kf : Int32 → MM ρ} {L' : Int32 → List (Nat × Value)} (v : Int32) (hv : Int32.ofInt z = v) (hk : lk L n = some (.int x)) (hn : n < nL) (hL : ∀ y, st1 L n (.int y) = L' y) (hd : decode cc pc = .ok (.iinc n z, 3)) (k : ∀ y, Sm G R ad Z ck K (pc + 3) (L' y) st (kf y)) : Sm G R ad Z ck K pc L st (ml (x + v) kf) := by
  have k := k (x + v)
  rw [← hL (x + v)] at k
  obtain ⟨p, l, e, s, m, args, below, meth, c, Q, A, cy, D⟩ := G
  obtain ⟨hx, hb, hml, hown, hts, hTy, hWd, hA, hlk⟩ := C
  intro d r d' hf hK H locs ls hl hP hS
  obtain ⟨j, hj, hj2⟩ := List.getElem_of_mem (List.mem_map.mpr ⟨(n, Value.int x), lk_mem hk, rfl⟩ : (n, Value.int x) ∈ L.map (cw ad))
  exact lv_iinc (k := j) hx hb hd hl (by rw [List.getElem?_eq_getElem hj, hj2]) (by rw [hv]) (by rw [hml]; exact hn) (st1_map ad L n (.int (x + v))) (fun ls' hl' => k d r d' hf hK H locs ls' hl' hP hS)
theorem s_dupr (C : Cx G R cc nL own) {x : Nat} (hd : decode cc pc = .ok (.dup, 1)) (k : Sm G R ad Z ck K (pc + 1) L (.ref x :: .ref x :: st) f) : Sm G R ad Z ck K pc L (.ref x :: st) f := by
  obtain ⟨p, l, e, s, m, args, below, meth, c, Q, A, cy, D⟩ := G
  obtain ⟨hx, hb, hml, hown, hts, hTy, hWd, hA, hlk⟩ := C
  intro d r d' hf hK H locs ls hl hP hS
  exact lv_dup hx hb hd (cv_cat ad (.ref x)) (k d r d' hf hK H locs ls hl hP hS)
theorem s_dup2 (C : Cx G R cc nL own) {x : Nat} {y : Int32} (hd : decode cc pc = .ok (.dup2, 1)) (k : Sm G R ad Z ck K (pc + 1) L (.int y :: .ref x :: .int y :: .ref x :: st) f) : Sm G R ad Z ck K pc L (.int y :: .ref x :: st) f := by
  obtain ⟨p, l, e, s, m, args, below, meth, c, Q, A, cy, D⟩ := G
  obtain ⟨hx, hb, hml, hown, hts, hTy, hWd, hA, hlk⟩ := C
  intro d r d' hf hK H locs ls hl hP hS
  exact lv_dup2_11 hx hb hd (cv_cat ad (.int y)) (cv_cat ad (.ref x)) (k d r d' hf hK H locs ls hl hP hS)
theorem s_goto (C : Cx G R cc nL own) {off : Int} (tgt : Nat) (ht : (pc : Int) + off = (tgt : Int)) (hd : decode cc pc = .ok (.goto off, 3)) (k : Sm G R ad Z ck K tgt L st f) : Sm G R ad Z ck K pc L st f := by
  obtain ⟨p, l, e, s, m, args, below, meth, c, Q, A, cy, D⟩ := G
  obtain ⟨hx, hb, hml, hown, hts, hTy, hWd, hA, hlk⟩ := C
  intro d r d' hf hK H locs ls hl hP hS
  exact lv_goto hx hb hd ht (k d r d' hf hK H locs ls hl hP hS)
theorem s_icmp_eq (C : Cx G R cc nL own) {x y : Int32} {g : MM ρ} {off : Int} (tgt : Nat) (ht : (pc : Int) + off = (tgt : Int)) (hd : decode cc pc = .ok (.if_icmp .eq off, 3)) (kt : Sm G R ad Z ck K tgt L st f) (kf : Sm G R ad Z ck K (pc + 3) L st g) : Sm G R ad Z ck K pc L (.int y :: .int x :: st) (if x = y then f else g) := by
  obtain ⟨p, l, e, s, m, args, below, meth, c, Q, A, cy, D⟩ := G
  obtain ⟨hx, hb, hml, hown, hts, hTy, hWd, hA, hlk⟩ := C
  intro d r d' hf hK H locs ls hl hP hS
  refine lv_icmp_eq hx hb hd ht (fun h => ?_) (fun h => ?_)
  · rw [if_pos h] at hf
    exact kt d r d' hf hK H locs ls hl hP hS
  · rw [if_neg h] at hf
    exact kf d r d' hf hK H locs ls hl hP hS
theorem s_if_eq (C : Cx G R cc nL own) {x : Int32} {g : MM ρ} {off : Int} (tgt : Nat) (ht : (pc : Int) + off = (tgt : Int)) (hd : decode cc pc = .ok (.ifCond .eq off, 3)) (kt : Sm G R ad Z ck K tgt L st f) (kf : Sm G R ad Z ck K (pc + 3) L st g) : Sm G R ad Z ck K pc L (.int x :: st) (if x = 0 then f else g) := by
  obtain ⟨p, l, e, s, m, args, below, meth, c, Q, A, cy, D⟩ := G
  obtain ⟨hx, hb, hml, hown, hts, hTy, hWd, hA, hlk⟩ := C
  intro d r d' hf hK H locs ls hl hP hS
  refine lv_if_eq hx hb hd ht (fun h => ?_) (fun h => ?_)
  · rw [if_pos h] at hf
    exact kt d r d' hf hK H locs ls hl hP hS
  · rw [if_neg h] at hf
    exact kf d r d' hf hK H locs ls hl hP hS
theorem s_icmp_ne (C : Cx G R cc nL own) {x y : Int32} {g : MM ρ} {off : Int} (tgt : Nat) (ht : (pc : Int) + off = (tgt : Int)) (hd : decode cc pc = .ok (.if_icmp .ne off, 3)) (kt : Sm G R ad Z ck K tgt L st f) (kf : Sm G R ad Z ck K (pc + 3) L st g) : Sm G R ad Z ck K pc L (.int y :: .int x :: st) (if x = y then g else f) := by
  obtain ⟨p, l, e, s, m, args, below, meth, c, Q, A, cy, D⟩ := G
  obtain ⟨hx, hb, hml, hown, hts, hTy, hWd, hA, hlk⟩ := C
  intro d r d' hf hK H locs ls hl hP hS
  refine lv_icmp_ne hx hb hd ht (fun h => ?_) (fun h => ?_)
  · rw [if_neg h] at hf
    exact kt d r d' hf hK H locs ls hl hP hS
  · rw [if_pos h] at hf
    exact kf d r d' hf hK H locs ls hl hP hS
theorem s_if_ne (C : Cx G R cc nL own) {x : Int32} {g : MM ρ} {off : Int} (tgt : Nat) (ht : (pc : Int) + off = (tgt : Int)) (hd : decode cc pc = .ok (.ifCond .ne off, 3)) (kt : Sm G R ad Z ck K tgt L st f) (kf : Sm G R ad Z ck K (pc + 3) L st g) : Sm G R ad Z ck K pc L (.int x :: st) (if x = 0 then g else f) := by
  obtain ⟨p, l, e, s, m, args, below, meth, c, Q, A, cy, D⟩ := G
  obtain ⟨hx, hb, hml, hown, hts, hTy, hWd, hA, hlk⟩ := C
  intro d r d' hf hK H locs ls hl hP hS
  refine lv_if_ne hx hb hd ht (fun h => ?_) (fun h => ?_)
  · rw [if_neg h] at hf
    exact kt d r d' hf hK H locs ls hl hP hS
  · rw [if_pos h] at hf
    exact kf d r d' hf hK H locs ls hl hP hS
theorem s_icmp_lt (C : Cx G R cc nL own) {x y : Int32} {g : MM ρ} {off : Int} (tgt : Nat) (ht : (pc : Int) + off = (tgt : Int)) (hd : decode cc pc = .ok (.if_icmp .lt off, 3)) (kt : Sm G R ad Z ck K tgt L st f) (kf : Sm G R ad Z ck K (pc + 3) L st g) : Sm G R ad Z ck K pc L (.int y :: .int x :: st) (if x < y then f else g) := by
  obtain ⟨p, l, e, s, m, args, below, meth, c, Q, A, cy, D⟩ := G
  obtain ⟨hx, hb, hml, hown, hts, hTy, hWd, hA, hlk⟩ := C
  intro d r d' hf hK H locs ls hl hP hS
  refine lv_icmp_lt hx hb hd ht (fun h => ?_) (fun h => ?_)
  · rw [if_pos h] at hf
    exact kt d r d' hf hK H locs ls hl hP hS
  · rw [if_neg h] at hf
    exact kf d r d' hf hK H locs ls hl hP hS
theorem s_if_lt (C : Cx G R cc nL own) {x : Int32} {g : MM ρ} {off : Int} (tgt : Nat) (ht : (pc : Int) + off = (tgt : Int)) (hd : decode cc pc = .ok (.ifCond .lt off, 3)) (kt : Sm G R ad Z ck K tgt L st f) (kf : Sm G R ad Z ck K (pc + 3) L st g) : Sm G R ad Z ck K pc L (.int x :: st) (if x < 0 then f else g) := by
  obtain ⟨p, l, e, s, m, args, below, meth, c, Q, A, cy, D⟩ := G
  obtain ⟨hx, hb, hml, hown, hts, hTy, hWd, hA, hlk⟩ := C
  intro d r d' hf hK H locs ls hl hP hS
  refine lv_if_lt hx hb hd ht (fun h => ?_) (fun h => ?_)
  · rw [if_pos h] at hf
    exact kt d r d' hf hK H locs ls hl hP hS
  · rw [if_neg h] at hf
    exact kf d r d' hf hK H locs ls hl hP hS
theorem s_icmp_ge (C : Cx G R cc nL own) {x y : Int32} {g : MM ρ} {off : Int} (tgt : Nat) (ht : (pc : Int) + off = (tgt : Int)) (hd : decode cc pc = .ok (.if_icmp .ge off, 3)) (kt : Sm G R ad Z ck K tgt L st f) (kf : Sm G R ad Z ck K (pc + 3) L st g) : Sm G R ad Z ck K pc L (.int y :: .int x :: st) (if y ≤ x then f else g) := by
  obtain ⟨p, l, e, s, m, args, below, meth, c, Q, A, cy, D⟩ := G
  obtain ⟨hx, hb, hml, hown, hts, hTy, hWd, hA, hlk⟩ := C
  intro d r d' hf hK H locs ls hl hP hS
  refine lv_icmp_ge hx hb hd ht (fun h => ?_) (fun h => ?_)
  · rw [if_pos h] at hf
    exact kt d r d' hf hK H locs ls hl hP hS
  · rw [if_neg h] at hf
    exact kf d r d' hf hK H locs ls hl hP hS
theorem s_if_ge (C : Cx G R cc nL own) {x : Int32} {g : MM ρ} {off : Int} (tgt : Nat) (ht : (pc : Int) + off = (tgt : Int)) (hd : decode cc pc = .ok (.ifCond .ge off, 3)) (kt : Sm G R ad Z ck K tgt L st f) (kf : Sm G R ad Z ck K (pc + 3) L st g) : Sm G R ad Z ck K pc L (.int x :: st) (if 0 ≤ x then f else g) := by
  obtain ⟨p, l, e, s, m, args, below, meth, c, Q, A, cy, D⟩ := G
  obtain ⟨hx, hb, hml, hown, hts, hTy, hWd, hA, hlk⟩ := C
  intro d r d' hf hK H locs ls hl hP hS
  refine lv_if_ge hx hb hd ht (fun h => ?_) (fun h => ?_)
  · rw [if_pos h] at hf
    exact kt d r d' hf hK H locs ls hl hP hS
  · rw [if_neg h] at hf
    exact kf d r d' hf hK H locs ls hl hP hS
theorem s_icmp_gt (C : Cx G R cc nL own) {x y : Int32} {g : MM ρ} {off : Int} (tgt : Nat) (ht : (pc : Int) + off = (tgt : Int)) (hd : decode cc pc = .ok (.if_icmp .gt off, 3)) (kt : Sm G R ad Z ck K tgt L st f) (kf : Sm G R ad Z ck K (pc + 3) L st g) : Sm G R ad Z ck K pc L (.int y :: .int x :: st) (if y < x then f else g) := by
  obtain ⟨p, l, e, s, m, args, below, meth, c, Q, A, cy, D⟩ := G
  obtain ⟨hx, hb, hml, hown, hts, hTy, hWd, hA, hlk⟩ := C
  intro d r d' hf hK H locs ls hl hP hS
  refine lv_icmp_gt hx hb hd ht (fun h => ?_) (fun h => ?_)
  · rw [if_pos h] at hf
    exact kt d r d' hf hK H locs ls hl hP hS
  · rw [if_neg h] at hf
    exact kf d r d' hf hK H locs ls hl hP hS
theorem s_if_gt (C : Cx G R cc nL own) {x : Int32} {g : MM ρ} {off : Int} (tgt : Nat) (ht : (pc : Int) + off = (tgt : Int)) (hd : decode cc pc = .ok (.ifCond .gt off, 3)) (kt : Sm G R ad Z ck K tgt L st f) (kf : Sm G R ad Z ck K (pc + 3) L st g) : Sm G R ad Z ck K pc L (.int x :: st) (if 0 < x then f else g) := by
  obtain ⟨p, l, e, s, m, args, below, meth, c, Q, A, cy, D⟩ := G
  obtain ⟨hx, hb, hml, hown, hts, hTy, hWd, hA, hlk⟩ := C
  intro d r d' hf hK H locs ls hl hP hS
  refine lv_if_gt hx hb hd ht (fun h => ?_) (fun h => ?_)
  · rw [if_pos h] at hf
    exact kt d r d' hf hK H locs ls hl hP hS
  · rw [if_neg h] at hf
    exact kf d r d' hf hK H locs ls hl hP hS
theorem s_icmp_le (C : Cx G R cc nL own) {x y : Int32} {g : MM ρ} {off : Int} (tgt : Nat) (ht : (pc : Int) + off = (tgt : Int)) (hd : decode cc pc = .ok (.if_icmp .le off, 3)) (kt : Sm G R ad Z ck K tgt L st f) (kf : Sm G R ad Z ck K (pc + 3) L st g) : Sm G R ad Z ck K pc L (.int y :: .int x :: st) (if x ≤ y then f else g) := by
  obtain ⟨p, l, e, s, m, args, below, meth, c, Q, A, cy, D⟩ := G
  obtain ⟨hx, hb, hml, hown, hts, hTy, hWd, hA, hlk⟩ := C
  intro d r d' hf hK H locs ls hl hP hS
  refine lv_icmp_le hx hb hd ht (fun h => ?_) (fun h => ?_)
  · rw [if_pos h] at hf
    exact kt d r d' hf hK H locs ls hl hP hS
  · rw [if_neg h] at hf
    exact kf d r d' hf hK H locs ls hl hP hS
theorem s_if_le (C : Cx G R cc nL own) {x : Int32} {g : MM ρ} {off : Int} (tgt : Nat) (ht : (pc : Int) + off = (tgt : Int)) (hd : decode cc pc = .ok (.ifCond .le off, 3)) (kt : Sm G R ad Z ck K tgt L st f) (kf : Sm G R ad Z ck K (pc + 3) L st g) : Sm G R ad Z ck K pc L (.int x :: st) (if x ≤ 0 then f else g) := by
  obtain ⟨p, l, e, s, m, args, below, meth, c, Q, A, cy, D⟩ := G
  obtain ⟨hx, hb, hml, hown, hts, hTy, hWd, hA, hlk⟩ := C
  intro d r d' hf hK H locs ls hl hP hS
  refine lv_if_le hx hb hd ht (fun h => ?_) (fun h => ?_)
  · rw [if_pos h] at hf
    exact kt d r d' hf hK H locs ls hl hP hS
  · rw [if_neg h] at hf
    exact kf d r d' hf hK H locs ls hl hP hS
theorem lc_gt (x y : Int64) : 0 < lg_cmp x y ↔ y < x := by
  unfold lg_cmp
  by_cases h : x > y
  · rw [if_pos h]; exact ⟨fun _ => h, fun _ => by decide⟩
  · rw [if_neg h]
    constructor
    · intro h2; exfalso; split at h2 <;> exact absurd h2 (by decide)
    · intro h2; exact absurd h2 h
theorem lc_eq (x y : Int64) : lg_cmp x y = 0 ↔ x = y := by
  unfold lg_cmp
  by_cases h : x > y
  · rw [if_pos h]
    constructor
    · intro h2; exact absurd h2 (by decide)
    · intro h2; subst h2; exact (Int64.lt_irrefl h).elim
  · rw [if_neg h]
    by_cases h2 : x = y
    · rw [if_pos h2]; exact ⟨fun _ => h2, fun _ => rfl⟩
    · rw [if_neg h2]; exact ⟨fun h3 => absurd h3 (by decide), fun h3 => absurd h3 h2⟩
theorem lc_ge (x y : Int64) : 0 ≤ lg_cmp x y ↔ y ≤ x := lg_cmp_ge x y
theorem lc_lt (x y : Int64) : lg_cmp x y < 0 ↔ x < y := by
  rw [← Int32.not_le, lc_ge, Int64.not_le]
theorem lc_le (x y : Int64) : lg_cmp x y ≤ 0 ↔ x ≤ y := by
  rw [← Int32.not_lt, lc_gt, Int64.not_lt]
theorem s_lcmp_eq (C : Cx G R cc nL own) {x y : Int64} {g : MM ρ} {off : Int} (tgt : Nat) (ht : ((pc + 1 : Nat) : Int) + off = (tgt : Int)) (hd : decode cc pc = .ok (.lcmp, 1)) (hd2 : decode cc (pc + 1) = .ok (.ifCond .eq off, 3)) (kt : Sm G R ad Z ck K tgt L st f) (kf : Sm G R ad Z ck K (pc + 4) L st g) : Sm G R ad Z ck K pc L (.long y :: .long x :: st) (if x = y then f else g) := by
  obtain ⟨p, l, e, s, m, args, below, meth, c, Q, A, cy, D⟩ := G
  obtain ⟨hx, hb, hml, hown, hts, hTy, hWd, hA, hlk⟩ := C
  intro d r d' hf hK H locs ls hl hP hS
  refine W.lcmp hx hb hd ?_
  refine lv_if_eq hx hb hd2 ht (fun h => ?_) (fun h => ?_)
  · rw [if_pos ((lc_eq x y).mp h)] at hf
    exact kt d r d' hf hK H locs ls hl hP hS
  · rw [if_neg (mt (lc_eq x y).mpr h)] at hf
    exact kf d r d' hf hK H locs ls hl hP hS
theorem s_lcmp_ne (C : Cx G R cc nL own) {x y : Int64} {g : MM ρ} {off : Int} (tgt : Nat) (ht : ((pc + 1 : Nat) : Int) + off = (tgt : Int)) (hd : decode cc pc = .ok (.lcmp, 1)) (hd2 : decode cc (pc + 1) = .ok (.ifCond .ne off, 3)) (kt : Sm G R ad Z ck K tgt L st f) (kf : Sm G R ad Z ck K (pc + 4) L st g) : Sm G R ad Z ck K pc L (.long y :: .long x :: st) (if x = y then g else f) := by
  obtain ⟨p, l, e, s, m, args, below, meth, c, Q, A, cy, D⟩ := G
  obtain ⟨hx, hb, hml, hown, hts, hTy, hWd, hA, hlk⟩ := C
  intro d r d' hf hK H locs ls hl hP hS
  refine W.lcmp hx hb hd ?_
  refine lv_if_ne hx hb hd2 ht (fun h => ?_) (fun h => ?_)
  · rw [if_neg (mt (lc_eq x y).mpr h)] at hf
    exact kt d r d' hf hK H locs ls hl hP hS
  · rw [if_pos ((lc_eq x y).mp h)] at hf
    exact kf d r d' hf hK H locs ls hl hP hS
theorem s_lcmp_lt (C : Cx G R cc nL own) {x y : Int64} {g : MM ρ} {off : Int} (tgt : Nat) (ht : ((pc + 1 : Nat) : Int) + off = (tgt : Int)) (hd : decode cc pc = .ok (.lcmp, 1)) (hd2 : decode cc (pc + 1) = .ok (.ifCond .lt off, 3)) (kt : Sm G R ad Z ck K tgt L st f) (kf : Sm G R ad Z ck K (pc + 4) L st g) : Sm G R ad Z ck K pc L (.long y :: .long x :: st) (if x < y then f else g) := by
  obtain ⟨p, l, e, s, m, args, below, meth, c, Q, A, cy, D⟩ := G
  obtain ⟨hx, hb, hml, hown, hts, hTy, hWd, hA, hlk⟩ := C
  intro d r d' hf hK H locs ls hl hP hS
  refine W.lcmp hx hb hd ?_
  refine lv_if_lt hx hb hd2 ht (fun h => ?_) (fun h => ?_)
  · rw [if_pos ((lc_lt x y).mp h)] at hf
    exact kt d r d' hf hK H locs ls hl hP hS
  · rw [if_neg (mt (lc_lt x y).mpr h)] at hf
    exact kf d r d' hf hK H locs ls hl hP hS
theorem s_lcmp_ge (C : Cx G R cc nL own) {x y : Int64} {g : MM ρ} {off : Int} (tgt : Nat) (ht : ((pc + 1 : Nat) : Int) + off = (tgt : Int)) (hd : decode cc pc = .ok (.lcmp, 1)) (hd2 : decode cc (pc + 1) = .ok (.ifCond .ge off, 3)) (kt : Sm G R ad Z ck K tgt L st f) (kf : Sm G R ad Z ck K (pc + 4) L st g) : Sm G R ad Z ck K pc L (.long y :: .long x :: st) (if y ≤ x then f else g) := by
  obtain ⟨p, l, e, s, m, args, below, meth, c, Q, A, cy, D⟩ := G
  obtain ⟨hx, hb, hml, hown, hts, hTy, hWd, hA, hlk⟩ := C
  intro d r d' hf hK H locs ls hl hP hS
  refine W.lcmp hx hb hd ?_
  refine lv_if_ge hx hb hd2 ht (fun h => ?_) (fun h => ?_)
  · rw [if_pos ((lc_ge x y).mp h)] at hf
    exact kt d r d' hf hK H locs ls hl hP hS
  · rw [if_neg (mt (lc_ge x y).mpr h)] at hf
    exact kf d r d' hf hK H locs ls hl hP hS
theorem s_lcmp_gt (C : Cx G R cc nL own) {x y : Int64} {g : MM ρ} {off : Int} (tgt : Nat) (ht : ((pc + 1 : Nat) : Int) + off = (tgt : Int)) (hd : decode cc pc = .ok (.lcmp, 1)) (hd2 : decode cc (pc + 1) = .ok (.ifCond .gt off, 3)) (kt : Sm G R ad Z ck K tgt L st f) (kf : Sm G R ad Z ck K (pc + 4) L st g) : Sm G R ad Z ck K pc L (.long y :: .long x :: st) (if y < x then f else g) := by
  obtain ⟨p, l, e, s, m, args, below, meth, c, Q, A, cy, D⟩ := G
  obtain ⟨hx, hb, hml, hown, hts, hTy, hWd, hA, hlk⟩ := C
  intro d r d' hf hK H locs ls hl hP hS
  refine W.lcmp hx hb hd ?_
  refine lv_if_gt hx hb hd2 ht (fun h => ?_) (fun h => ?_)
  · rw [if_pos ((lc_gt x y).mp h)] at hf
    exact kt d r d' hf hK H locs ls hl hP hS
  · rw [if_neg (mt (lc_gt x y).mpr h)] at hf
    exact kf d r d' hf hK H locs ls hl hP hS
theorem s_lcmp_le (C : Cx G R cc nL own) {x y : Int64} {g : MM ρ} {off : Int} (tgt : Nat) (ht : ((pc + 1 : Nat) : Int) + off = (tgt : Int)) (hd : decode cc pc = .ok (.lcmp, 1)) (hd2 : decode cc (pc + 1) = .ok (.ifCond .le off, 3)) (kt : Sm G R ad Z ck K tgt L st f) (kf : Sm G R ad Z ck K (pc + 4) L st g) : Sm G R ad Z ck K pc L (.long y :: .long x :: st) (if x ≤ y then f else g) := by
  obtain ⟨p, l, e, s, m, args, below, meth, c, Q, A, cy, D⟩ := G
  obtain ⟨hx, hb, hml, hown, hts, hTy, hWd, hA, hlk⟩ := C
  intro d r d' hf hK H locs ls hl hP hS
  refine W.lcmp hx hb hd ?_
  refine lv_if_le hx hb hd2 ht (fun h => ?_) (fun h => ?_)
  · rw [if_pos ((lc_le x y).mp h)] at hf
    exact kt d r d' hf hK H locs ls hl hP hS
  · rw [if_neg (mt (lc_le x y).mpr h)] at hf
    exact kf d r d' hf hK H locs ls hl hP hS
theorem s_leti {x : Int32} {kf : Int32 → MM ρ} (k : ∀ y, Sm G R ad Z ck K pc L (.int y :: st) (kf y)) : Sm G R ad Z ck K pc L (.int x :: st) (ml x kf) := k x
theorem s_letl {x : Int64} {kf : Int64 → MM ρ} (k : ∀ y, Sm G R ad Z ck K pc L (.long y :: st) (kf y)) : Sm G R ad Z ck K pc L (.long x :: st) (ml x kf) := k x
theorem s_weak (is : List Nat) {L' : List (Nat × Value)} (h : pkL L is = L') (k : Sm G R ad Z ck K pc L' st f) : Sm G R ad Z ck K pc L st f := by
  subst h
  obtain ⟨p, l, e, s, m, args, below, meth, c, Q, A, cy, D⟩ := G
  intro d r d' hf hK H locs ls hl hP hS
  exact k d r d' hf hK H locs ls (pkL_has is hl) hP hS
def lpK {α : Type} (G : GT) (R : Room) (ad : Nat → Nat) (Z : Zt) (ck : Nat × Nat) (hd : Nat) (en : α → List (Nat × Value)) (K : ρ → Dm → Prop) : α ⊕ ρ → Dm → Prop
  | .inr r, d => K r d
  | .inl a, d => match G with
    | (p, l, e, s, m, args, below, meth, c, Q, A, cy, D) => ∀ (H : Heap) (locs : List Loc) (ls : Array Slot), lv_has ls c.maxLocals ((en a).map (cw ad)) → va_P D vwCl (wd cy ad Z d) H → va_S A s.heap H locs → W p l e R s m args below meth c H locs ck.1 ck.2 Q (F0 m hd ls [])
theorem s_back {α : Type} {hd : Nat} {en : α → List (Nat × Value)} (is : List Nat) (a : α) (h : pkL L is = en a) : Sm G R ad Z ck (lpK G R ad Z ck hd en K) hd L [] (mp (.inl a)) := by
  refine s_weak is h ?_
  obtain ⟨p, l, e, s, m, args, below, meth, c, Q, A, cy, D⟩ := G
  intro d r d' hf hK H locs ls hl hP hS
  unfold mp at hf
  cases hf
  exact hK H locs ls hl hP hS
theorem s_exit {α : Type} {hd : Nat} {en : α → List (Nat × Value)} (k : Sm G R ad Z ck K pc L st f) : Sm G R ad Z ck (lpK G R ad Z ck hd en K) pc L st (mr (α := α) f) := by
  obtain ⟨p, l, e, s, m, args, below, meth, c, Q, A, cy, D⟩ := G
  intro d r d' hf hK H locs ls hl hP hS
  unfold mr at hf
  split at hf
  · cases hf
  · next q hq =>
    cases hf
    exact k d q.1 q.2 hq hK H locs ls hl hP hS
theorem s_loop {α : Type} {hd : Nat} {en : α → List (Nat × Value)} {b : α → MM (α ⊕ ρ)} (h : ∀ a, Sm G R ad Z ck (lpK G R ad Z ck hd en K) hd (en a) [] (b a)) (a : α) : Sm G R ad Z ck K hd (en a) [] (lo b a) := by
  obtain ⟨p, l, e, s, m, args, below, meth, c, Q, A, cy, D⟩ := G
  intro d r d' hf hK H locs ls hl hP hS
  obtain ⟨n, hn⟩ := lo_iff.mp hf
  clear hf
  induction n generalizing a d H locs ls with
  | zero => simp [it] at hn
  | succ n ih =>
    simp only [it] at hn
    split at hn
    · cases hn
    · next a' d1 hb =>
      refine h a d (.inl a') d1 hb ?_ H locs ls hl hP hS
      intro H1 locs1 ls1 hl1 hP1 hS1
      exact ih a' d1 H1 locs1 ls1 hl1 hP1 hS1 hn
    · next r1 d1 hb =>
      cases hn
      exact h a d (.inr r) d' hb hK H locs ls hl hP hS
end
