/-! ===== the law's loop ===== -/
def xl (xs : Nat → Int32) (Ln : Nat) (i : Int32) : MM Int32 := fun d => if ib i Ln then some (xs i.toNatClampNeg, d) else none
def SX (G : GT) (ad : Nat → Nat) (v : Nat) (xs : Nat → Int32) (Ln : Nat) : Prop := v ≠ 0 ∧ (match G with
  | (_, _, _, s, _, _, _, _, _, _, A, _, _) => va_X (ad v) Ln xs s s.heap ∧ ad v < s.heap.size ∧ ¬ A (ad v))
section
variable {ρ : Type} {G : GT} {R : Room} {ad : Nat → Nat} {Z : Zt} {ck : Nat × Nat} {K : ρ → Dm → Prop} {pc nL : Nat} {cc : ByteArray} {own : String} {L : List (Nat × Value)} {st : List Value} {f : MM ρ}
theorem s_sld (C : Cx G R cc nL own) {v : Nat} {xs : Nat → Int32} {Ln : Nat} (hX : SX G ad v xs Ln) {i : Int32} {kf : Int32 → MM ρ} (hd : decode cc pc = .ok (.iaload, 1)) (kk : ∀ x, Sm G R ad Z ck K (pc + 1) L (.int x :: st) (kf x)) : Sm G R ad Z ck K pc L (.int i :: .ref v :: st) (mb (xl xs Ln i) kf) := by
  obtain ⟨p, l, e, s, m, args, below, meth, c, Q, A, cy, D⟩ := G
  obtain ⟨hx, hb, hml, hown, hts, hTy, hWd, hA, hlk⟩ := C
  obtain ⟨hv, hX1, hX2, hX3⟩ := hX
  intro d r d' hf hK H locs ls hl hP hS
  obtain ⟨x, d1, h1, h2⟩ := mb_some hf
  obtain ⟨hk, he⟩ := some_if h1
  cases he
  rw [List.map_cons, List.map_cons, show cv ad (.ref v) = .ref (ad v) from rv_n hv]
  exact va_sld hx hb hX1 hX2 hX3 hS (ib_in hk) hd (kk _ d r d' h2 hK H locs ls hl hP hS)
theorem s_slen (C : Cx G R cc nL own) {v : Nat} {xs : Nat → Int32} {Ln : Nat} (hX : SX G ad v xs Ln) (hd : decode cc pc = .ok (.arraylength, 1)) (kk : Sm G R ad Z ck K (pc + 1) L (.int (Int32.ofNat Ln) :: st) f) : Sm G R ad Z ck K pc L (.ref v :: st) f := by
  obtain ⟨p, l, e, s, m, args, below, meth, c, Q, A, cy, D⟩ := G
  obtain ⟨hx, hb, hml, hown, hts, hTy, hWd, hA, hlk⟩ := C
  obtain ⟨hv, hX1, hX2, hX3⟩ := hX
  intro d r d' hf hK H locs ls hl hP hS
  rw [List.map_cons, show cv ad (.ref v) = .ref (ad v) from rv_n hv]
  exact va_slen hx hb hX1 hX2 hX3 hS hd (kk d r d' hf hK H locs ls hl hP hS)
end
noncomputable def Law_law_1208 (xs : Nat → Int32) (Ln : Nat) (v0 : Nat) (v1 : Nat) (v2 : Nat) (v3 : Int32) : MM (Int32 ⊕ Int32) :=
  ml (v3 + (5 : Int32)) fun x2 =>
  mp (.inl x2)
noncomputable def Law_law_614 (xs : Nat → Int32) (Ln : Nat) (v0 : Nat) (v1 : Nat) (v2 : Nat) (v3 : Int32) (t0 : Int32) (t1 : Nat) (t2 : Int32) (t3 : Int32) : MM (Int32 ⊕ Int32) :=
  mb (vc ZF 12 t1 (Mod_always t1 t2 t3)) fun r72 =>
  if t0 = r72 then
  Law_law_1208 xs Ln v0 v1 v2 v3
  else
  mr (
  mz (0 : Int32))
noncomputable def Law_law_592 (xs : Nat → Int32) (Ln : Nat) (v0 : Nat) (v1 : Nat) (v2 : Nat) (v3 : Int32) (t0 : Nat) (t1 : Int32) (t2 : Int32) : MM (Int32 ⊕ Int32) :=
  mb (vc ZF 11 t0 (Main_always t0 t1 t2)) fun r69 =>
  mb (xl xs Ln (v3 + (1 : Int32))) fun x70 =>
  mb (xl xs Ln (v3 + (2 : Int32))) fun x71 =>
  Law_law_614 xs Ln v0 v1 v2 v3 r69 v2 x70 (if x71 = 0 then (0 : Int32) else (1 : Int32))
noncomputable def Law_law_18_b (xs : Nat → Int32) (Ln : Nat) (v0 : Nat) (v1 : Nat) (v2 : Nat) (v3 : Int32) : MM (Int32 ⊕ Int32) :=
  if ((Int32.ofNat Ln) - (5 : Int32)) < v3 then
  mr (
  mz (1 : Int32))
  else
  mb (xl xs Ln v3) fun x1 =>
  sw (x1 &&& (63 : Int32)) (0 : Int32) [(
  mb (xl xs Ln (v3 + (1 : Int32))) fun x3 =>
  mb (xl xs Ln (v3 + (2 : Int32))) fun x4 =>
  mb (vc ZF 11 v1 (Main_sector v1 x3 x4)) fun r5 =>
  mb (xl xs Ln (v3 + (1 : Int32))) fun x6 =>
  mb (xl xs Ln (v3 + (2 : Int32))) fun x7 =>
  mb (vc ZF 12 v2 (Mod_sector v2 x6 x7)) fun r8 =>
  if r5 = r8 then
  Law_law_1208 xs Ln v0 v1 v2 v3
  else
  mr (
  mz (0 : Int32))),
(
  mb (xl xs Ln (v3 + (1 : Int32))) fun x9 =>
  mb (xl xs Ln (v3 + (2 : Int32))) fun x10 =>
  mb (vc ZF 11 v1 (Main_write v1 x9 x10)) fun r11 =>
  mb (xl xs Ln (v3 + (1 : Int32))) fun x12 =>
  mb (xl xs Ln (v3 + (2 : Int32))) fun x13 =>
  mb (vc ZF 12 v2 (Mod_write v2 x12 x13)) fun r14 =>
  if r11 = r14 then
  Law_law_1208 xs Ln v0 v1 v2 v3
  else
  mr (
  mz (0 : Int32))),
(
  mb (xl xs Ln (v3 + (1 : Int32))) fun x15 =>
  mb (xl xs Ln (v3 + (2 : Int32))) fun x16 =>
  mb (xl xs Ln (v3 + (3 : Int32))) fun x17 =>
  mb (xl xs Ln (v3 + (4 : Int32))) fun x18 =>
  mb (vc ZF 11 v1 (Main_whole v1 x15 x16 x17 x18)) fun r19 =>
  mb (xl xs Ln (v3 + (1 : Int32))) fun x20 =>
  mb (xl xs Ln (v3 + (2 : Int32))) fun x21 =>
  mb (xl xs Ln (v3 + (3 : Int32))) fun x22 =>
  mb (xl xs Ln (v3 + (4 : Int32))) fun x23 =>
  mb (vc ZF 12 v2 (Mod_whole v2 x20 x21 x22 x23)) fun r24 =>
  if r19 = r24 then
  Law_law_1208 xs Ln v0 v1 v2 v3
  else
  mr (
  mz (0 : Int32))),
(
  mb (vc ZF 11 v1 (Main_barrier v1)) fun r25 =>
  mb (vc ZF 12 v2 (Mod_barrier v2)) fun r26 =>
  if r25 = r26 then
  Law_law_1208 xs Ln v0 v1 v2 v3
  else
  mr (
  mz (0 : Int32))),
(
  mb (vc ZF 11 v1 (Main_flush v1)) fun r27 =>
  mb (vc ZF 12 v2 (Mod_flush v2)) fun r28 =>
  if r27 = r28 then
  Law_law_1208 xs Ln v0 v1 v2 v3
  else
  mr (
  mz (0 : Int32))),
(
  mb (xl xs Ln (v3 + (1 : Int32))) fun x29 =>
  mb (vc ZF 11 v1 (Main_tell v1 x29)) fun r30 =>
  mb (xl xs Ln (v3 + (1 : Int32))) fun x31 =>
  mb (vc ZF 12 v2 (Mod_tell v2 x31)) fun r32 =>
  if r30 = r32 then
  Law_law_1208 xs Ln v0 v1 v2 v3
  else
  mr (
  mz (0 : Int32))),
(
  mb (vc ZF 11 v1 (Main_undo v1)) fun r33 =>
  mb (vc ZF 12 v2 (Mod_undo v2)) fun r34 =>
  if r33 = r34 then
  Law_law_1208 xs Ln v0 v1 v2 v3
  else
  mr (
  mz (0 : Int32))),
(
  mb (xl xs Ln (v3 + (1 : Int32))) fun x35 =>
  mb (xl xs Ln (v3 + (2 : Int32))) fun x36 =>
  mb (vc ZF 11 v1 (Main_swap v1 x35 x36)) fun r37 =>
  mb (xl xs Ln (v3 + (1 : Int32))) fun x38 =>
  mb (xl xs Ln (v3 + (2 : Int32))) fun x39 =>
  mb (vc ZF 12 v2 (Mod_swap v2 x38 x39)) fun r40 =>
  if r37 = r40 then
  Law_law_1208 xs Ln v0 v1 v2 v3
  else
  mr (
  mz (0 : Int32))),
(
  mb (xl xs Ln (v3 + (1 : Int32))) fun x41 =>
  mb (xl xs Ln (v3 + (2 : Int32))) fun x42 =>
  mb (vc ZF 11 v1 (Main_act v1 x41 x42)) fun r43 =>
  mb (xl xs Ln (v3 + (1 : Int32))) fun x44 =>
  mb (xl xs Ln (v3 + (2 : Int32))) fun x45 =>
  mb (vc ZF 12 v2 (Mod_act v2 x44 x45)) fun r46 =>
  if r43 = r46 then
  Law_law_1208 xs Ln v0 v1 v2 v3
  else
  mr (
  mz (0 : Int32))),
(
  mb (vc ZF 11 v1 (Main_end v1)) fun r47 =>
  mb (vc ZF 12 v2 (Mod_end v2)) fun r48 =>
  if r47 = r48 then
  Law_law_1208 xs Ln v0 v1 v2 v3
  else
  mr (
  mz (0 : Int32))),
(
  mb (xl xs Ln (v3 + (1 : Int32))) fun x49 =>
  mb (xl xs Ln (v3 + (2 : Int32))) fun x50 =>
  mb (vc ZF 11 v1 (Main_letters v1 (((x49.toInt64) <<< (((32 : Int32)).toInt64 &&& 63)) ||| ((x50.toInt64) &&& (4294967295 : Int64))))) fun r51 =>
  mb (xl xs Ln (v3 + (1 : Int32))) fun x52 =>
  mb (xl xs Ln (v3 + (2 : Int32))) fun x53 =>
  mb (vc ZF 12 v2 (Mod_letters v2 (((x52.toInt64) <<< (((32 : Int32)).toInt64 &&& 63)) ||| ((x53.toInt64) &&& (4294967295 : Int64))))) fun r54 =>
  if r51 = r54 then
  Law_law_1208 xs Ln v0 v1 v2 v3
  else
  mr (
  mz (0 : Int32))),
(
  mb (vc ZF 11 v1 (Main_blank v1)) fun r55 =>
  mb (vc ZF 12 v2 (Mod_blank v2)) fun r56 =>
  if r55 = r56 then
  Law_law_1208 xs Ln v0 v1 v2 v3
  else
  mr (
  mz (0 : Int32))),
(
  mb (xl xs Ln (v3 + (1 : Int32))) fun x57 =>
  mb (vc ZF 11 v1 (Main_good v1 x57)) fun r58 =>
  mb (xl xs Ln (v3 + (1 : Int32))) fun x59 =>
  mb (vc ZF 12 v2 (Mod_good v2 x59)) fun r60 =>
  if r58 = r60 then
  Law_law_1208 xs Ln v0 v1 v2 v3
  else
  mr (
  mz (0 : Int32))),
(
  mb (vc ZF 11 v1 (Main_rule v1)) fun r61 =>
  mb (vc ZF 12 v2 (Mod_rule v2)) fun r62 =>
  if r61 = r62 then
  Law_law_1208 xs Ln v0 v1 v2 v3
  else
  mr (
  mz (0 : Int32))),
(
  mb (vc ZF 11 v1 (Main_step v1)) fun r63 =>
  mb (vc ZF 12 v2 (Mod_step v2)) fun r64 =>
  if r63 = r64 then
  Law_law_1208 xs Ln v0 v1 v2 v3
  else
  mr (
  mz (0 : Int32))),
(
  mb (vc ZF 11 v1 (Main_bare v1)) fun r65 =>
  mb (vc ZF 12 v2 (Mod_bare v2)) fun r66 =>
  if r65 = r66 then
  Law_law_1208 xs Ln v0 v1 v2 v3
  else
  mr (
  mz (0 : Int32))),
(
  mb (xl xs Ln (v3 + (1 : Int32))) fun x67 =>
  mb (xl xs Ln (v3 + (2 : Int32))) fun x68 =>
  Law_law_592 xs Ln v0 v1 v2 v3 v1 x67 (if x68 = 0 then (0 : Int32) else (1 : Int32))),
(
  mb (xl xs Ln (v3 + (1 : Int32))) fun x73 =>
  mb (xl xs Ln (v3 + (2 : Int32))) fun x74 =>
  mb (xl xs Ln (v3 + (3 : Int32))) fun x75 =>
  mb (vc ZF 11 v1 (Main_holds v1 x73 (((x74.toInt64) <<< (((32 : Int32)).toInt64 &&& 63)) ||| ((x75.toInt64) &&& (4294967295 : Int64))))) fun r76 =>
  mb (xl xs Ln (v3 + (1 : Int32))) fun x77 =>
  mb (xl xs Ln (v3 + (2 : Int32))) fun x78 =>
  mb (xl xs Ln (v3 + (3 : Int32))) fun x79 =>
  mb (vc ZF 12 v2 (Mod_holds v2 x77 (((x78.toInt64) <<< (((32 : Int32)).toInt64 &&& 63)) ||| ((x79.toInt64) &&& (4294967295 : Int64))))) fun r80 =>
  if r76 = r80 then
  Law_law_1208 xs Ln v0 v1 v2 v3
  else
  mr (
  mz (0 : Int32))),
(
  mb (xl xs Ln (v3 + (1 : Int32))) fun x81 =>
  mb (vc ZF 11 v1 (Main_found v1 x81)) fun r82 =>
  mb (xl xs Ln (v3 + (1 : Int32))) fun x83 =>
  mb (vc ZF 12 v2 (Mod_found v2 x83)) fun r84 =>
  if r82 = r84 then
  Law_law_1208 xs Ln v0 v1 v2 v3
  else
  mr (
  mz (0 : Int32))),
(
  mb (xl xs Ln (v3 + (1 : Int32))) fun x85 =>
  mb (xl xs Ln (v3 + (2 : Int32))) fun x86 =>
  mb (vc ZF 11 v1 (Main_plate v1 x85 x86)) fun r87 =>
  mb (xl xs Ln (v3 + (1 : Int32))) fun x88 =>
  mb (xl xs Ln (v3 + (2 : Int32))) fun x89 =>
  mb (vc ZF 12 v2 (Mod_plate v2 x88 x89)) fun r90 =>
  if r87 = r90 then
  Law_law_1208 xs Ln v0 v1 v2 v3
  else
  mr (
  mz (0 : Int32))),
(
  mb (xl xs Ln (v3 + (1 : Int32))) fun x91 =>
  mb (xl xs Ln (v3 + (2 : Int32))) fun x92 =>
  mb (vc ZF 11 v1 (Main_heal v1 (((x91.toInt64) <<< (((32 : Int32)).toInt64 &&& 63)) ||| ((x92.toInt64) &&& (4294967295 : Int64))))) fun r93 =>
  mb (xl xs Ln (v3 + (1 : Int32))) fun x94 =>
  mb (xl xs Ln (v3 + (2 : Int32))) fun x95 =>
  mb (vc ZF 12 v2 (Mod_heal v2 (((x94.toInt64) <<< (((32 : Int32)).toInt64 &&& 63)) ||| ((x95.toInt64) &&& (4294967295 : Int64))))) fun r96 =>
  if r93 = r96 then
  Law_law_1208 xs Ln v0 v1 v2 v3
  else
  mr (
  mz (0 : Int32))),
(
  mb (xl xs Ln (v3 + (1 : Int32))) fun x97 =>
  mb (xl xs Ln (v3 + (2 : Int32))) fun x98 =>
  mb (xl xs Ln (v3 + (3 : Int32))) fun x99 =>
  mb (vc ZF 11 v1 (Main_cut v1 (((x97.toInt64) <<< (((32 : Int32)).toInt64 &&& 63)) ||| ((x98.toInt64) &&& (4294967295 : Int64))) x99)) fun r100 =>
  mb (xl xs Ln (v3 + (1 : Int32))) fun x101 =>
  mb (xl xs Ln (v3 + (2 : Int32))) fun x102 =>
  mb (xl xs Ln (v3 + (3 : Int32))) fun x103 =>
  mb (vc ZF 12 v2 (Mod_cut v2 (((x101.toInt64) <<< (((32 : Int32)).toInt64 &&& 63)) ||| ((x102.toInt64) &&& (4294967295 : Int64))) x103)) fun r104 =>
  if r100 = r104 then
  Law_law_1208 xs Ln v0 v1 v2 v3
  else
  mr (
  mz (0 : Int32))),
(
  mb (xl xs Ln (v3 + (1 : Int32))) fun x105 =>
  mb (xl xs Ln (v3 + (2 : Int32))) fun x106 =>
  mb (vc ZF 11 v1 (Main_steady v1 (((x105.toInt64) <<< (((32 : Int32)).toInt64 &&& 63)) ||| ((x106.toInt64) &&& (4294967295 : Int64))))) fun r107 =>
  mb (xl xs Ln (v3 + (1 : Int32))) fun x108 =>
  mb (xl xs Ln (v3 + (2 : Int32))) fun x109 =>
  mb (vc ZF 12 v2 (Mod_steady v2 (((x108.toInt64) <<< (((32 : Int32)).toInt64 &&& 63)) ||| ((x109.toInt64) &&& (4294967295 : Int64))))) fun r110 =>
  if r107 = r110 then
  Law_law_1208 xs Ln v0 v1 v2 v3
  else
  mr (
  mz (0 : Int32))),
(
  mb (xl xs Ln (v3 + (1 : Int32))) fun x111 =>
  mb (xl xs Ln (v3 + (2 : Int32))) fun x112 =>
  mb (xl xs Ln (v3 + (3 : Int32))) fun x113 =>
  mb (vc ZF 11 v1 (Main_kept v1 x111 x112 x113)) fun r114 =>
  mb (xl xs Ln (v3 + (1 : Int32))) fun x115 =>
  mb (xl xs Ln (v3 + (2 : Int32))) fun x116 =>
  mb (xl xs Ln (v3 + (3 : Int32))) fun x117 =>
  mb (vc ZF 12 v2 (Mod_kept v2 x115 x116 x117)) fun r118 =>
  if r114 = r118 then
  Law_law_1208 xs Ln v0 v1 v2 v3
  else
  mr (
  mz (0 : Int32))),
(
  mb (xl xs Ln (v3 + (1 : Int32))) fun x119 =>
  mb (vc ZF 11 v1 (Main_broken v1 x119)) fun r120 =>
  mb (xl xs Ln (v3 + (1 : Int32))) fun x121 =>
  mb (vc ZF 12 v2 (Mod_broken v2 x121)) fun r122 =>
  if r120 = r122 then
  Law_law_1208 xs Ln v0 v1 v2 v3
  else
  mr (
  mz (0 : Int32))),
(
  mb (xl xs Ln (v3 + (1 : Int32))) fun x123 =>
  mb (xl xs Ln (v3 + (2 : Int32))) fun x124 =>
  mb (xl xs Ln (v3 + (3 : Int32))) fun x125 =>
  mb (vc ZF 11 v1 (Main_bounds v1 x123 x124 x125)) fun r126 =>
  mb (xl xs Ln (v3 + (1 : Int32))) fun x127 =>
  mb (xl xs Ln (v3 + (2 : Int32))) fun x128 =>
  mb (xl xs Ln (v3 + (3 : Int32))) fun x129 =>
  mb (vc ZF 12 v2 (Mod_bounds v2 x127 x128 x129)) fun r130 =>
  if r126 = r130 then
  Law_law_1208 xs Ln v0 v1 v2 v3
  else
  mr (
  mz (0 : Int32))),
(
  mb (vc ZF 11 v1 (Main_safe v1)) fun r131 =>
  mb (vc ZF 12 v2 (Mod_safe v2)) fun r132 =>
  if r131 = r132 then
  Law_law_1208 xs Ln v0 v1 v2 v3
  else
  mr (
  mz (0 : Int32))),
(
  mb (xl xs Ln (v3 + (1 : Int32))) fun x133 =>
  mb (vc ZF 11 v1 (Main_shortest v1 x133)) fun r134 =>
  mb (xl xs Ln (v3 + (1 : Int32))) fun x135 =>
  mb (vc ZF 12 v2 (Mod_shortest v2 x135)) fun r136 =>
  if r134 = r136 then
  Law_law_1208 xs Ln v0 v1 v2 v3
  else
  mr (
  mz (0 : Int32))),
(
  mb (xl xs Ln (v3 + (1 : Int32))) fun x137 =>
  mb (xl xs Ln (v3 + (2 : Int32))) fun x138 =>
  mb (vc ZF 11 v1 (Main_cost v1 x137 x138)) fun r139 =>
  mb (xl xs Ln (v3 + (1 : Int32))) fun x140 =>
  mb (xl xs Ln (v3 + (2 : Int32))) fun x141 =>
  mb (vc ZF 12 v2 (Mod_cost v2 x140 x141)) fun r142 =>
  if r139 = r142 then
  Law_law_1208 xs Ln v0 v1 v2 v3
  else
  mr (
  mz (0 : Int32))),
(
  mb (xl xs Ln (v3 + (1 : Int32))) fun x143 =>
  mb (vc ZF 11 v1 (Main_fewest v1 x143)) fun r144 =>
  mb (xl xs Ln (v3 + (1 : Int32))) fun x145 =>
  mb (vc ZF 12 v2 (Mod_fewest v2 x145)) fun r146 =>
  if r144 = r146 then
  Law_law_1208 xs Ln v0 v1 v2 v3
  else
  mr (
  mz (0 : Int32))),
(
  mb (vc ZF 11 v1 (Main_needless v1)) fun r147 =>
  mb (vc ZF 12 v2 (Mod_needless v2)) fun r148 =>
  if r147 = r148 then
  Law_law_1208 xs Ln v0 v1 v2 v3
  else
  mr (
  mz (0 : Int32))),
(
  mb (xl xs Ln (v3 + (1 : Int32))) fun x149 =>
  mb (xl xs Ln (v3 + (2 : Int32))) fun x150 =>
  mb (xl xs Ln (v3 + (3 : Int32))) fun x151 =>
  mb (vc ZF 11 v1 (Main_order v1 x149 x150 x151)) fun r152 =>
  mb (xl xs Ln (v3 + (1 : Int32))) fun x153 =>
  mb (xl xs Ln (v3 + (2 : Int32))) fun x154 =>
  mb (xl xs Ln (v3 + (3 : Int32))) fun x155 =>
  mb (vc ZF 12 v2 (Mod_order v2 x153 x154 x155)) fun r156 =>
  if r152 = r156 then
  Law_law_1208 xs Ln v0 v1 v2 v3
  else
  mr (
  mz (0 : Int32))),
(
  mb (xl xs Ln (v3 + (1 : Int32))) fun x157 =>
  mb (vc ZF 11 v1 (Main_count v1 x157)) fun r158 =>
  mb (xl xs Ln (v3 + (1 : Int32))) fun x159 =>
  mb (vc ZF 12 v2 (Mod_count v2 x159)) fun r160 =>
  if r158 = r160 then
  Law_law_1208 xs Ln v0 v1 v2 v3
  else
  mr (
  mz (0 : Int32))),
(
  mb (vc ZF 11 v1 (Main_digest v1)) fun r161 =>
  mb (vc ZF 12 v2 (Mod_digest v2)) fun r162 =>
  if r161 = r162 then
  Law_law_1208 xs Ln v0 v1 v2 v3
  else
  mr (
  mz (0 : Int32)))] (
Law_law_1208 xs Ln v0 v1 v2 v3)
noncomputable def Law_law_18 (xs : Nat → Int32) (Ln : Nat) (v0 : Nat) (v1 : Nat) (v2 : Nat) (s : Int32) : MM Int32 := lo (fun (s : Int32) => Law_law_18_b xs Ln v0 v1 v2 s) s
set_option maxRecDepth 20000 in
set_option maxHeartbeats 4000000 in
theorem sm_Law_law_1208 {G : GT} {ad : Nat → Nat} {K : Int32 → Dm → Prop} {xs : Nat → Int32} {Ln : Nat} (C : Cx G room_1 cL_law 4 RL) (hV : Vx G room_1 ad ZF (88, 51751)) (hR : RtI G room_1 ad ZF (88, 51751) cL_law .boolean K) (v0 : Nat) (v1 : Nat) (v2 : Nat) (v3 : Int32) (hX : SX G ad v0 xs Ln) : Sm G room_1 ad ZF (88, 51751) (lpK G room_1 ad ZF (88, 51751) 18 (fun (s : Int32) => [(0, .ref v0), (1, .ref v1), (2, .ref v2), (3, .int s)]) K) 1208 [(0, .ref v0), (1, .ref v1), (2, .ref v2), (3, .int v3)] [] (Law_law_1208 xs Ln v0 v1 v2 v3) := by
  unfold Law_law_1208
  refine s_iinc C (L' := fun x2 => [(3, .int x2), (0, .ref v0), (1, .ref v1), (2, .ref v2)]) (5 : Int32) (by decide) rfl (by decide) (fun _ => rfl) dL_law_1208 (fun x2 => ?_)
  refine s_goto C 18 (by decide) dL_law_1211 ?_
  exact s_back [0, 1, 2, 3] x2 rfl
set_option maxRecDepth 20000 in
set_option maxHeartbeats 4000000 in
theorem sm_Law_law_614 {G : GT} {ad : Nat → Nat} {K : Int32 → Dm → Prop} {xs : Nat → Int32} {Ln : Nat} (C : Cx G room_1 cL_law 4 RL) (hV : Vx G room_1 ad ZF (88, 51751)) (hR : RtI G room_1 ad ZF (88, 51751) cL_law .boolean K) (v0 : Nat) (v1 : Nat) (v2 : Nat) (v3 : Int32) (t0 : Int32) (t1 : Nat) (t2 : Int32) (t3 : Int32) (hX : SX G ad v0 xs Ln) : Sm G room_1 ad ZF (88, 51751) (lpK G room_1 ad ZF (88, 51751) 18 (fun (s : Int32) => [(0, .ref v0), (1, .ref v1), (2, .ref v2), (3, .int s)]) K) 614 [(0, .ref v0), (1, .ref v1), (2, .ref v2), (3, .int v3)] [.int t3, .int t2, .ref t1, .int t0] (Law_law_614 xs Ln v0 v1 v2 v3 t0 t1 t2 t3) := by
  unfold Law_law_614
  refine s_wI C hV lv_L_89 (st := [.int t0]) (met_Mod_always t1 t2 t3) rf_Law_law_Mod_always rfl rfl (Nat.le_of_ble_eq_true rfl) dL_law_614 (fun r72 => ?_)
  refine s_icmp_eq C 1208 (by decide) dL_law_617 ?_ ?_
  · exact s_weak [0, 1, 2, 3] rfl (sm_Law_law_1208 C hV hR v0 v1 v2 v3 hX)
  · refine s_exit ?_
    refine s_iconst C (0 : Int32) (by decide) dL_law_620 ?_
    exact s_iretz hR dL_law_621
set_option maxRecDepth 20000 in
set_option maxHeartbeats 4000000 in
theorem sm_Law_law_592 {G : GT} {ad : Nat → Nat} {K : Int32 → Dm → Prop} {xs : Nat → Int32} {Ln : Nat} (C : Cx G room_1 cL_law 4 RL) (hV : Vx G room_1 ad ZF (88, 51751)) (hR : RtI G room_1 ad ZF (88, 51751) cL_law .boolean K) (v0 : Nat) (v1 : Nat) (v2 : Nat) (v3 : Int32) (t0 : Nat) (t1 : Int32) (t2 : Int32) (hX : SX G ad v0 xs Ln) : Sm G room_1 ad ZF (88, 51751) (lpK G room_1 ad ZF (88, 51751) 18 (fun (s : Int32) => [(0, .ref v0), (1, .ref v1), (2, .ref v2), (3, .int s)]) K) 592 [(0, .ref v0), (1, .ref v1), (2, .ref v2), (3, .int v3)] [.int t2, .int t1, .ref t0] (Law_law_592 xs Ln v0 v1 v2 v3 t0 t1 t2) := by
  unfold Law_law_592
  refine s_wI C hV lv_L_85 (st := []) (met_Main_always t0 t1 t2) rf_Law_law_Main_always rfl rfl (Nat.le_of_ble_eq_true rfl) dL_law_592 (fun r69 => ?_)
  refine s_aload_n C rfl dL_law_595 ?_
  refine s_aload_n C rfl dL_law_596 ?_
  refine s_iload_n C rfl dL_law_597 ?_
  refine s_iconst C (1 : Int32) (by decide) dL_law_598 ?_
  refine s_iadd C dL_law_599 ?_
  refine s_sld C hX dL_law_600 (fun x70 => ?_)
  refine s_aload_n C rfl dL_law_601 ?_
  refine s_iload_n C rfl dL_law_602 ?_
  refine s_iconst C (2 : Int32) (by decide) dL_law_603 ?_
  refine s_iadd C dL_law_604 ?_
  refine s_sld C hX dL_law_605 (fun x71 => ?_)
  refine s_ite (g := fun z => Law_law_614 xs Ln v0 v1 v2 v3 r69 v2 x70 z) ?_
  refine s_if_eq C 613 (by decide) dL_law_606 ?_ ?_
  · refine s_iconst C (0 : Int32) (by decide) dL_law_613 ?_
    exact s_weak [0, 1, 2, 3] rfl (sm_Law_law_614 C hV hR v0 v1 v2 v3 r69 v2 x70 (0 : Int32) hX)
  · refine s_iconst C (1 : Int32) (by decide) dL_law_609 ?_
    refine s_goto C 614 (by decide) dL_law_610 ?_
    exact s_weak [0, 1, 2, 3] rfl (sm_Law_law_614 C hV hR v0 v1 v2 v3 r69 v2 x70 (1 : Int32) hX)
set_option maxRecDepth 20000 in
set_option maxHeartbeats 4000000 in
theorem sm_Law_law_18_b {G : GT} {ad : Nat → Nat} {K : Int32 → Dm → Prop} {xs : Nat → Int32} {Ln : Nat} (C : Cx G room_1 cL_law 4 RL) (hV : Vx G room_1 ad ZF (88, 51751)) (hR : RtI G room_1 ad ZF (88, 51751) cL_law .boolean K) (v0 : Nat) (v1 : Nat) (v2 : Nat) (v3 : Int32) (hX : SX G ad v0 xs Ln) : Sm G room_1 ad ZF (88, 51751) (lpK G room_1 ad ZF (88, 51751) 18 (fun (s : Int32) => [(0, .ref v0), (1, .ref v1), (2, .ref v2), (3, .int s)]) K) 18 [(0, .ref v0), (1, .ref v1), (2, .ref v2), (3, .int v3)] [] (Law_law_18_b xs Ln v0 v1 v2 v3) := by
  unfold Law_law_18_b
  refine s_iload_n C rfl dL_law_18 ?_
  refine s_aload_n C rfl dL_law_19 ?_
  refine s_slen C hX dL_law_20 ?_
  refine s_iconst C (5 : Int32) (by decide) dL_law_21 ?_
  refine s_isub C dL_law_22 ?_
  refine s_icmp_gt C 1214 (by decide) dL_law_23 ?_ ?_
  · refine s_exit ?_
    refine s_iconst C (1 : Int32) (by decide) dL_law_1214 ?_
    exact s_iretz hR dL_law_1215
  · refine s_aload_n C rfl dL_law_26 ?_
    refine s_iload_n C rfl dL_law_27 ?_
    refine s_sld C hX dL_law_28 (fun x1 => ?_)
    refine s_bipush C (63 : Int32) (by decide) dL_law_29 ?_
    refine s_iand C dL_law_31 ?_
    refine s_tsw C (k := (0 : Int32)) (by decide) (by simp) (by simp) dL_law_32 1208 (by decide) ?_ ?_
    · exact s_weak [0, 1, 2, 3] rfl (sm_Law_law_1208 C hV hR v0 v1 v2 v3 hX)
    · intro i g hg
      match i, hg with
      | 0, hg =>
        cases hg
        refine ⟨152, 184, rfl, by decide, ?_⟩
        refine s_aload_n C rfl dL_law_184 ?_
        refine s_aload_n C rfl dL_law_185 ?_
        refine s_iload_n C rfl dL_law_186 ?_
        refine s_iconst C (1 : Int32) (by decide) dL_law_187 ?_
        refine s_iadd C dL_law_188 ?_
        refine s_sld C hX dL_law_189 (fun x3 => ?_)
        refine s_aload_n C rfl dL_law_190 ?_
        refine s_iload_n C rfl dL_law_191 ?_
        refine s_iconst C (2 : Int32) (by decide) dL_law_192 ?_
        refine s_iadd C dL_law_193 ?_
        refine s_sld C hX dL_law_194 (fun x4 => ?_)
        refine s_wI C hV lv_L_13 (st := []) (met_Main_sector v1 x3 x4) rf_Law_law_Main_sector rfl rfl (Nat.le_of_ble_eq_true rfl) dL_law_195 (fun r5 => ?_)
        refine s_aload_n C rfl dL_law_198 ?_
        refine s_aload_n C rfl dL_law_199 ?_
        refine s_iload_n C rfl dL_law_200 ?_
        refine s_iconst C (1 : Int32) (by decide) dL_law_201 ?_
        refine s_iadd C dL_law_202 ?_
        refine s_sld C hX dL_law_203 (fun x6 => ?_)
        refine s_aload_n C rfl dL_law_204 ?_
        refine s_iload_n C rfl dL_law_205 ?_
        refine s_iconst C (2 : Int32) (by decide) dL_law_206 ?_
        refine s_iadd C dL_law_207 ?_
        refine s_sld C hX dL_law_208 (fun x7 => ?_)
        refine s_wI C hV lv_L_17 (st := [.int r5]) (met_Mod_sector v2 x6 x7) rf_Law_law_Mod_sector rfl rfl (Nat.le_of_ble_eq_true rfl) dL_law_209 (fun r8 => ?_)
        refine s_icmp_eq C 1208 (by decide) dL_law_212 ?_ ?_
        · exact s_weak [0, 1, 2, 3] rfl (sm_Law_law_1208 C hV hR v0 v1 v2 v3 hX)
        · refine s_exit ?_
          refine s_iconst C (0 : Int32) (by decide) dL_law_215 ?_
          exact s_iretz hR dL_law_216
      | 1, hg =>
        cases hg
        refine ⟨185, 217, rfl, by decide, ?_⟩
        refine s_aload_n C rfl dL_law_217 ?_
        refine s_aload_n C rfl dL_law_218 ?_
        refine s_iload_n C rfl dL_law_219 ?_
        refine s_iconst C (1 : Int32) (by decide) dL_law_220 ?_
        refine s_iadd C dL_law_221 ?_
        refine s_sld C hX dL_law_222 (fun x9 => ?_)
        refine s_aload_n C rfl dL_law_223 ?_
        refine s_iload_n C rfl dL_law_224 ?_
        refine s_iconst C (2 : Int32) (by decide) dL_law_225 ?_
        refine s_iadd C dL_law_226 ?_
        refine s_sld C hX dL_law_227 (fun x10 => ?_)
        refine s_wI C hV lv_L_18 (st := []) (met_Main_write v1 x9 x10) rf_Law_law_Main_write rfl rfl (Nat.le_of_ble_eq_true rfl) dL_law_228 (fun r11 => ?_)
        refine s_aload_n C rfl dL_law_231 ?_
        refine s_aload_n C rfl dL_law_232 ?_
        refine s_iload_n C rfl dL_law_233 ?_
        refine s_iconst C (1 : Int32) (by decide) dL_law_234 ?_
        refine s_iadd C dL_law_235 ?_
        refine s_sld C hX dL_law_236 (fun x12 => ?_)
        refine s_aload_n C rfl dL_law_237 ?_
        refine s_iload_n C rfl dL_law_238 ?_
        refine s_iconst C (2 : Int32) (by decide) dL_law_239 ?_
        refine s_iadd C dL_law_240 ?_
        refine s_sld C hX dL_law_241 (fun x13 => ?_)
        refine s_wI C hV lv_L_21 (st := [.int r11]) (met_Mod_write v2 x12 x13) rf_Law_law_Mod_write rfl rfl (Nat.le_of_ble_eq_true rfl) dL_law_242 (fun r14 => ?_)
        refine s_icmp_eq C 1208 (by decide) dL_law_245 ?_ ?_
        · exact s_weak [0, 1, 2, 3] rfl (sm_Law_law_1208 C hV hR v0 v1 v2 v3 hX)
        · refine s_exit ?_
          refine s_iconst C (0 : Int32) (by decide) dL_law_248 ?_
          exact s_iretz hR dL_law_249
      | 2, hg =>
        cases hg
        refine ⟨218, 250, rfl, by decide, ?_⟩
        refine s_aload_n C rfl dL_law_250 ?_
        refine s_aload_n C rfl dL_law_251 ?_
        refine s_iload_n C rfl dL_law_252 ?_
        refine s_iconst C (1 : Int32) (by decide) dL_law_253 ?_
        refine s_iadd C dL_law_254 ?_
        refine s_sld C hX dL_law_255 (fun x15 => ?_)
        refine s_aload_n C rfl dL_law_256 ?_
        refine s_iload_n C rfl dL_law_257 ?_
        refine s_iconst C (2 : Int32) (by decide) dL_law_258 ?_
        refine s_iadd C dL_law_259 ?_
        refine s_sld C hX dL_law_260 (fun x16 => ?_)
        refine s_aload_n C rfl dL_law_261 ?_
        refine s_iload_n C rfl dL_law_262 ?_
        refine s_iconst C (3 : Int32) (by decide) dL_law_263 ?_
        refine s_iadd C dL_law_264 ?_
        refine s_sld C hX dL_law_265 (fun x17 => ?_)
        refine s_aload_n C rfl dL_law_266 ?_
        refine s_iload_n C rfl dL_law_267 ?_
        refine s_iconst C (4 : Int32) (by decide) dL_law_268 ?_
        refine s_iadd C dL_law_269 ?_
        refine s_sld C hX dL_law_270 (fun x18 => ?_)
        refine s_wI C hV lv_L_22 (st := []) (met_Main_whole v1 x15 x16 x17 x18) rf_Law_law_Main_whole rfl rfl (Nat.le_of_ble_eq_true rfl) dL_law_271 (fun r19 => ?_)
        refine s_aload_n C rfl dL_law_274 ?_
        refine s_aload_n C rfl dL_law_275 ?_
        refine s_iload_n C rfl dL_law_276 ?_
        refine s_iconst C (1 : Int32) (by decide) dL_law_277 ?_
        refine s_iadd C dL_law_278 ?_
        refine s_sld C hX dL_law_279 (fun x20 => ?_)
        refine s_aload_n C rfl dL_law_280 ?_
        refine s_iload_n C rfl dL_law_281 ?_
        refine s_iconst C (2 : Int32) (by decide) dL_law_282 ?_
        refine s_iadd C dL_law_283 ?_
        refine s_sld C hX dL_law_284 (fun x21 => ?_)
        refine s_aload_n C rfl dL_law_285 ?_
        refine s_iload_n C rfl dL_law_286 ?_
        refine s_iconst C (3 : Int32) (by decide) dL_law_287 ?_
        refine s_iadd C dL_law_288 ?_
        refine s_sld C hX dL_law_289 (fun x22 => ?_)
        refine s_aload_n C rfl dL_law_290 ?_
        refine s_iload_n C rfl dL_law_291 ?_
        refine s_iconst C (4 : Int32) (by decide) dL_law_292 ?_
        refine s_iadd C dL_law_293 ?_
        refine s_sld C hX dL_law_294 (fun x23 => ?_)
        refine s_wI C hV lv_L_26 (st := [.int r19]) (met_Mod_whole v2 x20 x21 x22 x23) rf_Law_law_Mod_whole rfl rfl (Nat.le_of_ble_eq_true rfl) dL_law_295 (fun r24 => ?_)
        refine s_icmp_eq C 1208 (by decide) dL_law_298 ?_ ?_
        · exact s_weak [0, 1, 2, 3] rfl (sm_Law_law_1208 C hV hR v0 v1 v2 v3 hX)
        · refine s_exit ?_
          refine s_iconst C (0 : Int32) (by decide) dL_law_301 ?_
          exact s_iretz hR dL_law_302
      | 3, hg =>
        cases hg
        refine ⟨271, 303, rfl, by decide, ?_⟩
        refine s_aload_n C rfl dL_law_303 ?_
        refine s_wI C hV lv_L_27 (st := []) (met_Main_barrier v1) rf_Law_law_Main_barrier rfl rfl (Nat.le_of_ble_eq_true rfl) dL_law_304 (fun r25 => ?_)
        refine s_aload_n C rfl dL_law_307 ?_
        refine s_wI C hV lv_L_31 (st := [.int r25]) (met_Mod_barrier v2) rf_Law_law_Mod_barrier rfl rfl (Nat.le_of_ble_eq_true rfl) dL_law_308 (fun r26 => ?_)
        refine s_icmp_eq C 1208 (by decide) dL_law_311 ?_ ?_
        · exact s_weak [0, 1, 2, 3] rfl (sm_Law_law_1208 C hV hR v0 v1 v2 v3 hX)
        · refine s_exit ?_
          refine s_iconst C (0 : Int32) (by decide) dL_law_314 ?_
          exact s_iretz hR dL_law_315
      | 4, hg =>
        cases hg
        refine ⟨284, 316, rfl, by decide, ?_⟩
        refine s_aload_n C rfl dL_law_316 ?_
        refine s_wI C hV lv_L_32 (st := []) (met_Main_flush v1) rf_Law_law_Main_flush rfl rfl (Nat.le_of_ble_eq_true rfl) dL_law_317 (fun r27 => ?_)
        refine s_aload_n C rfl dL_law_320 ?_
        refine s_wI C hV lv_L_35 (st := [.int r27]) (met_Mod_flush v2) rf_Law_law_Mod_flush rfl rfl (Nat.le_of_ble_eq_true rfl) dL_law_321 (fun r28 => ?_)
        refine s_icmp_eq C 1208 (by decide) dL_law_324 ?_ ?_
        · exact s_weak [0, 1, 2, 3] rfl (sm_Law_law_1208 C hV hR v0 v1 v2 v3 hX)
        · refine s_exit ?_
          refine s_iconst C (0 : Int32) (by decide) dL_law_327 ?_
          exact s_iretz hR dL_law_328
      | 5, hg =>
        cases hg
        refine ⟨297, 329, rfl, by decide, ?_⟩
        refine s_aload_n C rfl dL_law_329 ?_
        refine s_aload_n C rfl dL_law_330 ?_
        refine s_iload_n C rfl dL_law_331 ?_
        refine s_iconst C (1 : Int32) (by decide) dL_law_332 ?_
        refine s_iadd C dL_law_333 ?_
        refine s_sld C hX dL_law_334 (fun x29 => ?_)
        refine s_wI C hV lv_L_36 (st := []) (met_Main_tell v1 x29) rf_Law_law_Main_tell rfl rfl (Nat.le_of_ble_eq_true rfl) dL_law_335 (fun r30 => ?_)
        refine s_aload_n C rfl dL_law_338 ?_
        refine s_aload_n C rfl dL_law_339 ?_
        refine s_iload_n C rfl dL_law_340 ?_
        refine s_iconst C (1 : Int32) (by decide) dL_law_341 ?_
        refine s_iadd C dL_law_342 ?_
        refine s_sld C hX dL_law_343 (fun x31 => ?_)
        refine s_wI C hV lv_L_40 (st := [.int r30]) (met_Mod_tell v2 x31) rf_Law_law_Mod_tell rfl rfl (Nat.le_of_ble_eq_true rfl) dL_law_344 (fun r32 => ?_)
        refine s_icmp_eq C 1208 (by decide) dL_law_347 ?_ ?_
        · exact s_weak [0, 1, 2, 3] rfl (sm_Law_law_1208 C hV hR v0 v1 v2 v3 hX)
        · refine s_exit ?_
          refine s_iconst C (0 : Int32) (by decide) dL_law_350 ?_
          exact s_iretz hR dL_law_351
      | 6, hg =>
        cases hg
        refine ⟨320, 352, rfl, by decide, ?_⟩
        refine s_aload_n C rfl dL_law_352 ?_
        refine s_wI C hV lv_L_41 (st := []) (met_Main_undo v1) rf_Law_law_Main_undo rfl rfl (Nat.le_of_ble_eq_true rfl) dL_law_353 (fun r33 => ?_)
        refine s_aload_n C rfl dL_law_356 ?_
        refine s_wI C hV lv_L_44 (st := [.int r33]) (met_Mod_undo v2) rf_Law_law_Mod_undo rfl rfl (Nat.le_of_ble_eq_true rfl) dL_law_357 (fun r34 => ?_)
        refine s_icmp_eq C 1208 (by decide) dL_law_360 ?_ ?_
        · exact s_weak [0, 1, 2, 3] rfl (sm_Law_law_1208 C hV hR v0 v1 v2 v3 hX)
        · refine s_exit ?_
          refine s_iconst C (0 : Int32) (by decide) dL_law_363 ?_
          exact s_iretz hR dL_law_364
      | 7, hg =>
        cases hg
        refine ⟨333, 365, rfl, by decide, ?_⟩
        refine s_aload_n C rfl dL_law_365 ?_
        refine s_aload_n C rfl dL_law_366 ?_
        refine s_iload_n C rfl dL_law_367 ?_
        refine s_iconst C (1 : Int32) (by decide) dL_law_368 ?_
        refine s_iadd C dL_law_369 ?_
        refine s_sld C hX dL_law_370 (fun x35 => ?_)
        refine s_aload_n C rfl dL_law_371 ?_
        refine s_iload_n C rfl dL_law_372 ?_
        refine s_iconst C (2 : Int32) (by decide) dL_law_373 ?_
        refine s_iadd C dL_law_374 ?_
        refine s_sld C hX dL_law_375 (fun x36 => ?_)
        refine s_wI C hV lv_L_45 (st := []) (met_Main_swap v1 x35 x36) rf_Law_law_Main_swap rfl rfl (Nat.le_of_ble_eq_true rfl) dL_law_376 (fun r37 => ?_)
        refine s_aload_n C rfl dL_law_379 ?_
        refine s_aload_n C rfl dL_law_380 ?_
        refine s_iload_n C rfl dL_law_381 ?_
        refine s_iconst C (1 : Int32) (by decide) dL_law_382 ?_
        refine s_iadd C dL_law_383 ?_
        refine s_sld C hX dL_law_384 (fun x38 => ?_)
        refine s_aload_n C rfl dL_law_385 ?_
        refine s_iload_n C rfl dL_law_386 ?_
        refine s_iconst C (2 : Int32) (by decide) dL_law_387 ?_
        refine s_iadd C dL_law_388 ?_
        refine s_sld C hX dL_law_389 (fun x39 => ?_)
        refine s_wI C hV lv_L_48 (st := [.int r37]) (met_Mod_swap v2 x38 x39) rf_Law_law_Mod_swap rfl rfl (Nat.le_of_ble_eq_true rfl) dL_law_390 (fun r40 => ?_)
        refine s_icmp_eq C 1208 (by decide) dL_law_393 ?_ ?_
        · exact s_weak [0, 1, 2, 3] rfl (sm_Law_law_1208 C hV hR v0 v1 v2 v3 hX)
        · refine s_exit ?_
          refine s_iconst C (0 : Int32) (by decide) dL_law_396 ?_
          exact s_iretz hR dL_law_397
      | 8, hg =>
        cases hg
        refine ⟨366, 398, rfl, by decide, ?_⟩
        refine s_aload_n C rfl dL_law_398 ?_
        refine s_aload_n C rfl dL_law_399 ?_
        refine s_iload_n C rfl dL_law_400 ?_
        refine s_iconst C (1 : Int32) (by decide) dL_law_401 ?_
        refine s_iadd C dL_law_402 ?_
        refine s_sld C hX dL_law_403 (fun x41 => ?_)
        refine s_aload_n C rfl dL_law_404 ?_
        refine s_iload_n C rfl dL_law_405 ?_
        refine s_iconst C (2 : Int32) (by decide) dL_law_406 ?_
        refine s_iadd C dL_law_407 ?_
        refine s_sld C hX dL_law_408 (fun x42 => ?_)
        refine s_wI C hV lv_L_49 (st := []) (met_Main_act v1 x41 x42) rf_Law_law_Main_act rfl rfl (Nat.le_of_ble_eq_true rfl) dL_law_409 (fun r43 => ?_)
        refine s_aload_n C rfl dL_law_412 ?_
        refine s_aload_n C rfl dL_law_413 ?_
        refine s_iload_n C rfl dL_law_414 ?_
        refine s_iconst C (1 : Int32) (by decide) dL_law_415 ?_
        refine s_iadd C dL_law_416 ?_
        refine s_sld C hX dL_law_417 (fun x44 => ?_)
        refine s_aload_n C rfl dL_law_418 ?_
        refine s_iload_n C rfl dL_law_419 ?_
        refine s_iconst C (2 : Int32) (by decide) dL_law_420 ?_
        refine s_iadd C dL_law_421 ?_
        refine s_sld C hX dL_law_422 (fun x45 => ?_)
        refine s_wI C hV lv_L_52 (st := [.int r43]) (met_Mod_act v2 x44 x45) rf_Law_law_Mod_act rfl rfl (Nat.le_of_ble_eq_true rfl) dL_law_423 (fun r46 => ?_)
        refine s_icmp_eq C 1208 (by decide) dL_law_426 ?_ ?_
        · exact s_weak [0, 1, 2, 3] rfl (sm_Law_law_1208 C hV hR v0 v1 v2 v3 hX)
        · refine s_exit ?_
          refine s_iconst C (0 : Int32) (by decide) dL_law_429 ?_
          exact s_iretz hR dL_law_430
      | 9, hg =>
        cases hg
        refine ⟨399, 431, rfl, by decide, ?_⟩
        refine s_aload_n C rfl dL_law_431 ?_
        refine s_wL C hV lv_L_53 (st := []) (met_Main_end v1) rf_Law_law_Main_end rfl rfl (Nat.le_of_ble_eq_true rfl) dL_law_432 (fun r47 => ?_)
        refine s_aload_n C rfl dL_law_435 ?_
        refine s_wL C hV lv_L_57 (st := [.long r47]) (met_Mod_end v2) rf_Law_law_Mod_end rfl rfl (Nat.le_of_ble_eq_true rfl) dL_law_436 (fun r48 => ?_)
        refine s_lcmp_eq C 1208 (by decide) dL_law_439 dL_law_440 ?_ ?_
        · exact s_weak [0, 1, 2, 3] rfl (sm_Law_law_1208 C hV hR v0 v1 v2 v3 hX)
        · refine s_exit ?_
          refine s_iconst C (0 : Int32) (by decide) dL_law_443 ?_
          exact s_iretz hR dL_law_444
      | 10, hg =>
        cases hg
        refine ⟨413, 445, rfl, by decide, ?_⟩
        refine s_aload_n C rfl dL_law_445 ?_
        refine s_aload_n C rfl dL_law_446 ?_
        refine s_iload_n C rfl dL_law_447 ?_
        refine s_iconst C (1 : Int32) (by decide) dL_law_448 ?_
        refine s_iadd C dL_law_449 ?_
        refine s_sld C hX dL_law_450 (fun x49 => ?_)
        refine s_i2l C dL_law_451 ?_
        refine s_bipush C (32 : Int32) (by decide) dL_law_452 ?_
        refine s_lshl C dL_law_454 ?_
        refine s_aload_n C rfl dL_law_455 ?_
        refine s_iload_n C rfl dL_law_456 ?_
        refine s_iconst C (2 : Int32) (by decide) dL_law_457 ?_
        refine s_iadd C dL_law_458 ?_
        refine s_sld C hX dL_law_459 (fun x50 => ?_)
        refine s_i2l C dL_law_460 ?_
        refine s_ldc2 C kl_L_58 dL_law_461 ?_
        refine s_land C dL_law_464 ?_
        refine s_lor C dL_law_465 ?_
        refine s_wI C hV lv_L_60 (st := []) (met_Main_letters v1 (((x49.toInt64) <<< (((32 : Int32)).toInt64 &&& 63)) ||| ((x50.toInt64) &&& (4294967295 : Int64)))) rf_Law_law_Main_letters rfl rfl (Nat.le_of_ble_eq_true rfl) dL_law_466 (fun r51 => ?_)
        refine s_aload_n C rfl dL_law_469 ?_
        refine s_aload_n C rfl dL_law_470 ?_
        refine s_iload_n C rfl dL_law_471 ?_
        refine s_iconst C (1 : Int32) (by decide) dL_law_472 ?_
        refine s_iadd C dL_law_473 ?_
        refine s_sld C hX dL_law_474 (fun x52 => ?_)
        refine s_i2l C dL_law_475 ?_
        refine s_bipush C (32 : Int32) (by decide) dL_law_476 ?_
        refine s_lshl C dL_law_478 ?_
        refine s_aload_n C rfl dL_law_479 ?_
        refine s_iload_n C rfl dL_law_480 ?_
        refine s_iconst C (2 : Int32) (by decide) dL_law_481 ?_
        refine s_iadd C dL_law_482 ?_
        refine s_sld C hX dL_law_483 (fun x53 => ?_)
        refine s_i2l C dL_law_484 ?_
        refine s_ldc2 C kl_L_58 dL_law_485 ?_
        refine s_land C dL_law_488 ?_
        refine s_lor C dL_law_489 ?_
        refine s_wI C hV lv_L_64 (st := [.int r51]) (met_Mod_letters v2 (((x52.toInt64) <<< (((32 : Int32)).toInt64 &&& 63)) ||| ((x53.toInt64) &&& (4294967295 : Int64)))) rf_Law_law_Mod_letters rfl rfl (Nat.le_of_ble_eq_true rfl) dL_law_490 (fun r54 => ?_)
        refine s_icmp_eq C 1208 (by decide) dL_law_493 ?_ ?_
        · exact s_weak [0, 1, 2, 3] rfl (sm_Law_law_1208 C hV hR v0 v1 v2 v3 hX)
        · refine s_exit ?_
          refine s_iconst C (0 : Int32) (by decide) dL_law_496 ?_
          exact s_iretz hR dL_law_497
      | 11, hg =>
        cases hg
        refine ⟨466, 498, rfl, by decide, ?_⟩
        refine s_aload_n C rfl dL_law_498 ?_
        refine s_wI C hV lv_L_65 (st := []) (met_Main_blank v1) rf_Law_law_Main_blank rfl rfl (Nat.le_of_ble_eq_true rfl) dL_law_499 (fun r55 => ?_)
        refine s_aload_n C rfl dL_law_502 ?_
        refine s_wI C hV lv_L_68 (st := [.int r55]) (met_Mod_blank v2) rf_Law_law_Mod_blank rfl rfl (Nat.le_of_ble_eq_true rfl) dL_law_503 (fun r56 => ?_)
        refine s_icmp_eq C 1208 (by decide) dL_law_506 ?_ ?_
        · exact s_weak [0, 1, 2, 3] rfl (sm_Law_law_1208 C hV hR v0 v1 v2 v3 hX)
        · refine s_exit ?_
          refine s_iconst C (0 : Int32) (by decide) dL_law_509 ?_
          exact s_iretz hR dL_law_510
      | 12, hg =>
        cases hg
        refine ⟨479, 511, rfl, by decide, ?_⟩
        refine s_aload_n C rfl dL_law_511 ?_
        refine s_aload_n C rfl dL_law_512 ?_
        refine s_iload_n C rfl dL_law_513 ?_
        refine s_iconst C (1 : Int32) (by decide) dL_law_514 ?_
        refine s_iadd C dL_law_515 ?_
        refine s_sld C hX dL_law_516 (fun x57 => ?_)
        refine s_wI C hV lv_L_69 (st := []) (met_Main_good v1 x57) rf_Law_law_Main_good rfl rfl (Nat.le_of_ble_eq_true rfl) dL_law_517 (fun r58 => ?_)
        refine s_aload_n C rfl dL_law_520 ?_
        refine s_aload_n C rfl dL_law_521 ?_
        refine s_iload_n C rfl dL_law_522 ?_
        refine s_iconst C (1 : Int32) (by decide) dL_law_523 ?_
        refine s_iadd C dL_law_524 ?_
        refine s_sld C hX dL_law_525 (fun x59 => ?_)
        refine s_wI C hV lv_L_72 (st := [.int r58]) (met_Mod_good v2 x59) rf_Law_law_Mod_good rfl rfl (Nat.le_of_ble_eq_true rfl) dL_law_526 (fun r60 => ?_)
        refine s_icmp_eq C 1208 (by decide) dL_law_529 ?_ ?_
        · exact s_weak [0, 1, 2, 3] rfl (sm_Law_law_1208 C hV hR v0 v1 v2 v3 hX)
        · refine s_exit ?_
          refine s_iconst C (0 : Int32) (by decide) dL_law_532 ?_
          exact s_iretz hR dL_law_533
      | 13, hg =>
        cases hg
        refine ⟨502, 534, rfl, by decide, ?_⟩
        refine s_aload_n C rfl dL_law_534 ?_
        refine s_wI C hV lv_L_73 (st := []) (met_Main_rule v1) rf_Law_law_Main_rule rfl rfl (Nat.le_of_ble_eq_true rfl) dL_law_535 (fun r61 => ?_)
        refine s_aload_n C rfl dL_law_538 ?_
        refine s_wI C hV lv_L_76 (st := [.int r61]) (met_Mod_rule v2) rf_Law_law_Mod_rule rfl rfl (Nat.le_of_ble_eq_true rfl) dL_law_539 (fun r62 => ?_)
        refine s_icmp_eq C 1208 (by decide) dL_law_542 ?_ ?_
        · exact s_weak [0, 1, 2, 3] rfl (sm_Law_law_1208 C hV hR v0 v1 v2 v3 hX)
        · refine s_exit ?_
          refine s_iconst C (0 : Int32) (by decide) dL_law_545 ?_
          exact s_iretz hR dL_law_546
      | 14, hg =>
        cases hg
        refine ⟨515, 547, rfl, by decide, ?_⟩
        refine s_aload_n C rfl dL_law_547 ?_
        refine s_wI C hV lv_L_77 (st := []) (met_Main_step v1) rf_Law_law_Main_step rfl rfl (Nat.le_of_ble_eq_true rfl) dL_law_548 (fun r63 => ?_)
        refine s_aload_n C rfl dL_law_551 ?_
        refine s_wI C hV lv_L_80 (st := [.int r63]) (met_Mod_step v2) rf_Law_law_Mod_step rfl rfl (Nat.le_of_ble_eq_true rfl) dL_law_552 (fun r64 => ?_)
        refine s_icmp_eq C 1208 (by decide) dL_law_555 ?_ ?_
        · exact s_weak [0, 1, 2, 3] rfl (sm_Law_law_1208 C hV hR v0 v1 v2 v3 hX)
        · refine s_exit ?_
          refine s_iconst C (0 : Int32) (by decide) dL_law_558 ?_
          exact s_iretz hR dL_law_559
      | 15, hg =>
        cases hg
        refine ⟨528, 560, rfl, by decide, ?_⟩
        refine s_aload_n C rfl dL_law_560 ?_
        refine s_wI C hV lv_L_81 (st := []) (met_Main_bare v1) rf_Law_law_Main_bare rfl rfl (Nat.le_of_ble_eq_true rfl) dL_law_561 (fun r65 => ?_)
        refine s_aload_n C rfl dL_law_564 ?_
        refine s_wI C hV lv_L_84 (st := [.int r65]) (met_Mod_bare v2) rf_Law_law_Mod_bare rfl rfl (Nat.le_of_ble_eq_true rfl) dL_law_565 (fun r66 => ?_)
        refine s_icmp_eq C 1208 (by decide) dL_law_568 ?_ ?_
        · exact s_weak [0, 1, 2, 3] rfl (sm_Law_law_1208 C hV hR v0 v1 v2 v3 hX)
        · refine s_exit ?_
          refine s_iconst C (0 : Int32) (by decide) dL_law_571 ?_
          exact s_iretz hR dL_law_572
      | 16, hg =>
        cases hg
        refine ⟨541, 573, rfl, by decide, ?_⟩
        refine s_aload_n C rfl dL_law_573 ?_
        refine s_aload_n C rfl dL_law_574 ?_
        refine s_iload_n C rfl dL_law_575 ?_
        refine s_iconst C (1 : Int32) (by decide) dL_law_576 ?_
        refine s_iadd C dL_law_577 ?_
        refine s_sld C hX dL_law_578 (fun x67 => ?_)
        refine s_aload_n C rfl dL_law_579 ?_
        refine s_iload_n C rfl dL_law_580 ?_
        refine s_iconst C (2 : Int32) (by decide) dL_law_581 ?_
        refine s_iadd C dL_law_582 ?_
        refine s_sld C hX dL_law_583 (fun x68 => ?_)
        refine s_ite (g := fun z => Law_law_592 xs Ln v0 v1 v2 v3 v1 x67 z) ?_
        refine s_if_eq C 591 (by decide) dL_law_584 ?_ ?_
        · refine s_iconst C (0 : Int32) (by decide) dL_law_591 ?_
          exact s_weak [0, 1, 2, 3] rfl (sm_Law_law_592 C hV hR v0 v1 v2 v3 v1 x67 (0 : Int32) hX)
        · refine s_iconst C (1 : Int32) (by decide) dL_law_587 ?_
          refine s_goto C 592 (by decide) dL_law_588 ?_
          exact s_weak [0, 1, 2, 3] rfl (sm_Law_law_592 C hV hR v0 v1 v2 v3 v1 x67 (1 : Int32) hX)
      | 17, hg =>
        cases hg
        refine ⟨590, 622, rfl, by decide, ?_⟩
        refine s_aload_n C rfl dL_law_622 ?_
        refine s_aload_n C rfl dL_law_623 ?_
        refine s_iload_n C rfl dL_law_624 ?_
        refine s_iconst C (1 : Int32) (by decide) dL_law_625 ?_
        refine s_iadd C dL_law_626 ?_
        refine s_sld C hX dL_law_627 (fun x73 => ?_)
        refine s_aload_n C rfl dL_law_628 ?_
        refine s_iload_n C rfl dL_law_629 ?_
        refine s_iconst C (2 : Int32) (by decide) dL_law_630 ?_
        refine s_iadd C dL_law_631 ?_
        refine s_sld C hX dL_law_632 (fun x74 => ?_)
        refine s_i2l C dL_law_633 ?_
        refine s_bipush C (32 : Int32) (by decide) dL_law_634 ?_
        refine s_lshl C dL_law_636 ?_
        refine s_aload_n C rfl dL_law_637 ?_
        refine s_iload_n C rfl dL_law_638 ?_
        refine s_iconst C (3 : Int32) (by decide) dL_law_639 ?_
        refine s_iadd C dL_law_640 ?_
        refine s_sld C hX dL_law_641 (fun x75 => ?_)
        refine s_i2l C dL_law_642 ?_
        refine s_ldc2 C kl_L_58 dL_law_643 ?_
        refine s_land C dL_law_646 ?_
        refine s_lor C dL_law_647 ?_
        refine s_wI C hV lv_L_90 (st := []) (met_Main_holds v1 x73 (((x74.toInt64) <<< (((32 : Int32)).toInt64 &&& 63)) ||| ((x75.toInt64) &&& (4294967295 : Int64)))) rf_Law_law_Main_holds rfl rfl (Nat.le_of_ble_eq_true rfl) dL_law_648 (fun r76 => ?_)
        refine s_aload_n C rfl dL_law_651 ?_
        refine s_aload_n C rfl dL_law_652 ?_
        refine s_iload_n C rfl dL_law_653 ?_
        refine s_iconst C (1 : Int32) (by decide) dL_law_654 ?_
        refine s_iadd C dL_law_655 ?_
        refine s_sld C hX dL_law_656 (fun x77 => ?_)
        refine s_aload_n C rfl dL_law_657 ?_
        refine s_iload_n C rfl dL_law_658 ?_
        refine s_iconst C (2 : Int32) (by decide) dL_law_659 ?_
        refine s_iadd C dL_law_660 ?_
        refine s_sld C hX dL_law_661 (fun x78 => ?_)
        refine s_i2l C dL_law_662 ?_
        refine s_bipush C (32 : Int32) (by decide) dL_law_663 ?_
        refine s_lshl C dL_law_665 ?_
        refine s_aload_n C rfl dL_law_666 ?_
        refine s_iload_n C rfl dL_law_667 ?_
        refine s_iconst C (3 : Int32) (by decide) dL_law_668 ?_
        refine s_iadd C dL_law_669 ?_
        refine s_sld C hX dL_law_670 (fun x79 => ?_)
        refine s_i2l C dL_law_671 ?_
        refine s_ldc2 C kl_L_58 dL_law_672 ?_
        refine s_land C dL_law_675 ?_
        refine s_lor C dL_law_676 ?_
        refine s_wI C hV lv_L_94 (st := [.int r76]) (met_Mod_holds v2 x77 (((x78.toInt64) <<< (((32 : Int32)).toInt64 &&& 63)) ||| ((x79.toInt64) &&& (4294967295 : Int64)))) rf_Law_law_Mod_holds rfl rfl (Nat.le_of_ble_eq_true rfl) dL_law_677 (fun r80 => ?_)
        refine s_icmp_eq C 1208 (by decide) dL_law_680 ?_ ?_
        · exact s_weak [0, 1, 2, 3] rfl (sm_Law_law_1208 C hV hR v0 v1 v2 v3 hX)
        · refine s_exit ?_
          refine s_iconst C (0 : Int32) (by decide) dL_law_683 ?_
          exact s_iretz hR dL_law_684
      | 18, hg =>
        cases hg
        refine ⟨653, 685, rfl, by decide, ?_⟩
        refine s_aload_n C rfl dL_law_685 ?_
        refine s_aload_n C rfl dL_law_686 ?_
        refine s_iload_n C rfl dL_law_687 ?_
        refine s_iconst C (1 : Int32) (by decide) dL_law_688 ?_
        refine s_iadd C dL_law_689 ?_
        refine s_sld C hX dL_law_690 (fun x81 => ?_)
        refine s_wI C hV lv_L_95 (st := []) (met_Main_found v1 x81) rf_Law_law_Main_found rfl rfl (Nat.le_of_ble_eq_true rfl) dL_law_691 (fun r82 => ?_)
        refine s_aload_n C rfl dL_law_694 ?_
        refine s_aload_n C rfl dL_law_695 ?_
        refine s_iload_n C rfl dL_law_696 ?_
        refine s_iconst C (1 : Int32) (by decide) dL_law_697 ?_
        refine s_iadd C dL_law_698 ?_
        refine s_sld C hX dL_law_699 (fun x83 => ?_)
        refine s_wI C hV lv_L_98 (st := [.int r82]) (met_Mod_found v2 x83) rf_Law_law_Mod_found rfl rfl (Nat.le_of_ble_eq_true rfl) dL_law_700 (fun r84 => ?_)
        refine s_icmp_eq C 1208 (by decide) dL_law_703 ?_ ?_
        · exact s_weak [0, 1, 2, 3] rfl (sm_Law_law_1208 C hV hR v0 v1 v2 v3 hX)
        · refine s_exit ?_
          refine s_iconst C (0 : Int32) (by decide) dL_law_706 ?_
          exact s_iretz hR dL_law_707
      | 19, hg =>
        cases hg
        refine ⟨676, 708, rfl, by decide, ?_⟩
        refine s_aload_n C rfl dL_law_708 ?_
        refine s_aload_n C rfl dL_law_709 ?_
        refine s_iload_n C rfl dL_law_710 ?_
        refine s_iconst C (1 : Int32) (by decide) dL_law_711 ?_
        refine s_iadd C dL_law_712 ?_
        refine s_sld C hX dL_law_713 (fun x85 => ?_)
        refine s_aload_n C rfl dL_law_714 ?_
        refine s_iload_n C rfl dL_law_715 ?_
        refine s_iconst C (2 : Int32) (by decide) dL_law_716 ?_
        refine s_iadd C dL_law_717 ?_
        refine s_sld C hX dL_law_718 (fun x86 => ?_)
        refine s_wL C hV lv_L_99 (st := []) (met_Main_plate v1 x85 x86) rf_Law_law_Main_plate rfl rfl (Nat.le_of_ble_eq_true rfl) dL_law_719 (fun r87 => ?_)
        refine s_aload_n C rfl dL_law_722 ?_
        refine s_aload_n C rfl dL_law_723 ?_
        refine s_iload_n C rfl dL_law_724 ?_
        refine s_iconst C (1 : Int32) (by decide) dL_law_725 ?_
        refine s_iadd C dL_law_726 ?_
        refine s_sld C hX dL_law_727 (fun x88 => ?_)
        refine s_aload_n C rfl dL_law_728 ?_
        refine s_iload_n C rfl dL_law_729 ?_
        refine s_iconst C (2 : Int32) (by decide) dL_law_730 ?_
        refine s_iadd C dL_law_731 ?_
        refine s_sld C hX dL_law_732 (fun x89 => ?_)
        refine s_wL C hV lv_L_103 (st := [.long r87]) (met_Mod_plate v2 x88 x89) rf_Law_law_Mod_plate rfl rfl (Nat.le_of_ble_eq_true rfl) dL_law_733 (fun r90 => ?_)
        refine s_lcmp_eq C 1208 (by decide) dL_law_736 dL_law_737 ?_ ?_
        · exact s_weak [0, 1, 2, 3] rfl (sm_Law_law_1208 C hV hR v0 v1 v2 v3 hX)
        · refine s_exit ?_
          refine s_iconst C (0 : Int32) (by decide) dL_law_740 ?_
          exact s_iretz hR dL_law_741
      | 20, hg =>
        cases hg
        refine ⟨710, 742, rfl, by decide, ?_⟩
        refine s_aload_n C rfl dL_law_742 ?_
        refine s_aload_n C rfl dL_law_743 ?_
        refine s_iload_n C rfl dL_law_744 ?_
        refine s_iconst C (1 : Int32) (by decide) dL_law_745 ?_
        refine s_iadd C dL_law_746 ?_
        refine s_sld C hX dL_law_747 (fun x91 => ?_)
        refine s_i2l C dL_law_748 ?_
        refine s_bipush C (32 : Int32) (by decide) dL_law_749 ?_
        refine s_lshl C dL_law_751 ?_
        refine s_aload_n C rfl dL_law_752 ?_
        refine s_iload_n C rfl dL_law_753 ?_
        refine s_iconst C (2 : Int32) (by decide) dL_law_754 ?_
        refine s_iadd C dL_law_755 ?_
        refine s_sld C hX dL_law_756 (fun x92 => ?_)
        refine s_i2l C dL_law_757 ?_
        refine s_ldc2 C kl_L_58 dL_law_758 ?_
        refine s_land C dL_law_761 ?_
        refine s_lor C dL_law_762 ?_
        refine s_wL C hV lv_L_104 (st := []) (met_Main_heal v1 (((x91.toInt64) <<< (((32 : Int32)).toInt64 &&& 63)) ||| ((x92.toInt64) &&& (4294967295 : Int64)))) rf_Law_law_Main_heal rfl rfl (Nat.le_of_ble_eq_true rfl) dL_law_763 (fun r93 => ?_)
        refine s_aload_n C rfl dL_law_766 ?_
        refine s_aload_n C rfl dL_law_767 ?_
        refine s_iload_n C rfl dL_law_768 ?_
        refine s_iconst C (1 : Int32) (by decide) dL_law_769 ?_
        refine s_iadd C dL_law_770 ?_
        refine s_sld C hX dL_law_771 (fun x94 => ?_)
        refine s_i2l C dL_law_772 ?_
        refine s_bipush C (32 : Int32) (by decide) dL_law_773 ?_
        refine s_lshl C dL_law_775 ?_
        refine s_aload_n C rfl dL_law_776 ?_
        refine s_iload_n C rfl dL_law_777 ?_
        refine s_iconst C (2 : Int32) (by decide) dL_law_778 ?_
        refine s_iadd C dL_law_779 ?_
        refine s_sld C hX dL_law_780 (fun x95 => ?_)
        refine s_i2l C dL_law_781 ?_
        refine s_ldc2 C kl_L_58 dL_law_782 ?_
        refine s_land C dL_law_785 ?_
        refine s_lor C dL_law_786 ?_
        refine s_wL C hV lv_L_108 (st := [.long r93]) (met_Mod_heal v2 (((x94.toInt64) <<< (((32 : Int32)).toInt64 &&& 63)) ||| ((x95.toInt64) &&& (4294967295 : Int64)))) rf_Law_law_Mod_heal rfl rfl (Nat.le_of_ble_eq_true rfl) dL_law_787 (fun r96 => ?_)
        refine s_lcmp_eq C 1208 (by decide) dL_law_790 dL_law_791 ?_ ?_
        · exact s_weak [0, 1, 2, 3] rfl (sm_Law_law_1208 C hV hR v0 v1 v2 v3 hX)
        · refine s_exit ?_
          refine s_iconst C (0 : Int32) (by decide) dL_law_794 ?_
          exact s_iretz hR dL_law_795
      | 21, hg =>
        cases hg
        refine ⟨764, 796, rfl, by decide, ?_⟩
        refine s_aload_n C rfl dL_law_796 ?_
        refine s_aload_n C rfl dL_law_797 ?_
        refine s_iload_n C rfl dL_law_798 ?_
        refine s_iconst C (1 : Int32) (by decide) dL_law_799 ?_
        refine s_iadd C dL_law_800 ?_
        refine s_sld C hX dL_law_801 (fun x97 => ?_)
        refine s_i2l C dL_law_802 ?_
        refine s_bipush C (32 : Int32) (by decide) dL_law_803 ?_
        refine s_lshl C dL_law_805 ?_
        refine s_aload_n C rfl dL_law_806 ?_
        refine s_iload_n C rfl dL_law_807 ?_
        refine s_iconst C (2 : Int32) (by decide) dL_law_808 ?_
        refine s_iadd C dL_law_809 ?_
        refine s_sld C hX dL_law_810 (fun x98 => ?_)
        refine s_i2l C dL_law_811 ?_
        refine s_ldc2 C kl_L_58 dL_law_812 ?_
        refine s_land C dL_law_815 ?_
        refine s_lor C dL_law_816 ?_
        refine s_aload_n C rfl dL_law_817 ?_
        refine s_iload_n C rfl dL_law_818 ?_
        refine s_iconst C (3 : Int32) (by decide) dL_law_819 ?_
        refine s_iadd C dL_law_820 ?_
        refine s_sld C hX dL_law_821 (fun x99 => ?_)
        refine s_wL C hV lv_L_109 (st := []) (met_Main_cut v1 (((x97.toInt64) <<< (((32 : Int32)).toInt64 &&& 63)) ||| ((x98.toInt64) &&& (4294967295 : Int64))) x99) rf_Law_law_Main_cut rfl rfl (Nat.le_of_ble_eq_true rfl) dL_law_822 (fun r100 => ?_)
        refine s_aload_n C rfl dL_law_825 ?_
        refine s_aload_n C rfl dL_law_826 ?_
        refine s_iload_n C rfl dL_law_827 ?_
        refine s_iconst C (1 : Int32) (by decide) dL_law_828 ?_
        refine s_iadd C dL_law_829 ?_
        refine s_sld C hX dL_law_830 (fun x101 => ?_)
        refine s_i2l C dL_law_831 ?_
        refine s_bipush C (32 : Int32) (by decide) dL_law_832 ?_
        refine s_lshl C dL_law_834 ?_
        refine s_aload_n C rfl dL_law_835 ?_
        refine s_iload_n C rfl dL_law_836 ?_
        refine s_iconst C (2 : Int32) (by decide) dL_law_837 ?_
        refine s_iadd C dL_law_838 ?_
        refine s_sld C hX dL_law_839 (fun x102 => ?_)
        refine s_i2l C dL_law_840 ?_
        refine s_ldc2 C kl_L_58 dL_law_841 ?_
        refine s_land C dL_law_844 ?_
        refine s_lor C dL_law_845 ?_
        refine s_aload_n C rfl dL_law_846 ?_
        refine s_iload_n C rfl dL_law_847 ?_
        refine s_iconst C (3 : Int32) (by decide) dL_law_848 ?_
        refine s_iadd C dL_law_849 ?_
        refine s_sld C hX dL_law_850 (fun x103 => ?_)
        refine s_wL C hV lv_L_113 (st := [.long r100]) (met_Mod_cut v2 (((x101.toInt64) <<< (((32 : Int32)).toInt64 &&& 63)) ||| ((x102.toInt64) &&& (4294967295 : Int64))) x103) rf_Law_law_Mod_cut rfl rfl (Nat.le_of_ble_eq_true rfl) dL_law_851 (fun r104 => ?_)
        refine s_lcmp_eq C 1208 (by decide) dL_law_854 dL_law_855 ?_ ?_
        · exact s_weak [0, 1, 2, 3] rfl (sm_Law_law_1208 C hV hR v0 v1 v2 v3 hX)
        · refine s_exit ?_
          refine s_iconst C (0 : Int32) (by decide) dL_law_858 ?_
          exact s_iretz hR dL_law_859
      | 22, hg =>
        cases hg
        refine ⟨828, 860, rfl, by decide, ?_⟩
        refine s_aload_n C rfl dL_law_860 ?_
        refine s_aload_n C rfl dL_law_861 ?_
        refine s_iload_n C rfl dL_law_862 ?_
        refine s_iconst C (1 : Int32) (by decide) dL_law_863 ?_
        refine s_iadd C dL_law_864 ?_
        refine s_sld C hX dL_law_865 (fun x105 => ?_)
        refine s_i2l C dL_law_866 ?_
        refine s_bipush C (32 : Int32) (by decide) dL_law_867 ?_
        refine s_lshl C dL_law_869 ?_
        refine s_aload_n C rfl dL_law_870 ?_
        refine s_iload_n C rfl dL_law_871 ?_
        refine s_iconst C (2 : Int32) (by decide) dL_law_872 ?_
        refine s_iadd C dL_law_873 ?_
        refine s_sld C hX dL_law_874 (fun x106 => ?_)
        refine s_i2l C dL_law_875 ?_
        refine s_ldc2 C kl_L_58 dL_law_876 ?_
        refine s_land C dL_law_879 ?_
        refine s_lor C dL_law_880 ?_
        refine s_wI C hV lv_L_114 (st := []) (met_Main_steady v1 (((x105.toInt64) <<< (((32 : Int32)).toInt64 &&& 63)) ||| ((x106.toInt64) &&& (4294967295 : Int64)))) rf_Law_law_Main_steady rfl rfl (Nat.le_of_ble_eq_true rfl) dL_law_881 (fun r107 => ?_)
        refine s_aload_n C rfl dL_law_884 ?_
        refine s_aload_n C rfl dL_law_885 ?_
        refine s_iload_n C rfl dL_law_886 ?_
        refine s_iconst C (1 : Int32) (by decide) dL_law_887 ?_
        refine s_iadd C dL_law_888 ?_
        refine s_sld C hX dL_law_889 (fun x108 => ?_)
        refine s_i2l C dL_law_890 ?_
        refine s_bipush C (32 : Int32) (by decide) dL_law_891 ?_
        refine s_lshl C dL_law_893 ?_
        refine s_aload_n C rfl dL_law_894 ?_
        refine s_iload_n C rfl dL_law_895 ?_
        refine s_iconst C (2 : Int32) (by decide) dL_law_896 ?_
        refine s_iadd C dL_law_897 ?_
        refine s_sld C hX dL_law_898 (fun x109 => ?_)
        refine s_i2l C dL_law_899 ?_
        refine s_ldc2 C kl_L_58 dL_law_900 ?_
        refine s_land C dL_law_903 ?_
        refine s_lor C dL_law_904 ?_
        refine s_wI C hV lv_L_117 (st := [.int r107]) (met_Mod_steady v2 (((x108.toInt64) <<< (((32 : Int32)).toInt64 &&& 63)) ||| ((x109.toInt64) &&& (4294967295 : Int64)))) rf_Law_law_Mod_steady rfl rfl (Nat.le_of_ble_eq_true rfl) dL_law_905 (fun r110 => ?_)
        refine s_icmp_eq C 1208 (by decide) dL_law_908 ?_ ?_
        · exact s_weak [0, 1, 2, 3] rfl (sm_Law_law_1208 C hV hR v0 v1 v2 v3 hX)
        · refine s_exit ?_
          refine s_iconst C (0 : Int32) (by decide) dL_law_911 ?_
          exact s_iretz hR dL_law_912
      | 23, hg =>
        cases hg
        refine ⟨881, 913, rfl, by decide, ?_⟩
        refine s_aload_n C rfl dL_law_913 ?_
        refine s_aload_n C rfl dL_law_914 ?_
        refine s_iload_n C rfl dL_law_915 ?_
        refine s_iconst C (1 : Int32) (by decide) dL_law_916 ?_
        refine s_iadd C dL_law_917 ?_
        refine s_sld C hX dL_law_918 (fun x111 => ?_)
        refine s_aload_n C rfl dL_law_919 ?_
        refine s_iload_n C rfl dL_law_920 ?_
        refine s_iconst C (2 : Int32) (by decide) dL_law_921 ?_
        refine s_iadd C dL_law_922 ?_
        refine s_sld C hX dL_law_923 (fun x112 => ?_)
        refine s_aload_n C rfl dL_law_924 ?_
        refine s_iload_n C rfl dL_law_925 ?_
        refine s_iconst C (3 : Int32) (by decide) dL_law_926 ?_
        refine s_iadd C dL_law_927 ?_
        refine s_sld C hX dL_law_928 (fun x113 => ?_)
        refine s_wI C hV lv_L_118 (st := []) (met_Main_kept v1 x111 x112 x113) rf_Law_law_Main_kept rfl rfl (Nat.le_of_ble_eq_true rfl) dL_law_929 (fun r114 => ?_)
        refine s_aload_n C rfl dL_law_932 ?_
        refine s_aload_n C rfl dL_law_933 ?_
        refine s_iload_n C rfl dL_law_934 ?_
        refine s_iconst C (1 : Int32) (by decide) dL_law_935 ?_
        refine s_iadd C dL_law_936 ?_
        refine s_sld C hX dL_law_937 (fun x115 => ?_)
        refine s_aload_n C rfl dL_law_938 ?_
        refine s_iload_n C rfl dL_law_939 ?_
        refine s_iconst C (2 : Int32) (by decide) dL_law_940 ?_
        refine s_iadd C dL_law_941 ?_
        refine s_sld C hX dL_law_942 (fun x116 => ?_)
        refine s_aload_n C rfl dL_law_943 ?_
        refine s_iload_n C rfl dL_law_944 ?_
        refine s_iconst C (3 : Int32) (by decide) dL_law_945 ?_
        refine s_iadd C dL_law_946 ?_
        refine s_sld C hX dL_law_947 (fun x117 => ?_)
        refine s_wI C hV lv_L_122 (st := [.int r114]) (met_Mod_kept v2 x115 x116 x117) rf_Law_law_Mod_kept rfl rfl (Nat.le_of_ble_eq_true rfl) dL_law_948 (fun r118 => ?_)
        refine s_icmp_eq C 1208 (by decide) dL_law_951 ?_ ?_
        · exact s_weak [0, 1, 2, 3] rfl (sm_Law_law_1208 C hV hR v0 v1 v2 v3 hX)
        · refine s_exit ?_
          refine s_iconst C (0 : Int32) (by decide) dL_law_954 ?_
          exact s_iretz hR dL_law_955
      | 24, hg =>
        cases hg
        refine ⟨924, 956, rfl, by decide, ?_⟩
        refine s_aload_n C rfl dL_law_956 ?_
        refine s_aload_n C rfl dL_law_957 ?_
        refine s_iload_n C rfl dL_law_958 ?_
        refine s_iconst C (1 : Int32) (by decide) dL_law_959 ?_
        refine s_iadd C dL_law_960 ?_
        refine s_sld C hX dL_law_961 (fun x119 => ?_)
        refine s_wI C hV lv_L_123 (st := []) (met_Main_broken v1 x119) rf_Law_law_Main_broken rfl rfl (Nat.le_of_ble_eq_true rfl) dL_law_962 (fun r120 => ?_)
        refine s_aload_n C rfl dL_law_965 ?_
        refine s_aload_n C rfl dL_law_966 ?_
        refine s_iload_n C rfl dL_law_967 ?_
        refine s_iconst C (1 : Int32) (by decide) dL_law_968 ?_
        refine s_iadd C dL_law_969 ?_
        refine s_sld C hX dL_law_970 (fun x121 => ?_)
        refine s_wI C hV lv_L_126 (st := [.int r120]) (met_Mod_broken v2 x121) rf_Law_law_Mod_broken rfl rfl (Nat.le_of_ble_eq_true rfl) dL_law_971 (fun r122 => ?_)
        refine s_icmp_eq C 1208 (by decide) dL_law_974 ?_ ?_
        · exact s_weak [0, 1, 2, 3] rfl (sm_Law_law_1208 C hV hR v0 v1 v2 v3 hX)
        · refine s_exit ?_
          refine s_iconst C (0 : Int32) (by decide) dL_law_977 ?_
          exact s_iretz hR dL_law_978
      | 25, hg =>
        cases hg
        refine ⟨947, 979, rfl, by decide, ?_⟩
        refine s_aload_n C rfl dL_law_979 ?_
        refine s_aload_n C rfl dL_law_980 ?_
        refine s_iload_n C rfl dL_law_981 ?_
        refine s_iconst C (1 : Int32) (by decide) dL_law_982 ?_
        refine s_iadd C dL_law_983 ?_
        refine s_sld C hX dL_law_984 (fun x123 => ?_)
        refine s_aload_n C rfl dL_law_985 ?_
        refine s_iload_n C rfl dL_law_986 ?_
        refine s_iconst C (2 : Int32) (by decide) dL_law_987 ?_
        refine s_iadd C dL_law_988 ?_
        refine s_sld C hX dL_law_989 (fun x124 => ?_)
        refine s_aload_n C rfl dL_law_990 ?_
        refine s_iload_n C rfl dL_law_991 ?_
        refine s_iconst C (3 : Int32) (by decide) dL_law_992 ?_
        refine s_iadd C dL_law_993 ?_
        refine s_sld C hX dL_law_994 (fun x125 => ?_)
        refine s_wI C hV lv_L_127 (st := []) (met_Main_bounds v1 x123 x124 x125) rf_Law_law_Main_bounds rfl rfl (Nat.le_of_ble_eq_true rfl) dL_law_995 (fun r126 => ?_)
        refine s_aload_n C rfl dL_law_998 ?_
        refine s_aload_n C rfl dL_law_999 ?_
        refine s_iload_n C rfl dL_law_1000 ?_
        refine s_iconst C (1 : Int32) (by decide) dL_law_1001 ?_
        refine s_iadd C dL_law_1002 ?_
        refine s_sld C hX dL_law_1003 (fun x127 => ?_)
        refine s_aload_n C rfl dL_law_1004 ?_
        refine s_iload_n C rfl dL_law_1005 ?_
        refine s_iconst C (2 : Int32) (by decide) dL_law_1006 ?_
        refine s_iadd C dL_law_1007 ?_
        refine s_sld C hX dL_law_1008 (fun x128 => ?_)
        refine s_aload_n C rfl dL_law_1009 ?_
        refine s_iload_n C rfl dL_law_1010 ?_
        refine s_iconst C (3 : Int32) (by decide) dL_law_1011 ?_
        refine s_iadd C dL_law_1012 ?_
        refine s_sld C hX dL_law_1013 (fun x129 => ?_)
        refine s_wI C hV lv_L_130 (st := [.int r126]) (met_Mod_bounds v2 x127 x128 x129) rf_Law_law_Mod_bounds rfl rfl (Nat.le_of_ble_eq_true rfl) dL_law_1014 (fun r130 => ?_)
        refine s_icmp_eq C 1208 (by decide) dL_law_1017 ?_ ?_
        · exact s_weak [0, 1, 2, 3] rfl (sm_Law_law_1208 C hV hR v0 v1 v2 v3 hX)
        · refine s_exit ?_
          refine s_iconst C (0 : Int32) (by decide) dL_law_1020 ?_
          exact s_iretz hR dL_law_1021
      | 26, hg =>
        cases hg
        refine ⟨990, 1022, rfl, by decide, ?_⟩
        refine s_aload_n C rfl dL_law_1022 ?_
        refine s_wI C hV lv_L_131 (st := []) (met_Main_safe v1) rf_Law_law_Main_safe rfl rfl (Nat.le_of_ble_eq_true rfl) dL_law_1023 (fun r131 => ?_)
        refine s_aload_n C rfl dL_law_1026 ?_
        refine s_wI C hV lv_L_134 (st := [.int r131]) (met_Mod_safe v2) rf_Law_law_Mod_safe rfl rfl (Nat.le_of_ble_eq_true rfl) dL_law_1027 (fun r132 => ?_)
        refine s_icmp_eq C 1208 (by decide) dL_law_1030 ?_ ?_
        · exact s_weak [0, 1, 2, 3] rfl (sm_Law_law_1208 C hV hR v0 v1 v2 v3 hX)
        · refine s_exit ?_
          refine s_iconst C (0 : Int32) (by decide) dL_law_1033 ?_
          exact s_iretz hR dL_law_1034
      | 27, hg =>
        cases hg
        refine ⟨1003, 1035, rfl, by decide, ?_⟩
        refine s_aload_n C rfl dL_law_1035 ?_
        refine s_aload_n C rfl dL_law_1036 ?_
        refine s_iload_n C rfl dL_law_1037 ?_
        refine s_iconst C (1 : Int32) (by decide) dL_law_1038 ?_
        refine s_iadd C dL_law_1039 ?_
        refine s_sld C hX dL_law_1040 (fun x133 => ?_)
        refine s_wL C hV lv_L_135 (st := []) (met_Main_shortest v1 x133) rf_Law_law_Main_shortest rfl rfl (Nat.le_of_ble_eq_true rfl) dL_law_1041 (fun r134 => ?_)
        refine s_aload_n C rfl dL_law_1044 ?_
        refine s_aload_n C rfl dL_law_1045 ?_
        refine s_iload_n C rfl dL_law_1046 ?_
        refine s_iconst C (1 : Int32) (by decide) dL_law_1047 ?_
        refine s_iadd C dL_law_1048 ?_
        refine s_sld C hX dL_law_1049 (fun x135 => ?_)
        refine s_wL C hV lv_L_139 (st := [.long r134]) (met_Mod_shortest v2 x135) rf_Law_law_Mod_shortest rfl rfl (Nat.le_of_ble_eq_true rfl) dL_law_1050 (fun r136 => ?_)
        refine s_lcmp_eq C 1208 (by decide) dL_law_1053 dL_law_1054 ?_ ?_
        · exact s_weak [0, 1, 2, 3] rfl (sm_Law_law_1208 C hV hR v0 v1 v2 v3 hX)
        · refine s_exit ?_
          refine s_iconst C (0 : Int32) (by decide) dL_law_1057 ?_
          exact s_iretz hR dL_law_1058
      | 28, hg =>
        cases hg
        refine ⟨1027, 1059, rfl, by decide, ?_⟩
        refine s_aload_n C rfl dL_law_1059 ?_
        refine s_aload_n C rfl dL_law_1060 ?_
        refine s_iload_n C rfl dL_law_1061 ?_
        refine s_iconst C (1 : Int32) (by decide) dL_law_1062 ?_
        refine s_iadd C dL_law_1063 ?_
        refine s_sld C hX dL_law_1064 (fun x137 => ?_)
        refine s_aload_n C rfl dL_law_1065 ?_
        refine s_iload_n C rfl dL_law_1066 ?_
        refine s_iconst C (2 : Int32) (by decide) dL_law_1067 ?_
        refine s_iadd C dL_law_1068 ?_
        refine s_sld C hX dL_law_1069 (fun x138 => ?_)
        refine s_wI C hV lv_L_140 (st := []) (met_Main_cost v1 x137 x138) rf_Law_law_Main_cost rfl rfl (Nat.le_of_ble_eq_true rfl) dL_law_1070 (fun r139 => ?_)
        refine s_aload_n C rfl dL_law_1073 ?_
        refine s_aload_n C rfl dL_law_1074 ?_
        refine s_iload_n C rfl dL_law_1075 ?_
        refine s_iconst C (1 : Int32) (by decide) dL_law_1076 ?_
        refine s_iadd C dL_law_1077 ?_
        refine s_sld C hX dL_law_1078 (fun x140 => ?_)
        refine s_aload_n C rfl dL_law_1079 ?_
        refine s_iload_n C rfl dL_law_1080 ?_
        refine s_iconst C (2 : Int32) (by decide) dL_law_1081 ?_
        refine s_iadd C dL_law_1082 ?_
        refine s_sld C hX dL_law_1083 (fun x141 => ?_)
        refine s_wI C hV lv_L_143 (st := [.int r139]) (met_Mod_cost v2 x140 x141) rf_Law_law_Mod_cost rfl rfl (Nat.le_of_ble_eq_true rfl) dL_law_1084 (fun r142 => ?_)
        refine s_icmp_eq C 1208 (by decide) dL_law_1087 ?_ ?_
        · exact s_weak [0, 1, 2, 3] rfl (sm_Law_law_1208 C hV hR v0 v1 v2 v3 hX)
        · refine s_exit ?_
          refine s_iconst C (0 : Int32) (by decide) dL_law_1090 ?_
          exact s_iretz hR dL_law_1091
      | 29, hg =>
        cases hg
        refine ⟨1060, 1092, rfl, by decide, ?_⟩
        refine s_aload_n C rfl dL_law_1092 ?_
        refine s_aload_n C rfl dL_law_1093 ?_
        refine s_iload_n C rfl dL_law_1094 ?_
        refine s_iconst C (1 : Int32) (by decide) dL_law_1095 ?_
        refine s_iadd C dL_law_1096 ?_
        refine s_sld C hX dL_law_1097 (fun x143 => ?_)
        refine s_wI C hV lv_L_144 (st := []) (met_Main_fewest v1 x143) rf_Law_law_Main_fewest rfl rfl (Nat.le_of_ble_eq_true rfl) dL_law_1098 (fun r144 => ?_)
        refine s_aload_n C rfl dL_law_1101 ?_
        refine s_aload_n C rfl dL_law_1102 ?_
        refine s_iload_n C rfl dL_law_1103 ?_
        refine s_iconst C (1 : Int32) (by decide) dL_law_1104 ?_
        refine s_iadd C dL_law_1105 ?_
        refine s_sld C hX dL_law_1106 (fun x145 => ?_)
        refine s_wI C hV lv_L_147 (st := [.int r144]) (met_Mod_fewest v2 x145) rf_Law_law_Mod_fewest rfl rfl (Nat.le_of_ble_eq_true rfl) dL_law_1107 (fun r146 => ?_)
        refine s_icmp_eq C 1208 (by decide) dL_law_1110 ?_ ?_
        · exact s_weak [0, 1, 2, 3] rfl (sm_Law_law_1208 C hV hR v0 v1 v2 v3 hX)
        · refine s_exit ?_
          refine s_iconst C (0 : Int32) (by decide) dL_law_1113 ?_
          exact s_iretz hR dL_law_1114
      | 30, hg =>
        cases hg
        refine ⟨1083, 1115, rfl, by decide, ?_⟩
        refine s_aload_n C rfl dL_law_1115 ?_
        refine s_wI C hV lv_L_148 (st := []) (met_Main_needless v1) rf_Law_law_Main_needless rfl rfl (Nat.le_of_ble_eq_true rfl) dL_law_1116 (fun r147 => ?_)
        refine s_aload_n C rfl dL_law_1119 ?_
        refine s_wI C hV lv_L_151 (st := [.int r147]) (met_Mod_needless v2) rf_Law_law_Mod_needless rfl rfl (Nat.le_of_ble_eq_true rfl) dL_law_1120 (fun r148 => ?_)
        refine s_icmp_eq C 1208 (by decide) dL_law_1123 ?_ ?_
        · exact s_weak [0, 1, 2, 3] rfl (sm_Law_law_1208 C hV hR v0 v1 v2 v3 hX)
        · refine s_exit ?_
          refine s_iconst C (0 : Int32) (by decide) dL_law_1126 ?_
          exact s_iretz hR dL_law_1127
      | 31, hg =>
        cases hg
        refine ⟨1096, 1128, rfl, by decide, ?_⟩
        refine s_aload_n C rfl dL_law_1128 ?_
        refine s_aload_n C rfl dL_law_1129 ?_
        refine s_iload_n C rfl dL_law_1130 ?_
        refine s_iconst C (1 : Int32) (by decide) dL_law_1131 ?_
        refine s_iadd C dL_law_1132 ?_
        refine s_sld C hX dL_law_1133 (fun x149 => ?_)
        refine s_aload_n C rfl dL_law_1134 ?_
        refine s_iload_n C rfl dL_law_1135 ?_
        refine s_iconst C (2 : Int32) (by decide) dL_law_1136 ?_
        refine s_iadd C dL_law_1137 ?_
        refine s_sld C hX dL_law_1138 (fun x150 => ?_)
        refine s_aload_n C rfl dL_law_1139 ?_
        refine s_iload_n C rfl dL_law_1140 ?_
        refine s_iconst C (3 : Int32) (by decide) dL_law_1141 ?_
        refine s_iadd C dL_law_1142 ?_
        refine s_sld C hX dL_law_1143 (fun x151 => ?_)
        refine s_wI C hV lv_L_152 (st := []) (met_Main_order v1 x149 x150 x151) rf_Law_law_Main_order rfl rfl (Nat.le_of_ble_eq_true rfl) dL_law_1144 (fun r152 => ?_)
        refine s_aload_n C rfl dL_law_1147 ?_
        refine s_aload_n C rfl dL_law_1148 ?_
        refine s_iload_n C rfl dL_law_1149 ?_
        refine s_iconst C (1 : Int32) (by decide) dL_law_1150 ?_
        refine s_iadd C dL_law_1151 ?_
        refine s_sld C hX dL_law_1152 (fun x153 => ?_)
        refine s_aload_n C rfl dL_law_1153 ?_
        refine s_iload_n C rfl dL_law_1154 ?_
        refine s_iconst C (2 : Int32) (by decide) dL_law_1155 ?_
        refine s_iadd C dL_law_1156 ?_
        refine s_sld C hX dL_law_1157 (fun x154 => ?_)
        refine s_aload_n C rfl dL_law_1158 ?_
        refine s_iload_n C rfl dL_law_1159 ?_
        refine s_iconst C (3 : Int32) (by decide) dL_law_1160 ?_
        refine s_iadd C dL_law_1161 ?_
        refine s_sld C hX dL_law_1162 (fun x155 => ?_)
        refine s_wI C hV lv_L_155 (st := [.int r152]) (met_Mod_order v2 x153 x154 x155) rf_Law_law_Mod_order rfl rfl (Nat.le_of_ble_eq_true rfl) dL_law_1163 (fun r156 => ?_)
        refine s_icmp_eq C 1208 (by decide) dL_law_1166 ?_ ?_
        · exact s_weak [0, 1, 2, 3] rfl (sm_Law_law_1208 C hV hR v0 v1 v2 v3 hX)
        · refine s_exit ?_
          refine s_iconst C (0 : Int32) (by decide) dL_law_1169 ?_
          exact s_iretz hR dL_law_1170
      | 32, hg =>
        cases hg
        refine ⟨1139, 1171, rfl, by decide, ?_⟩
        refine s_aload_n C rfl dL_law_1171 ?_
        refine s_aload_n C rfl dL_law_1172 ?_
        refine s_iload_n C rfl dL_law_1173 ?_
        refine s_iconst C (1 : Int32) (by decide) dL_law_1174 ?_
        refine s_iadd C dL_law_1175 ?_
        refine s_sld C hX dL_law_1176 (fun x157 => ?_)
        refine s_wI C hV lv_L_156 (st := []) (met_Main_count v1 x157) rf_Law_law_Main_count rfl rfl (Nat.le_of_ble_eq_true rfl) dL_law_1177 (fun r158 => ?_)
        refine s_aload_n C rfl dL_law_1180 ?_
        refine s_aload_n C rfl dL_law_1181 ?_
        refine s_iload_n C rfl dL_law_1182 ?_
        refine s_iconst C (1 : Int32) (by decide) dL_law_1183 ?_
        refine s_iadd C dL_law_1184 ?_
        refine s_sld C hX dL_law_1185 (fun x159 => ?_)
        refine s_wI C hV lv_L_159 (st := [.int r158]) (met_Mod_count v2 x159) rf_Law_law_Mod_count rfl rfl (Nat.le_of_ble_eq_true rfl) dL_law_1186 (fun r160 => ?_)
        refine s_icmp_eq C 1208 (by decide) dL_law_1189 ?_ ?_
        · exact s_weak [0, 1, 2, 3] rfl (sm_Law_law_1208 C hV hR v0 v1 v2 v3 hX)
        · refine s_exit ?_
          refine s_iconst C (0 : Int32) (by decide) dL_law_1192 ?_
          exact s_iretz hR dL_law_1193
      | 33, hg =>
        cases hg
        refine ⟨1162, 1194, rfl, by decide, ?_⟩
        refine s_aload_n C rfl dL_law_1194 ?_
        refine s_wL C hV lv_L_160 (st := []) (met_Main_digest v1) rf_Law_law_Main_digest rfl rfl (Nat.le_of_ble_eq_true rfl) dL_law_1195 (fun r161 => ?_)
        refine s_aload_n C rfl dL_law_1198 ?_
        refine s_wL C hV lv_L_163 (st := [.long r161]) (met_Mod_digest v2) rf_Law_law_Mod_digest rfl rfl (Nat.le_of_ble_eq_true rfl) dL_law_1199 (fun r162 => ?_)
        refine s_lcmp_eq C 1208 (by decide) dL_law_1202 dL_law_1203 ?_ ?_
        · exact s_weak [0, 1, 2, 3] rfl (sm_Law_law_1208 C hV hR v0 v1 v2 v3 hX)
        · refine s_exit ?_
          refine s_iconst C (0 : Int32) (by decide) dL_law_1206 ?_
          exact s_iretz hR dL_law_1207
      | i + 34, hg => cases hg
set_option maxRecDepth 20000 in
set_option maxHeartbeats 4000000 in
theorem sm_Law_law_18 {G : GT} {ad : Nat → Nat} {K : Int32 → Dm → Prop} {xs : Nat → Int32} {Ln : Nat} (C : Cx G room_1 cL_law 4 RL) (hV : Vx G room_1 ad ZF (88, 51751)) (hR : RtI G room_1 ad ZF (88, 51751) cL_law .boolean K) (v0 : Nat) (v1 : Nat) (v2 : Nat) (s : Int32) (hX : SX G ad v0 xs Ln) : Sm G room_1 ad ZF (88, 51751) K 18 ((fun (s : Int32) => [(0, .ref v0), (1, .ref v1), (2, .ref v2), (3, .int s)]) s) [] (Law_law_18 xs Ln v0 v1 v2 s) :=
  s_loop (en := (fun (s : Int32) => [(0, .ref v0), (1, .ref v1), (2, .ref v2), (3, .int s)])) (fun s => sm_Law_law_18_b C hV hR v0 v1 v2 s hX) s
