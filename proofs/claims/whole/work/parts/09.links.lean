/-! ===== the static shape; what the tables say of fields and calls (by program) ===== -/
def kfl : List Nat := [0, 11, 10, 6, 26, 1, 1, 1, 1, 1, 1, 1, 1, 1, 1, 1, 1, 8, 27, 23, 9, 23, 9, 23, 9, 23, 9, 23, 9, 23, 9, 23, 3, 27, 23, 9, 23, 9, 23, 9, 23, 9, 23, 9, 23, 9, 23, 9, 23, 9, 23, 23, 4, 22, 7, 9, 23, 22, 2, 24, 23, 5, 23, 23, 23, 12, 23, 23, 23, 21, 21, 23, 25, 21, 23, 23, 25, 25, 25, 24, 24, 23, 23, 25, 23, 23, 23, 23, 23]
def lfl : List Nat := [0, 0, 0, 0, 12, 0, 0, 0, 0, 0, 0, 0, 0, 0, 0, 0, 0, 0, 6, 8, 0, 60, 0, 60, 0, 60, 0, 60, 0, 60, 0, 60, 0, 8, 8, 0, 60, 0, 60, 0, 60, 0, 60, 0, 60, 0, 60, 0, 60, 0, 60, 4096, 0, 60, 0, 0, 60, 60, 0, 4096, 4096, 0, 81, 8, 8, 0, 8, 12, 48, 60, 360, 6, 6, 480, 8, 8, 61, 61, 61, 4096, 4096, 4096, 4096, 4096, 12, 12, 26, 8192, 8192]
def ZF : Zt := (88, fun a => kfl.getD a 0, fun a => lfl.getD a 0)
theorem uw_0 : ∀ w ∈ u_ws RX0 TX0 5, w ∈ TT := by
  intro w hw
  refine List.mem_filter.mpr ⟨?_, ?_⟩
  · revert w hw
    decide +kernel
  · revert w hw
    decide +kernel
theorem cf_0 : CF 0 RX0 TX0 5 := ⟨rfl, rfl, uw_0, tyX0_ok, nmX0, by decide⟩
theorem uw_1 : ∀ w ∈ u_ws RX1 TX1 4, w ∈ TT := by
  intro w hw
  refine List.mem_filter.mpr ⟨?_, ?_⟩
  · revert w hw
    decide +kernel
  · revert w hw
    decide +kernel
theorem cf_1 : CF 1 RX1 TX1 4 := ⟨rfl, rfl, uw_1, tyX1_ok, nmX1, by decide⟩
theorem uw_2 : ∀ w ∈ u_ws RX2 TX2 3, w ∈ TT := by
  intro w hw
  refine List.mem_filter.mpr ⟨?_, ?_⟩
  · revert w hw
    decide +kernel
  · revert w hw
    decide +kernel
theorem cf_2 : CF 2 RX2 TX2 3 := ⟨rfl, rfl, uw_2, tyX2_ok, nmX2, by decide⟩
theorem uw_3 : ∀ w ∈ u_ws RX3 TX3 2, w ∈ TT := by
  intro w hw
  refine List.mem_filter.mpr ⟨?_, ?_⟩
  · revert w hw
    decide +kernel
  · revert w hw
    decide +kernel
theorem cf_3 : CF 3 RX3 TX3 2 := ⟨rfl, rfl, uw_3, tyX3_ok, nmX3, by decide⟩
theorem uw_4 : ∀ w ∈ u_ws RX4 TX4 6, w ∈ TT := by
  intro w hw
  refine List.mem_filter.mpr ⟨?_, ?_⟩
  · revert w hw
    decide +kernel
  · revert w hw
    decide +kernel
theorem cf_4 : CF 4 RX4 TX4 6 := ⟨rfl, rfl, uw_4, tyX4_ok, nmX4, by decide⟩
theorem uw_5 : ∀ w ∈ u_ws RX5 TX5 3, w ∈ TT := by
  intro w hw
  refine List.mem_filter.mpr ⟨?_, ?_⟩
  · revert w hw
    decide +kernel
  · revert w hw
    decide +kernel
theorem cf_5 : CF 5 RX5 TX5 3 := ⟨rfl, rfl, uw_5, tyX5_ok, nmX5, by decide⟩
theorem uw_6 : ∀ w ∈ u_ws RX6 TX6 9, w ∈ TT := by
  intro w hw
  refine List.mem_filter.mpr ⟨?_, ?_⟩
  · revert w hw
    decide +kernel
  · revert w hw
    decide +kernel
theorem cf_6 : CF 6 RX6 TX6 9 := ⟨rfl, rfl, uw_6, tyX6_ok, nmX6, by decide⟩
theorem uw_7 : ∀ w ∈ u_ws RX7 TX7 4, w ∈ TT := by
  intro w hw
  refine List.mem_filter.mpr ⟨?_, ?_⟩
  · revert w hw
    decide +kernel
  · revert w hw
    decide +kernel
theorem cf_7 : CF 7 RX7 TX7 4 := ⟨rfl, rfl, uw_7, tyX7_ok, nmX7, by decide⟩
theorem uw_8 : ∀ w ∈ u_ws RX8 TX8 4, w ∈ TT := by
  intro w hw
  refine List.mem_filter.mpr ⟨?_, ?_⟩
  · revert w hw
    decide +kernel
  · revert w hw
    decide +kernel
theorem cf_8 : CF 8 RX8 TX8 4 := ⟨rfl, rfl, uw_8, tyX8_ok, nmX8, by decide⟩
theorem uw_9 : ∀ w ∈ u_ws RX9 TX9 5, w ∈ TT := by
  intro w hw
  refine List.mem_filter.mpr ⟨?_, ?_⟩
  · revert w hw
    decide +kernel
  · revert w hw
    decide +kernel
theorem cf_9 : CF 9 RX9 TX9 5 := ⟨rfl, rfl, uw_9, tyX9_ok, nmX9, by decide⟩
theorem uw_10 : ∀ w ∈ u_ws RX10 TX10 11, w ∈ TT := by
  intro w hw
  refine List.mem_filter.mpr ⟨?_, ?_⟩
  · revert w hw
    decide +kernel
  · revert w hw
    decide +kernel
theorem cf_10 : CF 10 RX10 TX10 11 := ⟨rfl, rfl, uw_10, tyX10_ok, nmX10, by decide⟩
theorem uw_11 : ∀ w ∈ u_ws RX11 TX11 44, w ∈ TT := by
  intro w hw
  refine List.mem_filter.mpr ⟨?_, ?_⟩
  · revert w hw
    decide +kernel
  · revert w hw
    decide +kernel
theorem cf_11 : CF 11 RX11 TX11 44 := ⟨rfl, rfl, uw_11, tyX11_ok, nmX11, by decide⟩
theorem fl_X0_15 : FL RX0 15 0 1 := ⟨_, _, _, cf_0, by decide, tt_at (w := Cond.fieldLink RX0 15 (TX0 1).1 (TX0 1).2.1 (TX0 1).2.2.1) 115 (by decide +kernel) (by decide +kernel)⟩
theorem fl_X0_18 : FL RX0 18 0 2 := ⟨_, _, _, cf_0, by decide, tt_at (w := Cond.fieldLink RX0 18 (TX0 2).1 (TX0 2).2.1 (TX0 2).2.2.1) 119 (by decide +kernel) (by decide +kernel)⟩
theorem fl_X0_21 : FL RX0 21 0 3 := ⟨_, _, _, cf_0, by decide, tt_at (w := Cond.fieldLink RX0 21 (TX0 3).1 (TX0 3).2.1 (TX0 3).2.2.1) 120 (by decide +kernel) (by decide +kernel)⟩
theorem fl_X0_24 : FL RX0 24 0 4 := ⟨_, _, _, cf_0, by decide, tt_at (w := Cond.fieldLink RX0 24 (TX0 4).1 (TX0 4).2.1 (TX0 4).2.2.1) 121 (by decide +kernel) (by decide +kernel)⟩
theorem fl_X0_9 : FL RX0 9 0 0 := ⟨_, _, _, cf_0, by decide, tt_at (w := Cond.fieldLink RX0 9 (TX0 0).1 (TX0 0).2.1 (TX0 0).2.2.1) 110 (by decide +kernel) (by decide +kernel)⟩
theorem fl_X1_15 : FL RX1 15 1 1 := ⟨_, _, _, cf_1, by decide, tt_at (w := Cond.fieldLink RX1 15 (TX1 1).1 (TX1 1).2.1 (TX1 1).2.2.1) 300 (by decide +kernel) (by decide +kernel)⟩
theorem fl_X1_19 : FL RX1 19 1 2 := ⟨_, _, _, cf_1, by decide, tt_at (w := Cond.fieldLink RX1 19 (TX1 2).1 (TX1 2).2.1 (TX1 2).2.2.1) 302 (by decide +kernel) (by decide +kernel)⟩
theorem fl_X1_23 : FL RX1 23 1 3 := ⟨_, _, _, cf_1, by decide, tt_at (w := Cond.fieldLink RX1 23 (TX1 3).1 (TX1 3).2.1 (TX1 3).2.2.1) 304 (by decide +kernel) (by decide +kernel)⟩
theorem fl_X1_50 : FL RX1 50 5 0 := ⟨_, _, _, cf_5, by decide, tt_at (w := Cond.fieldLink RX1 50 (TX5 0).1 (TX5 0).2.1 (TX5 0).2.2.1) 135 (by decide +kernel) (by decide +kernel)⟩
theorem fl_X1_64 : FL RX1 64 0 0 := ⟨_, _, _, cf_0, by decide, tt_at (w := Cond.fieldLink RX1 64 (TX0 0).1 (TX0 0).2.1 (TX0 0).2.2.1) 111 (by decide +kernel) (by decide +kernel)⟩
theorem fl_X1_9 : FL RX1 9 1 0 := ⟨_, _, _, cf_1, by decide, tt_at (w := Cond.fieldLink RX1 9 (TX1 0).1 (TX1 0).2.1 (TX1 0).2.2.1) 298 (by decide +kernel) (by decide +kernel)⟩
theorem fl_X10_102 : FL RX10 102 5 1 := ⟨_, _, _, cf_5, by decide, tt_at (w := Cond.fieldLink RX10 102 (TX5 1).1 (TX5 1).2.1 (TX5 1).2.2.1) 141 (by decide +kernel) (by decide +kernel)⟩
theorem fl_X10_110 : FL RX10 110 5 0 := ⟨_, _, _, cf_5, by decide, tt_at (w := Cond.fieldLink RX10 110 (TX5 0).1 (TX5 0).2.1 (TX5 0).2.2.1) 137 (by decide +kernel) (by decide +kernel)⟩
theorem fl_X10_12 : FL RX10 12 10 0 := ⟨_, _, _, cf_10, by decide, tt_at (w := Cond.fieldLink RX10 12 (TX10 0).1 (TX10 0).2.1 (TX10 0).2.2.1) 342 (by decide +kernel) (by decide +kernel)⟩
theorem fl_X10_140 : FL RX10 140 3 1 := ⟨_, _, _, cf_3, by decide, tt_at (w := Cond.fieldLink RX10 140 (TX3 1).1 (TX3 1).2.1 (TX3 1).2.2.1) 248 (by decide +kernel) (by decide +kernel)⟩
theorem fl_X10_153 : FL RX10 153 7 1 := ⟨_, _, _, cf_7, by decide, tt_at (w := Cond.fieldLink RX10 153 (TX7 1).1 (TX7 1).2.1 (TX7 1).2.2.1) 183 (by decide +kernel) (by decide +kernel)⟩
theorem fl_X10_154 : FL RX10 154 7 0 := ⟨_, _, _, cf_7, by decide, tt_at (w := Cond.fieldLink RX10 154 (TX7 0).1 (TX7 0).2.1 (TX7 0).2.2.1) 181 (by decide +kernel) (by decide +kernel)⟩
theorem fl_X10_158 : FL RX10 158 6 0 := ⟨_, _, _, cf_6, by decide, tt_at (w := Cond.fieldLink RX10 158 (TX6 0).1 (TX6 0).2.1 (TX6 0).2.2.1) 264 (by decide +kernel) (by decide +kernel)⟩
theorem fl_X10_171 : FL RX10 171 2 1 := ⟨_, _, _, cf_2, by decide, tt_at (w := Cond.fieldLink RX10 171 (TX2 1).1 (TX2 1).2.1 (TX2 1).2.2.1) 209 (by decide +kernel) (by decide +kernel)⟩
theorem fl_X10_174 : FL RX10 174 2 0 := ⟨_, _, _, cf_2, by decide, tt_at (w := Cond.fieldLink RX10 174 (TX2 0).1 (TX2 0).2.1 (TX2 0).2.2.1) 206 (by decide +kernel) (by decide +kernel)⟩
theorem fl_X10_177 : FL RX10 177 7 2 := ⟨_, _, _, cf_7, by decide, tt_at (w := Cond.fieldLink RX10 177 (TX7 2).1 (TX7 2).2.1 (TX7 2).2.2.1) 186 (by decide +kernel) (by decide +kernel)⟩
theorem fl_X10_197 : FL RX10 197 1 2 := ⟨_, _, _, cf_1, by decide, tt_at (w := Cond.fieldLink RX10 197 (TX1 2).1 (TX1 2).2.1 (TX1 2).2.2.1) 303 (by decide +kernel) (by decide +kernel)⟩
theorem fl_X10_20 : FL RX10 20 10 1 := ⟨_, _, _, cf_10, by decide, tt_at (w := Cond.fieldLink RX10 20 (TX10 1).1 (TX10 1).2.1 (TX10 1).2.2.1) 343 (by decide +kernel) (by decide +kernel)⟩
theorem fl_X10_200 : FL RX10 200 1 0 := ⟨_, _, _, cf_1, by decide, tt_at (w := Cond.fieldLink RX10 200 (TX1 0).1 (TX1 0).2.1 (TX1 0).2.2.1) 299 (by decide +kernel) (by decide +kernel)⟩
theorem fl_X10_216 : FL RX10 216 1 1 := ⟨_, _, _, cf_1, by decide, tt_at (w := Cond.fieldLink RX10 216 (TX1 1).1 (TX1 1).2.1 (TX1 1).2.2.1) 301 (by decide +kernel) (by decide +kernel)⟩
theorem fl_X10_25 : FL RX10 25 10 2 := ⟨_, _, _, cf_10, by decide, tt_at (w := Cond.fieldLink RX10 25 (TX10 2).1 (TX10 2).2.1 (TX10 2).2.2.1) 344 (by decide +kernel) (by decide +kernel)⟩
theorem fl_X10_252 : FL RX10 252 4 4 := ⟨_, _, _, cf_4, by decide, tt_at (w := Cond.fieldLink RX10 252 (TX4 4).1 (TX4 4).2.1 (TX4 4).2.2.1) 326 (by decide +kernel) (by decide +kernel)⟩
theorem fl_X10_255 : FL RX10 255 4 5 := ⟨_, _, _, cf_4, by decide, tt_at (w := Cond.fieldLink RX10 255 (TX4 5).1 (TX4 5).2.1 (TX4 5).2.2.1) 328 (by decide +kernel) (by decide +kernel)⟩
theorem fl_X10_293 : FL RX10 293 3 0 := ⟨_, _, _, cf_3, by decide, tt_at (w := Cond.fieldLink RX10 293 (TX3 0).1 (TX3 0).2.1 (TX3 0).2.2.1) 245 (by decide +kernel) (by decide +kernel)⟩
theorem fl_X10_30 : FL RX10 30 10 3 := ⟨_, _, _, cf_10, by decide, tt_at (w := Cond.fieldLink RX10 30 (TX10 3).1 (TX10 3).2.1 (TX10 3).2.2.1) 345 (by decide +kernel) (by decide +kernel)⟩
theorem fl_X10_34 : FL RX10 34 10 4 := ⟨_, _, _, cf_10, by decide, tt_at (w := Cond.fieldLink RX10 34 (TX10 4).1 (TX10 4).2.1 (TX10 4).2.2.1) 346 (by decide +kernel) (by decide +kernel)⟩
theorem fl_X10_41 : FL RX10 41 10 5 := ⟨_, _, _, cf_10, by decide, tt_at (w := Cond.fieldLink RX10 41 (TX10 5).1 (TX10 5).2.1 (TX10 5).2.2.1) 347 (by decide +kernel) (by decide +kernel)⟩
theorem fl_X10_48 : FL RX10 48 10 6 := ⟨_, _, _, cf_10, by decide, tt_at (w := Cond.fieldLink RX10 48 (TX10 6).1 (TX10 6).2.1 (TX10 6).2.2.1) 348 (by decide +kernel) (by decide +kernel)⟩
theorem fl_X10_55 : FL RX10 55 10 7 := ⟨_, _, _, cf_10, by decide, tt_at (w := Cond.fieldLink RX10 55 (TX10 7).1 (TX10 7).2.1 (TX10 7).2.2.1) 349 (by decide +kernel) (by decide +kernel)⟩
theorem fl_X10_59 : FL RX10 59 10 8 := ⟨_, _, _, cf_10, by decide, tt_at (w := Cond.fieldLink RX10 59 (TX10 8).1 (TX10 8).2.1 (TX10 8).2.2.1) 350 (by decide +kernel) (by decide +kernel)⟩
theorem fl_X10_63 : FL RX10 63 10 9 := ⟨_, _, _, cf_10, by decide, tt_at (w := Cond.fieldLink RX10 63 (TX10 9).1 (TX10 9).2.1 (TX10 9).2.2.1) 351 (by decide +kernel) (by decide +kernel)⟩
theorem fl_X10_66 : FL RX10 66 10 10 := ⟨_, _, _, cf_10, by decide, tt_at (w := Cond.fieldLink RX10 66 (TX10 10).1 (TX10 10).2.1 (TX10 10).2.2.1) 352 (by decide +kernel) (by decide +kernel)⟩
theorem fl_X10_76 : FL RX10 76 5 2 := ⟨_, _, _, cf_5, by decide, tt_at (w := Cond.fieldLink RX10 76 (TX5 2).1 (TX5 2).2.1 (TX5 2).2.2.1) 143 (by decide +kernel) (by decide +kernel)⟩
theorem fl_X11_100 : FL RX11 100 11 27 := ⟨_, _, _, cf_11, by decide, tt_at (w := Cond.fieldLink RX11 100 (TX11 27).1 (TX11 27).2.1 (TX11 27).2.2.1) 931 (by decide +kernel) (by decide +kernel)⟩
theorem fl_X11_104 : FL RX11 104 11 1 := ⟨_, _, _, cf_11, by decide, tt_at (w := Cond.fieldLink RX11 104 (TX11 1).1 (TX11 1).2.1 (TX11 1).2.2.1) 905 (by decide +kernel) (by decide +kernel)⟩
theorem fl_X11_111 : FL RX11 111 11 6 := ⟨_, _, _, cf_11, by decide, tt_at (w := Cond.fieldLink RX11 111 (TX11 6).1 (TX11 6).2.1 (TX11 6).2.2.1) 910 (by decide +kernel) (by decide +kernel)⟩
theorem fl_X11_13 : FL RX11 13 11 2 := ⟨_, _, _, cf_11, by decide, tt_at (w := Cond.fieldLink RX11 13 (TX11 2).1 (TX11 2).2.1 (TX11 2).2.2.1) 906 (by decide +kernel) (by decide +kernel)⟩
theorem fl_X11_133 : FL RX11 133 11 4 := ⟨_, _, _, cf_11, by decide, tt_at (w := Cond.fieldLink RX11 133 (TX11 4).1 (TX11 4).2.1 (TX11 4).2.2.1) 908 (by decide +kernel) (by decide +kernel)⟩
theorem fl_X11_149 : FL RX11 149 11 17 := ⟨_, _, _, cf_11, by decide, tt_at (w := Cond.fieldLink RX11 149 (TX11 17).1 (TX11 17).2.1 (TX11 17).2.2.1) 921 (by decide +kernel) (by decide +kernel)⟩
theorem fl_X11_152 : FL RX11 152 11 18 := ⟨_, _, _, cf_11, by decide, tt_at (w := Cond.fieldLink RX11 152 (TX11 18).1 (TX11 18).2.1 (TX11 18).2.2.1) 922 (by decide +kernel) (by decide +kernel)⟩
theorem fl_X11_159 : FL RX11 159 11 10 := ⟨_, _, _, cf_11, by decide, tt_at (w := Cond.fieldLink RX11 159 (TX11 10).1 (TX11 10).2.1 (TX11 10).2.2.1) 914 (by decide +kernel) (by decide +kernel)⟩
theorem fl_X11_16 : FL RX11 16 11 3 := ⟨_, _, _, cf_11, by decide, tt_at (w := Cond.fieldLink RX11 16 (TX11 3).1 (TX11 3).2.1 (TX11 3).2.2.1) 907 (by decide +kernel) (by decide +kernel)⟩
theorem fl_X11_162 : FL RX11 162 11 21 := ⟨_, _, _, cf_11, by decide, tt_at (w := Cond.fieldLink RX11 162 (TX11 21).1 (TX11 21).2.1 (TX11 21).2.2.1) 925 (by decide +kernel) (by decide +kernel)⟩
theorem fl_X11_165 : FL RX11 165 11 22 := ⟨_, _, _, cf_11, by decide, tt_at (w := Cond.fieldLink RX11 165 (TX11 22).1 (TX11 22).2.1 (TX11 22).2.2.1) 926 (by decide +kernel) (by decide +kernel)⟩
theorem fl_X11_168 : FL RX11 168 11 19 := ⟨_, _, _, cf_11, by decide, tt_at (w := Cond.fieldLink RX11 168 (TX11 19).1 (TX11 19).2.1 (TX11 19).2.2.1) 923 (by decide +kernel) (by decide +kernel)⟩
theorem fl_X11_171 : FL RX11 171 11 20 := ⟨_, _, _, cf_11, by decide, tt_at (w := Cond.fieldLink RX11 171 (TX11 20).1 (TX11 20).2.1 (TX11 20).2.2.1) 924 (by decide +kernel) (by decide +kernel)⟩
theorem fl_X11_178 : FL RX11 178 11 26 := ⟨_, _, _, cf_11, by decide, tt_at (w := Cond.fieldLink RX11 178 (TX11 26).1 (TX11 26).2.1 (TX11 26).2.2.1) 930 (by decide +kernel) (by decide +kernel)⟩
theorem fl_X11_19 : FL RX11 19 11 5 := ⟨_, _, _, cf_11, by decide, tt_at (w := Cond.fieldLink RX11 19 (TX11 5).1 (TX11 5).2.1 (TX11 5).2.2.1) 909 (by decide +kernel) (by decide +kernel)⟩
theorem fl_X11_226 : FL RX11 226 11 34 := ⟨_, _, _, cf_11, by decide, tt_at (w := Cond.fieldLink RX11 226 (TX11 34).1 (TX11 34).2.1 (TX11 34).2.2.1) 938 (by decide +kernel) (by decide +kernel)⟩
theorem fl_X11_23 : FL RX11 23 11 7 := ⟨_, _, _, cf_11, by decide, tt_at (w := Cond.fieldLink RX11 23 (TX11 7).1 (TX11 7).2.1 (TX11 7).2.2.1) 911 (by decide +kernel) (by decide +kernel)⟩
theorem fl_X11_235 : FL RX11 235 11 38 := ⟨_, _, _, cf_11, by decide, tt_at (w := Cond.fieldLink RX11 235 (TX11 38).1 (TX11 38).2.1 (TX11 38).2.2.1) 942 (by decide +kernel) (by decide +kernel)⟩
theorem fl_X11_238 : FL RX11 238 11 37 := ⟨_, _, _, cf_11, by decide, tt_at (w := Cond.fieldLink RX11 238 (TX11 37).1 (TX11 37).2.1 (TX11 37).2.2.1) 941 (by decide +kernel) (by decide +kernel)⟩
theorem fl_X11_248 : FL RX11 248 11 40 := ⟨_, _, _, cf_11, by decide, tt_at (w := Cond.fieldLink RX11 248 (TX11 40).1 (TX11 40).2.1 (TX11 40).2.2.1) 944 (by decide +kernel) (by decide +kernel)⟩
theorem fl_X11_26 : FL RX11 26 11 8 := ⟨_, _, _, cf_11, by decide, tt_at (w := Cond.fieldLink RX11 26 (TX11 8).1 (TX11 8).2.1 (TX11 8).2.2.1) 912 (by decide +kernel) (by decide +kernel)⟩
theorem fl_X11_270 : FL RX11 270 11 42 := ⟨_, _, _, cf_11, by decide, tt_at (w := Cond.fieldLink RX11 270 (TX11 42).1 (TX11 42).2.1 (TX11 42).2.2.1) 946 (by decide +kernel) (by decide +kernel)⟩
theorem fl_X11_282 : FL RX11 282 11 15 := ⟨_, _, _, cf_11, by decide, tt_at (w := Cond.fieldLink RX11 282 (TX11 15).1 (TX11 15).2.1 (TX11 15).2.2.1) 919 (by decide +kernel) (by decide +kernel)⟩
theorem fl_X11_29 : FL RX11 29 11 9 := ⟨_, _, _, cf_11, by decide, tt_at (w := Cond.fieldLink RX11 29 (TX11 9).1 (TX11 9).2.1 (TX11 9).2.2.1) 913 (by decide +kernel) (by decide +kernel)⟩
theorem fl_X11_307 : FL RX11 307 11 43 := ⟨_, _, _, cf_11, by decide, tt_at (w := Cond.fieldLink RX11 307 (TX11 43).1 (TX11 43).2.1 (TX11 43).2.2.1) 947 (by decide +kernel) (by decide +kernel)⟩
theorem fl_X11_33 : FL RX11 33 11 11 := ⟨_, _, _, cf_11, by decide, tt_at (w := Cond.fieldLink RX11 33 (TX11 11).1 (TX11 11).2.1 (TX11 11).2.2.1) 915 (by decide +kernel) (by decide +kernel)⟩
theorem fl_X11_36 : FL RX11 36 11 12 := ⟨_, _, _, cf_11, by decide, tt_at (w := Cond.fieldLink RX11 36 (TX11 12).1 (TX11 12).2.1 (TX11 12).2.2.1) 916 (by decide +kernel) (by decide +kernel)⟩
theorem fl_X11_39 : FL RX11 39 11 13 := ⟨_, _, _, cf_11, by decide, tt_at (w := Cond.fieldLink RX11 39 (TX11 13).1 (TX11 13).2.1 (TX11 13).2.2.1) 917 (by decide +kernel) (by decide +kernel)⟩
theorem fl_X11_43 : FL RX11 43 11 14 := ⟨_, _, _, cf_11, by decide, tt_at (w := Cond.fieldLink RX11 43 (TX11 14).1 (TX11 14).2.1 (TX11 14).2.2.1) 918 (by decide +kernel) (by decide +kernel)⟩
theorem fl_X11_46 : FL RX11 46 11 16 := ⟨_, _, _, cf_11, by decide, tt_at (w := Cond.fieldLink RX11 46 (TX11 16).1 (TX11 16).2.1 (TX11 16).2.2.1) 920 (by decide +kernel) (by decide +kernel)⟩
theorem fl_X11_49 : FL RX11 49 11 23 := ⟨_, _, _, cf_11, by decide, tt_at (w := Cond.fieldLink RX11 49 (TX11 23).1 (TX11 23).2.1 (TX11 23).2.2.1) 927 (by decide +kernel) (by decide +kernel)⟩
theorem fl_X11_52 : FL RX11 52 11 24 := ⟨_, _, _, cf_11, by decide, tt_at (w := Cond.fieldLink RX11 52 (TX11 24).1 (TX11 24).2.1 (TX11 24).2.2.1) 928 (by decide +kernel) (by decide +kernel)⟩
theorem fl_X11_55 : FL RX11 55 11 25 := ⟨_, _, _, cf_11, by decide, tt_at (w := Cond.fieldLink RX11 55 (TX11 25).1 (TX11 25).2.1 (TX11 25).2.2.1) 929 (by decide +kernel) (by decide +kernel)⟩
theorem fl_X11_58 : FL RX11 58 11 28 := ⟨_, _, _, cf_11, by decide, tt_at (w := Cond.fieldLink RX11 58 (TX11 28).1 (TX11 28).2.1 (TX11 28).2.2.1) 932 (by decide +kernel) (by decide +kernel)⟩
theorem fl_X11_62 : FL RX11 62 11 29 := ⟨_, _, _, cf_11, by decide, tt_at (w := Cond.fieldLink RX11 62 (TX11 29).1 (TX11 29).2.1 (TX11 29).2.2.1) 933 (by decide +kernel) (by decide +kernel)⟩
theorem fl_X11_65 : FL RX11 65 11 30 := ⟨_, _, _, cf_11, by decide, tt_at (w := Cond.fieldLink RX11 65 (TX11 30).1 (TX11 30).2.1 (TX11 30).2.2.1) 934 (by decide +kernel) (by decide +kernel)⟩
theorem fl_X11_68 : FL RX11 68 11 31 := ⟨_, _, _, cf_11, by decide, tt_at (w := Cond.fieldLink RX11 68 (TX11 31).1 (TX11 31).2.1 (TX11 31).2.2.1) 935 (by decide +kernel) (by decide +kernel)⟩
theorem fl_X11_7 : FL RX11 7 11 0 := ⟨_, _, _, cf_11, by decide, tt_at (w := Cond.fieldLink RX11 7 (TX11 0).1 (TX11 0).2.1 (TX11 0).2.2.1) 904 (by decide +kernel) (by decide +kernel)⟩
theorem fl_X11_71 : FL RX11 71 11 32 := ⟨_, _, _, cf_11, by decide, tt_at (w := Cond.fieldLink RX11 71 (TX11 32).1 (TX11 32).2.1 (TX11 32).2.2.1) 936 (by decide +kernel) (by decide +kernel)⟩
theorem fl_X11_74 : FL RX11 74 11 33 := ⟨_, _, _, cf_11, by decide, tt_at (w := Cond.fieldLink RX11 74 (TX11 33).1 (TX11 33).2.1 (TX11 33).2.2.1) 937 (by decide +kernel) (by decide +kernel)⟩
theorem fl_X11_77 : FL RX11 77 11 35 := ⟨_, _, _, cf_11, by decide, tt_at (w := Cond.fieldLink RX11 77 (TX11 35).1 (TX11 35).2.1 (TX11 35).2.2.1) 939 (by decide +kernel) (by decide +kernel)⟩
theorem fl_X11_80 : FL RX11 80 11 36 := ⟨_, _, _, cf_11, by decide, tt_at (w := Cond.fieldLink RX11 80 (TX11 36).1 (TX11 36).2.1 (TX11 36).2.2.1) 940 (by decide +kernel) (by decide +kernel)⟩
theorem fl_X11_83 : FL RX11 83 11 39 := ⟨_, _, _, cf_11, by decide, tt_at (w := Cond.fieldLink RX11 83 (TX11 39).1 (TX11 39).2.1 (TX11 39).2.2.1) 943 (by decide +kernel) (by decide +kernel)⟩
theorem fl_X11_86 : FL RX11 86 11 41 := ⟨_, _, _, cf_11, by decide, tt_at (w := Cond.fieldLink RX11 86 (TX11 41).1 (TX11 41).2.1 (TX11 41).2.2.1) 945 (by decide +kernel) (by decide +kernel)⟩
theorem fl_X2_11 : FL RX2 11 2 0 := ⟨_, _, _, cf_2, by decide, tt_at (w := Cond.fieldLink RX2 11 (TX2 0).1 (TX2 0).2.1 (TX2 0).2.2.1) 205 (by decide +kernel) (by decide +kernel)⟩
theorem fl_X2_17 : FL RX2 17 2 1 := ⟨_, _, _, cf_2, by decide, tt_at (w := Cond.fieldLink RX2 17 (TX2 1).1 (TX2 1).2.1 (TX2 1).2.2.1) 207 (by decide +kernel) (by decide +kernel)⟩
theorem fl_X2_21 : FL RX2 21 2 2 := ⟨_, _, _, cf_2, by decide, tt_at (w := Cond.fieldLink RX2 21 (TX2 2).1 (TX2 2).2.1 (TX2 2).2.2.1) 210 (by decide +kernel) (by decide +kernel)⟩
theorem fl_X2_38 : FL RX2 38 8 3 := ⟨_, _, _, cf_8, by decide, tt_at (w := Cond.fieldLink RX2 38 (TX8 3).1 (TX8 3).2.1 (TX8 3).2.2.1) 168 (by decide +kernel) (by decide +kernel)⟩
theorem fl_X3_15 : FL RX3 15 3 1 := ⟨_, _, _, cf_3, by decide, tt_at (w := Cond.fieldLink RX3 15 (TX3 1).1 (TX3 1).2.1 (TX3 1).2.2.1) 246 (by decide +kernel) (by decide +kernel)⟩
theorem fl_X3_9 : FL RX3 9 3 0 := ⟨_, _, _, cf_3, by decide, tt_at (w := Cond.fieldLink RX3 9 (TX3 0).1 (TX3 0).2.1 (TX3 0).2.2.1) 243 (by decide +kernel) (by decide +kernel)⟩
theorem fl_X4_11 : FL RX4 11 4 0 := ⟨_, _, _, cf_4, by decide, tt_at (w := Cond.fieldLink RX4 11 (TX4 0).1 (TX4 0).2.1 (TX4 0).2.2.1) 321 (by decide +kernel) (by decide +kernel)⟩
theorem fl_X4_15 : FL RX4 15 4 1 := ⟨_, _, _, cf_4, by decide, tt_at (w := Cond.fieldLink RX4 15 (TX4 1).1 (TX4 1).2.1 (TX4 1).2.2.1) 322 (by decide +kernel) (by decide +kernel)⟩
theorem fl_X4_18 : FL RX4 18 4 2 := ⟨_, _, _, cf_4, by decide, tt_at (w := Cond.fieldLink RX4 18 (TX4 2).1 (TX4 2).2.1 (TX4 2).2.2.1) 323 (by decide +kernel) (by decide +kernel)⟩
theorem fl_X4_21 : FL RX4 21 4 3 := ⟨_, _, _, cf_4, by decide, tt_at (w := Cond.fieldLink RX4 21 (TX4 3).1 (TX4 3).2.1 (TX4 3).2.2.1) 324 (by decide +kernel) (by decide +kernel)⟩
theorem fl_X4_25 : FL RX4 25 4 4 := ⟨_, _, _, cf_4, by decide, tt_at (w := Cond.fieldLink RX4 25 (TX4 4).1 (TX4 4).2.1 (TX4 4).2.2.1) 325 (by decide +kernel) (by decide +kernel)⟩
theorem fl_X4_28 : FL RX4 28 4 5 := ⟨_, _, _, cf_4, by decide, tt_at (w := Cond.fieldLink RX4 28 (TX4 5).1 (TX4 5).2.1 (TX4 5).2.2.1) 327 (by decide +kernel) (by decide +kernel)⟩
theorem fl_X4_31 : FL RX4 31 5 1 := ⟨_, _, _, cf_5, by decide, tt_at (w := Cond.fieldLink RX4 31 (TX5 1).1 (TX5 1).2.1 (TX5 1).2.2.1) 139 (by decide +kernel) (by decide +kernel)⟩
theorem fl_X4_51 : FL RX4 51 5 0 := ⟨_, _, _, cf_5, by decide, tt_at (w := Cond.fieldLink RX4 51 (TX5 0).1 (TX5 0).2.1 (TX5 0).2.2.1) 134 (by decide +kernel) (by decide +kernel)⟩
theorem fl_X4_96 : FL RX4 96 0 0 := ⟨_, _, _, cf_0, by decide, tt_at (w := Cond.fieldLink RX4 96 (TX0 0).1 (TX0 0).2.1 (TX0 0).2.2.1) 113 (by decide +kernel) (by decide +kernel)⟩
theorem fl_X4_99 : FL RX4 99 0 1 := ⟨_, _, _, cf_0, by decide, tt_at (w := Cond.fieldLink RX4 99 (TX0 1).1 (TX0 1).2.1 (TX0 1).2.2.1) 117 (by decide +kernel) (by decide +kernel)⟩
theorem fl_X5_11 : FL RX5 11 5 0 := ⟨_, _, _, cf_5, by decide, tt_at (w := Cond.fieldLink RX5 11 (TX5 0).1 (TX5 0).2.1 (TX5 0).2.2.1) 133 (by decide +kernel) (by decide +kernel)⟩
theorem fl_X5_17 : FL RX5 17 5 1 := ⟨_, _, _, cf_5, by decide, tt_at (w := Cond.fieldLink RX5 17 (TX5 1).1 (TX5 1).2.1 (TX5 1).2.2.1) 138 (by decide +kernel) (by decide +kernel)⟩
theorem fl_X5_21 : FL RX5 21 5 2 := ⟨_, _, _, cf_5, by decide, tt_at (w := Cond.fieldLink RX5 21 (TX5 2).1 (TX5 2).2.1 (TX5 2).2.2.1) 142 (by decide +kernel) (by decide +kernel)⟩
theorem fl_X5_41 : FL RX5 41 0 0 := ⟨_, _, _, cf_0, by decide, tt_at (w := Cond.fieldLink RX5 41 (TX0 0).1 (TX0 0).2.1 (TX0 0).2.2.1) 114 (by decide +kernel) (by decide +kernel)⟩
theorem fl_X5_52 : FL RX5 52 0 1 := ⟨_, _, _, cf_0, by decide, tt_at (w := Cond.fieldLink RX5 52 (TX0 1).1 (TX0 1).2.1 (TX0 1).2.2.1) 118 (by decide +kernel) (by decide +kernel)⟩
theorem fl_X6_12 : FL RX6 12 6 0 := ⟨_, _, _, cf_6, by decide, tt_at (w := Cond.fieldLink RX6 12 (TX6 0).1 (TX6 0).2.1 (TX6 0).2.2.1) 263 (by decide +kernel) (by decide +kernel)⟩
theorem fl_X6_18 : FL RX6 18 6 1 := ⟨_, _, _, cf_6, by decide, tt_at (w := Cond.fieldLink RX6 18 (TX6 1).1 (TX6 1).2.1 (TX6 1).2.2.1) 265 (by decide +kernel) (by decide +kernel)⟩
theorem fl_X6_22 : FL RX6 22 6 2 := ⟨_, _, _, cf_6, by decide, tt_at (w := Cond.fieldLink RX6 22 (TX6 2).1 (TX6 2).2.1 (TX6 2).2.2.1) 266 (by decide +kernel) (by decide +kernel)⟩
theorem fl_X6_26 : FL RX6 26 6 3 := ⟨_, _, _, cf_6, by decide, tt_at (w := Cond.fieldLink RX6 26 (TX6 3).1 (TX6 3).2.1 (TX6 3).2.2.1) 267 (by decide +kernel) (by decide +kernel)⟩
theorem fl_X6_29 : FL RX6 29 6 4 := ⟨_, _, _, cf_6, by decide, tt_at (w := Cond.fieldLink RX6 29 (TX6 4).1 (TX6 4).2.1 (TX6 4).2.2.1) 268 (by decide +kernel) (by decide +kernel)⟩
theorem fl_X6_32 : FL RX6 32 6 5 := ⟨_, _, _, cf_6, by decide, tt_at (w := Cond.fieldLink RX6 32 (TX6 5).1 (TX6 5).2.1 (TX6 5).2.2.1) 269 (by decide +kernel) (by decide +kernel)⟩
theorem fl_X6_35 : FL RX6 35 6 6 := ⟨_, _, _, cf_6, by decide, tt_at (w := Cond.fieldLink RX6 35 (TX6 6).1 (TX6 6).2.1 (TX6 6).2.2.1) 270 (by decide +kernel) (by decide +kernel)⟩
theorem fl_X6_39 : FL RX6 39 6 7 := ⟨_, _, _, cf_6, by decide, tt_at (w := Cond.fieldLink RX6 39 (TX6 7).1 (TX6 7).2.1 (TX6 7).2.2.1) 271 (by decide +kernel) (by decide +kernel)⟩
theorem fl_X6_43 : FL RX6 43 6 8 := ⟨_, _, _, cf_6, by decide, tt_at (w := Cond.fieldLink RX6 43 (TX6 8).1 (TX6 8).2.1 (TX6 8).2.2.1) 272 (by decide +kernel) (by decide +kernel)⟩
theorem fl_X6_50 : FL RX6 50 3 1 := ⟨_, _, _, cf_3, by decide, tt_at (w := Cond.fieldLink RX6 50 (TX3 1).1 (TX3 1).2.1 (TX3 1).2.2.1) 247 (by decide +kernel) (by decide +kernel)⟩
theorem fl_X6_55 : FL RX6 55 3 0 := ⟨_, _, _, cf_3, by decide, tt_at (w := Cond.fieldLink RX6 55 (TX3 0).1 (TX3 0).2.1 (TX3 0).2.2.1) 244 (by decide +kernel) (by decide +kernel)⟩
theorem fl_X7_11 : FL RX7 11 7 0 := ⟨_, _, _, cf_7, by decide, tt_at (w := Cond.fieldLink RX7 11 (TX7 0).1 (TX7 0).2.1 (TX7 0).2.2.1) 180 (by decide +kernel) (by decide +kernel)⟩
theorem fl_X7_17 : FL RX7 17 7 1 := ⟨_, _, _, cf_7, by decide, tt_at (w := Cond.fieldLink RX7 17 (TX7 1).1 (TX7 1).2.1 (TX7 1).2.2.1) 182 (by decide +kernel) (by decide +kernel)⟩
theorem fl_X7_24 : FL RX7 24 7 3 := ⟨_, _, _, cf_7, by decide, tt_at (w := Cond.fieldLink RX7 24 (TX7 3).1 (TX7 3).2.1 (TX7 3).2.2.1) 187 (by decide +kernel) (by decide +kernel)⟩
theorem fl_X8_15 : FL RX8 15 8 1 := ⟨_, _, _, cf_8, by decide, tt_at (w := Cond.fieldLink RX8 15 (TX8 1).1 (TX8 1).2.1 (TX8 1).2.2.1) 165 (by decide +kernel) (by decide +kernel)⟩
theorem fl_X8_19 : FL RX8 19 8 2 := ⟨_, _, _, cf_8, by decide, tt_at (w := Cond.fieldLink RX8 19 (TX8 2).1 (TX8 2).2.1 (TX8 2).2.2.1) 166 (by decide +kernel) (by decide +kernel)⟩
theorem fl_X8_22 : FL RX8 22 8 3 := ⟨_, _, _, cf_8, by decide, tt_at (w := Cond.fieldLink RX8 22 (TX8 3).1 (TX8 3).2.1 (TX8 3).2.2.1) 167 (by decide +kernel) (by decide +kernel)⟩
theorem fl_X8_9 : FL RX8 9 8 0 := ⟨_, _, _, cf_8, by decide, tt_at (w := Cond.fieldLink RX8 9 (TX8 0).1 (TX8 0).2.1 (TX8 0).2.2.1) 164 (by decide +kernel) (by decide +kernel)⟩
theorem fl_X9_12 : FL RX9 12 9 0 := ⟨_, _, _, cf_9, by decide, tt_at (w := Cond.fieldLink RX9 12 (TX9 0).1 (TX9 0).2.1 (TX9 0).2.2.1) 218 (by decide +kernel) (by decide +kernel)⟩
theorem fl_X9_21 : FL RX9 21 9 1 := ⟨_, _, _, cf_9, by decide, tt_at (w := Cond.fieldLink RX9 21 (TX9 1).1 (TX9 1).2.1 (TX9 1).2.2.1) 220 (by decide +kernel) (by decide +kernel)⟩
theorem fl_X9_28 : FL RX9 28 9 2 := ⟨_, _, _, cf_9, by decide, tt_at (w := Cond.fieldLink RX9 28 (TX9 2).1 (TX9 2).2.1 (TX9 2).2.2.1) 222 (by decide +kernel) (by decide +kernel)⟩
theorem fl_X9_32 : FL RX9 32 9 3 := ⟨_, _, _, cf_9, by decide, tt_at (w := Cond.fieldLink RX9 32 (TX9 3).1 (TX9 3).2.1 (TX9 3).2.2.1) 224 (by decide +kernel) (by decide +kernel)⟩
theorem fl_X9_36 : FL RX9 36 9 4 := ⟨_, _, _, cf_9, by decide, tt_at (w := Cond.fieldLink RX9 36 (TX9 4).1 (TX9 4).2.1 (TX9 4).2.2.1) 225 (by decide +kernel) (by decide +kernel)⟩
theorem fl_X9_48 : FL RX9 48 2 1 := ⟨_, _, _, cf_2, by decide, tt_at (w := Cond.fieldLink RX9 48 (TX2 1).1 (TX2 1).2.1 (TX2 1).2.2.1) 208 (by decide +kernel) (by decide +kernel)⟩
theorem fl_X9_75 : FL RX9 75 7 2 := ⟨_, _, _, cf_7, by decide, tt_at (w := Cond.fieldLink RX9 75 (TX7 2).1 (TX7 2).2.1 (TX7 2).2.2.1) 185 (by decide +kernel) (by decide +kernel)⟩
theorem fl_X9_78 : FL RX9 78 5 1 := ⟨_, _, _, cf_5, by decide, tt_at (w := Cond.fieldLink RX9 78 (TX5 1).1 (TX5 1).2.1 (TX5 1).2.2.1) 140 (by decide +kernel) (by decide +kernel)⟩
theorem fl_X9_79 : FL RX9 79 5 0 := ⟨_, _, _, cf_5, by decide, tt_at (w := Cond.fieldLink RX9 79 (TX5 0).1 (TX5 0).2.1 (TX5 0).2.2.1) 136 (by decide +kernel) (by decide +kernel)⟩
theorem fl_X9_92 : FL RX9 92 0 0 := ⟨_, _, _, cf_0, by decide, tt_at (w := Cond.fieldLink RX9 92 (TX0 0).1 (TX0 0).2.1 (TX0 0).2.2.1) 112 (by decide +kernel) (by decide +kernel)⟩
theorem fl_X9_95 : FL RX9 95 0 1 := ⟨_, _, _, cf_0, by decide, tt_at (w := Cond.fieldLink RX9 95 (TX0 1).1 (TX0 1).2.1 (TX0 1).2.2.1) 116 (by decide +kernel) (by decide +kernel)⟩
theorem fw_X0_15 : FW RX0 15 0 1 := ⟨_, _, _, cf_0, by decide, tt_at (w := Cond.fieldLink RX0 15 (TX0 1).1 (TX0 1).2.1 (TX0 1).2.2.1) 115 (by decide +kernel) (by decide +kernel), rfl⟩
theorem fw_X0_18 : FW RX0 18 0 2 := ⟨_, _, _, cf_0, by decide, tt_at (w := Cond.fieldLink RX0 18 (TX0 2).1 (TX0 2).2.1 (TX0 2).2.2.1) 119 (by decide +kernel) (by decide +kernel), rfl⟩
theorem fw_X0_21 : FW RX0 21 0 3 := ⟨_, _, _, cf_0, by decide, tt_at (w := Cond.fieldLink RX0 21 (TX0 3).1 (TX0 3).2.1 (TX0 3).2.2.1) 120 (by decide +kernel) (by decide +kernel), rfl⟩
theorem fw_X0_24 : FW RX0 24 0 4 := ⟨_, _, _, cf_0, by decide, tt_at (w := Cond.fieldLink RX0 24 (TX0 4).1 (TX0 4).2.1 (TX0 4).2.2.1) 121 (by decide +kernel) (by decide +kernel), rfl⟩
theorem fw_X0_9 : FW RX0 9 0 0 := ⟨_, _, _, cf_0, by decide, tt_at (w := Cond.fieldLink RX0 9 (TX0 0).1 (TX0 0).2.1 (TX0 0).2.2.1) 110 (by decide +kernel) (by decide +kernel), rfl⟩
theorem fw_X1_19 : FW RX1 19 1 2 := ⟨_, _, _, cf_1, by decide, tt_at (w := Cond.fieldLink RX1 19 (TX1 2).1 (TX1 2).2.1 (TX1 2).2.2.1) 302 (by decide +kernel) (by decide +kernel), rfl⟩
theorem fw_X1_23 : FW RX1 23 1 3 := ⟨_, _, _, cf_1, by decide, tt_at (w := Cond.fieldLink RX1 23 (TX1 3).1 (TX1 3).2.1 (TX1 3).2.2.1) 304 (by decide +kernel) (by decide +kernel), rfl⟩
theorem fw_X10_102 : FW RX10 102 5 1 := ⟨_, _, _, cf_5, by decide, tt_at (w := Cond.fieldLink RX10 102 (TX5 1).1 (TX5 1).2.1 (TX5 1).2.2.1) 141 (by decide +kernel) (by decide +kernel), rfl⟩
theorem fw_X10_140 : FW RX10 140 3 1 := ⟨_, _, _, cf_3, by decide, tt_at (w := Cond.fieldLink RX10 140 (TX3 1).1 (TX3 1).2.1 (TX3 1).2.2.1) 248 (by decide +kernel) (by decide +kernel), rfl⟩
theorem fw_X10_153 : FW RX10 153 7 1 := ⟨_, _, _, cf_7, by decide, tt_at (w := Cond.fieldLink RX10 153 (TX7 1).1 (TX7 1).2.1 (TX7 1).2.2.1) 183 (by decide +kernel) (by decide +kernel), rfl⟩
theorem fw_X10_171 : FW RX10 171 2 1 := ⟨_, _, _, cf_2, by decide, tt_at (w := Cond.fieldLink RX10 171 (TX2 1).1 (TX2 1).2.1 (TX2 1).2.2.1) 209 (by decide +kernel) (by decide +kernel), rfl⟩
theorem fw_X10_177 : FW RX10 177 7 2 := ⟨_, _, _, cf_7, by decide, tt_at (w := Cond.fieldLink RX10 177 (TX7 2).1 (TX7 2).2.1 (TX7 2).2.2.1) 186 (by decide +kernel) (by decide +kernel), rfl⟩
theorem fw_X10_59 : FW RX10 59 10 8 := ⟨_, _, _, cf_10, by decide, tt_at (w := Cond.fieldLink RX10 59 (TX10 8).1 (TX10 8).2.1 (TX10 8).2.2.1) 350 (by decide +kernel) (by decide +kernel), rfl⟩
theorem fw_X10_63 : FW RX10 63 10 9 := ⟨_, _, _, cf_10, by decide, tt_at (w := Cond.fieldLink RX10 63 (TX10 9).1 (TX10 9).2.1 (TX10 9).2.2.1) 351 (by decide +kernel) (by decide +kernel), rfl⟩
theorem fw_X10_66 : FW RX10 66 10 10 := ⟨_, _, _, cf_10, by decide, tt_at (w := Cond.fieldLink RX10 66 (TX10 10).1 (TX10 10).2.1 (TX10 10).2.2.1) 352 (by decide +kernel) (by decide +kernel), rfl⟩
theorem fw_X10_76 : FW RX10 76 5 2 := ⟨_, _, _, cf_5, by decide, tt_at (w := Cond.fieldLink RX10 76 (TX5 2).1 (TX5 2).2.1 (TX5 2).2.2.1) 143 (by decide +kernel) (by decide +kernel), rfl⟩
theorem fw_X11_100 : FW RX11 100 11 27 := ⟨_, _, _, cf_11, by decide, tt_at (w := Cond.fieldLink RX11 100 (TX11 27).1 (TX11 27).2.1 (TX11 27).2.2.1) 931 (by decide +kernel) (by decide +kernel), rfl⟩
theorem fw_X11_104 : FW RX11 104 11 1 := ⟨_, _, _, cf_11, by decide, tt_at (w := Cond.fieldLink RX11 104 (TX11 1).1 (TX11 1).2.1 (TX11 1).2.2.1) 905 (by decide +kernel) (by decide +kernel), rfl⟩
theorem fw_X11_111 : FW RX11 111 11 6 := ⟨_, _, _, cf_11, by decide, tt_at (w := Cond.fieldLink RX11 111 (TX11 6).1 (TX11 6).2.1 (TX11 6).2.2.1) 910 (by decide +kernel) (by decide +kernel), rfl⟩
theorem fw_X11_133 : FW RX11 133 11 4 := ⟨_, _, _, cf_11, by decide, tt_at (w := Cond.fieldLink RX11 133 (TX11 4).1 (TX11 4).2.1 (TX11 4).2.2.1) 908 (by decide +kernel) (by decide +kernel), rfl⟩
theorem fw_X11_149 : FW RX11 149 11 17 := ⟨_, _, _, cf_11, by decide, tt_at (w := Cond.fieldLink RX11 149 (TX11 17).1 (TX11 17).2.1 (TX11 17).2.2.1) 921 (by decide +kernel) (by decide +kernel), rfl⟩
theorem fw_X11_152 : FW RX11 152 11 18 := ⟨_, _, _, cf_11, by decide, tt_at (w := Cond.fieldLink RX11 152 (TX11 18).1 (TX11 18).2.1 (TX11 18).2.2.1) 922 (by decide +kernel) (by decide +kernel), rfl⟩
theorem fw_X11_159 : FW RX11 159 11 10 := ⟨_, _, _, cf_11, by decide, tt_at (w := Cond.fieldLink RX11 159 (TX11 10).1 (TX11 10).2.1 (TX11 10).2.2.1) 914 (by decide +kernel) (by decide +kernel), rfl⟩
theorem fw_X11_162 : FW RX11 162 11 21 := ⟨_, _, _, cf_11, by decide, tt_at (w := Cond.fieldLink RX11 162 (TX11 21).1 (TX11 21).2.1 (TX11 21).2.2.1) 925 (by decide +kernel) (by decide +kernel), rfl⟩
theorem fw_X11_165 : FW RX11 165 11 22 := ⟨_, _, _, cf_11, by decide, tt_at (w := Cond.fieldLink RX11 165 (TX11 22).1 (TX11 22).2.1 (TX11 22).2.2.1) 926 (by decide +kernel) (by decide +kernel), rfl⟩
theorem fw_X11_168 : FW RX11 168 11 19 := ⟨_, _, _, cf_11, by decide, tt_at (w := Cond.fieldLink RX11 168 (TX11 19).1 (TX11 19).2.1 (TX11 19).2.2.1) 923 (by decide +kernel) (by decide +kernel), rfl⟩
theorem fw_X11_171 : FW RX11 171 11 20 := ⟨_, _, _, cf_11, by decide, tt_at (w := Cond.fieldLink RX11 171 (TX11 20).1 (TX11 20).2.1 (TX11 20).2.2.1) 924 (by decide +kernel) (by decide +kernel), rfl⟩
theorem fw_X11_178 : FW RX11 178 11 26 := ⟨_, _, _, cf_11, by decide, tt_at (w := Cond.fieldLink RX11 178 (TX11 26).1 (TX11 26).2.1 (TX11 26).2.2.1) 930 (by decide +kernel) (by decide +kernel), rfl⟩
theorem fw_X11_226 : FW RX11 226 11 34 := ⟨_, _, _, cf_11, by decide, tt_at (w := Cond.fieldLink RX11 226 (TX11 34).1 (TX11 34).2.1 (TX11 34).2.2.1) 938 (by decide +kernel) (by decide +kernel), rfl⟩
theorem fw_X11_235 : FW RX11 235 11 38 := ⟨_, _, _, cf_11, by decide, tt_at (w := Cond.fieldLink RX11 235 (TX11 38).1 (TX11 38).2.1 (TX11 38).2.2.1) 942 (by decide +kernel) (by decide +kernel), rfl⟩
theorem fw_X11_238 : FW RX11 238 11 37 := ⟨_, _, _, cf_11, by decide, tt_at (w := Cond.fieldLink RX11 238 (TX11 37).1 (TX11 37).2.1 (TX11 37).2.2.1) 941 (by decide +kernel) (by decide +kernel), rfl⟩
theorem fw_X11_248 : FW RX11 248 11 40 := ⟨_, _, _, cf_11, by decide, tt_at (w := Cond.fieldLink RX11 248 (TX11 40).1 (TX11 40).2.1 (TX11 40).2.2.1) 944 (by decide +kernel) (by decide +kernel), rfl⟩
theorem fw_X11_270 : FW RX11 270 11 42 := ⟨_, _, _, cf_11, by decide, tt_at (w := Cond.fieldLink RX11 270 (TX11 42).1 (TX11 42).2.1 (TX11 42).2.2.1) 946 (by decide +kernel) (by decide +kernel), rfl⟩
theorem fw_X11_282 : FW RX11 282 11 15 := ⟨_, _, _, cf_11, by decide, tt_at (w := Cond.fieldLink RX11 282 (TX11 15).1 (TX11 15).2.1 (TX11 15).2.2.1) 919 (by decide +kernel) (by decide +kernel), rfl⟩
theorem fw_X11_307 : FW RX11 307 11 43 := ⟨_, _, _, cf_11, by decide, tt_at (w := Cond.fieldLink RX11 307 (TX11 43).1 (TX11 43).2.1 (TX11 43).2.2.1) 947 (by decide +kernel) (by decide +kernel), rfl⟩
theorem fw_X11_39 : FW RX11 39 11 13 := ⟨_, _, _, cf_11, by decide, tt_at (w := Cond.fieldLink RX11 39 (TX11 13).1 (TX11 13).2.1 (TX11 13).2.2.1) 917 (by decide +kernel) (by decide +kernel), rfl⟩
theorem fw_X11_43 : FW RX11 43 11 14 := ⟨_, _, _, cf_11, by decide, tt_at (w := Cond.fieldLink RX11 43 (TX11 14).1 (TX11 14).2.1 (TX11 14).2.2.1) 918 (by decide +kernel) (by decide +kernel), rfl⟩
theorem fw_X3_15 : FW RX3 15 3 1 := ⟨_, _, _, cf_3, by decide, tt_at (w := Cond.fieldLink RX3 15 (TX3 1).1 (TX3 1).2.1 (TX3 1).2.2.1) 246 (by decide +kernel) (by decide +kernel), rfl⟩
theorem fw_X4_21 : FW RX4 21 4 3 := ⟨_, _, _, cf_4, by decide, tt_at (w := Cond.fieldLink RX4 21 (TX4 3).1 (TX4 3).2.1 (TX4 3).2.2.1) 324 (by decide +kernel) (by decide +kernel), rfl⟩
theorem fw_X4_25 : FW RX4 25 4 4 := ⟨_, _, _, cf_4, by decide, tt_at (w := Cond.fieldLink RX4 25 (TX4 4).1 (TX4 4).2.1 (TX4 4).2.2.1) 325 (by decide +kernel) (by decide +kernel), rfl⟩
theorem fw_X4_28 : FW RX4 28 4 5 := ⟨_, _, _, cf_4, by decide, tt_at (w := Cond.fieldLink RX4 28 (TX4 5).1 (TX4 5).2.1 (TX4 5).2.2.1) 327 (by decide +kernel) (by decide +kernel), rfl⟩
theorem fw_X6_129 : FW RX6 129 8 3 := ⟨_, _, _, cf_8, by decide, tt_at (w := Cond.fieldLink RX6 129 (TX8 3).1 (TX8 3).2.1 (TX8 3).2.2.1) 169 (by decide +kernel) (by decide +kernel), rfl⟩
theorem fw_X6_22 : FW RX6 22 6 2 := ⟨_, _, _, cf_6, by decide, tt_at (w := Cond.fieldLink RX6 22 (TX6 2).1 (TX6 2).2.1 (TX6 2).2.2.1) 266 (by decide +kernel) (by decide +kernel), rfl⟩
theorem fw_X6_26 : FW RX6 26 6 3 := ⟨_, _, _, cf_6, by decide, tt_at (w := Cond.fieldLink RX6 26 (TX6 3).1 (TX6 3).2.1 (TX6 3).2.2.1) 267 (by decide +kernel) (by decide +kernel), rfl⟩
theorem fw_X6_29 : FW RX6 29 6 4 := ⟨_, _, _, cf_6, by decide, tt_at (w := Cond.fieldLink RX6 29 (TX6 4).1 (TX6 4).2.1 (TX6 4).2.2.1) 268 (by decide +kernel) (by decide +kernel), rfl⟩
theorem fw_X6_32 : FW RX6 32 6 5 := ⟨_, _, _, cf_6, by decide, tt_at (w := Cond.fieldLink RX6 32 (TX6 5).1 (TX6 5).2.1 (TX6 5).2.2.1) 269 (by decide +kernel) (by decide +kernel), rfl⟩
theorem fw_X6_35 : FW RX6 35 6 6 := ⟨_, _, _, cf_6, by decide, tt_at (w := Cond.fieldLink RX6 35 (TX6 6).1 (TX6 6).2.1 (TX6 6).2.2.1) 270 (by decide +kernel) (by decide +kernel), rfl⟩
theorem fw_X6_39 : FW RX6 39 6 7 := ⟨_, _, _, cf_6, by decide, tt_at (w := Cond.fieldLink RX6 39 (TX6 7).1 (TX6 7).2.1 (TX6 7).2.2.1) 271 (by decide +kernel) (by decide +kernel), rfl⟩
theorem fw_X6_43 : FW RX6 43 6 8 := ⟨_, _, _, cf_6, by decide, tt_at (w := Cond.fieldLink RX6 43 (TX6 8).1 (TX6 8).2.1 (TX6 8).2.2.1) 272 (by decide +kernel) (by decide +kernel), rfl⟩
theorem fw_X8_15 : FW RX8 15 8 1 := ⟨_, _, _, cf_8, by decide, tt_at (w := Cond.fieldLink RX8 15 (TX8 1).1 (TX8 1).2.1 (TX8 1).2.2.1) 165 (by decide +kernel) (by decide +kernel), rfl⟩
theorem fw_X8_19 : FW RX8 19 8 2 := ⟨_, _, _, cf_8, by decide, tt_at (w := Cond.fieldLink RX8 19 (TX8 2).1 (TX8 2).2.1 (TX8 2).2.2.1) 166 (by decide +kernel) (by decide +kernel), rfl⟩
theorem fw_X8_22 : FW RX8 22 8 3 := ⟨_, _, _, cf_8, by decide, tt_at (w := Cond.fieldLink RX8 22 (TX8 3).1 (TX8 3).2.1 (TX8 3).2.2.1) 167 (by decide +kernel) (by decide +kernel), rfl⟩
theorem fw_X9_36 : FW RX9 36 9 4 := ⟨_, _, _, cf_9, by decide, tt_at (w := Cond.fieldLink RX9 36 (TX9 4).1 (TX9 4).2.1 (TX9 4).2.2.1) 225 (by decide +kernel) (by decide +kernel), rfl⟩
def LV (own : String) (idx ci : Nat) (y : MethodName) (bc : ByteArray) (mL : Nat) (ret : Option FieldType) (n : Nat) : Prop := LC own idx y bc mL ret n ∧ ci < 12 ∧ ∃ q, vwCl[ci]? = some q ∧ Cond.instanceMethod y ∈ TT ∧ Cond.selects q.1 y y ∈ TT
def LSt (own : String) (idx : Nat) (y : MethodName) (bc : ByteArray) (mL : Nat) (ret : Option FieldType) (n : Nat) : Prop := LC own idx y bc mL ret n ∧ Cond.static y ∈ TT
def LTn (own : String) (idx : Nat) (y : MethodName) (bc : ByteArray) (mL : Nat) (ret : Option FieldType) (n : Nat) : Prop := (∃ host, LN own idx y host bc mL ret n) ∧ Cond.static y ∈ TT
section
variable {ρ : Type} {G : GT} {R : Room} {ad : Nat → Nat} {Z : Zt} {ck : Nat × Nat} {K : ρ → Dm → Prop} {pc nL : Nat} {cc : ByteArray} {own : String} {L : List (Nat × Value)} {st : List Value} {f : MM ρ}
theorem s_ite {α : Type} {c : Prop} [Decidable c] {a b : α} {g : α → MM ρ} (k : Sm G R ad Z ck K pc L st (if c then g a else g b)) : Sm G R ad Z ck K pc L st (g (if c then a else b)) := by
  by_cases h : c
  · rw [if_pos h] at k ⊢; exact k
  · rw [if_neg h] at k ⊢; exact k
theorem s_wI (C : Cx G R cc nL own) (hV : Vx G R ad Z ck) {idx ci n mL : Nat} {y : MethodName} {bc : ByteArray} {ty : FieldType} {rm : Room} (hL : LV own idx ci y bc mL (some ty) n) {a : Nat} {As stk : List Value} {F : MM Int32} {kf : Int32 → MM ρ} (hM : MI Z y bc mL ty rm (.ref a :: As) F) (hrm : RF R rm mL) (hn : As.length = n) (hst : stk = As.reverse ++ .ref a :: st) (hcat : (st.map fun v => v.category).sum ≤ 8) (hd : decode cc pc = .ok (.invokevirtual idx, 3)) (kk : ∀ r, Sm G R ad Z ck K (pc + 3) L (.int r :: st) (kf r)) : Sm G R ad Z ck K pc L stk (mb (vc Z (ci + 1) a F) kf) := by
  obtain ⟨h1, h2, q, h3, h4⟩ := hL
  exact s_vI C hV h3 h2 h1 h4 hM hn hrm hst hcat hd kk
theorem s_uI (C : Cx G R cc nL own) (hV : Vx G R ad Z ck) {idx n mL : Nat} {y : MethodName} {bc : ByteArray} {ty : FieldType} {rm : Room} (hL : LSt own idx y bc mL (some ty) n) {As stk : List Value} {F : MM Int32} {kf : Int32 → MM ρ} (hM : MI Z y bc mL ty rm As F) (hrm : RF R rm mL) (hn : As.length = n) (hst : stk = As.reverse ++ st) (hcat : (st.map fun v => v.category).sum ≤ 8) (hd : decode cc pc = .ok (.invokestatic idx, 3)) (kk : ∀ r, Sm G R ad Z ck K (pc + 3) L (.int r :: st) (kf r)) : Sm G R ad Z ck K pc L stk (mb F kf) := s_sI C hV hL.1 hL.2 hM hn hrm hst hcat hd kk
theorem s_uIN (C : Cx G R cc nL own) (hV : Vx G R ad Z ck) {idx n mL : Nat} {y : MethodName} {bc : ByteArray} {ty : FieldType} {rm : Room} (hL : LTn own idx y bc mL (some ty) n) {As stk : List Value} {F : MM Int32} {kf : Int32 → MM ρ} (hM : MI Z y bc mL ty rm As F) (hrm : RF R rm mL) (hn : As.length = n) (hst : stk = As.reverse ++ st) (hcat : (st.map fun v => v.category).sum ≤ 8) (hd : decode cc pc = .ok (.invokestatic idx, 3)) (kk : ∀ r, Sm G R ad Z ck K (pc + 3) L (.int r :: st) (kf r)) : Sm G R ad Z ck K pc L stk (mb F kf) := by
  obtain ⟨host, h⟩ := hL.1
  exact s_sIN C hV h hL.2 hM hn hrm hst hcat hd kk
theorem s_wL (C : Cx G R cc nL own) (hV : Vx G R ad Z ck) {idx ci n mL : Nat} {y : MethodName} {bc : ByteArray} {rm : Room} (hL : LV own idx ci y bc mL (some .long) n) {a : Nat} {As stk : List Value} {F : MM Int64} {kf : Int64 → MM ρ} (hM : ML Z y bc mL rm (.ref a :: As) F) (hrm : RF R rm mL) (hn : As.length = n) (hst : stk = As.reverse ++ .ref a :: st) (hcat : (st.map fun v => v.category).sum ≤ 8) (hd : decode cc pc = .ok (.invokevirtual idx, 3)) (kk : ∀ r, Sm G R ad Z ck K (pc + 3) L (.long r :: st) (kf r)) : Sm G R ad Z ck K pc L stk (mb (vc Z (ci + 1) a F) kf) := by
  obtain ⟨h1, h2, q, h3, h4⟩ := hL
  exact s_vL C hV h3 h2 h1 h4 hM hn hrm hst hcat hd kk
theorem s_uL (C : Cx G R cc nL own) (hV : Vx G R ad Z ck) {idx n mL : Nat} {y : MethodName} {bc : ByteArray} {rm : Room} (hL : LSt own idx y bc mL (some .long) n) {As stk : List Value} {F : MM Int64} {kf : Int64 → MM ρ} (hM : ML Z y bc mL rm As F) (hrm : RF R rm mL) (hn : As.length = n) (hst : stk = As.reverse ++ st) (hcat : (st.map fun v => v.category).sum ≤ 8) (hd : decode cc pc = .ok (.invokestatic idx, 3)) (kk : ∀ r, Sm G R ad Z ck K (pc + 3) L (.long r :: st) (kf r)) : Sm G R ad Z ck K pc L stk (mb F kf) := s_sL C hV hL.1 hL.2 hM hn hrm hst hcat hd kk
theorem s_uLN (C : Cx G R cc nL own) (hV : Vx G R ad Z ck) {idx n mL : Nat} {y : MethodName} {bc : ByteArray} {rm : Room} (hL : LTn own idx y bc mL (some .long) n) {As stk : List Value} {F : MM Int64} {kf : Int64 → MM ρ} (hM : ML Z y bc mL rm As F) (hrm : RF R rm mL) (hn : As.length = n) (hst : stk = As.reverse ++ st) (hcat : (st.map fun v => v.category).sum ≤ 8) (hd : decode cc pc = .ok (.invokestatic idx, 3)) (kk : ∀ r, Sm G R ad Z ck K (pc + 3) L (.long r :: st) (kf r)) : Sm G R ad Z ck K pc L stk (mb F kf) := by
  obtain ⟨host, h⟩ := hL.1
  exact s_sLN C hV h hL.2 hM hn hrm hst hcat hd kk
theorem s_wV (C : Cx G R cc nL own) (hV : Vx G R ad Z ck) {idx ci n mL : Nat} {y : MethodName} {bc : ByteArray} {rm : Room} (hL : LV own idx ci y bc mL none n) {a : Nat} {As stk : List Value} {F : MM Unit} {kf : Unit → MM ρ} (hM : MV Z y bc mL rm (.ref a :: As) F) (hrm : RF R rm mL) (hn : As.length = n) (hst : stk = As.reverse ++ .ref a :: st) (hcat : (st.map fun v => v.category).sum ≤ 8) (hd : decode cc pc = .ok (.invokevirtual idx, 3)) (kk : Sm G R ad Z ck K (pc + 3) L st (kf ())) : Sm G R ad Z ck K pc L stk (mb (vc Z (ci + 1) a F) kf) := by
  obtain ⟨h1, h2, q, h3, h4⟩ := hL
  exact s_vV C hV h3 h2 h1 h4 hM hn hrm hst hcat hd kk
theorem s_uV (C : Cx G R cc nL own) (hV : Vx G R ad Z ck) {idx n mL : Nat} {y : MethodName} {bc : ByteArray} {rm : Room} (hL : LSt own idx y bc mL none n) {As stk : List Value} {F : MM Unit} {kf : Unit → MM ρ} (hM : MV Z y bc mL rm As F) (hrm : RF R rm mL) (hn : As.length = n) (hst : stk = As.reverse ++ st) (hcat : (st.map fun v => v.category).sum ≤ 8) (hd : decode cc pc = .ok (.invokestatic idx, 3)) (kk : Sm G R ad Z ck K (pc + 3) L st (kf ())) : Sm G R ad Z ck K pc L stk (mb F kf) := s_sV C hV hL.1 hL.2 hM hn hrm hst hcat hd kk
theorem s_uVN (C : Cx G R cc nL own) (hV : Vx G R ad Z ck) {idx n mL : Nat} {y : MethodName} {bc : ByteArray} {rm : Room} (hL : LTn own idx y bc mL none n) {As stk : List Value} {F : MM Unit} {kf : Unit → MM ρ} (hM : MV Z y bc mL rm As F) (hrm : RF R rm mL) (hn : As.length = n) (hst : stk = As.reverse ++ st) (hcat : (st.map fun v => v.category).sum ≤ 8) (hd : decode cc pc = .ok (.invokestatic idx, 3)) (kk : Sm G R ad Z ck K (pc + 3) L st (kf ())) : Sm G R ad Z ck K pc L stk (mb F kf) := by
  obtain ⟨host, h⟩ := hL.1
  exact s_sVN C hV h hL.2 hM hn hrm hst hcat hd kk
end
