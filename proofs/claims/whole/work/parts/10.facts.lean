/-! What the tables say at each site: fields, constants, calls. -/
set_option maxRecDepth 20000 in
theorem gin0 : ∀ w ∈ u_ws RX0 TX0 4, w ∈ gT := fun w h => List.mem_filter.mpr ⟨inX0 w h, List.all_eq_true.mp (by decide +kernel : (u_ws RX0 TX0 4).all goodWord = true) w h⟩
set_option maxRecDepth 20000 in
theorem gin1 : ∀ w ∈ u_ws RX1 TX1 3, w ∈ gT := fun w h => List.mem_filter.mpr ⟨inX1 w h, List.all_eq_true.mp (by decide +kernel : (u_ws RX1 TX1 3).all goodWord = true) w h⟩
set_option maxRecDepth 20000 in
theorem gin2 : ∀ w ∈ u_ws RX2 TX2 10, w ∈ gT := fun w h => List.mem_filter.mpr ⟨inX2 w h, List.all_eq_true.mp (by decide +kernel : (u_ws RX2 TX2 10).all goodWord = true) w h⟩
set_option maxRecDepth 20000 in
theorem gin3 : ∀ w ∈ u_ws RX3 TX3 5, w ∈ gT := fun w h => List.mem_filter.mpr ⟨inX3 w h, List.all_eq_true.mp (by decide +kernel : (u_ws RX3 TX3 5).all goodWord = true) w h⟩
set_option maxRecDepth 20000 in
theorem gin4 : ∀ w ∈ u_ws RX4 TX4 4, w ∈ gT := fun w h => List.mem_filter.mpr ⟨inX4 w h, List.all_eq_true.mp (by decide +kernel : (u_ws RX4 TX4 4).all goodWord = true) w h⟩
set_option maxRecDepth 20000 in
theorem gin5 : ∀ w ∈ u_ws RX5 TX5 14, w ∈ gT := fun w h => List.mem_filter.mpr ⟨inX5 w h, List.all_eq_true.mp (by decide +kernel : (u_ws RX5 TX5 14).all goodWord = true) w h⟩
set_option maxRecDepth 20000 in
theorem gin6 : ∀ w ∈ u_ws RX6 TX6 7, w ∈ gT := fun w h => List.mem_filter.mpr ⟨inX6 w h, List.all_eq_true.mp (by decide +kernel : (u_ws RX6 TX6 7).all goodWord = true) w h⟩
set_option maxRecDepth 20000 in
theorem gin7 : ∀ w ∈ u_ws RX7 TX7 3, w ∈ gT := fun w h => List.mem_filter.mpr ⟨inX7 w h, List.all_eq_true.mp (by decide +kernel : (u_ws RX7 TX7 3).all goodWord = true) w h⟩
set_option maxRecDepth 20000 in
theorem gin8 : ∀ w ∈ u_ws RX8 TX8 6, w ∈ gT := fun w h => List.mem_filter.mpr ⟨inX8 w h, List.all_eq_true.mp (by decide +kernel : (u_ws RX8 TX8 6).all goodWord = true) w h⟩
set_option maxRecDepth 20000 in
theorem gin9 : ∀ w ∈ u_ws RX9 TX9 2, w ∈ gT := fun w h => List.mem_filter.mpr ⟨inX9 w h, List.all_eq_true.mp (by decide +kernel : (u_ws RX9 TX9 2).all goodWord = true) w h⟩
set_option maxRecDepth 20000 in
theorem gin10 : ∀ w ∈ u_ws RX10 TX10 7, w ∈ gT := fun w h => List.mem_filter.mpr ⟨inX10 w h, List.all_eq_true.mp (by decide +kernel : (u_ws RX10 TX10 7).all goodWord = true) w h⟩
set_option maxRecDepth 20000 in
theorem gin11 : ∀ w ∈ u_ws RX11 TX11 18, w ∈ gT := fun w h => List.mem_filter.mpr ⟨inX11 w h, List.all_eq_true.mp (by decide +kernel : (u_ws RX11 TX11 18).all goodWord = true) w h⟩
set_option maxRecDepth 20000 in
theorem gin12 : ∀ w ∈ u_ws RX12 TX12 50, w ∈ gT := fun w h => List.mem_filter.mpr ⟨inX12 w h, List.all_eq_true.mp (by decide +kernel : (u_ws RX12 TX12 50).all goodWord = true) w h⟩
set_option maxRecDepth 20000 in
theorem fl_X0_21 : FL gT RX0 21 0 1 1 := ⟨RX0, TX0, tyX0, rfl, by decide, gin0, rfl, gm 364 (by decide +kernel) rfl, rfl, tyX0_ok, nmX0⟩
set_option maxRecDepth 20000 in
theorem fl_X0_25 : FL gT RX0 25 0 3 0 := ⟨RX0, TX0, tyX0, rfl, by decide, gin0, rfl, gm 367 (by decide +kernel) rfl, rfl, tyX0_ok, nmX0⟩
set_option maxRecDepth 20000 in
theorem fl_X0_59 : FL gT RX0 59 10 3 0 := ⟨RX10, TX10, tyX10, rfl, by decide, gin10, rfl, gm 188 (by decide +kernel) rfl, rfl, tyX10_ok, nmX10⟩
set_option maxRecDepth 20000 in
theorem fl_X0_62 : FL gT RX0 62 0 2 0 := ⟨RX0, TX0, tyX0, rfl, by decide, gin0, rfl, gm 365 (by decide +kernel) rfl, rfl, tyX0_ok, nmX0⟩
set_option maxRecDepth 20000 in
theorem fl_X0_9 : FL gT RX0 9 0 0 2 := ⟨RX0, TX0, tyX0, rfl, by decide, gin0, rfl, gm 363 (by decide +kernel) rfl, rfl, tyX0_ok, nmX0⟩
set_option maxRecDepth 20000 in
theorem fl_X1_15 : FL gT RX1 15 1 1 2 := ⟨RX1, TX1, tyX1, rfl, by decide, gin1, rfl, gm 307 (by decide +kernel) rfl, rfl, tyX1_ok, nmX1⟩
set_option maxRecDepth 20000 in
theorem fl_X1_18 : FL gT RX1 18 1 2 2 := ⟨RX1, TX1, tyX1, rfl, by decide, gin1, rfl, gm 308 (by decide +kernel) rfl, rfl, tyX1_ok, nmX1⟩
set_option maxRecDepth 20000 in
theorem fl_X1_21 : FL gT RX1 21 2 4 0 := ⟨RX2, TX2, tyX2, rfl, by decide, gin2, rfl, gm 89 (by decide +kernel) rfl, rfl, tyX2_ok, nmX2⟩
set_option maxRecDepth 20000 in
theorem fl_X1_33 : FL gT RX1 33 2 5 0 := ⟨RX2, TX2, tyX2, rfl, by decide, gin2, rfl, gm 97 (by decide +kernel) rfl, rfl, tyX2_ok, nmX2⟩
set_option maxRecDepth 20000 in
theorem fl_X1_40 : FL gT RX1 40 2 8 2 := ⟨RX2, TX2, tyX2, rfl, by decide, gin2, rfl, gm 108 (by decide +kernel) rfl, rfl, tyX2_ok, nmX2⟩
set_option maxRecDepth 20000 in
theorem fl_X1_9 : FL gT RX1 9 1 0 2 := ⟨RX1, TX1, tyX1, rfl, by decide, gin1, rfl, gm 306 (by decide +kernel) rfl, rfl, tyX1_ok, nmX1⟩
set_option maxRecDepth 20000 in
theorem fl_X10_108 : FL gT RX10 108 2 4 0 := ⟨RX2, TX2, tyX2, rfl, by decide, gin2, rfl, gm 95 (by decide +kernel) rfl, rfl, tyX2_ok, nmX2⟩
set_option maxRecDepth 20000 in
theorem fl_X10_15 : FL gT RX10 15 10 0 2 := ⟨RX10, TX10, tyX10, rfl, by decide, gin10, rfl, gm 179 (by decide +kernel) rfl, rfl, tyX10_ok, nmX10⟩
set_option maxRecDepth 20000 in
theorem fl_X10_19 : FL gT RX10 19 10 1 2 := ⟨RX10, TX10, tyX10, rfl, by decide, gin10, rfl, gm 182 (by decide +kernel) rfl, rfl, tyX10_ok, nmX10⟩
set_option maxRecDepth 20000 in
theorem fl_X10_29 : FL gT RX10 29 10 3 0 := ⟨RX10, TX10, tyX10, rfl, by decide, gin10, rfl, gm 187 (by decide +kernel) rfl, rfl, tyX10_ok, nmX10⟩
set_option maxRecDepth 20000 in
theorem fl_X10_33 : FL gT RX10 33 2 2 0 := ⟨RX2, TX2, tyX2, rfl, by decide, gin2, rfl, gm 81 (by decide +kernel) rfl, rfl, tyX2_ok, nmX2⟩
set_option maxRecDepth 20000 in
theorem fl_X10_38 : FL gT RX10 38 10 4 0 := ⟨RX10, TX10, tyX10, rfl, by decide, gin10, rfl, gm 192 (by decide +kernel) rfl, rfl, tyX10_ok, nmX10⟩
set_option maxRecDepth 20000 in
theorem fl_X10_41 : FL gT RX10 41 10 5 0 := ⟨RX10, TX10, tyX10, rfl, by decide, gin10, rfl, gm 195 (by decide +kernel) rfl, rfl, tyX10_ok, nmX10⟩
set_option maxRecDepth 20000 in
theorem fl_X10_44 : FL gT RX10 44 10 6 0 := ⟨RX10, TX10, tyX10, rfl, by decide, gin10, rfl, gm 198 (by decide +kernel) rfl, rfl, tyX10_ok, nmX10⟩
set_option maxRecDepth 20000 in
theorem fl_X10_57 : FL gT RX10 57 2 5 0 := ⟨RX2, TX2, tyX2, rfl, by decide, gin2, rfl, gm 99 (by decide +kernel) rfl, rfl, tyX2_ok, nmX2⟩
set_option maxRecDepth 20000 in
theorem fl_X10_68 : FL gT RX10 68 2 8 2 := ⟨RX2, TX2, tyX2, rfl, by decide, gin2, rfl, gm 112 (by decide +kernel) rfl, rfl, tyX2_ok, nmX2⟩
set_option maxRecDepth 20000 in
theorem fl_X10_9 : FL gT RX10 9 10 2 2 := ⟨RX10, TX10, tyX10, rfl, by decide, gin10, rfl, gm 185 (by decide +kernel) rfl, rfl, tyX10_ok, nmX10⟩
set_option maxRecDepth 20000 in
theorem fl_X11_10 : FL gT RX11 10 11 0 2 := ⟨RX11, TX11, tyX11, rfl, by decide, gin11, rfl, gm 379 (by decide +kernel) rfl, rfl, tyX11_ok, nmX11⟩
set_option maxRecDepth 20000 in
theorem fl_X11_101 : FL gT RX11 101 11 14 2 := ⟨RX11, TX11, tyX11, rfl, by decide, gin11, rfl, gm 393 (by decide +kernel) rfl, rfl, tyX11_ok, nmX11⟩
set_option maxRecDepth 20000 in
theorem fl_X11_105 : FL gT RX11 105 8 1 0 := ⟨RX8, TX8, tyX8, rfl, by decide, gin8, rfl, gm 37 (by decide +kernel) rfl, rfl, tyX8_ok, nmX8⟩
set_option maxRecDepth 20000 in
theorem fl_X11_116 : FL gT RX11 116 4 2 0 := ⟨RX4, TX4, tyX4, rfl, by decide, gin4, rfl, gm 142 (by decide +kernel) rfl, rfl, tyX4_ok, nmX4⟩
set_option maxRecDepth 20000 in
theorem fl_X11_119 : FL gT RX11 119 4 1 2 := ⟨RX4, TX4, tyX4, rfl, by decide, gin4, rfl, gm 140 (by decide +kernel) rfl, rfl, tyX4_ok, nmX4⟩
set_option maxRecDepth 20000 in
theorem fl_X11_127 : FL gT RX11 127 2 0 0 := ⟨RX2, TX2, tyX2, rfl, by decide, gin2, rfl, gm 76 (by decide +kernel) rfl, rfl, tyX2_ok, nmX2⟩
set_option maxRecDepth 20000 in
theorem fl_X11_130 : FL gT RX11 130 4 3 0 := ⟨RX4, TX4, tyX4, rfl, by decide, gin4, rfl, gm 144 (by decide +kernel) rfl, rfl, tyX4_ok, nmX4⟩
set_option maxRecDepth 20000 in
theorem fl_X11_137 : FL gT RX11 137 2 8 2 := ⟨RX2, TX2, tyX2, rfl, by decide, gin2, rfl, gm 110 (by decide +kernel) rfl, rfl, tyX2_ok, nmX2⟩
set_option maxRecDepth 20000 in
theorem fl_X11_144 : FL gT RX11 144 2 4 0 := ⟨RX2, TX2, tyX2, rfl, by decide, gin2, rfl, gm 94 (by decide +kernel) rfl, rfl, tyX2_ok, nmX2⟩
set_option maxRecDepth 20000 in
theorem fl_X11_174 : FL gT RX11 174 2 5 0 := ⟨RX2, TX2, tyX2, rfl, by decide, gin2, rfl, gm 101 (by decide +kernel) rfl, rfl, tyX2_ok, nmX2⟩
set_option maxRecDepth 20000 in
theorem fl_X11_177 : FL gT RX11 177 10 3 0 := ⟨RX10, TX10, tyX10, rfl, by decide, gin10, rfl, gm 191 (by decide +kernel) rfl, rfl, tyX10_ok, nmX10⟩
set_option maxRecDepth 20000 in
theorem fl_X11_180 : FL gT RX11 180 10 4 0 := ⟨RX10, TX10, tyX10, rfl, by decide, gin10, rfl, gm 194 (by decide +kernel) rfl, rfl, tyX10_ok, nmX10⟩
set_option maxRecDepth 20000 in
theorem fl_X11_21 : FL gT RX11 21 11 1 2 := ⟨RX11, TX11, tyX11, rfl, by decide, gin11, rfl, gm 380 (by decide +kernel) rfl, rfl, tyX11_ok, nmX11⟩
set_option maxRecDepth 20000 in
theorem fl_X11_214 : FL gT RX11 214 2 6 0 := ⟨RX2, TX2, tyX2, rfl, by decide, gin2, rfl, gm 103 (by decide +kernel) rfl, rfl, tyX2_ok, nmX2⟩
set_option maxRecDepth 20000 in
theorem fl_X11_220 : FL gT RX11 220 2 7 2 := ⟨RX2, TX2, tyX2, rfl, by decide, gin2, rfl, gm 105 (by decide +kernel) rfl, rfl, tyX2_ok, nmX2⟩
set_option maxRecDepth 20000 in
theorem fl_X11_224 : FL gT RX11 224 10 5 0 := ⟨RX10, TX10, tyX10, rfl, by decide, gin10, rfl, gm 197 (by decide +kernel) rfl, rfl, tyX10_ok, nmX10⟩
set_option maxRecDepth 20000 in
theorem fl_X11_227 : FL gT RX11 227 10 6 0 := ⟨RX10, TX10, tyX10, rfl, by decide, gin10, rfl, gm 200 (by decide +kernel) rfl, rfl, tyX10_ok, nmX10⟩
set_option maxRecDepth 20000 in
theorem fl_X11_246 : FL gT RX11 246 5 11 0 := ⟨RX5, TX5, tyX5, rfl, by decide, gin5, rfl, gm 237 (by decide +kernel) rfl, rfl, tyX5_ok, nmX5⟩
set_option maxRecDepth 20000 in
theorem fl_X11_252 : FL gT RX11 252 5 10 0 := ⟨RX5, TX5, tyX5, rfl, by decide, gin5, rfl, gm 235 (by decide +kernel) rfl, rfl, tyX5_ok, nmX5⟩
set_option maxRecDepth 20000 in
theorem fl_X11_255 : FL gT RX11 255 5 12 0 := ⟨RX5, TX5, tyX5, rfl, by decide, gin5, rfl, gm 239 (by decide +kernel) rfl, rfl, tyX5_ok, nmX5⟩
set_option maxRecDepth 20000 in
theorem fl_X11_258 : FL gT RX11 258 5 13 0 := ⟨RX5, TX5, tyX5, rfl, by decide, gin5, rfl, gm 241 (by decide +kernel) rfl, rfl, tyX5_ok, nmX5⟩
set_option maxRecDepth 20000 in
theorem fl_X11_264 : FL gT RX11 264 11 15 0 := ⟨RX11, TX11, tyX11, rfl, by decide, gin11, rfl, gm 394 (by decide +kernel) rfl, rfl, tyX11_ok, nmX11⟩
set_option maxRecDepth 20000 in
theorem fl_X11_271 : FL gT RX11 271 11 16 0 := ⟨RX11, TX11, tyX11, rfl, by decide, gin11, rfl, gm 395 (by decide +kernel) rfl, rfl, tyX11_ok, nmX11⟩
set_option maxRecDepth 20000 in
theorem fl_X11_274 : FL gT RX11 274 11 17 0 := ⟨RX11, TX11, tyX11, rfl, by decide, gin11, rfl, gm 396 (by decide +kernel) rfl, rfl, tyX11_ok, nmX11⟩
set_option maxRecDepth 20000 in
theorem fl_X11_28 : FL gT RX11 28 11 2 2 := ⟨RX11, TX11, tyX11, rfl, by decide, gin11, rfl, gm 381 (by decide +kernel) rfl, rfl, tyX11_ok, nmX11⟩
set_option maxRecDepth 20000 in
theorem fl_X11_346 : FL gT RX11 346 0 2 0 := ⟨RX0, TX0, tyX0, rfl, by decide, gin0, rfl, gm 366 (by decide +kernel) rfl, rfl, tyX0_ok, nmX0⟩
set_option maxRecDepth 20000 in
theorem fl_X11_347 : FL gT RX11 347 0 3 0 := ⟨RX0, TX0, tyX0, rfl, by decide, gin0, rfl, gm 368 (by decide +kernel) rfl, rfl, tyX0_ok, nmX0⟩
set_option maxRecDepth 20000 in
theorem fl_X11_35 : FL gT RX11 35 11 3 2 := ⟨RX11, TX11, tyX11, rfl, by decide, gin11, rfl, gm 382 (by decide +kernel) rfl, rfl, tyX11_ok, nmX11⟩
set_option maxRecDepth 20000 in
theorem fl_X11_356 : FL gT RX11 356 2 1 0 := ⟨RX2, TX2, tyX2, rfl, by decide, gin2, rfl, gm 80 (by decide +kernel) rfl, rfl, tyX2_ok, nmX2⟩
set_option maxRecDepth 20000 in
theorem fl_X11_362 : FL gT RX11 362 2 3 0 := ⟨RX2, TX2, tyX2, rfl, by decide, gin2, rfl, gm 87 (by decide +kernel) rfl, rfl, tyX2_ok, nmX2⟩
set_option maxRecDepth 20000 in
theorem fl_X11_398 : FL gT RX11 398 5 6 0 := ⟨RX5, TX5, tyX5, rfl, by decide, gin5, rfl, gm 230 (by decide +kernel) rfl, rfl, tyX5_ok, nmX5⟩
set_option maxRecDepth 20000 in
theorem fl_X11_44 : FL gT RX11 44 11 4 2 := ⟨RX11, TX11, tyX11, rfl, by decide, gin11, rfl, gm 383 (by decide +kernel) rfl, rfl, tyX11_ok, nmX11⟩
set_option maxRecDepth 20000 in
theorem fl_X11_48 : FL gT RX11 48 11 5 2 := ⟨RX11, TX11, tyX11, rfl, by decide, gin11, rfl, gm 384 (by decide +kernel) rfl, rfl, tyX11_ok, nmX11⟩
set_option maxRecDepth 20000 in
theorem fl_X11_56 : FL gT RX11 56 11 6 2 := ⟨RX11, TX11, tyX11, rfl, by decide, gin11, rfl, gm 385 (by decide +kernel) rfl, rfl, tyX11_ok, nmX11⟩
set_option maxRecDepth 20000 in
theorem fl_X11_60 : FL gT RX11 60 11 7 2 := ⟨RX11, TX11, tyX11, rfl, by decide, gin11, rfl, gm 386 (by decide +kernel) rfl, rfl, tyX11_ok, nmX11⟩
set_option maxRecDepth 20000 in
theorem fl_X11_63 : FL gT RX11 63 11 8 2 := ⟨RX11, TX11, tyX11, rfl, by decide, gin11, rfl, gm 387 (by decide +kernel) rfl, rfl, tyX11_ok, nmX11⟩
set_option maxRecDepth 20000 in
theorem fl_X11_69 : FL gT RX11 69 11 9 2 := ⟨RX11, TX11, tyX11, rfl, by decide, gin11, rfl, gm 388 (by decide +kernel) rfl, rfl, tyX11_ok, nmX11⟩
set_option maxRecDepth 20000 in
theorem fl_X11_76 : FL gT RX11 76 11 10 2 := ⟨RX11, TX11, tyX11, rfl, by decide, gin11, rfl, gm 389 (by decide +kernel) rfl, rfl, tyX11_ok, nmX11⟩
set_option maxRecDepth 20000 in
theorem fl_X11_83 : FL gT RX11 83 11 11 2 := ⟨RX11, TX11, tyX11, rfl, by decide, gin11, rfl, gm 390 (by decide +kernel) rfl, rfl, tyX11_ok, nmX11⟩
set_option maxRecDepth 20000 in
theorem fl_X11_90 : FL gT RX11 90 11 12 2 := ⟨RX11, TX11, tyX11, rfl, by decide, gin11, rfl, gm 391 (by decide +kernel) rfl, rfl, tyX11_ok, nmX11⟩
set_option maxRecDepth 20000 in
theorem fl_X11_97 : FL gT RX11 97 11 13 2 := ⟨RX11, TX11, tyX11, rfl, by decide, gin11, rfl, gm 392 (by decide +kernel) rfl, rfl, tyX11_ok, nmX11⟩
set_option maxRecDepth 20000 in
theorem fl_X12_106 : FL gT RX12 106 12 6 0 := ⟨RX12, TX12, tyX12, rfl, by decide, gin12, rfl, gm 1323 (by decide +kernel) rfl, rfl, tyX12_ok, nmX12⟩
set_option maxRecDepth 20000 in
theorem fl_X12_113 : FL gT RX12 113 12 7 0 := ⟨RX12, TX12, tyX12, rfl, by decide, gin12, rfl, gm 1324 (by decide +kernel) rfl, rfl, tyX12_ok, nmX12⟩
set_option maxRecDepth 20000 in
theorem fl_X12_120 : FL gT RX12 120 12 9 0 := ⟨RX12, TX12, tyX12, rfl, by decide, gin12, rfl, gm 1326 (by decide +kernel) rfl, rfl, tyX12_ok, nmX12⟩
set_option maxRecDepth 20000 in
theorem fl_X12_123 : FL gT RX12 123 12 10 0 := ⟨RX12, TX12, tyX12, rfl, by decide, gin12, rfl, gm 1327 (by decide +kernel) rfl, rfl, tyX12_ok, nmX12⟩
set_option maxRecDepth 20000 in
theorem fl_X12_126 : FL gT RX12 126 12 11 1 := ⟨RX12, TX12, tyX12, rfl, by decide, gin12, rfl, gm 1328 (by decide +kernel) rfl, rfl, tyX12_ok, nmX12⟩
set_option maxRecDepth 20000 in
theorem fl_X12_13 : FL gT RX12 13 12 2 2 := ⟨RX12, TX12, tyX12, rfl, by decide, gin12, rfl, gm 1319 (by decide +kernel) rfl, rfl, tyX12_ok, nmX12⟩
set_option maxRecDepth 20000 in
theorem fl_X12_130 : FL gT RX12 130 12 8 0 := ⟨RX12, TX12, tyX12, rfl, by decide, gin12, rfl, gm 1325 (by decide +kernel) rfl, rfl, tyX12_ok, nmX12⟩
set_option maxRecDepth 20000 in
theorem fl_X12_141 : FL gT RX12 141 12 12 0 := ⟨RX12, TX12, tyX12, rfl, by decide, gin12, rfl, gm 1329 (by decide +kernel) rfl, rfl, tyX12_ok, nmX12⟩
set_option maxRecDepth 20000 in
theorem fl_X12_144 : FL gT RX12 144 12 13 0 := ⟨RX12, TX12, tyX12, rfl, by decide, gin12, rfl, gm 1330 (by decide +kernel) rfl, rfl, tyX12_ok, nmX12⟩
set_option maxRecDepth 20000 in
theorem fl_X12_16 : FL gT RX12 16 12 3 2 := ⟨RX12, TX12, tyX12, rfl, by decide, gin12, rfl, gm 1320 (by decide +kernel) rfl, rfl, tyX12_ok, nmX12⟩
set_option maxRecDepth 20000 in
theorem fl_X12_168 : FL gT RX12 168 12 14 0 := ⟨RX12, TX12, tyX12, rfl, by decide, gin12, rfl, gm 1331 (by decide +kernel) rfl, rfl, tyX12_ok, nmX12⟩
set_option maxRecDepth 20000 in
theorem fl_X12_20 : FL gT RX12 20 12 4 2 := ⟨RX12, TX12, tyX12, rfl, by decide, gin12, rfl, gm 1321 (by decide +kernel) rfl, rfl, tyX12_ok, nmX12⟩
set_option maxRecDepth 20000 in
theorem fl_X12_23 : FL gT RX12 23 12 5 2 := ⟨RX12, TX12, tyX12, rfl, by decide, gin12, rfl, gm 1322 (by decide +kernel) rfl, rfl, tyX12_ok, nmX12⟩
set_option maxRecDepth 20000 in
theorem fl_X12_27 : FL gT RX12 27 12 15 0 := ⟨RX12, TX12, tyX12, rfl, by decide, gin12, rfl, gm 1332 (by decide +kernel) rfl, rfl, tyX12_ok, nmX12⟩
set_option maxRecDepth 20000 in
theorem fl_X12_300 : FL gT RX12 300 12 25 0 := ⟨RX12, TX12, tyX12, rfl, by decide, gin12, rfl, gm 1342 (by decide +kernel) rfl, rfl, tyX12_ok, nmX12⟩
set_option maxRecDepth 20000 in
theorem fl_X12_303 : FL gT RX12 303 12 26 0 := ⟨RX12, TX12, tyX12, rfl, by decide, gin12, rfl, gm 1343 (by decide +kernel) rfl, rfl, tyX12_ok, nmX12⟩
set_option maxRecDepth 20000 in
theorem fl_X12_306 : FL gT RX12 306 12 27 0 := ⟨RX12, TX12, tyX12, rfl, by decide, gin12, rfl, gm 1344 (by decide +kernel) rfl, rfl, tyX12_ok, nmX12⟩
set_option maxRecDepth 20000 in
theorem fl_X12_309 : FL gT RX12 309 12 28 0 := ⟨RX12, TX12, tyX12, rfl, by decide, gin12, rfl, gm 1345 (by decide +kernel) rfl, rfl, tyX12_ok, nmX12⟩
set_option maxRecDepth 20000 in
theorem fl_X12_31 : FL gT RX12 31 12 16 2 := ⟨RX12, TX12, tyX12, rfl, by decide, gin12, rfl, gm 1333 (by decide +kernel) rfl, rfl, tyX12_ok, nmX12⟩
set_option maxRecDepth 20000 in
theorem fl_X12_318 : FL gT RX12 318 12 31 0 := ⟨RX12, TX12, tyX12, rfl, by decide, gin12, rfl, gm 1348 (by decide +kernel) rfl, rfl, tyX12_ok, nmX12⟩
set_option maxRecDepth 20000 in
theorem fl_X12_34 : FL gT RX12 34 12 17 2 := ⟨RX12, TX12, tyX12, rfl, by decide, gin12, rfl, gm 1334 (by decide +kernel) rfl, rfl, tyX12_ok, nmX12⟩
set_option maxRecDepth 20000 in
theorem fl_X12_348 : FL gT RX12 348 12 32 0 := ⟨RX12, TX12, tyX12, rfl, by decide, gin12, rfl, gm 1349 (by decide +kernel) rfl, rfl, tyX12_ok, nmX12⟩
set_option maxRecDepth 20000 in
theorem fl_X12_351 : FL gT RX12 351 12 35 0 := ⟨RX12, TX12, tyX12, rfl, by decide, gin12, rfl, gm 1352 (by decide +kernel) rfl, rfl, tyX12_ok, nmX12⟩
set_option maxRecDepth 20000 in
theorem fl_X12_354 : FL gT RX12 354 12 36 0 := ⟨RX12, TX12, tyX12, rfl, by decide, gin12, rfl, gm 1353 (by decide +kernel) rfl, rfl, tyX12_ok, nmX12⟩
set_option maxRecDepth 20000 in
theorem fl_X12_357 : FL gT RX12 357 12 37 0 := ⟨RX12, TX12, tyX12, rfl, by decide, gin12, rfl, gm 1354 (by decide +kernel) rfl, rfl, tyX12_ok, nmX12⟩
set_option maxRecDepth 20000 in
theorem fl_X12_363 : FL gT RX12 363 12 33 0 := ⟨RX12, TX12, tyX12, rfl, by decide, gin12, rfl, gm 1350 (by decide +kernel) rfl, rfl, tyX12_ok, nmX12⟩
set_option maxRecDepth 20000 in
theorem fl_X12_366 : FL gT RX12 366 12 34 0 := ⟨RX12, TX12, tyX12, rfl, by decide, gin12, rfl, gm 1351 (by decide +kernel) rfl, rfl, tyX12_ok, nmX12⟩
set_option maxRecDepth 20000 in
theorem fl_X12_37 : FL gT RX12 37 12 18 2 := ⟨RX12, TX12, tyX12, rfl, by decide, gin12, rfl, gm 1335 (by decide +kernel) rfl, rfl, tyX12_ok, nmX12⟩
set_option maxRecDepth 20000 in
theorem fl_X12_372 : FL gT RX12 372 12 40 0 := ⟨RX12, TX12, tyX12, rfl, by decide, gin12, rfl, gm 1357 (by decide +kernel) rfl, rfl, tyX12_ok, nmX12⟩
set_option maxRecDepth 20000 in
theorem fl_X12_391 : FL gT RX12 391 12 42 0 := ⟨RX12, TX12, tyX12, rfl, by decide, gin12, rfl, gm 1359 (by decide +kernel) rfl, rfl, tyX12_ok, nmX12⟩
set_option maxRecDepth 20000 in
theorem fl_X12_394 : FL gT RX12 394 12 43 0 := ⟨RX12, TX12, tyX12, rfl, by decide, gin12, rfl, gm 1360 (by decide +kernel) rfl, rfl, tyX12_ok, nmX12⟩
set_option maxRecDepth 20000 in
theorem fl_X12_40 : FL gT RX12 40 12 19 2 := ⟨RX12, TX12, tyX12, rfl, by decide, gin12, rfl, gm 1336 (by decide +kernel) rfl, rfl, tyX12_ok, nmX12⟩
set_option maxRecDepth 20000 in
theorem fl_X12_43 : FL gT RX12 43 12 20 2 := ⟨RX12, TX12, tyX12, rfl, by decide, gin12, rfl, gm 1337 (by decide +kernel) rfl, rfl, tyX12_ok, nmX12⟩
set_option maxRecDepth 20000 in
theorem fl_X12_46 : FL gT RX12 46 12 21 2 := ⟨RX12, TX12, tyX12, rfl, by decide, gin12, rfl, gm 1338 (by decide +kernel) rfl, rfl, tyX12_ok, nmX12⟩
set_option maxRecDepth 20000 in
theorem fl_X12_461 : FL gT RX12 461 12 49 0 := ⟨RX12, TX12, tyX12, rfl, by decide, gin12, rfl, gm 1366 (by decide +kernel) rfl, rfl, tyX12_ok, nmX12⟩
set_option maxRecDepth 20000 in
theorem fl_X12_49 : FL gT RX12 49 12 22 2 := ⟨RX12, TX12, tyX12, rfl, by decide, gin12, rfl, gm 1339 (by decide +kernel) rfl, rfl, tyX12_ok, nmX12⟩
set_option maxRecDepth 20000 in
theorem fl_X12_52 : FL gT RX12 52 12 23 2 := ⟨RX12, TX12, tyX12, rfl, by decide, gin12, rfl, gm 1340 (by decide +kernel) rfl, rfl, tyX12_ok, nmX12⟩
set_option maxRecDepth 20000 in
theorem fl_X12_56 : FL gT RX12 56 12 24 2 := ⟨RX12, TX12, tyX12, rfl, by decide, gin12, rfl, gm 1341 (by decide +kernel) rfl, rfl, tyX12_ok, nmX12⟩
set_option maxRecDepth 20000 in
theorem fl_X12_59 : FL gT RX12 59 12 29 2 := ⟨RX12, TX12, tyX12, rfl, by decide, gin12, rfl, gm 1346 (by decide +kernel) rfl, rfl, tyX12_ok, nmX12⟩
set_option maxRecDepth 20000 in
theorem fl_X12_62 : FL gT RX12 62 12 30 2 := ⟨RX12, TX12, tyX12, rfl, by decide, gin12, rfl, gm 1347 (by decide +kernel) rfl, rfl, tyX12_ok, nmX12⟩
set_option maxRecDepth 20000 in
theorem fl_X12_65 : FL gT RX12 65 12 38 2 := ⟨RX12, TX12, tyX12, rfl, by decide, gin12, rfl, gm 1355 (by decide +kernel) rfl, rfl, tyX12_ok, nmX12⟩
set_option maxRecDepth 20000 in
theorem fl_X12_68 : FL gT RX12 68 12 39 2 := ⟨RX12, TX12, tyX12, rfl, by decide, gin12, rfl, gm 1356 (by decide +kernel) rfl, rfl, tyX12_ok, nmX12⟩
set_option maxRecDepth 20000 in
theorem fl_X12_7 : FL gT RX12 7 12 1 2 := ⟨RX12, TX12, tyX12, rfl, by decide, gin12, rfl, gm 1318 (by decide +kernel) rfl, rfl, tyX12_ok, nmX12⟩
set_option maxRecDepth 20000 in
theorem fl_X12_71 : FL gT RX12 71 12 41 2 := ⟨RX12, TX12, tyX12, rfl, by decide, gin12, rfl, gm 1358 (by decide +kernel) rfl, rfl, tyX12_ok, nmX12⟩
set_option maxRecDepth 20000 in
theorem fl_X12_74 : FL gT RX12 74 12 44 2 := ⟨RX12, TX12, tyX12, rfl, by decide, gin12, rfl, gm 1361 (by decide +kernel) rfl, rfl, tyX12_ok, nmX12⟩
set_option maxRecDepth 20000 in
theorem fl_X12_77 : FL gT RX12 77 12 45 2 := ⟨RX12, TX12, tyX12, rfl, by decide, gin12, rfl, gm 1362 (by decide +kernel) rfl, rfl, tyX12_ok, nmX12⟩
set_option maxRecDepth 20000 in
theorem fl_X12_80 : FL gT RX12 80 12 46 2 := ⟨RX12, TX12, tyX12, rfl, by decide, gin12, rfl, gm 1363 (by decide +kernel) rfl, rfl, tyX12_ok, nmX12⟩
set_option maxRecDepth 20000 in
theorem fl_X12_83 : FL gT RX12 83 12 47 2 := ⟨RX12, TX12, tyX12, rfl, by decide, gin12, rfl, gm 1364 (by decide +kernel) rfl, rfl, tyX12_ok, nmX12⟩
set_option maxRecDepth 20000 in
theorem fl_X12_86 : FL gT RX12 86 12 48 2 := ⟨RX12, TX12, tyX12, rfl, by decide, gin12, rfl, gm 1365 (by decide +kernel) rfl, rfl, tyX12_ok, nmX12⟩
set_option maxRecDepth 20000 in
theorem fl_X12_89 : FL gT RX12 89 12 0 0 := ⟨RX12, TX12, tyX12, rfl, by decide, gin12, rfl, gm 1317 (by decide +kernel) rfl, rfl, tyX12_ok, nmX12⟩
set_option maxRecDepth 20000 in
theorem fl_X2_17 : FL gT RX2 17 2 8 2 := ⟨RX2, TX2, tyX2, rfl, by decide, gin2, rfl, gm 106 (by decide +kernel) rfl, rfl, tyX2_ok, nmX2⟩
set_option maxRecDepth 20000 in
theorem fl_X2_20 : FL gT RX2 20 2 9 2 := ⟨RX2, TX2, tyX2, rfl, by decide, gin2, rfl, gm 113 (by decide +kernel) rfl, rfl, tyX2_ok, nmX2⟩
set_option maxRecDepth 20000 in
theorem fl_X2_23 : FL gT RX2 23 2 0 0 := ⟨RX2, TX2, tyX2, rfl, by decide, gin2, rfl, gm 74 (by decide +kernel) rfl, rfl, tyX2_ok, nmX2⟩
set_option maxRecDepth 20000 in
theorem fl_X2_27 : FL gT RX2 27 2 1 0 := ⟨RX2, TX2, tyX2, rfl, by decide, gin2, rfl, gm 77 (by decide +kernel) rfl, rfl, tyX2_ok, nmX2⟩
set_option maxRecDepth 20000 in
theorem fl_X2_30 : FL gT RX2 30 2 2 0 := ⟨RX2, TX2, tyX2, rfl, by decide, gin2, rfl, gm 82 (by decide +kernel) rfl, rfl, tyX2_ok, nmX2⟩
set_option maxRecDepth 20000 in
theorem fl_X2_33 : FL gT RX2 33 2 3 0 := ⟨RX2, TX2, tyX2, rfl, by decide, gin2, rfl, gm 84 (by decide +kernel) rfl, rfl, tyX2_ok, nmX2⟩
set_option maxRecDepth 20000 in
theorem fl_X2_36 : FL gT RX2 36 2 4 0 := ⟨RX2, TX2, tyX2, rfl, by decide, gin2, rfl, gm 91 (by decide +kernel) rfl, rfl, tyX2_ok, nmX2⟩
set_option maxRecDepth 20000 in
theorem fl_X2_39 : FL gT RX2 39 2 5 0 := ⟨RX2, TX2, tyX2, rfl, by decide, gin2, rfl, gm 96 (by decide +kernel) rfl, rfl, tyX2_ok, nmX2⟩
set_option maxRecDepth 20000 in
theorem fl_X2_42 : FL gT RX2 42 2 6 0 := ⟨RX2, TX2, tyX2, rfl, by decide, gin2, rfl, gm 102 (by decide +kernel) rfl, rfl, tyX2_ok, nmX2⟩
set_option maxRecDepth 20000 in
theorem fl_X2_9 : FL gT RX2 9 2 7 2 := ⟨RX2, TX2, tyX2, rfl, by decide, gin2, rfl, gm 104 (by decide +kernel) rfl, rfl, tyX2_ok, nmX2⟩
set_option maxRecDepth 20000 in
theorem fl_X3_15 : FL gT RX3 15 3 2 2 := ⟨RX3, TX3, tyX3, rfl, by decide, gin3, rfl, gm 343 (by decide +kernel) rfl, rfl, tyX3_ok, nmX3⟩
set_option maxRecDepth 20000 in
theorem fl_X3_18 : FL gT RX3 18 3 3 2 := ⟨RX3, TX3, tyX3, rfl, by decide, gin3, rfl, gm 344 (by decide +kernel) rfl, rfl, tyX3_ok, nmX3⟩
set_option maxRecDepth 20000 in
theorem fl_X3_21 : FL gT RX3 21 3 0 2 := ⟨RX3, TX3, tyX3, rfl, by decide, gin3, rfl, gm 341 (by decide +kernel) rfl, rfl, tyX3_ok, nmX3⟩
set_option maxRecDepth 20000 in
theorem fl_X3_31 : FL gT RX3 31 3 4 0 := ⟨RX3, TX3, tyX3, rfl, by decide, gin3, rfl, gm 345 (by decide +kernel) rfl, rfl, tyX3_ok, nmX3⟩
set_option maxRecDepth 20000 in
theorem fl_X3_39 : FL gT RX3 39 10 0 2 := ⟨RX10, TX10, tyX10, rfl, by decide, gin10, rfl, gm 181 (by decide +kernel) rfl, rfl, tyX10_ok, nmX10⟩
set_option maxRecDepth 20000 in
theorem fl_X3_45 : FL gT RX3 45 2 3 0 := ⟨RX2, TX2, tyX2, rfl, by decide, gin2, rfl, gm 85 (by decide +kernel) rfl, rfl, tyX2_ok, nmX2⟩
set_option maxRecDepth 20000 in
theorem fl_X3_68 : FL gT RX3 68 10 3 0 := ⟨RX10, TX10, tyX10, rfl, by decide, gin10, rfl, gm 189 (by decide +kernel) rfl, rfl, tyX10_ok, nmX10⟩
set_option maxRecDepth 20000 in
theorem fl_X3_9 : FL gT RX3 9 3 1 2 := ⟨RX3, TX3, tyX3, rfl, by decide, gin3, rfl, gm 342 (by decide +kernel) rfl, rfl, tyX3_ok, nmX3⟩
set_option maxRecDepth 20000 in
theorem fl_X3_90 : FL gT RX3 90 10 1 2 := ⟨RX10, TX10, tyX10, rfl, by decide, gin10, rfl, gm 183 (by decide +kernel) rfl, rfl, tyX10_ok, nmX10⟩
set_option maxRecDepth 20000 in
theorem fl_X4_103 : FL gT RX4 103 2 2 0 := ⟨RX2, TX2, tyX2, rfl, by decide, gin2, rfl, gm 83 (by decide +kernel) rfl, rfl, tyX2_ok, nmX2⟩
set_option maxRecDepth 20000 in
theorem fl_X4_108 : FL gT RX4 108 2 3 0 := ⟨RX2, TX2, tyX2, rfl, by decide, gin2, rfl, gm 86 (by decide +kernel) rfl, rfl, tyX2_ok, nmX2⟩
set_option maxRecDepth 20000 in
theorem fl_X4_111 : FL gT RX4 111 2 4 0 := ⟨RX2, TX2, tyX2, rfl, by decide, gin2, rfl, gm 92 (by decide +kernel) rfl, rfl, tyX2_ok, nmX2⟩
set_option maxRecDepth 20000 in
theorem fl_X4_12 : FL gT RX4 12 4 1 2 := ⟨RX4, TX4, tyX4, rfl, by decide, gin4, rfl, gm 139 (by decide +kernel) rfl, rfl, tyX4_ok, nmX4⟩
set_option maxRecDepth 20000 in
theorem fl_X4_136 : FL gT RX4 136 2 8 2 := ⟨RX2, TX2, tyX2, rfl, by decide, gin2, rfl, gm 109 (by decide +kernel) rfl, rfl, tyX2_ok, nmX2⟩
set_option maxRecDepth 20000 in
theorem fl_X4_147 : FL gT RX4 147 2 9 2 := ⟨RX2, TX2, tyX2, rfl, by decide, gin2, rfl, gm 115 (by decide +kernel) rfl, rfl, tyX2_ok, nmX2⟩
set_option maxRecDepth 20000 in
theorem fl_X4_150 : FL gT RX4 150 2 5 0 := ⟨RX2, TX2, tyX2, rfl, by decide, gin2, rfl, gm 100 (by decide +kernel) rfl, rfl, tyX2_ok, nmX2⟩
set_option maxRecDepth 20000 in
theorem fl_X4_152 : FL gT RX4 152 8 5 0 := ⟨RX8, TX8, tyX8, rfl, by decide, gin8, rfl, gm 45 (by decide +kernel) rfl, rfl, tyX8_ok, nmX8⟩
set_option maxRecDepth 20000 in
theorem fl_X4_159 : FL gT RX4 159 8 3 0 := ⟨RX8, TX8, tyX8, rfl, by decide, gin8, rfl, gm 42 (by decide +kernel) rfl, rfl, tyX8_ok, nmX8⟩
set_option maxRecDepth 20000 in
theorem fl_X4_18 : FL gT RX4 18 4 3 0 := ⟨RX4, TX4, tyX4, rfl, by decide, gin4, rfl, gm 143 (by decide +kernel) rfl, rfl, tyX4_ok, nmX4⟩
set_option maxRecDepth 20000 in
theorem fl_X4_22 : FL gT RX4 22 4 0 2 := ⟨RX4, TX4, tyX4, rfl, by decide, gin4, rfl, gm 138 (by decide +kernel) rfl, rfl, tyX4_ok, nmX4⟩
set_option maxRecDepth 20000 in
theorem fl_X4_29 : FL gT RX4 29 4 2 0 := ⟨RX4, TX4, tyX4, rfl, by decide, gin4, rfl, gm 141 (by decide +kernel) rfl, rfl, tyX4_ok, nmX4⟩
set_option maxRecDepth 20000 in
theorem fl_X4_37 : FL gT RX4 37 8 2 0 := ⟨RX8, TX8, tyX8, rfl, by decide, gin8, rfl, gm 39 (by decide +kernel) rfl, rfl, tyX8_ok, nmX8⟩
set_option maxRecDepth 20000 in
theorem fl_X4_49 : FL gT RX4 49 2 0 0 := ⟨RX2, TX2, tyX2, rfl, by decide, gin2, rfl, gm 75 (by decide +kernel) rfl, rfl, tyX2_ok, nmX2⟩
set_option maxRecDepth 20000 in
theorem fl_X4_99 : FL gT RX4 99 2 1 0 := ⟨RX2, TX2, tyX2, rfl, by decide, gin2, rfl, gm 79 (by decide +kernel) rfl, rfl, tyX2_ok, nmX2⟩
set_option maxRecDepth 20000 in
theorem fl_X5_101 : FL gT RX5 101 10 1 2 := ⟨RX10, TX10, tyX10, rfl, by decide, gin10, rfl, gm 184 (by decide +kernel) rfl, rfl, tyX10_ok, nmX10⟩
set_option maxRecDepth 20000 in
theorem fl_X5_111 : FL gT RX5 111 2 8 2 := ⟨RX2, TX2, tyX2, rfl, by decide, gin2, rfl, gm 111 (by decide +kernel) rfl, rfl, tyX2_ok, nmX2⟩
set_option maxRecDepth 20000 in
theorem fl_X5_124 : FL gT RX5 124 10 3 0 := ⟨RX10, TX10, tyX10, rfl, by decide, gin10, rfl, gm 190 (by decide +kernel) rfl, rfl, tyX10_ok, nmX10⟩
set_option maxRecDepth 20000 in
theorem fl_X5_127 : FL gT RX5 127 10 4 0 := ⟨RX10, TX10, tyX10, rfl, by decide, gin10, rfl, gm 193 (by decide +kernel) rfl, rfl, tyX10_ok, nmX10⟩
set_option maxRecDepth 20000 in
theorem fl_X5_130 : FL gT RX5 130 10 5 0 := ⟨RX10, TX10, tyX10, rfl, by decide, gin10, rfl, gm 196 (by decide +kernel) rfl, rfl, tyX10_ok, nmX10⟩
set_option maxRecDepth 20000 in
theorem fl_X5_133 : FL gT RX5 133 10 6 0 := ⟨RX10, TX10, tyX10, rfl, by decide, gin10, rfl, gm 199 (by decide +kernel) rfl, rfl, tyX10_ok, nmX10⟩
set_option maxRecDepth 20000 in
theorem fl_X5_15 : FL gT RX5 15 5 2 2 := ⟨RX5, TX5, tyX5, rfl, by decide, gin5, rfl, gm 225 (by decide +kernel) rfl, rfl, tyX5_ok, nmX5⟩
set_option maxRecDepth 20000 in
theorem fl_X5_18 : FL gT RX5 18 5 3 2 := ⟨RX5, TX5, tyX5, rfl, by decide, gin5, rfl, gm 226 (by decide +kernel) rfl, rfl, tyX5_ok, nmX5⟩
set_option maxRecDepth 20000 in
theorem fl_X5_23 : FL gT RX5 23 5 4 2 := ⟨RX5, TX5, tyX5, rfl, by decide, gin5, rfl, gm 227 (by decide +kernel) rfl, rfl, tyX5_ok, nmX5⟩
set_option maxRecDepth 20000 in
theorem fl_X5_26 : FL gT RX5 26 5 5 2 := ⟨RX5, TX5, tyX5, rfl, by decide, gin5, rfl, gm 228 (by decide +kernel) rfl, rfl, tyX5_ok, nmX5⟩
set_option maxRecDepth 20000 in
theorem fl_X5_29 : FL gT RX5 29 5 0 2 := ⟨RX5, TX5, tyX5, rfl, by decide, gin5, rfl, gm 223 (by decide +kernel) rfl, rfl, tyX5_ok, nmX5⟩
set_option maxRecDepth 20000 in
theorem fl_X5_39 : FL gT RX5 39 10 2 2 := ⟨RX10, TX10, tyX10, rfl, by decide, gin10, rfl, gm 186 (by decide +kernel) rfl, rfl, tyX10_ok, nmX10⟩
set_option maxRecDepth 20000 in
theorem fl_X5_41 : FL gT RX5 41 5 7 0 := ⟨RX5, TX5, tyX5, rfl, by decide, gin5, rfl, gm 231 (by decide +kernel) rfl, rfl, tyX5_ok, nmX5⟩
set_option maxRecDepth 20000 in
theorem fl_X5_49 : FL gT RX5 49 5 8 0 := ⟨RX5, TX5, tyX5, rfl, by decide, gin5, rfl, gm 232 (by decide +kernel) rfl, rfl, tyX5_ok, nmX5⟩
set_option maxRecDepth 20000 in
theorem fl_X5_53 : FL gT RX5 53 5 9 0 := ⟨RX5, TX5, tyX5, rfl, by decide, gin5, rfl, gm 233 (by decide +kernel) rfl, rfl, tyX5_ok, nmX5⟩
set_option maxRecDepth 20000 in
theorem fl_X5_56 : FL gT RX5 56 5 10 0 := ⟨RX5, TX5, tyX5, rfl, by decide, gin5, rfl, gm 234 (by decide +kernel) rfl, rfl, tyX5_ok, nmX5⟩
set_option maxRecDepth 20000 in
theorem fl_X5_59 : FL gT RX5 59 5 11 0 := ⟨RX5, TX5, tyX5, rfl, by decide, gin5, rfl, gm 236 (by decide +kernel) rfl, rfl, tyX5_ok, nmX5⟩
set_option maxRecDepth 20000 in
theorem fl_X5_62 : FL gT RX5 62 5 12 0 := ⟨RX5, TX5, tyX5, rfl, by decide, gin5, rfl, gm 238 (by decide +kernel) rfl, rfl, tyX5_ok, nmX5⟩
set_option maxRecDepth 20000 in
theorem fl_X5_65 : FL gT RX5 65 5 13 0 := ⟨RX5, TX5, tyX5, rfl, by decide, gin5, rfl, gm 240 (by decide +kernel) rfl, rfl, tyX5_ok, nmX5⟩
set_option maxRecDepth 20000 in
theorem fl_X5_68 : FL gT RX5 68 10 0 2 := ⟨RX10, TX10, tyX10, rfl, by decide, gin10, rfl, gm 180 (by decide +kernel) rfl, rfl, tyX10_ok, nmX10⟩
set_option maxRecDepth 20000 in
theorem fl_X5_72 : FL gT RX5 72 2 5 0 := ⟨RX2, TX2, tyX2, rfl, by decide, gin2, rfl, gm 98 (by decide +kernel) rfl, rfl, tyX2_ok, nmX2⟩
set_option maxRecDepth 20000 in
theorem fl_X5_84 : FL gT RX5 84 5 6 0 := ⟨RX5, TX5, tyX5, rfl, by decide, gin5, rfl, gm 229 (by decide +kernel) rfl, rfl, tyX5_ok, nmX5⟩
set_option maxRecDepth 20000 in
theorem fl_X5_9 : FL gT RX5 9 5 1 2 := ⟨RX5, TX5, tyX5, rfl, by decide, gin5, rfl, gm 224 (by decide +kernel) rfl, rfl, tyX5_ok, nmX5⟩
set_option maxRecDepth 20000 in
theorem fl_X5_95 : FL gT RX5 95 2 4 0 := ⟨RX2, TX2, tyX2, rfl, by decide, gin2, rfl, gm 93 (by decide +kernel) rfl, rfl, tyX2_ok, nmX2⟩
set_option maxRecDepth 20000 in
theorem fl_X6_15 : FL gT RX6 15 6 1 2 := ⟨RX6, TX6, tyX6, rfl, by decide, gin6, rfl, gm 278 (by decide +kernel) rfl, rfl, tyX6_ok, nmX6⟩
set_option maxRecDepth 20000 in
theorem fl_X6_18 : FL gT RX6 18 6 2 2 := ⟨RX6, TX6, tyX6, rfl, by decide, gin6, rfl, gm 279 (by decide +kernel) rfl, rfl, tyX6_ok, nmX6⟩
set_option maxRecDepth 20000 in
theorem fl_X6_22 : FL gT RX6 22 6 3 2 := ⟨RX6, TX6, tyX6, rfl, by decide, gin6, rfl, gm 280 (by decide +kernel) rfl, rfl, tyX6_ok, nmX6⟩
set_option maxRecDepth 20000 in
theorem fl_X6_25 : FL gT RX6 25 6 4 2 := ⟨RX6, TX6, tyX6, rfl, by decide, gin6, rfl, gm 281 (by decide +kernel) rfl, rfl, tyX6_ok, nmX6⟩
set_option maxRecDepth 20000 in
theorem fl_X6_28 : FL gT RX6 28 2 4 0 := ⟨RX2, TX2, tyX2, rfl, by decide, gin2, rfl, gm 88 (by decide +kernel) rfl, rfl, tyX2_ok, nmX2⟩
set_option maxRecDepth 20000 in
theorem fl_X6_40 : FL gT RX6 40 6 5 0 := ⟨RX6, TX6, tyX6, rfl, by decide, gin6, rfl, gm 282 (by decide +kernel) rfl, rfl, tyX6_ok, nmX6⟩
set_option maxRecDepth 20000 in
theorem fl_X6_41 : FL gT RX6 41 6 6 0 := ⟨RX6, TX6, tyX6, rfl, by decide, gin6, rfl, gm 283 (by decide +kernel) rfl, rfl, tyX6_ok, nmX6⟩
set_option maxRecDepth 20000 in
theorem fl_X6_44 : FL gT RX6 44 2 8 2 := ⟨RX2, TX2, tyX2, rfl, by decide, gin2, rfl, gm 107 (by decide +kernel) rfl, rfl, tyX2_ok, nmX2⟩
set_option maxRecDepth 20000 in
theorem fl_X6_9 : FL gT RX6 9 6 0 2 := ⟨RX6, TX6, tyX6, rfl, by decide, gin6, rfl, gm 277 (by decide +kernel) rfl, rfl, tyX6_ok, nmX6⟩
set_option maxRecDepth 20000 in
theorem fl_X7_13 : FL gT RX7 13 7 0 2 := ⟨RX7, TX7, tyX7, rfl, by decide, gin7, rfl, gm 325 (by decide +kernel) rfl, rfl, tyX7_ok, nmX7⟩
set_option maxRecDepth 20000 in
theorem fl_X7_16 : FL gT RX7 16 7 1 2 := ⟨RX7, TX7, tyX7, rfl, by decide, gin7, rfl, gm 326 (by decide +kernel) rfl, rfl, tyX7_ok, nmX7⟩
set_option maxRecDepth 20000 in
theorem fl_X7_20 : FL gT RX7 20 7 2 2 := ⟨RX7, TX7, tyX7, rfl, by decide, gin7, rfl, gm 327 (by decide +kernel) rfl, rfl, tyX7_ok, nmX7⟩
set_option maxRecDepth 20000 in
theorem fl_X8_15 : FL gT RX8 15 8 1 0 := ⟨RX8, TX8, tyX8, rfl, by decide, gin8, rfl, gm 38 (by decide +kernel) rfl, rfl, tyX8_ok, nmX8⟩
set_option maxRecDepth 20000 in
theorem fl_X8_19 : FL gT RX8 19 8 4 0 := ⟨RX8, TX8, tyX8, rfl, by decide, gin8, rfl, gm 43 (by decide +kernel) rfl, rfl, tyX8_ok, nmX8⟩
set_option maxRecDepth 20000 in
theorem fl_X8_25 : FL gT RX8 25 8 3 0 := ⟨RX8, TX8, tyX8, rfl, by decide, gin8, rfl, gm 41 (by decide +kernel) rfl, rfl, tyX8_ok, nmX8⟩
set_option maxRecDepth 20000 in
theorem fl_X8_28 : FL gT RX8 28 8 5 0 := ⟨RX8, TX8, tyX8, rfl, by decide, gin8, rfl, gm 44 (by decide +kernel) rfl, rfl, tyX8_ok, nmX8⟩
set_option maxRecDepth 20000 in
theorem fl_X8_31 : FL gT RX8 31 8 2 0 := ⟨RX8, TX8, tyX8, rfl, by decide, gin8, rfl, gm 40 (by decide +kernel) rfl, rfl, tyX8_ok, nmX8⟩
set_option maxRecDepth 20000 in
theorem fl_X8_9 : FL gT RX8 9 8 0 2 := ⟨RX8, TX8, tyX8, rfl, by decide, gin8, rfl, gm 36 (by decide +kernel) rfl, rfl, tyX8_ok, nmX8⟩
set_option maxRecDepth 20000 in
theorem fl_X9_11 : FL gT RX9 11 9 0 2 := ⟨RX9, TX9, tyX9, rfl, by decide, gin9, rfl, gm 163 (by decide +kernel) rfl, rfl, tyX9_ok, nmX9⟩
set_option maxRecDepth 20000 in
theorem fl_X9_16 : FL gT RX9 16 9 1 2 := ⟨RX9, TX9, tyX9, rfl, by decide, gin9, rfl, gm 164 (by decide +kernel) rfl, rfl, tyX9_ok, nmX9⟩
set_option maxRecDepth 20000 in
theorem fl_X9_23 : FL gT RX9 23 2 1 0 := ⟨RX2, TX2, tyX2, rfl, by decide, gin2, rfl, gm 78 (by decide +kernel) rfl, rfl, tyX2_ok, nmX2⟩
set_option maxRecDepth 20000 in
theorem fl_X9_33 : FL gT RX9 33 2 4 0 := ⟨RX2, TX2, tyX2, rfl, by decide, gin2, rfl, gm 90 (by decide +kernel) rfl, rfl, tyX2_ok, nmX2⟩
set_option maxRecDepth 20000 in
theorem fl_X9_40 : FL gT RX9 40 2 9 2 := ⟨RX2, TX2, tyX2, rfl, by decide, gin2, rfl, gm 114 (by decide +kernel) rfl, rfl, tyX2_ok, nmX2⟩
set_option maxRecDepth 20000 in
theorem k_J6_265 : Cond.constant RJ6 265 (1431655765 : Int32) ∈ gT := gm 888 (by decide +kernel) rfl
set_option maxRecDepth 20000 in
theorem k_J6_266 : Cond.constant RJ6 266 (858993459 : Int32) ∈ gT := gm 889 (by decide +kernel) rfl
set_option maxRecDepth 20000 in
theorem k_J6_267 : Cond.constant RJ6 267 (252645135 : Int32) ∈ gT := gm 890 (by decide +kernel) rfl
set_option maxRecDepth 20000 in
theorem k_X10_111 : Cond.constant RX10 111 (1000000 : Int32) ∈ gT := gm 690 (by decide +kernel) rfl
set_option maxRecDepth 20000 in
theorem k_X11_194 : Cond.constant RX11 194 (1000000 : Int32) ∈ gT := gm 773 (by decide +kernel) rfl
set_option maxRecDepth 20000 in
theorem k_X11_391 : Cond.constant RX11 391 (2000000000 : Int32) ∈ gT := gm 1195 (by decide +kernel) rfl
set_option maxRecDepth 20000 in
theorem k_X12_139 : Cond.constant RX12 139 (100000 : Int32) ∈ gT := gm 1534 (by decide +kernel) rfl
set_option maxRecDepth 20000 in
theorem k_X12_140 : Cond.constant RX12 140 (1000000 : Int32) ∈ gT := gm 1535 (by decide +kernel) rfl
set_option maxRecDepth 20000 in
theorem k_X5_40 : Cond.constant RX5 40 (1000000 : Int32) ∈ gT := gm 853 (by decide +kernel) rfl
set_option maxRecDepth 20000 in
theorem k_X8_34 : Cond.constant RX8 34 (100000 : Int32) ∈ gT := gm 467 (by decide +kernel) rfl
set_option maxRecDepth 20000 in
theorem kl_X0_63 : Cond.constantLong RX0 63 (1103515245 : Int64) ∈ gT := gm 1209 (by decide +kernel) rfl
set_option maxRecDepth 20000 in
theorem kl_X0_65 : Cond.constantLong RX0 65 (12345 : Int64) ∈ gT := gm 1210 (by decide +kernel) rfl
set_option maxRecDepth 20000 in
theorem kl_X0_67 : Cond.constantLong RX0 67 (2147483648 : Int64) ∈ gT := gm 1211 (by decide +kernel) rfl
set_option maxRecDepth 20000 in
theorem kl_X0_69 : Cond.constantLong RX0 69 (65536 : Int64) ∈ gT := gm 1212 (by decide +kernel) rfl
set_option maxRecDepth 20000 in
theorem kl_X11_303 : Cond.constantLong RX11 303 ((-2) : Int64) ∈ gT := gm 1045 (by decide +kernel) rfl
set_option maxRecDepth 20000 in
theorem kl_X12_133 : Cond.constantLong RX12 133 ((-1) : Int64) ∈ gT := gm 1531 (by decide +kernel) rfl
set_option maxRecDepth 20000 in
theorem kl_X12_135 : Cond.constantLong RX12 135 (27 : Int64) ∈ gT := gm 1532 (by decide +kernel) rfl
set_option maxRecDepth 20000 in
theorem kl_X12_137 : Cond.constantLong RX12 137 (96 : Int64) ∈ gT := gm 1533 (by decide +kernel) rfl
set_option maxRecDepth 20000 in
theorem kl_X12_178 : Cond.constantLong RX12 178 (365647 : Int64) ∈ gT := gm 1590 (by decide +kernel) rfl
set_option maxRecDepth 20000 in
theorem kl_X12_184 : Cond.constantLong RX12 184 (131638 : Int64) ∈ gT := gm 1591 (by decide +kernel) rfl
set_option maxRecDepth 20000 in
theorem kl_X12_189 : Cond.constantLong RX12 189 (555 : Int64) ∈ gT := gm 1592 (by decide +kernel) rfl
set_option maxRecDepth 20000 in
theorem kl_X12_191 : Cond.constantLong RX12 191 (80155 : Int64) ∈ gT := gm 1593 (by decide +kernel) rfl
set_option maxRecDepth 20000 in
theorem kl_X12_197 : Cond.constantLong RX12 197 (6800930 : Int64) ∈ gT := gm 1594 (by decide +kernel) rfl
set_option maxRecDepth 20000 in
theorem kl_X12_199 : Cond.constantLong RX12 199 (3211399 : Int64) ∈ gT := gm 1595 (by decide +kernel) rfl
set_option maxRecDepth 20000 in
theorem kl_X12_201 : Cond.constantLong RX12 201 (8863997 : Int64) ∈ gT := gm 1596 (by decide +kernel) rfl
set_option maxRecDepth 20000 in
theorem kl_X12_210 : Cond.constantLong RX12 210 (159320763039 : Int64) ∈ gT := gm 1580 (by decide +kernel) rfl
set_option maxRecDepth 20000 in
theorem kl_X12_212 : Cond.constantLong RX12 212 (7542361 : Int64) ∈ gT := gm 1581 (by decide +kernel) rfl
set_option maxRecDepth 20000 in
theorem kl_X12_217 : Cond.constantLong RX12 217 (40600 : Int64) ∈ gT := gm 1597 (by decide +kernel) rfl
set_option maxRecDepth 20000 in
theorem kl_X12_223 : Cond.constantLong RX12 223 (16819 : Int64) ∈ gT := gm 1606 (by decide +kernel) rfl
set_option maxRecDepth 20000 in
theorem kl_X12_228 : Cond.constantLong RX12 228 (6477035 : Int64) ∈ gT := gm 1611 (by decide +kernel) rfl
set_option maxRecDepth 20000 in
theorem kl_X12_233 : Cond.constantLong RX12 233 (232603751 : Int64) ∈ gT := gm 1616 (by decide +kernel) rfl
set_option maxRecDepth 20000 in
theorem kl_X12_241 : Cond.constantLong RX12 241 (218546996 : Int64) ∈ gT := gm 1540 (by decide +kernel) rfl
set_option maxRecDepth 20000 in
theorem kl_X12_243 : Cond.constantLong RX12 243 (9872488 : Int64) ∈ gT := gm 1557 (by decide +kernel) rfl
set_option maxRecDepth 20000 in
theorem kl_X12_245 : Cond.constantLong RX12 245 (257 : Int64) ∈ gT := gm 1566 (by decide +kernel) rfl
set_option maxRecDepth 20000 in
theorem kl_X12_247 : Cond.constantLong RX12 247 (47 : Int64) ∈ gT := gm 1575 (by decide +kernel) rfl
set_option maxRecDepth 20000 in
theorem kl_X12_265 : Cond.constantLong RX12 265 (399 : Int64) ∈ gT := gm 1663 (by decide +kernel) rfl
set_option maxRecDepth 20000 in
theorem kl_X12_273 : Cond.constantLong RX12 273 (8 : Int64) ∈ gT := gm 1640 (by decide +kernel) rfl
set_option maxRecDepth 20000 in
theorem kl_X12_343 : Cond.constantLong RX12 343 (99 : Int64) ∈ gT := gm 1776 (by decide +kernel) rfl
set_option maxRecDepth 20000 in
theorem kl_X12_424 : Cond.constantLong RX12 424 ((-2) : Int64) ∈ gT := gm 1945 (by decide +kernel) rfl
set_option maxRecDepth 20000 in
theorem kl_X12_451 : Cond.constantLong RX12 451 (9 : Int64) ∈ gT := gm 2005 (by decide +kernel) rfl
set_option maxRecDepth 20000 in
theorem kl_X12_459 : Cond.constantLong RX12 459 (400 : Int64) ∈ gT := gm 2018 (by decide +kernel) rfl
set_option maxRecDepth 20000 in
theorem kl_X12_464 : Cond.constantLong RX12 464 (1103515245 : Int64) ∈ gT := gm 2036 (by decide +kernel) rfl
set_option maxRecDepth 20000 in
theorem kl_X12_466 : Cond.constantLong RX12 466 (12345 : Int64) ∈ gT := gm 2037 (by decide +kernel) rfl
set_option maxRecDepth 20000 in
theorem kl_X12_468 : Cond.constantLong RX12 468 (2147483648 : Int64) ∈ gT := gm 2038 (by decide +kernel) rfl
set_option maxRecDepth 20000 in
theorem kl_X12_470 : Cond.constantLong RX12 470 (65536 : Int64) ∈ gT := gm 2039 (by decide +kernel) rfl
set_option maxRecDepth 20000 in
theorem kl_X12_472 : Cond.constantLong RX12 472 (2000000000 : Int64) ∈ gT := gm 2031 (by decide +kernel) rfl
set_option maxRecDepth 20000 in
theorem kl_X12_481 : Cond.constantLong RX12 481 (20 : Int64) ∈ gT := gm 2048 (by decide +kernel) rfl
set_option maxRecDepth 20000 in
theorem kl_X12_486 : Cond.constantLong RX12 486 (39 : Int64) ∈ gT := gm 2064 (by decide +kernel) rfl
set_option maxRecDepth 20000 in
theorem kl_X12_488 : Cond.constantLong RX12 488 (2 : Int64) ∈ gT := gm 2077 (by decide +kernel) rfl
set_option maxRecDepth 20000 in
theorem kl_X12_92 : Cond.constantLong RX12 92 (3 : Int64) ∈ gT := gm 1476 (by decide +kernel) rfl
set_option maxRecDepth 20000 in
theorem ma_X10_47 : MA RX10 47 := ⟨gm 852 (by decide +kernel) rfl, gm 606 (by decide +kernel) rfl, gm 605 (by decide +kernel) rfl, gm 20 (by decide +kernel) rfl⟩
set_option maxRecDepth 20000 in
theorem ma_X2_51 : MA RX2 51 := ⟨gm 604 (by decide +kernel) rfl, gm 606 (by decide +kernel) rfl, gm 605 (by decide +kernel) rfl, gm 20 (by decide +kernel) rfl⟩
set_option maxRecDepth 20000 in
theorem ma_X5_159 : MA RX5 159 := ⟨gm 877 (by decide +kernel) rfl, gm 606 (by decide +kernel) rfl, gm 605 (by decide +kernel) rfl, gm 20 (by decide +kernel) rfl⟩
set_option maxRecDepth 20000 in
theorem ma_X6_48 : MA RX6 48 := ⟨gm 988 (by decide +kernel) rfl, gm 606 (by decide +kernel) rfl, gm 605 (by decide +kernel) rfl, gm 20 (by decide +kernel) rfl⟩
set_option maxRecDepth 20000 in
theorem ma_X7_51 : MA RX7 51 := ⟨gm 1310 (by decide +kernel) rfl, gm 606 (by decide +kernel) rfl, gm 605 (by decide +kernel) rfl, gm 20 (by decide +kernel) rfl⟩
set_option maxRecDepth 20000 in
theorem mmmax_X10_82 : MMX RX10 82 := ⟨gm 674 (by decide +kernel) rfl, gm 675 (by decide +kernel) rfl, gm 15 (by decide +kernel) rfl, gm 676 (by decide +kernel) rfl⟩
set_option maxRecDepth 20000 in
theorem mmmax_X3_106 : MMX RX3 106 := ⟨gm 1167 (by decide +kernel) rfl, gm 675 (by decide +kernel) rfl, gm 15 (by decide +kernel) rfl, gm 676 (by decide +kernel) rfl⟩
set_option maxRecDepth 20000 in
theorem mmmax_X6_77 : MMX RX6 77 := ⟨gm 1040 (by decide +kernel) rfl, gm 675 (by decide +kernel) rfl, gm 15 (by decide +kernel) rfl, gm 676 (by decide +kernel) rfl⟩
set_option maxRecDepth 20000 in
theorem mmmin_X1_27 : MMN RX1 27 := ⟨gm 1054 (by decide +kernel) rfl, gm 469 (by decide +kernel) rfl, gm 15 (by decide +kernel) rfl, gm 470 (by decide +kernel) rfl⟩
set_option maxRecDepth 20000 in
theorem mmmin_X10_87 : MMN RX10 87 := ⟨gm 685 (by decide +kernel) rfl, gm 469 (by decide +kernel) rfl, gm 15 (by decide +kernel) rfl, gm 470 (by decide +kernel) rfl⟩
set_option maxRecDepth 20000 in
theorem mmmin_X5_165 : MMN RX5 165 := ⟨gm 878 (by decide +kernel) rfl, gm 469 (by decide +kernel) rfl, gm 15 (by decide +kernel) rfl, gm 470 (by decide +kernel) rfl⟩
set_option maxRecDepth 20000 in
theorem mmmin_X6_34 : MMN RX6 34 := ⟨gm 987 (by decide +kernel) rfl, gm 469 (by decide +kernel) rfl, gm 15 (by decide +kernel) rfl, gm 470 (by decide +kernel) rfl⟩
set_option maxRecDepth 20000 in
theorem mmmin_X8_35 : MMN RX8 35 := ⟨gm 468 (by decide +kernel) rfl, gm 469 (by decide +kernel) rfl, gm 15 (by decide +kernel) rfl, gm 470 (by decide +kernel) rfl⟩
set_option maxRecDepth 20000 in
theorem mn_X0_71 : MN RX0 71 yX11_hasBit RX11 cX11_hasBit 2 (some .boolean) 2 := ⟨gmn 1216 (by decide +kernel) rfl, gm 579 (by decide +kernel) rfl, gm 1 (by decide +kernel) rfl, by decide +kernel, by decide +kernel, by decide +kernel, gm 578 (by decide +kernel) rfl⟩
set_option maxRecDepth 20000 in
theorem mn_X10_78 : MN RX10 78 yX11_hasBit RX11 cX11_hasBit 2 (some .boolean) 2 := ⟨gmn 673 (by decide +kernel) rfl, gm 579 (by decide +kernel) rfl, gm 1 (by decide +kernel) rfl, by decide +kernel, by decide +kernel, by decide +kernel, gm 578 (by decide +kernel) rfl⟩
set_option maxRecDepth 20000 in
theorem mn_X2_69 : MN RX2 69 yX11_hasBit RX11 cX11_hasBit 2 (some .boolean) 2 := ⟨gmn 639 (by decide +kernel) rfl, gm 579 (by decide +kernel) rfl, gm 1 (by decide +kernel) rfl, by decide +kernel, by decide +kernel, by decide +kernel, gm 578 (by decide +kernel) rfl⟩
set_option maxRecDepth 20000 in
theorem mn_X3_102 : MN RX3 102 yX11_hasBit RX11 cX11_hasBit 2 (some .boolean) 2 := ⟨gmn 1160 (by decide +kernel) rfl, gm 579 (by decide +kernel) rfl, gm 1 (by decide +kernel) rfl, by decide +kernel, by decide +kernel, by decide +kernel, gm 578 (by decide +kernel) rfl⟩
set_option maxRecDepth 20000 in
theorem mn_X3_99 : MN RX3 99 yX11_isHour RX11 cX11_isHour 1 (some .boolean) 1 := ⟨gmn 1159 (by decide +kernel) rfl, gm 722 (by decide +kernel) rfl, gm 1 (by decide +kernel) rfl, by decide +kernel, by decide +kernel, by decide +kernel, gm 721 (by decide +kernel) rfl⟩
set_option maxRecDepth 20000 in
theorem mn_X4_155 : MN RX4 155 yX11_hasBit RX11 cX11_hasBit 2 (some .boolean) 2 := ⟨gmn 577 (by decide +kernel) rfl, gm 579 (by decide +kernel) rfl, gm 1 (by decide +kernel) rfl, by decide +kernel, by decide +kernel, by decide +kernel, gm 578 (by decide +kernel) rfl⟩
set_option maxRecDepth 20000 in
theorem mn_X5_91 : MN RX5 91 yX11_hasBit RX11 cX11_hasBit 2 (some .boolean) 2 := ⟨gmn 883 (by decide +kernel) rfl, gm 579 (by decide +kernel) rfl, gm 1 (by decide +kernel) rfl, by decide +kernel, by decide +kernel, by decide +kernel, gm 578 (by decide +kernel) rfl⟩
set_option maxRecDepth 20000 in
theorem mn_X6_57 : MN RX6 57 yX11_hasBit RX11 cX11_hasBit 2 (some .boolean) 2 := ⟨gmn 1025 (by decide +kernel) rfl, gm 579 (by decide +kernel) rfl, gm 1 (by decide +kernel) rfl, by decide +kernel, by decide +kernel, by decide +kernel, gm 578 (by decide +kernel) rfl⟩
set_option maxRecDepth 20000 in
theorem ms_X0_39 : MS RX0 39 yJ6_bitCount_0f7a4 cJ6_bitCount_0f7a4 1 (some .int) 1 := ⟨⟨gm 1204 (by decide +kernel) rfl, gm 887 (by decide +kernel) rfl, gm 21 (by decide +kernel) rfl, by decide +kernel, by decide +kernel, by decide +kernel⟩, gm 886 (by decide +kernel) rfl⟩
set_option maxRecDepth 20000 in
theorem ms_X0_48 : MS RX0 48 yX0_memberAt cX0_memberAt 4 (some .int) 2 := ⟨⟨gm 1213 (by decide +kernel) rfl, gm 1215 (by decide +kernel) rfl, gm 13 (by decide +kernel) rfl, by decide +kernel, by decide +kernel, by decide +kernel⟩, gm 1214 (by decide +kernel) rfl⟩
set_option maxRecDepth 20000 in
theorem ms_X1_44 : MS RX1 44 yJ6_bitCount_0f7a4 cJ6_bitCount_0f7a4 1 (some .int) 1 := ⟨⟨gm 1059 (by decide +kernel) rfl, gm 887 (by decide +kernel) rfl, gm 21 (by decide +kernel) rfl, by decide +kernel, by decide +kernel, by decide +kernel⟩, gm 886 (by decide +kernel) rfl⟩
set_option maxRecDepth 20000 in
theorem ms_X10_23 : MS RX10 23 yJ7_fill_53178 cJ7_fill_53178 4 none 2 := ⟨⟨gm 176 (by decide +kernel) rfl, gm 178 (by decide +kernel) rfl, gm 7 (by decide +kernel) rfl, by decide +kernel, by decide +kernel, by decide +kernel⟩, gm 177 (by decide +kernel) rfl⟩
set_option maxRecDepth 20000 in
theorem ms_X11_141 : MS RX11 141 yX11_isBit cX11_isBit 1 (some .boolean) 1 := ⟨⟨gm 708 (by decide +kernel) rfl, gm 710 (by decide +kernel) rfl, gm 1 (by decide +kernel) rfl, by decide +kernel, by decide +kernel, by decide +kernel⟩, gm 709 (by decide +kernel) rfl⟩
set_option maxRecDepth 20000 in
theorem ms_X11_147 : MS RX11 147 yX11_hasBit cX11_hasBit 2 (some .boolean) 2 := ⟨⟨gm 715 (by decide +kernel) rfl, gm 579 (by decide +kernel) rfl, gm 1 (by decide +kernel) rfl, by decide +kernel, by decide +kernel, by decide +kernel⟩, gm 578 (by decide +kernel) rfl⟩
set_option maxRecDepth 20000 in
theorem ms_X11_151 : MS RX11 151 yX11_isHour cX11_isHour 1 (some .boolean) 1 := ⟨⟨gm 720 (by decide +kernel) rfl, gm 722 (by decide +kernel) rfl, gm 1 (by decide +kernel) rfl, by decide +kernel, by decide +kernel, by decide +kernel⟩, gm 721 (by decide +kernel) rfl⟩
set_option maxRecDepth 20000 in
theorem ms_X11_339 : MS RX11 339 yX11_isSeed cX11_isSeed 1 (some .boolean) 1 := ⟨⟨gm 1192 (by decide +kernel) rfl, gm 1194 (by decide +kernel) rfl, gm 1 (by decide +kernel) rfl, by decide +kernel, by decide +kernel, by decide +kernel⟩, gm 1193 (by decide +kernel) rfl⟩
set_option maxRecDepth 20000 in
theorem ms_X11_350 : MS RX11 350 yX11_commonDivisor cX11_commonDivisor 6 (some .int) 2 := ⟨⟨gm 1231 (by decide +kernel) rfl, gm 1233 (by decide +kernel) rfl, gm 1 (by decide +kernel) rfl, by decide +kernel, by decide +kernel, by decide +kernel⟩, gm 1232 (by decide +kernel) rfl⟩
set_option maxRecDepth 20000 in
theorem ms_X12_102 : MS RX12 102 yX12_cut cX12_cut 3 (some .long) 2 := ⟨⟨gm 1484 (by decide +kernel) rfl, gm 1486 (by decide +kernel) rfl, gm 14 (by decide +kernel) rfl, by decide +kernel, by decide +kernel, by decide +kernel⟩, gm 1485 (by decide +kernel) rfl⟩
set_option maxRecDepth 20000 in
theorem ms_X12_261 : MS RX12 261 yX12_copyRow cX12_copyRow 5 none 4 := ⟨⟨gm 1629 (by decide +kernel) rfl, gm 1631 (by decide +kernel) rfl, gm 14 (by decide +kernel) rfl, by decide +kernel, by decide +kernel, by decide +kernel⟩, gm 1630 (by decide +kernel) rfl⟩
set_option maxRecDepth 20000 in
theorem ms_X12_278 : MS RX12 278 yX12_isBit cX12_isBit 2 (some .boolean) 2 := ⟨⟨gm 1653 (by decide +kernel) rfl, gm 1655 (by decide +kernel) rfl, gm 14 (by decide +kernel) rfl, by decide +kernel, by decide +kernel, by decide +kernel⟩, gm 1654 (by decide +kernel) rfl⟩
set_option maxRecDepth 20000 in
theorem ms_X12_288 : MS RX12 288 yX12_isHour cX12_isHour 1 (some .boolean) 1 := ⟨⟨gm 1660 (by decide +kernel) rfl, gm 1662 (by decide +kernel) rfl, gm 14 (by decide +kernel) rfl, by decide +kernel, by decide +kernel, by decide +kernel⟩, gm 1661 (by decide +kernel) rfl⟩
set_option maxRecDepth 20000 in
theorem ms_X12_426 : MS RX12 426 yX12_sizeOf cX12_sizeOf 3 (some .int) 1 := ⟨⟨gm 1958 (by decide +kernel) rfl, gm 1960 (by decide +kernel) rfl, gm 14 (by decide +kernel) rfl, by decide +kernel, by decide +kernel, by decide +kernel⟩, gm 1959 (by decide +kernel) rfl⟩
set_option maxRecDepth 20000 in
theorem ms_X12_483 : MS RX12 483 yX12_common cX12_common 2 (some .int) 2 := ⟨⟨gm 2053 (by decide +kernel) rfl, gm 2055 (by decide +kernel) rfl, gm 14 (by decide +kernel) rfl, by decide +kernel, by decide +kernel, by decide +kernel⟩, gm 2054 (by decide +kernel) rfl⟩
set_option maxRecDepth 20000 in
theorem ms_X12_94 : MS RX12 94 yX12_in cX12_in 6 (some .boolean) 3 := ⟨⟨gm 1477 (by decide +kernel) rfl, gm 1479 (by decide +kernel) rfl, gm 14 (by decide +kernel) rfl, by decide +kernel, by decide +kernel, by decide +kernel⟩, gm 1478 (by decide +kernel) rfl⟩
set_option maxRecDepth 20000 in
theorem ms_X12_98 : MS RX12 98 yX12_isSlot cX12_isSlot 1 (some .boolean) 1 := ⟨⟨gm 1473 (by decide +kernel) rfl, gm 1475 (by decide +kernel) rfl, gm 14 (by decide +kernel) rfl, by decide +kernel, by decide +kernel, by decide +kernel⟩, gm 1474 (by decide +kernel) rfl⟩
set_option maxRecDepth 20000 in
theorem ms_X2_45 : MS RX2 45 yJ7_fill_53178 cJ7_fill_53178 4 none 2 := ⟨⟨gm 458 (by decide +kernel) rfl, gm 178 (by decide +kernel) rfl, gm 7 (by decide +kernel) rfl, by decide +kernel, by decide +kernel, by decide +kernel⟩, gm 177 (by decide +kernel) rfl⟩
set_option maxRecDepth 20000 in
theorem ms_X2_72 : MS RX2 72 yJ6_bitCount_0f7a4 cJ6_bitCount_0f7a4 1 (some .int) 1 := ⟨⟨gm 1258 (by decide +kernel) rfl, gm 887 (by decide +kernel) rfl, gm 21 (by decide +kernel) rfl, by decide +kernel, by decide +kernel, by decide +kernel⟩, gm 886 (by decide +kernel) rfl⟩
set_option maxRecDepth 20000 in
theorem ms_X3_25 : MS RX3 25 yJ7_fill_53178 cJ7_fill_53178 4 none 2 := ⟨⟨gm 1139 (by decide +kernel) rfl, gm 178 (by decide +kernel) rfl, gm 7 (by decide +kernel) rfl, by decide +kernel, by decide +kernel, by decide +kernel⟩, gm 177 (by decide +kernel) rfl⟩
set_option maxRecDepth 20000 in
theorem ms_X5_146 : MS RX5 146 yJ6_bitCount_0f7a4 cJ6_bitCount_0f7a4 1 (some .int) 1 := ⟨⟨gm 885 (by decide +kernel) rfl, gm 887 (by decide +kernel) rfl, gm 21 (by decide +kernel) rfl, by decide +kernel, by decide +kernel, by decide +kernel⟩, gm 886 (by decide +kernel) rfl⟩
set_option maxRecDepth 20000 in
theorem ms_X5_80 : MS RX5 80 yX5_follow cX5_follow 11 none 2 := ⟨⟨gm 861 (by decide +kernel) rfl, gm 863 (by decide +kernel) rfl, gm 8 (by decide +kernel) rfl, by decide +kernel, by decide +kernel, by decide +kernel⟩, gm 862 (by decide +kernel) rfl⟩
set_option maxRecDepth 20000 in
theorem ms_X6_68 : MS RX6 68 yJ7_fill_53178 cJ7_fill_53178 4 none 2 := ⟨⟨gm 1035 (by decide +kernel) rfl, gm 178 (by decide +kernel) rfl, gm 7 (by decide +kernel) rfl, by decide +kernel, by decide +kernel, by decide +kernel⟩, gm 177 (by decide +kernel) rfl⟩
set_option maxRecDepth 20000 in
theorem ms_X7_36 : MS RX7 36 yJ7_fill_d0a16 cJ7_fill_d0a16 5 none 2 := ⟨⟨gm 1279 (by decide +kernel) rfl, gm 1281 (by decide +kernel) rfl, gm 7 (by decide +kernel) rfl, by decide +kernel, by decide +kernel, by decide +kernel⟩, gm 1280 (by decide +kernel) rfl⟩
set_option maxRecDepth 20000 in
theorem ms_X7_43 : MS RX7 43 yX7_cut cX7_cut 3 (some .long) 2 := ⟨⟨gm 1290 (by decide +kernel) rfl, gm 1292 (by decide +kernel) rfl, gm 11 (by decide +kernel) rfl, by decide +kernel, by decide +kernel, by decide +kernel⟩, gm 1291 (by decide +kernel) rfl⟩
set_option maxRecDepth 20000 in
theorem mv_X0_15 : MV RX0 15 10 yX10_joins cX10_joins 2 none 1 := ⟨⟨gm 1200 (by decide +kernel) rfl, gm 851 (by decide +kernel) rfl, gm 6 (by decide +kernel) rfl, by decide +kernel, by decide +kernel, by decide +kernel⟩, by decide, ⟨TX10, rfl⟩, gm 849 (by decide +kernel) rfl, gm 850 (by decide +kernel) rfl⟩
set_option maxRecDepth 20000 in
theorem mv_X0_29 : MV RX0 29 10 yX10_holding cX10_holding 3 (some .int) 0 := ⟨⟨gm 1201 (by decide +kernel) rfl, gm 766 (by decide +kernel) rfl, gm 6 (by decide +kernel) rfl, by decide +kernel, by decide +kernel, by decide +kernel⟩, by decide, ⟨TX10, rfl⟩, gm 764 (by decide +kernel) rfl, gm 765 (by decide +kernel) rfl⟩
set_option maxRecDepth 20000 in
theorem mv_X0_33 : MV RX0 33 10 yX10_missing cX10_missing 1 (some .int) 0 := ⟨⟨gm 1202 (by decide +kernel) rfl, gm 834 (by decide +kernel) rfl, gm 6 (by decide +kernel) rfl, by decide +kernel, by decide +kernel, by decide +kernel⟩, by decide, ⟨TX10, rfl⟩, gm 832 (by decide +kernel) rfl, gm 833 (by decide +kernel) rfl⟩
set_option maxRecDepth 20000 in
theorem mv_X0_36 : MV RX0 36 10 yX10_willing cX10_willing 3 (some .int) 0 := ⟨⟨gm 1203 (by decide +kernel) rfl, gm 794 (by decide +kernel) rfl, gm 6 (by decide +kernel) rfl, by decide +kernel, by decide +kernel, by decide +kernel⟩, by decide, ⟨TX10, rfl⟩, gm 792 (by decide +kernel) rfl, gm 793 (by decide +kernel) rfl⟩
set_option maxRecDepth 20000 in
theorem mv_X0_45 : MV RX0 45 0 yX0_draw cX0_draw 2 (some .int) 1 := ⟨⟨gm 1205 (by decide +kernel) rfl, gm 1208 (by decide +kernel) rfl, gm 13 (by decide +kernel) rfl, by decide +kernel, by decide +kernel, by decide +kernel⟩, by decide, ⟨TX0, rfl⟩, gm 1207 (by decide +kernel) rfl, gmp 41 (by decide +kernel) rfl⟩
set_option maxRecDepth 20000 in
theorem mv_X0_52 : MV RX0 52 10 yX10_stampHour cX10_stampHour 4 (some .int) 1 := ⟨⟨gm 1217 (by decide +kernel) rfl, gm 651 (by decide +kernel) rfl, gm 6 (by decide +kernel) rfl, by decide +kernel, by decide +kernel, by decide +kernel⟩, by decide, ⟨TX10, rfl⟩, gm 649 (by decide +kernel) rfl, gm 650 (by decide +kernel) rfl⟩
set_option maxRecDepth 20000 in
theorem mv_X0_55 : MV RX0 55 10 yX10_stampIn cX10_stampIn 5 none 2 := ⟨⟨gm 1218 (by decide +kernel) rfl, gm 689 (by decide +kernel) rfl, gm 6 (by decide +kernel) rfl, by decide +kernel, by decide +kernel, by decide +kernel⟩, by decide, ⟨TX10, rfl⟩, gm 687 (by decide +kernel) rfl, gm 688 (by decide +kernel) rfl⟩
set_option maxRecDepth 20000 in
theorem mv_X1_36 : MV RX1 36 1 yX1_pick cX1_pick 8 none 2 := ⟨⟨gm 1055 (by decide +kernel) rfl, gm 1058 (by decide +kernel) rfl, gm 10 (by decide +kernel) rfl, by decide +kernel, by decide +kernel, by decide +kernel⟩, by decide, ⟨TX1, rfl⟩, gm 1057 (by decide +kernel) rfl, gmp 33 (by decide +kernel) rfl⟩
set_option maxRecDepth 20000 in
theorem mv_X10_102 : MV RX10 102 10 yX10_supported cX10_supported 5 (some .int) 1 := ⟨⟨gm 681 (by decide +kernel) rfl, gm 684 (by decide +kernel) rfl, gm 6 (by decide +kernel) rfl, by decide +kernel, by decide +kernel, by decide +kernel⟩, by decide, ⟨TX10, rfl⟩, gm 682 (by decide +kernel) rfl, gm 683 (by decide +kernel) rfl⟩
set_option maxRecDepth 20000 in
theorem mv_X10_105 : MV RX10 105 10 yX10_stampHour cX10_stampHour 4 (some .int) 1 := ⟨⟨gm 786 (by decide +kernel) rfl, gm 651 (by decide +kernel) rfl, gm 6 (by decide +kernel) rfl, by decide +kernel, by decide +kernel, by decide +kernel⟩, by decide, ⟨TX10, rfl⟩, gm 649 (by decide +kernel) rfl, gm 650 (by decide +kernel) rfl⟩
set_option maxRecDepth 20000 in
theorem mv_X10_53 : MV RX10 53 10 yX10_lastHeld cX10_lastHeld 2 (some .int) 1 := ⟨⟨gm 665 (by decide +kernel) rfl, gm 668 (by decide +kernel) rfl, gm 6 (by decide +kernel) rfl, by decide +kernel, by decide +kernel, by decide +kernel⟩, by decide, ⟨TX10, rfl⟩, gm 666 (by decide +kernel) rfl, gm 667 (by decide +kernel) rfl⟩
set_option maxRecDepth 20000 in
theorem mv_X10_60 : MV RX10 60 10 yX10_holding cX10_holding 3 (some .int) 0 := ⟨⟨gm 835 (by decide +kernel) rfl, gm 766 (by decide +kernel) rfl, gm 6 (by decide +kernel) rfl, by decide +kernel, by decide +kernel, by decide +kernel⟩, by decide, ⟨TX10, rfl⟩, gm 764 (by decide +kernel) rfl, gm 765 (by decide +kernel) rfl⟩
set_option maxRecDepth 20000 in
theorem mv_X10_64 : MV RX10 64 2 yX2_hasOfficial cX2_hasOfficial 2 (some .boolean) 1 := ⟨⟨gm 656 (by decide +kernel) rfl, gm 634 (by decide +kernel) rfl, gm 4 (by decide +kernel) rfl, by decide +kernel, by decide +kernel, by decide +kernel⟩, by decide, ⟨TX2, rfl⟩, gm 632 (by decide +kernel) rfl, gm 633 (by decide +kernel) rfl⟩
set_option maxRecDepth 20000 in
theorem mv_X10_72 : MV RX10 72 9 yX9_hoursBetween cX9_hoursBetween 3 (some .int) 2 := ⟨⟨gm 657 (by decide +kernel) rfl, gm 660 (by decide +kernel) rfl, gm 5 (by decide +kernel) rfl, by decide +kernel, by decide +kernel, by decide +kernel⟩, by decide, ⟨TX9, rfl⟩, gm 658 (by decide +kernel) rfl, gm 659 (by decide +kernel) rfl⟩
set_option maxRecDepth 20000 in
theorem mv_X10_90 : MV RX10 90 10 yX10_arrival cX10_arrival 3 (some .int) 1 := ⟨⟨gm 652 (by decide +kernel) rfl, gm 655 (by decide +kernel) rfl, gm 6 (by decide +kernel) rfl, by decide +kernel, by decide +kernel, by decide +kernel⟩, by decide, ⟨TX10, rfl⟩, gm 653 (by decide +kernel) rfl, gm 654 (by decide +kernel) rfl⟩
set_option maxRecDepth 20000 in
theorem mv_X10_93 : MV RX10 93 10 yX10_holds cX10_holds 2 (some .boolean) 1 := ⟨⟨gm 661 (by decide +kernel) rfl, gm 664 (by decide +kernel) rfl, gm 6 (by decide +kernel) rfl, by decide +kernel, by decide +kernel, by decide +kernel⟩, by decide, ⟨TX10, rfl⟩, gm 662 (by decide +kernel) rfl, gm 663 (by decide +kernel) rfl⟩
set_option maxRecDepth 20000 in
theorem mv_X10_96 : MV RX10 96 10 yX10_unbarred cX10_unbarred 6 (some .int) 2 := ⟨⟨gm 669 (by decide +kernel) rfl, gm 672 (by decide +kernel) rfl, gm 6 (by decide +kernel) rfl, by decide +kernel, by decide +kernel, by decide +kernel⟩, by decide, ⟨TX10, rfl⟩, gm 670 (by decide +kernel) rfl, gm 671 (by decide +kernel) rfl⟩
set_option maxRecDepth 20000 in
theorem mv_X10_99 : MV RX10 99 9 yX9_firstOpen cX9_firstOpen 3 (some .int) 2 := ⟨⟨gm 677 (by decide +kernel) rfl, gm 680 (by decide +kernel) rfl, gm 5 (by decide +kernel) rfl, by decide +kernel, by decide +kernel, by decide +kernel⟩, by decide, ⟨TX9, rfl⟩, gm 678 (by decide +kernel) rfl, gm 679 (by decide +kernel) rfl⟩
set_option maxRecDepth 20000 in
theorem mv_X11_109 : MV RX11 109 8 yX8_put cX8_put 3 none 1 := ⟨⟨gm 438 (by decide +kernel) rfl, gm 441 (by decide +kernel) rfl, gm 2 (by decide +kernel) rfl, by decide +kernel, by decide +kernel, by decide +kernel⟩, by decide, ⟨TX8, rfl⟩, gm 439 (by decide +kernel) rfl, gm 440 (by decide +kernel) rfl⟩
set_option maxRecDepth 20000 in
theorem mv_X11_113 : MV RX11 113 4 yX4_readAll cX4_readAll 2 none 0 := ⟨⟨gm 450 (by decide +kernel) rfl, gm 453 (by decide +kernel) rfl, gm 3 (by decide +kernel) rfl, by decide +kernel, by decide +kernel, by decide +kernel⟩, by decide, ⟨TX4, rfl⟩, gm 451 (by decide +kernel) rfl, gm 452 (by decide +kernel) rfl⟩
set_option maxRecDepth 20000 in
theorem mv_X11_120 : MV RX11 120 2 yX2_copyFrom cX2_copyFrom 3 none 1 := ⟨⟨gm 600 (by decide +kernel) rfl, gm 603 (by decide +kernel) rfl, gm 4 (by decide +kernel) rfl, by decide +kernel, by decide +kernel, by decide +kernel⟩, by decide, ⟨TX2, rfl⟩, gm 601 (by decide +kernel) rfl, gm 602 (by decide +kernel) rfl⟩
set_option maxRecDepth 20000 in
theorem mv_X11_124 : MV RX11 124 11 yX11_planChanged cX11_planChanged 1 none 0 := ⟨⟨gm 607 (by decide +kernel) rfl, gm 610 (by decide +kernel) rfl, gm 1 (by decide +kernel) rfl, by decide +kernel, by decide +kernel, by decide +kernel⟩, by decide, ⟨TX11, rfl⟩, gm 609 (by decide +kernel) rfl, gmp 14 (by decide +kernel) rfl⟩
set_option maxRecDepth 20000 in
theorem mv_X11_133 : MV RX11 133 2 yX2_hasOfficial cX2_hasOfficial 2 (some .boolean) 1 := ⟨⟨gm 703 (by decide +kernel) rfl, gm 634 (by decide +kernel) rfl, gm 4 (by decide +kernel) rfl, by decide +kernel, by decide +kernel, by decide +kernel⟩, by decide, ⟨TX2, rfl⟩, gm 632 (by decide +kernel) rfl, gm 633 (by decide +kernel) rfl⟩
set_option maxRecDepth 20000 in
theorem mv_X11_154 : MV RX11 154 2 yX2_isOpen cX2_isOpen 5 (some .boolean) 2 := ⟨⟨gm 723 (by decide +kernel) rfl, gm 630 (by decide +kernel) rfl, gm 4 (by decide +kernel) rfl, by decide +kernel, by decide +kernel, by decide +kernel⟩, by decide, ⟨TX2, rfl⟩, gm 628 (by decide +kernel) rfl, gm 629 (by decide +kernel) rfl⟩
set_option maxRecDepth 20000 in
theorem mv_X11_157 : MV RX11 157 9 yX9_firstOpen cX9_firstOpen 3 (some .int) 2 := ⟨⟨gm 728 (by decide +kernel) rfl, gm 680 (by decide +kernel) rfl, gm 5 (by decide +kernel) rfl, by decide +kernel, by decide +kernel, by decide +kernel⟩, by decide, ⟨TX9, rfl⟩, gm 678 (by decide +kernel) rfl, gm 679 (by decide +kernel) rfl⟩
set_option maxRecDepth 20000 in
theorem mv_X11_161 : MV RX11 161 2 yX2_isOffered cX2_isOffered 4 (some .boolean) 2 := ⟨⟨gm 733 (by decide +kernel) rfl, gm 638 (by decide +kernel) rfl, gm 4 (by decide +kernel) rfl, by decide +kernel, by decide +kernel, by decide +kernel⟩, by decide, ⟨TX2, rfl⟩, gm 636 (by decide +kernel) rfl, gm 637 (by decide +kernel) rfl⟩
set_option maxRecDepth 20000 in
theorem mv_X11_164 : MV RX11 164 2 yX2_hasRoom cX2_hasRoom 2 (some .boolean) 1 := ⟨⟨gm 738 (by decide +kernel) rfl, gm 741 (by decide +kernel) rfl, gm 4 (by decide +kernel) rfl, by decide +kernel, by decide +kernel, by decide +kernel⟩, by decide, ⟨TX2, rfl⟩, gm 739 (by decide +kernel) rfl, gm 740 (by decide +kernel) rfl⟩
set_option maxRecDepth 20000 in
theorem mv_X11_167 : MV RX11 167 9 yX9_hoursBetween cX9_hoursBetween 3 (some .int) 2 := ⟨⟨gm 742 (by decide +kernel) rfl, gm 660 (by decide +kernel) rfl, gm 5 (by decide +kernel) rfl, by decide +kernel, by decide +kernel, by decide +kernel⟩, by decide, ⟨TX9, rfl⟩, gm 658 (by decide +kernel) rfl, gm 659 (by decide +kernel) rfl⟩
set_option maxRecDepth 20000 in
theorem mv_X11_170 : MV RX11 170 2 yX2_isThere cX2_isThere 1 (some .boolean) 0 := ⟨⟨gm 747 (by decide +kernel) rfl, gm 750 (by decide +kernel) rfl, gm 4 (by decide +kernel) rfl, by decide +kernel, by decide +kernel, by decide +kernel⟩, by decide, ⟨TX2, rfl⟩, gm 748 (by decide +kernel) rfl, gm 749 (by decide +kernel) rfl⟩
set_option maxRecDepth 20000 in
theorem mv_X11_183 : MV RX11 183 10 yX10_holding cX10_holding 3 (some .int) 0 := ⟨⟨gm 763 (by decide +kernel) rfl, gm 766 (by decide +kernel) rfl, gm 6 (by decide +kernel) rfl, by decide +kernel, by decide +kernel, by decide +kernel⟩, by decide, ⟨TX10, rfl⟩, gm 764 (by decide +kernel) rfl, gm 765 (by decide +kernel) rfl⟩
set_option maxRecDepth 20000 in
theorem mv_X11_187 : MV RX11 187 10 yX10_lastHeld cX10_lastHeld 2 (some .int) 1 := ⟨⟨gm 771 (by decide +kernel) rfl, gm 668 (by decide +kernel) rfl, gm 6 (by decide +kernel) rfl, by decide +kernel, by decide +kernel, by decide +kernel⟩, by decide, ⟨TX10, rfl⟩, gm 666 (by decide +kernel) rfl, gm 667 (by decide +kernel) rfl⟩
set_option maxRecDepth 20000 in
theorem mv_X11_191 : MV RX11 191 10 yX10_holds cX10_holds 2 (some .boolean) 1 := ⟨⟨gm 772 (by decide +kernel) rfl, gm 664 (by decide +kernel) rfl, gm 6 (by decide +kernel) rfl, by decide +kernel, by decide +kernel, by decide +kernel⟩, by decide, ⟨TX10, rfl⟩, gm 662 (by decide +kernel) rfl, gm 663 (by decide +kernel) rfl⟩
set_option maxRecDepth 20000 in
theorem mv_X11_195 : MV RX11 195 10 yX10_stampHour cX10_stampHour 4 (some .int) 1 := ⟨⟨gm 648 (by decide +kernel) rfl, gm 651 (by decide +kernel) rfl, gm 6 (by decide +kernel) rfl, by decide +kernel, by decide +kernel, by decide +kernel⟩, by decide, ⟨TX10, rfl⟩, gm 649 (by decide +kernel) rfl, gm 650 (by decide +kernel) rfl⟩
set_option maxRecDepth 20000 in
theorem mv_X11_198 : MV RX11 198 10 yX10_obstacle cX10_obstacle 4 (some .int) 1 := ⟨⟨gm 782 (by decide +kernel) rfl, gm 785 (by decide +kernel) rfl, gm 6 (by decide +kernel) rfl, by decide +kernel, by decide +kernel, by decide +kernel⟩, by decide, ⟨TX10, rfl⟩, gm 783 (by decide +kernel) rfl, gm 784 (by decide +kernel) rfl⟩
set_option maxRecDepth 20000 in
theorem mv_X11_201 : MV RX11 201 10 yX10_willing cX10_willing 3 (some .int) 0 := ⟨⟨gm 791 (by decide +kernel) rfl, gm 794 (by decide +kernel) rfl, gm 6 (by decide +kernel) rfl, by decide +kernel, by decide +kernel, by decide +kernel⟩, by decide, ⟨TX10, rfl⟩, gm 792 (by decide +kernel) rfl, gm 793 (by decide +kernel) rfl⟩
set_option maxRecDepth 20000 in
theorem mv_X11_204 : MV RX11 204 2 yX2_noteMove cX2_noteMove 2 (some .boolean) 1 := ⟨⟨gm 799 (by decide +kernel) rfl, gm 802 (by decide +kernel) rfl, gm 4 (by decide +kernel) rfl, by decide +kernel, by decide +kernel, by decide +kernel⟩, by decide, ⟨TX2, rfl⟩, gm 800 (by decide +kernel) rfl, gm 801 (by decide +kernel) rfl⟩
set_option maxRecDepth 20000 in
theorem mv_X11_207 : MV RX11 207 10 yX10_stampIn cX10_stampIn 5 none 2 := ⟨⟨gm 686 (by decide +kernel) rfl, gm 689 (by decide +kernel) rfl, gm 6 (by decide +kernel) rfl, by decide +kernel, by decide +kernel, by decide +kernel⟩, by decide, ⟨TX10, rfl⟩, gm 687 (by decide +kernel) rfl, gm 688 (by decide +kernel) rfl⟩
set_option maxRecDepth 20000 in
theorem mv_X11_211 : MV RX11 211 11 yX11_forgetRows cX11_forgetRows 1 none 0 := ⟨⟨gm 691 (by decide +kernel) rfl, gm 694 (by decide +kernel) rfl, gm 1 (by decide +kernel) rfl, by decide +kernel, by decide +kernel, by decide +kernel⟩, by decide, ⟨TX11, rfl⟩, gm 693 (by decide +kernel) rfl, gmp 19 (by decide +kernel) rfl⟩
set_option maxRecDepth 20000 in
theorem mv_X11_217 : MV RX11 217 11 yX11_retrace cX11_retrace 3 none 0 := ⟨⟨gm 640 (by decide +kernel) rfl, gm 643 (by decide +kernel) rfl, gm 1 (by decide +kernel) rfl, by decide +kernel, by decide +kernel, by decide +kernel⟩, by decide, ⟨TX11, rfl⟩, gm 642 (by decide +kernel) rfl, gmp 18 (by decide +kernel) rfl⟩
set_option maxRecDepth 20000 in
theorem mv_X11_230 : MV RX11 230 10 yX10_missing cX10_missing 1 (some .int) 0 := ⟨⟨gm 831 (by decide +kernel) rfl, gm 834 (by decide +kernel) rfl, gm 6 (by decide +kernel) rfl, by decide +kernel, by decide +kernel, by decide +kernel⟩, by decide, ⟨TX10, rfl⟩, gm 832 (by decide +kernel) rfl, gm 833 (by decide +kernel) rfl⟩
set_option maxRecDepth 20000 in
theorem mv_X11_233 : MV RX11 233 11 yX11_soonRows cX11_soonRows 1 (some (.object RX5)) 0 := ⟨⟨gm 840 (by decide +kernel) rfl, gm 843 (by decide +kernel) rfl, gm 1 (by decide +kernel) rfl, by decide +kernel, by decide +kernel, by decide +kernel⟩, by decide, ⟨TX11, rfl⟩, gm 842 (by decide +kernel) rfl, gmp 20 (by decide +kernel) rfl⟩
set_option maxRecDepth 20000 in
theorem mv_X11_237 : MV RX11 237 5 yX5_best cX5_best 2 (some .int) 1 := ⟨⟨gm 893 (by decide +kernel) rfl, gm 896 (by decide +kernel) rfl, gm 8 (by decide +kernel) rfl, by decide +kernel, by decide +kernel, by decide +kernel⟩, by decide, ⟨TX5, rfl⟩, gm 894 (by decide +kernel) rfl, gm 895 (by decide +kernel) rfl⟩
set_option maxRecDepth 20000 in
theorem mv_X11_240 : MV RX11 240 5 yX5_officialAt cX5_officialAt 3 (some .int) 2 := ⟨⟨gm 901 (by decide +kernel) rfl, gm 904 (by decide +kernel) rfl, gm 8 (by decide +kernel) rfl, by decide +kernel, by decide +kernel, by decide +kernel⟩, by decide, ⟨TX5, rfl⟩, gm 902 (by decide +kernel) rfl, gm 903 (by decide +kernel) rfl⟩
set_option maxRecDepth 20000 in
theorem mv_X11_243 : MV RX11 243 11 yX11_everyRow cX11_everyRow 1 (some (.object RX5)) 0 := ⟨⟨gm 909 (by decide +kernel) rfl, gm 912 (by decide +kernel) rfl, gm 1 (by decide +kernel) rfl, by decide +kernel, by decide +kernel, by decide +kernel⟩, by decide, ⟨TX11, rfl⟩, gm 911 (by decide +kernel) rfl, gmp 26 (by decide +kernel) rfl⟩
set_option maxRecDepth 20000 in
theorem mv_X11_249 : MV RX11 249 5 yX5_officialsOf cX5_officialsOf 4 (some .int) 1 := ⟨⟨gm 929 (by decide +kernel) rfl, gm 932 (by decide +kernel) rfl, gm 8 (by decide +kernel) rfl, by decide +kernel, by decide +kernel, by decide +kernel⟩, by decide, ⟨TX5, rfl⟩, gm 930 (by decide +kernel) rfl, gm 931 (by decide +kernel) rfl⟩
set_option maxRecDepth 20000 in
theorem mv_X11_261 : MV RX11 261 5 yX5_spareHours cX5_spareHours 3 (some .int) 1 := ⟨⟨gm 945 (by decide +kernel) rfl, gm 948 (by decide +kernel) rfl, gm 8 (by decide +kernel) rfl, by decide +kernel, by decide +kernel, by decide +kernel⟩, by decide, ⟨TX5, rfl⟩, gm 946 (by decide +kernel) rfl, gm 947 (by decide +kernel) rfl⟩
set_option maxRecDepth 20000 in
theorem mv_X11_268 : MV RX11 268 11 yX11_findStart cX11_findStart 3 none 0 := ⟨⟨gm 954 (by decide +kernel) rfl, gm 957 (by decide +kernel) rfl, gm 1 (by decide +kernel) rfl, by decide +kernel, by decide +kernel, by decide +kernel⟩, by decide, ⟨TX11, rfl⟩, gm 956 (by decide +kernel) rfl, gmp 27 (by decide +kernel) rfl⟩
set_option maxRecDepth 20000 in
theorem mv_X11_277 : MV RX11 277 11 yX11_soonerBy cX11_soonerBy 4 (some .int) 2 := ⟨⟨gm 962 (by decide +kernel) rfl, gm 965 (by decide +kernel) rfl, gm 1 (by decide +kernel) rfl, by decide +kernel, by decide +kernel, by decide +kernel⟩, by decide, ⟨TX11, rfl⟩, gm 964 (by decide +kernel) rfl, gmp 28 (by decide +kernel) rfl⟩
set_option maxRecDepth 20000 in
theorem mv_X11_280 : MV RX11 280 2 yX2_hasSet cX2_hasSet 2 (some .boolean) 1 := ⟨⟨gm 974 (by decide +kernel) rfl, gm 977 (by decide +kernel) rfl, gm 4 (by decide +kernel) rfl, by decide +kernel, by decide +kernel, by decide +kernel⟩, by decide, ⟨TX2, rfl⟩, gm 975 (by decide +kernel) rfl, gm 976 (by decide +kernel) rfl⟩
set_option maxRecDepth 20000 in
theorem mv_X11_283 : MV RX11 283 11 yX11_knownSets cX11_knownSets 1 (some (.object RX6)) 0 := ⟨⟨gm 979 (by decide +kernel) rfl, gm 982 (by decide +kernel) rfl, gm 1 (by decide +kernel) rfl, by decide +kernel, by decide +kernel, by decide +kernel⟩, by decide, ⟨TX11, rfl⟩, gm 981 (by decide +kernel) rfl, gmp 29 (by decide +kernel) rfl⟩
set_option maxRecDepth 20000 in
theorem mv_X11_287 : MV RX11 287 6 yX6_ordersOf cX6_ordersOf 2 (some .long) 1 := ⟨⟨gm 993 (by decide +kernel) rfl, gm 996 (by decide +kernel) rfl, gm 9 (by decide +kernel) rfl, by decide +kernel, by decide +kernel, by decide +kernel⟩, by decide, ⟨TX6, rfl⟩, gm 994 (by decide +kernel) rfl, gm 995 (by decide +kernel) rfl⟩
set_option maxRecDepth 20000 in
theorem mv_X11_291 : MV RX11 291 6 yX6_howMany cX6_howMany 3 (some .int) 0 := ⟨⟨gm 1001 (by decide +kernel) rfl, gm 1004 (by decide +kernel) rfl, gm 9 (by decide +kernel) rfl, by decide +kernel, by decide +kernel, by decide +kernel⟩, by decide, ⟨TX6, rfl⟩, gm 1002 (by decide +kernel) rfl, gm 1003 (by decide +kernel) rfl⟩
set_option maxRecDepth 20000 in
theorem mv_X11_294 : MV RX11 294 6 yX6_outsiders cX6_outsiders 3 (some .int) 0 := ⟨⟨gm 1009 (by decide +kernel) rfl, gm 1012 (by decide +kernel) rfl, gm 9 (by decide +kernel) rfl, by decide +kernel, by decide +kernel, by decide +kernel⟩, by decide, ⟨TX6, rfl⟩, gm 1010 (by decide +kernel) rfl, gm 1011 (by decide +kernel) rfl⟩
set_option maxRecDepth 20000 in
theorem mv_X11_297 : MV RX11 297 6 yX6_rounds cX6_rounds 3 (some .int) 0 := ⟨⟨gm 1017 (by decide +kernel) rfl, gm 1020 (by decide +kernel) rfl, gm 9 (by decide +kernel) rfl, by decide +kernel, by decide +kernel, by decide +kernel⟩, by decide, ⟨TX6, rfl⟩, gm 1018 (by decide +kernel) rfl, gm 1019 (by decide +kernel) rfl⟩
set_option maxRecDepth 20000 in
theorem mv_X11_300 : MV RX11 300 6 yX6_longestChain cX6_longestChain 4 (some .int) 1 := ⟨⟨gm 1030 (by decide +kernel) rfl, gm 1033 (by decide +kernel) rfl, gm 9 (by decide +kernel) rfl, by decide +kernel, by decide +kernel, by decide +kernel⟩, by decide, ⟨TX6, rfl⟩, gm 1031 (by decide +kernel) rfl, gm 1032 (by decide +kernel) rfl⟩
set_option maxRecDepth 20000 in
theorem mv_X11_305 : MV RX11 305 1 yX1_weigh cX1_weigh 3 none 1 := ⟨⟨gm 1050 (by decide +kernel) rfl, gm 1053 (by decide +kernel) rfl, gm 10 (by decide +kernel) rfl, by decide +kernel, by decide +kernel, by decide +kernel⟩, by decide, ⟨TX1, rfl⟩, gm 1051 (by decide +kernel) rfl, gm 1052 (by decide +kernel) rfl⟩
set_option maxRecDepth 20000 in
theorem mv_X11_308 : MV RX11 308 1 yX1_dropped cX1_dropped 1 (some .int) 0 := ⟨⟨gm 1060 (by decide +kernel) rfl, gm 1063 (by decide +kernel) rfl, gm 10 (by decide +kernel) rfl, by decide +kernel, by decide +kernel, by decide +kernel⟩, by decide, ⟨TX1, rfl⟩, gm 1061 (by decide +kernel) rfl, gm 1062 (by decide +kernel) rfl⟩
set_option maxRecDepth 20000 in
theorem mv_X11_311 : MV RX11 311 1 yX1_officialAt cX1_officialAt 4 (some .int) 1 := ⟨⟨gm 1068 (by decide +kernel) rfl, gm 1071 (by decide +kernel) rfl, gm 10 (by decide +kernel) rfl, by decide +kernel, by decide +kernel, by decide +kernel⟩, by decide, ⟨TX1, rfl⟩, gm 1069 (by decide +kernel) rfl, gm 1070 (by decide +kernel) rfl⟩
set_option maxRecDepth 20000 in
theorem mv_X11_313 : MV RX11 313 6 yX6_firstParting cX6_firstParting 4 (some .int) 1 := ⟨⟨gm 1076 (by decide +kernel) rfl, gm 1079 (by decide +kernel) rfl, gm 9 (by decide +kernel) rfl, by decide +kernel, by decide +kernel, by decide +kernel⟩, by decide, ⟨TX6, rfl⟩, gm 1077 (by decide +kernel) rfl, gm 1078 (by decide +kernel) rfl⟩
set_option maxRecDepth 20000 in
theorem mv_X11_316 : MV RX11 316 11 yX11_refusal cX11_refusal 2 (some .int) 1 := ⟨⟨gm 1096 (by decide +kernel) rfl, gm 1099 (by decide +kernel) rfl, gm 1 (by decide +kernel) rfl, by decide +kernel, by decide +kernel, by decide +kernel⟩, by decide, ⟨TX11, rfl⟩, gm 1098 (by decide +kernel) rfl, gmp 37 (by decide +kernel) rfl⟩
set_option maxRecDepth 20000 in
theorem mv_X11_319 : MV RX11 319 7 yX7_lengthOf cX7_lengthOf 2 (some .int) 1 := ⟨⟨gm 1118 (by decide +kernel) rfl, gm 1116 (by decide +kernel) rfl, gm 11 (by decide +kernel) rfl, by decide +kernel, by decide +kernel, by decide +kernel⟩, by decide, ⟨TX7, rfl⟩, gm 1114 (by decide +kernel) rfl, gm 1115 (by decide +kernel) rfl⟩
set_option maxRecDepth 20000 in
theorem mv_X11_322 : MV RX11 322 7 yX7_officialAt cX7_officialAt 3 (some .int) 2 := ⟨⟨gm 1119 (by decide +kernel) rfl, gm 1122 (by decide +kernel) rfl, gm 11 (by decide +kernel) rfl, by decide +kernel, by decide +kernel, by decide +kernel⟩, by decide, ⟨TX7, rfl⟩, gm 1120 (by decide +kernel) rfl, gm 1121 (by decide +kernel) rfl⟩
set_option maxRecDepth 20000 in
theorem mv_X11_323 : MV RX11 323 2 yX2_mayStamp cX2_mayStamp 3 (some .boolean) 2 := ⟨⟨gm 1123 (by decide +kernel) rfl, gm 1126 (by decide +kernel) rfl, gm 4 (by decide +kernel) rfl, by decide +kernel, by decide +kernel, by decide +kernel⟩, by decide, ⟨TX2, rfl⟩, gm 1124 (by decide +kernel) rfl, gm 1125 (by decide +kernel) rfl⟩
set_option maxRecDepth 20000 in
theorem mv_X11_326 : MV RX11 326 3 yX3_serve cX3_serve 5 none 3 := ⟨⟨gm 1135 (by decide +kernel) rfl, gm 1138 (by decide +kernel) rfl, gm 12 (by decide +kernel) rfl, by decide +kernel, by decide +kernel, by decide +kernel⟩, by decide, ⟨TX3, rfl⟩, gm 1136 (by decide +kernel) rfl, gm 1137 (by decide +kernel) rfl⟩
set_option maxRecDepth 20000 in
theorem mv_X11_330 : MV RX11 330 3 yX3_lastThrough cX3_lastThrough 4 (some .int) 1 := ⟨⟨gm 1163 (by decide +kernel) rfl, gm 1166 (by decide +kernel) rfl, gm 12 (by decide +kernel) rfl, by decide +kernel, by decide +kernel, by decide +kernel⟩, by decide, ⟨TX3, rfl⟩, gm 1164 (by decide +kernel) rfl, gm 1165 (by decide +kernel) rfl⟩
set_option maxRecDepth 20000 in
theorem mv_X11_333 : MV RX11 333 3 yX3_throughBy cX3_throughBy 4 (some .int) 1 := ⟨⟨gm 1176 (by decide +kernel) rfl, gm 1179 (by decide +kernel) rfl, gm 12 (by decide +kernel) rfl, by decide +kernel, by decide +kernel, by decide +kernel⟩, by decide, ⟨TX3, rfl⟩, gm 1177 (by decide +kernel) rfl, gm 1178 (by decide +kernel) rfl⟩
set_option maxRecDepth 20000 in
theorem mv_X11_336 : MV RX11 336 3 yX3_longestWaitedAt cX3_longestWaitedAt 3 (some .int) 0 := ⟨⟨gm 1184 (by decide +kernel) rfl, gm 1187 (by decide +kernel) rfl, gm 12 (by decide +kernel) rfl, by decide +kernel, by decide +kernel, by decide +kernel⟩, by decide, ⟨TX3, rfl⟩, gm 1185 (by decide +kernel) rfl, gm 1186 (by decide +kernel) rfl⟩
set_option maxRecDepth 20000 in
theorem mv_X11_342 : MV RX11 342 0 yX0_goFrom cX0_goFrom 7 none 2 := ⟨⟨gm 1196 (by decide +kernel) rfl, gm 1199 (by decide +kernel) rfl, gm 13 (by decide +kernel) rfl, by decide +kernel, by decide +kernel, by decide +kernel⟩, by decide, ⟨TX0, rfl⟩, gm 1197 (by decide +kernel) rfl, gm 1198 (by decide +kernel) rfl⟩
set_option maxRecDepth 20000 in
theorem mv_X11_353 : MV RX11 353 11 yX11_forgetAll cX11_forgetAll 1 none 0 := ⟨⟨gm 1238 (by decide +kernel) rfl, gm 1241 (by decide +kernel) rfl, gm 1 (by decide +kernel) rfl, by decide +kernel, by decide +kernel, by decide +kernel⟩, by decide, ⟨TX11, rfl⟩, gm 1240 (by decide +kernel) rfl, gmp 42 (by decide +kernel) rfl⟩
set_option maxRecDepth 20000 in
theorem mv_X11_359 : MV RX11 359 2 yX2_countAsked cX2_countAsked 4 (some .int) 1 := ⟨⟨gm 1254 (by decide +kernel) rfl, gm 1257 (by decide +kernel) rfl, gm 4 (by decide +kernel) rfl, by decide +kernel, by decide +kernel, by decide +kernel⟩, by decide, ⟨TX2, rfl⟩, gm 1255 (by decide +kernel) rfl, gm 1256 (by decide +kernel) rfl⟩
set_option maxRecDepth 20000 in
theorem mv_X11_365 : MV RX11 365 7 yX7_howMany cX7_howMany 3 (some .int) 0 := ⟨⟨gm 1259 (by decide +kernel) rfl, gm 1262 (by decide +kernel) rfl, gm 11 (by decide +kernel) rfl, by decide +kernel, by decide +kernel, by decide +kernel⟩, by decide, ⟨TX7, rfl⟩, gm 1260 (by decide +kernel) rfl, gm 1261 (by decide +kernel) rfl⟩
set_option maxRecDepth 20000 in
theorem mv_X11_366 : MV RX11 366 7 yX7_isSlot cX7_isSlot 2 (some .boolean) 1 := ⟨⟨gm 1100 (by decide +kernel) rfl, gm 1103 (by decide +kernel) rfl, gm 11 (by decide +kernel) rfl, by decide +kernel, by decide +kernel, by decide +kernel⟩, by decide, ⟨TX7, rfl⟩, gm 1101 (by decide +kernel) rfl, gm 1102 (by decide +kernel) rfl⟩
set_option maxRecDepth 20000 in
theorem mv_X11_369 : MV RX11 369 7 yX7_lay cX7_lay 4 none 3 := ⟨⟨gm 1275 (by decide +kernel) rfl, gm 1278 (by decide +kernel) rfl, gm 11 (by decide +kernel) rfl, by decide +kernel, by decide +kernel, by decide +kernel⟩, by decide, ⟨TX7, rfl⟩, gm 1276 (by decide +kernel) rfl, gm 1277 (by decide +kernel) rfl⟩
set_option maxRecDepth 20000 in
theorem mv_X11_373 : MV RX11 373 7 yX7_hasRow cX7_hasRow 2 (some .boolean) 1 := ⟨⟨gm 1104 (by decide +kernel) rfl, gm 1107 (by decide +kernel) rfl, gm 11 (by decide +kernel) rfl, by decide +kernel, by decide +kernel, by decide +kernel⟩, by decide, ⟨TX7, rfl⟩, gm 1105 (by decide +kernel) rfl, gm 1106 (by decide +kernel) rfl⟩
set_option maxRecDepth 20000 in
theorem mv_X11_376 : MV RX11 376 7 yX7_set cX7_set 5 (some .boolean) 3 := ⟨⟨gm 1286 (by decide +kernel) rfl, gm 1289 (by decide +kernel) rfl, gm 11 (by decide +kernel) rfl, by decide +kernel, by decide +kernel, by decide +kernel⟩, by decide, ⟨TX7, rfl⟩, gm 1287 (by decide +kernel) rfl, gm 1288 (by decide +kernel) rfl⟩
set_option maxRecDepth 20000 in
theorem mv_X11_380 : MV RX11 380 7 yX7_widthOf cX7_widthOf 2 (some .int) 1 := ⟨⟨gm 1297 (by decide +kernel) rfl, gm 1300 (by decide +kernel) rfl, gm 11 (by decide +kernel) rfl, by decide +kernel, by decide +kernel, by decide +kernel⟩, by decide, ⟨TX7, rfl⟩, gm 1298 (by decide +kernel) rfl, gm 1299 (by decide +kernel) rfl⟩
set_option maxRecDepth 20000 in
theorem mv_X11_383 : MV RX11 383 7 yX7_reaches cX7_reaches 5 (some .boolean) 3 := ⟨⟨gm 1301 (by decide +kernel) rfl, gm 1304 (by decide +kernel) rfl, gm 11 (by decide +kernel) rfl, by decide +kernel, by decide +kernel, by decide +kernel⟩, by decide, ⟨TX7, rfl⟩, gm 1302 (by decide +kernel) rfl, gm 1303 (by decide +kernel) rfl⟩
set_option maxRecDepth 20000 in
theorem mv_X11_387 : MV RX11 387 7 yX7_copy cX7_copy 6 none 5 := ⟨⟨gm 1305 (by decide +kernel) rfl, gm 1308 (by decide +kernel) rfl, gm 11 (by decide +kernel) rfl, by decide +kernel, by decide +kernel, by decide +kernel⟩, by decide, ⟨TX7, rfl⟩, gm 1306 (by decide +kernel) rfl, gm 1307 (by decide +kernel) rfl⟩
set_option maxRecDepth 20000 in
theorem mv_X11_392 : MV RX11 392 9 yX9_drawUp cX9_drawUp 5 none 1 := ⟨⟨gm 611 (by decide +kernel) rfl, gm 614 (by decide +kernel) rfl, gm 5 (by decide +kernel) rfl, by decide +kernel, by decide +kernel, by decide +kernel⟩, by decide, ⟨TX9, rfl⟩, gm 612 (by decide +kernel) rfl, gm 613 (by decide +kernel) rfl⟩
set_option maxRecDepth 20000 in
theorem mv_X11_395 : MV RX11 395 10 yX10_beginAt cX10_beginAt 2 none 1 := ⟨⟨gm 644 (by decide +kernel) rfl, gm 647 (by decide +kernel) rfl, gm 6 (by decide +kernel) rfl, by decide +kernel, by decide +kernel, by decide +kernel⟩, by decide, ⟨TX10, rfl⟩, gm 645 (by decide +kernel) rfl, gm 646 (by decide +kernel) rfl⟩
set_option maxRecDepth 20000 in
theorem mv_X11_401 : MV RX11 401 5 yX5_search cX5_search 4 none 3 := ⟨⟨gm 844 (by decide +kernel) rfl, gm 847 (by decide +kernel) rfl, gm 8 (by decide +kernel) rfl, by decide +kernel, by decide +kernel, by decide +kernel⟩, by decide, ⟨TX5, rfl⟩, gm 845 (by decide +kernel) rfl, gm 846 (by decide +kernel) rfl⟩
set_option maxRecDepth 20000 in
theorem mv_X11_405 : MV RX11 405 6 yX6_learn cX6_learn 2 none 1 := ⟨⟨gm 983 (by decide +kernel) rfl, gm 986 (by decide +kernel) rfl, gm 9 (by decide +kernel) rfl, by decide +kernel, by decide +kernel, by decide +kernel⟩, by decide, ⟨TX6, rfl⟩, gm 984 (by decide +kernel) rfl, gm 985 (by decide +kernel) rfl⟩
set_option maxRecDepth 20000 in
theorem mv_X11_408 : MV RX11 408 7 yX7_areBelow cX7_areBelow 4 (some .boolean) 2 := ⟨⟨gm 1109 (by decide +kernel) rfl, gm 1112 (by decide +kernel) rfl, gm 11 (by decide +kernel) rfl, by decide +kernel, by decide +kernel, by decide +kernel⟩, by decide, ⟨TX7, rfl⟩, gm 1110 (by decide +kernel) rfl, gm 1111 (by decide +kernel) rfl⟩
set_option maxRecDepth 20000 in
theorem mv_X12_109 : MV RX12 109 12 yX12_four cX12_four 3 none 1 := ⟨⟨gm 1495 (by decide +kernel) rfl, gm 1498 (by decide +kernel) rfl, gm 14 (by decide +kernel) rfl, by decide +kernel, by decide +kernel, by decide +kernel⟩, by decide, ⟨TX12, rfl⟩, gm 1497 (by decide +kernel) rfl, gmp 43 (by decide +kernel) rfl⟩
set_option maxRecDepth 20000 in
theorem mv_X12_116 : MV RX12 116 12 yX12_isByte cX12_isByte 4 (some .boolean) 3 := ⟨⟨gm 1527 (by decide +kernel) rfl, gm 1530 (by decide +kernel) rfl, gm 14 (by decide +kernel) rfl, by decide +kernel, by decide +kernel, by decide +kernel⟩, by decide, ⟨TX12, rfl⟩, gm 1529 (by decide +kernel) rfl, gmp 48 (by decide +kernel) rfl⟩
set_option maxRecDepth 20000 in
theorem mv_X12_147 : MV RX12 147 12 yX12_is cX12_is 3 (some .boolean) 1 := ⟨⟨gm 1549 (by decide +kernel) rfl, gm 1552 (by decide +kernel) rfl, gm 14 (by decide +kernel) rfl, by decide +kernel, by decide +kernel, by decide +kernel⟩, by decide, ⟨TX12, rfl⟩, gm 1551 (by decide +kernel) rfl, gmp 52 (by decide +kernel) rfl⟩
set_option maxRecDepth 20000 in
theorem mv_X12_151 : MV RX12 151 12 yX12_next cX12_next 2 none 0 := ⟨⟨gm 1523 (by decide +kernel) rfl, gm 1526 (by decide +kernel) rfl, gm 14 (by decide +kernel) rfl, by decide +kernel, by decide +kernel, by decide +kernel⟩, by decide, ⟨TX12, rfl⟩, gm 1525 (by decide +kernel) rfl, gmp 47 (by decide +kernel) rfl⟩
set_option maxRecDepth 20000 in
theorem mv_X12_154 : MV RX12 154 12 yX12_takes cX12_takes 3 (some .boolean) 1 := ⟨⟨gm 1545 (by decide +kernel) rfl, gm 1548 (by decide +kernel) rfl, gm 14 (by decide +kernel) rfl, by decide +kernel, by decide +kernel, by decide +kernel⟩, by decide, ⟨TX12, rfl⟩, gm 1547 (by decide +kernel) rfl, gmp 51 (by decide +kernel) rfl⟩
set_option maxRecDepth 20000 in
theorem mv_X12_157 : MV RX12 157 12 yX12_fails cX12_fails 2 none 1 := ⟨⟨gm 1553 (by decide +kernel) rfl, gm 1556 (by decide +kernel) rfl, gm 14 (by decide +kernel) rfl, by decide +kernel, by decide +kernel, by decide +kernel⟩, by decide, ⟨TX12, rfl⟩, gm 1555 (by decide +kernel) rfl, gmp 53 (by decide +kernel) rfl⟩
set_option maxRecDepth 20000 in
theorem mv_X12_160 : MV RX12 160 12 yX12_asks cX12_asks 3 none 1 := ⟨⟨gm 1541 (by decide +kernel) rfl, gm 1544 (by decide +kernel) rfl, gm 14 (by decide +kernel) rfl, by decide +kernel, by decide +kernel, by decide +kernel⟩, by decide, ⟨TX12, rfl⟩, gm 1543 (by decide +kernel) rfl, gmp 50 (by decide +kernel) rfl⟩
set_option maxRecDepth 20000 in
theorem mv_X12_164 : MV RX12 164 12 yX12_number cX12_number 4 (some .int) 2 := ⟨⟨gm 1562 (by decide +kernel) rfl, gm 1565 (by decide +kernel) rfl, gm 14 (by decide +kernel) rfl, by decide +kernel, by decide +kernel, by decide +kernel⟩, by decide, ⟨TX12, rfl⟩, gm 1564 (by decide +kernel) rfl, gmp 55 (by decide +kernel) rfl⟩
set_option maxRecDepth 20000 in
theorem mv_X12_171 : MV RX12 171 12 yX12_hasRead cX12_hasRead 2 (some .int) 1 := ⟨⟨gm 1571 (by decide +kernel) rfl, gm 1574 (by decide +kernel) rfl, gm 14 (by decide +kernel) rfl, by decide +kernel, by decide +kernel, by decide +kernel⟩, by decide, ⟨TX12, rfl⟩, gm 1573 (by decide +kernel) rfl, gmp 57 (by decide +kernel) rfl⟩
set_option maxRecDepth 20000 in
theorem mv_X12_175 : MV RX12 175 12 yX12_placeRead cX12_placeRead 2 (some .int) 1 := ⟨⟨gm 1586 (by decide +kernel) rfl, gm 1589 (by decide +kernel) rfl, gm 14 (by decide +kernel) rfl, by decide +kernel, by decide +kernel, by decide +kernel⟩, by decide, ⟨TX12, rfl⟩, gm 1588 (by decide +kernel) rfl, gmp 60 (by decide +kernel) rfl⟩
set_option maxRecDepth 20000 in
theorem mv_X12_180 : MV RX12 180 12 yX12_roomHere cX12_roomHere 1 (some .int) 0 := ⟨⟨gm 1567 (by decide +kernel) rfl, gm 1570 (by decide +kernel) rfl, gm 14 (by decide +kernel) rfl, by decide +kernel, by decide +kernel, by decide +kernel⟩, by decide, ⟨TX12, rfl⟩, gm 1569 (by decide +kernel) rfl, gmp 56 (by decide +kernel) rfl⟩
set_option maxRecDepth 20000 in
theorem mv_X12_186 : MV RX12 186 12 yX12_number_ cX12_number_ 5 (some .int) 3 := ⟨⟨gm 1558 (by decide +kernel) rfl, gm 1561 (by decide +kernel) rfl, gm 14 (by decide +kernel) rfl, by decide +kernel, by decide +kernel, by decide +kernel⟩, by decide, ⟨TX12, rfl⟩, gm 1560 (by decide +kernel) rfl, gmp 54 (by decide +kernel) rfl⟩
set_option maxRecDepth 20000 in
theorem mv_X12_193 : MV RX12 193 12 yX12_isGood cX12_isGood 1 (some .boolean) 0 := ⟨⟨gm 1536 (by decide +kernel) rfl, gm 1539 (by decide +kernel) rfl, gm 14 (by decide +kernel) rfl, by decide +kernel, by decide +kernel, by decide +kernel⟩, by decide, ⟨TX12, rfl⟩, gm 1538 (by decide +kernel) rfl, gmp 49 (by decide +kernel) rfl⟩
set_option maxRecDepth 20000 in
theorem mv_X12_203 : MV RX12 203 12 yX12_reads cX12_reads 3 none 2 := ⟨⟨gm 1515 (by decide +kernel) rfl, gm 1518 (by decide +kernel) rfl, gm 14 (by decide +kernel) rfl, by decide +kernel, by decide +kernel, by decide +kernel⟩, by decide, ⟨TX12, rfl⟩, gm 1517 (by decide +kernel) rfl, gmp 45 (by decide +kernel) rfl⟩
set_option maxRecDepth 20000 in
theorem mv_X12_207 : MV RX12 207 12 yX12_officialHere cX12_officialHere 1 (some .int) 0 := ⟨⟨gm 1602 (by decide +kernel) rfl, gm 1605 (by decide +kernel) rfl, gm 14 (by decide +kernel) rfl, by decide +kernel, by decide +kernel, by decide +kernel⟩, by decide, ⟨TX12, rfl⟩, gm 1604 (by decide +kernel) rfl, gmp 62 (by decide +kernel) rfl⟩
set_option maxRecDepth 20000 in
theorem mv_X12_214 : MV RX12 214 12 yX12_officialLine cX12_officialLine 5 none 0 := ⟨⟨gm 1582 (by decide +kernel) rfl, gm 1585 (by decide +kernel) rfl, gm 14 (by decide +kernel) rfl, by decide +kernel, by decide +kernel, by decide +kernel⟩, by decide, ⟨TX12, rfl⟩, gm 1584 (by decide +kernel) rfl, gmp 59 (by decide +kernel) rfl⟩
set_option maxRecDepth 20000 in
theorem mv_X12_219 : MV RX12 219 12 yX12_askLine cX12_askLine 4 none 1 := ⟨⟨gm 1598 (by decide +kernel) rfl, gm 1601 (by decide +kernel) rfl, gm 14 (by decide +kernel) rfl, by decide +kernel, by decide +kernel, by decide +kernel⟩, by decide, ⟨TX12, rfl⟩, gm 1600 (by decide +kernel) rfl, gmp 61 (by decide +kernel) rfl⟩
set_option maxRecDepth 20000 in
theorem mv_X12_225 : MV RX12 225 12 yX12_wayLine cX12_wayLine 4 none 0 := ⟨⟨gm 1607 (by decide +kernel) rfl, gm 1610 (by decide +kernel) rfl, gm 14 (by decide +kernel) rfl, by decide +kernel, by decide +kernel, by decide +kernel⟩, by decide, ⟨TX12, rfl⟩, gm 1609 (by decide +kernel) rfl, gmp 63 (by decide +kernel) rfl⟩
set_option maxRecDepth 20000 in
theorem mv_X12_230 : MV RX12 230 12 yX12_leaveLine cX12_leaveLine 4 none 0 := ⟨⟨gm 1612 (by decide +kernel) rfl, gm 1615 (by decide +kernel) rfl, gm 14 (by decide +kernel) rfl, by decide +kernel, by decide +kernel, by decide +kernel⟩, by decide, ⟨TX12, rfl⟩, gm 1614 (by decide +kernel) rfl, gmp 64 (by decide +kernel) rfl⟩
set_option maxRecDepth 20000 in
theorem mv_X12_235 : MV RX12 235 12 yX12_clears cX12_clears 2 none 0 := ⟨⟨gm 1511 (by decide +kernel) rfl, gm 1514 (by decide +kernel) rfl, gm 14 (by decide +kernel) rfl, by decide +kernel, by decide +kernel, by decide +kernel⟩, by decide, ⟨TX12, rfl⟩, gm 1513 (by decide +kernel) rfl, gmp 44 (by decide +kernel) rfl⟩
set_option maxRecDepth 20000 in
theorem mv_X12_238 : MV RX12 238 12 yX12_begins cX12_begins 1 none 0 := ⟨⟨gm 1519 (by decide +kernel) rfl, gm 1522 (by decide +kernel) rfl, gm 14 (by decide +kernel) rfl, by decide +kernel, by decide +kernel, by decide +kernel⟩, by decide, ⟨TX12, rfl⟩, gm 1521 (by decide +kernel) rfl, gmp 46 (by decide +kernel) rfl⟩
set_option maxRecDepth 20000 in
theorem mv_X12_249 : MV RX12 249 12 yX12_line cX12_line 4 none 0 := ⟨⟨gm 1576 (by decide +kernel) rfl, gm 1579 (by decide +kernel) rfl, gm 14 (by decide +kernel) rfl, by decide +kernel, by decide +kernel, by decide +kernel⟩, by decide, ⟨TX12, rfl⟩, gm 1578 (by decide +kernel) rfl, gmp 58 (by decide +kernel) rfl⟩
set_option maxRecDepth 20000 in
theorem mv_X12_252 : MV RX12 252 12 yX12_ends cX12_ends 1 none 0 := ⟨⟨gm 1617 (by decide +kernel) rfl, gm 1620 (by decide +kernel) rfl, gm 14 (by decide +kernel) rfl, by decide +kernel, by decide +kernel, by decide +kernel⟩, by decide, ⟨TX12, rfl⟩, gm 1619 (by decide +kernel) rfl, gmp 65 (by decide +kernel) rfl⟩
set_option maxRecDepth 20000 in
theorem mv_X12_255 : MV RX12 255 12 yX12_isOver cX12_isOver 1 none 0 := ⟨⟨gm 1621 (by decide +kernel) rfl, gm 1624 (by decide +kernel) rfl, gm 14 (by decide +kernel) rfl, by decide +kernel, by decide +kernel, by decide +kernel⟩, by decide, ⟨TX12, rfl⟩, gm 1623 (by decide +kernel) rfl, gmp 66 (by decide +kernel) rfl⟩
set_option maxRecDepth 20000 in
theorem mv_X12_258 : MV RX12 258 12 yX12_copyOffice cX12_copyOffice 3 none 2 := ⟨⟨gm 1625 (by decide +kernel) rfl, gm 1628 (by decide +kernel) rfl, gm 14 (by decide +kernel) rfl, by decide +kernel, by decide +kernel, by decide +kernel⟩, by decide, ⟨TX12, rfl⟩, gm 1627 (by decide +kernel) rfl, gmp 67 (by decide +kernel) rfl⟩
set_option maxRecDepth 20000 in
theorem mv_X12_267 : MV RX12 267 12 yX12_isOffice cX12_isOffice 1 (some .boolean) 0 := ⟨⟨gm 1700 (by decide +kernel) rfl, gm 1703 (by decide +kernel) rfl, gm 14 (by decide +kernel) rfl, by decide +kernel, by decide +kernel, by decide +kernel⟩, by decide, ⟨TX12, rfl⟩, gm 1702 (by decide +kernel) rfl, gmp 75 (by decide +kernel) rfl⟩
set_option maxRecDepth 20000 in
theorem mv_X12_270 : MV RX12 270 12 yX12_isOfficial cX12_isOfficial 3 (some .boolean) 1 := ⟨⟨gm 1636 (by decide +kernel) rfl, gm 1639 (by decide +kernel) rfl, gm 14 (by decide +kernel) rfl, by decide +kernel, by decide +kernel, by decide +kernel⟩, by decide, ⟨TX12, rfl⟩, gm 1638 (by decide +kernel) rfl, gmp 68 (by decide +kernel) rfl⟩
set_option maxRecDepth 20000 in
theorem mv_X12_275 : MV RX12 275 12 yX12_of cX12_of 3 (some .int) 2 := ⟨⟨gm 1641 (by decide +kernel) rfl, gm 1644 (by decide +kernel) rfl, gm 14 (by decide +kernel) rfl, by decide +kernel, by decide +kernel, by decide +kernel⟩, by decide, ⟨TX12, rfl⟩, gm 1643 (by decide +kernel) rfl, gmp 69 (by decide +kernel) rfl⟩
set_option maxRecDepth 20000 in
theorem mv_X12_282 : MV RX12 282 12 yX12_isOpenDay cX12_isOpenDay 3 (some .boolean) 2 := ⟨⟨gm 1668 (by decide +kernel) rfl, gm 1671 (by decide +kernel) rfl, gm 14 (by decide +kernel) rfl, by decide +kernel, by decide +kernel, by decide +kernel⟩, by decide, ⟨TX12, rfl⟩, gm 1670 (by decide +kernel) rfl, gmp 71 (by decide +kernel) rfl⟩
set_option maxRecDepth 20000 in
theorem mv_X12_285 : MV RX12 285 12 yX12_isLeave cX12_isLeave 3 (some .boolean) 2 := ⟨⟨gm 1672 (by decide +kernel) rfl, gm 1675 (by decide +kernel) rfl, gm 14 (by decide +kernel) rfl, by decide +kernel, by decide +kernel, by decide +kernel⟩, by decide, ⟨TX12, rfl⟩, gm 1674 (by decide +kernel) rfl, gmp 72 (by decide +kernel) rfl⟩
set_option maxRecDepth 20000 in
theorem mv_X12_291 : MV RX12 291 12 yX12_isOpen cX12_isOpen 3 (some .boolean) 2 := ⟨⟨gm 1664 (by decide +kernel) rfl, gm 1667 (by decide +kernel) rfl, gm 14 (by decide +kernel) rfl, by decide +kernel, by decide +kernel, by decide +kernel⟩, by decide, ⟨TX12, rfl⟩, gm 1666 (by decide +kernel) rfl, gmp 70 (by decide +kernel) rfl⟩
set_option maxRecDepth 20000 in
theorem mv_X12_294 : MV RX12 294 12 yX12_isRoom cX12_isRoom 2 (some .boolean) 1 := ⟨⟨gm 1688 (by decide +kernel) rfl, gm 1691 (by decide +kernel) rfl, gm 14 (by decide +kernel) rfl, by decide +kernel, by decide +kernel, by decide +kernel⟩, by decide, ⟨TX12, rfl⟩, gm 1690 (by decide +kernel) rfl, gmp 73 (by decide +kernel) rfl⟩
set_option maxRecDepth 20000 in
theorem mv_X12_297 : MV RX12 297 12 yX12_laysWalks cX12_laysWalks 4 none 0 := ⟨⟨gm 1692 (by decide +kernel) rfl, gm 1695 (by decide +kernel) rfl, gm 14 (by decide +kernel) rfl, by decide +kernel, by decide +kernel, by decide +kernel⟩, by decide, ⟨TX12, rfl⟩, gm 1694 (by decide +kernel) rfl, gmp 74 (by decide +kernel) rfl⟩
set_option maxRecDepth 20000 in
theorem mv_X12_312 : MV RX12 312 12 yX12_isHeld cX12_isHeld 3 (some .boolean) 2 := ⟨⟨gm 1720 (by decide +kernel) rfl, gm 1723 (by decide +kernel) rfl, gm 14 (by decide +kernel) rfl, by decide +kernel, by decide +kernel, by decide +kernel⟩, by decide, ⟨TX12, rfl⟩, gm 1722 (by decide +kernel) rfl, gmp 79 (by decide +kernel) rfl⟩
set_option maxRecDepth 20000 in
theorem mv_X12_315 : MV RX12 315 12 yX12_heldIn cX12_heldIn 4 (some .int) 1 := ⟨⟨gm 1728 (by decide +kernel) rfl, gm 1731 (by decide +kernel) rfl, gm 14 (by decide +kernel) rfl, by decide +kernel, by decide +kernel, by decide +kernel⟩, by decide, ⟨TX12, rfl⟩, gm 1730 (by decide +kernel) rfl, gmp 81 (by decide +kernel) rfl⟩
set_option maxRecDepth 20000 in
theorem mv_X12_322 : MV RX12 322 12 yX12_isFree cX12_isFree 3 (some .boolean) 2 := ⟨⟨gm 1724 (by decide +kernel) rfl, gm 1727 (by decide +kernel) rfl, gm 14 (by decide +kernel) rfl, by decide +kernel, by decide +kernel, by decide +kernel⟩, by decide, ⟨TX12, rfl⟩, gm 1726 (by decide +kernel) rfl, gmp 80 (by decide +kernel) rfl⟩
set_option maxRecDepth 20000 in
theorem mv_X12_325 : MV RX12 325 12 yX12_starts cX12_starts 3 none 1 := ⟨⟨gm 1712 (by decide +kernel) rfl, gm 1715 (by decide +kernel) rfl, gm 14 (by decide +kernel) rfl, by decide +kernel, by decide +kernel, by decide +kernel⟩, by decide, ⟨TX12, rfl⟩, gm 1714 (by decide +kernel) rfl, gmp 77 (by decide +kernel) rfl⟩
set_option maxRecDepth 20000 in
theorem mv_X12_328 : MV RX12 328 12 yX12_stampsIn cX12_stampsIn 5 (some .int) 1 := ⟨⟨gm 1716 (by decide +kernel) rfl, gm 1719 (by decide +kernel) rfl, gm 14 (by decide +kernel) rfl, by decide +kernel, by decide +kernel, by decide +kernel⟩, by decide, ⟨TX12, rfl⟩, gm 1718 (by decide +kernel) rfl, gmp 78 (by decide +kernel) rfl⟩
set_option maxRecDepth 20000 in
theorem mv_X12_331 : MV RX12 331 12 yX12_goesTo cX12_goesTo 3 none 2 := ⟨⟨gm 1732 (by decide +kernel) rfl, gm 1735 (by decide +kernel) rfl, gm 14 (by decide +kernel) rfl, by decide +kernel, by decide +kernel, by decide +kernel⟩, by decide, ⟨TX12, rfl⟩, gm 1734 (by decide +kernel) rfl, gmp 82 (by decide +kernel) rfl⟩
set_option maxRecDepth 20000 in
theorem mv_X12_334 : MV RX12 334 12 yX12_lays cX12_lays 2 none 0 := ⟨⟨gm 1708 (by decide +kernel) rfl, gm 1711 (by decide +kernel) rfl, gm 14 (by decide +kernel) rfl, by decide +kernel, by decide +kernel, by decide +kernel⟩, by decide, ⟨TX12, rfl⟩, gm 1710 (by decide +kernel) rfl, gmp 76 (by decide +kernel) rfl⟩
set_option maxRecDepth 20000 in
theorem mv_X12_337 : MV RX12 337 12 yX12_heldNow cX12_heldNow 1 (some .int) 0 := ⟨⟨gm 1744 (by decide +kernel) rfl, gm 1747 (by decide +kernel) rfl, gm 14 (by decide +kernel) rfl, by decide +kernel, by decide +kernel, by decide +kernel⟩, by decide, ⟨TX12, rfl⟩, gm 1746 (by decide +kernel) rfl, gmp 83 (by decide +kernel) rfl⟩
set_option maxRecDepth 20000 in
theorem mv_X12_340 : MV RX12 340 12 yX12_canNow cX12_canNow 3 (some .int) 0 := ⟨⟨gm 1764 (by decide +kernel) rfl, gm 1767 (by decide +kernel) rfl, gm 14 (by decide +kernel) rfl, by decide +kernel, by decide +kernel, by decide +kernel⟩, by decide, ⟨TX12, rfl⟩, gm 1766 (by decide +kernel) rfl, gmp 84 (by decide +kernel) rfl⟩
set_option maxRecDepth 20000 in
theorem mv_X12_345 : MV RX12 345 12 yX12_isDone cX12_isDone 1 (some .boolean) 0 := ⟨⟨gm 1801 (by decide +kernel) rfl, gm 1804 (by decide +kernel) rfl, gm 14 (by decide +kernel) rfl, by decide +kernel, by decide +kernel, by decide +kernel⟩, by decide, ⟨TX12, rfl⟩, gm 1803 (by decide +kernel) rfl, gmp 85 (by decide +kernel) rfl⟩
set_option maxRecDepth 20000 in
theorem mv_X12_360 : MV RX12 360 12 yX12_measure cX12_measure 2 (some .int) 1 := ⟨⟨gm 1825 (by decide +kernel) rfl, gm 1828 (by decide +kernel) rfl, gm 14 (by decide +kernel) rfl, by decide +kernel, by decide +kernel, by decide +kernel⟩, by decide, ⟨TX12, rfl⟩, gm 1827 (by decide +kernel) rfl, gmp 90 (by decide +kernel) rfl⟩
set_option maxRecDepth 20000 in
theorem mv_X12_369 : MV RX12 369 12 yX12_isLess cX12_isLess 3 (some .boolean) 1 := ⟨⟨gm 1829 (by decide +kernel) rfl, gm 1832 (by decide +kernel) rfl, gm 14 (by decide +kernel) rfl, by decide +kernel, by decide +kernel, by decide +kernel⟩, by decide, ⟨TX12, rfl⟩, gm 1831 (by decide +kernel) rfl, gmp 91 (by decide +kernel) rfl⟩
set_option maxRecDepth 20000 in
theorem mv_X12_375 : MV RX12 375 12 yX12_meets cX12_meets 5 none 2 := ⟨⟨gm 1821 (by decide +kernel) rfl, gm 1824 (by decide +kernel) rfl, gm 14 (by decide +kernel) rfl, by decide +kernel, by decide +kernel, by decide +kernel⟩, by decide, ⟨TX12, rfl⟩, gm 1823 (by decide +kernel) rfl, gmp 89 (by decide +kernel) rfl⟩
set_option maxRecDepth 20000 in
theorem mv_X12_378 : MV RX12 378 12 yX12_rows cX12_rows 11 none 3 := ⟨⟨gm 1817 (by decide +kernel) rfl, gm 1820 (by decide +kernel) rfl, gm 14 (by decide +kernel) rfl, by decide +kernel, by decide +kernel, by decide +kernel⟩, by decide, ⟨TX12, rfl⟩, gm 1819 (by decide +kernel) rfl, gmp 88 (by decide +kernel) rfl⟩
set_option maxRecDepth 20000 in
theorem mv_X12_382 : MV RX12 382 12 yX12_finds cX12_finds 2 (some .int) 1 := ⟨⟨gm 1813 (by decide +kernel) rfl, gm 1816 (by decide +kernel) rfl, gm 14 (by decide +kernel) rfl, by decide +kernel, by decide +kernel, by decide +kernel⟩, by decide, ⟨TX12, rfl⟩, gm 1815 (by decide +kernel) rfl, gmp 87 (by decide +kernel) rfl⟩
set_option maxRecDepth 20000 in
theorem mv_X12_385 : MV RX12 385 12 yX12_findsNow cX12_findsNow 2 (some .int) 1 := ⟨⟨gm 1809 (by decide +kernel) rfl, gm 1812 (by decide +kernel) rfl, gm 14 (by decide +kernel) rfl, by decide +kernel, by decide +kernel, by decide +kernel⟩, by decide, ⟨TX12, rfl⟩, gm 1811 (by decide +kernel) rfl, gmp 86 (by decide +kernel) rfl⟩
set_option maxRecDepth 20000 in
theorem mv_X12_388 : MV RX12 388 12 yX12_stepOf cX12_stepOf 3 (some .int) 2 := ⟨⟨gm 1837 (by decide +kernel) rfl, gm 1840 (by decide +kernel) rfl, gm 14 (by decide +kernel) rfl, by decide +kernel, by decide +kernel, by decide +kernel⟩, by decide, ⟨TX12, rfl⟩, gm 1839 (by decide +kernel) rfl, gmp 92 (by decide +kernel) rfl⟩
set_option maxRecDepth 20000 in
theorem mv_X12_397 : MV RX12 397 12 yX12_laysStart cX12_laysStart 3 none 0 := ⟨⟨gm 1877 (by decide +kernel) rfl, gm 1880 (by decide +kernel) rfl, gm 14 (by decide +kernel) rfl, by decide +kernel, by decide +kernel, by decide +kernel⟩, by decide, ⟨TX12, rfl⟩, gm 1879 (by decide +kernel) rfl, gmp 93 (by decide +kernel) rfl⟩
set_option maxRecDepth 20000 in
theorem mv_X12_400 : MV RX12 400 12 yX12_forgedOf cX12_forgedOf 4 (some .int) 1 := ⟨⟨gm 1885 (by decide +kernel) rfl, gm 1888 (by decide +kernel) rfl, gm 14 (by decide +kernel) rfl, by decide +kernel, by decide +kernel, by decide +kernel⟩, by decide, ⟨TX12, rfl⟩, gm 1887 (by decide +kernel) rfl, gmp 94 (by decide +kernel) rfl⟩
set_option maxRecDepth 20000 in
theorem mv_X12_403 : MV RX12 403 12 yX12_sets0 cX12_sets0 1 (some .int) 0 := ⟨⟨gm 1905 (by decide +kernel) rfl, gm 1908 (by decide +kernel) rfl, gm 14 (by decide +kernel) rfl, by decide +kernel, by decide +kernel, by decide +kernel⟩, by decide, ⟨TX12, rfl⟩, gm 1907 (by decide +kernel) rfl, gmp 97 (by decide +kernel) rfl⟩
set_option maxRecDepth 20000 in
theorem mv_X12_406 : MV RX12 406 12 yX12_mayStamp cX12_mayStamp 3 (some .boolean) 2 := ⟨⟨gm 1909 (by decide +kernel) rfl, gm 1912 (by decide +kernel) rfl, gm 14 (by decide +kernel) rfl, by decide +kernel, by decide +kernel, by decide +kernel⟩, by decide, ⟨TX12, rfl⟩, gm 1911 (by decide +kernel) rfl, gmp 98 (by decide +kernel) rfl⟩
set_option maxRecDepth 20000 in
theorem mv_X12_409 : MV RX12 409 12 yX12_isSet cX12_isSet 2 (some .boolean) 1 := ⟨⟨gm 1897 (by decide +kernel) rfl, gm 1900 (by decide +kernel) rfl, gm 14 (by decide +kernel) rfl, by decide +kernel, by decide +kernel, by decide +kernel⟩, by decide, ⟨TX12, rfl⟩, gm 1899 (by decide +kernel) rfl, gmp 95 (by decide +kernel) rfl⟩
set_option maxRecDepth 20000 in
theorem mv_X12_412 : MV RX12 412 12 yX12_laysSets cX12_laysSets 3 none 0 := ⟨⟨gm 1901 (by decide +kernel) rfl, gm 1904 (by decide +kernel) rfl, gm 14 (by decide +kernel) rfl, by decide +kernel, by decide +kernel, by decide +kernel⟩, by decide, ⟨TX12, rfl⟩, gm 1903 (by decide +kernel) rfl, gmp 96 (by decide +kernel) rfl⟩
set_option maxRecDepth 20000 in
theorem mv_X12_415 : MV RX12 415 12 yX12_laysReach cX12_laysReach 3 none 0 := ⟨⟨gm 1929 (by decide +kernel) rfl, gm 1932 (by decide +kernel) rfl, gm 14 (by decide +kernel) rfl, by decide +kernel, by decide +kernel, by decide +kernel⟩, by decide, ⟨TX12, rfl⟩, gm 1931 (by decide +kernel) rfl, gmp 100 (by decide +kernel) rfl⟩
set_option maxRecDepth 20000 in
theorem mv_X12_418 : MV RX12 418 12 yX12_ringNow cX12_ringNow 3 (some .int) 0 := ⟨⟨gm 1925 (by decide +kernel) rfl, gm 1928 (by decide +kernel) rfl, gm 14 (by decide +kernel) rfl, by decide +kernel, by decide +kernel, by decide +kernel⟩, by decide, ⟨TX12, rfl⟩, gm 1927 (by decide +kernel) rfl, gmp 99 (by decide +kernel) rfl⟩
set_option maxRecDepth 20000 in
theorem mv_X12_421 : MV RX12 421 12 yX12_depthOf cX12_depthOf 5 (some .int) 1 := ⟨⟨gm 1937 (by decide +kernel) rfl, gm 1940 (by decide +kernel) rfl, gm 14 (by decide +kernel) rfl, by decide +kernel, by decide +kernel, by decide +kernel⟩, by decide, ⟨TX12, rfl⟩, gm 1939 (by decide +kernel) rfl, gmp 101 (by decide +kernel) rfl⟩
set_option maxRecDepth 20000 in
theorem mv_X12_429 : MV RX12 429 12 yX12_dropsBy cX12_dropsBy 3 (some .int) 2 := ⟨⟨gm 1954 (by decide +kernel) rfl, gm 1957 (by decide +kernel) rfl, gm 14 (by decide +kernel) rfl, by decide +kernel, by decide +kernel, by decide +kernel⟩, by decide, ⟨TX12, rfl⟩, gm 1956 (by decide +kernel) rfl, gmp 103 (by decide +kernel) rfl⟩
set_option maxRecDepth 20000 in
theorem mv_X12_432 : MV RX12 432 12 yX12_laysDrops cX12_laysDrops 3 none 0 := ⟨⟨gm 1950 (by decide +kernel) rfl, gm 1953 (by decide +kernel) rfl, gm 14 (by decide +kernel) rfl, by decide +kernel, by decide +kernel, by decide +kernel⟩, by decide, ⟨TX12, rfl⟩, gm 1952 (by decide +kernel) rfl, gmp 102 (by decide +kernel) rfl⟩
set_option maxRecDepth 20000 in
theorem mv_X12_435 : MV RX12 435 12 yX12_canBeHad cX12_canBeHad 2 (some .boolean) 0 := ⟨⟨gm 1969 (by decide +kernel) rfl, gm 1972 (by decide +kernel) rfl, gm 14 (by decide +kernel) rfl, by decide +kernel, by decide +kernel, by decide +kernel⟩, by decide, ⟨TX12, rfl⟩, gm 1971 (by decide +kernel) rfl, gmp 104 (by decide +kernel) rfl⟩
set_option maxRecDepth 20000 in
theorem mv_X12_438 : MV RX12 438 12 yX12_isParted cX12_isParted 5 (some .boolean) 3 := ⟨⟨gm 1973 (by decide +kernel) rfl, gm 1976 (by decide +kernel) rfl, gm 14 (by decide +kernel) rfl, by decide +kernel, by decide +kernel, by decide +kernel⟩, by decide, ⟨TX12, rfl⟩, gm 1975 (by decide +kernel) rfl, gmp 105 (by decide +kernel) rfl⟩
set_option maxRecDepth 20000 in
theorem mv_X12_442 : MV RX12 442 12 yX12_whyNot cX12_whyNot 3 (some .int) 1 := ⟨⟨gm 1981 (by decide +kernel) rfl, gm 1984 (by decide +kernel) rfl, gm 14 (by decide +kernel) rfl, by decide +kernel, by decide +kernel, by decide +kernel⟩, by decide, ⟨TX12, rfl⟩, gm 1983 (by decide +kernel) rfl, gmp 106 (by decide +kernel) rfl⟩
set_option maxRecDepth 20000 in
theorem mv_X12_445 : MV RX12 445 12 yX12_cellOf cX12_cellOf 3 (some .int) 2 := ⟨⟨gm 1985 (by decide +kernel) rfl, gm 1988 (by decide +kernel) rfl, gm 14 (by decide +kernel) rfl, by decide +kernel, by decide +kernel, by decide +kernel⟩, by decide, ⟨TX12, rfl⟩, gm 1987 (by decide +kernel) rfl, gmp 107 (by decide +kernel) rfl⟩
set_option maxRecDepth 20000 in
theorem mv_X12_448 : MV RX12 448 12 yX12_runs cX12_runs 5 (some .int) 1 := ⟨⟨gm 1997 (by decide +kernel) rfl, gm 2000 (by decide +kernel) rfl, gm 14 (by decide +kernel) rfl, by decide +kernel, by decide +kernel, by decide +kernel⟩, by decide, ⟨TX12, rfl⟩, gm 1999 (by decide +kernel) rfl, gmp 108 (by decide +kernel) rfl⟩
set_option maxRecDepth 20000 in
theorem mv_X12_453 : MV RX12 453 12 yX12_queues cX12_queues 4 none 2 := ⟨⟨gm 2006 (by decide +kernel) rfl, gm 2009 (by decide +kernel) rfl, gm 14 (by decide +kernel) rfl, by decide +kernel, by decide +kernel, by decide +kernel⟩, by decide, ⟨TX12, rfl⟩, gm 2008 (by decide +kernel) rfl, gmp 109 (by decide +kernel) rfl⟩
set_option maxRecDepth 20000 in
theorem mv_X12_456 : MV RX12 456 12 yX12_lastOf cX12_lastOf 4 (some .int) 1 := ⟨⟨gm 2010 (by decide +kernel) rfl, gm 2013 (by decide +kernel) rfl, gm 14 (by decide +kernel) rfl, by decide +kernel, by decide +kernel, by decide +kernel⟩, by decide, ⟨TX12, rfl⟩, gm 2012 (by decide +kernel) rfl, gmp 110 (by decide +kernel) rfl⟩
set_option maxRecDepth 20000 in
theorem mv_X12_474 : MV RX12 474 12 yX12_isSeed cX12_isSeed 2 (some .boolean) 1 := ⟨⟨gm 2027 (by decide +kernel) rfl, gm 2030 (by decide +kernel) rfl, gm 14 (by decide +kernel) rfl, by decide +kernel, by decide +kernel, by decide +kernel⟩, by decide, ⟨TX12, rfl⟩, gm 2029 (by decide +kernel) rfl, gmp 111 (by decide +kernel) rfl⟩
set_option maxRecDepth 20000 in
theorem mv_X12_477 : MV RX12 477 12 yX12_draws cX12_draws 9 (some .int) 1 := ⟨⟨gm 2032 (by decide +kernel) rfl, gm 2035 (by decide +kernel) rfl, gm 14 (by decide +kernel) rfl, by decide +kernel, by decide +kernel, by decide +kernel⟩, by decide, ⟨TX12, rfl⟩, gm 2034 (by decide +kernel) rfl, gmp 112 (by decide +kernel) rfl⟩
set_option maxRecDepth 20000 in
theorem mv_X2_57 : MV RX2 57 2 yX2_isThere cX2_isThere 1 (some .boolean) 0 := ⟨⟨gm 978 (by decide +kernel) rfl, gm 750 (by decide +kernel) rfl, gm 4 (by decide +kernel) rfl, by decide +kernel, by decide +kernel, by decide +kernel⟩, by decide, ⟨TX2, rfl⟩, gm 748 (by decide +kernel) rfl, gm 749 (by decide +kernel) rfl⟩
set_option maxRecDepth 20000 in
theorem mv_X2_61 : MV RX2 61 2 yX2_hasOfficial cX2_hasOfficial 2 (some .boolean) 1 := ⟨⟨gm 631 (by decide +kernel) rfl, gm 634 (by decide +kernel) rfl, gm 4 (by decide +kernel) rfl, by decide +kernel, by decide +kernel, by decide +kernel⟩, by decide, ⟨TX2, rfl⟩, gm 632 (by decide +kernel) rfl, gm 633 (by decide +kernel) rfl⟩
set_option maxRecDepth 20000 in
theorem mv_X2_65 : MV RX2 65 2 yX2_isOffered cX2_isOffered 4 (some .boolean) 2 := ⟨⟨gm 635 (by decide +kernel) rfl, gm 638 (by decide +kernel) rfl, gm 4 (by decide +kernel) rfl, by decide +kernel, by decide +kernel, by decide +kernel⟩, by decide, ⟨TX2, rfl⟩, gm 636 (by decide +kernel) rfl, gm 637 (by decide +kernel) rfl⟩
set_option maxRecDepth 20000 in
theorem mv_X3_35 : MV RX3 35 3 yX3_goBy cX3_goBy 4 (some .int) 2 := ⟨⟨gm 1140 (by decide +kernel) rfl, gm 1143 (by decide +kernel) rfl, gm 12 (by decide +kernel) rfl, by decide +kernel, by decide +kernel, by decide +kernel⟩, by decide, ⟨TX3, rfl⟩, gm 1142 (by decide +kernel) rfl, gmp 38 (by decide +kernel) rfl⟩
set_option maxRecDepth 20000 in
theorem mv_X3_50 : MV RX3 50 10 yX10_beginAt cX10_beginAt 2 none 1 := ⟨⟨gm 1144 (by decide +kernel) rfl, gm 647 (by decide +kernel) rfl, gm 6 (by decide +kernel) rfl, by decide +kernel, by decide +kernel, by decide +kernel⟩, by decide, ⟨TX10, rfl⟩, gm 645 (by decide +kernel) rfl, gm 646 (by decide +kernel) rfl⟩
set_option maxRecDepth 20000 in
theorem mv_X3_54 : MV RX3 54 7 yX7_lengthOf cX7_lengthOf 2 (some .int) 1 := ⟨⟨gm 1145 (by decide +kernel) rfl, gm 1116 (by decide +kernel) rfl, gm 11 (by decide +kernel) rfl, by decide +kernel, by decide +kernel, by decide +kernel⟩, by decide, ⟨TX7, rfl⟩, gm 1114 (by decide +kernel) rfl, gm 1115 (by decide +kernel) rfl⟩
set_option maxRecDepth 20000 in
theorem mv_X3_60 : MV RX3 60 7 yX7_officialAt cX7_officialAt 3 (some .int) 2 := ⟨⟨gm 1146 (by decide +kernel) rfl, gm 1122 (by decide +kernel) rfl, gm 11 (by decide +kernel) rfl, by decide +kernel, by decide +kernel, by decide +kernel⟩, by decide, ⟨TX7, rfl⟩, gm 1120 (by decide +kernel) rfl, gm 1121 (by decide +kernel) rfl⟩
set_option maxRecDepth 20000 in
theorem mv_X3_64 : MV RX3 64 3 yX3_goTo cX3_goTo 4 (some .boolean) 1 := ⟨⟨gm 1147 (by decide +kernel) rfl, gm 1150 (by decide +kernel) rfl, gm 12 (by decide +kernel) rfl, by decide +kernel, by decide +kernel, by decide +kernel⟩, by decide, ⟨TX3, rfl⟩, gm 1149 (by decide +kernel) rfl, gmp 39 (by decide +kernel) rfl⟩
set_option maxRecDepth 20000 in
theorem mv_X3_71 : MV RX3 71 10 yX10_arrival cX10_arrival 3 (some .int) 1 := ⟨⟨gm 1151 (by decide +kernel) rfl, gm 655 (by decide +kernel) rfl, gm 6 (by decide +kernel) rfl, by decide +kernel, by decide +kernel, by decide +kernel⟩, by decide, ⟨TX10, rfl⟩, gm 653 (by decide +kernel) rfl, gm 654 (by decide +kernel) rfl⟩
set_option maxRecDepth 20000 in
theorem mv_X3_74 : MV RX3 74 10 yX10_holds cX10_holds 2 (some .boolean) 1 := ⟨⟨gm 1152 (by decide +kernel) rfl, gm 664 (by decide +kernel) rfl, gm 6 (by decide +kernel) rfl, by decide +kernel, by decide +kernel, by decide +kernel⟩, by decide, ⟨TX10, rfl⟩, gm 662 (by decide +kernel) rfl, gm 663 (by decide +kernel) rfl⟩
set_option maxRecDepth 20000 in
theorem mv_X3_77 : MV RX3 77 10 yX10_unbarred cX10_unbarred 6 (some .int) 2 := ⟨⟨gm 1153 (by decide +kernel) rfl, gm 672 (by decide +kernel) rfl, gm 6 (by decide +kernel) rfl, by decide +kernel, by decide +kernel, by decide +kernel⟩, by decide, ⟨TX10, rfl⟩, gm 670 (by decide +kernel) rfl, gm 671 (by decide +kernel) rfl⟩
set_option maxRecDepth 20000 in
theorem mv_X3_80 : MV RX3 80 3 yX3_firstFree cX3_firstFree 5 (some .int) 2 := ⟨⟨gm 1154 (by decide +kernel) rfl, gm 1157 (by decide +kernel) rfl, gm 12 (by decide +kernel) rfl, by decide +kernel, by decide +kernel, by decide +kernel⟩, by decide, ⟨TX3, rfl⟩, gm 1156 (by decide +kernel) rfl, gmp 40 (by decide +kernel) rfl⟩
set_option maxRecDepth 20000 in
theorem mv_X3_83 : MV RX3 83 10 yX10_supported cX10_supported 5 (some .int) 1 := ⟨⟨gm 1161 (by decide +kernel) rfl, gm 684 (by decide +kernel) rfl, gm 6 (by decide +kernel) rfl, by decide +kernel, by decide +kernel, by decide +kernel⟩, by decide, ⟨TX10, rfl⟩, gm 682 (by decide +kernel) rfl, gm 683 (by decide +kernel) rfl⟩
set_option maxRecDepth 20000 in
theorem mv_X3_86 : MV RX3 86 10 yX10_stampIn cX10_stampIn 5 none 2 := ⟨⟨gm 1162 (by decide +kernel) rfl, gm 689 (by decide +kernel) rfl, gm 6 (by decide +kernel) rfl, by decide +kernel, by decide +kernel, by decide +kernel⟩, by decide, ⟨TX10, rfl⟩, gm 687 (by decide +kernel) rfl, gm 688 (by decide +kernel) rfl⟩
set_option maxRecDepth 20000 in
theorem mv_X3_94 : MV RX3 94 9 yX9_firstOpen cX9_firstOpen 3 (some .int) 2 := ⟨⟨gm 1158 (by decide +kernel) rfl, gm 680 (by decide +kernel) rfl, gm 5 (by decide +kernel) rfl, by decide +kernel, by decide +kernel, by decide +kernel⟩, by decide, ⟨TX9, rfl⟩, gm 678 (by decide +kernel) rfl, gm 679 (by decide +kernel) rfl⟩
set_option maxRecDepth 20000 in
theorem mv_X4_116 : MV RX4 116 4 yX4_tell cX4_tell 3 none 2 := ⟨⟨gm 554 (by decide +kernel) rfl, gm 557 (by decide +kernel) rfl, gm 3 (by decide +kernel) rfl, by decide +kernel, by decide +kernel, by decide +kernel⟩, by decide, ⟨TX4, rfl⟩, gm 556 (by decide +kernel) rfl, gmp 6 (by decide +kernel) rfl⟩
set_option maxRecDepth 20000 in
theorem mv_X4_128 : MV RX4 128 4 yX4_readMark cX4_readMark 6 none 4 := ⟨⟨gm 562 (by decide +kernel) rfl, gm 565 (by decide +kernel) rfl, gm 3 (by decide +kernel) rfl, by decide +kernel, by decide +kernel, by decide +kernel⟩, by decide, ⟨TX4, rfl⟩, gm 564 (by decide +kernel) rfl, gmp 7 (by decide +kernel) rfl⟩
set_option maxRecDepth 20000 in
theorem mv_X4_140 : MV RX4 140 4 yX4_takeNumber cX4_takeNumber 4 (some .int) 2 := ⟨⟨gm 542 (by decide +kernel) rfl, gm 545 (by decide +kernel) rfl, gm 3 (by decide +kernel) rfl, by decide +kernel, by decide +kernel, by decide +kernel⟩, by decide, ⟨TX4, rfl⟩, gm 544 (by decide +kernel) rfl, gmp 4 (by decide +kernel) rfl⟩
set_option maxRecDepth 20000 in
theorem mv_X4_144 : MV RX4 144 4 yX4_takeNumberBut cX4_takeNumberBut 4 (some .int) 2 := ⟨⟨gm 573 (by decide +kernel) rfl, gm 576 (by decide +kernel) rfl, gm 3 (by decide +kernel) rfl, by decide +kernel, by decide +kernel, by decide +kernel⟩, by decide, ⟨TX4, rfl⟩, gm 575 (by decide +kernel) rfl, gmp 9 (by decide +kernel) rfl⟩
set_option maxRecDepth 20000 in
theorem mv_X4_26 : MV RX4 26 2 yX2_clear cX2_clear 2 none 0 := ⟨⟨gm 454 (by decide +kernel) rfl, gm 457 (by decide +kernel) rfl, gm 4 (by decide +kernel) rfl, by decide +kernel, by decide +kernel, by decide +kernel⟩, by decide, ⟨TX2, rfl⟩, gm 455 (by decide +kernel) rfl, gm 456 (by decide +kernel) rfl⟩
set_option maxRecDepth 20000 in
theorem mv_X4_32 : MV RX4 32 8 yX8_rewind cX8_rewind 1 none 0 := ⟨⟨gm 459 (by decide +kernel) rfl, gm 462 (by decide +kernel) rfl, gm 2 (by decide +kernel) rfl, by decide +kernel, by decide +kernel, by decide +kernel⟩, by decide, ⟨TX8, rfl⟩, gm 460 (by decide +kernel) rfl, gm 461 (by decide +kernel) rfl⟩
set_option maxRecDepth 20000 in
theorem mv_X4_40 : MV RX4 40 4 yX4_readLine cX4_readLine 2 none 0 := ⟨⟨gm 471 (by decide +kernel) rfl, gm 474 (by decide +kernel) rfl, gm 3 (by decide +kernel) rfl, by decide +kernel, by decide +kernel, by decide +kernel⟩, by decide, ⟨TX4, rfl⟩, gm 473 (by decide +kernel) rfl, gmp 0 (by decide +kernel) rfl⟩
set_option maxRecDepth 20000 in
theorem mv_X4_45 : MV RX4 45 8 yX8_isWord cX8_isWord 3 (some .boolean) 1 := ⟨⟨gm 476 (by decide +kernel) rfl, gm 479 (by decide +kernel) rfl, gm 2 (by decide +kernel) rfl, by decide +kernel, by decide +kernel, by decide +kernel⟩, by decide, ⟨TX8, rfl⟩, gm 477 (by decide +kernel) rfl, gm 478 (by decide +kernel) rfl⟩
set_option maxRecDepth 20000 in
theorem mv_X4_52 : MV RX4 52 4 yX4_blame cX4_blame 2 (some .int) 1 := ⟨⟨gm 528 (by decide +kernel) rfl, gm 531 (by decide +kernel) rfl, gm 3 (by decide +kernel) rfl, by decide +kernel, by decide +kernel, by decide +kernel⟩, by decide, ⟨TX4, rfl⟩, gm 530 (by decide +kernel) rfl, gmp 1 (by decide +kernel) rfl⟩
set_option maxRecDepth 20000 in
theorem mv_X4_56 : MV RX4 56 4 yX4_readHead cX4_readHead 1 none 0 := ⟨⟨gm 532 (by decide +kernel) rfl, gm 535 (by decide +kernel) rfl, gm 3 (by decide +kernel) rfl, by decide +kernel, by decide +kernel, by decide +kernel⟩, by decide, ⟨TX4, rfl⟩, gm 534 (by decide +kernel) rfl, gmp 2 (by decide +kernel) rfl⟩
set_option maxRecDepth 20000 in
theorem mv_X4_61 : MV RX4 61 4 yX4_readOfficial cX4_readOfficial 4 none 0 := ⟨⟨gm 549 (by decide +kernel) rfl, gm 552 (by decide +kernel) rfl, gm 3 (by decide +kernel) rfl, by decide +kernel, by decide +kernel, by decide +kernel⟩, by decide, ⟨TX4, rfl⟩, gm 551 (by decide +kernel) rfl, gmp 5 (by decide +kernel) rfl⟩
set_option maxRecDepth 20000 in
theorem mv_X4_66 : MV RX4 66 4 yX4_readWay cX4_readWay 4 none 0 := ⟨⟨gm 569 (by decide +kernel) rfl, gm 572 (by decide +kernel) rfl, gm 3 (by decide +kernel) rfl, by decide +kernel, by decide +kernel, by decide +kernel⟩, by decide, ⟨TX4, rfl⟩, gm 571 (by decide +kernel) rfl, gmp 8 (by decide +kernel) rfl⟩
set_option maxRecDepth 20000 in
theorem mv_X4_71 : MV RX4 71 4 yX4_readAsking cX4_readAsking 4 none 1 := ⟨⟨gm 581 (by decide +kernel) rfl, gm 584 (by decide +kernel) rfl, gm 3 (by decide +kernel) rfl, by decide +kernel, by decide +kernel, by decide +kernel⟩, by decide, ⟨TX4, rfl⟩, gm 583 (by decide +kernel) rfl, gmp 10 (by decide +kernel) rfl⟩
set_option maxRecDepth 20000 in
theorem mv_X4_79 : MV RX4 79 4 yX4_readLeave cX4_readLeave 4 none 0 := ⟨⟨gm 587 (by decide +kernel) rfl, gm 590 (by decide +kernel) rfl, gm 3 (by decide +kernel) rfl, by decide +kernel, by decide +kernel, by decide +kernel⟩, by decide, ⟨TX4, rfl⟩, gm 589 (by decide +kernel) rfl, gmp 11 (by decide +kernel) rfl⟩
set_option maxRecDepth 20000 in
theorem mv_X4_84 : MV RX4 84 4 yX4_readPermit cX4_readPermit 3 none 0 := ⟨⟨gm 592 (by decide +kernel) rfl, gm 595 (by decide +kernel) rfl, gm 3 (by decide +kernel) rfl, by decide +kernel, by decide +kernel, by decide +kernel⟩, by decide, ⟨TX4, rfl⟩, gm 594 (by decide +kernel) rfl, gmp 12 (by decide +kernel) rfl⟩
set_option maxRecDepth 20000 in
theorem mv_X4_87 : MV RX4 87 4 yX4_takeSign cX4_takeSign 1 none 0 := ⟨⟨gm 596 (by decide +kernel) rfl, gm 599 (by decide +kernel) rfl, gm 3 (by decide +kernel) rfl, by decide +kernel, by decide +kernel, by decide +kernel⟩, by decide, ⟨TX4, rfl⟩, gm 598 (by decide +kernel) rfl, gmp 13 (by decide +kernel) rfl⟩
set_option maxRecDepth 20000 in
theorem mv_X4_90 : MV RX4 90 8 yX8_advance cX8_advance 1 none 0 := ⟨⟨gm 536 (by decide +kernel) rfl, gm 466 (by decide +kernel) rfl, gm 2 (by decide +kernel) rfl, by decide +kernel, by decide +kernel, by decide +kernel⟩, by decide, ⟨TX8, rfl⟩, gm 464 (by decide +kernel) rfl, gm 465 (by decide +kernel) rfl⟩
set_option maxRecDepth 20000 in
theorem mv_X4_95 : MV RX4 95 4 yX4_takeAfter cX4_takeAfter 4 (some .int) 3 := ⟨⟨gm 538 (by decide +kernel) rfl, gm 541 (by decide +kernel) rfl, gm 3 (by decide +kernel) rfl, by decide +kernel, by decide +kernel, by decide +kernel⟩, by decide, ⟨TX4, rfl⟩, gm 540 (by decide +kernel) rfl, gmp 3 (by decide +kernel) rfl⟩
set_option maxRecDepth 20000 in
theorem mv_X5_105 : MV RX5 105 9 yX9_firstOpen cX9_firstOpen 3 (some .int) 2 := ⟨⟨gm 860 (by decide +kernel) rfl, gm 680 (by decide +kernel) rfl, gm 5 (by decide +kernel) rfl, by decide +kernel, by decide +kernel, by decide +kernel⟩, by decide, ⟨TX9, rfl⟩, gm 678 (by decide +kernel) rfl, gm 679 (by decide +kernel) rfl⟩
set_option maxRecDepth 20000 in
theorem mv_X5_114 : MV RX5 114 10 yX10_missing cX10_missing 1 (some .int) 0 := ⟨⟨gm 864 (by decide +kernel) rfl, gm 834 (by decide +kernel) rfl, gm 6 (by decide +kernel) rfl, by decide +kernel, by decide +kernel, by decide +kernel⟩, by decide, ⟨TX10, rfl⟩, gm 832 (by decide +kernel) rfl, gm 833 (by decide +kernel) rfl⟩
set_option maxRecDepth 20000 in
theorem mv_X5_117 : MV RX5 117 5 yX5_take cX5_take 3 none 1 := ⟨⟨gm 865 (by decide +kernel) rfl, gm 868 (by decide +kernel) rfl, gm 8 (by decide +kernel) rfl, by decide +kernel, by decide +kernel, by decide +kernel⟩, by decide, ⟨TX5, rfl⟩, gm 867 (by decide +kernel) rfl, gmp 22 (by decide +kernel) rfl⟩
set_option maxRecDepth 20000 in
theorem mv_X5_121 : MV RX5 121 5 yX5_isHopeless cX5_isHopeless 4 (some .boolean) 2 := ⟨⟨gm 879 (by decide +kernel) rfl, gm 882 (by decide +kernel) rfl, gm 8 (by decide +kernel) rfl, by decide +kernel, by decide +kernel, by decide +kernel⟩, by decide, ⟨TX5, rfl⟩, gm 881 (by decide +kernel) rfl, gmp 25 (by decide +kernel) rfl⟩
set_option maxRecDepth 20000 in
theorem mv_X5_136 : MV RX5 136 10 yX10_stampHour cX10_stampHour 4 (some .int) 1 := ⟨⟨gm 891 (by decide +kernel) rfl, gm 651 (by decide +kernel) rfl, gm 6 (by decide +kernel) rfl, by decide +kernel, by decide +kernel, by decide +kernel⟩, by decide, ⟨TX10, rfl⟩, gm 649 (by decide +kernel) rfl, gm 650 (by decide +kernel) rfl⟩
set_option maxRecDepth 20000 in
theorem mv_X5_139 : MV RX5 139 10 yX10_stampIn cX10_stampIn 5 none 2 := ⟨⟨gm 892 (by decide +kernel) rfl, gm 689 (by decide +kernel) rfl, gm 6 (by decide +kernel) rfl, by decide +kernel, by decide +kernel, by decide +kernel⟩, by decide, ⟨TX10, rfl⟩, gm 687 (by decide +kernel) rfl, gm 688 (by decide +kernel) rfl⟩
set_option maxRecDepth 20000 in
theorem mv_X5_143 : MV RX5 143 10 yX10_unbarred cX10_unbarred 6 (some .int) 2 := ⟨⟨gm 884 (by decide +kernel) rfl, gm 672 (by decide +kernel) rfl, gm 6 (by decide +kernel) rfl, by decide +kernel, by decide +kernel, by decide +kernel⟩, by decide, ⟨TX10, rfl⟩, gm 670 (by decide +kernel) rfl, gm 671 (by decide +kernel) rfl⟩
set_option maxRecDepth 20000 in
theorem mv_X5_151 : MV RX5 151 5 yX5_isBetter cX5_isBetter 4 (some .boolean) 3 := ⟨⟨gm 869 (by decide +kernel) rfl, gm 872 (by decide +kernel) rfl, gm 8 (by decide +kernel) rfl, by decide +kernel, by decide +kernel, by decide +kernel⟩, by decide, ⟨TX5, rfl⟩, gm 871 (by decide +kernel) rfl, gmp 23 (by decide +kernel) rfl⟩
set_option maxRecDepth 20000 in
theorem mv_X5_155 : MV RX5 155 5 yX5_put cX5_put 4 none 3 := ⟨⟨gm 873 (by decide +kernel) rfl, gm 876 (by decide +kernel) rfl, gm 8 (by decide +kernel) rfl, by decide +kernel, by decide +kernel, by decide +kernel⟩, by decide, ⟨TX5, rfl⟩, gm 875 (by decide +kernel) rfl, gmp 24 (by decide +kernel) rfl⟩
set_option maxRecDepth 20000 in
theorem mv_X5_33 : MV RX5 33 10 yX10_joins cX10_joins 2 none 1 := ⟨⟨gm 848 (by decide +kernel) rfl, gm 851 (by decide +kernel) rfl, gm 6 (by decide +kernel) rfl, by decide +kernel, by decide +kernel, by decide +kernel⟩, by decide, ⟨TX10, rfl⟩, gm 849 (by decide +kernel) rfl, gm 850 (by decide +kernel) rfl⟩
set_option maxRecDepth 20000 in
theorem mv_X5_45 : MV RX5 45 10 yX10_holding cX10_holding 3 (some .int) 0 := ⟨⟨gm 854 (by decide +kernel) rfl, gm 766 (by decide +kernel) rfl, gm 6 (by decide +kernel) rfl, by decide +kernel, by decide +kernel, by decide +kernel⟩, by decide, ⟨TX10, rfl⟩, gm 764 (by decide +kernel) rfl, gm 765 (by decide +kernel) rfl⟩
set_option maxRecDepth 20000 in
theorem mv_X5_77 : MV RX5 77 5 yX5_obtainable cX5_obtainable 6 (some .int) 0 := ⟨⟨gm 855 (by decide +kernel) rfl, gm 858 (by decide +kernel) rfl, gm 8 (by decide +kernel) rfl, by decide +kernel, by decide +kernel, by decide +kernel⟩, by decide, ⟨TX5, rfl⟩, gm 857 (by decide +kernel) rfl, gmp 21 (by decide +kernel) rfl⟩
set_option maxRecDepth 20000 in
theorem mv_X5_87 : MV RX5 87 5 yX5_officialsOf cX5_officialsOf 4 (some .int) 1 := ⟨⟨gm 949 (by decide +kernel) rfl, gm 932 (by decide +kernel) rfl, gm 8 (by decide +kernel) rfl, by decide +kernel, by decide +kernel, by decide +kernel⟩, by decide, ⟨TX5, rfl⟩, gm 930 (by decide +kernel) rfl, gm 931 (by decide +kernel) rfl⟩
set_option maxRecDepth 20000 in
theorem mv_X5_98 : MV RX5 98 10 yX10_arrival cX10_arrival 3 (some .int) 1 := ⟨⟨gm 859 (by decide +kernel) rfl, gm 655 (by decide +kernel) rfl, gm 6 (by decide +kernel) rfl, by decide +kernel, by decide +kernel, by decide +kernel⟩, by decide, ⟨TX10, rfl⟩, gm 653 (by decide +kernel) rfl, gm 654 (by decide +kernel) rfl⟩
set_option maxRecDepth 20000 in
theorem mv_X6_54 : MV RX6 54 6 yX6_countOrders cX6_countOrders 6 none 0 := ⟨⟨gm 989 (by decide +kernel) rfl, gm 992 (by decide +kernel) rfl, gm 9 (by decide +kernel) rfl, by decide +kernel, by decide +kernel, by decide +kernel⟩, by decide, ⟨TX6, rfl⟩, gm 991 (by decide +kernel) rfl, gmp 30 (by decide +kernel) rfl⟩
set_option maxRecDepth 20000 in
theorem mv_X6_61 : MV RX6 61 6 yX6_followNeeds cX6_followNeeds 3 none 0 := ⟨⟨gm 1021 (by decide +kernel) rfl, gm 1024 (by decide +kernel) rfl, gm 9 (by decide +kernel) rfl, by decide +kernel, by decide +kernel, by decide +kernel⟩, by decide, ⟨TX6, rfl⟩, gm 1023 (by decide +kernel) rfl, gmp 31 (by decide +kernel) rfl⟩
set_option maxRecDepth 20000 in
theorem mv_X6_64 : MV RX6 64 6 yX6_rounds cX6_rounds 3 (some .int) 0 := ⟨⟨gm 1034 (by decide +kernel) rfl, gm 1020 (by decide +kernel) rfl, gm 9 (by decide +kernel) rfl, by decide +kernel, by decide +kernel, by decide +kernel⟩, by decide, ⟨TX6, rfl⟩, gm 1018 (by decide +kernel) rfl, gm 1019 (by decide +kernel) rfl⟩
set_option maxRecDepth 20000 in
theorem mv_X6_74 : MV RX6 74 6 yX6_lengthenChains cX6_lengthenChains 3 none 0 := ⟨⟨gm 1036 (by decide +kernel) rfl, gm 1039 (by decide +kernel) rfl, gm 9 (by decide +kernel) rfl, by decide +kernel, by decide +kernel, by decide +kernel⟩, by decide, ⟨TX6, rfl⟩, gm 1038 (by decide +kernel) rfl, gmp 32 (by decide +kernel) rfl⟩
set_option maxRecDepth 20000 in
theorem mv_X6_80 : MV RX6 80 6 yX6_canBeHad cX6_canBeHad 3 (some .boolean) 1 := ⟨⟨gm 1080 (by decide +kernel) rfl, gm 1083 (by decide +kernel) rfl, gm 9 (by decide +kernel) rfl, by decide +kernel, by decide +kernel, by decide +kernel⟩, by decide, ⟨TX6, rfl⟩, gm 1082 (by decide +kernel) rfl, gmp 34 (by decide +kernel) rfl⟩
set_option maxRecDepth 20000 in
theorem mv_X6_84 : MV RX6 84 6 yX6_firstPartingOf cX6_firstPartingOf 5 (some .int) 2 := ⟨⟨gm 1084 (by decide +kernel) rfl, gm 1087 (by decide +kernel) rfl, gm 9 (by decide +kernel) rfl, by decide +kernel, by decide +kernel, by decide +kernel⟩, by decide, ⟨TX6, rfl⟩, gm 1086 (by decide +kernel) rfl, gmp 35 (by decide +kernel) rfl⟩
set_option maxRecDepth 20000 in
theorem mv_X6_88 : MV RX6 88 6 yX6_isHadWithout cX6_isHadWithout 5 (some .boolean) 4 := ⟨⟨gm 1088 (by decide +kernel) rfl, gm 1091 (by decide +kernel) rfl, gm 9 (by decide +kernel) rfl, by decide +kernel, by decide +kernel, by decide +kernel⟩, by decide, ⟨TX6, rfl⟩, gm 1090 (by decide +kernel) rfl, gmp 36 (by decide +kernel) rfl⟩
set_option maxRecDepth 20000 in
theorem mv_X7_29 : MV RX7 29 7 yX7_isSlot cX7_isSlot 2 (some .boolean) 1 := ⟨⟨gm 1108 (by decide +kernel) rfl, gm 1103 (by decide +kernel) rfl, gm 11 (by decide +kernel) rfl, by decide +kernel, by decide +kernel, by decide +kernel⟩, by decide, ⟨TX7, rfl⟩, gm 1101 (by decide +kernel) rfl, gm 1102 (by decide +kernel) rfl⟩
set_option maxRecDepth 20000 in
theorem mv_X7_33 : MV RX7 33 7 yX7_hasRow cX7_hasRow 2 (some .boolean) 1 := ⟨⟨gm 1117 (by decide +kernel) rfl, gm 1107 (by decide +kernel) rfl, gm 11 (by decide +kernel) rfl, by decide +kernel, by decide +kernel, by decide +kernel⟩, by decide, ⟨TX7, rfl⟩, gm 1105 (by decide +kernel) rfl, gm 1106 (by decide +kernel) rfl⟩
set_option maxRecDepth 20000 in
theorem mv_X7_39 : MV RX7 39 7 yX7_lengthOf cX7_lengthOf 2 (some .int) 1 := ⟨⟨gm 1113 (by decide +kernel) rfl, gm 1116 (by decide +kernel) rfl, gm 11 (by decide +kernel) rfl, by decide +kernel, by decide +kernel, by decide +kernel⟩, by decide, ⟨TX7, rfl⟩, gm 1114 (by decide +kernel) rfl, gm 1115 (by decide +kernel) rfl⟩
set_option maxRecDepth 20000 in
theorem mv_X7_47 : MV RX7 47 7 yX7_reaches cX7_reaches 5 (some .boolean) 3 := ⟨⟨gm 1309 (by decide +kernel) rfl, gm 1304 (by decide +kernel) rfl, gm 11 (by decide +kernel) rfl, by decide +kernel, by decide +kernel, by decide +kernel⟩, by decide, ⟨TX7, rfl⟩, gm 1302 (by decide +kernel) rfl, gm 1303 (by decide +kernel) rfl⟩
set_option maxRecDepth 20000 in
theorem mv_X8_22 : MV RX8 22 8 yX8_advance cX8_advance 1 none 0 := ⟨⟨gm 463 (by decide +kernel) rfl, gm 466 (by decide +kernel) rfl, gm 2 (by decide +kernel) rfl, by decide +kernel, by decide +kernel, by decide +kernel⟩, by decide, ⟨TX8, rfl⟩, gm 464 (by decide +kernel) rfl, gm 465 (by decide +kernel) rfl⟩
set_option maxRecDepth 20000 in
theorem mv_X9_19 : MV RX9 19 9 yX9_layWays cX9_layWays 4 none 1 := ⟨⟨gm 615 (by decide +kernel) rfl, gm 618 (by decide +kernel) rfl, gm 5 (by decide +kernel) rfl, by decide +kernel, by decide +kernel, by decide +kernel⟩, by decide, ⟨TX9, rfl⟩, gm 617 (by decide +kernel) rfl, gmp 15 (by decide +kernel) rfl⟩
set_option maxRecDepth 20000 in
theorem mv_X9_29 : MV RX9 29 9 yX9_shortenWalks cX9_shortenWalks 5 none 1 := ⟨⟨gm 619 (by decide +kernel) rfl, gm 622 (by decide +kernel) rfl, gm 5 (by decide +kernel) rfl, by decide +kernel, by decide +kernel, by decide +kernel⟩, by decide, ⟨TX9, rfl⟩, gm 621 (by decide +kernel) rfl, gmp 16 (by decide +kernel) rfl⟩
set_option maxRecDepth 20000 in
theorem mv_X9_36 : MV RX9 36 2 yX2_isOpen cX2_isOpen 5 (some .boolean) 2 := ⟨⟨gm 627 (by decide +kernel) rfl, gm 630 (by decide +kernel) rfl, gm 4 (by decide +kernel) rfl, by decide +kernel, by decide +kernel, by decide +kernel⟩, by decide, ⟨TX2, rfl⟩, gm 628 (by decide +kernel) rfl, gm 629 (by decide +kernel) rfl⟩
set_option maxRecDepth 20000 in
theorem mv_X9_43 : MV RX9 43 9 yX9_shorten cX9_shorten 5 none 3 := ⟨⟨gm 623 (by decide +kernel) rfl, gm 626 (by decide +kernel) rfl, gm 5 (by decide +kernel) rfl, by decide +kernel, by decide +kernel, by decide +kernel⟩, by decide, ⟨TX9, rfl⟩, gm 625 (by decide +kernel) rfl, gmp 17 (by decide +kernel) rfl⟩
