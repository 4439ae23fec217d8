/-! What the tables say where cells are made. -/
theorem ac_i : Cond.arrayClass .int ∈ gT := gm 137 (by decide +kernel) rfl
theorem ac_j : Cond.arrayClass .long ∈ gT := gm 299 (by decide +kernel) rfl
theorem ac_b : Cond.arrayClass .byte ∈ gT := gm 59 (by decide +kernel) rfl
theorem ac_z : Cond.arrayClass .boolean ∈ gT := gm 1468 (by decide +kernel) rfl
set_option maxRecDepth 20000 in
theorem cl_X11_25 : Cond.classLink RX11 25 RX2 ∈ gT := gm 154 (by decide +kernel) rfl
set_option maxRecDepth 20000 in
theorem cl_X2_15 : Cond.classLink RX2 15 ("[" ++ (FieldType.array .int).toString) ∈ gT := gm 72 (by decide +kernel) rfl
set_option maxRecDepth 20000 in
theorem cl_X5_21 : Cond.classLink RX5 21 ("[" ++ (FieldType.array .int).toString) ∈ gT := gm 222 (by decide +kernel) rfl
set_option maxRecDepth 20000 in
theorem cl_X7_11 : Cond.classLink RX7 11 ("[" ++ (FieldType.array .long).toString) ∈ gT := gm 322 (by decide +kernel) rfl
set_option maxRecDepth 20000 in
theorem cl_X9_9 : Cond.classLink RX9 9 ("[" ++ (FieldType.array .int).toString) ∈ gT := gm 162 (by decide +kernel) rfl
set_option maxRecDepth 20000 in
theorem mi_X11_18 : MI RX11 18 yX4_init cX4_init 2 1 := ⟨⟨gm 62 (by decide +kernel) rfl, gm 64 (by decide +kernel) rfl, gm 3 (by decide +kernel) rfl, by decide +kernel, by decide +kernel, by decide +kernel⟩, rfl, gm 63 (by decide +kernel) rfl⟩
set_option maxRecDepth 20000 in
theorem mi_X11_41 : MI RX11 41 yX10_init cX10_init 3 2 := ⟨⟨gm 172 (by decide +kernel) rfl, gm 174 (by decide +kernel) rfl, gm 6 (by decide +kernel) rfl, by decide +kernel, by decide +kernel, by decide +kernel⟩, rfl, gm 173 (by decide +kernel) rfl⟩
set_option maxRecDepth 20000 in
theorem mi_X11_53 : MI RX11 53 yX5_init cX5_init 2 1 := ⟨⟨gm 218 (by decide +kernel) rfl, gm 220 (by decide +kernel) rfl, gm 8 (by decide +kernel) rfl, by decide +kernel, by decide +kernel, by decide +kernel⟩, rfl, gm 219 (by decide +kernel) rfl⟩
set_option maxRecDepth 20000 in
theorem mi_X11_82 : MI RX11 82 yX7_init cX7_init 1 0 := ⟨⟨gm 318 (by decide +kernel) rfl, gm 320 (by decide +kernel) rfl, gm 11 (by decide +kernel) rfl, by decide +kernel, by decide +kernel, by decide +kernel⟩, rfl, gm 319 (by decide +kernel) rfl⟩
set_option maxRecDepth 20000 in
theorem mi_X11_89 : MI RX11 89 yX3_init cX3_init 2 1 := ⟨⟨gm 337 (by decide +kernel) rfl, gm 339 (by decide +kernel) rfl, gm 12 (by decide +kernel) rfl, by decide +kernel, by decide +kernel, by decide +kernel⟩, rfl, gm 338 (by decide +kernel) rfl⟩
set_option maxRecDepth 20000 in
theorem mi_X11_96 : MI RX11 96 yX0_init cX0_init 2 1 := ⟨⟨gm 359 (by decide +kernel) rfl, gm 361 (by decide +kernel) rfl, gm 13 (by decide +kernel) rfl, by decide +kernel, by decide +kernel, by decide +kernel⟩, rfl, gm 360 (by decide +kernel) rfl⟩
set_option maxRecDepth 20000 in
theorem min_X11_27 : MIN RX11 27 yX2_init RX11 cX2_init 1 0 := ⟨⟨gmn 155 (by decide +kernel) rfl, gm 70 (by decide +kernel) rfl, gm 4 (by decide +kernel) rfl, by decide +kernel, by decide +kernel, by decide +kernel⟩, rfl, gm 69 (by decide +kernel) rfl⟩
set_option maxRecDepth 20000 in
theorem min_X11_34 : MIN RX11 34 yX9_init RX11 cX9_init 1 0 := ⟨⟨gmn 158 (by decide +kernel) rfl, gm 160 (by decide +kernel) rfl, gm 5 (by decide +kernel) rfl, by decide +kernel, by decide +kernel, by decide +kernel⟩, rfl, gm 159 (by decide +kernel) rfl⟩
set_option maxRecDepth 20000 in
theorem min_X11_68 : MIN RX11 68 yX6_init RX11 cX6_init 1 0 := ⟨⟨gmn 273 (by decide +kernel) rfl, gm 275 (by decide +kernel) rfl, gm 9 (by decide +kernel) rfl, by decide +kernel, by decide +kernel, by decide +kernel⟩, rfl, gm 274 (by decide +kernel) rfl⟩
set_option maxRecDepth 20000 in
theorem min_X11_75 : MIN RX11 75 yX1_init RX11 cX1_init 1 0 := ⟨⟨gmn 302 (by decide +kernel) rfl, gm 304 (by decide +kernel) rfl, gm 10 (by decide +kernel) rfl, by decide +kernel, by decide +kernel, by decide +kernel⟩, rfl, gm 303 (by decide +kernel) rfl⟩
set_option maxRecDepth 20000 in
theorem min_X11_9 : MIN RX11 9 yX8_init RX11 cX8_init 1 0 := ⟨⟨gmn 32 (by decide +kernel) rfl, gm 34 (by decide +kernel) rfl, gm 2 (by decide +kernel) rfl, by decide +kernel, by decide +kernel, by decide +kernel⟩, rfl, gm 33 (by decide +kernel) rfl⟩
set_option maxRecDepth 20000 in
theorem min_X4_11 : MIN RX4 11 yX2_init RX11 cX2_init 1 0 := ⟨⟨gmn 68 (by decide +kernel) rfl, gm 70 (by decide +kernel) rfl, gm 4 (by decide +kernel) rfl, by decide +kernel, by decide +kernel, by decide +kernel⟩, rfl, gm 69 (by decide +kernel) rfl⟩
set_option maxRecDepth 20000 in
theorem nw_X11_16 : NW RX11 16 4 := ⟨RX4, TX4, tyX4, rfl, by decide, gin4, tyX4_ok, fun j hj => match j, hj with | 0, _ => rfl | 1, _ => rfl | 2, _ => rfl | 3, _ => rfl | j + 4, h => absurd h (by show ¬ j + 4 < 4; omega), gm 60 (by decide +kernel) rfl, gm 61 (by decide +kernel) rfl, gm 3 (by decide +kernel) rfl⟩
set_option maxRecDepth 20000 in
theorem nw_X11_25 : NW RX11 25 2 := ⟨RX2, TX2, tyX2, rfl, by decide, gin2, tyX2_ok, fun j hj => match j, hj with | 0, _ => rfl | 1, _ => rfl | 2, _ => rfl | 3, _ => rfl | 4, _ => rfl | 5, _ => rfl | 6, _ => rfl | 7, _ => rfl | 8, _ => rfl | 9, _ => rfl | j + 10, h => absurd h (by show ¬ j + 10 < 10; omega), gm 154 (by decide +kernel) rfl, gm 67 (by decide +kernel) rfl, gm 4 (by decide +kernel) rfl⟩
set_option maxRecDepth 20000 in
theorem nw_X11_32 : NW RX11 32 9 := ⟨RX9, TX9, tyX9, rfl, by decide, gin9, tyX9_ok, fun j hj => match j, hj with | 0, _ => rfl | 1, _ => rfl | j + 2, h => absurd h (by show ¬ j + 2 < 2; omega), gm 156 (by decide +kernel) rfl, gm 157 (by decide +kernel) rfl, gm 5 (by decide +kernel) rfl⟩
set_option maxRecDepth 20000 in
theorem nw_X11_39 : NW RX11 39 10 := ⟨RX10, TX10, tyX10, rfl, by decide, gin10, tyX10_ok, fun j hj => match j, hj with | 0, _ => rfl | 1, _ => rfl | 2, _ => rfl | 3, _ => rfl | 4, _ => rfl | 5, _ => rfl | 6, _ => rfl | j + 7, h => absurd h (by show ¬ j + 7 < 7; omega), gm 170 (by decide +kernel) rfl, gm 171 (by decide +kernel) rfl, gm 6 (by decide +kernel) rfl⟩
set_option maxRecDepth 20000 in
theorem nw_X11_51 : NW RX11 51 5 := ⟨RX5, TX5, tyX5, rfl, by decide, gin5, tyX5_ok, fun j hj => match j, hj with | 0, _ => rfl | 1, _ => rfl | 2, _ => rfl | 3, _ => rfl | 4, _ => rfl | 5, _ => rfl | 6, _ => rfl | 7, _ => rfl | 8, _ => rfl | 9, _ => rfl | 10, _ => rfl | 11, _ => rfl | 12, _ => rfl | 13, _ => rfl | j + 14, h => absurd h (by show ¬ j + 14 < 14; omega), gm 216 (by decide +kernel) rfl, gm 217 (by decide +kernel) rfl, gm 8 (by decide +kernel) rfl⟩
set_option maxRecDepth 20000 in
theorem nw_X11_66 : NW RX11 66 6 := ⟨RX6, TX6, tyX6, rfl, by decide, gin6, tyX6_ok, fun j hj => match j, hj with | 0, _ => rfl | 1, _ => rfl | 2, _ => rfl | 3, _ => rfl | 4, _ => rfl | 5, _ => rfl | 6, _ => rfl | j + 7, h => absurd h (by show ¬ j + 7 < 7; omega), gm 271 (by decide +kernel) rfl, gm 272 (by decide +kernel) rfl, gm 9 (by decide +kernel) rfl⟩
set_option maxRecDepth 20000 in
theorem nw_X11_7 : NW RX11 7 8 := ⟨RX8, TX8, tyX8, rfl, by decide, gin8, tyX8_ok, fun j hj => match j, hj with | 0, _ => rfl | 1, _ => rfl | 2, _ => rfl | 3, _ => rfl | 4, _ => rfl | 5, _ => rfl | j + 6, h => absurd h (by show ¬ j + 6 < 6; omega), gm 30 (by decide +kernel) rfl, gm 31 (by decide +kernel) rfl, gm 2 (by decide +kernel) rfl⟩
set_option maxRecDepth 20000 in
theorem nw_X11_73 : NW RX11 73 1 := ⟨RX1, TX1, tyX1, rfl, by decide, gin1, tyX1_ok, fun j hj => match j, hj with | 0, _ => rfl | 1, _ => rfl | 2, _ => rfl | j + 3, h => absurd h (by show ¬ j + 3 < 3; omega), gm 300 (by decide +kernel) rfl, gm 301 (by decide +kernel) rfl, gm 10 (by decide +kernel) rfl⟩
set_option maxRecDepth 20000 in
theorem nw_X11_80 : NW RX11 80 7 := ⟨RX7, TX7, tyX7, rfl, by decide, gin7, tyX7_ok, fun j hj => match j, hj with | 0, _ => rfl | 1, _ => rfl | 2, _ => rfl | j + 3, h => absurd h (by show ¬ j + 3 < 3; omega), gm 316 (by decide +kernel) rfl, gm 317 (by decide +kernel) rfl, gm 11 (by decide +kernel) rfl⟩
set_option maxRecDepth 20000 in
theorem nw_X11_87 : NW RX11 87 3 := ⟨RX3, TX3, tyX3, rfl, by decide, gin3, tyX3_ok, fun j hj => match j, hj with | 0, _ => rfl | 1, _ => rfl | 2, _ => rfl | 3, _ => rfl | 4, _ => rfl | j + 5, h => absurd h (by show ¬ j + 5 < 5; omega), gm 335 (by decide +kernel) rfl, gm 336 (by decide +kernel) rfl, gm 12 (by decide +kernel) rfl⟩
set_option maxRecDepth 20000 in
theorem nw_X11_94 : NW RX11 94 0 := ⟨RX0, TX0, tyX0, rfl, by decide, gin0, tyX0_ok, fun j hj => match j, hj with | 0, _ => rfl | 1, _ => rfl | 2, _ => rfl | 3, _ => rfl | j + 4, h => absurd h (by show ¬ j + 4 < 4; omega), gm 357 (by decide +kernel) rfl, gm 358 (by decide +kernel) rfl, gm 13 (by decide +kernel) rfl⟩
set_option maxRecDepth 20000 in
theorem nw_X4_9 : NW RX4 9 2 := ⟨RX2, TX2, tyX2, rfl, by decide, gin2, tyX2_ok, fun j hj => match j, hj with | 0, _ => rfl | 1, _ => rfl | 2, _ => rfl | 3, _ => rfl | 4, _ => rfl | 5, _ => rfl | 6, _ => rfl | 7, _ => rfl | 8, _ => rfl | 9, _ => rfl | j + 10, h => absurd h (by show ¬ j + 10 < 10; omega), gm 66 (by decide +kernel) rfl, gm 67 (by decide +kernel) rfl, gm 4 (by decide +kernel) rfl⟩
set_option maxRecDepth 20000 in
theorem oi_X0_3 : OI RX0 3 := ⟨gm 362 (by decide +kernel) rfl, gm 28 (by decide +kernel) rfl, gm 29 (by decide +kernel) rfl⟩
set_option maxRecDepth 20000 in
theorem oi_X1_3 : OI RX1 3 := ⟨gm 305 (by decide +kernel) rfl, gm 28 (by decide +kernel) rfl, gm 29 (by decide +kernel) rfl⟩
set_option maxRecDepth 20000 in
theorem oi_X10_3 : OI RX10 3 := ⟨gm 175 (by decide +kernel) rfl, gm 28 (by decide +kernel) rfl, gm 29 (by decide +kernel) rfl⟩
set_option maxRecDepth 20000 in
theorem oi_X11_1 : OI RX11 1 := ⟨gm 27 (by decide +kernel) rfl, gm 28 (by decide +kernel) rfl, gm 29 (by decide +kernel) rfl⟩
set_option maxRecDepth 20000 in
theorem oi_X12_1 : OI RX12 1 := ⟨gm 1316 (by decide +kernel) rfl, gm 28 (by decide +kernel) rfl, gm 29 (by decide +kernel) rfl⟩
set_option maxRecDepth 20000 in
theorem oi_X2_3 : OI RX2 3 := ⟨gm 71 (by decide +kernel) rfl, gm 28 (by decide +kernel) rfl, gm 29 (by decide +kernel) rfl⟩
set_option maxRecDepth 20000 in
theorem oi_X3_3 : OI RX3 3 := ⟨gm 340 (by decide +kernel) rfl, gm 28 (by decide +kernel) rfl, gm 29 (by decide +kernel) rfl⟩
set_option maxRecDepth 20000 in
theorem oi_X4_3 : OI RX4 3 := ⟨gm 65 (by decide +kernel) rfl, gm 28 (by decide +kernel) rfl, gm 29 (by decide +kernel) rfl⟩
set_option maxRecDepth 20000 in
theorem oi_X5_3 : OI RX5 3 := ⟨gm 221 (by decide +kernel) rfl, gm 28 (by decide +kernel) rfl, gm 29 (by decide +kernel) rfl⟩
set_option maxRecDepth 20000 in
theorem oi_X6_3 : OI RX6 3 := ⟨gm 276 (by decide +kernel) rfl, gm 28 (by decide +kernel) rfl, gm 29 (by decide +kernel) rfl⟩
set_option maxRecDepth 20000 in
theorem oi_X7_3 : OI RX7 3 := ⟨gm 321 (by decide +kernel) rfl, gm 28 (by decide +kernel) rfl, gm 29 (by decide +kernel) rfl⟩
set_option maxRecDepth 20000 in
theorem oi_X8_3 : OI RX8 3 := ⟨gm 35 (by decide +kernel) rfl, gm 28 (by decide +kernel) rfl, gm 29 (by decide +kernel) rfl⟩
set_option maxRecDepth 20000 in
theorem oi_X9_3 : OI RX9 3 := ⟨gm 161 (by decide +kernel) rfl, gm 28 (by decide +kernel) rfl, gm 29 (by decide +kernel) rfl⟩
set_option maxRecDepth 20000 in
theorem ms_X7_23 : MS RX7 23 yJ7_fill_53178 cJ7_fill_53178 4 none 2 := ⟨⟨gm 324 (by decide +kernel) rfl, gm 178 (by decide +kernel) rfl, gm 7 (by decide +kernel) rfl, by decide +kernel, by decide +kernel, by decide +kernel⟩, gm 177 (by decide +kernel) rfl⟩
