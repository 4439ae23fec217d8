/-! The law's start: what the tables and the Statement give; the two constructors; then the loop. What B owes stands as premises. -/
theorem gT_in : ∀ w ∈ gT, w ∈ lw_tbl := fun w h => (List.mem_filter.mp h).1
def tmS (i : Nat) : Term := Term.string "StampOrder$Reader" ((strs.getD i (0, "")).1)
set_option maxRecDepth 100000 in
theorem st_ex : ∀ i, i < 17 → Cond.exactly (tmS i) "java/lang/String" ∈ flatC (Jvm.Cond.and given_1 narrow_1) := by decide +kernel
set_option maxRecDepth 100000 in
theorem st_co : ∀ i, i < 17 → Cond.eq (.field (tmS i) "java/lang/String" "coder" "B") (.int 0) ∈ flatC (Jvm.Cond.and given_1 narrow_1) := by decide +kernel
set_option maxRecDepth 100000 in
theorem st_ar : ∀ i, i < 17 → Cond.arrayOf (.field (tmS i) "java/lang/String" "value" "[B") .byte ∈ flatC (Jvm.Cond.and given_1 narrow_1) := by decide +kernel
set_option maxRecDepth 100000 in
theorem st_le : ∀ i, i < 17 → Cond.eq (.length (.field (tmS i) "java/lang/String" "value" "[B")) (.int (Int32.ofNat (lenS.getD i 0))) ∈ flatC (Jvm.Cond.and given_1 narrow_1) := by decide +kernel
set_option maxRecDepth 100000 in
theorem st_el : ∀ i, i < 17 → ∀ j, j < lenS.getD i 0 → Cond.eq (.elem (.field (tmS i) "java/lang/String" "value" "[B") (.int (Int32.ofNat j))) (.int ((bytS.getD i []).getD j 0)) ∈ flatC (Jvm.Cond.and given_1 narrow_1) := by decide +kernel
def prs : List (Nat × Nat) := [(0, 1), (0, 2), (1, 2), (0, 3), (1, 3), (2, 3), (0, 4), (1, 4), (2, 4), (3, 4), (0, 5), (1, 5), (2, 5), (3, 5), (4, 5), (0, 6), (1, 6), (2, 6), (3, 6), (4, 6), (5, 6), (0, 7), (1, 7), (2, 7), (3, 7), (4, 7), (5, 7), (6, 7), (0, 8), (1, 8), (2, 8), (3, 8), (4, 8), (5, 8), (6, 8), (7, 8), (0, 9), (1, 9), (2, 9), (3, 9), (4, 9), (5, 9), (6, 9), (7, 9), (8, 9), (0, 10), (1, 10), (2, 10), (3, 10), (4, 10), (5, 10), (6, 10), (7, 10), (8, 10), (9, 10), (0, 11), (1, 11), (2, 11), (3, 11), (4, 11), (5, 11), (6, 11), (7, 11), (8, 11), (9, 11), (10, 11), (0, 12), (1, 12), (2, 12), (3, 12), (4, 12), (5, 12), (6, 12), (7, 12), (8, 12), (9, 12), (10, 12), (11, 12), (0, 13), (1, 13), (2, 13), (3, 13), (4, 13), (5, 13), (6, 13), (7, 13), (8, 13), (9, 13), (10, 13), (11, 13), (12, 13), (0, 14), (1, 14), (2, 14), (3, 14), (4, 14), (5, 14), (6, 14), (7, 14), (8, 14), (9, 14), (10, 14), (11, 14), (12, 14), (13, 14), (0, 15), (1, 15), (2, 15), (3, 15), (4, 15), (5, 15), (6, 15), (7, 15), (8, 15), (9, 15), (10, 15), (11, 15), (12, 15), (13, 15), (14, 15), (0, 16), (1, 16), (2, 16), (3, 16), (4, 16), (5, 16), (6, 16), (7, 16), (8, 16), (9, 16), (10, 16), (11, 16), (12, 16), (13, 16), (14, 16), (15, 16)]
def isNot (w : Cond) : Bool := match w with
  | .not _ => true
  | _ => false
set_option maxRecDepth 100000 in
theorem st_np : (flatC (Jvm.Cond.and given_1 narrow_1)).filter isNot = prs.map (fun q => Cond.not (Cond.eq (tmS q.1) (tmS q.2))) := by decide +kernel
theorem prs_b : ∀ i, i < 17 → ∀ j, j < 17 → (i == j || prs.contains (i, j) || prs.contains (j, i)) = true := by decide +kernel
theorem prs_all (i : Nat) (hi : i < 17) (j : Nat) (hj : j < 17) (hne : i ≠ j) : (i, j) ∈ prs ∨ (j, i) ∈ prs := by
  have h := prs_b i hi j hj
  simp only [Bool.or_eq_true, beq_iff_eq, List.contains_iff_mem] at h
  rcases h with (h | h) | h
  · exact absurd h hne
  · exact Or.inl h
  · exact Or.inr h
theorem st_nq {i j : Nat} (h : (i, j) ∈ prs) : Cond.not (Cond.eq (tmS i) (tmS j)) ∈ flatC (Jvm.Cond.and given_1 narrow_1) := by
  have h1 : Cond.not (Cond.eq (tmS i) (tmS j)) ∈ (flatC (Jvm.Cond.and given_1 narrow_1)).filter isNot := by
    rw [st_np]
    exact List.mem_map.mpr ⟨(i, j), h, rfl⟩
  exact (List.mem_filter.mp h1).1
theorem st_ne : ∀ i, i < 17 → ∀ j, j < 17 → i ≠ j → Cond.not (Cond.eq (tmS i) (tmS j)) ∈ flatC (Jvm.Cond.and given_1 narrow_1) ∨ Cond.not (Cond.eq (tmS j) (tmS i)) ∈ flatC (Jvm.Cond.and given_1 narrow_1) := fun i hi j hj hne => (prs_all i hi j hj hne).imp st_nq st_nq
set_option maxRecDepth 100000 in
theorem st_cs : Cond.eq (.static "java/lang/String" "COMPACT_STRINGS" "Z") (.int 1) ∈ flatC (Jvm.Cond.and given_1 narrow_1) := by decide +kernel
set_option maxRecDepth 100000 in
theorem st_sf : Cond.isRef (.static "jdk/internal/util/Preconditions" "SIOOBE_FORMATTER" "Ljava/util/function/BiFunction;") ∈ flatC (Jvm.Cond.and given_1 narrow_1) := by decide +kernel
set_option maxRecDepth 100000 in
theorem st_sr : ∀ i, i < 17 → Cond.stringRef "StampOrder$Reader" (strs.getD i (0, "")).1 (strs.getD i (0, "")).2 ∈ lw_tbl := by decide +kernel
theorem len_lt : ∀ i, i < 17 → lenS.getD i 0 < 2 ^ 31 := fun i hi => by have := len_cn i hi; omega
theorem strs_len : strs.length = 17 := rfl
theorem w_cs1 : Cond.laysStatic "java/lang/String" "COMPACT_STRINGS" "Z" ∈ lw_tbl := List.mem_append_right _ (List.mem_of_getElem? (i := 489) (by decide +kernel))
theorem w_cs2 : Cond.initialized "java/lang/String" ∈ lw_tbl := List.mem_append_right _ (List.mem_of_getElem? (i := 16) (by decide +kernel))
theorem w_sf1 : Cond.laysStatic "jdk/internal/util/Preconditions" "SIOOBE_FORMATTER" "Ljava/util/function/BiFunction;" ∈ lw_tbl := List.mem_append_right _ (List.mem_of_getElem? (i := 505) (by decide +kernel))
theorem w_sf2 : Cond.initialized "jdk/internal/util/Preconditions" ∈ lw_tbl := List.mem_append_right _ (List.mem_of_getElem? (i := 18) (by decide +kernel))
theorem w_ovi : Cond.arrayOver (.array .int) ∈ lw_tbl := List.mem_append_right _ (List.mem_of_getElem? (i := 73) (by decide +kernel))
theorem w_ovj : Cond.arrayOver (.array .long) ∈ lw_tbl := List.mem_append_right _ (List.mem_of_getElem? (i := 323) (by decide +kernel))
theorem w_ovp : Cond.arrayOver (.object RX2) ∈ lw_tbl := List.mem_append_right _ (List.mem_of_getElem? (i := 378) (by decide +kernel))
theorem w_in0 : Cond.instantiable RX0 4 ∈ lw_tbl := List.mem_append_right _ (List.mem_of_getElem? (i := 358) (by decide +kernel))
theorem w_in1 : Cond.instantiable RX1 3 ∈ lw_tbl := List.mem_append_right _ (List.mem_of_getElem? (i := 301) (by decide +kernel))
theorem w_in2 : Cond.instantiable RX2 10 ∈ lw_tbl := List.mem_append_right _ (List.mem_of_getElem? (i := 67) (by decide +kernel))
theorem w_in3 : Cond.instantiable RX3 5 ∈ lw_tbl := List.mem_append_right _ (List.mem_of_getElem? (i := 336) (by decide +kernel))
theorem w_in4 : Cond.instantiable RX4 4 ∈ lw_tbl := List.mem_append_right _ (List.mem_of_getElem? (i := 61) (by decide +kernel))
theorem w_in5 : Cond.instantiable RX5 14 ∈ lw_tbl := List.mem_append_right _ (List.mem_of_getElem? (i := 217) (by decide +kernel))
theorem w_in6 : Cond.instantiable RX6 7 ∈ lw_tbl := List.mem_append_right _ (List.mem_of_getElem? (i := 272) (by decide +kernel))
theorem w_in7 : Cond.instantiable RX7 3 ∈ lw_tbl := List.mem_append_right _ (List.mem_of_getElem? (i := 317) (by decide +kernel))
theorem w_in8 : Cond.instantiable RX8 6 ∈ lw_tbl := List.mem_append_right _ (List.mem_of_getElem? (i := 31) (by decide +kernel))
theorem w_in9 : Cond.instantiable RX9 2 ∈ lw_tbl := List.mem_append_right _ (List.mem_of_getElem? (i := 157) (by decide +kernel))
theorem w_in10 : Cond.instantiable RX10 7 ∈ lw_tbl := List.mem_append_right _ (List.mem_of_getElem? (i := 171) (by decide +kernel))
theorem w_in11 : Cond.instantiable RX11 18 ∈ lw_tbl := List.mem_append_right _ (List.mem_of_getElem? (i := 23) (by decide +kernel))
theorem w_in12 : Cond.instantiable RX12 50 ∈ lw_tbl := List.mem_append_right _ (List.mem_of_getElem? (i := 1312) (by decide +kernel))
set_option maxRecDepth 20000 in
theorem nw_L_7 : NW RL 7 11 := ⟨RX11, TX11, tyX11, rfl, by decide, gin11, tyX11_ok, fun j hj => match j, hj with | 0, _ => rfl | 1, _ => rfl | 2, _ => rfl | 3, _ => rfl | 4, _ => rfl | 5, _ => rfl | 6, _ => rfl | 7, _ => rfl | 8, _ => rfl | 9, _ => rfl | 10, _ => rfl | 11, _ => rfl | 12, _ => rfl | 13, _ => rfl | 14, _ => rfl | 15, _ => rfl | 16, _ => rfl | 17, _ => rfl | j + 18, h => absurd h (by show ¬ j + 18 < 18; omega), gm 22 (by decide +kernel) rfl, gm 23 (by decide +kernel) rfl, gm 1 (by decide +kernel) rfl⟩
theorem nw_L_10 : NW RL 10 12 := ⟨RX12, TX12, tyX12, rfl, by decide, gin12, tyX12_ok, fun j hj => match j, hj with | 0, _ => rfl | 1, _ => rfl | 2, _ => rfl | 3, _ => rfl | 4, _ => rfl | 5, _ => rfl | 6, _ => rfl | 7, _ => rfl | 8, _ => rfl | 9, _ => rfl | 10, _ => rfl | 11, _ => rfl | 12, _ => rfl | 13, _ => rfl | 14, _ => rfl | 15, _ => rfl | 16, _ => rfl | 17, _ => rfl | 18, _ => rfl | 19, _ => rfl | 20, _ => rfl | 21, _ => rfl | 22, _ => rfl | 23, _ => rfl | 24, _ => rfl | 25, _ => rfl | 26, _ => rfl | 27, _ => rfl | 28, _ => rfl | 29, _ => rfl | 30, _ => rfl | 31, _ => rfl | 32, _ => rfl | 33, _ => rfl | 34, _ => rfl | 35, _ => rfl | 36, _ => rfl | 37, _ => rfl | 38, _ => rfl | 39, _ => rfl | 40, _ => rfl | 41, _ => rfl | 42, _ => rfl | 43, _ => rfl | 44, _ => rfl | 45, _ => rfl | 46, _ => rfl | 47, _ => rfl | 48, _ => rfl | 49, _ => rfl | j + 50, h => absurd h (by show ¬ j + 50 < 50; omega), gm 1311 (by decide +kernel) rfl, gm 1312 (by decide +kernel) rfl, gm 14 (by decide +kernel) rfl⟩
theorem mi_L_9 : MI RL 9 yX11_init cX11_init 1 0 := ⟨⟨gm 24 (by decide +kernel) rfl, gm 26 (by decide +kernel) rfl, gm 1 (by decide +kernel) rfl, by decide +kernel, by decide +kernel, by decide +kernel⟩, rfl, gm 25 (by decide +kernel) rfl⟩
theorem mi_L_12 : MI RL 12 yX12_init cX12_init 2 0 := ⟨⟨gm 1313 (by decide +kernel) rfl, gm 1315 (by decide +kernel) rfl, gm 14 (by decide +kernel) rfl, by decide +kernel, by decide +kernel, by decide +kernel⟩, rfl, gm 1314 (by decide +kernel) rfl⟩
section LS
variable {p : Program} {l : Launch} {e0 : Env} {s : State} {m : MethodId} {below : List Frame} {meth : Method} {c : Code} {b L : Nat} {xs : Nat → Int32}
/-- the array classes -/
theorem ls_arr {ty : FieldType} {args : Array Value} (h : (Cond.arrayClass ty).before args s = true) : ∃ cA, ArrOfT s cA ty ∧ s.vm.findClass ("[" ++ ty.toString) = some cA := by
  obtain ⟨cA, k, comp, h1, h2, h3⟩ := Cond.arrayClass_spec h
  exact ⟨cA, fun n z => ⟨fun k h => (by cases h), k, h2, comp, h3⟩, h1⟩
theorem ls_aoa {ty : FieldType} {args : Array Value} (h : (Cond.arrayOver (.array ty)).before args s = true) : ∃ cA, ArrOfT s cA (.array ty) ∧ s.vm.findClass ("[" ++ (FieldType.array ty).toString) = some cA := by
  obtain ⟨comp, cA, k, h0, h2, h3, h4⟩ := Cond.arrayOver_specA h
  exact ⟨cA, fun n z => ⟨fun k h => (by cases h), k, h2, comp, h3⟩, h4⟩
theorem ls_aoq {C : String} {args : Array Value} (h : (Cond.arrayOver (.object C)).before args s = true) : ∃ cA, ArrOfT s cA (.object C) ∧ va_RA s cA (.object C) := by
  obtain ⟨comp, cA, k, h0, h1, h2, h3, h4⟩ := Cond.arrayOver_spec h
  exact ⟨cA, fun n z => ⟨fun k h => (by cases h), k, h2, comp, h3⟩, k, comp, h2, h3, h0, h4⟩
theorem ls_K {args : Array Value} (hts : ∀ w ∈ lw_tbl, w.before args s = true) : ∃ (cA : Nat → ClassId) (D : va_G), va_K D vwCl (tyl cA) s := by
  obtain ⟨c0, i0, hk0⟩ := u_known (C := RX0) (T := TX0) (N := 4) (n := 4) hts inX0 (hts _ w_in0)
  obtain ⟨c1, i1, hk1⟩ := u_known (C := RX1) (T := TX1) (N := 3) (n := 3) hts inX1 (hts _ w_in1)
  obtain ⟨c2, i2, hk2⟩ := u_known (C := RX2) (T := TX2) (N := 10) (n := 10) hts inX2 (hts _ w_in2)
  obtain ⟨c3, i3, hk3⟩ := u_known (C := RX3) (T := TX3) (N := 5) (n := 5) hts inX3 (hts _ w_in3)
  obtain ⟨c4, i4, hk4⟩ := u_known (C := RX4) (T := TX4) (N := 4) (n := 4) hts inX4 (hts _ w_in4)
  obtain ⟨c5, i5, hk5⟩ := u_known (C := RX5) (T := TX5) (N := 14) (n := 14) hts inX5 (hts _ w_in5)
  obtain ⟨c6, i6, hk6⟩ := u_known (C := RX6) (T := TX6) (N := 7) (n := 7) hts inX6 (hts _ w_in6)
  obtain ⟨c7, i7, hk7⟩ := u_known (C := RX7) (T := TX7) (N := 3) (n := 3) hts inX7 (hts _ w_in7)
  obtain ⟨c8, i8, hk8⟩ := u_known (C := RX8) (T := TX8) (N := 6) (n := 6) hts inX8 (hts _ w_in8)
  obtain ⟨c9, i9, hk9⟩ := u_known (C := RX9) (T := TX9) (N := 2) (n := 2) hts inX9 (hts _ w_in9)
  obtain ⟨c10, i10, hk10⟩ := u_known (C := RX10) (T := TX10) (N := 7) (n := 7) hts inX10 (hts _ w_in10)
  obtain ⟨c11, i11, hk11⟩ := u_known (C := RX11) (T := TX11) (N := 18) (n := 18) hts inX11 (hts _ w_in11)
  obtain ⟨c12, i12, hk12⟩ := u_known (C := RX12) (T := TX12) (N := 50) (n := 50) hts inX12 (hts _ w_in12)
  obtain ⟨a20, g20, f20⟩ := ls_arr (hts _ (gT_in _ ac_i))
  obtain ⟨a21, g21, f21⟩ := ls_arr (hts _ (gT_in _ ac_j))
  obtain ⟨a22, g22, f22⟩ := ls_arr (hts _ (gT_in _ ac_b))
  obtain ⟨a23, g23, f23⟩ := ls_arr (hts _ (gT_in _ ac_z))
  obtain ⟨a24, g24, f24⟩ := ls_aoa (hts _ w_ovi)
  obtain ⟨a25, g25, f25⟩ := ls_aoa (hts _ w_ovj)
  obtain ⟨a26, g26, f26⟩ := ls_aoq (hts _ w_ovp)
  refine ⟨fun k => match k with | 20 => a20 | 21 => a21 | 22 => a22 | 23 => a23 | 24 => a24 | 25 => a25 | _ => a26, (fun k => match k with | 0 => c0 | 1 => c1 | 2 => c2 | 3 => c3 | 4 => c4 | 5 => c5 | 6 => c6 | 7 => c7 | 8 => c8 | 9 => c9 | 10 => c10 | 11 => c11 | _ => c12, fun k => match k with | 0 => i0 | 1 => i1 | 2 => i2 | 3 => i3 | 4 => i4 | 5 => i5 | 6 => i6 | 7 => i7 | 8 => i8 | 9 => i9 | 10 => i10 | 11 => i11 | _ => i12), fun k q hq => ?_, fun k q hq => ?_⟩
  · match k, hq with
    | 0, hq => cases hq; exact hk0
    | 1, hq => cases hq; exact hk1
    | 2, hq => cases hq; exact hk2
    | 3, hq => cases hq; exact hk3
    | 4, hq => cases hq; exact hk4
    | 5, hq => cases hq; exact hk5
    | 6, hq => cases hq; exact hk6
    | 7, hq => cases hq; exact hk7
    | 8, hq => cases hq; exact hk8
    | 9, hq => cases hq; exact hk9
    | 10, hq => cases hq; exact hk10
    | 11, hq => cases hq; exact hk11
    | 12, hq => cases hq; exact hk12
    | k + 13, hq => simp [vwCl] at hq
  · match k, hq with
    | 0, hq => cases hq; exact ⟨g20, f20⟩
    | 1, hq => cases hq; exact ⟨g21, f21⟩
    | 2, hq => cases hq; exact ⟨g22, f22⟩
    | 3, hq => cases hq; exact ⟨g23, f23⟩
    | 4, hq => cases hq; exact ⟨g24, f24⟩
    | 5, hq => cases hq; exact ⟨g25, f25⟩
    | 6, hq => cases hq; exact ⟨g26, f26⟩
    | k + 7, hq => simp [tyl] at hq
theorem ls_AX {args : Array Value} (hts : ∀ w ∈ lw_tbl, w.before args s = true) : AX s := ⟨hts _ w_ovi, hts _ w_ovj, hts _ w_ovp⟩
theorem ls_XX {args : Array Value} (hts : ∀ w ∈ lw_tbl, w.before args s = true) (hgv : (Jvm.Cond.and given_1 narrow_1).before args s = true) : ∃ sx : Sx, XX sx s.heap.size s := by
  have hs := flat_of_before _ hgv
  have hA : ∀ a : Nat, a < s.heap.size → ¬ A0 s.heap.size a := fun a h => by unfold A0; omega
  obtain ⟨aK, aV, h1, h2⟩ := vk_Sof (args := args) (s := s) (N := 17) (tm := tmS) (len := lenS) (byt := bytS) (A := A0 s.heap.size) len_lt (fun i hi => hs _ (st_ex i hi)) (fun i hi => hs _ (st_co i hi)) (fun i hi => hs _ (st_ar i hi)) (fun i hi => hs _ (st_le i hi)) (fun i hi j hj => hs _ (st_el i hi j hj)) (fun i j hi hj hne => (st_ne i hi j hj hne).imp (fun h => hs _ h) (fun h => hs _ h)) hA
  have h4 := va_Zof (hts _ w_cs1) (hts _ w_cs2) (va_eqi (hs _ st_cs)) hA
  obtain ⟨v, hv, hv2⟩ := Cond.isRef_spec (hs _ st_sf)
  have h5 := va_Zof (hts _ w_sf1) (hts _ w_sf2) hv hA
  refine ⟨(aK, aV), fun w hw => ?_, h1, fun i q hq => ?_, h4, ?_⟩
  · obtain ⟨a, i, x, b, rfl⟩ := nst_is hw
    exact va_Nw.of rfl (hts _ (List.mem_filter.mp hw).1)
  · have hi : i < 17 := by have := (List.getElem?_eq_some_iff.mp hq).1; rw [strs_len] at this; exact this
    have e : strs.getD i (0, "") = q := by simp [List.getD, hq]
    have hr := st_sr i hi
    have h6 := h2 i hi
    unfold tmS at h6
    rw [e] at hr h6
    exact vk_R.of (hts _ hr) h6
  · cases v with
    | ref a => exact ⟨some a, h5⟩
    | null => exact ⟨none, h5⟩
    | _ => cases hv2
end LS
