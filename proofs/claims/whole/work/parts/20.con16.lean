/-! Contracts, laid by wip/gen/gen.py. -/
set_option maxHeartbeats 4000000 in
set_option maxRecDepth 100000 in
theorem c_X12_step (l : Launch) (cA : Nat → ClassId) (D : va_G) (N : Nat) (sx : Sx) (ad : Nat → Nat) (T : Knd) (A : Rfs) (nx : Nat) (I : Mem) (w0 : Nat) (a1 : Int) (ca1 : cn a1) (e : (Int × Mem)) (h : f_X12_step T A w0 a1 I = some e) : CtI l yX12_step cX12_step 2 (some .int) 22 626 cA D N sx ad T A nx [rv ad w0, iv a1] I e.2 e.1 := by
  refine met_of (lv0 := [(0, rv ad w0), (1, iv a1)]) (by decide) (Nat.le_of_ble_eq_true rfl) rfl (fun p e0 s m args below meth c S0 hK hX hr hlk Q hQ => ?_)
  have hf : OK (f_X12_step T A w0 a1 I) (fun z => z = e) := ⟨e, h, rfl⟩
  unfold f_X12_step at hf
  obtain ⟨hw0, hf⟩ := ok_grd hf
  refine r_aload_n (pc := 0) S0 0 dX12_step_0 rfl rfl ?_
  refine r_iconst (pc := 1) S0 dX12_step_1 ?_
  refine r_putI (pc := 2) S0 hK fl_X12_89 rfl rfl (cnz 0 rfl) dX12_step_2 hf (fun I1 hf => ?_)
  refine r_aload_n (pc := 5) S0 0 dX12_step_5 rfl rfl ?_
  obtain ⟨e2, h3, hf⟩ := ok_bind hf
  refine r_cV_I (pc := 6) [] S0 hK hX mv_X12_267 (k_X12_isOffice h3) (c_X12_isOffice l cA D N sx ad T A nx I1 w0 e2 h3) rfl rfl ⟨by decide, by decide⟩ (Nat.le_of_ble_eq_true rfl) ⟨Nat.le_refl _, Nat.le_refl _⟩ dX12_step_6 (fun c4 => ?_)
  refine r_if_eq (pc := 9) (tgt := 21) S0 dX12_step_9 (by decide) c4 hf (fun hf => ?_) (fun hf => ?_)
  · refine r_bipush (pc := 21) S0 dX12_step_21 (by decide) ?_
    have hz := ok_some hf
    have hz : ((-2), I1) = e := hz
    subst hQ
    subst hz
    exact r_iret (pc := 23) S0 hr hlk (cnz (-2) rfl) dX12_step_23
  · refine r_aload_n (pc := 12) S0 0 dX12_step_12 rfl rfl ?_
    refine r_iconst (pc := 13) S0 dX12_step_13 ?_
    refine r_iload_n (pc := 14) S0 1 dX12_step_14 rfl rfl ?_
    obtain ⟨e5, h6, hf⟩ := ok_bind hf
    refine r_cV_I (pc := 15) [iv 0, iv a1] S0 hK hX mv_X12_388 (k_X12_stepOf h6) (c_X12_stepOf l cA D N sx ad T A nx I1 w0 0 a1 (cnz 0 rfl) ca1 e5 h6) rfl rfl ⟨by decide, by decide⟩ (Nat.le_of_ble_eq_true rfl) ⟨Nat.le_refl _, Nat.le_refl _⟩ dX12_step_15 (fun c7 => ?_)
    refine r_goto (pc := 18) (tgt := 23) S0 dX12_step_18 (by decide) ?_
    have hz := ok_some hf
    have hz : (e5.1, e5.2) = e := hz
    subst hQ
    subst hz
    exact r_iret (pc := 23) S0 hr hlk c7 dX12_step_23

set_option maxHeartbeats 4000000 in
set_option maxRecDepth 100000 in
theorem c_X12_fewest (l : Launch) (cA : Nat → ClassId) (D : va_G) (N : Nat) (sx : Sx) (ad : Nat → Nat) (T : Knd) (A : Rfs) (nx : Nat) (I : Mem) (w0 : Nat)  (e : (Int × Mem)) (h : f_X12_fewest T A w0 I = some e) : CtI l yX12_fewest cX12_fewest 1 (some .int) 21 604 cA D N sx ad T A nx [rv ad w0] I e.2 e.1 := by
  refine met_of (lv0 := [(0, rv ad w0)]) (by decide) (Nat.le_of_ble_eq_true rfl) rfl (fun p e0 s m args below meth c S0 hK hX hr hlk Q hQ => ?_)
  have hf : OK (f_X12_fewest T A w0 I) (fun z => z = e) := ⟨e, h, rfl⟩
  unfold f_X12_fewest at hf
  obtain ⟨hw0, hf⟩ := ok_grd hf
  refine r_aload_n (pc := 0) S0 0 dX12_fewest_0 rfl rfl ?_
  refine r_iconst (pc := 1) S0 dX12_fewest_1 ?_
  refine r_putI (pc := 2) S0 hK fl_X12_89 rfl rfl (cnz 0 rfl) dX12_fewest_2 hf (fun I1 hf => ?_)
  refine r_aload_n (pc := 5) S0 0 dX12_fewest_5 rfl rfl ?_
  obtain ⟨e2, h3, hf⟩ := ok_bind hf
  refine r_cV_I (pc := 6) [] S0 hK hX mv_X12_267 (k_X12_isOffice h3) (c_X12_isOffice l cA D N sx ad T A nx I1 w0 e2 h3) rfl rfl ⟨by decide, by decide⟩ (Nat.le_of_ble_eq_true rfl) ⟨Nat.le_refl _, Nat.le_refl _⟩ dX12_fewest_6 (fun c4 => ?_)
  refine r_if_eq (pc := 9) (tgt := 20) S0 dX12_fewest_9 (by decide) c4 hf (fun hf => ?_) (fun hf => ?_)
  · refine r_bipush (pc := 20) S0 dX12_fewest_20 (by decide) ?_
    have hz := ok_some hf
    have hz : ((-2), I1) = e := hz
    subst hQ
    subst hz
    exact r_iret (pc := 22) S0 hr hlk (cnz (-2) rfl) dX12_fewest_22
  · refine r_aload_n (pc := 12) S0 0 dX12_fewest_12 rfl rfl ?_
    refine r_iconst (pc := 13) S0 dX12_fewest_13 ?_
    obtain ⟨e5, h6, hf⟩ := ok_bind hf
    refine r_cV_I (pc := 14) [iv 1] S0 hK hX mv_X12_385 (k_X12_findsNow h6) (c_X12_findsNow l cA D N sx ad T A nx I1 w0 1 (cnz 1 rfl) e5 h6) rfl rfl ⟨by decide, by decide⟩ (Nat.le_of_ble_eq_true rfl) ⟨Nat.le_refl _, Nat.le_refl _⟩ dX12_fewest_14 (fun c7 => ?_)
    refine r_goto (pc := 17) (tgt := 22) S0 dX12_fewest_17 (by decide) ?_
    have hz := ok_some hf
    have hz : (e5.1, e5.2) = e := hz
    subst hQ
    subst hz
    exact r_iret (pc := 22) S0 hr hlk c7 dX12_fewest_22

set_option maxHeartbeats 4000000 in
set_option maxRecDepth 100000 in
theorem c_X12_least (l : Launch) (cA : Nat → ClassId) (D : va_G) (N : Nat) (sx : Sx) (ad : Nat → Nat) (T : Knd) (A : Rfs) (nx : Nat) (I : Mem) (w0 : Nat)  (e : (Int × Mem)) (h : f_X12_least T A w0 I = some e) : CtI l yX12_least cX12_least 1 (some .int) 21 604 cA D N sx ad T A nx [rv ad w0] I e.2 e.1 := by
  refine met_of (lv0 := [(0, rv ad w0)]) (by decide) (Nat.le_of_ble_eq_true rfl) rfl (fun p e0 s m args below meth c S0 hK hX hr hlk Q hQ => ?_)
  have hf : OK (f_X12_least T A w0 I) (fun z => z = e) := ⟨e, h, rfl⟩
  unfold f_X12_least at hf
  obtain ⟨hw0, hf⟩ := ok_grd hf
  refine r_aload_n (pc := 0) S0 0 dX12_least_0 rfl rfl ?_
  refine r_iconst (pc := 1) S0 dX12_least_1 ?_
  refine r_putI (pc := 2) S0 hK fl_X12_89 rfl rfl (cnz 0 rfl) dX12_least_2 hf (fun I1 hf => ?_)
  refine r_aload_n (pc := 5) S0 0 dX12_least_5 rfl rfl ?_
  obtain ⟨e2, h3, hf⟩ := ok_bind hf
  refine r_cV_I (pc := 6) [] S0 hK hX mv_X12_267 (k_X12_isOffice h3) (c_X12_isOffice l cA D N sx ad T A nx I1 w0 e2 h3) rfl rfl ⟨by decide, by decide⟩ (Nat.le_of_ble_eq_true rfl) ⟨Nat.le_refl _, Nat.le_refl _⟩ dX12_least_6 (fun c4 => ?_)
  refine r_if_eq (pc := 9) (tgt := 20) S0 dX12_least_9 (by decide) c4 hf (fun hf => ?_) (fun hf => ?_)
  · refine r_bipush (pc := 20) S0 dX12_least_20 (by decide) ?_
    have hz := ok_some hf
    have hz : ((-2), I1) = e := hz
    subst hQ
    subst hz
    exact r_iret (pc := 22) S0 hr hlk (cnz (-2) rfl) dX12_least_22
  · refine r_aload_n (pc := 12) S0 0 dX12_least_12 rfl rfl ?_
    refine r_iconst (pc := 13) S0 dX12_least_13 ?_
    obtain ⟨e5, h6, hf⟩ := ok_bind hf
    refine r_cV_I (pc := 14) [iv 2] S0 hK hX mv_X12_385 (k_X12_findsNow h6) (c_X12_findsNow l cA D N sx ad T A nx I1 w0 2 (cnz 2 rfl) e5 h6) rfl rfl ⟨by decide, by decide⟩ (Nat.le_of_ble_eq_true rfl) ⟨Nat.le_refl _, Nat.le_refl _⟩ dX12_least_14 (fun c7 => ?_)
    refine r_goto (pc := 17) (tgt := 22) S0 dX12_least_17 (by decide) ?_
    have hz := ok_some hf
    have hz : (e5.1, e5.2) = e := hz
    subst hQ
    subst hz
    exact r_iret (pc := 22) S0 hr hlk c7 dX12_least_22

set_option maxHeartbeats 4000000 in
set_option maxRecDepth 100000 in
theorem c_X12_tread (l : Launch) (cA : Nat → ClassId) (D : va_G) (N : Nat) (sx : Sx) (ad : Nat → Nat) (T : Knd) (A : Rfs) (nx : Nat) (I : Mem) (w0 : Nat) (a1 : Int) (ca1 : cn a1) (e : (Int × Mem)) (h : f_X12_tread T A w0 a1 I = some e) : CtI l yX12_tread cX12_tread 2 (some .int) 22 626 cA D N sx ad T A nx [rv ad w0, iv a1] I e.2 e.1 := by
  refine met_of (lv0 := [(0, rv ad w0), (1, iv a1)]) (by decide) (Nat.le_of_ble_eq_true rfl) rfl (fun p e0 s m args below meth c S0 hK hX hr hlk Q hQ => ?_)
  have hf : OK (f_X12_tread T A w0 a1 I) (fun z => z = e) := ⟨e, h, rfl⟩
  unfold f_X12_tread at hf
  obtain ⟨hw0, hf⟩ := ok_grd hf
  refine r_aload_n (pc := 0) S0 0 dX12_tread_0 rfl rfl ?_
  refine r_iconst (pc := 1) S0 dX12_tread_1 ?_
  refine r_putI (pc := 2) S0 hK fl_X12_89 rfl rfl (cnz 0 rfl) dX12_tread_2 hf (fun I1 hf => ?_)
  refine r_aload_n (pc := 5) S0 0 dX12_tread_5 rfl rfl ?_
  obtain ⟨e2, h3, hf⟩ := ok_bind hf
  refine r_cV_I (pc := 6) [] S0 hK hX mv_X12_267 (k_X12_isOffice h3) (c_X12_isOffice l cA D N sx ad T A nx I1 w0 e2 h3) rfl rfl ⟨by decide, by decide⟩ (Nat.le_of_ble_eq_true rfl) ⟨Nat.le_refl _, Nat.le_refl _⟩ dX12_tread_6 (fun c4 => ?_)
  refine r_if_eq (pc := 9) (tgt := 21) S0 dX12_tread_9 (by decide) c4 hf (fun hf => ?_) (fun hf => ?_)
  · refine r_bipush (pc := 21) S0 dX12_tread_21 (by decide) ?_
    have hz := ok_some hf
    have hz : ((-2), I1) = e := hz
    subst hQ
    subst hz
    exact r_iret (pc := 23) S0 hr hlk (cnz (-2) rfl) dX12_tread_23
  · refine r_aload_n (pc := 12) S0 0 dX12_tread_12 rfl rfl ?_
    refine r_iconst (pc := 13) S0 dX12_tread_13 ?_
    refine r_iload_n (pc := 14) S0 1 dX12_tread_14 rfl rfl ?_
    obtain ⟨e5, h6, hf⟩ := ok_bind hf
    refine r_cV_I (pc := 15) [iv 2, iv a1] S0 hK hX mv_X12_388 (k_X12_stepOf h6) (c_X12_stepOf l cA D N sx ad T A nx I1 w0 2 a1 (cnz 2 rfl) ca1 e5 h6) rfl rfl ⟨by decide, by decide⟩ (Nat.le_of_ble_eq_true rfl) ⟨Nat.le_refl _, Nat.le_refl _⟩ dX12_tread_15 (fun c7 => ?_)
    refine r_goto (pc := 18) (tgt := 23) S0 dX12_tread_18 (by decide) ?_
    have hz := ok_some hf
    have hz : (e5.1, e5.2) = e := hz
    subst hQ
    subst hz
    exact r_iret (pc := 23) S0 hr hlk c7 dX12_tread_23

set_option maxHeartbeats 4000000 in
set_option maxRecDepth 100000 in
theorem c_X12_cheapest (l : Launch) (cA : Nat → ClassId) (D : va_G) (N : Nat) (sx : Sx) (ad : Nat → Nat) (T : Knd) (A : Rfs) (nx : Nat) (I : Mem) (w0 : Nat)  (e : (Int × Mem)) (h : f_X12_cheapest T A w0 I = some e) : CtI l yX12_cheapest cX12_cheapest 1 (some .int) 21 604 cA D N sx ad T A nx [rv ad w0] I e.2 e.1 := by
  refine met_of (lv0 := [(0, rv ad w0)]) (by decide) (Nat.le_of_ble_eq_true rfl) rfl (fun p e0 s m args below meth c S0 hK hX hr hlk Q hQ => ?_)
  have hf : OK (f_X12_cheapest T A w0 I) (fun z => z = e) := ⟨e, h, rfl⟩
  unfold f_X12_cheapest at hf
  obtain ⟨hw0, hf⟩ := ok_grd hf
  refine r_aload_n (pc := 0) S0 0 dX12_cheapest_0 rfl rfl ?_
  refine r_iconst (pc := 1) S0 dX12_cheapest_1 ?_
  refine r_putI (pc := 2) S0 hK fl_X12_89 rfl rfl (cnz 0 rfl) dX12_cheapest_2 hf (fun I1 hf => ?_)
  refine r_aload_n (pc := 5) S0 0 dX12_cheapest_5 rfl rfl ?_
  obtain ⟨e2, h3, hf⟩ := ok_bind hf
  refine r_cV_I (pc := 6) [] S0 hK hX mv_X12_267 (k_X12_isOffice h3) (c_X12_isOffice l cA D N sx ad T A nx I1 w0 e2 h3) rfl rfl ⟨by decide, by decide⟩ (Nat.le_of_ble_eq_true rfl) ⟨Nat.le_refl _, Nat.le_refl _⟩ dX12_cheapest_6 (fun c4 => ?_)
  refine r_if_eq (pc := 9) (tgt := 20) S0 dX12_cheapest_9 (by decide) c4 hf (fun hf => ?_) (fun hf => ?_)
  · refine r_bipush (pc := 20) S0 dX12_cheapest_20 (by decide) ?_
    have hz := ok_some hf
    have hz : ((-2), I1) = e := hz
    subst hQ
    subst hz
    exact r_iret (pc := 22) S0 hr hlk (cnz (-2) rfl) dX12_cheapest_22
  · refine r_aload_n (pc := 12) S0 0 dX12_cheapest_12 rfl rfl ?_
    refine r_iconst (pc := 13) S0 dX12_cheapest_13 ?_
    obtain ⟨e5, h6, hf⟩ := ok_bind hf
    refine r_cV_I (pc := 14) [iv 3] S0 hK hX mv_X12_385 (k_X12_findsNow h6) (c_X12_findsNow l cA D N sx ad T A nx I1 w0 3 (cnz 3 rfl) e5 h6) rfl rfl ⟨by decide, by decide⟩ (Nat.le_of_ble_eq_true rfl) ⟨Nat.le_refl _, Nat.le_refl _⟩ dX12_cheapest_14 (fun c7 => ?_)
    refine r_goto (pc := 17) (tgt := 22) S0 dX12_cheapest_17 (by decide) ?_
    have hz := ok_some hf
    have hz : (e5.1, e5.2) = e := hz
    subst hQ
    subst hz
    exact r_iret (pc := 22) S0 hr hlk c7 dX12_cheapest_22

set_option maxHeartbeats 4000000 in
set_option maxRecDepth 100000 in
theorem c_X12_whom (l : Launch) (cA : Nat → ClassId) (D : va_G) (N : Nat) (sx : Sx) (ad : Nat → Nat) (T : Knd) (A : Rfs) (nx : Nat) (I : Mem) (w0 : Nat)  (e : (Int × Mem)) (h : f_X12_whom T A w0 I = some e) : CtI l yX12_whom cX12_whom 3 (some .int) 21 604 cA D N sx ad T A nx [rv ad w0] I e.2 e.1 := by
  refine met_of (lv0 := [(0, rv ad w0)]) (by decide) (Nat.le_of_ble_eq_true rfl) rfl (fun p e0 s m args below meth c S0 hK hX hr hlk Q hQ => ?_)
  have hf : OK (f_X12_whom T A w0 I) (fun z => z = e) := ⟨e, h, rfl⟩
  unfold f_X12_whom at hf
  obtain ⟨hw0, hf⟩ := ok_grd hf
  refine r_aload_n (pc := 0) S0 0 dX12_whom_0 rfl rfl ?_
  refine r_iconst (pc := 1) S0 dX12_whom_1 ?_
  refine r_putI (pc := 2) S0 hK fl_X12_89 rfl rfl (cnz 0 rfl) dX12_whom_2 hf (fun I1 hf => ?_)
  refine r_aload_n (pc := 5) S0 0 dX12_whom_5 rfl rfl ?_
  obtain ⟨e2, h3, hf⟩ := ok_bind hf
  refine r_cV_I (pc := 6) [] S0 hK hX mv_X12_267 (k_X12_isOffice h3) (c_X12_isOffice l cA D N sx ad T A nx I1 w0 e2 h3) rfl rfl ⟨by decide, by decide⟩ (Nat.le_of_ble_eq_true rfl) ⟨Nat.le_refl _, Nat.le_refl _⟩ dX12_whom_6 (fun c4 => ?_)
  refine r_if_ne (pc := 9) (tgt := 15) S0 dX12_whom_9 (by decide) c4 hf (fun hf => ?_) (fun hf => ?_)
  · refine r_aload_n (pc := 15) S0 0 dX12_whom_15 rfl rfl ?_
    refine r_iconst (pc := 16) S0 dX12_whom_16 ?_
    obtain ⟨e5, h6, hf⟩ := ok_bind hf
    refine r_cV_I (pc := 17) [iv 3] S0 hK hX mv_X12_385 (k_X12_findsNow h6) (c_X12_findsNow l cA D N sx ad T A nx I1 w0 3 (cnz 3 rfl) e5 h6) rfl rfl ⟨by decide, by decide⟩ (Nat.le_of_ble_eq_true rfl) ⟨Nat.le_refl _, Nat.le_refl _⟩ dX12_whom_17 (fun c7 => ?_)
    refine r_iconst (pc := 20) S0 dX12_whom_20 ?_
    refine r_icmp_ne (pc := 21) (tgt := 26) S0 dX12_whom_21 (by decide) c7 (cnz (-1) rfl) hf (fun hf => ?_) (fun hf => ?_)
    · refine r_iconst (pc := 26) S0 dX12_whom_26 ?_
      refine r_istore_n (pc := 27) (lv' := [(1, iv 0), (0, rv ad w0)]) S0 dX12_whom_27 rfl (by decide) rfl ?_
      refine r_iconst (pc := 28) S0 dX12_whom_28 ?_
      refine r_istore_n (pc := 29) (lv' := [(2, iv 0), (1, iv 0), (0, rv ad w0)]) S0 dX12_whom_29 rfl (by decide) rfl ?_
      refine r_lv [2, 1, 0] rfl ?_
      refine it_ind (P := fun s9 => cn s9.1 → cn s9.2 → G p l e0 (rmx 21 604) s m args below meth c 0 0 Q cA D N 3 ad T A nx 30 [(0, rv ad w0), (1, iv s9.1), (2, iv s9.2)] [] e5.2) (fun n0 s9 ih8 hf c10 c11 => ?_) FU (0, 0) hf (cnz 0 rfl) (cnz 0 rfl)
      refine r_iload_n (pc := 30) S0 2 dX12_whom_30 rfl rfl ?_
      refine r_aload_n (pc := 31) S0 0 dX12_whom_31 rfl rfl ?_
      refine r_getI (pc := 32) S0 hK fl_X12_366 dX12_whom_32 hf (fun x12 c13 hf => ?_)
      refine r_icmp_ge (pc := 35) (tgt := 55) S0 dX12_whom_35 (by decide) c11 c13 hf (fun hf => ?_) (fun hf => ?_)
      · refine r_iload_n (pc := 55) S0 1 dX12_whom_55 rfl rfl ?_
        have hz := ok_some hf
        have hz : (s9.1, e5.2) = e := hz
        subst hQ
        subst hz
        exact r_iret (pc := 56) S0 hr hlk c10 dX12_whom_56
      · refine r_iload_n (pc := 38) S0 1 dX12_whom_38 rfl rfl ?_
        refine r_iconst (pc := 39) S0 dX12_whom_39 ?_
        refine r_aload_n (pc := 40) S0 0 dX12_whom_40 rfl rfl ?_
        refine r_getR (pc := 41) S0 hK fl_X12_68 dX12_whom_41 hf (fun x14 hf => ?_)
        refine r_iload_n (pc := 44) S0 2 dX12_whom_44 rfl rfl ?_
        refine r_iald (pc := 45) S0 hK dX12_whom_45 c11 hf (fun x15 c16 hf => ?_)
        refine r_ishl (pc := 46) S0 dX12_whom_46 ?_
        refine r_ior (pc := 47) S0 dX12_whom_47 ?_
        refine r_istore_n (pc := 48) (lv' := [(1, iv (ior s9.1 (ishl 1 x15))), (0, rv ad w0), (2, iv s9.2)]) S0 dX12_whom_48 rfl (by decide) rfl ?_
        refine r_iinc (pc := 49) (lv' := [(2, iv (ia s9.2 1)), (1, iv (ior s9.1 (ishl 1 x15))), (0, rv ad w0)]) S0 2 dX12_whom_49 rfl (by decide) rfl ?_
        refine r_goto (pc := 52) (tgt := 30) S0 dX12_whom_52 (by decide) ?_
        have hz := ok_some hf
        refine r_lv [2, 1, 0] rfl ?_
        exact ih8 (ior s9.1 (ishl 1 x15), ia s9.2 1) hz (cn_toInt _) (cn_wrap _)
    · refine r_iconst (pc := 24) S0 dX12_whom_24 ?_
      have hz := ok_some hf
      have hz : ((-1), e5.2) = e := hz
      subst hQ
      subst hz
      exact r_iret (pc := 25) S0 hr hlk (cnz (-1) rfl) dX12_whom_25
  · refine r_bipush (pc := 12) S0 dX12_whom_12 (by decide) ?_
    have hz := ok_some hf
    have hz : ((-2), I1) = e := hz
    subst hQ
    subst hz
    exact r_iret (pc := 14) S0 hr hlk (cnz (-2) rfl) dX12_whom_14

set_option maxHeartbeats 4000000 in
set_option maxRecDepth 100000 in
theorem c_X12_ways (l : Launch) (cA : Nat → ClassId) (D : va_G) (N : Nat) (sx : Sx) (ad : Nat → Nat) (T : Knd) (A : Rfs) (nx : Nat) (I : Mem) (w0 : Nat)  (e : (Int × Mem)) (h : f_X12_ways T A w0 I = some e) : CtI l yX12_ways cX12_ways 1 (some .int) 21 604 cA D N sx ad T A nx [rv ad w0] I e.2 e.1 := by
  refine met_of (lv0 := [(0, rv ad w0)]) (by decide) (Nat.le_of_ble_eq_true rfl) rfl (fun p e0 s m args below meth c S0 hK hX hr hlk Q hQ => ?_)
  have hf : OK (f_X12_ways T A w0 I) (fun z => z = e) := ⟨e, h, rfl⟩
  unfold f_X12_ways at hf
  obtain ⟨hw0, hf⟩ := ok_grd hf
  refine r_aload_n (pc := 0) S0 0 dX12_ways_0 rfl rfl ?_
  refine r_iconst (pc := 1) S0 dX12_ways_1 ?_
  refine r_putI (pc := 2) S0 hK fl_X12_89 rfl rfl (cnz 0 rfl) dX12_ways_2 hf (fun I1 hf => ?_)
  refine r_aload_n (pc := 5) S0 0 dX12_ways_5 rfl rfl ?_
  obtain ⟨e2, h3, hf⟩ := ok_bind hf
  refine r_cV_I (pc := 6) [] S0 hK hX mv_X12_267 (k_X12_isOffice h3) (c_X12_isOffice l cA D N sx ad T A nx I1 w0 e2 h3) rfl rfl ⟨by decide, by decide⟩ (Nat.le_of_ble_eq_true rfl) ⟨Nat.le_refl _, Nat.le_refl _⟩ dX12_ways_6 (fun c4 => ?_)
  refine r_if_ne (pc := 9) (tgt := 15) S0 dX12_ways_9 (by decide) c4 hf (fun hf => ?_) (fun hf => ?_)
  · refine r_aload_n (pc := 15) S0 0 dX12_ways_15 rfl rfl ?_
    refine r_iconst (pc := 16) S0 dX12_ways_16 ?_
    obtain ⟨e5, h6, hf⟩ := ok_bind hf
    refine r_cV_I (pc := 17) [iv 4] S0 hK hX mv_X12_385 (k_X12_findsNow h6) (c_X12_findsNow l cA D N sx ad T A nx I1 w0 4 (cnz 4 rfl) e5 h6) rfl rfl ⟨by decide, by decide⟩ (Nat.le_of_ble_eq_true rfl) ⟨Nat.le_refl _, Nat.le_refl _⟩ dX12_ways_17 (fun c7 => ?_)
    refine r_pop (pc := 20) S0 dX12_ways_20 rfl ?_
    refine r_aload_n (pc := 21) S0 0 dX12_ways_21 rfl rfl ?_
    refine r_getI (pc := 22) S0 hK fl_X12_351 dX12_ways_22 hf (fun x8 c9 hf => ?_)
    have hz := ok_some hf
    have hz : (x8, e5.2) = e := hz
    subst hQ
    subst hz
    exact r_iret (pc := 25) S0 hr hlk c9 dX12_ways_25
  · refine r_bipush (pc := 12) S0 dX12_ways_12 (by decide) ?_
    have hz := ok_some hf
    have hz : ((-2), I1) = e := hz
    subst hQ
    subst hz
    exact r_iret (pc := 14) S0 hr hlk (cnz (-2) rfl) dX12_ways_14

set_option maxHeartbeats 4000000 in
set_option maxRecDepth 100000 in
theorem c_X12_always (l : Launch) (cA : Nat → ClassId) (D : va_G) (N : Nat) (sx : Sx) (ad : Nat → Nat) (T : Knd) (A : Rfs) (nx : Nat) (I : Mem) (w0 : Nat) (a1 : Int) (ca1 : cn a1) (e : (Int × Mem)) (h : f_X12_always T A w0 a1 I = some e) : CtI l yX12_always cX12_always 2 (some .int) 21 604 cA D N sx ad T A nx [rv ad w0, iv a1] I e.2 e.1 := by
  refine met_of (lv0 := [(0, rv ad w0), (1, iv a1)]) (by decide) (Nat.le_of_ble_eq_true rfl) rfl (fun p e0 s m args below meth c S0 hK hX hr hlk Q hQ => ?_)
  have hf : OK (f_X12_always T A w0 a1 I) (fun z => z = e) := ⟨e, h, rfl⟩
  unfold f_X12_always at hf
  obtain ⟨hw0, hf⟩ := ok_grd hf
  refine r_aload_n (pc := 0) S0 0 dX12_always_0 rfl rfl ?_
  refine r_iconst (pc := 1) S0 dX12_always_1 ?_
  refine r_putI (pc := 2) S0 hK fl_X12_89 rfl rfl (cnz 0 rfl) dX12_always_2 hf (fun I1 hf => ?_)
  refine r_aload_n (pc := 5) S0 0 dX12_always_5 rfl rfl ?_
  obtain ⟨e2, h3, hf⟩ := ok_bind hf
  refine r_cV_I (pc := 6) [] S0 hK hX mv_X12_267 (k_X12_isOffice h3) (c_X12_isOffice l cA D N sx ad T A nx I1 w0 e2 h3) rfl rfl ⟨by decide, by decide⟩ (Nat.le_of_ble_eq_true rfl) ⟨Nat.le_refl _, Nat.le_refl _⟩ dX12_always_6 (fun c4 => ?_)
  refine r_if_eq (pc := 9) (tgt := 22) S0 dX12_always_9 (by decide) c4 hf (fun hf => ?_) (fun hf => ?_)
  · refine r_bipush (pc := 22) S0 dX12_always_22 (by decide) ?_
    have hz := ok_some hf
    have hz : ((-2), I1) = e := hz
    subst hQ
    subst hz
    exact r_iret (pc := 24) S0 hr hlk (cnz (-2) rfl) dX12_always_24
  · refine r_iload_n (pc := 12) S0 1 dX12_always_12 rfl rfl ?_
    refine r_i2l (pc := 13) S0 dX12_always_13 ca1 ?_
    refine r_lconst (pc := 14) (v := 0) S0 dX12_always_14 rfl ?_
    refine r_lconst (pc := 15) (v := 1) S0 dX12_always_15 rfl ?_
    obtain ⟨e5, h6, hf⟩ := ok_bind hf
    refine r_cS_I (pc := 16) [jv a1, jv 0, jv 1] S0 hK hX ms_X12_94 (c_X12_in l cA D N sx ad T A nx I1 a1 0 1 (cl_cn ca1) (clz 0 rfl) (clz 1 rfl) e5 h6) rfl rfl ⟨by decide, by decide⟩ (Nat.le_of_ble_eq_true rfl) ⟨Nat.le_refl _, Nat.le_refl _⟩ dX12_always_16 (fun c7 => ?_)
    refine r_if_ne (pc := 19) (tgt := 25) S0 dX12_always_19 (by decide) c7 hf (fun hf => ?_) (fun hf => ?_)
    · refine r_aload_n (pc := 25) S0 0 dX12_always_25 rfl rfl ?_
      refine r_iconst (pc := 26) S0 dX12_always_26 ?_
      obtain ⟨e8, h9, hf⟩ := ok_bind hf
      refine r_cV_I (pc := 27) [iv 4] S0 hK hX mv_X12_385 (k_X12_findsNow h9) (c_X12_findsNow l cA D N sx ad T A nx I1 w0 4 (cnz 4 rfl) e8 h9) rfl rfl ⟨by decide, by decide⟩ (Nat.le_of_ble_eq_true rfl) ⟨Nat.le_refl _, Nat.le_refl _⟩ dX12_always_27 (fun c10 => ?_)
      refine r_pop (pc := 30) S0 dX12_always_30 rfl ?_
      refine r_aload_n (pc := 31) S0 0 dX12_always_31 rfl rfl ?_
      refine r_getI (pc := 32) S0 hK fl_X12_351 dX12_always_32 hf (fun x11 c12 hf => ?_)
      refine r_if_ne (pc := 35) (tgt := 42) S0 dX12_always_35 (by decide) c12 hf (fun hf => ?_) (fun hf => ?_)
      · refine r_iload_n (pc := 42) S0 1 dX12_always_42 rfl rfl ?_
        refine r_if_ne (pc := 43) (tgt := 53) S0 dX12_always_43 (by decide) ca1 hf (fun hf => ?_) (fun hf => ?_)
        · refine r_aload_n (pc := 53) S0 0 dX12_always_53 rfl rfl ?_
          refine r_getI (pc := 54) S0 hK fl_X12_357 dX12_always_54 hf (fun x13 c14 hf => ?_)
          have hz := ok_some hf
          have hz : (x13, e8.2) = e := hz
          subst hQ
          subst hz
          exact r_iret (pc := 57) S0 hr hlk c14 dX12_always_57
        · refine r_aload_n (pc := 46) S0 0 dX12_always_46 rfl rfl ?_
          refine r_getI (pc := 47) S0 hK fl_X12_354 dX12_always_47 hf (fun x15 c16 hf => ?_)
          refine r_goto (pc := 50) (tgt := 57) S0 dX12_always_50 (by decide) ?_
          have hz := ok_some hf
          have hz : (x15, e8.2) = e := hz
          subst hQ
          subst hz
          exact r_iret (pc := 57) S0 hr hlk c16 dX12_always_57
      · refine r_iconst (pc := 38) S0 dX12_always_38 ?_
        refine r_goto (pc := 39) (tgt := 57) S0 dX12_always_39 (by decide) ?_
        have hz := ok_some hf
        have hz : (0, e8.2) = e := hz
        subst hQ
        subst hz
        exact r_iret (pc := 57) S0 hr hlk (cnz 0 rfl) dX12_always_57
    · refine r_bipush (pc := 22) S0 dX12_always_22 (by decide) ?_
      have hz := ok_some hf
      have hz : ((-2), I1) = e := hz
      subst hQ
      subst hz
      exact r_iret (pc := 24) S0 hr hlk (cnz (-2) rfl) dX12_always_24

set_option maxHeartbeats 4000000 in
set_option maxRecDepth 100000 in
theorem c_X12_slack (l : Launch) (cA : Nat → ClassId) (D : va_G) (N : Nat) (sx : Sx) (ad : Nat → Nat) (T : Knd) (A : Rfs) (nx : Nat) (I : Mem) (w0 : Nat) (a1 : Int) (ca1 : cn a1) (e : (Int × Mem)) (h : f_X12_slack T A w0 a1 I = some e) : CtI l yX12_slack cX12_slack 4 (some .int) 21 604 cA D N sx ad T A nx [rv ad w0, iv a1] I e.2 e.1 := by
  refine met_of (lv0 := [(0, rv ad w0), (1, iv a1)]) (by decide) (Nat.le_of_ble_eq_true rfl) rfl (fun p e0 s m args below meth c S0 hK hX hr hlk Q hQ => ?_)
  have hf : OK (f_X12_slack T A w0 a1 I) (fun z => z = e) := ⟨e, h, rfl⟩
  unfold f_X12_slack at hf
  obtain ⟨hw0, hf⟩ := ok_grd hf
  refine r_aload_n (pc := 0) S0 0 dX12_slack_0 rfl rfl ?_
  refine r_iconst (pc := 1) S0 dX12_slack_1 ?_
  refine r_putI (pc := 2) S0 hK fl_X12_89 rfl rfl (cnz 0 rfl) dX12_slack_2 hf (fun I1 hf => ?_)
  refine r_aload_n (pc := 5) S0 0 dX12_slack_5 rfl rfl ?_
  refine r_iload_n (pc := 6) S0 1 dX12_slack_6 rfl rfl ?_
  refine r_i2l (pc := 7) S0 dX12_slack_7 ca1 ?_
  obtain ⟨e2, h3, hf⟩ := ok_bind hf
  refine r_cV_I (pc := 8) [jv a1] S0 hK hX mv_X12_270 (k_X12_isOfficial h3) (c_X12_isOfficial l cA D N sx ad T A nx I1 w0 a1 (cl_cn ca1) e2 h3) rfl rfl ⟨by decide, by decide⟩ (Nat.le_of_ble_eq_true rfl) ⟨Nat.le_refl _, Nat.le_refl _⟩ dX12_slack_8 (fun c4 => ?_)
  refine r_if_ne (pc := 11) (tgt := 17) S0 dX12_slack_11 (by decide) c4 hf (fun hf => ?_) (fun hf => ?_)
  · refine r_aload_n (pc := 17) S0 0 dX12_slack_17 rfl rfl ?_
    refine r_iconst (pc := 18) S0 dX12_slack_18 ?_
    obtain ⟨e5, h6, hf⟩ := ok_bind hf
    refine r_cV_I (pc := 19) [iv 0] S0 hK hX mv_X12_385 (k_X12_findsNow h6) (c_X12_findsNow l cA D N sx ad T A nx I1 w0 0 (cnz 0 rfl) e5 h6) rfl rfl ⟨by decide, by decide⟩ (Nat.le_of_ble_eq_true rfl) ⟨Nat.le_refl _, Nat.le_refl _⟩ dX12_slack_19 (fun c7 => ?_)
    refine r_iconst (pc := 22) S0 dX12_slack_22 ?_
    refine r_icmp_ne (pc := 23) (tgt := 28) S0 dX12_slack_23 (by decide) c7 (cnz (-1) rfl) hf (fun hf => ?_) (fun hf => ?_)
    · refine r_iconst (pc := 28) S0 dX12_slack_28 ?_
      refine r_istore_n (pc := 29) (lv' := [(2, iv 0), (0, rv ad w0), (1, iv a1)]) S0 dX12_slack_29 rfl (by decide) rfl ?_
      refine r_iconst (pc := 30) S0 dX12_slack_30 ?_
      refine r_istore_n (pc := 31) (lv' := [(3, iv 0), (2, iv 0), (0, rv ad w0), (1, iv a1)]) S0 dX12_slack_31 rfl (by decide) rfl ?_
      refine thn_rule (P := fun v9 => cn v9 → G p l e0 (rmx 21 604) s m args below meth c 0 0 Q cA D N 4 ad T A nx 66 [(0, rv ad w0), (1, iv a1), (2, iv v9)] [] e5.2) hf (fun v9 hf c10 => ?_) (fun K8 hf => ?_)
      · refine r_iload_n (pc := 66) S0 2 dX12_slack_66 rfl rfl ?_
        refine r_if_eq (pc := 67) (tgt := 109) S0 dX12_slack_67 (by decide) c10 hf (fun hf => ?_) (fun hf => ?_)
        · refine r_iconst (pc := 109) S0 dX12_slack_109 ?_
          have hz := ok_some hf
          have hz : ((-1), e5.2) = e := hz
          subst hQ
          subst hz
          exact r_iret (pc := 110) S0 hr hlk (cnz (-1) rfl) dX12_slack_110
        · refine r_aload_n (pc := 70) S0 0 dX12_slack_70 rfl rfl ?_
          refine r_getR (pc := 71) S0 hK fl_X12_71 dX12_slack_71 hf (fun x20 hf => ?_)
          refine r_iload_n (pc := 74) S0 1 dX12_slack_74 rfl rfl ?_
          refine r_iald (pc := 75) S0 hK dX12_slack_75 ca1 hf (fun x21 c22 hf => ?_)
          refine r_sipush (pc := 76) S0 dX12_slack_76 (by decide) ?_
          refine r_icmp_eq (pc := 79) (tgt := 109) S0 dX12_slack_79 (by decide) c22 (cnz 9999 rfl) hf (fun hf => ?_) (fun hf => ?_)
          · refine r_iconst (pc := 109) S0 dX12_slack_109 ?_
            have hz := ok_some hf
            have hz : ((-1), e5.2) = e := hz
            subst hQ
            subst hz
            exact r_iret (pc := 110) S0 hr hlk (cnz (-1) rfl) dX12_slack_110
          · refine r_aload_n (pc := 82) S0 0 dX12_slack_82 rfl rfl ?_
            refine r_getR (pc := 83) S0 hK fl_X12_71 dX12_slack_83 hf (fun x23 hf => ?_)
            refine r_iload_n (pc := 86) S0 1 dX12_slack_86 rfl rfl ?_
            refine r_iald (pc := 87) S0 hK dX12_slack_87 ca1 hf (fun x24 c25 hf => ?_)
            refine r_aload_n (pc := 88) S0 0 dX12_slack_88 rfl rfl ?_
            refine r_getI (pc := 89) S0 hK fl_X12_372 dX12_slack_89 hf (fun x26 c27 hf => ?_)
            refine r_icmp_lt (pc := 92) (tgt := 109) S0 dX12_slack_92 (by decide) c25 c27 hf (fun hf => ?_) (fun hf => ?_)
            · refine r_iconst (pc := 109) S0 dX12_slack_109 ?_
              have hz := ok_some hf
              have hz : ((-1), e5.2) = e := hz
              subst hQ
              subst hz
              exact r_iret (pc := 110) S0 hr hlk (cnz (-1) rfl) dX12_slack_110
            · refine r_aload_n (pc := 95) S0 0 dX12_slack_95 rfl rfl ?_
              refine r_getR (pc := 96) S0 hK fl_X12_71 dX12_slack_96 hf (fun x28 hf => ?_)
              refine r_iload_n (pc := 99) S0 1 dX12_slack_99 rfl rfl ?_
              refine r_iald (pc := 100) S0 hK dX12_slack_100 ca1 hf (fun x29 c30 hf => ?_)
              refine r_aload_n (pc := 101) S0 0 dX12_slack_101 rfl rfl ?_
              refine r_getI (pc := 102) S0 hK fl_X12_372 dX12_slack_102 hf (fun x31 c32 hf => ?_)
              refine r_isub (pc := 105) S0 dX12_slack_105 ?_
              refine r_goto (pc := 106) (tgt := 110) S0 dX12_slack_106 (by decide) ?_
              have hz := ok_some hf
              have hz : (isb x29 x31, e5.2) = e := hz
              subst hQ
              subst hz
              exact r_iret (pc := 110) S0 hr hlk (cn_wrap _) dX12_slack_110
      · refine r_lv [2, 3, 1, 0] rfl ?_
        refine it_ind (P := fun s12 => cn s12.1 → cn s12.2 → G p l e0 (rmx 21 604) s m args below meth c 0 0 Q cA D N 4 ad T A nx 32 [(0, rv ad w0), (1, iv a1), (2, iv s12.1), (3, iv s12.2)] [] e5.2) (fun n0 s12 ih11 hf c13 c14 => ?_) FU (0, 0) hf (cnz 0 rfl) (cnz 0 rfl)
        refine r_iload_n (pc := 32) S0 3 dX12_slack_32 rfl rfl ?_
        refine r_aload_n (pc := 33) S0 0 dX12_slack_33 rfl rfl ?_
        refine r_getI (pc := 34) S0 hK fl_X12_366 dX12_slack_34 hf (fun x15 c16 hf => ?_)
        refine r_icmp_ge (pc := 37) (tgt := 66) S0 dX12_slack_37 (by decide) c14 c16 hf (fun hf => ?_) (fun hf => ?_)
        · have hz := ok_some hf
          refine r_lv [0, 1, 2] rfl ?_
          exact K8 s12.1 hz c13
        · refine r_iload_n (pc := 40) S0 2 dX12_slack_40 rfl rfl ?_
          refine r_if_ne (pc := 41) (tgt := 54) S0 dX12_slack_41 (by decide) c13 hf (fun hf => ?_) (fun hf => ?_)
          · refine r_iconst (pc := 54) S0 dX12_slack_54 ?_
            refine r_goto (pc := 55) (tgt := 59) S0 dX12_slack_55 (by decide) ?_
            refine r_istore_n (pc := 59) (lv' := [(2, iv 1), (0, rv ad w0), (1, iv a1), (3, iv s12.2)]) S0 dX12_slack_59 rfl (by decide) rfl ?_
            refine r_iinc (pc := 60) (lv' := [(3, iv (ia s12.2 1)), (2, iv 1), (0, rv ad w0), (1, iv a1)]) S0 3 dX12_slack_60 rfl (by decide) rfl ?_
            refine r_goto (pc := 63) (tgt := 32) S0 dX12_slack_63 (by decide) ?_
            have hz := ok_some hf
            refine r_lv [2, 3, 1, 0] rfl ?_
            exact ih11 (1, ia s12.2 1) hz (cnz 1 rfl) (cn_wrap _)
          · refine r_aload_n (pc := 44) S0 0 dX12_slack_44 rfl rfl ?_
            refine r_getR (pc := 45) S0 hK fl_X12_68 dX12_slack_45 hf (fun x17 hf => ?_)
            refine r_iload_n (pc := 48) S0 3 dX12_slack_48 rfl rfl ?_
            refine r_iald (pc := 49) S0 hK dX12_slack_49 c14 hf (fun x18 c19 hf => ?_)
            refine r_iload_n (pc := 50) S0 1 dX12_slack_50 rfl rfl ?_
            refine r_icmp_ne (pc := 51) (tgt := 58) S0 dX12_slack_51 (by decide) c19 ca1 hf (fun hf => ?_) (fun hf => ?_)
            · refine r_iconst (pc := 58) S0 dX12_slack_58 ?_
              refine r_istore_n (pc := 59) (lv' := [(2, iv 0), (0, rv ad w0), (1, iv a1), (3, iv s12.2)]) S0 dX12_slack_59 rfl (by decide) rfl ?_
              refine r_iinc (pc := 60) (lv' := [(3, iv (ia s12.2 1)), (2, iv 0), (0, rv ad w0), (1, iv a1)]) S0 3 dX12_slack_60 rfl (by decide) rfl ?_
              refine r_goto (pc := 63) (tgt := 32) S0 dX12_slack_63 (by decide) ?_
              have hz := ok_some hf
              refine r_lv [2, 3, 1, 0] rfl ?_
              exact ih11 (0, ia s12.2 1) hz (cnz 0 rfl) (cn_wrap _)
            · refine r_iconst (pc := 54) S0 dX12_slack_54 ?_
              refine r_goto (pc := 55) (tgt := 59) S0 dX12_slack_55 (by decide) ?_
              refine r_istore_n (pc := 59) (lv' := [(2, iv 1), (0, rv ad w0), (1, iv a1), (3, iv s12.2)]) S0 dX12_slack_59 rfl (by decide) rfl ?_
              refine r_iinc (pc := 60) (lv' := [(3, iv (ia s12.2 1)), (2, iv 1), (0, rv ad w0), (1, iv a1)]) S0 3 dX12_slack_60 rfl (by decide) rfl ?_
              refine r_goto (pc := 63) (tgt := 32) S0 dX12_slack_63 (by decide) ?_
              have hz := ok_some hf
              refine r_lv [2, 3, 1, 0] rfl ?_
              exact ih11 (1, ia s12.2 1) hz (cnz 1 rfl) (cn_wrap _)
    · refine r_iconst (pc := 26) S0 dX12_slack_26 ?_
      have hz := ok_some hf
      have hz : ((-1), e5.2) = e := hz
      subst hQ
      subst hz
      exact r_iret (pc := 27) S0 hr hlk (cnz (-1) rfl) dX12_slack_27
  · refine r_bipush (pc := 14) S0 dX12_slack_14 (by decide) ?_
    have hz := ok_some hf
    have hz : ((-2), I1) = e := hz
    subst hQ
    subst hz
    exact r_iret (pc := 16) S0 hr hlk (cnz (-2) rfl) dX12_slack_16

set_option maxHeartbeats 4000000 in
set_option maxRecDepth 100000 in
theorem c_X12_laysStart (l : Launch) (cA : Nat → ClassId) (D : va_G) (N : Nat) (sx : Sx) (ad : Nat → Nat) (T : Knd) (A : Rfs) (nx : Nat) (I : Mem) (w0 : Nat)  (e : Mem) (h : f_X12_laysStart T A w0 I = some e) : CtV l yX12_laysStart cX12_laysStart 3 none 20 583 cA D N sx ad T A nx [rv ad w0] I e := by
  refine met_of (lv0 := [(0, rv ad w0)]) (by decide) (Nat.le_of_ble_eq_true rfl) rfl (fun p e0 s m args below meth c S0 hK hX hr hlk Q hQ => ?_)
  have hf : OK (f_X12_laysStart T A w0 I) (fun z => z = e) := ⟨e, h, rfl⟩
  unfold f_X12_laysStart at hf
  obtain ⟨hw0, hf⟩ := ok_grd hf
  refine r_aload_n (pc := 0) S0 0 dX12_laysStart_0 rfl rfl ?_
  refine r_iconst (pc := 1) S0 dX12_laysStart_1 ?_
  refine r_putI (pc := 2) S0 hK fl_X12_391 rfl rfl (cnz (-1) rfl) dX12_laysStart_2 hf (fun I1 hf => ?_)
  refine r_aload_n (pc := 5) S0 0 dX12_laysStart_5 rfl rfl ?_
  refine r_iconst (pc := 6) S0 dX12_laysStart_6 ?_
  refine r_putI (pc := 7) S0 hK fl_X12_394 rfl rfl (cnz 0 rfl) dX12_laysStart_7 hf (fun I2 hf => ?_)
  refine r_iconst (pc := 10) S0 dX12_laysStart_10 ?_
  refine r_istore_n (pc := 11) (lv' := [(1, iv 0), (0, rv ad w0)]) S0 dX12_laysStart_11 rfl (by decide) rfl ?_
  refine r_lv [1, 0] rfl ?_
  refine it_ind (P := fun s4 => cn s4.1 → G p l e0 (rmx 20 583) s m args below meth c 0 0 Q cA D N 3 ad T A nx 12 [(0, rv ad w0), (1, iv s4.1)] [] s4.2) (fun n0 s4 ih3 hf c5 => ?_) FU (0, I2) hf (cnz 0 rfl)
  refine r_iload_n (pc := 12) S0 1 dX12_laysStart_12 rfl rfl ?_
  refine r_bipush (pc := 13) S0 dX12_laysStart_13 (by decide) ?_
  refine r_icmp_ge (pc := 15) (tgt := 73) S0 dX12_laysStart_15 (by decide) c5 (cnz 50 rfl) hf (fun hf => ?_) (fun hf => ?_)
  · have hz := ok_some hf
    have hz : s4.2 = e := hz
    subst hQ
    subst hz
    exact r_vret (pc := 73) S0 hr hlk dX12_laysStart_73
  · refine r_aload_n (pc := 18) S0 0 dX12_laysStart_18 rfl rfl ?_
    refine r_iload_n (pc := 19) S0 1 dX12_laysStart_19 rfl rfl ?_
    obtain ⟨e6, h7, hf⟩ := ok_bind hf
    refine r_cV_V (pc := 20) [iv s4.1] S0 hK hX mv_X12_325 (k_X12_starts h7) (c_X12_starts l cA D N sx ad T A nx s4.2 w0 s4.1 c5 e6 h7) rfl rfl ⟨by decide, by decide⟩ (Nat.le_of_ble_eq_true rfl) ⟨Nat.le_refl _, Nat.le_refl _⟩ dX12_laysStart_20 ?_
    refine r_aload_n (pc := 23) S0 0 dX12_laysStart_23 rfl rfl ?_
    refine r_iconst (pc := 24) S0 dX12_laysStart_24 ?_
    obtain ⟨e8, h9, hf⟩ := ok_bind hf
    refine r_cV_I (pc := 25) [iv 0] S0 hK hX mv_X12_382 (k_X12_finds h9) (c_X12_finds l cA D N sx ad T A nx e6 w0 0 (cnz 0 rfl) e8 h9) rfl rfl ⟨by decide, by decide⟩ (Nat.le_of_ble_eq_true rfl) ⟨Nat.le_refl _, Nat.le_refl _⟩ dX12_laysStart_25 (fun c10 => ?_)
    refine r_istore_n (pc := 28) (lv' := [(2, iv e8.1), (0, rv ad w0), (1, iv s4.1)]) S0 dX12_laysStart_28 rfl (by decide) rfl ?_
    refine r_iload_n (pc := 29) S0 0 dX12_laysStart_29 rfl rfl ?_
    refine r_iconst (pc := 30) S0 dX12_laysStart_30 ?_
    refine r_icmp_eq (pc := 31) (tgt := 67) S0 dX12_laysStart_31 (by decide) c10 (cnz (-1) rfl) hf (fun hf => ?_) (fun hf => ?_)
    · refine r_iinc (pc := 67) (lv' := [(1, iv (ia s4.1 1)), (2, iv e8.1), (0, rv ad w0)]) S0 2 dX12_laysStart_67 rfl (by decide) rfl ?_
      refine r_goto (pc := 70) (tgt := 12) S0 dX12_laysStart_70 (by decide) ?_
      have hz := ok_some hf
      refine r_lv [2, 0] rfl ?_
      exact ih3 (ia s4.1 1, e8.2) hz (cn_wrap _)
    · refine r_aload_n (pc := 34) S0 1 dX12_laysStart_34 rfl rfl ?_
      refine r_getI (pc := 35) S0 hK fl_X12_391 dX12_laysStart_35 hf (fun x11 c12 hf => ?_)
      refine r_iconst (pc := 38) S0 dX12_laysStart_38 ?_
      refine thn_rule (P := fun v14 => G p l e0 (rmx 20 583) s m args below meth c 0 0 Q cA D N 3 ad T A nx 55 [(0, rv ad w0), (1, iv s4.1), (2, iv e8.1)] [] e8.2) hf (fun v14 hf => ?_) (fun K13 hf => ?_)
      · refine r_aload_n (pc := 55) S0 0 dX12_laysStart_55 rfl rfl ?_
        refine r_iload_n (pc := 56) S0 1 dX12_laysStart_56 rfl rfl ?_
        refine r_putI (pc := 57) S0 hK fl_X12_391 rfl rfl c5 dX12_laysStart_57 hf (fun I17 hf => ?_)
        refine r_aload_n (pc := 60) S0 0 dX12_laysStart_60 rfl rfl ?_
        refine r_iload_n (pc := 61) S0 2 dX12_laysStart_61 rfl rfl ?_
        refine r_iload_n (pc := 62) S0 1 dX12_laysStart_62 rfl rfl ?_
        refine r_isub (pc := 63) S0 dX12_laysStart_63 ?_
        refine r_putI (pc := 64) S0 hK fl_X12_394 rfl rfl (cn_wrap _) dX12_laysStart_64 hf (fun I18 hf => ?_)
        refine r_iinc (pc := 67) (lv' := [(1, iv (ia s4.1 1)), (0, rv ad w0), (2, iv e8.1)]) S0 1 dX12_laysStart_67 rfl (by decide) rfl ?_
        refine r_goto (pc := 70) (tgt := 12) S0 dX12_laysStart_70 (by decide) ?_
        have hz := ok_some hf
        refine r_lv [1, 0] rfl ?_
        exact ih3 (ia s4.1 1, I18) hz (cn_wrap _)
      · refine r_icmp_eq (pc := 39) (tgt := 55) S0 dX12_laysStart_39 (by decide) c12 (cnz (-1) rfl) hf (fun hf => ?_) (fun hf => ?_)
        · have hz := ok_some hf
          refine r_lv [1, 2, 0] rfl ?_
          exact K13 () hz
        · refine r_iload_n (pc := 42) S0 0 dX12_laysStart_42 rfl rfl ?_
          refine r_iload_n (pc := 43) S0 2 dX12_laysStart_43 rfl rfl ?_
          refine r_isub (pc := 44) S0 dX12_laysStart_44 ?_
          refine r_aload_n (pc := 45) S0 1 dX12_laysStart_45 rfl rfl ?_
          refine r_getI (pc := 46) S0 hK fl_X12_394 dX12_laysStart_46 hf (fun x15 c16 hf => ?_)
          refine r_icmp_lt (pc := 49) (tgt := 55) S0 dX12_laysStart_49 (by decide) (cn_wrap _) c16 hf (fun hf => ?_) (fun hf => ?_)
          · have hz := ok_some hf
            refine r_lv [1, 2, 0] rfl ?_
            exact K13 () hz
          · refine r_goto (pc := 52) (tgt := 67) S0 dX12_laysStart_52 (by decide) ?_
            refine r_iinc (pc := 67) (lv' := [(1, iv (ia s4.1 1)), (2, iv e8.1), (0, rv ad w0)]) S0 2 dX12_laysStart_67 rfl (by decide) rfl ?_
            refine r_goto (pc := 70) (tgt := 12) S0 dX12_laysStart_70 (by decide) ?_
            have hz := ok_some hf
            refine r_lv [2, 0] rfl ?_
            exact ih3 (ia s4.1 1, e8.2) hz (cn_wrap _)

set_option maxHeartbeats 4000000 in
set_option maxRecDepth 100000 in
theorem c_X12_start (l : Launch) (cA : Nat → ClassId) (D : va_G) (N : Nat) (sx : Sx) (ad : Nat → Nat) (T : Knd) (A : Rfs) (nx : Nat) (I : Mem) (w0 : Nat) (a1 : Int) (ca1 : cn a1) (e : (Int × Mem)) (h : f_X12_start T A w0 a1 I = some e) : CtI l yX12_start cX12_start 2 (some .int) 21 605 cA D N sx ad T A nx [rv ad w0, iv a1] I e.2 e.1 := by
  refine met_of (lv0 := [(0, rv ad w0), (1, iv a1)]) (by decide) (Nat.le_of_ble_eq_true rfl) rfl (fun p e0 s m args below meth c S0 hK hX hr hlk Q hQ => ?_)
  have hf : OK (f_X12_start T A w0 a1 I) (fun z => z = e) := ⟨e, h, rfl⟩
  unfold f_X12_start at hf
  obtain ⟨hw0, hf⟩ := ok_grd hf
  refine r_aload_n (pc := 0) S0 0 dX12_start_0 rfl rfl ?_
  refine r_iconst (pc := 1) S0 dX12_start_1 ?_
  refine r_putI (pc := 2) S0 hK fl_X12_89 rfl rfl (cnz 0 rfl) dX12_start_2 hf (fun I1 hf => ?_)
  refine r_aload_n (pc := 5) S0 0 dX12_start_5 rfl rfl ?_
  obtain ⟨e2, h3, hf⟩ := ok_bind hf
  refine r_cV_I (pc := 6) [] S0 hK hX mv_X12_267 (k_X12_isOffice h3) (c_X12_isOffice l cA D N sx ad T A nx I1 w0 e2 h3) rfl rfl ⟨by decide, by decide⟩ (Nat.le_of_ble_eq_true rfl) ⟨Nat.le_refl _, Nat.le_refl _⟩ dX12_start_6 (fun c4 => ?_)
  refine r_if_eq (pc := 9) (tgt := 22) S0 dX12_start_9 (by decide) c4 hf (fun hf => ?_) (fun hf => ?_)
  · refine r_bipush (pc := 22) S0 dX12_start_22 (by decide) ?_
    have hz := ok_some hf
    have hz : ((-2), I1) = e := hz
    subst hQ
    subst hz
    exact r_iret (pc := 24) S0 hr hlk (cnz (-2) rfl) dX12_start_24
  · refine r_iload_n (pc := 12) S0 1 dX12_start_12 rfl rfl ?_
    refine r_i2l (pc := 13) S0 dX12_start_13 ca1 ?_
    refine r_lconst (pc := 14) (v := 0) S0 dX12_start_14 rfl ?_
    refine r_lconst (pc := 15) (v := 1) S0 dX12_start_15 rfl ?_
    obtain ⟨e5, h6, hf⟩ := ok_bind hf
    refine r_cS_I (pc := 16) [jv a1, jv 0, jv 1] S0 hK hX ms_X12_94 (c_X12_in l cA D N sx ad T A nx I1 a1 0 1 (cl_cn ca1) (clz 0 rfl) (clz 1 rfl) e5 h6) rfl rfl ⟨by decide, by decide⟩ (Nat.le_of_ble_eq_true rfl) ⟨Nat.le_refl _, Nat.le_refl _⟩ dX12_start_16 (fun c7 => ?_)
    refine r_if_ne (pc := 19) (tgt := 25) S0 dX12_start_19 (by decide) c7 hf (fun hf => ?_) (fun hf => ?_)
    · refine r_aload_n (pc := 25) S0 0 dX12_start_25 rfl rfl ?_
      obtain ⟨e8, h9, hf⟩ := ok_bind hf
      refine r_cV_V (pc := 26) [] S0 hK hX mv_X12_397 (k_X12_laysStart h9) (c_X12_laysStart l cA D N sx ad T A nx I1 w0 e8 h9) rfl rfl ⟨by decide, by decide⟩ (Nat.le_of_ble_eq_true rfl) ⟨Nat.le_refl _, Nat.le_refl _⟩ dX12_start_26 ?_
      refine r_aload_n (pc := 29) S0 0 dX12_start_29 rfl rfl ?_
      refine r_getI (pc := 30) S0 hK fl_X12_391 dX12_start_30 hf (fun x10 c11 hf => ?_)
      refine r_iconst (pc := 33) S0 dX12_start_33 ?_
      refine r_icmp_ne (pc := 34) (tgt := 41) S0 dX12_start_34 (by decide) c11 (cnz (-1) rfl) hf (fun hf => ?_) (fun hf => ?_)
      · refine r_iload_n (pc := 41) S0 1 dX12_start_41 rfl rfl ?_
        refine r_if_ne (pc := 42) (tgt := 52) S0 dX12_start_42 (by decide) ca1 hf (fun hf => ?_) (fun hf => ?_)
        · refine r_aload_n (pc := 52) S0 0 dX12_start_52 rfl rfl ?_
          refine r_getI (pc := 53) S0 hK fl_X12_394 dX12_start_53 hf (fun x12 c13 hf => ?_)
          have hz := ok_some hf
          have hz : (x12, e8) = e := hz
          subst hQ
          subst hz
          exact r_iret (pc := 56) S0 hr hlk c13 dX12_start_56
        · refine r_aload_n (pc := 45) S0 0 dX12_start_45 rfl rfl ?_
          refine r_getI (pc := 46) S0 hK fl_X12_391 dX12_start_46 hf (fun x14 c15 hf => ?_)
          refine r_goto (pc := 49) (tgt := 56) S0 dX12_start_49 (by decide) ?_
          have hz := ok_some hf
          have hz : (x14, e8) = e := hz
          subst hQ
          subst hz
          exact r_iret (pc := 56) S0 hr hlk c15 dX12_start_56
      · refine r_iconst (pc := 37) S0 dX12_start_37 ?_
        refine r_goto (pc := 38) (tgt := 56) S0 dX12_start_38 (by decide) ?_
        have hz := ok_some hf
        have hz : ((-1), e8) = e := hz
        subst hQ
        subst hz
        exact r_iret (pc := 56) S0 hr hlk (cnz (-1) rfl) dX12_start_56
    · refine r_bipush (pc := 22) S0 dX12_start_22 (by decide) ?_
      have hz := ok_some hf
      have hz : ((-2), I1) = e := hz
      subst hQ
      subst hz
      exact r_iret (pc := 24) S0 hr hlk (cnz (-2) rfl) dX12_start_24

set_option maxHeartbeats 4000000 in
set_option maxRecDepth 100000 in
theorem c_X12_forgedOf (l : Launch) (cA : Nat → ClassId) (D : va_G) (N : Nat) (sx : Sx) (ad : Nat → Nat) (T : Knd) (A : Rfs) (nx : Nat) (I : Mem) (w0 : Nat) (a1 : Int) (ca1 : cn a1) (e : (Int × Mem)) (h : f_X12_forgedOf T A w0 a1 I = some e) : CtI l yX12_forgedOf cX12_forgedOf 4 (some .int) 21 604 cA D N sx ad T A nx [rv ad w0, iv a1] I e.2 e.1 := by
  refine met_of (lv0 := [(0, rv ad w0), (1, iv a1)]) (by decide) (Nat.le_of_ble_eq_true rfl) rfl (fun p e0 s m args below meth c S0 hK hX hr hlk Q hQ => ?_)
  have hf : OK (f_X12_forgedOf T A w0 a1 I) (fun z => z = e) := ⟨e, h, rfl⟩
  unfold f_X12_forgedOf at hf
  obtain ⟨hw0, hf⟩ := ok_grd hf
  refine r_aload_n (pc := 0) S0 0 dX12_forgedOf_0 rfl rfl ?_
  refine r_iconst (pc := 1) S0 dX12_forgedOf_1 ?_
  obtain ⟨e1, h2, hf⟩ := ok_bind hf
  refine r_cV_I (pc := 2) [iv 0] S0 hK hX mv_X12_385 (k_X12_findsNow h2) (c_X12_findsNow l cA D N sx ad T A nx I w0 0 (cnz 0 rfl) e1 h2) rfl rfl ⟨by decide, by decide⟩ (Nat.le_of_ble_eq_true rfl) ⟨Nat.le_refl _, Nat.le_refl _⟩ dX12_forgedOf_2 (fun c3 => ?_)
  refine r_istore_n (pc := 5) (lv' := [(2, iv e1.1), (0, rv ad w0), (1, iv a1)]) S0 dX12_forgedOf_5 rfl (by decide) rfl ?_
  refine r_aload_n (pc := 6) S0 1 dX12_forgedOf_6 rfl rfl ?_
  obtain ⟨e4, h5, hf⟩ := ok_bind hf
  refine r_cV_V (pc := 7) [] S0 hK hX mv_X12_334 (k_X12_lays h5) (c_X12_lays l cA D N sx ad T A nx e1.2 w0 e4 h5) rfl rfl ⟨by decide, by decide⟩ (Nat.le_of_ble_eq_true rfl) ⟨Nat.le_refl _, Nat.le_refl _⟩ dX12_forgedOf_7 ?_
  refine r_aload_n (pc := 10) S0 1 dX12_forgedOf_10 rfl rfl ?_
  refine r_getR (pc := 11) S0 hK fl_X12_59 dX12_forgedOf_11 hf (fun x6 hf => ?_)
  refine r_iload_n (pc := 14) S0 2 dX12_forgedOf_14 rfl rfl ?_
  refine r_sipush (pc := 15) S0 dX12_forgedOf_15 (by decide) ?_
  refine r_iast (pc := 18) S0 hK dX12_forgedOf_18 ca1 (cnz 9999 rfl) hf (fun I7 hf => ?_)
  refine r_aload_n (pc := 19) S0 1 dX12_forgedOf_19 rfl rfl ?_
  refine r_iconst (pc := 20) S0 dX12_forgedOf_20 ?_
  obtain ⟨e8, h9, hf⟩ := ok_bind hf
  refine r_cV_I (pc := 21) [iv 0] S0 hK hX mv_X12_382 (k_X12_finds h9) (c_X12_finds l cA D N sx ad T A nx I7 w0 0 (cnz 0 rfl) e8 h9) rfl rfl ⟨by decide, by decide⟩ (Nat.le_of_ble_eq_true rfl) ⟨Nat.le_refl _, Nat.le_refl _⟩ dX12_forgedOf_21 (fun c10 => ?_)
  refine r_istore_n (pc := 24) (lv' := [(3, iv e8.1), (2, iv e1.1), (0, rv ad w0), (1, iv a1)]) S0 dX12_forgedOf_24 rfl (by decide) rfl ?_
  refine r_iload_n (pc := 25) S0 1 dX12_forgedOf_25 rfl rfl ?_
  refine r_iconst (pc := 26) S0 dX12_forgedOf_26 ?_
  refine r_icmp_eq (pc := 27) (tgt := 35) S0 dX12_forgedOf_27 (by decide) c3 (cnz (-1) rfl) hf (fun hf => ?_) (fun hf => ?_)
  · refine r_sipush (pc := 35) S0 dX12_forgedOf_35 (by decide) ?_
    refine r_goto (pc := 38) (tgt := 44) S0 dX12_forgedOf_38 (by decide) ?_
    have hz := ok_some hf
    have hz : ((-1000), e8.2) = e := hz
    subst hQ
    subst hz
    exact r_iret (pc := 44) S0 hr hlk (cnz (-1000) rfl) dX12_forgedOf_44
  · refine r_iload_n (pc := 30) S0 0 dX12_forgedOf_30 rfl rfl ?_
    refine r_iconst (pc := 31) S0 dX12_forgedOf_31 ?_
    refine r_icmp_ne (pc := 32) (tgt := 41) S0 dX12_forgedOf_32 (by decide) c10 (cnz (-1) rfl) hf (fun hf => ?_) (fun hf => ?_)
    · refine r_iload_n (pc := 41) S0 1 dX12_forgedOf_41 rfl rfl ?_
      refine r_iload_n (pc := 42) S0 0 dX12_forgedOf_42 rfl rfl ?_
      refine r_isub (pc := 43) S0 dX12_forgedOf_43 ?_
      have hz := ok_some hf
      have hz : (isb e1.1 e8.1, e8.2) = e := hz
      subst hQ
      subst hz
      exact r_iret (pc := 44) S0 hr hlk (cn_wrap _) dX12_forgedOf_44
    · refine r_sipush (pc := 35) S0 dX12_forgedOf_35 (by decide) ?_
      refine r_goto (pc := 38) (tgt := 44) S0 dX12_forgedOf_38 (by decide) ?_
      have hz := ok_some hf
      have hz : ((-1000), e8.2) = e := hz
      subst hQ
      subst hz
      exact r_iret (pc := 44) S0 hr hlk (cnz (-1000) rfl) dX12_forgedOf_44

set_option maxHeartbeats 4000000 in
set_option maxRecDepth 100000 in
theorem c_X12_forged (l : Launch) (cA : Nat → ClassId) (D : va_G) (N : Nat) (sx : Sx) (ad : Nat → Nat) (T : Knd) (A : Rfs) (nx : Nat) (I : Mem) (w0 : Nat) (a1 : Int) (ca1 : cn a1) (e : (Int × Mem)) (h : f_X12_forged T A w0 a1 I = some e) : CtI l yX12_forged cX12_forged 2 (some .int) 22 627 cA D N sx ad T A nx [rv ad w0, iv a1] I e.2 e.1 := by
  refine met_of (lv0 := [(0, rv ad w0), (1, iv a1)]) (by decide) (Nat.le_of_ble_eq_true rfl) rfl (fun p e0 s m args below meth c S0 hK hX hr hlk Q hQ => ?_)
  have hf : OK (f_X12_forged T A w0 a1 I) (fun z => z = e) := ⟨e, h, rfl⟩
  unfold f_X12_forged at hf
  obtain ⟨hw0, hf⟩ := ok_grd hf
  refine r_aload_n (pc := 0) S0 0 dX12_forged_0 rfl rfl ?_
  refine r_iconst (pc := 1) S0 dX12_forged_1 ?_
  refine r_putI (pc := 2) S0 hK fl_X12_89 rfl rfl (cnz 0 rfl) dX12_forged_2 hf (fun I1 hf => ?_)
  refine r_aload_n (pc := 5) S0 0 dX12_forged_5 rfl rfl ?_
  refine r_iload_n (pc := 6) S0 1 dX12_forged_6 rfl rfl ?_
  refine r_i2l (pc := 7) S0 dX12_forged_7 ca1 ?_
  obtain ⟨e2, h3, hf⟩ := ok_bind hf
  refine r_cV_I (pc := 8) [jv a1] S0 hK hX mv_X12_270 (k_X12_isOfficial h3) (c_X12_isOfficial l cA D N sx ad T A nx I1 w0 a1 (cl_cn ca1) e2 h3) rfl rfl ⟨by decide, by decide⟩ (Nat.le_of_ble_eq_true rfl) ⟨Nat.le_refl _, Nat.le_refl _⟩ dX12_forged_8 (fun c4 => ?_)
  refine r_if_eq (pc := 11) (tgt := 22) S0 dX12_forged_11 (by decide) c4 hf (fun hf => ?_) (fun hf => ?_)
  · refine r_sipush (pc := 22) S0 dX12_forged_22 (by decide) ?_
    have hz := ok_some hf
    have hz : ((-2000), I1) = e := hz
    subst hQ
    subst hz
    exact r_iret (pc := 25) S0 hr hlk (cnz (-2000) rfl) dX12_forged_25
  · refine r_aload_n (pc := 14) S0 0 dX12_forged_14 rfl rfl ?_
    refine r_iload_n (pc := 15) S0 1 dX12_forged_15 rfl rfl ?_
    obtain ⟨e5, h6, hf⟩ := ok_bind hf
    refine r_cV_I (pc := 16) [iv a1] S0 hK hX mv_X12_400 (k_X12_forgedOf h6) (c_X12_forgedOf l cA D N sx ad T A nx I1 w0 a1 ca1 e5 h6) rfl rfl ⟨by decide, by decide⟩ (Nat.le_of_ble_eq_true rfl) ⟨Nat.le_refl _, Nat.le_refl _⟩ dX12_forged_16 (fun c7 => ?_)
    refine r_goto (pc := 19) (tgt := 25) S0 dX12_forged_19 (by decide) ?_
    have hz := ok_some hf
    have hz : (e5.1, e5.2) = e := hz
    subst hQ
    subst hz
    exact r_iret (pc := 25) S0 hr hlk c7 dX12_forged_25

set_option maxHeartbeats 4000000 in
set_option maxRecDepth 100000 in
theorem c_X12_fake (l : Launch) (cA : Nat → ClassId) (D : va_G) (N : Nat) (sx : Sx) (ad : Nat → Nat) (T : Knd) (A : Rfs) (nx : Nat) (I : Mem) (w0 : Nat)  (e : (Int × Mem)) (h : f_X12_fake T A w0 I = some e) : CtI l yX12_fake cX12_fake 5 (some .int) 22 627 cA D N sx ad T A nx [rv ad w0] I e.2 e.1 := by
  refine met_of (lv0 := [(0, rv ad w0)]) (by decide) (Nat.le_of_ble_eq_true rfl) rfl (fun p e0 s m args below meth c S0 hK hX hr hlk Q hQ => ?_)
  have hf : OK (f_X12_fake T A w0 I) (fun z => z = e) := ⟨e, h, rfl⟩
  unfold f_X12_fake at hf
  obtain ⟨hw0, hf⟩ := ok_grd hf
  refine r_aload_n (pc := 0) S0 0 dX12_fake_0 rfl rfl ?_
  refine r_iconst (pc := 1) S0 dX12_fake_1 ?_
  refine r_putI (pc := 2) S0 hK fl_X12_89 rfl rfl (cnz 0 rfl) dX12_fake_2 hf (fun I1 hf => ?_)
  refine r_aload_n (pc := 5) S0 0 dX12_fake_5 rfl rfl ?_
  obtain ⟨e2, h3, hf⟩ := ok_bind hf
  refine r_cV_I (pc := 6) [] S0 hK hX mv_X12_267 (k_X12_isOffice h3) (c_X12_isOffice l cA D N sx ad T A nx I1 w0 e2 h3) rfl rfl ⟨by decide, by decide⟩ (Nat.le_of_ble_eq_true rfl) ⟨Nat.le_refl _, Nat.le_refl _⟩ dX12_fake_6 (fun c4 => ?_)
  refine r_if_ne (pc := 9) (tgt := 15) S0 dX12_fake_9 (by decide) c4 hf (fun hf => ?_) (fun hf => ?_)
  · refine r_iconst (pc := 15) S0 dX12_fake_15 ?_
    refine r_istore_n (pc := 16) (lv' := [(1, iv (-1)), (0, rv ad w0)]) S0 dX12_fake_16 rfl (by decide) rfl ?_
    refine r_iconst (pc := 17) S0 dX12_fake_17 ?_
    refine r_istore_n (pc := 18) (lv' := [(2, iv 0), (1, iv (-1)), (0, rv ad w0)]) S0 dX12_fake_18 rfl (by decide) rfl ?_
    refine r_iconst (pc := 19) S0 dX12_fake_19 ?_
    refine r_istore_n (pc := 20) (lv' := [(3, iv 0), (2, iv 0), (1, iv (-1)), (0, rv ad w0)]) S0 dX12_fake_20 rfl (by decide) rfl ?_
    refine r_lv [3, 2, 1, 0] rfl ?_
    refine it_ind (P := fun s6 => cn s6.1 → cn s6.2.1 → cn s6.2.2.1 → G p l e0 (rmx 22 627) s m args below meth c 0 0 Q cA D N 5 ad T A nx 21 [(0, rv ad w0), (1, iv s6.1), (2, iv s6.2.1), (3, iv s6.2.2.1)] [] s6.2.2.2) (fun n0 s6 ih5 hf c7 c8 c9 => ?_) FU ((-1), 0, 0, I1) hf (cnz (-1) rfl) (cnz 0 rfl) (cnz 0 rfl)
    refine r_iload_n (pc := 21) S0 3 dX12_fake_21 rfl rfl ?_
    refine r_aload_n (pc := 22) S0 0 dX12_fake_22 rfl rfl ?_
    refine r_getR (pc := 23) S0 hK fl_X12_34 dX12_fake_23 hf (fun x10 hf => ?_)
    refine r_iconst (pc := 26) S0 dX12_fake_26 ?_
    refine r_iald (pc := 27) S0 hK dX12_fake_27 (cnz 3 rfl) hf (fun x11 c12 hf => ?_)
    refine r_icmp_ge (pc := 28) (tgt := 58) S0 dX12_fake_28 (by decide) c9 c12 hf (fun hf => ?_) (fun hf => ?_)
    · refine r_iload_n (pc := 58) S0 1 dX12_fake_58 rfl rfl ?_
      have hz := ok_some hf
      have hz : (s6.1, s6.2.2.2) = e := hz
      subst hQ
      subst hz
      exact r_iret (pc := 59) S0 hr hlk c7 dX12_fake_59
    · refine r_aload_n (pc := 31) S0 0 dX12_fake_31 rfl rfl ?_
      refine r_iload_n (pc := 32) S0 3 dX12_fake_32 rfl rfl ?_
      obtain ⟨e13, h14, hf⟩ := ok_bind hf
      refine r_cV_I (pc := 33) [iv s6.2.2.1] S0 hK hX mv_X12_400 (k_X12_forgedOf h14) (c_X12_forgedOf l cA D N sx ad T A nx s6.2.2.2 w0 s6.2.2.1 c9 e13 h14) rfl rfl ⟨by decide, by decide⟩ (Nat.le_of_ble_eq_true rfl) ⟨Nat.le_refl _, Nat.le_refl _⟩ dX12_fake_33 (fun c15 => ?_)
      refine r_istore (pc := 36) (lv' := [(4, iv e13.1), (0, rv ad w0), (1, iv s6.1), (2, iv s6.2.1), (3, iv s6.2.2.1)]) S0 dX12_fake_36 (by decide) rfl ?_
      refine r_iload (pc := 38) S0 0 dX12_fake_38 rfl ?_
      refine r_iload_n (pc := 40) S0 3 dX12_fake_40 rfl rfl ?_
      refine r_icmp_gt (pc := 41) (tgt := 47) S0 dX12_fake_41 (by decide) c15 c8 hf (fun hf => ?_) (fun hf => ?_)
      · refine r_iload_n (pc := 47) S0 4 dX12_fake_47 rfl rfl ?_
        refine r_istore_n (pc := 48) (lv' := [(1, iv s6.2.2.1), (4, iv e13.1), (0, rv ad w0), (2, iv s6.2.1), (3, iv s6.2.2.1)]) S0 dX12_fake_48 rfl (by decide) rfl ?_
        refine r_iload (pc := 49) S0 1 dX12_fake_49 rfl ?_
        refine r_istore_n (pc := 51) (lv' := [(2, iv e13.1), (1, iv s6.2.2.1), (4, iv e13.1), (0, rv ad w0), (3, iv s6.2.2.1)]) S0 dX12_fake_51 rfl (by decide) rfl ?_
        refine r_iinc (pc := 52) (lv' := [(3, iv (ia s6.2.2.1 1)), (2, iv e13.1), (1, iv s6.2.2.1), (4, iv e13.1), (0, rv ad w0)]) S0 4 dX12_fake_52 rfl (by decide) rfl ?_
        refine r_goto (pc := 55) (tgt := 21) S0 dX12_fake_55 (by decide) ?_
        have hz := ok_some hf
        refine r_lv [4, 2, 1, 0] rfl ?_
        exact ih5 (s6.2.2.1, e13.1, ia s6.2.2.1 1, e13.2) hz c9 c15 (cn_wrap _)
      · refine r_goto (pc := 44) (tgt := 52) S0 dX12_fake_44 (by decide) ?_
        refine r_iinc (pc := 52) (lv' := [(3, iv (ia s6.2.2.1 1)), (4, iv e13.1), (0, rv ad w0), (1, iv s6.1), (2, iv s6.2.1)]) S0 4 dX12_fake_52 rfl (by decide) rfl ?_
        refine r_goto (pc := 55) (tgt := 21) S0 dX12_fake_55 (by decide) ?_
        have hz := ok_some hf
        refine r_lv [2, 3, 4, 0] rfl ?_
        exact ih5 (s6.1, s6.2.1, ia s6.2.2.1 1, e13.2) hz c7 c8 (cn_wrap _)
  · refine r_bipush (pc := 12) S0 dX12_fake_12 (by decide) ?_
    have hz := ok_some hf
    have hz : ((-2), I1) = e := hz
    subst hQ
    subst hz
    exact r_iret (pc := 14) S0 hr hlk (cnz (-2) rfl) dX12_fake_14

set_option maxHeartbeats 4000000 in
set_option maxRecDepth 100000 in
theorem c_X12_mayStamp (l : Launch) (cA : Nat → ClassId) (D : va_G) (N : Nat) (sx : Sx) (ad : Nat → Nat) (T : Knd) (A : Rfs) (nx : Nat) (I : Mem) (w0 : Nat) (a1 : Int) (a2 : Int) (ca1 : cn a1) (ca2 : cn a2) (e : Int) (h : f_X12_mayStamp T A w0 a1 a2 I = some e) : CtI l yX12_mayStamp cX12_mayStamp 3 (some .boolean) 1 60 cA D N sx ad T A nx [rv ad w0, iv a1, iv a2] I I e := by
  refine met_of (lv0 := [(0, rv ad w0), (1, iv a1), (2, iv a2)]) (by decide) (Nat.le_of_ble_eq_true rfl) rfl (fun p e0 s m args below meth c S0 hK hX hr hlk Q hQ => ?_)
  have hf : OK (f_X12_mayStamp T A w0 a1 a2 I) (fun z => z = e) := ⟨e, h, rfl⟩
  unfold f_X12_mayStamp at hf
  obtain ⟨hw0, hf⟩ := ok_grd hf
  refine r_aload_n (pc := 0) S0 0 dX12_mayStamp_0 rfl rfl ?_
  refine r_getR (pc := 1) S0 hK fl_X12_40 dX12_mayStamp_1 hf (fun x1 hf => ?_)
  refine r_iload_n (pc := 4) S0 1 dX12_mayStamp_4 rfl rfl ?_
  refine r_iald (pc := 5) S0 hK dX12_mayStamp_5 ca1 hf (fun x2 c3 hf => ?_)
  refine r_iload_n (pc := 6) S0 2 dX12_mayStamp_6 rfl rfl ?_
  refine r_iconst (pc := 7) S0 dX12_mayStamp_7 ?_
  refine r_ixor (pc := 8) S0 dX12_mayStamp_8 ?_
  refine r_iand (pc := 9) S0 dX12_mayStamp_9 ?_
  refine r_if_ne (pc := 10) (tgt := 28) S0 dX12_mayStamp_10 (by decide) (cn_toInt _) hf (fun hf => ?_) (fun hf => ?_)
  · refine r_iconst (pc := 28) S0 dX12_mayStamp_28 ?_
    have hz := ok_some hf
    have hz : 0 = e := hz
    subst hQ
    subst hz
    exact r_zret (pc := 29) S0 hr hlk (Or.inl rfl) dX12_mayStamp_29
  · refine r_aload_n (pc := 13) S0 0 dX12_mayStamp_13 rfl rfl ?_
    refine r_getR (pc := 14) S0 hK fl_X12_43 dX12_mayStamp_14 hf (fun x4 hf => ?_)
    refine r_iload_n (pc := 17) S0 1 dX12_mayStamp_17 rfl rfl ?_
    refine r_iald (pc := 18) S0 hK dX12_mayStamp_18 ca1 hf (fun x5 c6 hf => ?_)
    refine r_iload_n (pc := 19) S0 2 dX12_mayStamp_19 rfl rfl ?_
    refine r_iand (pc := 20) S0 dX12_mayStamp_20 ?_
    refine r_if_ne (pc := 21) (tgt := 28) S0 dX12_mayStamp_21 (by decide) (cn_toInt _) hf (fun hf => ?_) (fun hf => ?_)
    · refine r_iconst (pc := 28) S0 dX12_mayStamp_28 ?_
      have hz := ok_some hf
      have hz : 0 = e := hz
      subst hQ
      subst hz
      exact r_zret (pc := 29) S0 hr hlk (Or.inl rfl) dX12_mayStamp_29
    · refine r_iconst (pc := 24) S0 dX12_mayStamp_24 ?_
      refine r_goto (pc := 25) (tgt := 29) S0 dX12_mayStamp_25 (by decide) ?_
      have hz := ok_some hf
      have hz : 1 = e := hz
      subst hQ
      subst hz
      exact r_zret (pc := 29) S0 hr hlk (Or.inr rfl) dX12_mayStamp_29

set_option maxHeartbeats 4000000 in
set_option maxRecDepth 100000 in
theorem c_X12_sets0 (l : Launch) (cA : Nat → ClassId) (D : va_G) (N : Nat) (sx : Sx) (ad : Nat → Nat) (T : Knd) (A : Rfs) (nx : Nat) (I : Mem) (w0 : Nat)  (e : Int) (h : f_X12_sets0 T A w0 I = some e) : CtI l yX12_sets0 cX12_sets0 1 (some .int) 1 60 cA D N sx ad T A nx [rv ad w0] I I e := by
  refine met_of (lv0 := [(0, rv ad w0)]) (by decide) (Nat.le_of_ble_eq_true rfl) rfl (fun p e0 s m args below meth c S0 hK hX hr hlk Q hQ => ?_)
  have hf : OK (f_X12_sets0 T A w0 I) (fun z => z = e) := ⟨e, h, rfl⟩
  unfold f_X12_sets0 at hf
  obtain ⟨hw0, hf⟩ := ok_grd hf
  refine r_iconst (pc := 0) S0 dX12_sets0_0 ?_
  refine r_aload_n (pc := 1) S0 0 dX12_sets0_1 rfl rfl ?_
  refine r_getR (pc := 2) S0 hK fl_X12_34 dX12_sets0_2 hf (fun x1 hf => ?_)
  refine r_iconst (pc := 5) S0 dX12_sets0_5 ?_
  refine r_iald (pc := 6) S0 hK dX12_sets0_6 (cnz 3 rfl) hf (fun x2 c3 hf => ?_)
  refine r_ishl (pc := 7) S0 dX12_sets0_7 ?_
  have hz := ok_some hf
  have hz : (ishl 1 x2) = e := hz
  subst hQ
  subst hz
  exact r_iret (pc := 8) S0 hr hlk (cn_toInt _) dX12_sets0_8

set_option maxHeartbeats 4000000 in
set_option maxRecDepth 100000 in
theorem c_X12_laysSets (l : Launch) (cA : Nat → ClassId) (D : va_G) (N : Nat) (sx : Sx) (ad : Nat → Nat) (T : Knd) (A : Rfs) (nx : Nat) (I : Mem) (w0 : Nat)  (e : Mem) (h : f_X12_laysSets T A w0 I = some e) : CtV l yX12_laysSets cX12_laysSets 3 none 2 82 cA D N sx ad T A nx [rv ad w0] I e := by
  refine met_of (lv0 := [(0, rv ad w0)]) (by decide) (Nat.le_of_ble_eq_true rfl) rfl (fun p e0 s m args below meth c S0 hK hX hr hlk Q hQ => ?_)
  have hf : OK (f_X12_laysSets T A w0 I) (fun z => z = e) := ⟨e, h, rfl⟩
  unfold f_X12_laysSets at hf
  obtain ⟨hw0, hf⟩ := ok_grd hf
  refine r_iconst (pc := 0) S0 dX12_laysSets_0 ?_
  refine r_istore_n (pc := 1) (lv' := [(1, iv 0), (0, rv ad w0)]) S0 dX12_laysSets_1 rfl (by decide) rfl ?_
  refine r_lv [1, 0] rfl ?_
  refine it_ind (P := fun s2 => cn s2.1 → G p l e0 (rmx 2 82) s m args below meth c 0 0 Q cA D N 3 ad T A nx 2 [(0, rv ad w0), (1, iv s2.1)] [] s2.2) (fun n0 s2 ih1 hf c3 => ?_) FU (0, I) hf (cnz 0 rfl)
  refine r_iload_n (pc := 2) S0 1 dX12_laysSets_2 rfl rfl ?_
  refine r_aload_n (pc := 3) S0 0 dX12_laysSets_3 rfl rfl ?_
  obtain ⟨e4, h5, hf⟩ := ok_bind hf
  refine r_cV_I (pc := 4) [] S0 hK hX mv_X12_403 (k_X12_sets0 h5) (c_X12_sets0 l cA D N sx ad T A nx s2.2 w0 e4 h5) rfl rfl ⟨by decide, by decide⟩ (Nat.le_of_ble_eq_true rfl) ⟨Nat.le_refl _, Nat.le_refl _⟩ dX12_laysSets_4 (fun c6 => ?_)
  refine r_icmp_ge (pc := 7) (tgt := 93) S0 dX12_laysSets_7 (by decide) c3 c6 hf (fun hf => ?_) (fun hf => ?_)
  · have hz := ok_some hf
    have hz : s2.2 = e := hz
    subst hQ
    subst hz
    exact r_vret (pc := 93) S0 hr hlk dX12_laysSets_93
  · refine r_aload_n (pc := 10) S0 0 dX12_laysSets_10 rfl rfl ?_
    refine r_getR (pc := 11) S0 hK fl_X12_74 dX12_laysSets_11 hf (fun x7 hf => ?_)
    refine r_iload_n (pc := 14) S0 1 dX12_laysSets_14 rfl rfl ?_
    refine r_iload_n (pc := 15) S0 1 dX12_laysSets_15 rfl rfl ?_
    refine thn_rule (P := fun v9 => cl v9 → G p l e0 (rmx 2 82) s m args below meth c 0 0 Q cA D N 3 ad T A nx 24 [(0, rv ad w0), (1, iv s2.1)] [jv v9, iv s2.1, rv ad x7] s2.2) hf (fun v9 hf c10 => ?_) (fun K8 hf => ?_)
    · refine r_last (pc := 24) S0 hK dX12_laysSets_24 c3 c10 hf (fun I11 hf => ?_)
      refine r_iconst (pc := 25) S0 dX12_laysSets_25 ?_
      refine r_istore_n (pc := 26) (lv' := [(2, iv 0), (0, rv ad w0), (1, iv s2.1)]) S0 dX12_laysSets_26 rfl (by decide) rfl ?_
      refine r_lv [1, 2, 0] rfl ?_
      refine it_ind (P := fun s13 => cn s13.1 → G p l e0 (rmx 2 82) s m args below meth c 0 0 Q cA D N 3 ad T A nx 27 [(0, rv ad w0), (1, iv s2.1), (2, iv s13.1)] [] s13.2) (fun n0 s13 ih12 hf c14 => ?_) FU (0, I11) hf (cnz 0 rfl)
      refine r_iload_n (pc := 27) S0 2 dX12_laysSets_27 rfl rfl ?_
      refine r_aload_n (pc := 28) S0 0 dX12_laysSets_28 rfl rfl ?_
      refine r_getR (pc := 29) S0 hK fl_X12_34 dX12_laysSets_29 hf (fun x15 hf => ?_)
      refine r_iconst (pc := 32) S0 dX12_laysSets_32 ?_
      refine r_iald (pc := 33) S0 hK dX12_laysSets_33 (cnz 3 rfl) hf (fun x16 c17 hf => ?_)
      refine r_icmp_ge (pc := 34) (tgt := 87) S0 dX12_laysSets_34 (by decide) c14 c17 hf (fun hf => ?_) (fun hf => ?_)
      · refine r_iinc (pc := 87) (lv' := [(1, iv (ia s2.1 1)), (0, rv ad w0), (2, iv s13.1)]) S0 1 dX12_laysSets_87 rfl (by decide) rfl ?_
        refine r_goto (pc := 90) (tgt := 2) S0 dX12_laysSets_90 (by decide) ?_
        have hz := ok_some hf
        refine r_lv [1, 0] rfl ?_
        exact ih1 (ia s2.1 1, s13.2) hz (cn_wrap _)
      · refine r_iload_n (pc := 37) S0 1 dX12_laysSets_37 rfl rfl ?_
        refine r_iload_n (pc := 38) S0 2 dX12_laysSets_38 rfl rfl ?_
        obtain ⟨e18, h19, hf⟩ := ok_bind hf
        refine r_cS_I (pc := 39) [iv s2.1, iv s13.1] S0 hK hX ms_X12_278 (c_X12_isBit l cA D N sx ad T A nx s13.2 s2.1 s13.1 c3 c14 e18 h19) rfl rfl ⟨by decide, by decide⟩ (Nat.le_of_ble_eq_true rfl) ⟨Nat.le_refl _, Nat.le_refl _⟩ dX12_laysSets_39 (fun c20 => ?_)
        refine r_if_eq (pc := 42) (tgt := 81) S0 dX12_laysSets_42 (by decide) c20 hf (fun hf => ?_) (fun hf => ?_)
        · refine r_iinc (pc := 81) (lv' := [(2, iv (ia s13.1 1)), (0, rv ad w0), (1, iv s2.1)]) S0 2 dX12_laysSets_81 rfl (by decide) rfl ?_
          refine r_goto (pc := 84) (tgt := 27) S0 dX12_laysSets_84 (by decide) ?_
          have hz := ok_some hf
          refine r_lv [1, 2, 0] rfl ?_
          exact ih12 (ia s13.1 1, s13.2) hz (cn_wrap _)
        · refine r_aload_n (pc := 45) S0 0 dX12_laysSets_45 rfl rfl ?_
          refine r_iload_n (pc := 46) S0 2 dX12_laysSets_46 rfl rfl ?_
          refine r_iload_n (pc := 47) S0 1 dX12_laysSets_47 rfl rfl ?_
          refine r_iconst (pc := 48) S0 dX12_laysSets_48 ?_
          refine r_iload_n (pc := 49) S0 2 dX12_laysSets_49 rfl rfl ?_
          refine r_ishl (pc := 50) S0 dX12_laysSets_50 ?_
          refine r_iconst (pc := 51) S0 dX12_laysSets_51 ?_
          refine r_ixor (pc := 52) S0 dX12_laysSets_52 ?_
          refine r_iand (pc := 53) S0 dX12_laysSets_53 ?_
          obtain ⟨e21, h22, hf⟩ := ok_bind hf
          refine r_cV_I (pc := 54) [iv s13.1, iv (iand s2.1 (ixor (ishl 1 s13.1) (-1)))] S0 hK hX mv_X12_406 (k_X12_mayStamp h22) (c_X12_mayStamp l cA D N sx ad T A nx s13.2 w0 s13.1 (iand s2.1 (ixor (ishl 1 s13.1) (-1))) c14 (cn_toInt _) e21 h22) rfl rfl ⟨by decide, by decide⟩ (Nat.le_of_ble_eq_true rfl) ⟨Nat.le_refl _, Nat.le_refl _⟩ dX12_laysSets_54 (fun c23 => ?_)
          refine r_if_eq (pc := 57) (tgt := 81) S0 dX12_laysSets_57 (by decide) c23 hf (fun hf => ?_) (fun hf => ?_)
          · refine r_iinc (pc := 81) (lv' := [(2, iv (ia s13.1 1)), (0, rv ad w0), (1, iv s2.1)]) S0 2 dX12_laysSets_81 rfl (by decide) rfl ?_
            refine r_goto (pc := 84) (tgt := 27) S0 dX12_laysSets_84 (by decide) ?_
            have hz := ok_some hf
            refine r_lv [1, 2, 0] rfl ?_
            exact ih12 (ia s13.1 1, s13.2) hz (cn_wrap _)
          · refine r_aload_n (pc := 60) S0 0 dX12_laysSets_60 rfl rfl ?_
            refine r_getR (pc := 61) S0 hK fl_X12_74 dX12_laysSets_61 hf (fun x24 hf => ?_)
            refine r_iload_n (pc := 64) S0 1 dX12_laysSets_64 rfl rfl ?_
            refine r_dup2 (pc := 65) S0 dX12_laysSets_65 rfl rfl ?_
            refine r_lald (pc := 66) S0 hK dX12_laysSets_66 c3 hf (fun x25 c26 hf => ?_)
            refine r_aload_n (pc := 67) S0 0 dX12_laysSets_67 rfl rfl ?_
            refine r_getR (pc := 68) S0 hK fl_X12_74 dX12_laysSets_68 hf (fun x27 hf => ?_)
            refine r_iload_n (pc := 71) S0 1 dX12_laysSets_71 rfl rfl ?_
            refine r_iconst (pc := 72) S0 dX12_laysSets_72 ?_
            refine r_iload_n (pc := 73) S0 2 dX12_laysSets_73 rfl rfl ?_
            refine r_ishl (pc := 74) S0 dX12_laysSets_74 ?_
            refine r_iconst (pc := 75) S0 dX12_laysSets_75 ?_
            refine r_ixor (pc := 76) S0 dX12_laysSets_76 ?_
            refine r_iand (pc := 77) S0 dX12_laysSets_77 ?_
            refine r_lald (pc := 78) S0 hK dX12_laysSets_78 (cn_toInt _) hf (fun x28 c29 hf => ?_)
            refine r_ladd (pc := 79) S0 dX12_laysSets_79 ?_
            refine r_last (pc := 80) S0 hK dX12_laysSets_80 c3 (cl_wrapl _) hf (fun I30 hf => ?_)
            refine r_iinc (pc := 81) (lv' := [(2, iv (ia s13.1 1)), (0, rv ad w0), (1, iv s2.1)]) S0 2 dX12_laysSets_81 rfl (by decide) rfl ?_
            refine r_goto (pc := 84) (tgt := 27) S0 dX12_laysSets_84 (by decide) ?_
            have hz := ok_some hf
            refine r_lv [1, 2, 0] rfl ?_
            exact ih12 (ia s13.1 1, I30) hz (cn_wrap _)
    · refine r_if_ne (pc := 16) (tgt := 23) S0 dX12_laysSets_16 (by decide) c3 hf (fun hf => ?_) (fun hf => ?_)
      · refine r_lconst (pc := 23) (v := 0) S0 dX12_laysSets_23 rfl ?_
        have hz := ok_some hf
        refine r_lv [0, 1] rfl ?_
        exact K8 0 hz (clz 0 rfl)
      · refine r_lconst (pc := 19) (v := 1) S0 dX12_laysSets_19 rfl ?_
        refine r_goto (pc := 20) (tgt := 24) S0 dX12_laysSets_20 (by decide) ?_
        have hz := ok_some hf
        refine r_lv [0, 1] rfl ?_
        exact K8 1 hz (clz 1 rfl)

set_option maxHeartbeats 4000000 in
set_option maxRecDepth 100000 in
theorem c_X12_possible (l : Launch) (cA : Nat → ClassId) (D : va_G) (N : Nat) (sx : Sx) (ad : Nat → Nat) (T : Knd) (A : Rfs) (nx : Nat) (I : Mem) (w0 : Nat) (a1 : Int) (ca1 : cn a1) (e : (Int × Mem)) (h : f_X12_possible T A w0 a1 I = some e) : CtI l yX12_possible cX12_possible 2 (some .int) 3 106 cA D N sx ad T A nx [rv ad w0, iv a1] I e.2 e.1 := by
  refine met_of (lv0 := [(0, rv ad w0), (1, iv a1)]) (by decide) (Nat.le_of_ble_eq_true rfl) rfl (fun p e0 s m args below meth c S0 hK hX hr hlk Q hQ => ?_)
  have hf : OK (f_X12_possible T A w0 a1 I) (fun z => z = e) := ⟨e, h, rfl⟩
  unfold f_X12_possible at hf
  obtain ⟨hw0, hf⟩ := ok_grd hf
  refine r_aload_n (pc := 0) S0 0 dX12_possible_0 rfl rfl ?_
  refine r_iconst (pc := 1) S0 dX12_possible_1 ?_
  refine r_putI (pc := 2) S0 hK fl_X12_89 rfl rfl (cnz 0 rfl) dX12_possible_2 hf (fun I1 hf => ?_)
  refine r_aload_n (pc := 5) S0 0 dX12_possible_5 rfl rfl ?_
  refine r_iload_n (pc := 6) S0 1 dX12_possible_6 rfl rfl ?_
  obtain ⟨e2, h3, hf⟩ := ok_bind hf
  refine r_cV_I (pc := 7) [iv a1] S0 hK hX mv_X12_409 (k_X12_isSet h3) (c_X12_isSet l cA D N sx ad T A nx I1 w0 a1 ca1 e2 h3) rfl rfl ⟨by decide, by decide⟩ (Nat.le_of_ble_eq_true rfl) ⟨Nat.le_refl _, Nat.le_refl _⟩ dX12_possible_7 (fun c4 => ?_)
  refine r_if_ne (pc := 10) (tgt := 16) S0 dX12_possible_10 (by decide) c4 hf (fun hf => ?_) (fun hf => ?_)
  · refine r_aload_n (pc := 16) S0 0 dX12_possible_16 rfl rfl ?_
    obtain ⟨e5, h6, hf⟩ := ok_bind hf
    refine r_cV_V (pc := 17) [] S0 hK hX mv_X12_412 (k_X12_laysSets h6) (c_X12_laysSets l cA D N sx ad T A nx I1 w0 e5 h6) rfl rfl ⟨by decide, by decide⟩ (Nat.le_of_ble_eq_true rfl) ⟨Nat.le_refl _, Nat.le_refl _⟩ dX12_possible_17 ?_
    refine r_aload_n (pc := 20) S0 0 dX12_possible_20 rfl rfl ?_
    refine r_getR (pc := 21) S0 hK fl_X12_74 dX12_possible_21 hf (fun x7 hf => ?_)
    refine r_iload_n (pc := 24) S0 1 dX12_possible_24 rfl rfl ?_
    refine r_lald (pc := 25) S0 hK dX12_possible_25 ca1 hf (fun x8 c9 hf => ?_)
    refine r_lconst (pc := 26) (v := 0) S0 dX12_possible_26 rfl ?_
    refine r_lcmp (pc := 27) S0 dX12_possible_27 c9 (clz 0 rfl) ?_
    refine r_if_le (pc := 28) (tgt := 35) S0 dX12_possible_28 (by decide) (cn_lcmp _ _) hf (fun hf => ?_) (fun hf => ?_)
    · refine r_iconst (pc := 35) S0 dX12_possible_35 ?_
      have hz := ok_some hf
      have hz : (0, e5) = e := hz
      subst hQ
      subst hz
      exact r_iret (pc := 36) S0 hr hlk (cnz 0 rfl) dX12_possible_36
    · refine r_iconst (pc := 31) S0 dX12_possible_31 ?_
      refine r_goto (pc := 32) (tgt := 36) S0 dX12_possible_32 (by decide) ?_
      have hz := ok_some hf
      have hz : (1, e5) = e := hz
      subst hQ
      subst hz
      exact r_iret (pc := 36) S0 hr hlk (cnz 1 rfl) dX12_possible_36
  · refine r_bipush (pc := 13) S0 dX12_possible_13 (by decide) ?_
    have hz := ok_some hf
    have hz : ((-2), I1) = e := hz
    subst hQ
    subst hz
    exact r_iret (pc := 15) S0 hr hlk (cnz (-2) rfl) dX12_possible_15
