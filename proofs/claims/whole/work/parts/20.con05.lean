/-! Contracts, laid by wip/gen/gen.py. -/
set_option maxHeartbeats 4000000 in
set_option maxRecDepth 100000 in
theorem c_X11_tread (l : Launch) (cA : Nat → ClassId) (D : va_G) (N : Nat) (sx : Sx) (ad : Nat → Nat) (T : Knd) (A : Rfs) (nx : Nat) (I : Mem) (w0 : Nat) (a1 : Int) (ca1 : cn a1) (e : (Int × Mem)) (h : f_X11_tread T A w0 a1 I = some e) : CtI l yX11_tread cX11_tread 2 (some .int) 19 562 cA D N sx ad T A nx [rv ad w0, iv a1] I e.2 e.1 := by
  refine met_of (lv0 := [(0, rv ad w0), (1, iv a1)]) (by decide) (Nat.le_of_ble_eq_true rfl) rfl (fun p e0 s m args below meth c S0 hK hX hr hlk Q hQ => ?_)
  have hf : OK (f_X11_tread T A w0 a1 I) (fun z => z = e) := ⟨e, h, rfl⟩
  unfold f_X11_tread at hf
  obtain ⟨hw0, hf⟩ := ok_grd hf
  refine r_aload_n (pc := 0) S0 0 dX11_tread_0 rfl rfl ?_
  refine r_getR (pc := 1) S0 hK fl_X11_28 dX11_tread_1 hf (fun x1 hf => ?_)
  obtain ⟨e2, h3, hf⟩ := ok_bind hf
  refine r_cV_I (pc := 4) [] S0 hK hX mv_X11_170 (k_X2_isThere h3) (c_X2_isThere l cA D N sx ad T A nx I x1 e2 h3) rfl rfl ⟨by decide, by decide⟩ (Nat.le_of_ble_eq_true rfl) ⟨Nat.le_refl _, Nat.le_refl _⟩ dX11_tread_4 (fun c4 => ?_)
  refine r_if_eq (pc := 7) (tgt := 22) S0 dX11_tread_7 (by decide) c4 hf (fun hf => ?_) (fun hf => ?_)
  · refine r_bipush (pc := 22) S0 dX11_tread_22 (by decide) ?_
    have hz := ok_some hf
    have hz : ((-2), I) = e := hz
    subst hQ
    subst hz
    exact r_iret (pc := 24) S0 hr hlk (cnz (-2) rfl) dX11_tread_24
  · refine r_aload_n (pc := 10) S0 0 dX11_tread_10 rfl rfl ?_
    obtain ⟨e5, h6, hf⟩ := ok_bind hf
    refine r_cV_R (pc := 11) [] S0 hK hX mv_X11_243 (k_X11_everyRow h6) (c_X11_everyRow l cA D N sx ad T A nx I w0 e5 h6) rfl rfl ⟨by decide, by decide⟩ (Nat.le_of_ble_eq_true rfl) ⟨Nat.le_refl _, Nat.le_refl _⟩ dX11_tread_11 ?_
    refine r_iconst (pc := 14) S0 dX11_tread_14 ?_
    refine r_iload_n (pc := 15) S0 1 dX11_tread_15 rfl rfl ?_
    obtain ⟨e7, h8, hf⟩ := ok_bind hf
    refine r_cV_I (pc := 16) [iv 1, iv a1] S0 hK hX mv_X11_240 (k_X5_officialAt h8) (c_X5_officialAt l cA D N sx ad T A nx e5.2 e5.1 1 a1 (cnz 1 rfl) ca1 e7 h8) rfl rfl ⟨by decide, by decide⟩ (Nat.le_of_ble_eq_true rfl) ⟨Nat.le_refl _, Nat.le_refl _⟩ dX11_tread_16 (fun c9 => ?_)
    refine r_goto (pc := 19) (tgt := 24) S0 dX11_tread_19 (by decide) ?_
    have hz := ok_some hf
    have hz : (e7, e5.2) = e := hz
    subst hQ
    subst hz
    exact r_iret (pc := 24) S0 hr hlk c9 dX11_tread_24

set_option maxHeartbeats 4000000 in
set_option maxRecDepth 100000 in
theorem c_X11_cheapest (l : Launch) (cA : Nat → ClassId) (D : va_G) (N : Nat) (sx : Sx) (ad : Nat → Nat) (T : Knd) (A : Rfs) (nx : Nat) (I : Mem) (w0 : Nat)  (e : (Int × Mem)) (h : f_X11_cheapest T A w0 I = some e) : CtI l yX11_cheapest cX11_cheapest 1 (some .int) 19 562 cA D N sx ad T A nx [rv ad w0] I e.2 e.1 := by
  refine met_of (lv0 := [(0, rv ad w0)]) (by decide) (Nat.le_of_ble_eq_true rfl) rfl (fun p e0 s m args below meth c S0 hK hX hr hlk Q hQ => ?_)
  have hf : OK (f_X11_cheapest T A w0 I) (fun z => z = e) := ⟨e, h, rfl⟩
  unfold f_X11_cheapest at hf
  obtain ⟨hw0, hf⟩ := ok_grd hf
  refine r_aload_n (pc := 0) S0 0 dX11_cheapest_0 rfl rfl ?_
  refine r_getR (pc := 1) S0 hK fl_X11_28 dX11_cheapest_1 hf (fun x1 hf => ?_)
  obtain ⟨e2, h3, hf⟩ := ok_bind hf
  refine r_cV_I (pc := 4) [] S0 hK hX mv_X11_170 (k_X2_isThere h3) (c_X2_isThere l cA D N sx ad T A nx I x1 e2 h3) rfl rfl ⟨by decide, by decide⟩ (Nat.le_of_ble_eq_true rfl) ⟨Nat.le_refl _, Nat.le_refl _⟩ dX11_cheapest_4 (fun c4 => ?_)
  refine r_if_eq (pc := 7) (tgt := 21) S0 dX11_cheapest_7 (by decide) c4 hf (fun hf => ?_) (fun hf => ?_)
  · refine r_bipush (pc := 21) S0 dX11_cheapest_21 (by decide) ?_
    have hz := ok_some hf
    have hz : ((-2), I) = e := hz
    subst hQ
    subst hz
    exact r_iret (pc := 23) S0 hr hlk (cnz (-2) rfl) dX11_cheapest_23
  · refine r_aload_n (pc := 10) S0 0 dX11_cheapest_10 rfl rfl ?_
    obtain ⟨e5, h6, hf⟩ := ok_bind hf
    refine r_cV_R (pc := 11) [] S0 hK hX mv_X11_243 (k_X11_everyRow h6) (c_X11_everyRow l cA D N sx ad T A nx I w0 e5 h6) rfl rfl ⟨by decide, by decide⟩ (Nat.le_of_ble_eq_true rfl) ⟨Nat.le_refl _, Nat.le_refl _⟩ dX11_cheapest_11 ?_
    refine r_iconst (pc := 14) S0 dX11_cheapest_14 ?_
    obtain ⟨e7, h8, hf⟩ := ok_bind hf
    refine r_cV_I (pc := 15) [iv 2] S0 hK hX mv_X11_237 (k_X5_best h8) (c_X5_best l cA D N sx ad T A nx e5.2 e5.1 2 (cnz 2 rfl) e7 h8) rfl rfl ⟨by decide, by decide⟩ (Nat.le_of_ble_eq_true rfl) ⟨Nat.le_refl _, Nat.le_refl _⟩ dX11_cheapest_15 (fun c9 => ?_)
    refine r_goto (pc := 18) (tgt := 23) S0 dX11_cheapest_18 (by decide) ?_
    have hz := ok_some hf
    have hz : (e7, e5.2) = e := hz
    subst hQ
    subst hz
    exact r_iret (pc := 23) S0 hr hlk c9 dX11_cheapest_23

set_option maxHeartbeats 4000000 in
set_option maxRecDepth 100000 in
theorem c_X5_officialsOf (l : Launch) (cA : Nat → ClassId) (D : va_G) (N : Nat) (sx : Sx) (ad : Nat → Nat) (T : Knd) (A : Rfs) (nx : Nat) (I : Mem) (w0 : Nat) (a1 : Int) (ca1 : cn a1) (e : Int) (h : f_X5_officialsOf T A w0 a1 I = some e) : CtI l yX5_officialsOf cX5_officialsOf 4 (some .int) 1 60 cA D N sx ad T A nx [rv ad w0, iv a1] I I e := by
  refine met_of (lv0 := [(0, rv ad w0), (1, iv a1)]) (by decide) (Nat.le_of_ble_eq_true rfl) rfl (fun p e0 s m args below meth c S0 hK hX hr hlk Q hQ => ?_)
  have hf : OK (f_X5_officialsOf T A w0 a1 I) (fun z => z = e) := ⟨e, h, rfl⟩
  unfold f_X5_officialsOf at hf
  obtain ⟨hw0, hf⟩ := ok_grd hf
  refine r_aload_n (pc := 0) S0 0 dX5_officialsOf_0 rfl rfl ?_
  refine r_getI (pc := 1) S0 hK fl_X5_56 dX5_officialsOf_1 hf (fun x1 c2 hf => ?_)
  refine r_if_ne (pc := 4) (tgt := 9) S0 dX5_officialsOf_4 (by decide) c2 hf (fun hf => ?_) (fun hf => ?_)
  · refine r_iconst (pc := 9) S0 dX5_officialsOf_9 ?_
    refine r_istore_n (pc := 10) (lv' := [(2, iv 0), (0, rv ad w0), (1, iv a1)]) S0 dX5_officialsOf_10 rfl (by decide) rfl ?_
    refine r_iconst (pc := 11) S0 dX5_officialsOf_11 ?_
    refine r_istore_n (pc := 12) (lv' := [(3, iv 0), (2, iv 0), (0, rv ad w0), (1, iv a1)]) S0 dX5_officialsOf_12 rfl (by decide) rfl ?_
    refine r_lv [2, 3, 1, 0] rfl ?_
    refine it_ind (P := fun s4 => cn s4.1 → cn s4.2 → G p l e0 (rmx 1 60) s m args below meth c 0 0 Q cA D N 4 ad T A nx 13 [(0, rv ad w0), (1, iv a1), (2, iv s4.1), (3, iv s4.2)] [] I) (fun n0 s4 ih3 hf c5 c6 => ?_) FU (0, 0) hf (cnz 0 rfl) (cnz 0 rfl)
    refine r_iload_n (pc := 13) S0 3 dX5_officialsOf_13 rfl rfl ?_
    refine r_aload_n (pc := 14) S0 0 dX5_officialsOf_14 rfl rfl ?_
    refine r_getR (pc := 15) S0 hK fl_X5_18 dX5_officialsOf_15 hf (fun x7 hf => ?_)
    refine r_iload_n (pc := 18) S0 1 dX5_officialsOf_18 rfl rfl ?_
    refine r_iald (pc := 19) S0 hK dX5_officialsOf_19 ca1 hf (fun x8 c9 hf => ?_)
    refine r_icmp_ge (pc := 20) (tgt := 42) S0 dX5_officialsOf_20 (by decide) c6 c9 hf (fun hf => ?_) (fun hf => ?_)
    · refine r_iload_n (pc := 42) S0 2 dX5_officialsOf_42 rfl rfl ?_
      have hz := ok_some hf
      have hz : s4.1 = e := hz
      subst hQ
      subst hz
      exact r_iret (pc := 43) S0 hr hlk c5 dX5_officialsOf_43
    · refine r_iload_n (pc := 23) S0 2 dX5_officialsOf_23 rfl rfl ?_
      refine r_iconst (pc := 24) S0 dX5_officialsOf_24 ?_
      refine r_aload_n (pc := 25) S0 0 dX5_officialsOf_25 rfl rfl ?_
      refine r_getR (pc := 26) S0 hK fl_X5_23 dX5_officialsOf_26 hf (fun x10 hf => ?_)
      refine r_iload_n (pc := 29) S0 1 dX5_officialsOf_29 rfl rfl ?_
      refine r_aald 24 4 (pc := 30) S0 hK (by decide) rfl rfl dX5_officialsOf_30 ca1 hf (fun x11 hf => ?_)
      refine r_iload_n (pc := 31) S0 3 dX5_officialsOf_31 rfl rfl ?_
      refine r_iald (pc := 32) S0 hK dX5_officialsOf_32 c6 hf (fun x12 c13 hf => ?_)
      refine r_ishl (pc := 33) S0 dX5_officialsOf_33 ?_
      refine r_ior (pc := 34) S0 dX5_officialsOf_34 ?_
      refine r_istore_n (pc := 35) (lv' := [(2, iv (ior s4.1 (ishl 1 x12))), (0, rv ad w0), (1, iv a1), (3, iv s4.2)]) S0 dX5_officialsOf_35 rfl (by decide) rfl ?_
      refine r_iinc (pc := 36) (lv' := [(3, iv (ia s4.2 1)), (2, iv (ior s4.1 (ishl 1 x12))), (0, rv ad w0), (1, iv a1)]) S0 3 dX5_officialsOf_36 rfl (by decide) rfl ?_
      refine r_goto (pc := 39) (tgt := 13) S0 dX5_officialsOf_39 (by decide) ?_
      have hz := ok_some hf
      refine r_lv [2, 3, 1, 0] rfl ?_
      exact ih3 (ior s4.1 (ishl 1 x12), ia s4.2 1) hz (cn_toInt _) (cn_wrap _)
  · refine r_iconst (pc := 7) S0 dX5_officialsOf_7 ?_
    have hz := ok_some hf
    have hz : (-1) = e := hz
    subst hQ
    subst hz
    exact r_iret (pc := 8) S0 hr hlk (cnz (-1) rfl) dX5_officialsOf_8

set_option maxHeartbeats 4000000 in
set_option maxRecDepth 100000 in
theorem c_X11_whom (l : Launch) (cA : Nat → ClassId) (D : va_G) (N : Nat) (sx : Sx) (ad : Nat → Nat) (T : Knd) (A : Rfs) (nx : Nat) (I : Mem) (w0 : Nat)  (e : (Int × Mem)) (h : f_X11_whom T A w0 I = some e) : CtI l yX11_whom cX11_whom 1 (some .int) 19 562 cA D N sx ad T A nx [rv ad w0] I e.2 e.1 := by
  refine met_of (lv0 := [(0, rv ad w0)]) (by decide) (Nat.le_of_ble_eq_true rfl) rfl (fun p e0 s m args below meth c S0 hK hX hr hlk Q hQ => ?_)
  have hf : OK (f_X11_whom T A w0 I) (fun z => z = e) := ⟨e, h, rfl⟩
  unfold f_X11_whom at hf
  obtain ⟨hw0, hf⟩ := ok_grd hf
  refine r_aload_n (pc := 0) S0 0 dX11_whom_0 rfl rfl ?_
  refine r_getR (pc := 1) S0 hK fl_X11_28 dX11_whom_1 hf (fun x1 hf => ?_)
  obtain ⟨e2, h3, hf⟩ := ok_bind hf
  refine r_cV_I (pc := 4) [] S0 hK hX mv_X11_170 (k_X2_isThere h3) (c_X2_isThere l cA D N sx ad T A nx I x1 e2 h3) rfl rfl ⟨by decide, by decide⟩ (Nat.le_of_ble_eq_true rfl) ⟨Nat.le_refl _, Nat.le_refl _⟩ dX11_whom_4 (fun c4 => ?_)
  refine r_if_eq (pc := 7) (tgt := 21) S0 dX11_whom_7 (by decide) c4 hf (fun hf => ?_) (fun hf => ?_)
  · refine r_bipush (pc := 21) S0 dX11_whom_21 (by decide) ?_
    have hz := ok_some hf
    have hz : ((-2), I) = e := hz
    subst hQ
    subst hz
    exact r_iret (pc := 23) S0 hr hlk (cnz (-2) rfl) dX11_whom_23
  · refine r_aload_n (pc := 10) S0 0 dX11_whom_10 rfl rfl ?_
    obtain ⟨e5, h6, hf⟩ := ok_bind hf
    refine r_cV_R (pc := 11) [] S0 hK hX mv_X11_243 (k_X11_everyRow h6) (c_X11_everyRow l cA D N sx ad T A nx I w0 e5 h6) rfl rfl ⟨by decide, by decide⟩ (Nat.le_of_ble_eq_true rfl) ⟨Nat.le_refl _, Nat.le_refl _⟩ dX11_whom_11 ?_
    refine r_iconst (pc := 14) S0 dX11_whom_14 ?_
    obtain ⟨e7, h8, hf⟩ := ok_bind hf
    refine r_cV_I (pc := 15) [iv 2] S0 hK hX mv_X11_249 (k_X5_officialsOf h8) (c_X5_officialsOf l cA D N sx ad T A nx e5.2 e5.1 2 (cnz 2 rfl) e7 h8) rfl rfl ⟨by decide, by decide⟩ (Nat.le_of_ble_eq_true rfl) ⟨Nat.le_refl _, Nat.le_refl _⟩ dX11_whom_15 (fun c9 => ?_)
    refine r_goto (pc := 18) (tgt := 23) S0 dX11_whom_18 (by decide) ?_
    have hz := ok_some hf
    have hz : (e7, e5.2) = e := hz
    subst hQ
    subst hz
    exact r_iret (pc := 23) S0 hr hlk c9 dX11_whom_23

set_option maxHeartbeats 4000000 in
set_option maxRecDepth 100000 in
theorem c_X11_ways (l : Launch) (cA : Nat → ClassId) (D : va_G) (N : Nat) (sx : Sx) (ad : Nat → Nat) (T : Knd) (A : Rfs) (nx : Nat) (I : Mem) (w0 : Nat)  (e : (Int × Mem)) (h : f_X11_ways T A w0 I = some e) : CtI l yX11_ways cX11_ways 1 (some .int) 19 562 cA D N sx ad T A nx [rv ad w0] I e.2 e.1 := by
  refine met_of (lv0 := [(0, rv ad w0)]) (by decide) (Nat.le_of_ble_eq_true rfl) rfl (fun p e0 s m args below meth c S0 hK hX hr hlk Q hQ => ?_)
  have hf : OK (f_X11_ways T A w0 I) (fun z => z = e) := ⟨e, h, rfl⟩
  unfold f_X11_ways at hf
  obtain ⟨hw0, hf⟩ := ok_grd hf
  refine r_aload_n (pc := 0) S0 0 dX11_ways_0 rfl rfl ?_
  refine r_getR (pc := 1) S0 hK fl_X11_28 dX11_ways_1 hf (fun x1 hf => ?_)
  obtain ⟨e2, h3, hf⟩ := ok_bind hf
  refine r_cV_I (pc := 4) [] S0 hK hX mv_X11_170 (k_X2_isThere h3) (c_X2_isThere l cA D N sx ad T A nx I x1 e2 h3) rfl rfl ⟨by decide, by decide⟩ (Nat.le_of_ble_eq_true rfl) ⟨Nat.le_refl _, Nat.le_refl _⟩ dX11_ways_4 (fun c4 => ?_)
  refine r_if_eq (pc := 7) (tgt := 20) S0 dX11_ways_7 (by decide) c4 hf (fun hf => ?_) (fun hf => ?_)
  · refine r_bipush (pc := 20) S0 dX11_ways_20 (by decide) ?_
    have hz := ok_some hf
    have hz : ((-2), I) = e := hz
    subst hQ
    subst hz
    exact r_iret (pc := 22) S0 hr hlk (cnz (-2) rfl) dX11_ways_22
  · refine r_aload_n (pc := 10) S0 0 dX11_ways_10 rfl rfl ?_
    obtain ⟨e5, h6, hf⟩ := ok_bind hf
    refine r_cV_R (pc := 11) [] S0 hK hX mv_X11_243 (k_X11_everyRow h6) (c_X11_everyRow l cA D N sx ad T A nx I w0 e5 h6) rfl rfl ⟨by decide, by decide⟩ (Nat.le_of_ble_eq_true rfl) ⟨Nat.le_refl _, Nat.le_refl _⟩ dX11_ways_11 ?_
    refine r_getI (pc := 14) S0 hK fl_X11_252 dX11_ways_14 hf (fun x7 c8 hf => ?_)
    refine r_goto (pc := 17) (tgt := 22) S0 dX11_ways_17 (by decide) ?_
    have hz := ok_some hf
    have hz : (x7, e5.2) = e := hz
    subst hQ
    subst hz
    exact r_iret (pc := 22) S0 hr hlk c8 dX11_ways_22

set_option maxHeartbeats 4000000 in
set_option maxRecDepth 100000 in
theorem c_X11_always (l : Launch) (cA : Nat → ClassId) (D : va_G) (N : Nat) (sx : Sx) (ad : Nat → Nat) (T : Knd) (A : Rfs) (nx : Nat) (I : Mem) (w0 : Nat) (a1 : Int) (ca1 : cn a1) (e : (Int × Mem)) (h : f_X11_always T A w0 a1 I = some e) : CtI l yX11_always cX11_always 2 (some .int) 19 562 cA D N sx ad T A nx [rv ad w0, iv a1] I e.2 e.1 := by
  refine met_of (lv0 := [(0, rv ad w0), (1, iv a1)]) (by decide) (Nat.le_of_ble_eq_true rfl) rfl (fun p e0 s m args below meth c S0 hK hX hr hlk Q hQ => ?_)
  have hf : OK (f_X11_always T A w0 a1 I) (fun z => z = e) := ⟨e, h, rfl⟩
  unfold f_X11_always at hf
  obtain ⟨hw0, hf⟩ := ok_grd hf
  refine r_aload_n (pc := 0) S0 0 dX11_always_0 rfl rfl ?_
  refine r_getR (pc := 1) S0 hK fl_X11_28 dX11_always_1 hf (fun x1 hf => ?_)
  obtain ⟨e2, h3, hf⟩ := ok_bind hf
  refine r_cV_I (pc := 4) [] S0 hK hX mv_X11_170 (k_X2_isThere h3) (c_X2_isThere l cA D N sx ad T A nx I x1 e2 h3) rfl rfl ⟨by decide, by decide⟩ (Nat.le_of_ble_eq_true rfl) ⟨Nat.le_refl _, Nat.le_refl _⟩ dX11_always_4 (fun c4 => ?_)
  refine r_if_eq (pc := 7) (tgt := 17) S0 dX11_always_7 (by decide) c4 hf (fun hf => ?_) (fun hf => ?_)
  · refine r_bipush (pc := 17) S0 dX11_always_17 (by decide) ?_
    have hz := ok_some hf
    have hz : ((-2), I) = e := hz
    subst hQ
    subst hz
    exact r_iret (pc := 19) S0 hr hlk (cnz (-2) rfl) dX11_always_19
  · refine r_iload_n (pc := 10) S0 1 dX11_always_10 rfl rfl ?_
    obtain ⟨e5, h6, hf⟩ := ok_bind hf
    refine r_cS_I (pc := 11) [iv a1] S0 hK hX ms_X11_141 (c_X11_isBit l cA D N sx ad T A nx I a1 ca1 e5 h6) rfl rfl ⟨by decide, by decide⟩ (Nat.le_of_ble_eq_true rfl) ⟨Nat.le_refl _, Nat.le_refl _⟩ dX11_always_11 (fun c7 => ?_)
    refine r_if_ne (pc := 14) (tgt := 20) S0 dX11_always_14 (by decide) c7 hf (fun hf => ?_) (fun hf => ?_)
    · refine r_iload_n (pc := 20) S0 1 dX11_always_20 rfl rfl ?_
      refine r_if_ne (pc := 21) (tgt := 34) S0 dX11_always_21 (by decide) ca1 hf (fun hf => ?_) (fun hf => ?_)
      · refine r_aload_n (pc := 34) S0 0 dX11_always_34 rfl rfl ?_
        obtain ⟨e8, h9, hf⟩ := ok_bind hf
        refine r_cV_R (pc := 35) [] S0 hK hX mv_X11_243 (k_X11_everyRow h9) (c_X11_everyRow l cA D N sx ad T A nx I w0 e8 h9) rfl rfl ⟨by decide, by decide⟩ (Nat.le_of_ble_eq_true rfl) ⟨Nat.le_refl _, Nat.le_refl _⟩ dX11_always_35 ?_
        refine r_getI (pc := 38) S0 hK fl_X11_258 dX11_always_38 hf (fun x10 c11 hf => ?_)
        have hz := ok_some hf
        have hz : (x10, e8.2) = e := hz
        subst hQ
        subst hz
        exact r_iret (pc := 41) S0 hr hlk c11 dX11_always_41
      · refine r_aload_n (pc := 24) S0 0 dX11_always_24 rfl rfl ?_
        obtain ⟨e12, h13, hf⟩ := ok_bind hf
        refine r_cV_R (pc := 25) [] S0 hK hX mv_X11_243 (k_X11_everyRow h13) (c_X11_everyRow l cA D N sx ad T A nx I w0 e12 h13) rfl rfl ⟨by decide, by decide⟩ (Nat.le_of_ble_eq_true rfl) ⟨Nat.le_refl _, Nat.le_refl _⟩ dX11_always_25 ?_
        refine r_getI (pc := 28) S0 hK fl_X11_255 dX11_always_28 hf (fun x14 c15 hf => ?_)
        refine r_goto (pc := 31) (tgt := 41) S0 dX11_always_31 (by decide) ?_
        have hz := ok_some hf
        have hz : (x14, e12.2) = e := hz
        subst hQ
        subst hz
        exact r_iret (pc := 41) S0 hr hlk c15 dX11_always_41
    · refine r_bipush (pc := 17) S0 dX11_always_17 (by decide) ?_
      have hz := ok_some hf
      have hz : ((-2), I) = e := hz
      subst hQ
      subst hz
      exact r_iret (pc := 19) S0 hr hlk (cnz (-2) rfl) dX11_always_19

set_option maxHeartbeats 4000000 in
set_option maxRecDepth 100000 in
theorem c_X5_spareHours (l : Launch) (cA : Nat → ClassId) (D : va_G) (N : Nat) (sx : Sx) (ad : Nat → Nat) (T : Knd) (A : Rfs) (nx : Nat) (I : Mem) (w0 : Nat) (a1 : Int) (ca1 : cn a1) (e : Int) (h : f_X5_spareHours T A w0 a1 I = some e) : CtI l yX5_spareHours cX5_spareHours 3 (some .int) 2 83 cA D N sx ad T A nx [rv ad w0, iv a1] I I e := by
  refine met_of (lv0 := [(0, rv ad w0), (1, iv a1)]) (by decide) (Nat.le_of_ble_eq_true rfl) rfl (fun p e0 s m args below meth c S0 hK hX hr hlk Q hQ => ?_)
  have hf : OK (f_X5_spareHours T A w0 a1 I) (fun z => z = e) := ⟨e, h, rfl⟩
  unfold f_X5_spareHours at hf
  obtain ⟨hw0, hf⟩ := ok_grd hf
  refine r_aload_n (pc := 0) S0 0 dX5_spareHours_0 rfl rfl ?_
  refine r_getI (pc := 1) S0 hK fl_X5_56 dX5_spareHours_1 hf (fun x1 c2 hf => ?_)
  refine r_if_eq (pc := 4) (tgt := 29) S0 dX5_spareHours_4 (by decide) c2 hf (fun hf => ?_) (fun hf => ?_)
  · refine r_iconst (pc := 29) S0 dX5_spareHours_29 ?_
    have hz := ok_some hf
    have hz : (-1) = e := hz
    subst hQ
    subst hz
    exact r_iret (pc := 30) S0 hr hlk (cnz (-1) rfl) dX5_spareHours_30
  · refine r_iload_n (pc := 7) S0 1 dX5_spareHours_7 rfl rfl ?_
    refine r_if_lt (pc := 8) (tgt := 29) S0 dX5_spareHours_8 (by decide) ca1 hf (fun hf => ?_) (fun hf => ?_)
    · refine r_iconst (pc := 29) S0 dX5_spareHours_29 ?_
      have hz := ok_some hf
      have hz : (-1) = e := hz
      subst hQ
      subst hz
      exact r_iret (pc := 30) S0 hr hlk (cnz (-1) rfl) dX5_spareHours_30
    · refine r_iload_n (pc := 11) S0 1 dX5_spareHours_11 rfl rfl ?_
      refine r_bipush (pc := 12) S0 dX5_spareHours_12 (by decide) ?_
      refine r_icmp_ge (pc := 14) (tgt := 29) S0 dX5_spareHours_14 (by decide) ca1 (cnz 8 rfl) hf (fun hf => ?_) (fun hf => ?_)
      · refine r_iconst (pc := 29) S0 dX5_spareHours_29 ?_
        have hz := ok_some hf
        have hz : (-1) = e := hz
        subst hQ
        subst hz
        exact r_iret (pc := 30) S0 hr hlk (cnz (-1) rfl) dX5_spareHours_30
      · refine r_aload_n (pc := 17) S0 0 dX5_spareHours_17 rfl rfl ?_
        refine r_iconst (pc := 18) S0 dX5_spareHours_18 ?_
        obtain ⟨e3, h4, hf⟩ := ok_bind hf
        refine r_cV_I (pc := 19) [iv 0] S0 hK hX mv_X5_87 (k_X5_officialsOf h4) (c_X5_officialsOf l cA D N sx ad T A nx I w0 0 (cnz 0 rfl) e3 h4) rfl rfl ⟨by decide, by decide⟩ (Nat.le_of_ble_eq_true rfl) ⟨Nat.le_refl _, Nat.le_refl _⟩ dX5_spareHours_19 (fun c5 => ?_)
        refine r_iload_n (pc := 22) S0 1 dX5_spareHours_22 rfl rfl ?_
        obtain ⟨e6, h7, hf⟩ := ok_bind hf
        refine r_cN_I (pc := 23) [iv e3, iv a1] S0 hK hX mn_X5_91 (c_X11_hasBit l cA D N sx ad T A nx I e3 a1 c5 ca1 e6 h7) rfl rfl ⟨by decide, by decide⟩ (Nat.le_of_ble_eq_true rfl) ⟨Nat.le_refl _, Nat.le_refl _⟩ dX5_spareHours_23 (fun c8 => ?_)
        refine r_if_ne (pc := 26) (tgt := 31) S0 dX5_spareHours_26 (by decide) c8 hf (fun hf => ?_) (fun hf => ?_)
        · refine r_aload_n (pc := 31) S0 0 dX5_spareHours_31 rfl rfl ?_
          refine r_getR (pc := 32) S0 hK fl_X5_26 dX5_spareHours_32 hf (fun x9 hf => ?_)
          refine r_iload_n (pc := 35) S0 1 dX5_spareHours_35 rfl rfl ?_
          refine r_iald (pc := 36) S0 hK dX5_spareHours_36 ca1 hf (fun x10 c11 hf => ?_)
          refine r_istore_n (pc := 37) (lv' := [(2, iv x10), (0, rv ad w0), (1, iv a1)]) S0 dX5_spareHours_37 rfl (by decide) rfl ?_
          refine r_iload_n (pc := 38) S0 0 dX5_spareHours_38 rfl rfl ?_
          refine r_ldc (pc := 39) (z := 1000000) S0 k_X5_40 dX5_spareHours_39 (by decide) ?_
          refine r_icmp_eq (pc := 41) (tgt := 54) S0 dX5_spareHours_41 (by decide) c11 (cnz 1000000 rfl) hf (fun hf => ?_) (fun hf => ?_)
          · refine r_iconst (pc := 54) S0 dX5_spareHours_54 ?_
            refine r_goto (pc := 55) (tgt := 66) S0 dX5_spareHours_55 (by decide) ?_
            have hz := ok_some hf
            have hz : (-1) = e := hz
            subst hQ
            subst hz
            exact r_iret (pc := 66) S0 hr hlk (cnz (-1) rfl) dX5_spareHours_66
          · refine r_iload_n (pc := 44) S0 0 dX5_spareHours_44 rfl rfl ?_
            refine r_aload_n (pc := 45) S0 1 dX5_spareHours_45 rfl rfl ?_
            refine r_getR (pc := 46) S0 hK fl_X5_15 dX5_spareHours_46 hf (fun x12 hf => ?_)
            refine r_iconst (pc := 49) S0 dX5_spareHours_49 ?_
            refine r_iald (pc := 50) S0 hK dX5_spareHours_50 (cnz 0 rfl) hf (fun x13 c14 hf => ?_)
            refine r_icmp_ge (pc := 51) (tgt := 58) S0 dX5_spareHours_51 (by decide) c11 c14 hf (fun hf => ?_) (fun hf => ?_)
            · refine r_iload_n (pc := 58) S0 0 dX5_spareHours_58 rfl rfl ?_
              refine r_aload_n (pc := 59) S0 1 dX5_spareHours_59 rfl rfl ?_
              refine r_getR (pc := 60) S0 hK fl_X5_15 dX5_spareHours_60 hf (fun x15 hf => ?_)
              refine r_iconst (pc := 63) S0 dX5_spareHours_63 ?_
              refine r_iald (pc := 64) S0 hK dX5_spareHours_64 (cnz 0 rfl) hf (fun x16 c17 hf => ?_)
              refine r_isub (pc := 65) S0 dX5_spareHours_65 ?_
              have hz := ok_some hf
              have hz : (isb x10 x16) = e := hz
              subst hQ
              subst hz
              exact r_iret (pc := 66) S0 hr hlk (cn_wrap _) dX5_spareHours_66
            · refine r_iconst (pc := 54) S0 dX5_spareHours_54 ?_
              refine r_goto (pc := 55) (tgt := 66) S0 dX5_spareHours_55 (by decide) ?_
              have hz := ok_some hf
              have hz : (-1) = e := hz
              subst hQ
              subst hz
              exact r_iret (pc := 66) S0 hr hlk (cnz (-1) rfl) dX5_spareHours_66
        · refine r_iconst (pc := 29) S0 dX5_spareHours_29 ?_
          have hz := ok_some hf
          have hz : (-1) = e := hz
          subst hQ
          subst hz
          exact r_iret (pc := 30) S0 hr hlk (cnz (-1) rfl) dX5_spareHours_30

set_option maxHeartbeats 4000000 in
set_option maxRecDepth 100000 in
theorem c_X11_slack (l : Launch) (cA : Nat → ClassId) (D : va_G) (N : Nat) (sx : Sx) (ad : Nat → Nat) (T : Knd) (A : Rfs) (nx : Nat) (I : Mem) (w0 : Nat) (a1 : Int) (ca1 : cn a1) (e : (Int × Mem)) (h : f_X11_slack T A w0 a1 I = some e) : CtI l yX11_slack cX11_slack 2 (some .int) 19 562 cA D N sx ad T A nx [rv ad w0, iv a1] I e.2 e.1 := by
  refine met_of (lv0 := [(0, rv ad w0), (1, iv a1)]) (by decide) (Nat.le_of_ble_eq_true rfl) rfl (fun p e0 s m args below meth c S0 hK hX hr hlk Q hQ => ?_)
  have hf : OK (f_X11_slack T A w0 a1 I) (fun z => z = e) := ⟨e, h, rfl⟩
  unfold f_X11_slack at hf
  obtain ⟨hw0, hf⟩ := ok_grd hf
  refine r_aload_n (pc := 0) S0 0 dX11_slack_0 rfl rfl ?_
  refine r_getR (pc := 1) S0 hK fl_X11_28 dX11_slack_1 hf (fun x1 hf => ?_)
  refine r_iload_n (pc := 4) S0 1 dX11_slack_4 rfl rfl ?_
  obtain ⟨e2, h3, hf⟩ := ok_bind hf
  refine r_cV_I (pc := 5) [iv a1] S0 hK hX mv_X11_133 (k_X2_hasOfficial h3) (c_X2_hasOfficial l cA D N sx ad T A nx I x1 a1 ca1 e2 h3) rfl rfl ⟨by decide, by decide⟩ (Nat.le_of_ble_eq_true rfl) ⟨Nat.le_refl _, Nat.le_refl _⟩ dX11_slack_5 (fun c4 => ?_)
  refine r_if_eq (pc := 8) (tgt := 22) S0 dX11_slack_8 (by decide) c4 hf (fun hf => ?_) (fun hf => ?_)
  · refine r_bipush (pc := 22) S0 dX11_slack_22 (by decide) ?_
    have hz := ok_some hf
    have hz : ((-2), I) = e := hz
    subst hQ
    subst hz
    exact r_iret (pc := 24) S0 hr hlk (cnz (-2) rfl) dX11_slack_24
  · refine r_aload_n (pc := 11) S0 0 dX11_slack_11 rfl rfl ?_
    obtain ⟨e5, h6, hf⟩ := ok_bind hf
    refine r_cV_R (pc := 12) [] S0 hK hX mv_X11_233 (k_X11_soonRows h6) (c_X11_soonRows l cA D N sx ad T A nx I w0 e5 h6) rfl rfl ⟨by decide, by decide⟩ (Nat.le_of_ble_eq_true rfl) ⟨Nat.le_refl _, Nat.le_refl _⟩ dX11_slack_12 ?_
    refine r_iload_n (pc := 15) S0 1 dX11_slack_15 rfl rfl ?_
    obtain ⟨e7, h8, hf⟩ := ok_bind hf
    refine r_cV_I (pc := 16) [iv a1] S0 hK hX mv_X11_261 (k_X5_spareHours h8) (c_X5_spareHours l cA D N sx ad T A nx e5.2 e5.1 a1 ca1 e7 h8) rfl rfl ⟨by decide, by decide⟩ (Nat.le_of_ble_eq_true rfl) ⟨Nat.le_refl _, Nat.le_refl _⟩ dX11_slack_16 (fun c9 => ?_)
    refine r_goto (pc := 19) (tgt := 24) S0 dX11_slack_19 (by decide) ?_
    have hz := ok_some hf
    have hz : (e7, e5.2) = e := hz
    subst hQ
    subst hz
    exact r_iret (pc := 24) S0 hr hlk c9 dX11_slack_24

set_option maxHeartbeats 4000000 in
set_option maxRecDepth 100000 in
theorem c_X11_findStart (l : Launch) (cA : Nat → ClassId) (D : va_G) (N : Nat) (sx : Sx) (ad : Nat → Nat) (T : Knd) (A : Rfs) (nx : Nat) (I : Mem) (w0 : Nat)  (e : Mem) (h : f_X11_findStart T A w0 I = some e) : CtV l yX11_findStart cX11_findStart 3 none 18 542 cA D N sx ad T A nx [rv ad w0] I e := by
  refine met_of (lv0 := [(0, rv ad w0)]) (by decide) (Nat.le_of_ble_eq_true rfl) rfl (fun p e0 s m args below meth c S0 hK hX hr hlk Q hQ => ?_)
  have hf : OK (f_X11_findStart T A w0 I) (fun z => z = e) := ⟨e, h, rfl⟩
  unfold f_X11_findStart at hf
  obtain ⟨hw0, hf⟩ := ok_grd hf
  refine r_aload_n (pc := 0) S0 0 dX11_findStart_0 rfl rfl ?_
  refine r_iconst (pc := 1) S0 dX11_findStart_1 ?_
  refine r_putI (pc := 2) S0 hK fl_X11_271 rfl rfl (cnz (-1) rfl) dX11_findStart_2 hf (fun I1 hf => ?_)
  refine r_aload_n (pc := 5) S0 0 dX11_findStart_5 rfl rfl ?_
  refine r_iconst (pc := 6) S0 dX11_findStart_6 ?_
  refine r_putI (pc := 7) S0 hK fl_X11_274 rfl rfl (cnz (-1) rfl) dX11_findStart_7 hf (fun I2 hf => ?_)
  refine r_iconst (pc := 10) S0 dX11_findStart_10 ?_
  refine r_istore_n (pc := 11) (lv' := [(1, iv 0), (0, rv ad w0)]) S0 dX11_findStart_11 rfl (by decide) rfl ?_
  refine thn_rule (P := fun v4 => G p l e0 (rmx 18 542) s m args below meth c 0 0 Q cA D N 3 ad T A nx 92 [(0, rv ad w0)] [] v4) hf (fun v4 hf => ?_) (fun K3 hf => ?_)
  · refine r_aload_n (pc := 92) S0 0 dX11_findStart_92 rfl rfl ?_
    refine r_iconst (pc := 93) S0 dX11_findStart_93 ?_
    refine r_putZ (pc := 94) S0 hK fl_X11_264 rfl rfl dX11_findStart_94 hf (fun I30 hf => ?_)
    have hz := ok_some hf
    have hz : I30 = e := hz
    subst hQ
    subst hz
    exact r_vret (pc := 97) S0 hr hlk dX11_findStart_97
  · refine r_lv [1, 0] rfl ?_
    refine it_ind (P := fun s6 => cn s6.1 → G p l e0 (rmx 18 542) s m args below meth c 0 0 Q cA D N 3 ad T A nx 12 [(0, rv ad w0), (1, iv s6.1)] [] s6.2) (fun n0 s6 ih5 hf c7 => ?_) FU (0, I2) hf (cnz 0 rfl)
    refine r_iload_n (pc := 12) S0 1 dX11_findStart_12 rfl rfl ?_
    refine r_bipush (pc := 13) S0 dX11_findStart_13 (by decide) ?_
    refine r_icmp_ge (pc := 15) (tgt := 92) S0 dX11_findStart_15 (by decide) c7 (cnz 50 rfl) hf (fun hf => ?_) (fun hf => ?_)
    · have hz := ok_some hf
      refine r_lv [0] rfl ?_
      exact K3 s6.2 hz
    · refine r_aload_n (pc := 18) S0 0 dX11_findStart_18 rfl rfl ?_
      refine r_getR (pc := 19) S0 hK fl_X11_48 dX11_findStart_19 hf (fun x8 hf => ?_)
      refine r_iload_n (pc := 22) S0 1 dX11_findStart_22 rfl rfl ?_
      obtain ⟨e9, h10, hf⟩ := ok_bind hf
      refine r_cV_V (pc := 23) [iv s6.1] S0 hK hX mv_X11_395 (k_X10_beginAt h10) (c_X10_beginAt l cA D N sx ad T A nx s6.2 x8 s6.1 c7 e9 h10) rfl rfl ⟨by decide, by decide⟩ (Nat.le_of_ble_eq_true rfl) ⟨Nat.le_refl _, Nat.le_refl _⟩ dX11_findStart_23 ?_
      refine r_aload_n (pc := 26) S0 0 dX11_findStart_26 rfl rfl ?_
      refine r_getR (pc := 27) S0 hK fl_X11_63 dX11_findStart_27 hf (fun x11 hf => ?_)
      refine r_aload_n (pc := 30) S0 0 dX11_findStart_30 rfl rfl ?_
      refine r_getR (pc := 31) S0 hK fl_X11_48 dX11_findStart_31 hf (fun x12 hf => ?_)
      refine r_iconst (pc := 34) S0 dX11_findStart_34 ?_
      refine r_iconst (pc := 35) S0 dX11_findStart_35 ?_
      obtain ⟨e13, h14, hf⟩ := ok_bind hf
      refine r_cV_V (pc := 36) [rv ad x12, iv (-1), iv 0] S0 hK hX mv_X11_401 (k_X5_search h14) (c_X5_search l cA D N sx ad T A nx e9 x11 x12 (-1) 0 (cnz (-1) rfl) (cnz 0 rfl) e13 h14) rfl rfl ⟨by decide, by decide⟩ (Nat.le_of_ble_eq_true rfl) ⟨Nat.le_refl _, Nat.le_refl _⟩ dX11_findStart_36 ?_
      refine r_aload_n (pc := 39) S0 0 dX11_findStart_39 rfl rfl ?_
      refine r_getR (pc := 40) S0 hK fl_X11_63 dX11_findStart_40 hf (fun x15 hf => ?_)
      refine r_iconst (pc := 43) S0 dX11_findStart_43 ?_
      obtain ⟨e16, h17, hf⟩ := ok_bind hf
      refine r_cV_I (pc := 44) [iv 0] S0 hK hX mv_X11_237 (k_X5_best h17) (c_X5_best l cA D N sx ad T A nx e13 x15 0 (cnz 0 rfl) e16 h17) rfl rfl ⟨by decide, by decide⟩ (Nat.le_of_ble_eq_true rfl) ⟨Nat.le_refl _, Nat.le_refl _⟩ dX11_findStart_44 (fun c18 => ?_)
      refine r_iload_n (pc := 47) S0 1 dX11_findStart_47 rfl rfl ?_
      refine r_isub (pc := 48) S0 dX11_findStart_48 ?_
      refine r_istore_n (pc := 49) (lv' := [(2, iv (isb e16 s6.1)), (0, rv ad w0), (1, iv s6.1)]) S0 dX11_findStart_49 rfl (by decide) rfl ?_
      refine r_aload_n (pc := 50) S0 1 dX11_findStart_50 rfl rfl ?_
      refine r_getR (pc := 51) S0 hK fl_X11_63 dX11_findStart_51 hf (fun x19 hf => ?_)
      refine r_getI (pc := 54) S0 hK fl_X11_252 dX11_findStart_54 hf (fun x20 c21 hf => ?_)
      refine r_if_le (pc := 57) (tgt := 86) S0 dX11_findStart_57 (by decide) c21 hf (fun hf => ?_) (fun hf => ?_)
      · refine r_iinc (pc := 86) (lv' := [(1, iv (ia s6.1 1)), (2, iv (isb e16 s6.1)), (0, rv ad w0)]) S0 2 dX11_findStart_86 rfl (by decide) rfl ?_
        refine r_goto (pc := 89) (tgt := 12) S0 dX11_findStart_89 (by decide) ?_
        have hz := ok_some hf
        refine r_lv [2, 0] rfl ?_
        exact ih5 (ia s6.1 1, e13) hz (cn_wrap _)
      · refine r_aload_n (pc := 60) S0 1 dX11_findStart_60 rfl rfl ?_
        refine r_getI (pc := 61) S0 hK fl_X11_271 dX11_findStart_61 hf (fun x22 c23 hf => ?_)
        refine r_iconst (pc := 64) S0 dX11_findStart_64 ?_
        refine thn_rule (P := fun v25 => G p l e0 (rmx 18 542) s m args below meth c 0 0 Q cA D N 3 ad T A nx 76 [(0, rv ad w0), (1, iv s6.1), (2, iv (isb e16 s6.1))] [] e13) hf (fun v25 hf => ?_) (fun K24 hf => ?_)
        · refine r_aload_n (pc := 76) S0 0 dX11_findStart_76 rfl rfl ?_
          refine r_iload_n (pc := 77) S0 1 dX11_findStart_77 rfl rfl ?_
          refine r_putI (pc := 78) S0 hK fl_X11_271 rfl rfl c7 dX11_findStart_78 hf (fun I28 hf => ?_)
          refine r_aload_n (pc := 81) S0 0 dX11_findStart_81 rfl rfl ?_
          refine r_iload_n (pc := 82) S0 2 dX11_findStart_82 rfl rfl ?_
          refine r_putI (pc := 83) S0 hK fl_X11_274 rfl rfl (cn_wrap _) dX11_findStart_83 hf (fun I29 hf => ?_)
          refine r_iinc (pc := 86) (lv' := [(1, iv (ia s6.1 1)), (0, rv ad w0), (2, iv (isb e16 s6.1))]) S0 1 dX11_findStart_86 rfl (by decide) rfl ?_
          refine r_goto (pc := 89) (tgt := 12) S0 dX11_findStart_89 (by decide) ?_
          have hz := ok_some hf
          refine r_lv [1, 0] rfl ?_
          exact ih5 (ia s6.1 1, I29) hz (cn_wrap _)
        · refine r_icmp_eq (pc := 65) (tgt := 76) S0 dX11_findStart_65 (by decide) c23 (cnz (-1) rfl) hf (fun hf => ?_) (fun hf => ?_)
          · have hz := ok_some hf
            refine r_lv [1, 2, 0] rfl ?_
            exact K24 () hz
          · refine r_iload_n (pc := 68) S0 0 dX11_findStart_68 rfl rfl ?_
            refine r_aload_n (pc := 69) S0 1 dX11_findStart_69 rfl rfl ?_
            refine r_getI (pc := 70) S0 hK fl_X11_274 dX11_findStart_70 hf (fun x26 c27 hf => ?_)
            refine r_icmp_ge (pc := 73) (tgt := 86) S0 dX11_findStart_73 (by decide) (cn_wrap _) c27 hf (fun hf => ?_) (fun hf => ?_)
            · refine r_iinc (pc := 86) (lv' := [(1, iv (ia s6.1 1)), (2, iv (isb e16 s6.1)), (0, rv ad w0)]) S0 2 dX11_findStart_86 rfl (by decide) rfl ?_
              refine r_goto (pc := 89) (tgt := 12) S0 dX11_findStart_89 (by decide) ?_
              have hz := ok_some hf
              refine r_lv [2, 0] rfl ?_
              exact ih5 (ia s6.1 1, e13) hz (cn_wrap _)
            · have hz := ok_some hf
              refine r_lv [1, 2, 0] rfl ?_
              exact K24 () hz

set_option maxHeartbeats 4000000 in
set_option maxRecDepth 100000 in
theorem c_X11_start (l : Launch) (cA : Nat → ClassId) (D : va_G) (N : Nat) (sx : Sx) (ad : Nat → Nat) (T : Knd) (A : Rfs) (nx : Nat) (I : Mem) (w0 : Nat) (a1 : Int) (ca1 : cn a1) (e : (Int × Mem)) (h : f_X11_start T A w0 a1 I = some e) : CtI l yX11_start cX11_start 2 (some .int) 19 564 cA D N sx ad T A nx [rv ad w0, iv a1] I e.2 e.1 := by
  refine met_of (lv0 := [(0, rv ad w0), (1, iv a1)]) (by decide) (Nat.le_of_ble_eq_true rfl) rfl (fun p e0 s m args below meth c S0 hK hX hr hlk Q hQ => ?_)
  have hf : OK (f_X11_start T A w0 a1 I) (fun z => z = e) := ⟨e, h, rfl⟩
  unfold f_X11_start at hf
  obtain ⟨hw0, hf⟩ := ok_grd hf
  refine r_aload_n (pc := 0) S0 0 dX11_start_0 rfl rfl ?_
  refine r_getR (pc := 1) S0 hK fl_X11_28 dX11_start_1 hf (fun x1 hf => ?_)
  obtain ⟨e2, h3, hf⟩ := ok_bind hf
  refine r_cV_I (pc := 4) [] S0 hK hX mv_X11_170 (k_X2_isThere h3) (c_X2_isThere l cA D N sx ad T A nx I x1 e2 h3) rfl rfl ⟨by decide, by decide⟩ (Nat.le_of_ble_eq_true rfl) ⟨Nat.le_refl _, Nat.le_refl _⟩ dX11_start_4 (fun c4 => ?_)
  refine r_if_eq (pc := 7) (tgt := 17) S0 dX11_start_7 (by decide) c4 hf (fun hf => ?_) (fun hf => ?_)
  · refine r_bipush (pc := 17) S0 dX11_start_17 (by decide) ?_
    have hz := ok_some hf
    have hz : ((-2), I) = e := hz
    subst hQ
    subst hz
    exact r_iret (pc := 19) S0 hr hlk (cnz (-2) rfl) dX11_start_19
  · refine r_iload_n (pc := 10) S0 1 dX11_start_10 rfl rfl ?_
    obtain ⟨e5, h6, hf⟩ := ok_bind hf
    refine r_cS_I (pc := 11) [iv a1] S0 hK hX ms_X11_141 (c_X11_isBit l cA D N sx ad T A nx I a1 ca1 e5 h6) rfl rfl ⟨by decide, by decide⟩ (Nat.le_of_ble_eq_true rfl) ⟨Nat.le_refl _, Nat.le_refl _⟩ dX11_start_11 (fun c7 => ?_)
    refine r_if_ne (pc := 14) (tgt := 20) S0 dX11_start_14 (by decide) c7 hf (fun hf => ?_) (fun hf => ?_)
    · refine r_aload_n (pc := 20) S0 0 dX11_start_20 rfl rfl ?_
      refine r_getI (pc := 21) S0 hK fl_X11_264 dX11_start_21 hf (fun x8 c9 hf => ?_)
      refine thn_rule (P := fun v11 => G p l e0 (rmx 19 564) s m args below meth c 0 0 Q cA D N 2 ad T A nx 31 [(0, rv ad w0), (1, iv a1)] [] v11) hf (fun v11 hf => ?_) (fun K10 hf => ?_)
      · refine r_iload_n (pc := 31) S0 1 dX11_start_31 rfl rfl ?_
        refine r_if_ne (pc := 32) (tgt := 42) S0 dX11_start_32 (by decide) ca1 hf (fun hf => ?_) (fun hf => ?_)
        · refine r_aload_n (pc := 42) S0 0 dX11_start_42 rfl rfl ?_
          refine r_getI (pc := 43) S0 hK fl_X11_274 dX11_start_43 hf (fun x14 c15 hf => ?_)
          have hz := ok_some hf
          have hz : (x14, v11) = e := hz
          subst hQ
          subst hz
          exact r_iret (pc := 46) S0 hr hlk c15 dX11_start_46
        · refine r_aload_n (pc := 35) S0 0 dX11_start_35 rfl rfl ?_
          refine r_getI (pc := 36) S0 hK fl_X11_271 dX11_start_36 hf (fun x16 c17 hf => ?_)
          refine r_goto (pc := 39) (tgt := 46) S0 dX11_start_39 (by decide) ?_
          have hz := ok_some hf
          have hz : (x16, v11) = e := hz
          subst hQ
          subst hz
          exact r_iret (pc := 46) S0 hr hlk c17 dX11_start_46
      · refine r_if_ne (pc := 24) (tgt := 31) S0 dX11_start_24 (by decide) c9 hf (fun hf => ?_) (fun hf => ?_)
        · have hz := ok_some hf
          refine r_lv [0, 1] rfl ?_
          exact K10 I hz
        · refine r_aload_n (pc := 27) S0 0 dX11_start_27 rfl rfl ?_
          obtain ⟨e12, h13, hf⟩ := ok_bind hf
          refine r_cV_V (pc := 28) [] S0 hK hX mv_X11_268 (k_X11_findStart h13) (c_X11_findStart l cA D N sx ad T A nx I w0 e12 h13) rfl rfl ⟨by decide, by decide⟩ (Nat.le_of_ble_eq_true rfl) ⟨Nat.le_refl _, Nat.le_refl _⟩ dX11_start_28 ?_
          have hz := ok_some hf
          refine r_lv [0, 1] rfl ?_
          exact K10 e12 hz
    · refine r_bipush (pc := 17) S0 dX11_start_17 (by decide) ?_
      have hz := ok_some hf
      have hz : ((-2), I) = e := hz
      subst hQ
      subst hz
      exact r_iret (pc := 19) S0 hr hlk (cnz (-2) rfl) dX11_start_19

set_option maxHeartbeats 4000000 in
set_option maxRecDepth 100000 in
theorem c_X11_soonerBy (l : Launch) (cA : Nat → ClassId) (D : va_G) (N : Nat) (sx : Sx) (ad : Nat → Nat) (T : Knd) (A : Rfs) (nx : Nat) (I : Mem) (w0 : Nat) (a1 : Int) (a2 : Int) (ca1 : cn a1) (ca2 : cn a2) (e : (Int × Mem)) (h : f_X11_soonerBy T A w0 a1 a2 I = some e) : CtI l yX11_soonerBy cX11_soonerBy 4 (some .int) 18 542 cA D N sx ad T A nx [rv ad w0, iv a1, iv a2] I e.2 e.1 := by
  refine met_of (lv0 := [(0, rv ad w0), (1, iv a1), (2, iv a2)]) (by decide) (Nat.le_of_ble_eq_true rfl) rfl (fun p e0 s m args below meth c S0 hK hX hr hlk Q hQ => ?_)
  have hf : OK (f_X11_soonerBy T A w0 a1 a2 I) (fun z => z = e) := ⟨e, h, rfl⟩
  unfold f_X11_soonerBy at hf
  obtain ⟨hw0, hf⟩ := ok_grd hf
  refine r_iload_n (pc := 0) S0 2 dX11_soonerBy_0 rfl rfl ?_
  refine r_iconst (pc := 1) S0 dX11_soonerBy_1 ?_
  refine r_icmp_ne (pc := 2) (tgt := 9) S0 dX11_soonerBy_2 (by decide) ca2 (cnz (-1) rfl) hf (fun hf => ?_) (fun hf => ?_)
  · refine r_aload_n (pc := 9) S0 0 dX11_soonerBy_9 rfl rfl ?_
    refine r_getR (pc := 10) S0 hK fl_X11_63 dX11_soonerBy_10 hf (fun x1 hf => ?_)
    refine r_aload_n (pc := 13) S0 0 dX11_soonerBy_13 rfl rfl ?_
    refine r_getR (pc := 14) S0 hK fl_X11_44 dX11_soonerBy_14 hf (fun x2 hf => ?_)
    refine r_iload_n (pc := 17) S0 1 dX11_soonerBy_17 rfl rfl ?_
    refine r_iconst (pc := 18) S0 dX11_soonerBy_18 ?_
    obtain ⟨e3, h4, hf⟩ := ok_bind hf
    refine r_cV_V (pc := 19) [rv ad x2, iv a1, iv 0] S0 hK hX mv_X11_401 (k_X5_search h4) (c_X5_search l cA D N sx ad T A nx I x1 x2 a1 0 ca1 (cnz 0 rfl) e3 h4) rfl rfl ⟨by decide, by decide⟩ (Nat.le_of_ble_eq_true rfl) ⟨Nat.le_refl _, Nat.le_refl _⟩ dX11_soonerBy_19 ?_
    refine r_aload_n (pc := 22) S0 0 dX11_soonerBy_22 rfl rfl ?_
    refine r_getR (pc := 23) S0 hK fl_X11_63 dX11_soonerBy_23 hf (fun x5 hf => ?_)
    refine r_iconst (pc := 26) S0 dX11_soonerBy_26 ?_
    obtain ⟨e6, h7, hf⟩ := ok_bind hf
    refine r_cV_I (pc := 27) [iv 0] S0 hK hX mv_X11_237 (k_X5_best h7) (c_X5_best l cA D N sx ad T A nx e3 x5 0 (cnz 0 rfl) e6 h7) rfl rfl ⟨by decide, by decide⟩ (Nat.le_of_ble_eq_true rfl) ⟨Nat.le_refl _, Nat.le_refl _⟩ dX11_soonerBy_27 (fun c8 => ?_)
    refine r_istore_n (pc := 30) (lv' := [(3, iv e6), (0, rv ad w0), (1, iv a1), (2, iv a2)]) S0 dX11_soonerBy_30 rfl (by decide) rfl ?_
    refine r_iload_n (pc := 31) S0 0 dX11_soonerBy_31 rfl rfl ?_
    refine r_iconst (pc := 32) S0 dX11_soonerBy_32 ?_
    refine r_icmp_ne (pc := 33) (tgt := 42) S0 dX11_soonerBy_33 (by decide) c8 (cnz (-1) rfl) hf (fun hf => ?_) (fun hf => ?_)
    · refine r_iload_n (pc := 42) S0 3 dX11_soonerBy_42 rfl rfl ?_
      refine r_iload_n (pc := 43) S0 0 dX11_soonerBy_43 rfl rfl ?_
      refine r_isub (pc := 44) S0 dX11_soonerBy_44 ?_
      have hz := ok_some hf
      have hz : (isb a2 e6, e3) = e := hz
      subst hQ
      subst hz
      exact r_iret (pc := 45) S0 hr hlk (cn_wrap _) dX11_soonerBy_45
    · refine r_sipush (pc := 36) S0 dX11_soonerBy_36 (by decide) ?_
      refine r_goto (pc := 39) (tgt := 45) S0 dX11_soonerBy_39 (by decide) ?_
      have hz := ok_some hf
      have hz : ((-1000), e3) = e := hz
      subst hQ
      subst hz
      exact r_iret (pc := 45) S0 hr hlk (cnz (-1000) rfl) dX11_soonerBy_45
  · refine r_sipush (pc := 5) S0 dX11_soonerBy_5 (by decide) ?_
    have hz := ok_some hf
    have hz : ((-1000), I) = e := hz
    subst hQ
    subst hz
    exact r_iret (pc := 8) S0 hr hlk (cnz (-1000) rfl) dX11_soonerBy_8

set_option maxHeartbeats 4000000 in
set_option maxRecDepth 100000 in
theorem c_X11_forged (l : Launch) (cA : Nat → ClassId) (D : va_G) (N : Nat) (sx : Sx) (ad : Nat → Nat) (T : Knd) (A : Rfs) (nx : Nat) (I : Mem) (w0 : Nat) (a1 : Int) (ca1 : cn a1) (e : (Int × Mem)) (h : f_X11_forged T A w0 a1 I = some e) : CtI l yX11_forged cX11_forged 2 (some .int) 19 565 cA D N sx ad T A nx [rv ad w0, iv a1] I e.2 e.1 := by
  refine met_of (lv0 := [(0, rv ad w0), (1, iv a1)]) (by decide) (Nat.le_of_ble_eq_true rfl) rfl (fun p e0 s m args below meth c S0 hK hX hr hlk Q hQ => ?_)
  have hf : OK (f_X11_forged T A w0 a1 I) (fun z => z = e) := ⟨e, h, rfl⟩
  unfold f_X11_forged at hf
  obtain ⟨hw0, hf⟩ := ok_grd hf
  refine r_aload_n (pc := 0) S0 0 dX11_forged_0 rfl rfl ?_
  refine r_getR (pc := 1) S0 hK fl_X11_28 dX11_forged_1 hf (fun x1 hf => ?_)
  refine r_iload_n (pc := 4) S0 1 dX11_forged_4 rfl rfl ?_
  obtain ⟨e2, h3, hf⟩ := ok_bind hf
  refine r_cV_I (pc := 5) [iv a1] S0 hK hX mv_X11_133 (k_X2_hasOfficial h3) (c_X2_hasOfficial l cA D N sx ad T A nx I x1 a1 ca1 e2 h3) rfl rfl ⟨by decide, by decide⟩ (Nat.le_of_ble_eq_true rfl) ⟨Nat.le_refl _, Nat.le_refl _⟩ dX11_forged_5 (fun c4 => ?_)
  refine r_if_ne (pc := 8) (tgt := 15) S0 dX11_forged_8 (by decide) c4 hf (fun hf => ?_) (fun hf => ?_)
  · refine r_aload_n (pc := 15) S0 0 dX11_forged_15 rfl rfl ?_
    refine r_iload_n (pc := 16) S0 1 dX11_forged_16 rfl rfl ?_
    refine r_aload_n (pc := 17) S0 0 dX11_forged_17 rfl rfl ?_
    obtain ⟨e5, h6, hf⟩ := ok_bind hf
    refine r_cV_R (pc := 18) [] S0 hK hX mv_X11_233 (k_X11_soonRows h6) (c_X11_soonRows l cA D N sx ad T A nx I w0 e5 h6) rfl rfl ⟨by decide, by decide⟩ (Nat.le_of_ble_eq_true rfl) ⟨Nat.le_refl _, Nat.le_refl _⟩ dX11_forged_18 ?_
    refine r_iconst (pc := 21) S0 dX11_forged_21 ?_
    obtain ⟨e7, h8, hf⟩ := ok_bind hf
    refine r_cV_I (pc := 22) [iv 0] S0 hK hX mv_X11_237 (k_X5_best h8) (c_X5_best l cA D N sx ad T A nx e5.2 e5.1 0 (cnz 0 rfl) e7 h8) rfl rfl ⟨by decide, by decide⟩ (Nat.le_of_ble_eq_true rfl) ⟨Nat.le_refl _, Nat.le_refl _⟩ dX11_forged_22 (fun c9 => ?_)
    obtain ⟨e10, h11, hf⟩ := ok_bind hf
    refine r_cV_I (pc := 25) [iv a1, iv e7] S0 hK hX mv_X11_277 (k_X11_soonerBy h11) (c_X11_soonerBy l cA D N sx ad T A nx e5.2 w0 a1 e7 ca1 c9 e10 h11) rfl rfl ⟨by decide, by decide⟩ (Nat.le_of_ble_eq_true rfl) ⟨Nat.le_refl _, Nat.le_refl _⟩ dX11_forged_25 (fun c12 => ?_)
    have hz := ok_some hf
    have hz : (e10.1, e10.2) = e := hz
    subst hQ
    subst hz
    exact r_iret (pc := 28) S0 hr hlk c12 dX11_forged_28
  · refine r_sipush (pc := 11) S0 dX11_forged_11 (by decide) ?_
    have hz := ok_some hf
    have hz : ((-2000), I) = e := hz
    subst hQ
    subst hz
    exact r_iret (pc := 14) S0 hr hlk (cnz (-2000) rfl) dX11_forged_14

set_option maxHeartbeats 4000000 in
set_option maxRecDepth 100000 in
theorem c_X11_fake (l : Launch) (cA : Nat → ClassId) (D : va_G) (N : Nat) (sx : Sx) (ad : Nat → Nat) (T : Knd) (A : Rfs) (nx : Nat) (I : Mem) (w0 : Nat)  (e : (Int × Mem)) (h : f_X11_fake T A w0 I = some e) : CtI l yX11_fake cX11_fake 6 (some .int) 19 565 cA D N sx ad T A nx [rv ad w0] I e.2 e.1 := by
  refine met_of (lv0 := [(0, rv ad w0)]) (by decide) (Nat.le_of_ble_eq_true rfl) rfl (fun p e0 s m args below meth c S0 hK hX hr hlk Q hQ => ?_)
  have hf : OK (f_X11_fake T A w0 I) (fun z => z = e) := ⟨e, h, rfl⟩
  unfold f_X11_fake at hf
  obtain ⟨hw0, hf⟩ := ok_grd hf
  refine r_aload_n (pc := 0) S0 0 dX11_fake_0 rfl rfl ?_
  refine r_getR (pc := 1) S0 hK fl_X11_28 dX11_fake_1 hf (fun x1 hf => ?_)
  obtain ⟨e2, h3, hf⟩ := ok_bind hf
  refine r_cV_I (pc := 4) [] S0 hK hX mv_X11_170 (k_X2_isThere h3) (c_X2_isThere l cA D N sx ad T A nx I x1 e2 h3) rfl rfl ⟨by decide, by decide⟩ (Nat.le_of_ble_eq_true rfl) ⟨Nat.le_refl _, Nat.le_refl _⟩ dX11_fake_4 (fun c4 => ?_)
  refine r_if_ne (pc := 7) (tgt := 13) S0 dX11_fake_7 (by decide) c4 hf (fun hf => ?_) (fun hf => ?_)
  · refine r_aload_n (pc := 13) S0 0 dX11_fake_13 rfl rfl ?_
    obtain ⟨e5, h6, hf⟩ := ok_bind hf
    refine r_cV_R (pc := 14) [] S0 hK hX mv_X11_233 (k_X11_soonRows h6) (c_X11_soonRows l cA D N sx ad T A nx I w0 e5 h6) rfl rfl ⟨by decide, by decide⟩ (Nat.le_of_ble_eq_true rfl) ⟨Nat.le_refl _, Nat.le_refl _⟩ dX11_fake_14 ?_
    refine r_iconst (pc := 17) S0 dX11_fake_17 ?_
    obtain ⟨e7, h8, hf⟩ := ok_bind hf
    refine r_cV_I (pc := 18) [iv 0] S0 hK hX mv_X11_237 (k_X5_best h8) (c_X5_best l cA D N sx ad T A nx e5.2 e5.1 0 (cnz 0 rfl) e7 h8) rfl rfl ⟨by decide, by decide⟩ (Nat.le_of_ble_eq_true rfl) ⟨Nat.le_refl _, Nat.le_refl _⟩ dX11_fake_18 (fun c9 => ?_)
    refine r_istore_n (pc := 21) (lv' := [(1, iv e7), (0, rv ad w0)]) S0 dX11_fake_21 rfl (by decide) rfl ?_
    refine r_iconst (pc := 22) S0 dX11_fake_22 ?_
    refine r_istore_n (pc := 23) (lv' := [(2, iv 0), (1, iv e7), (0, rv ad w0)]) S0 dX11_fake_23 rfl (by decide) rfl ?_
    refine r_iconst (pc := 24) S0 dX11_fake_24 ?_
    refine r_istore_n (pc := 25) (lv' := [(3, iv (-1)), (2, iv 0), (1, iv e7), (0, rv ad w0)]) S0 dX11_fake_25 rfl (by decide) rfl ?_
    refine r_iconst (pc := 26) S0 dX11_fake_26 ?_
    refine r_istore (pc := 27) (lv' := [(4, iv 0), (3, iv (-1)), (2, iv 0), (1, iv e7), (0, rv ad w0)]) S0 dX11_fake_27 (by decide) rfl ?_
    refine r_lv [4, 3, 2, 1, 0] rfl ?_
    refine it_ind (P := fun s11 => cn s11.1 → cn s11.2.1 → cn s11.2.2.1 → G p l e0 (rmx 19 565) s m args below meth c 0 0 Q cA D N 6 ad T A nx 29 [(0, rv ad w0), (1, iv e7), (2, iv s11.1), (3, iv s11.2.1), (4, iv s11.2.2.1)] [] s11.2.2.2) (fun n0 s11 ih10 hf c12 c13 c14 => ?_) FU (0, (-1), 0, e5.2) hf (cnz 0 rfl) (cnz (-1) rfl) (cnz 0 rfl)
    refine r_iload (pc := 29) S0 4 dX11_fake_29 rfl ?_
    refine r_aload_n (pc := 31) S0 0 dX11_fake_31 rfl rfl ?_
    refine r_getR (pc := 32) S0 hK fl_X11_28 dX11_fake_32 hf (fun x15 hf => ?_)
    refine r_getI (pc := 35) S0 hK fl_X11_144 dX11_fake_35 hf (fun x16 c17 hf => ?_)
    refine r_icmp_ge (pc := 38) (tgt := 68) S0 dX11_fake_38 (by decide) c14 c17 hf (fun hf => ?_) (fun hf => ?_)
    · refine r_iload_n (pc := 68) S0 3 dX11_fake_68 rfl rfl ?_
      have hz := ok_some hf
      have hz : (s11.2.1, s11.2.2.2) = e := hz
      subst hQ
      subst hz
      exact r_iret (pc := 69) S0 hr hlk c13 dX11_fake_69
    · refine r_aload_n (pc := 41) S0 0 dX11_fake_41 rfl rfl ?_
      refine r_iload (pc := 42) S0 4 dX11_fake_42 rfl ?_
      refine r_iload_n (pc := 44) S0 1 dX11_fake_44 rfl rfl ?_
      obtain ⟨e18, h19, hf⟩ := ok_bind hf
      refine r_cV_I (pc := 45) [iv s11.2.2.1, iv e7] S0 hK hX mv_X11_277 (k_X11_soonerBy h19) (c_X11_soonerBy l cA D N sx ad T A nx s11.2.2.2 w0 s11.2.2.1 e7 c14 c9 e18 h19) rfl rfl ⟨by decide, by decide⟩ (Nat.le_of_ble_eq_true rfl) ⟨Nat.le_refl _, Nat.le_refl _⟩ dX11_fake_45 (fun c20 => ?_)
      refine r_istore (pc := 48) (lv' := [(5, iv e18.1), (0, rv ad w0), (1, iv e7), (2, iv s11.1), (3, iv s11.2.1), (4, iv s11.2.2.1)]) S0 dX11_fake_48 (by decide) rfl ?_
      refine r_iload (pc := 50) S0 0 dX11_fake_50 rfl ?_
      refine r_iload_n (pc := 52) S0 3 dX11_fake_52 rfl rfl ?_
      refine r_icmp_le (pc := 53) (tgt := 62) S0 dX11_fake_53 (by decide) c20 c12 hf (fun hf => ?_) (fun hf => ?_)
      · refine r_iinc (pc := 62) (lv' := [(4, iv (ia s11.2.2.1 1)), (5, iv e18.1), (0, rv ad w0), (1, iv e7), (2, iv s11.1), (3, iv s11.2.1)]) S0 5 dX11_fake_62 rfl (by decide) rfl ?_
        refine r_goto (pc := 65) (tgt := 29) S0 dX11_fake_65 (by decide) ?_
        have hz := ok_some hf
        refine r_lv [2, 3, 4, 5, 0] rfl ?_
        exact ih10 (s11.1, s11.2.1, ia s11.2.2.1 1, e18.2) hz c12 c13 (cn_wrap _)
      · refine r_iload (pc := 56) S0 0 dX11_fake_56 rfl ?_
        refine r_istore_n (pc := 58) (lv' := [(2, iv e18.1), (5, iv e18.1), (0, rv ad w0), (1, iv e7), (3, iv s11.2.1), (4, iv s11.2.2.1)]) S0 dX11_fake_58 rfl (by decide) rfl ?_
        refine r_iload (pc := 59) S0 5 dX11_fake_59 rfl ?_
        refine r_istore_n (pc := 61) (lv' := [(3, iv s11.2.2.1), (2, iv e18.1), (5, iv e18.1), (0, rv ad w0), (1, iv e7), (4, iv s11.2.2.1)]) S0 dX11_fake_61 rfl (by decide) rfl ?_
        refine r_iinc (pc := 62) (lv' := [(4, iv (ia s11.2.2.1 1)), (3, iv s11.2.2.1), (2, iv e18.1), (5, iv e18.1), (0, rv ad w0), (1, iv e7)]) S0 5 dX11_fake_62 rfl (by decide) rfl ?_
        refine r_goto (pc := 65) (tgt := 29) S0 dX11_fake_65 (by decide) ?_
        have hz := ok_some hf
        refine r_lv [4, 5, 2, 1, 0] rfl ?_
        exact ih10 (e18.1, s11.2.2.1, ia s11.2.2.1 1, e18.2) hz c20 c14 (cn_wrap _)
  · refine r_bipush (pc := 10) S0 dX11_fake_10 (by decide) ?_
    have hz := ok_some hf
    have hz : ((-2), I) = e := hz
    subst hQ
    subst hz
    exact r_iret (pc := 12) S0 hr hlk (cnz (-2) rfl) dX11_fake_12

set_option maxHeartbeats 4000000 in
set_option maxRecDepth 100000 in
theorem c_X2_hasSet (l : Launch) (cA : Nat → ClassId) (D : va_G) (N : Nat) (sx : Sx) (ad : Nat → Nat) (T : Knd) (A : Rfs) (nx : Nat) (I : Mem) (w0 : Nat) (a1 : Int) (ca1 : cn a1) (e : Int) (h : f_X2_hasSet T A w0 a1 I = some e) : CtI l yX2_hasSet cX2_hasSet 2 (some .boolean) 2 80 cA D N sx ad T A nx [rv ad w0, iv a1] I I e := by
  refine met_of (lv0 := [(0, rv ad w0), (1, iv a1)]) (by decide) (Nat.le_of_ble_eq_true rfl) rfl (fun p e0 s m args below meth c S0 hK hX hr hlk Q hQ => ?_)
  have hf : OK (f_X2_hasSet T A w0 a1 I) (fun z => z = e) := ⟨e, h, rfl⟩
  unfold f_X2_hasSet at hf
  obtain ⟨hw0, hf⟩ := ok_grd hf
  refine r_aload_n (pc := 0) S0 0 dX2_hasSet_0 rfl rfl ?_
  obtain ⟨e1, h2, hf⟩ := ok_bind hf
  refine r_cV_I (pc := 1) [] S0 hK hX mv_X2_57 (k_X2_isThere h2) (c_X2_isThere l cA D N sx ad T A nx I w0 e1 h2) rfl rfl ⟨by decide, by decide⟩ (Nat.le_of_ble_eq_true rfl) ⟨Nat.le_refl _, Nat.le_refl _⟩ dX2_hasSet_1 (fun c3 => ?_)
  refine r_if_eq (pc := 4) (tgt := 25) S0 dX2_hasSet_4 (by decide) c3 hf (fun hf => ?_) (fun hf => ?_)
  · refine r_iconst (pc := 25) S0 dX2_hasSet_25 ?_
    have hz := ok_some hf
    have hz : 0 = e := hz
    subst hQ
    subst hz
    exact r_zret (pc := 26) S0 hr hlk (Or.inl rfl) dX2_hasSet_26
  · refine r_iload_n (pc := 7) S0 1 dX2_hasSet_7 rfl rfl ?_
    refine r_if_lt (pc := 8) (tgt := 25) S0 dX2_hasSet_8 (by decide) ca1 hf (fun hf => ?_) (fun hf => ?_)
    · refine r_iconst (pc := 25) S0 dX2_hasSet_25 ?_
      have hz := ok_some hf
      have hz : 0 = e := hz
      subst hQ
      subst hz
      exact r_zret (pc := 26) S0 hr hlk (Or.inl rfl) dX2_hasSet_26
    · refine r_iload_n (pc := 11) S0 1 dX2_hasSet_11 rfl rfl ?_
      refine r_iconst (pc := 12) S0 dX2_hasSet_12 ?_
      refine r_aload_n (pc := 13) S0 0 dX2_hasSet_13 rfl rfl ?_
      refine r_getI (pc := 14) S0 hK fl_X2_36 dX2_hasSet_14 hf (fun x4 c5 hf => ?_)
      refine r_ishl (pc := 17) S0 dX2_hasSet_17 ?_
      refine r_icmp_ge (pc := 18) (tgt := 25) S0 dX2_hasSet_18 (by decide) ca1 (cn_toInt _) hf (fun hf => ?_) (fun hf => ?_)
      · refine r_iconst (pc := 25) S0 dX2_hasSet_25 ?_
        have hz := ok_some hf
        have hz : 0 = e := hz
        subst hQ
        subst hz
        exact r_zret (pc := 26) S0 hr hlk (Or.inl rfl) dX2_hasSet_26
      · refine r_iconst (pc := 21) S0 dX2_hasSet_21 ?_
        refine r_goto (pc := 22) (tgt := 26) S0 dX2_hasSet_22 (by decide) ?_
        have hz := ok_some hf
        have hz : 1 = e := hz
        subst hQ
        subst hz
        exact r_zret (pc := 26) S0 hr hlk (Or.inr rfl) dX2_hasSet_26

set_option maxHeartbeats 4000000 in
set_option maxRecDepth 100000 in
theorem c_X6_countOrders (l : Launch) (cA : Nat → ClassId) (D : va_G) (N : Nat) (sx : Sx) (ad : Nat → Nat) (T : Knd) (A : Rfs) (nx : Nat) (I : Mem) (w0 : Nat)  (e : Mem) (h : f_X6_countOrders T A w0 I = some e) : CtV l yX6_countOrders cX6_countOrders 6 none 1 60 cA D N sx ad T A nx [rv ad w0] I e := by
  refine met_of (lv0 := [(0, rv ad w0)]) (by decide) (Nat.le_of_ble_eq_true rfl) rfl (fun p e0 s m args below meth c S0 hK hX hr hlk Q hQ => ?_)
  have hf : OK (f_X6_countOrders T A w0 I) (fun z => z = e) := ⟨e, h, rfl⟩
  unfold f_X6_countOrders at hf
  obtain ⟨hw0, hf⟩ := ok_grd hf
  refine r_aload_n (pc := 0) S0 0 dX6_countOrders_0 rfl rfl ?_
  refine r_getR (pc := 1) S0 hK fl_X6_18 dX6_countOrders_1 hf (fun x1 hf => ?_)
  refine r_iconst (pc := 4) S0 dX6_countOrders_4 ?_
  refine r_lconst (pc := 5) (v := 1) S0 dX6_countOrders_5 rfl ?_
  refine r_last (pc := 6) S0 hK dX6_countOrders_6 (cnz 0 rfl) (clz 1 rfl) hf (fun I2 hf => ?_)
  refine r_iconst (pc := 7) S0 dX6_countOrders_7 ?_
  refine r_istore_n (pc := 8) (lv' := [(1, iv 1), (0, rv ad w0)]) S0 dX6_countOrders_8 rfl (by decide) rfl ?_
  refine r_lv [1, 0] rfl ?_
  refine it_ind (P := fun s4 => cn s4.1 → G p l e0 (rmx 1 60) s m args below meth c 0 0 Q cA D N 6 ad T A nx 9 [(0, rv ad w0), (1, iv s4.1)] [] s4.2) (fun n0 s4 ih3 hf c5 => ?_) FU (1, I2) hf (cnz 1 rfl)
  refine r_iload_n (pc := 9) S0 1 dX6_countOrders_9 rfl rfl ?_
  refine r_aload_n (pc := 10) S0 0 dX6_countOrders_10 rfl rfl ?_
  refine r_getI (pc := 11) S0 hK fl_X6_41 dX6_countOrders_11 hf (fun x6 c7 hf => ?_)
  refine r_icmp_ge (pc := 14) (tgt := 104) S0 dX6_countOrders_14 (by decide) c5 c7 hf (fun hf => ?_) (fun hf => ?_)
  · have hz := ok_some hf
    have hz : s4.2 = e := hz
    subst hQ
    subst hz
    exact r_vret (pc := 104) S0 hr hlk dX6_countOrders_104
  · refine r_lconst (pc := 17) (v := 0) S0 dX6_countOrders_17 rfl ?_
    refine r_lstore_n (pc := 18) (lv' := [(2, jv 0), (0, rv ad w0), (1, iv s4.1)]) S0 dX6_countOrders_18 rfl (by decide) rfl ?_
    refine r_iconst (pc := 19) S0 dX6_countOrders_19 ?_
    refine r_istore (pc := 20) (lv' := [(4, iv 0), (2, jv 0), (0, rv ad w0), (1, iv s4.1)]) S0 dX6_countOrders_20 (by decide) rfl ?_
    refine thn_rule (P := fun v9 => cl v9 → G p l e0 (rmx 1 60) s m args below meth c 0 0 Q cA D N 6 ad T A nx 91 [(0, rv ad w0), (1, iv s4.1), (2, jv v9)] [] s4.2) hf (fun v9 hf c10 => ?_) (fun K8 hf => ?_)
    · refine r_aload_n (pc := 91) S0 0 dX6_countOrders_91 rfl rfl ?_
      refine r_getR (pc := 92) S0 hK fl_X6_18 dX6_countOrders_92 hf (fun x26 hf => ?_)
      refine r_iload_n (pc := 95) S0 1 dX6_countOrders_95 rfl rfl ?_
      refine r_lload_n (pc := 96) S0 2 dX6_countOrders_96 rfl rfl ?_
      refine r_last (pc := 97) S0 hK dX6_countOrders_97 c5 c10 hf (fun I27 hf => ?_)
      refine r_iinc (pc := 98) (lv' := [(1, iv (ia s4.1 1)), (0, rv ad w0), (2, jv v9)]) S0 1 dX6_countOrders_98 rfl (by decide) rfl ?_
      refine r_goto (pc := 101) (tgt := 9) S0 dX6_countOrders_101 (by decide) ?_
      have hz := ok_some hf
      refine r_lv [1, 0] rfl ?_
      exact ih3 (ia s4.1 1, I27) hz (cn_wrap _)
    · refine r_lv [2, 3, 1, 0] rfl ?_
      refine it_ind (P := fun s12 => cl s12.1 → cn s12.2 → G p l e0 (rmx 1 60) s m args below meth c 0 0 Q cA D N 6 ad T A nx 22 [(0, rv ad w0), (1, iv s4.1), (2, jv s12.1), (4, iv s12.2)] [] s4.2) (fun n0 s12 ih11 hf c13 c14 => ?_) FU (0, 0) hf (clz 0 rfl) (cnz 0 rfl)
      refine r_iload (pc := 22) S0 3 dX6_countOrders_22 rfl ?_
      refine r_aload_n (pc := 24) S0 0 dX6_countOrders_24 rfl rfl ?_
      refine r_getI (pc := 25) S0 hK fl_X6_40 dX6_countOrders_25 hf (fun x15 c16 hf => ?_)
      refine r_icmp_ge (pc := 28) (tgt := 91) S0 dX6_countOrders_28 (by decide) c14 c16 hf (fun hf => ?_) (fun hf => ?_)
      · have hz := ok_some hf
        refine r_lv [0, 1, 2] rfl ?_
        exact K8 s12.1 hz c13
      · refine r_iload_n (pc := 31) S0 1 dX6_countOrders_31 rfl rfl ?_
        refine r_iconst (pc := 32) S0 dX6_countOrders_32 ?_
        refine r_iload (pc := 33) S0 3 dX6_countOrders_33 rfl ?_
        refine r_ishl (pc := 35) S0 dX6_countOrders_35 ?_
        refine r_iconst (pc := 36) S0 dX6_countOrders_36 ?_
        refine r_ixor (pc := 37) S0 dX6_countOrders_37 ?_
        refine r_iand (pc := 38) S0 dX6_countOrders_38 ?_
        refine r_istore (pc := 39) (lv' := [(5, iv (iand s4.1 (ixor (ishl 1 s12.2) (-1)))), (0, rv ad w0), (1, iv s4.1), (2, jv s12.1), (4, iv s12.2)]) S0 dX6_countOrders_39 (by decide) rfl ?_
        refine r_iload (pc := 41) S0 0 dX6_countOrders_41 rfl ?_
        refine r_iload_n (pc := 43) S0 2 dX6_countOrders_43 rfl rfl ?_
        refine r_icmp_eq (pc := 44) (tgt := 85) S0 dX6_countOrders_44 (by decide) (cn_toInt _) c5 hf (fun hf => ?_) (fun hf => ?_)
        · refine r_iinc (pc := 85) (lv' := [(4, iv (ia s12.2 1)), (5, iv (iand s4.1 (ixor (ishl 1 s12.2) (-1)))), (0, rv ad w0), (1, iv s4.1), (2, jv s12.1)]) S0 4 dX6_countOrders_85 rfl (by decide) rfl ?_
          refine r_goto (pc := 88) (tgt := 22) S0 dX6_countOrders_88 (by decide) ?_
          have hz := ok_some hf
          refine r_lv [2, 3, 4, 0] rfl ?_
          exact ih11 (s12.1, ia s12.2 1) hz c13 (cn_wrap _)
        · refine r_aload_n (pc := 47) S0 1 dX6_countOrders_47 rfl rfl ?_
          refine r_getR (pc := 48) S0 hK fl_X6_9 dX6_countOrders_48 hf (fun x17 hf => ?_)
          refine r_iload (pc := 51) S0 4 dX6_countOrders_51 rfl ?_
          refine r_iald (pc := 53) S0 hK dX6_countOrders_53 c14 hf (fun x18 c19 hf => ?_)
          refine r_iload (pc := 54) S0 0 dX6_countOrders_54 rfl ?_
          refine r_iconst (pc := 56) S0 dX6_countOrders_56 ?_
          refine r_ixor (pc := 57) S0 dX6_countOrders_57 ?_
          refine r_iand (pc := 58) S0 dX6_countOrders_58 ?_
          refine r_if_ne (pc := 59) (tgt := 85) S0 dX6_countOrders_59 (by decide) (cn_toInt _) hf (fun hf => ?_) (fun hf => ?_)
          · refine r_iinc (pc := 85) (lv' := [(4, iv (ia s12.2 1)), (5, iv (iand s4.1 (ixor (ishl 1 s12.2) (-1)))), (0, rv ad w0), (1, iv s4.1), (2, jv s12.1)]) S0 4 dX6_countOrders_85 rfl (by decide) rfl ?_
            refine r_goto (pc := 88) (tgt := 22) S0 dX6_countOrders_88 (by decide) ?_
            have hz := ok_some hf
            refine r_lv [2, 3, 4, 0] rfl ?_
            exact ih11 (s12.1, ia s12.2 1) hz c13 (cn_wrap _)
          · refine r_aload_n (pc := 62) S0 1 dX6_countOrders_62 rfl rfl ?_
            refine r_getR (pc := 63) S0 hK fl_X6_15 dX6_countOrders_63 hf (fun x20 hf => ?_)
            refine r_iload (pc := 66) S0 4 dX6_countOrders_66 rfl ?_
            refine r_iald (pc := 68) S0 hK dX6_countOrders_68 c14 hf (fun x21 c22 hf => ?_)
            refine r_iload (pc := 69) S0 0 dX6_countOrders_69 rfl ?_
            refine r_iand (pc := 71) S0 dX6_countOrders_71 ?_
            refine r_if_ne (pc := 72) (tgt := 85) S0 dX6_countOrders_72 (by decide) (cn_toInt _) hf (fun hf => ?_) (fun hf => ?_)
            · refine r_iinc (pc := 85) (lv' := [(4, iv (ia s12.2 1)), (5, iv (iand s4.1 (ixor (ishl 1 s12.2) (-1)))), (0, rv ad w0), (1, iv s4.1), (2, jv s12.1)]) S0 4 dX6_countOrders_85 rfl (by decide) rfl ?_
              refine r_goto (pc := 88) (tgt := 22) S0 dX6_countOrders_88 (by decide) ?_
              have hz := ok_some hf
              refine r_lv [2, 3, 4, 0] rfl ?_
              exact ih11 (s12.1, ia s12.2 1) hz c13 (cn_wrap _)
            · refine r_lload_n (pc := 75) S0 3 dX6_countOrders_75 rfl rfl ?_
              refine r_aload_n (pc := 76) S0 1 dX6_countOrders_76 rfl rfl ?_
              refine r_getR (pc := 77) S0 hK fl_X6_18 dX6_countOrders_77 hf (fun x23 hf => ?_)
              refine r_iload (pc := 80) S0 0 dX6_countOrders_80 rfl ?_
              refine r_lald (pc := 82) S0 hK dX6_countOrders_82 (cn_toInt _) hf (fun x24 c25 hf => ?_)
              refine r_ladd (pc := 83) S0 dX6_countOrders_83 ?_
              refine r_lstore_n (pc := 84) (lv' := [(2, jv (ila s12.1 x24)), (5, iv (iand s4.1 (ixor (ishl 1 s12.2) (-1)))), (0, rv ad w0), (1, iv s4.1), (4, iv s12.2)]) S0 dX6_countOrders_84 rfl (by decide) rfl ?_
              refine r_iinc (pc := 85) (lv' := [(4, iv (ia s12.2 1)), (2, jv (ila s12.1 x24)), (5, iv (iand s4.1 (ixor (ishl 1 s12.2) (-1)))), (0, rv ad w0), (1, iv s4.1)]) S0 4 dX6_countOrders_85 rfl (by decide) rfl ?_
              refine r_goto (pc := 88) (tgt := 22) S0 dX6_countOrders_88 (by decide) ?_
              have hz := ok_some hf
              refine r_lv [3, 4, 1, 0] rfl ?_
              exact ih11 (ila s12.1 x24, ia s12.2 1) hz (cl_wrapl _) (cn_wrap _)

set_option maxHeartbeats 4000000 in
set_option maxRecDepth 100000 in
theorem c_X6_learn (l : Launch) (cA : Nat → ClassId) (D : va_G) (N : Nat) (sx : Sx) (ad : Nat → Nat) (T : Knd) (A : Rfs) (nx : Nat) (I : Mem) (w0 : Nat) (w1 : Nat)  (e : Mem) (h : f_X6_learn T A w0 w1 I = some e) : CtV l yX6_learn cX6_learn 2 none 2 85 cA D N sx ad T A nx [rv ad w0, rv ad w1] I e := by
  refine met_of (lv0 := [(0, rv ad w0), (1, rv ad w1)]) (by decide) (Nat.le_of_ble_eq_true rfl) rfl (fun p e0 s m args below meth c S0 hK hX hr hlk Q hQ => ?_)
  have hf : OK (f_X6_learn T A w0 w1 I) (fun z => z = e) := ⟨e, h, rfl⟩
  unfold f_X6_learn at hf
  obtain ⟨hw0, hf⟩ := ok_grd hf
  refine r_aload_n (pc := 0) S0 0 dX6_learn_0 rfl rfl ?_
  refine r_aload_n (pc := 1) S0 1 dX6_learn_1 rfl rfl ?_
  refine r_getI (pc := 2) S0 hK fl_X6_28 dX6_learn_2 hf (fun x1 c2 hf => ?_)
  refine r_bipush (pc := 5) S0 dX6_learn_5 (by decide) ?_
  refine r_mmin (pc := 7) S0 mmmin_X6_34 ⟨by decide, Nat.le_of_ble_eq_true rfl⟩ ⟨Nat.le_refl _, Nat.le_refl _⟩ dX6_learn_7 c2 (cnz 8 rfl) ?_
  refine r_putI (pc := 10) S0 hK fl_X6_40 rfl rfl (cn_imin c2 (cnz 8 rfl)) dX6_learn_10 hf (fun I3 hf => ?_)
  refine r_aload_n (pc := 13) S0 0 dX6_learn_13 rfl rfl ?_
  refine r_iconst (pc := 14) S0 dX6_learn_14 ?_
  refine r_aload_n (pc := 15) S0 0 dX6_learn_15 rfl rfl ?_
  refine r_getI (pc := 16) S0 hK fl_X6_40 dX6_learn_16 hf (fun x4 c5 hf => ?_)
  refine r_ishl (pc := 19) S0 dX6_learn_19 ?_
  refine r_putI (pc := 20) S0 hK fl_X6_41 rfl rfl (cn_toInt _) dX6_learn_20 hf (fun I6 hf => ?_)
  refine r_aload_n (pc := 23) S0 1 dX6_learn_23 rfl rfl ?_
  refine r_getR (pc := 24) S0 hK fl_X6_44 dX6_learn_24 hf (fun x7 hf => ?_)
  refine r_bipush (pc := 27) S0 dX6_learn_27 (by decide) ?_
  refine r_aald 24 4 (pc := 29) S0 hK (by decide) rfl rfl dX6_learn_29 (cnz 9 rfl) hf (fun x8 hf => ?_)
  refine r_iconst (pc := 30) S0 dX6_learn_30 ?_
  refine r_aload_n (pc := 31) S0 0 dX6_learn_31 rfl rfl ?_
  refine r_getR (pc := 32) S0 hK fl_X6_9 dX6_learn_32 hf (fun x9 hf => ?_)
  refine r_iconst (pc := 35) S0 dX6_learn_35 ?_
  refine r_bipush (pc := 36) S0 dX6_learn_36 (by decide) ?_
  refine r_acpi (pc := 38) S0 hK ma_X6_48 dX6_learn_38 (cnz 0 rfl) (cnz 0 rfl) (cnz 8 rfl) ⟨Nat.le_of_ble_eq_true rfl, Nat.le_of_ble_eq_true rfl⟩ hf (fun I10 hf => ?_)
  refine r_aload_n (pc := 41) S0 1 dX6_learn_41 rfl rfl ?_
  refine r_getR (pc := 42) S0 hK fl_X6_44 dX6_learn_42 hf (fun x11 hf => ?_)
  refine r_bipush (pc := 45) S0 dX6_learn_45 (by decide) ?_
  refine r_aald 24 4 (pc := 47) S0 hK (by decide) rfl rfl dX6_learn_47 (cnz 10 rfl) hf (fun x12 hf => ?_)
  refine r_iconst (pc := 48) S0 dX6_learn_48 ?_
  refine r_aload_n (pc := 49) S0 0 dX6_learn_49 rfl rfl ?_
  refine r_getR (pc := 50) S0 hK fl_X6_15 dX6_learn_50 hf (fun x13 hf => ?_)
  refine r_iconst (pc := 53) S0 dX6_learn_53 ?_
  refine r_bipush (pc := 54) S0 dX6_learn_54 (by decide) ?_
  refine r_acpi (pc := 56) S0 hK ma_X6_48 dX6_learn_56 (cnz 0 rfl) (cnz 0 rfl) (cnz 8 rfl) ⟨Nat.le_of_ble_eq_true rfl, Nat.le_of_ble_eq_true rfl⟩ hf (fun I14 hf => ?_)
  refine r_aload_n (pc := 59) S0 0 dX6_learn_59 rfl rfl ?_
  obtain ⟨e15, h16, hf⟩ := ok_bind hf
  refine r_cV_V (pc := 60) [] S0 hK hX mv_X6_54 (k_X6_countOrders h16) (c_X6_countOrders l cA D N sx ad T A nx I14 w0 e15 h16) rfl rfl ⟨by decide, by decide⟩ (Nat.le_of_ble_eq_true rfl) ⟨Nat.le_refl _, Nat.le_refl _⟩ dX6_learn_60 ?_
  have hz := ok_some hf
  have hz : e15 = e := hz
  subst hQ
  subst hz
  exact r_vret (pc := 63) S0 hr hlk dX6_learn_63

set_option maxHeartbeats 4000000 in
set_option maxRecDepth 100000 in
theorem c_X11_knownSets (l : Launch) (cA : Nat → ClassId) (D : va_G) (N : Nat) (sx : Sx) (ad : Nat → Nat) (T : Knd) (A : Rfs) (nx : Nat) (I : Mem) (w0 : Nat)  (e : (Nat × Mem)) (h : f_X11_knownSets T A w0 I = some e) : CtR l yX11_knownSets cX11_knownSets 1 (some (.object RX6)) 3 106 cA D N sx ad T A nx [rv ad w0] I e.2 e.1 := by
  refine met_of (lv0 := [(0, rv ad w0)]) (by decide) (Nat.le_of_ble_eq_true rfl) rfl (fun p e0 s m args below meth c S0 hK hX hr hlk Q hQ => ?_)
  have hf : OK (f_X11_knownSets T A w0 I) (fun z => z = e) := ⟨e, h, rfl⟩
  unfold f_X11_knownSets at hf
  obtain ⟨hw0, hf⟩ := ok_grd hf
  refine r_aload_n (pc := 0) S0 0 dX11_knownSets_0 rfl rfl ?_
  refine r_getR (pc := 1) S0 hK fl_X11_69 dX11_knownSets_1 hf (fun x1 hf => ?_)
  refine r_aload_n (pc := 4) S0 0 dX11_knownSets_4 rfl rfl ?_
  refine r_getR (pc := 5) S0 hK fl_X11_28 dX11_knownSets_5 hf (fun x2 hf => ?_)
  obtain ⟨e3, h4, hf⟩ := ok_bind hf
  refine r_cV_V (pc := 8) [rv ad x2] S0 hK hX mv_X11_405 (k_X6_learn h4) (c_X6_learn l cA D N sx ad T A nx I x1 x2 e3 h4) rfl rfl ⟨by decide, by decide⟩ (Nat.le_of_ble_eq_true rfl) ⟨Nat.le_refl _, Nat.le_refl _⟩ dX11_knownSets_8 ?_
  refine r_aload_n (pc := 11) S0 0 dX11_knownSets_11 rfl rfl ?_
  refine r_getR (pc := 12) S0 hK fl_X11_69 dX11_knownSets_12 hf (fun x5 hf => ?_)
  have hz := ok_some hf
  have hz : (x5, e3) = e := hz
  subst hQ
  subst hz
  exact r_aret (pc := 15) S0 hr hlk dX11_knownSets_15

set_option maxHeartbeats 4000000 in
set_option maxRecDepth 100000 in
theorem c_X6_ordersOf (l : Launch) (cA : Nat → ClassId) (D : va_G) (N : Nat) (sx : Sx) (ad : Nat → Nat) (T : Knd) (A : Rfs) (nx : Nat) (I : Mem) (w0 : Nat) (a1 : Int) (ca1 : cn a1) (e : Int) (h : f_X6_ordersOf T A w0 a1 I = some e) : CtJ l yX6_ordersOf cX6_ordersOf 2 (some .long) 1 60 cA D N sx ad T A nx [rv ad w0, iv a1] I I e := by
  refine met_of (lv0 := [(0, rv ad w0), (1, iv a1)]) (by decide) (Nat.le_of_ble_eq_true rfl) rfl (fun p e0 s m args below meth c S0 hK hX hr hlk Q hQ => ?_)
  have hf : OK (f_X6_ordersOf T A w0 a1 I) (fun z => z = e) := ⟨e, h, rfl⟩
  unfold f_X6_ordersOf at hf
  obtain ⟨hw0, hf⟩ := ok_grd hf
  refine r_iload_n (pc := 0) S0 1 dX6_ordersOf_0 rfl rfl ?_
  refine r_if_lt (pc := 1) (tgt := 21) S0 dX6_ordersOf_1 (by decide) ca1 hf (fun hf => ?_) (fun hf => ?_)
  · refine r_lconst (pc := 21) (v := 0) S0 dX6_ordersOf_21 rfl ?_
    have hz := ok_some hf
    have hz : 0 = e := hz
    subst hQ
    subst hz
    exact r_lret (pc := 22) S0 hr hlk (clz 0 rfl) dX6_ordersOf_22
  · refine r_iload_n (pc := 4) S0 1 dX6_ordersOf_4 rfl rfl ?_
    refine r_aload_n (pc := 5) S0 0 dX6_ordersOf_5 rfl rfl ?_
    refine r_getI (pc := 6) S0 hK fl_X6_41 dX6_ordersOf_6 hf (fun x1 c2 hf => ?_)
    refine r_icmp_ge (pc := 9) (tgt := 21) S0 dX6_ordersOf_9 (by decide) ca1 c2 hf (fun hf => ?_) (fun hf => ?_)
    · refine r_lconst (pc := 21) (v := 0) S0 dX6_ordersOf_21 rfl ?_
      have hz := ok_some hf
      have hz : 0 = e := hz
      subst hQ
      subst hz
      exact r_lret (pc := 22) S0 hr hlk (clz 0 rfl) dX6_ordersOf_22
    · refine r_aload_n (pc := 12) S0 0 dX6_ordersOf_12 rfl rfl ?_
      refine r_getR (pc := 13) S0 hK fl_X6_18 dX6_ordersOf_13 hf (fun x3 hf => ?_)
      refine r_iload_n (pc := 16) S0 1 dX6_ordersOf_16 rfl rfl ?_
      refine r_lald (pc := 17) S0 hK dX6_ordersOf_17 ca1 hf (fun x4 c5 hf => ?_)
      refine r_goto (pc := 18) (tgt := 22) S0 dX6_ordersOf_18 (by decide) ?_
      have hz := ok_some hf
      have hz : x4 = e := hz
      subst hQ
      subst hz
      exact r_lret (pc := 22) S0 hr hlk c5 dX6_ordersOf_22

set_option maxHeartbeats 4000000 in
set_option maxRecDepth 100000 in
theorem c_X11_possible (l : Launch) (cA : Nat → ClassId) (D : va_G) (N : Nat) (sx : Sx) (ad : Nat → Nat) (T : Knd) (A : Rfs) (nx : Nat) (I : Mem) (w0 : Nat) (a1 : Int) (ca1 : cn a1) (e : (Int × Mem)) (h : f_X11_possible T A w0 a1 I = some e) : CtI l yX11_possible cX11_possible 2 (some .int) 4 126 cA D N sx ad T A nx [rv ad w0, iv a1] I e.2 e.1 := by
  refine met_of (lv0 := [(0, rv ad w0), (1, iv a1)]) (by decide) (Nat.le_of_ble_eq_true rfl) rfl (fun p e0 s m args below meth c S0 hK hX hr hlk Q hQ => ?_)
  have hf : OK (f_X11_possible T A w0 a1 I) (fun z => z = e) := ⟨e, h, rfl⟩
  unfold f_X11_possible at hf
  obtain ⟨hw0, hf⟩ := ok_grd hf
  refine r_aload_n (pc := 0) S0 0 dX11_possible_0 rfl rfl ?_
  refine r_getR (pc := 1) S0 hK fl_X11_28 dX11_possible_1 hf (fun x1 hf => ?_)
  refine r_iload_n (pc := 4) S0 1 dX11_possible_4 rfl rfl ?_
  obtain ⟨e2, h3, hf⟩ := ok_bind hf
  refine r_cV_I (pc := 5) [iv a1] S0 hK hX mv_X11_280 (k_X2_hasSet h3) (c_X2_hasSet l cA D N sx ad T A nx I x1 a1 ca1 e2 h3) rfl rfl ⟨by decide, by decide⟩ (Nat.le_of_ble_eq_true rfl) ⟨Nat.le_refl _, Nat.le_refl _⟩ dX11_possible_5 (fun c4 => ?_)
  refine r_if_ne (pc := 8) (tgt := 14) S0 dX11_possible_8 (by decide) c4 hf (fun hf => ?_) (fun hf => ?_)
  · refine r_aload_n (pc := 14) S0 0 dX11_possible_14 rfl rfl ?_
    obtain ⟨e5, h6, hf⟩ := ok_bind hf
    refine r_cV_R (pc := 15) [] S0 hK hX mv_X11_283 (k_X11_knownSets h6) (c_X11_knownSets l cA D N sx ad T A nx I w0 e5 h6) rfl rfl ⟨by decide, by decide⟩ (Nat.le_of_ble_eq_true rfl) ⟨Nat.le_refl _, Nat.le_refl _⟩ dX11_possible_15 ?_
    refine r_iload_n (pc := 18) S0 1 dX11_possible_18 rfl rfl ?_
    obtain ⟨e7, h8, hf⟩ := ok_bind hf
    refine r_cV_J (pc := 19) [iv a1] S0 hK hX mv_X11_287 (k_X6_ordersOf h8) (c_X6_ordersOf l cA D N sx ad T A nx e5.2 e5.1 a1 ca1 e7 h8) rfl rfl ⟨by decide, by decide⟩ (Nat.le_of_ble_eq_true rfl) ⟨Nat.le_refl _, Nat.le_refl _⟩ dX11_possible_19 (fun c9 => ?_)
    refine r_lconst (pc := 22) (v := 0) S0 dX11_possible_22 rfl ?_
    refine r_lcmp (pc := 23) S0 dX11_possible_23 c9 (clz 0 rfl) ?_
    refine r_if_le (pc := 24) (tgt := 31) S0 dX11_possible_24 (by decide) (cn_lcmp _ _) hf (fun hf => ?_) (fun hf => ?_)
    · refine r_iconst (pc := 31) S0 dX11_possible_31 ?_
      have hz := ok_some hf
      have hz : (0, e5.2) = e := hz
      subst hQ
      subst hz
      exact r_iret (pc := 32) S0 hr hlk (cnz 0 rfl) dX11_possible_32
    · refine r_iconst (pc := 27) S0 dX11_possible_27 ?_
      refine r_goto (pc := 28) (tgt := 32) S0 dX11_possible_28 (by decide) ?_
      have hz := ok_some hf
      have hz : (1, e5.2) = e := hz
      subst hQ
      subst hz
      exact r_iret (pc := 32) S0 hr hlk (cnz 1 rfl) dX11_possible_32
  · refine r_bipush (pc := 11) S0 dX11_possible_11 (by decide) ?_
    have hz := ok_some hf
    have hz : ((-2), I) = e := hz
    subst hQ
    subst hz
    exact r_iret (pc := 13) S0 hr hlk (cnz (-2) rfl) dX11_possible_13
