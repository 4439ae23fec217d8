/-! Contracts, laid by wip/gen/gen.py. -/
set_option maxHeartbeats 4000000 in
set_option maxRecDepth 100000 in
theorem c_X9_firstOpen (l : Launch) (cA : Nat → ClassId) (D : va_G) (N : Nat) (sx : Sx) (ad : Nat → Nat) (T : Knd) (A : Rfs) (nx : Nat) (I : Mem) (w0 : Nat) (a1 : Int) (a2 : Int) (ca1 : cn a1) (ca2 : cn a2) (e : Int) (h : f_X9_firstOpen T A w0 a1 a2 I = some e) : CtI l yX9_firstOpen cX9_firstOpen 3 (some .int) 1 60 cA D N sx ad T A nx [rv ad w0, iv a1, iv a2] I I e := by
  refine met_of (lv0 := [(0, rv ad w0), (1, iv a1), (2, iv a2)]) (by decide) (Nat.le_of_ble_eq_true rfl) rfl (fun p e0 s m args below meth c S0 hK hX hr hlk Q hQ => ?_)
  have hf : OK (f_X9_firstOpen T A w0 a1 a2 I) (fun z => z = e) := ⟨e, h, rfl⟩
  unfold f_X9_firstOpen at hf
  obtain ⟨hw0, hf⟩ := ok_grd hf
  refine r_iload_n (pc := 0) S0 1 dX9_firstOpen_0 rfl rfl ?_
  refine r_if_lt (pc := 1) (tgt := 21) S0 dX9_firstOpen_1 (by decide) ca1 hf (fun hf => ?_) (fun hf => ?_)
  · refine r_iconst (pc := 21) S0 dX9_firstOpen_21 ?_
    have hz := ok_some hf
    have hz : (-1) = e := hz
    subst hQ
    subst hz
    exact r_iret (pc := 22) S0 hr hlk (cnz (-1) rfl) dX9_firstOpen_22
  · refine r_iload_n (pc := 4) S0 1 dX9_firstOpen_4 rfl rfl ?_
    refine r_bipush (pc := 5) S0 dX9_firstOpen_5 (by decide) ?_
    refine r_icmp_ge (pc := 7) (tgt := 21) S0 dX9_firstOpen_7 (by decide) ca1 (cnz 8 rfl) hf (fun hf => ?_) (fun hf => ?_)
    · refine r_iconst (pc := 21) S0 dX9_firstOpen_21 ?_
      have hz := ok_some hf
      have hz : (-1) = e := hz
      subst hQ
      subst hz
      exact r_iret (pc := 22) S0 hr hlk (cnz (-1) rfl) dX9_firstOpen_22
    · refine r_iload_n (pc := 10) S0 2 dX9_firstOpen_10 rfl rfl ?_
      refine r_if_lt (pc := 11) (tgt := 21) S0 dX9_firstOpen_11 (by decide) ca2 hf (fun hf => ?_) (fun hf => ?_)
      · refine r_iconst (pc := 21) S0 dX9_firstOpen_21 ?_
        have hz := ok_some hf
        have hz : (-1) = e := hz
        subst hQ
        subst hz
        exact r_iret (pc := 22) S0 hr hlk (cnz (-1) rfl) dX9_firstOpen_22
      · refine r_iload_n (pc := 14) S0 2 dX9_firstOpen_14 rfl rfl ?_
        refine r_sipush (pc := 15) S0 dX9_firstOpen_15 (by decide) ?_
        refine r_icmp_lt (pc := 18) (tgt := 23) S0 dX9_firstOpen_18 (by decide) ca2 (cnz 400 rfl) hf (fun hf => ?_) (fun hf => ?_)
        · refine r_aload_n (pc := 23) S0 0 dX9_firstOpen_23 rfl rfl ?_
          refine r_getR (pc := 24) S0 hK fl_X9_16 dX9_firstOpen_24 hf (fun x1 hf => ?_)
          refine r_iload_n (pc := 27) S0 1 dX9_firstOpen_27 rfl rfl ?_
          refine r_aald 24 4 (pc := 28) S0 hK (by decide) rfl rfl dX9_firstOpen_28 ca1 hf (fun x2 hf => ?_)
          refine r_iload_n (pc := 29) S0 2 dX9_firstOpen_29 rfl rfl ?_
          refine r_iald (pc := 30) S0 hK dX9_firstOpen_30 ca2 hf (fun x3 c4 hf => ?_)
          have hz := ok_some hf
          have hz : x3 = e := hz
          subst hQ
          subst hz
          exact r_iret (pc := 31) S0 hr hlk c4 dX9_firstOpen_31
        · refine r_iconst (pc := 21) S0 dX9_firstOpen_21 ?_
          have hz := ok_some hf
          have hz : (-1) = e := hz
          subst hQ
          subst hz
          exact r_iret (pc := 22) S0 hr hlk (cnz (-1) rfl) dX9_firstOpen_22

set_option maxHeartbeats 4000000 in
set_option maxRecDepth 100000 in
theorem c_X10_supported (l : Launch) (cA : Nat → ClassId) (D : va_G) (N : Nat) (sx : Sx) (ad : Nat → Nat) (T : Knd) (A : Rfs) (nx : Nat) (I : Mem) (w0 : Nat) (a1 : Int) (ca1 : cn a1) (e : Int) (h : f_X10_supported T A w0 a1 I = some e) : CtI l yX10_supported cX10_supported 5 (some .int) 2 81 cA D N sx ad T A nx [rv ad w0, iv a1] I I e := by
  refine met_of (lv0 := [(0, rv ad w0), (1, iv a1)]) (by decide) (Nat.le_of_ble_eq_true rfl) rfl (fun p e0 s m args below meth c S0 hK hX hr hlk Q hQ => ?_)
  have hf : OK (f_X10_supported T A w0 a1 I) (fun z => z = e) := ⟨e, h, rfl⟩
  unfold f_X10_supported at hf
  obtain ⟨hw0, hf⟩ := ok_grd hf
  refine r_sipush (pc := 0) S0 dX10_supported_0 (by decide) ?_
  refine r_istore_n (pc := 3) (lv' := [(2, iv 399), (0, rv ad w0), (1, iv a1)]) S0 dX10_supported_3 rfl (by decide) rfl ?_
  refine r_aload_n (pc := 4) S0 1 dX10_supported_4 rfl rfl ?_
  refine r_getR (pc := 5) S0 hK fl_X10_15 dX10_supported_5 hf (fun x1 hf => ?_)
  refine r_iload_n (pc := 8) S0 2 dX10_supported_8 rfl rfl ?_
  obtain ⟨e2, h3, hf⟩ := ok_bind hf
  refine r_cV_I (pc := 9) [iv a1] S0 hK hX mv_X10_64 (k_X2_hasOfficial h3) (c_X2_hasOfficial l cA D N sx ad T A nx I x1 a1 ca1 e2 h3) rfl rfl ⟨by decide, by decide⟩ (Nat.le_of_ble_eq_true rfl) ⟨Nat.le_refl _, Nat.le_refl _⟩ dX10_supported_9 (fun c4 => ?_)
  refine thn_rule (P := fun v6 => cn v6 → G p l e0 (rmx 2 81) s m args below meth c 0 0 Q cA D N 5 ad T A nx 31 [(0, rv ad w0), (2, iv 399)] [iv v6] I) hf (fun v6 hf c7 => ?_) (fun K5 hf => ?_)
  · refine r_istore_n (pc := 31) (lv' := [(3, iv v6), (0, rv ad w0), (2, iv 399)]) S0 dX10_supported_31 rfl (by decide) rfl ?_
    refine r_iconst (pc := 32) S0 dX10_supported_32 ?_
    refine r_istore (pc := 33) (lv' := [(4, iv 0), (3, iv v6), (0, rv ad w0), (2, iv 399)]) S0 dX10_supported_33 (by decide) rfl ?_
    refine r_lv [2, 3, 1, 0] rfl ?_
    refine it_ind (P := fun s14 => cn s14.1 → cn s14.2 → G p l e0 (rmx 2 81) s m args below meth c 0 0 Q cA D N 5 ad T A nx 35 [(0, rv ad w0), (2, iv s14.1), (3, iv v6), (4, iv s14.2)] [] I) (fun n0 s14 ih13 hf c15 c16 => ?_) FU (399, 0) hf (cnz 399 rfl) (cnz 0 rfl)
    refine r_iload (pc := 35) S0 3 dX10_supported_35 rfl ?_
    refine r_bipush (pc := 37) S0 dX10_supported_37 (by decide) ?_
    refine r_icmp_ge (pc := 39) (tgt := 76) S0 dX10_supported_39 (by decide) c16 (cnz 8 rfl) hf (fun hf => ?_) (fun hf => ?_)
    · refine r_iload_n (pc := 76) S0 1 dX10_supported_76 rfl rfl ?_
      have hz := ok_some hf
      have hz : s14.1 = e := hz
      subst hQ
      subst hz
      exact r_iret (pc := 77) S0 hr hlk c15 dX10_supported_77
    · refine r_iload_n (pc := 42) S0 2 dX10_supported_42 rfl rfl ?_
      refine r_iload (pc := 43) S0 3 dX10_supported_43 rfl ?_
      refine r_ishr (pc := 45) S0 dX10_supported_45 ?_
      refine r_if_eq (pc := 46) (tgt := 76) S0 dX10_supported_46 (by decide) (cn_toInt _) hf (fun hf => ?_) (fun hf => ?_)
      · refine r_iload_n (pc := 76) S0 1 dX10_supported_76 rfl rfl ?_
        have hz := ok_some hf
        have hz : s14.1 = e := hz
        subst hQ
        subst hz
        exact r_iret (pc := 77) S0 hr hlk c15 dX10_supported_77
      · refine r_iload_n (pc := 49) S0 2 dX10_supported_49 rfl rfl ?_
        refine r_iload (pc := 50) S0 3 dX10_supported_50 rfl ?_
        obtain ⟨e17, h18, hf⟩ := ok_bind hf
        refine r_cN_I (pc := 52) [iv v6, iv s14.2] S0 hK hX mn_X10_78 (c_X11_hasBit l cA D N sx ad T A nx I v6 s14.2 c7 c16 e17 h18) rfl rfl ⟨by decide, by decide⟩ (Nat.le_of_ble_eq_true rfl) ⟨Nat.le_refl _, Nat.le_refl _⟩ dX10_supported_52 (fun c19 => ?_)
        refine r_if_eq (pc := 55) (tgt := 70) S0 dX10_supported_55 (by decide) c19 hf (fun hf => ?_) (fun hf => ?_)
        · refine r_iinc (pc := 70) (lv' := [(4, iv (ia s14.2 1)), (0, rv ad w0), (2, iv s14.1), (3, iv v6)]) S0 3 dX10_supported_70 rfl (by decide) rfl ?_
          refine r_goto (pc := 73) (tgt := 35) S0 dX10_supported_73 (by decide) ?_
          have hz := ok_some hf
          refine r_lv [1, 2, 3, 0] rfl ?_
          exact ih13 (s14.1, ia s14.2 1) hz c15 (cn_wrap _)
        · refine r_iload_n (pc := 58) S0 1 dX10_supported_58 rfl rfl ?_
          refine r_aload_n (pc := 59) S0 0 dX10_supported_59 rfl rfl ?_
          refine r_getR (pc := 60) S0 hK fl_X10_9 dX10_supported_60 hf (fun x20 hf => ?_)
          refine r_iload (pc := 63) S0 3 dX10_supported_63 rfl ?_
          refine r_iald (pc := 65) S0 hK dX10_supported_65 c16 hf (fun x21 c22 hf => ?_)
          refine r_mmin (pc := 66) S0 mmmin_X10_87 ⟨by decide, Nat.le_of_ble_eq_true rfl⟩ ⟨Nat.le_refl _, Nat.le_refl _⟩ dX10_supported_66 c15 c22 ?_
          refine r_istore_n (pc := 69) (lv' := [(2, iv (imin s14.1 x21)), (0, rv ad w0), (3, iv v6), (4, iv s14.2)]) S0 dX10_supported_69 rfl (by decide) rfl ?_
          refine r_iinc (pc := 70) (lv' := [(4, iv (ia s14.2 1)), (2, iv (imin s14.1 x21)), (0, rv ad w0), (3, iv v6)]) S0 3 dX10_supported_70 rfl (by decide) rfl ?_
          refine r_goto (pc := 73) (tgt := 35) S0 dX10_supported_73 (by decide) ?_
          have hz := ok_some hf
          refine r_lv [2, 1, 3, 0] rfl ?_
          exact ih13 (imin s14.1 x21, ia s14.2 1) hz (cn_imin c15 c22) (cn_wrap _)
  · refine r_if_eq (pc := 12) (tgt := 30) S0 dX10_supported_12 (by decide) c4 hf (fun hf => ?_) (fun hf => ?_)
    · refine r_iconst (pc := 30) S0 dX10_supported_30 ?_
      have hz := ok_some hf
      refine r_lv [1, 0] rfl ?_
      exact K5 0 hz (cnz 0 rfl)
    · refine r_aload_n (pc := 15) S0 1 dX10_supported_15 rfl rfl ?_
      refine r_getR (pc := 16) S0 hK fl_X10_15 dX10_supported_16 hf (fun x8 hf => ?_)
      refine r_getR (pc := 19) S0 hK fl_X10_68 dX10_supported_19 hf (fun x9 hf => ?_)
      refine r_bipush (pc := 22) S0 dX10_supported_22 (by decide) ?_
      refine r_aald 24 4 (pc := 24) S0 hK (by decide) rfl rfl dX10_supported_24 (cnz 9 rfl) hf (fun x10 hf => ?_)
      refine r_iload_n (pc := 25) S0 2 dX10_supported_25 rfl rfl ?_
      refine r_iald (pc := 26) S0 hK dX10_supported_26 ca1 hf (fun x11 c12 hf => ?_)
      refine r_goto (pc := 27) (tgt := 31) S0 dX10_supported_27 (by decide) ?_
      have hz := ok_some hf
      refine r_lv [1, 0] rfl ?_
      exact K5 x11 hz c12

set_option maxHeartbeats 4000000 in
set_option maxRecDepth 100000 in
theorem c_X10_stampHour (l : Launch) (cA : Nat → ClassId) (D : va_G) (N : Nat) (sx : Sx) (ad : Nat → Nat) (T : Knd) (A : Rfs) (nx : Nat) (I : Mem) (w0 : Nat) (a1 : Int) (ca1 : cn a1) (e : Int) (h : f_X10_stampHour T A w0 a1 I = some e) : CtI l yX10_stampHour cX10_stampHour 4 (some .int) 3 106 cA D N sx ad T A nx [rv ad w0, iv a1] I I e := by
  refine met_of (lv0 := [(0, rv ad w0), (1, iv a1)]) (by decide) (Nat.le_of_ble_eq_true rfl) rfl (fun p e0 s m args below meth c S0 hK hX hr hlk Q hQ => ?_)
  have hf : OK (f_X10_stampHour T A w0 a1 I) (fun z => z = e) := ⟨e, h, rfl⟩
  unfold f_X10_stampHour at hf
  obtain ⟨hw0, hf⟩ := ok_grd hf
  refine r_aload_n (pc := 0) S0 0 dX10_stampHour_0 rfl rfl ?_
  refine r_iload_n (pc := 1) S0 1 dX10_stampHour_1 rfl rfl ?_
  obtain ⟨e1, h2, hf⟩ := ok_bind hf
  refine r_cV_I (pc := 2) [iv a1] S0 hK hX mv_X10_90 (k_X10_arrival h2) (c_X10_arrival l cA D N sx ad T A nx I w0 a1 ca1 e1 h2) rfl rfl ⟨by decide, by decide⟩ (Nat.le_of_ble_eq_true rfl) ⟨Nat.le_refl _, Nat.le_refl _⟩ dX10_stampHour_2 (fun c3 => ?_)
  refine r_istore_n (pc := 5) (lv' := [(2, iv e1), (0, rv ad w0), (1, iv a1)]) S0 dX10_stampHour_5 rfl (by decide) rfl ?_
  refine r_iload_n (pc := 6) S0 0 dX10_stampHour_6 rfl rfl ?_
  refine r_iconst (pc := 7) S0 dX10_stampHour_7 ?_
  refine r_icmp_eq (pc := 8) (tgt := 19) S0 dX10_stampHour_8 (by decide) c3 (cnz (-1) rfl) hf (fun hf => ?_) (fun hf => ?_)
  · refine r_iconst (pc := 19) S0 dX10_stampHour_19 ?_
    have hz := ok_some hf
    have hz : (-1) = e := hz
    subst hQ
    subst hz
    exact r_iret (pc := 20) S0 hr hlk (cnz (-1) rfl) dX10_stampHour_20
  · refine r_aload_n (pc := 11) S0 1 dX10_stampHour_11 rfl rfl ?_
    refine r_iload_n (pc := 12) S0 2 dX10_stampHour_12 rfl rfl ?_
    obtain ⟨e4, h5, hf⟩ := ok_bind hf
    refine r_cV_I (pc := 13) [iv a1] S0 hK hX mv_X10_93 (k_X10_holds h5) (c_X10_holds l cA D N sx ad T A nx I w0 a1 ca1 e4 h5) rfl rfl ⟨by decide, by decide⟩ (Nat.le_of_ble_eq_true rfl) ⟨Nat.le_refl _, Nat.le_refl _⟩ dX10_stampHour_13 (fun c6 => ?_)
    refine r_if_eq (pc := 16) (tgt := 21) S0 dX10_stampHour_16 (by decide) c6 hf (fun hf => ?_) (fun hf => ?_)
    · refine r_aload_n (pc := 21) S0 1 dX10_stampHour_21 rfl rfl ?_
      refine r_getR (pc := 22) S0 hK fl_X10_19 dX10_stampHour_22 hf (fun x7 hf => ?_)
      refine r_iload_n (pc := 25) S0 2 dX10_stampHour_25 rfl rfl ?_
      refine r_aload_n (pc := 26) S0 1 dX10_stampHour_26 rfl rfl ?_
      refine r_iload_n (pc := 27) S0 2 dX10_stampHour_27 rfl rfl ?_
      refine r_iload_n (pc := 28) S0 0 dX10_stampHour_28 rfl rfl ?_
      obtain ⟨e8, h9, hf⟩ := ok_bind hf
      refine r_cV_I (pc := 29) [iv a1, iv e1] S0 hK hX mv_X10_96 (k_X10_unbarred h9) (c_X10_unbarred l cA D N sx ad T A nx I w0 a1 e1 ca1 c3 e8 h9) rfl rfl ⟨by decide, by decide⟩ (Nat.le_of_ble_eq_true rfl) ⟨Nat.le_refl _, Nat.le_refl _⟩ dX10_stampHour_29 (fun c10 => ?_)
      obtain ⟨e11, h12, hf⟩ := ok_bind hf
      refine r_cV_I (pc := 32) [iv a1, iv e8] S0 hK hX mv_X10_99 (k_X9_firstOpen h12) (c_X9_firstOpen l cA D N sx ad T A nx I x7 a1 e8 ca1 c10 e11 h12) rfl rfl ⟨by decide, by decide⟩ (Nat.le_of_ble_eq_true rfl) ⟨Nat.le_refl _, Nat.le_refl _⟩ dX10_stampHour_32 (fun c13 => ?_)
      refine r_istore_n (pc := 35) (lv' := [(3, iv e11), (2, iv e1), (0, rv ad w0), (1, iv a1)]) S0 dX10_stampHour_35 rfl (by decide) rfl ?_
      refine r_iload_n (pc := 36) S0 0 dX10_stampHour_36 rfl rfl ?_
      refine r_aload_n (pc := 37) S0 2 dX10_stampHour_37 rfl rfl ?_
      refine r_iload_n (pc := 38) S0 3 dX10_stampHour_38 rfl rfl ?_
      obtain ⟨e14, h15, hf⟩ := ok_bind hf
      refine r_cV_I (pc := 39) [iv a1] S0 hK hX mv_X10_102 (k_X10_supported h15) (c_X10_supported l cA D N sx ad T A nx I w0 a1 ca1 e14 h15) rfl rfl ⟨by decide, by decide⟩ (Nat.le_of_ble_eq_true rfl) ⟨Nat.le_refl _, Nat.le_refl _⟩ dX10_stampHour_39 (fun c16 => ?_)
      refine r_icmp_gt (pc := 42) (tgt := 49) S0 dX10_stampHour_42 (by decide) c13 c16 hf (fun hf => ?_) (fun hf => ?_)
      · refine r_iconst (pc := 49) S0 dX10_stampHour_49 ?_
        have hz := ok_some hf
        have hz : (-1) = e := hz
        subst hQ
        subst hz
        exact r_iret (pc := 50) S0 hr hlk (cnz (-1) rfl) dX10_stampHour_50
      · refine r_iload_n (pc := 45) S0 0 dX10_stampHour_45 rfl rfl ?_
        refine r_goto (pc := 46) (tgt := 50) S0 dX10_stampHour_46 (by decide) ?_
        have hz := ok_some hf
        have hz : e11 = e := hz
        subst hQ
        subst hz
        exact r_iret (pc := 50) S0 hr hlk c13 dX10_stampHour_50
    · refine r_iconst (pc := 19) S0 dX10_stampHour_19 ?_
      have hz := ok_some hf
      have hz : (-1) = e := hz
      subst hQ
      subst hz
      exact r_iret (pc := 20) S0 hr hlk (cnz (-1) rfl) dX10_stampHour_20

set_option maxHeartbeats 4000000 in
set_option maxRecDepth 100000 in
theorem c_X10_stampIn (l : Launch) (cA : Nat → ClassId) (D : va_G) (N : Nat) (sx : Sx) (ad : Nat → Nat) (T : Knd) (A : Rfs) (nx : Nat) (I : Mem) (w0 : Nat) (a1 : Int) (a2 : Int) (ca1 : cn a1) (ca2 : cn a2) (e : Mem) (h : f_X10_stampIn T A w0 a1 a2 I = some e) : CtV l yX10_stampIn cX10_stampIn 5 none 2 82 cA D N sx ad T A nx [rv ad w0, iv a1, iv a2] I e := by
  refine met_of (lv0 := [(0, rv ad w0), (1, iv a1), (2, iv a2)]) (by decide) (Nat.le_of_ble_eq_true rfl) rfl (fun p e0 s m args below meth c S0 hK hX hr hlk Q hQ => ?_)
  have hf : OK (f_X10_stampIn T A w0 a1 a2 I) (fun z => z = e) := ⟨e, h, rfl⟩
  unfold f_X10_stampIn at hf
  obtain ⟨hw0, hf⟩ := ok_grd hf
  refine r_aload_n (pc := 0) S0 0 dX10_stampIn_0 rfl rfl ?_
  refine r_getR (pc := 1) S0 hK fl_X10_15 dX10_stampIn_1 hf (fun x1 hf => ?_)
  refine r_iload_n (pc := 4) S0 1 dX10_stampIn_4 rfl rfl ?_
  obtain ⟨e2, h3, hf⟩ := ok_bind hf
  refine r_cV_I (pc := 5) [iv a1] S0 hK hX mv_X10_64 (k_X2_hasOfficial h3) (c_X2_hasOfficial l cA D N sx ad T A nx I x1 a1 ca1 e2 h3) rfl rfl ⟨by decide, by decide⟩ (Nat.le_of_ble_eq_true rfl) ⟨Nat.le_refl _, Nat.le_refl _⟩ dX10_stampIn_5 (fun c4 => ?_)
  refine r_if_eq (pc := 8) (tgt := 16) S0 dX10_stampIn_8 (by decide) c4 hf (fun hf => ?_) (fun hf => ?_)
  · have hz := ok_some hf
    have hz : I = e := hz
    subst hQ
    subst hz
    exact r_vret (pc := 16) S0 hr hlk dX10_stampIn_16
  · refine r_iload_n (pc := 11) S0 2 dX10_stampIn_11 rfl rfl ?_
    refine r_iconst (pc := 12) S0 dX10_stampIn_12 ?_
    refine r_icmp_ne (pc := 13) (tgt := 17) S0 dX10_stampIn_13 (by decide) ca2 (cnz (-1) rfl) hf (fun hf => ?_) (fun hf => ?_)
    · refine r_aload_n (pc := 17) S0 0 dX10_stampIn_17 rfl rfl ?_
      refine r_getR (pc := 18) S0 hK fl_X10_15 dX10_stampIn_18 hf (fun x5 hf => ?_)
      refine r_getR (pc := 21) S0 hK fl_X10_68 dX10_stampIn_21 hf (fun x6 hf => ?_)
      refine r_iconst (pc := 24) S0 dX10_stampIn_24 ?_
      refine r_aald 24 4 (pc := 25) S0 hK (by decide) rfl rfl dX10_stampIn_25 (cnz 0 rfl) hf (fun x7 hf => ?_)
      refine r_iload_n (pc := 26) S0 1 dX10_stampIn_26 rfl rfl ?_
      refine r_iald (pc := 27) S0 hK dX10_stampIn_27 ca1 hf (fun x8 c9 hf => ?_)
      refine r_istore_n (pc := 28) (lv' := [(3, iv x8), (0, rv ad w0), (1, iv a1), (2, iv a2)]) S0 dX10_stampIn_28 rfl (by decide) rfl ?_
      refine r_aload_n (pc := 29) S0 1 dX10_stampIn_29 rfl rfl ?_
      refine r_getR (pc := 30) S0 hK fl_X10_15 dX10_stampIn_30 hf (fun x10 hf => ?_)
      refine r_getR (pc := 33) S0 hK fl_X10_68 dX10_stampIn_33 hf (fun x11 hf => ?_)
      refine r_iconst (pc := 36) S0 dX10_stampIn_36 ?_
      refine r_aald 24 4 (pc := 37) S0 hK (by decide) rfl rfl dX10_stampIn_37 (cnz 5 rfl) hf (fun x12 hf => ?_)
      refine r_iload_n (pc := 38) S0 2 dX10_stampIn_38 rfl rfl ?_
      refine r_iald (pc := 39) S0 hK dX10_stampIn_39 ca1 hf (fun x13 c14 hf => ?_)
      refine r_istore (pc := 40) (lv' := [(4, iv x13), (3, iv x8), (0, rv ad w0), (1, iv a1), (2, iv a2)]) S0 dX10_stampIn_40 (by decide) rfl ?_
      refine r_aload_n (pc := 42) S0 2 dX10_stampIn_42 rfl rfl ?_
      refine r_dup (pc := 43) S0 dX10_stampIn_43 rfl ?_
      refine r_getI (pc := 44) S0 hK fl_X10_41 dX10_stampIn_44 hf (fun x15 c16 hf => ?_)
      refine r_aload_n (pc := 47) S0 2 dX10_stampIn_47 rfl rfl ?_
      refine r_getR (pc := 48) S0 hK fl_X10_19 dX10_stampIn_48 hf (fun x17 hf => ?_)
      refine r_aload_n (pc := 51) S0 2 dX10_stampIn_51 rfl rfl ?_
      refine r_getI (pc := 52) S0 hK fl_X10_38 dX10_stampIn_52 hf (fun x18 c19 hf => ?_)
      refine r_iload_n (pc := 55) S0 1 dX10_stampIn_55 rfl rfl ?_
      obtain ⟨e20, h21, hf⟩ := ok_bind hf
      refine r_cV_I (pc := 56) [iv x18, iv x8] S0 hK hX mv_X10_72 (k_X9_hoursBetween h21) (c_X9_hoursBetween l cA D N sx ad T A nx I x17 x18 x8 c19 c9 e20 h21) rfl rfl ⟨by decide, by decide⟩ (Nat.le_of_ble_eq_true rfl) ⟨Nat.le_refl _, Nat.le_refl _⟩ dX10_stampIn_56 (fun c22 => ?_)
      refine r_iadd (pc := 59) S0 dX10_stampIn_59 ?_
      refine r_putI (pc := 60) S0 hK fl_X10_41 rfl rfl (cn_wrap _) dX10_stampIn_60 hf (fun I23 hf => ?_)
      refine r_aload_n (pc := 63) S0 2 dX10_stampIn_63 rfl rfl ?_
      refine r_dup (pc := 64) S0 dX10_stampIn_64 rfl ?_
      refine r_getI (pc := 65) S0 hK fl_X10_44 dX10_stampIn_65 hf (fun x24 c25 hf => ?_)
      refine r_aload_n (pc := 68) S0 2 dX10_stampIn_68 rfl rfl ?_
      refine r_getR (pc := 69) S0 hK fl_X10_15 dX10_stampIn_69 hf (fun x26 hf => ?_)
      refine r_getR (pc := 72) S0 hK fl_X10_68 dX10_stampIn_72 hf (fun x27 hf => ?_)
      refine r_bipush (pc := 75) S0 dX10_stampIn_75 (by decide) ?_
      refine r_aald 24 4 (pc := 77) S0 hK (by decide) rfl rfl dX10_stampIn_77 (cnz 6 rfl) hf (fun x28 hf => ?_)
      refine r_iload_n (pc := 78) S0 3 dX10_stampIn_78 rfl rfl ?_
      refine r_iald (pc := 79) S0 hK dX10_stampIn_79 ca1 hf (fun x29 c30 hf => ?_)
      refine r_iadd (pc := 80) S0 dX10_stampIn_80 ?_
      refine r_putI (pc := 81) S0 hK fl_X10_44 rfl rfl (cn_wrap _) dX10_stampIn_81 hf (fun I31 hf => ?_)
      refine r_aload_n (pc := 84) S0 2 dX10_stampIn_84 rfl rfl ?_
      refine r_getR (pc := 85) S0 hK fl_X10_9 dX10_stampIn_85 hf (fun x32 hf => ?_)
      refine r_iload_n (pc := 88) S0 3 dX10_stampIn_88 rfl rfl ?_
      refine r_iload (pc := 89) S0 0 dX10_stampIn_89 rfl ?_
      refine r_iconst (pc := 91) S0 dX10_stampIn_91 ?_
      refine thn_rule (P := fun v34 => cn v34 → G p l e0 (rmx 2 82) s m args below meth c 0 0 Q cA D N 5 ad T A nx 107 [(0, rv ad w0), (2, iv a2), (3, iv x8)] [iv v34, iv a1, rv ad x32] I31) hf (fun v34 hf c35 => ?_) (fun K33 hf => ?_)
      · refine r_iast (pc := 107) S0 hK dX10_stampIn_107 ca1 c35 hf (fun I36 hf => ?_)
        refine r_aload_n (pc := 108) S0 0 dX10_stampIn_108 rfl rfl ?_
        refine r_iload_n (pc := 109) S0 2 dX10_stampIn_109 rfl rfl ?_
        refine r_putI (pc := 110) S0 hK fl_X10_38 rfl rfl c9 dX10_stampIn_110 hf (fun I37 hf => ?_)
        refine r_aload_n (pc := 113) S0 0 dX10_stampIn_113 rfl rfl ?_
        refine r_iload_n (pc := 114) S0 1 dX10_stampIn_114 rfl rfl ?_
        refine r_iconst (pc := 115) S0 dX10_stampIn_115 ?_
        refine r_iadd (pc := 116) S0 dX10_stampIn_116 ?_
        refine r_putI (pc := 117) S0 hK fl_X10_29 rfl rfl (cn_wrap _) dX10_stampIn_117 hf (fun I38 hf => ?_)
        have hz := ok_some hf
        have hz : I38 = e := hz
        subst hQ
        subst hz
        exact r_vret (pc := 120) S0 hr hlk dX10_stampIn_120
      · refine r_icmp_ne (pc := 92) (tgt := 100) S0 dX10_stampIn_92 (by decide) c14 (cnz (-1) rfl) hf (fun hf => ?_) (fun hf => ?_)
        · refine r_iload_n (pc := 100) S0 4 dX10_stampIn_100 rfl rfl ?_
          refine r_bipush (pc := 101) S0 dX10_stampIn_101 (by decide) ?_
          refine r_iload (pc := 103) S0 0 dX10_stampIn_103 rfl ?_
          refine r_imul (pc := 105) S0 dX10_stampIn_105 ?_
          refine r_iadd (pc := 106) S0 dX10_stampIn_106 ?_
          have hz := ok_some hf
          refine r_lv [2, 4, 1] rfl ?_
          exact K33 (ia a2 (im 10 x13)) hz (cn_wrap _)
        · refine r_ldc (pc := 95) (z := 1000000) S0 k_X10_111 dX10_stampIn_95 (by decide) ?_
          refine r_goto (pc := 97) (tgt := 107) S0 dX10_stampIn_97 (by decide) ?_
          have hz := ok_some hf
          refine r_lv [2, 4, 1] rfl ?_
          exact K33 1000000 hz (cnz 1000000 rfl)
    · have hz := ok_some hf
      have hz : I = e := hz
      subst hQ
      subst hz
      exact r_vret (pc := 16) S0 hr hlk dX10_stampIn_16

set_option maxHeartbeats 4000000 in
set_option maxRecDepth 100000 in
theorem c_X11_forgetRows (l : Launch) (cA : Nat → ClassId) (D : va_G) (N : Nat) (sx : Sx) (ad : Nat → Nat) (T : Knd) (A : Rfs) (nx : Nat) (I : Mem) (w0 : Nat)  (e : Mem) (h : f_X11_forgetRows T A w0 I = some e) : CtV l yX11_forgetRows cX11_forgetRows 1 none 1 60 cA D N sx ad T A nx [rv ad w0] I e := by
  refine met_of (lv0 := [(0, rv ad w0)]) (by decide) (Nat.le_of_ble_eq_true rfl) rfl (fun p e0 s m args below meth c S0 hK hX hr hlk Q hQ => ?_)
  have hf : OK (f_X11_forgetRows T A w0 I) (fun z => z = e) := ⟨e, h, rfl⟩
  unfold f_X11_forgetRows at hf
  obtain ⟨hw0, hf⟩ := ok_grd hf
  refine r_aload_n (pc := 0) S0 0 dX11_forgetRows_0 rfl rfl ?_
  refine r_getR (pc := 1) S0 hK fl_X11_56 dX11_forgetRows_1 hf (fun x1 hf => ?_)
  refine r_iconst (pc := 4) S0 dX11_forgetRows_4 ?_
  refine r_putZ (pc := 5) S0 hK fl_X11_398 rfl rfl dX11_forgetRows_5 hf (fun I2 hf => ?_)
  refine r_aload_n (pc := 8) S0 0 dX11_forgetRows_8 rfl rfl ?_
  refine r_getR (pc := 9) S0 hK fl_X11_60 dX11_forgetRows_9 hf (fun x3 hf => ?_)
  refine r_iconst (pc := 12) S0 dX11_forgetRows_12 ?_
  refine r_putZ (pc := 13) S0 hK fl_X11_398 rfl rfl dX11_forgetRows_13 hf (fun I4 hf => ?_)
  have hz := ok_some hf
  have hz : I4 = e := hz
  subst hQ
  subst hz
  exact r_vret (pc := 16) S0 hr hlk dX11_forgetRows_16

set_option maxHeartbeats 4000000 in
set_option maxRecDepth 100000 in
theorem c_X11_retrace (l : Launch) (cA : Nat → ClassId) (D : va_G) (N : Nat) (sx : Sx) (ad : Nat → Nat) (T : Knd) (A : Rfs) (nx : Nat) (I : Mem) (w0 : Nat)  (e : Mem) (h : f_X11_retrace T A w0 I = some e) : CtV l yX11_retrace cX11_retrace 3 none 4 129 cA D N sx ad T A nx [rv ad w0] I e := by
  refine met_of (lv0 := [(0, rv ad w0)]) (by decide) (Nat.le_of_ble_eq_true rfl) rfl (fun p e0 s m args below meth c S0 hK hX hr hlk Q hQ => ?_)
  have hf : OK (f_X11_retrace T A w0 I) (fun z => z = e) := ⟨e, h, rfl⟩
  unfold f_X11_retrace at hf
  obtain ⟨hw0, hf⟩ := ok_grd hf
  refine r_aload_n (pc := 0) S0 0 dX11_retrace_0 rfl rfl ?_
  refine r_getR (pc := 1) S0 hK fl_X11_44 dX11_retrace_1 hf (fun x1 hf => ?_)
  refine r_aload_n (pc := 4) S0 0 dX11_retrace_4 rfl rfl ?_
  refine r_getR (pc := 5) S0 hK fl_X11_28 dX11_retrace_5 hf (fun x2 hf => ?_)
  refine r_getI (pc := 8) S0 hK fl_X11_362 dX11_retrace_8 hf (fun x3 c4 hf => ?_)
  obtain ⟨e5, h6, hf⟩ := ok_bind hf
  refine r_cV_V (pc := 11) [iv x3] S0 hK hX mv_X11_395 (k_X10_beginAt h6) (c_X10_beginAt l cA D N sx ad T A nx I x1 x3 c4 e5 h6) rfl rfl ⟨by decide, by decide⟩ (Nat.le_of_ble_eq_true rfl) ⟨Nat.le_refl _, Nat.le_refl _⟩ dX11_retrace_11 ?_
  refine r_iconst (pc := 14) S0 dX11_retrace_14 ?_
  refine r_istore_n (pc := 15) (lv' := [(1, iv 0), (0, rv ad w0)]) S0 dX11_retrace_15 rfl (by decide) rfl ?_
  refine thn_rule (P := fun v8 => G p l e0 (rmx 4 129) s m args below meth c 0 0 Q cA D N 3 ad T A nx 84 [(0, rv ad w0)] [] v8) hf (fun v8 hf => ?_) (fun K7 hf => ?_)
  · refine r_aload_n (pc := 84) S0 0 dX11_retrace_84 rfl rfl ?_
    obtain ⟨e30, h31, hf⟩ := ok_bind hf
    refine r_cV_V (pc := 85) [] S0 hK hX mv_X11_211 (k_X11_forgetRows h31) (c_X11_forgetRows l cA D N sx ad T A nx v8 w0 e30 h31) rfl rfl ⟨by decide, by decide⟩ (Nat.le_of_ble_eq_true rfl) ⟨Nat.le_refl _, Nat.le_refl _⟩ dX11_retrace_85 ?_
    have hz := ok_some hf
    have hz : e30 = e := hz
    subst hQ
    subst hz
    exact r_vret (pc := 88) S0 hr hlk dX11_retrace_88
  · refine r_lv [1, 0] rfl ?_
    refine it_ind (P := fun s10 => cn s10.1 → G p l e0 (rmx 4 129) s m args below meth c 0 0 Q cA D N 3 ad T A nx 16 [(0, rv ad w0), (1, iv s10.1)] [] s10.2) (fun n0 s10 ih9 hf c11 => ?_) FU (0, e5) hf (cnz 0 rfl)
    refine r_iload_n (pc := 16) S0 1 dX11_retrace_16 rfl rfl ?_
    refine r_aload_n (pc := 17) S0 0 dX11_retrace_17 rfl rfl ?_
    refine r_getR (pc := 18) S0 hK fl_X11_28 dX11_retrace_18 hf (fun x12 hf => ?_)
    refine r_getI (pc := 21) S0 hK fl_X11_214 dX11_retrace_21 hf (fun x13 c14 hf => ?_)
    refine r_icmp_ge (pc := 24) (tgt := 84) S0 dX11_retrace_24 (by decide) c11 c14 hf (fun hf => ?_) (fun hf => ?_)
    · have hz := ok_some hf
      refine r_lv [0] rfl ?_
      exact K7 s10.2 hz
    · refine r_aload_n (pc := 27) S0 0 dX11_retrace_27 rfl rfl ?_
      refine r_getR (pc := 28) S0 hK fl_X11_28 dX11_retrace_28 hf (fun x15 hf => ?_)
      refine r_getR (pc := 31) S0 hK fl_X11_220 dX11_retrace_31 hf (fun x16 hf => ?_)
      refine r_iload_n (pc := 34) S0 1 dX11_retrace_34 rfl rfl ?_
      refine r_iald (pc := 35) S0 hK dX11_retrace_35 c11 hf (fun x17 c18 hf => ?_)
      refine r_istore_n (pc := 36) (lv' := [(2, iv x17), (0, rv ad w0), (1, iv s10.1)]) S0 dX11_retrace_36 rfl (by decide) rfl ?_
      refine r_iload_n (pc := 37) S0 0 dX11_retrace_37 rfl rfl ?_
      refine r_bipush (pc := 38) S0 dX11_retrace_38 (by decide) ?_
      refine r_icmp_ge (pc := 40) (tgt := 62) S0 dX11_retrace_40 (by decide) c18 (cnz 10 rfl) hf (fun hf => ?_) (fun hf => ?_)
      · refine r_aload_n (pc := 62) S0 1 dX11_retrace_62 rfl rfl ?_
        refine r_getR (pc := 63) S0 hK fl_X11_44 dX11_retrace_63 hf (fun x19 hf => ?_)
        refine r_dup (pc := 66) S0 dX11_retrace_66 rfl ?_
        refine r_getI (pc := 67) S0 hK fl_X11_177 dX11_retrace_67 hf (fun x20 c21 hf => ?_)
        refine r_iload_n (pc := 70) S0 0 dX11_retrace_70 rfl rfl ?_
        refine r_bipush (pc := 71) S0 dX11_retrace_71 (by decide) ?_
        refine r_isub (pc := 73) S0 dX11_retrace_73 ?_
        refine r_iadd (pc := 74) S0 dX11_retrace_74 ?_
        refine r_putI (pc := 75) S0 hK fl_X11_177 rfl rfl (cn_wrap _) dX11_retrace_75 hf (fun I22 hf => ?_)
        refine r_iinc (pc := 78) (lv' := [(1, iv (ia s10.1 1)), (2, iv x17), (0, rv ad w0)]) S0 2 dX11_retrace_78 rfl (by decide) rfl ?_
        refine r_goto (pc := 81) (tgt := 16) S0 dX11_retrace_81 (by decide) ?_
        have hz := ok_some hf
        refine r_lv [2, 0] rfl ?_
        exact ih9 (ia s10.1 1, I22) hz (cn_wrap _)
      · refine r_aload_n (pc := 43) S0 1 dX11_retrace_43 rfl rfl ?_
        refine r_getR (pc := 44) S0 hK fl_X11_44 dX11_retrace_44 hf (fun x23 hf => ?_)
        refine r_iload_n (pc := 47) S0 0 dX11_retrace_47 rfl rfl ?_
        refine r_aload_n (pc := 48) S0 1 dX11_retrace_48 rfl rfl ?_
        refine r_getR (pc := 49) S0 hK fl_X11_44 dX11_retrace_49 hf (fun x24 hf => ?_)
        refine r_iload_n (pc := 52) S0 0 dX11_retrace_52 rfl rfl ?_
        obtain ⟨e25, h26, hf⟩ := ok_bind hf
        refine r_cV_I (pc := 53) [iv x17] S0 hK hX mv_X11_195 (k_X10_stampHour h26) (c_X10_stampHour l cA D N sx ad T A nx s10.2 x24 x17 c18 e25 h26) rfl rfl ⟨by decide, by decide⟩ (Nat.le_of_ble_eq_true rfl) ⟨Nat.le_refl _, Nat.le_refl _⟩ dX11_retrace_53 (fun c27 => ?_)
        obtain ⟨e28, h29, hf⟩ := ok_bind hf
        refine r_cV_V (pc := 56) [iv x17, iv e25] S0 hK hX mv_X11_207 (k_X10_stampIn h29) (c_X10_stampIn l cA D N sx ad T A nx s10.2 x23 x17 e25 c18 c27 e28 h29) rfl rfl ⟨by decide, by decide⟩ (Nat.le_of_ble_eq_true rfl) ⟨Nat.le_refl _, Nat.le_refl _⟩ dX11_retrace_56 ?_
        refine r_goto (pc := 59) (tgt := 78) S0 dX11_retrace_59 (by decide) ?_
        refine r_iinc (pc := 78) (lv' := [(1, iv (ia s10.1 1)), (2, iv x17), (0, rv ad w0)]) S0 2 dX11_retrace_78 rfl (by decide) rfl ?_
        refine r_goto (pc := 81) (tgt := 16) S0 dX11_retrace_81 (by decide) ?_
        have hz := ok_some hf
        refine r_lv [2, 0] rfl ?_
        exact ih9 (ia s10.1 1, e28) hz (cn_wrap _)

set_option maxHeartbeats 4000000 in
set_option maxRecDepth 100000 in
theorem c_X11_planChanged (l : Launch) (cA : Nat → ClassId) (D : va_G) (N : Nat) (sx : Sx) (ad : Nat → Nat) (T : Knd) (A : Rfs) (nx : Nat) (I : Mem) (w0 : Nat)  (e : Mem) (h : f_X11_planChanged T A w0 I = some e) : CtV l yX11_planChanged cX11_planChanged 1 none 5 152 cA D N sx ad T A nx [rv ad w0] I e := by
  refine met_of (lv0 := [(0, rv ad w0)]) (by decide) (Nat.le_of_ble_eq_true rfl) rfl (fun p e0 s m args below meth c S0 hK hX hr hlk Q hQ => ?_)
  have hf : OK (f_X11_planChanged T A w0 I) (fun z => z = e) := ⟨e, h, rfl⟩
  unfold f_X11_planChanged at hf
  obtain ⟨hw0, hf⟩ := ok_grd hf
  refine r_aload_n (pc := 0) S0 0 dX11_planChanged_0 rfl rfl ?_
  refine r_getR (pc := 1) S0 hK fl_X11_35 dX11_planChanged_1 hf (fun x1 hf => ?_)
  refine r_aload_n (pc := 4) S0 0 dX11_planChanged_4 rfl rfl ?_
  refine r_getR (pc := 5) S0 hK fl_X11_28 dX11_planChanged_5 hf (fun x2 hf => ?_)
  obtain ⟨e3, h4, hf⟩ := ok_bind hf
  refine r_cV_V (pc := 8) [rv ad x2] S0 hK hX mv_X11_392 (k_X9_drawUp h4) (c_X9_drawUp l cA D N sx ad T A nx I x1 x2 e3 h4) rfl rfl ⟨by decide, by decide⟩ (Nat.le_of_ble_eq_true rfl) ⟨Nat.le_refl _, Nat.le_refl _⟩ dX11_planChanged_8 ?_
  refine r_aload_n (pc := 11) S0 0 dX11_planChanged_11 rfl rfl ?_
  refine r_iconst (pc := 12) S0 dX11_planChanged_12 ?_
  refine r_putZ (pc := 13) S0 hK fl_X11_264 rfl rfl dX11_planChanged_13 hf (fun I5 hf => ?_)
  refine r_aload_n (pc := 16) S0 0 dX11_planChanged_16 rfl rfl ?_
  obtain ⟨e6, h7, hf⟩ := ok_bind hf
  refine r_cV_V (pc := 17) [] S0 hK hX mv_X11_217 (k_X11_retrace h7) (c_X11_retrace l cA D N sx ad T A nx I5 w0 e6 h7) rfl rfl ⟨by decide, by decide⟩ (Nat.le_of_ble_eq_true rfl) ⟨Nat.le_refl _, Nat.le_refl _⟩ dX11_planChanged_17 ?_
  have hz := ok_some hf
  have hz : e6 = e := hz
  subst hQ
  subst hz
  exact r_vret (pc := 20) S0 hr hlk dX11_planChanged_20

set_option maxHeartbeats 4000000 in
set_option maxRecDepth 100000 in
theorem c_X11_fault (l : Launch) (cA : Nat → ClassId) (D : va_G) (N : Nat) (sx : Sx) (ad : Nat → Nat) (T : Knd) (A : Rfs) (nx : Nat) (I : Mem) (w0 : Nat) (a1 : Int) (ca1 : cn a1) (e : Int) (h : f_X11_fault T A w0 a1 I = some e) : CtI l yX11_fault cX11_fault 2 (some .int) 1 60 cA D N sx ad T A nx [rv ad w0, iv a1] I I e := by
  refine met_of (lv0 := [(0, rv ad w0), (1, iv a1)]) (by decide) (Nat.le_of_ble_eq_true rfl) rfl (fun p e0 s m args below meth c S0 hK hX hr hlk Q hQ => ?_)
  have hf : OK (f_X11_fault T A w0 a1 I) (fun z => z = e) := ⟨e, h, rfl⟩
  unfold f_X11_fault at hf
  obtain ⟨hw0, hf⟩ := ok_grd hf
  refine r_iload_n (pc := 0) S0 1 dX11_fault_0 rfl rfl ?_
  refine r_if_ne (pc := 1) (tgt := 12) S0 dX11_fault_1 (by decide) ca1 hf (fun hf => ?_) (fun hf => ?_)
  · refine r_iload_n (pc := 12) S0 1 dX11_fault_12 rfl rfl ?_
    refine r_iconst (pc := 13) S0 dX11_fault_13 ?_
    refine r_icmp_ne (pc := 14) (tgt := 27) S0 dX11_fault_14 (by decide) ca1 (cnz 1 rfl) hf (fun hf => ?_) (fun hf => ?_)
    · refine r_iconst (pc := 27) S0 dX11_fault_27 ?_
      have hz := ok_some hf
      have hz : (-1) = e := hz
      subst hQ
      subst hz
      exact r_iret (pc := 28) S0 hr hlk (cnz (-1) rfl) dX11_fault_28
    · refine r_aload_n (pc := 17) S0 0 dX11_fault_17 rfl rfl ?_
      refine r_getR (pc := 18) S0 hK fl_X11_21 dX11_fault_18 hf (fun x1 hf => ?_)
      refine r_getI (pc := 21) S0 hK fl_X11_130 dX11_fault_21 hf (fun x2 c3 hf => ?_)
      refine r_goto (pc := 24) (tgt := 28) S0 dX11_fault_24 (by decide) ?_
      have hz := ok_some hf
      have hz : x2 = e := hz
      subst hQ
      subst hz
      exact r_iret (pc := 28) S0 hr hlk c3 dX11_fault_28
  · refine r_aload_n (pc := 4) S0 0 dX11_fault_4 rfl rfl ?_
    refine r_getR (pc := 5) S0 hK fl_X11_21 dX11_fault_5 hf (fun x4 hf => ?_)
    refine r_getI (pc := 8) S0 hK fl_X11_116 dX11_fault_8 hf (fun x5 c6 hf => ?_)
    have hz := ok_some hf
    have hz : x5 = e := hz
    subst hQ
    subst hz
    exact r_iret (pc := 11) S0 hr hlk c6 dX11_fault_11

set_option maxHeartbeats 4000000 in
set_option maxRecDepth 100000 in
theorem c_X11_official (l : Launch) (cA : Nat → ClassId) (D : va_G) (N : Nat) (sx : Sx) (ad : Nat → Nat) (T : Knd) (A : Rfs) (nx : Nat) (I : Mem) (w0 : Nat) (a1 : Int) (a2 : Int) (ca1 : cn a1) (ca2 : cn a2) (e : Int) (h : f_X11_official T A w0 a1 a2 I = some e) : CtI l yX11_official cX11_official 3 (some .int) 2 81 cA D N sx ad T A nx [rv ad w0, iv a1, iv a2] I I e := by
  refine met_of (lv0 := [(0, rv ad w0), (1, iv a1), (2, iv a2)]) (by decide) (Nat.le_of_ble_eq_true rfl) rfl (fun p e0 s m args below meth c S0 hK hX hr hlk Q hQ => ?_)
  have hf : OK (f_X11_official T A w0 a1 a2 I) (fun z => z = e) := ⟨e, h, rfl⟩
  unfold f_X11_official at hf
  obtain ⟨hw0, hf⟩ := ok_grd hf
  refine r_aload_n (pc := 0) S0 0 dX11_official_0 rfl rfl ?_
  refine r_getR (pc := 1) S0 hK fl_X11_28 dX11_official_1 hf (fun x1 hf => ?_)
  refine r_iload_n (pc := 4) S0 1 dX11_official_4 rfl rfl ?_
  obtain ⟨e2, h3, hf⟩ := ok_bind hf
  refine r_cV_I (pc := 5) [iv a1] S0 hK hX mv_X11_133 (k_X2_hasOfficial h3) (c_X2_hasOfficial l cA D N sx ad T A nx I x1 a1 ca1 e2 h3) rfl rfl ⟨by decide, by decide⟩ (Nat.le_of_ble_eq_true rfl) ⟨Nat.le_refl _, Nat.le_refl _⟩ dX11_official_5 (fun c4 => ?_)
  refine r_if_eq (pc := 8) (tgt := 21) S0 dX11_official_8 (by decide) c4 hf (fun hf => ?_) (fun hf => ?_)
  · refine r_bipush (pc := 21) S0 dX11_official_21 (by decide) ?_
    have hz := ok_some hf
    have hz : (-2) = e := hz
    subst hQ
    subst hz
    exact r_iret (pc := 23) S0 hr hlk (cnz (-2) rfl) dX11_official_23
  · refine r_iload_n (pc := 11) S0 2 dX11_official_11 rfl rfl ?_
    refine r_if_lt (pc := 12) (tgt := 21) S0 dX11_official_12 (by decide) ca2 hf (fun hf => ?_) (fun hf => ?_)
    · refine r_bipush (pc := 21) S0 dX11_official_21 (by decide) ?_
      have hz := ok_some hf
      have hz : (-2) = e := hz
      subst hQ
      subst hz
      exact r_iret (pc := 23) S0 hr hlk (cnz (-2) rfl) dX11_official_23
    · refine r_iload_n (pc := 15) S0 2 dX11_official_15 rfl rfl ?_
      refine r_bipush (pc := 16) S0 dX11_official_16 (by decide) ?_
      refine r_icmp_le (pc := 18) (tgt := 24) S0 dX11_official_18 (by decide) ca2 (cnz 8 rfl) hf (fun hf => ?_) (fun hf => ?_)
      · refine r_aload_n (pc := 24) S0 0 dX11_official_24 rfl rfl ?_
        refine r_getR (pc := 25) S0 hK fl_X11_28 dX11_official_25 hf (fun x5 hf => ?_)
        refine r_getR (pc := 28) S0 hK fl_X11_137 dX11_official_28 hf (fun x6 hf => ?_)
        refine r_iload_n (pc := 31) S0 2 dX11_official_31 rfl rfl ?_
        refine r_aald 24 4 (pc := 32) S0 hK (by decide) rfl rfl dX11_official_32 ca2 hf (fun x7 hf => ?_)
        refine r_iload_n (pc := 33) S0 1 dX11_official_33 rfl rfl ?_
        refine r_iald (pc := 34) S0 hK dX11_official_34 ca1 hf (fun x8 c9 hf => ?_)
        have hz := ok_some hf
        have hz : x8 = e := hz
        subst hQ
        subst hz
        exact r_iret (pc := 35) S0 hr hlk c9 dX11_official_35
      · refine r_bipush (pc := 21) S0 dX11_official_21 (by decide) ?_
        have hz := ok_some hf
        have hz : (-2) = e := hz
        subst hQ
        subst hz
        exact r_iret (pc := 23) S0 hr hlk (cnz (-2) rfl) dX11_official_23

set_option maxHeartbeats 4000000 in
set_option maxRecDepth 100000 in
theorem c_X11_isBit (l : Launch) (cA : Nat → ClassId) (D : va_G) (N : Nat) (sx : Sx) (ad : Nat → Nat) (T : Knd) (A : Rfs) (nx : Nat) (I : Mem) (a0 : Int) (ca0 : cn a0) (e : Int) (h : f_X11_isBit T A a0 I = some e) : CtI l yX11_isBit cX11_isBit 1 (some .boolean) 1 60 cA D N sx ad T A nx [iv a0] I I e := by
  refine met_of (lv0 := [(0, iv a0)]) (by decide) (Nat.le_of_ble_eq_true rfl) rfl (fun p e0 s m args below meth c S0 hK hX hr hlk Q hQ => ?_)
  have hf : OK (f_X11_isBit T A a0 I) (fun z => z = e) := ⟨e, h, rfl⟩
  unfold f_X11_isBit at hf
  refine r_iload_n (pc := 0) S0 0 dX11_isBit_0 rfl rfl ?_
  refine r_if_eq (pc := 1) (tgt := 9) S0 dX11_isBit_1 (by decide) ca0 hf (fun hf => ?_) (fun hf => ?_)
  · refine r_iconst (pc := 9) S0 dX11_isBit_9 ?_
    refine r_goto (pc := 10) (tgt := 14) S0 dX11_isBit_10 (by decide) ?_
    have hz := ok_some hf
    have hz : 1 = e := hz
    subst hQ
    subst hz
    exact r_zret (pc := 14) S0 hr hlk (Or.inr rfl) dX11_isBit_14
  · refine r_iload_n (pc := 4) S0 0 dX11_isBit_4 rfl rfl ?_
    refine r_iconst (pc := 5) S0 dX11_isBit_5 ?_
    refine r_icmp_ne (pc := 6) (tgt := 13) S0 dX11_isBit_6 (by decide) ca0 (cnz 1 rfl) hf (fun hf => ?_) (fun hf => ?_)
    · refine r_iconst (pc := 13) S0 dX11_isBit_13 ?_
      have hz := ok_some hf
      have hz : 0 = e := hz
      subst hQ
      subst hz
      exact r_zret (pc := 14) S0 hr hlk (Or.inl rfl) dX11_isBit_14
    · refine r_iconst (pc := 9) S0 dX11_isBit_9 ?_
      refine r_goto (pc := 10) (tgt := 14) S0 dX11_isBit_10 (by decide) ?_
      have hz := ok_some hf
      have hz : 1 = e := hz
      subst hQ
      subst hz
      exact r_zret (pc := 14) S0 hr hlk (Or.inr rfl) dX11_isBit_14

set_option maxHeartbeats 4000000 in
set_option maxRecDepth 100000 in
theorem c_X11_asks (l : Launch) (cA : Nat → ClassId) (D : va_G) (N : Nat) (sx : Sx) (ad : Nat → Nat) (T : Knd) (A : Rfs) (nx : Nat) (I : Mem) (w0 : Nat) (a1 : Int) (a2 : Int) (ca1 : cn a1) (ca2 : cn a2) (e : Int) (h : f_X11_asks T A w0 a1 a2 I = some e) : CtI l yX11_asks cX11_asks 3 (some .int) 2 81 cA D N sx ad T A nx [rv ad w0, iv a1, iv a2] I I e := by
  refine met_of (lv0 := [(0, rv ad w0), (1, iv a1), (2, iv a2)]) (by decide) (Nat.le_of_ble_eq_true rfl) rfl (fun p e0 s m args below meth c S0 hK hX hr hlk Q hQ => ?_)
  have hf : OK (f_X11_asks T A w0 a1 a2 I) (fun z => z = e) := ⟨e, h, rfl⟩
  unfold f_X11_asks at hf
  obtain ⟨hw0, hf⟩ := ok_grd hf
  refine r_aload_n (pc := 0) S0 0 dX11_asks_0 rfl rfl ?_
  refine r_getR (pc := 1) S0 hK fl_X11_28 dX11_asks_1 hf (fun x1 hf => ?_)
  refine r_iload_n (pc := 4) S0 1 dX11_asks_4 rfl rfl ?_
  obtain ⟨e2, h3, hf⟩ := ok_bind hf
  refine r_cV_I (pc := 5) [iv a1] S0 hK hX mv_X11_133 (k_X2_hasOfficial h3) (c_X2_hasOfficial l cA D N sx ad T A nx I x1 a1 ca1 e2 h3) rfl rfl ⟨by decide, by decide⟩ (Nat.le_of_ble_eq_true rfl) ⟨Nat.le_refl _, Nat.le_refl _⟩ dX11_asks_5 (fun c4 => ?_)
  refine r_if_eq (pc := 8) (tgt := 18) S0 dX11_asks_8 (by decide) c4 hf (fun hf => ?_) (fun hf => ?_)
  · refine r_bipush (pc := 18) S0 dX11_asks_18 (by decide) ?_
    have hz := ok_some hf
    have hz : (-2) = e := hz
    subst hQ
    subst hz
    exact r_iret (pc := 20) S0 hr hlk (cnz (-2) rfl) dX11_asks_20
  · refine r_iload_n (pc := 11) S0 2 dX11_asks_11 rfl rfl ?_
    obtain ⟨e5, h6, hf⟩ := ok_bind hf
    refine r_cS_I (pc := 12) [iv a2] S0 hK hX ms_X11_141 (c_X11_isBit l cA D N sx ad T A nx I a2 ca2 e5 h6) rfl rfl ⟨by decide, by decide⟩ (Nat.le_of_ble_eq_true rfl) ⟨Nat.le_refl _, Nat.le_refl _⟩ dX11_asks_12 (fun c7 => ?_)
    refine r_if_ne (pc := 15) (tgt := 21) S0 dX11_asks_15 (by decide) c7 hf (fun hf => ?_) (fun hf => ?_)
    · refine r_aload_n (pc := 21) S0 0 dX11_asks_21 rfl rfl ?_
      refine r_getR (pc := 22) S0 hK fl_X11_28 dX11_asks_22 hf (fun x8 hf => ?_)
      refine r_getR (pc := 25) S0 hK fl_X11_137 dX11_asks_25 hf (fun x9 hf => ?_)
      refine r_bipush (pc := 28) S0 dX11_asks_28 (by decide) ?_
      refine r_iload_n (pc := 30) S0 2 dX11_asks_30 rfl rfl ?_
      refine r_iadd (pc := 31) S0 dX11_asks_31 ?_
      refine r_aald 24 4 (pc := 32) S0 hK (by decide) rfl rfl dX11_asks_32 (cn_wrap _) hf (fun x10 hf => ?_)
      refine r_iload_n (pc := 33) S0 1 dX11_asks_33 rfl rfl ?_
      refine r_iald (pc := 34) S0 hK dX11_asks_34 ca1 hf (fun x11 c12 hf => ?_)
      have hz := ok_some hf
      have hz : x11 = e := hz
      subst hQ
      subst hz
      exact r_iret (pc := 35) S0 hr hlk c12 dX11_asks_35
    · refine r_bipush (pc := 18) S0 dX11_asks_18 (by decide) ?_
      have hz := ok_some hf
      have hz : (-2) = e := hz
      subst hQ
      subst hz
      exact r_iret (pc := 20) S0 hr hlk (cnz (-2) rfl) dX11_asks_20

set_option maxHeartbeats 4000000 in
set_option maxRecDepth 100000 in
theorem c_X11_asked (l : Launch) (cA : Nat → ClassId) (D : va_G) (N : Nat) (sx : Sx) (ad : Nat → Nat) (T : Knd) (A : Rfs) (nx : Nat) (I : Mem) (w0 : Nat) (a1 : Int) (a2 : Int) (ca1 : cn a1) (ca2 : cn a2) (e : Int) (h : f_X11_asked T A w0 a1 a2 I = some e) : CtI l yX11_asked cX11_asked 5 (some .int) 2 81 cA D N sx ad T A nx [rv ad w0, iv a1, iv a2] I I e := by
  refine met_of (lv0 := [(0, rv ad w0), (1, iv a1), (2, iv a2)]) (by decide) (Nat.le_of_ble_eq_true rfl) rfl (fun p e0 s m args below meth c S0 hK hX hr hlk Q hQ => ?_)
  have hf : OK (f_X11_asked T A w0 a1 a2 I) (fun z => z = e) := ⟨e, h, rfl⟩
  unfold f_X11_asked at hf
  obtain ⟨hw0, hf⟩ := ok_grd hf
  refine r_aload_n (pc := 0) S0 0 dX11_asked_0 rfl rfl ?_
  refine r_getR (pc := 1) S0 hK fl_X11_28 dX11_asked_1 hf (fun x1 hf => ?_)
  refine r_iload_n (pc := 4) S0 1 dX11_asked_4 rfl rfl ?_
  obtain ⟨e2, h3, hf⟩ := ok_bind hf
  refine r_cV_I (pc := 5) [iv a1] S0 hK hX mv_X11_133 (k_X2_hasOfficial h3) (c_X2_hasOfficial l cA D N sx ad T A nx I x1 a1 ca1 e2 h3) rfl rfl ⟨by decide, by decide⟩ (Nat.le_of_ble_eq_true rfl) ⟨Nat.le_refl _, Nat.le_refl _⟩ dX11_asked_5 (fun c4 => ?_)
  refine r_if_eq (pc := 8) (tgt := 18) S0 dX11_asked_8 (by decide) c4 hf (fun hf => ?_) (fun hf => ?_)
  · refine r_bipush (pc := 18) S0 dX11_asked_18 (by decide) ?_
    have hz := ok_some hf
    have hz : (-2) = e := hz
    subst hQ
    subst hz
    exact r_iret (pc := 20) S0 hr hlk (cnz (-2) rfl) dX11_asked_20
  · refine r_iload_n (pc := 11) S0 2 dX11_asked_11 rfl rfl ?_
    obtain ⟨e5, h6, hf⟩ := ok_bind hf
    refine r_cS_I (pc := 12) [iv a2] S0 hK hX ms_X11_141 (c_X11_isBit l cA D N sx ad T A nx I a2 ca2 e5 h6) rfl rfl ⟨by decide, by decide⟩ (Nat.le_of_ble_eq_true rfl) ⟨Nat.le_refl _, Nat.le_refl _⟩ dX11_asked_12 (fun c7 => ?_)
    refine r_if_ne (pc := 15) (tgt := 21) S0 dX11_asked_15 (by decide) c7 hf (fun hf => ?_) (fun hf => ?_)
    · refine r_iconst (pc := 21) S0 dX11_asked_21 ?_
      refine r_istore_n (pc := 22) (lv' := [(3, iv 0), (0, rv ad w0), (1, iv a1), (2, iv a2)]) S0 dX11_asked_22 rfl (by decide) rfl ?_
      refine r_iconst (pc := 23) S0 dX11_asked_23 ?_
      refine r_istore (pc := 24) (lv' := [(4, iv 0), (3, iv 0), (0, rv ad w0), (1, iv a1), (2, iv a2)]) S0 dX11_asked_24 (by decide) rfl ?_
      refine r_lv [2, 3, 4, 1, 0] rfl ?_
      refine it_ind (P := fun s9 => cn s9.1 → cn s9.2 → G p l e0 (rmx 2 81) s m args below meth c 0 0 Q cA D N 5 ad T A nx 26 [(0, rv ad w0), (1, iv a1), (2, iv a2), (3, iv s9.1), (4, iv s9.2)] [] I) (fun n0 s9 ih8 hf c10 c11 => ?_) FU (0, 0) hf (cnz 0 rfl) (cnz 0 rfl)
      refine r_iload (pc := 26) S0 4 dX11_asked_26 rfl ?_
      refine r_aload_n (pc := 28) S0 0 dX11_asked_28 rfl rfl ?_
      refine r_getR (pc := 29) S0 hK fl_X11_28 dX11_asked_29 hf (fun x12 hf => ?_)
      refine r_getI (pc := 32) S0 hK fl_X11_144 dX11_asked_32 hf (fun x13 c14 hf => ?_)
      refine r_icmp_ge (pc := 35) (tgt := 73) S0 dX11_asked_35 (by decide) c11 c14 hf (fun hf => ?_) (fun hf => ?_)
      · refine r_iload_n (pc := 73) S0 3 dX11_asked_73 rfl rfl ?_
        have hz := ok_some hf
        have hz : s9.1 = e := hz
        subst hQ
        subst hz
        exact r_iret (pc := 74) S0 hr hlk c10 dX11_asked_74
      · refine r_aload_n (pc := 38) S0 0 dX11_asked_38 rfl rfl ?_
        refine r_getR (pc := 39) S0 hK fl_X11_28 dX11_asked_39 hf (fun x15 hf => ?_)
        refine r_getR (pc := 42) S0 hK fl_X11_137 dX11_asked_42 hf (fun x16 hf => ?_)
        refine r_bipush (pc := 45) S0 dX11_asked_45 (by decide) ?_
        refine r_iload_n (pc := 47) S0 2 dX11_asked_47 rfl rfl ?_
        refine r_iadd (pc := 48) S0 dX11_asked_48 ?_
        refine r_aald 24 4 (pc := 49) S0 hK (by decide) rfl rfl dX11_asked_49 (cn_wrap _) hf (fun x17 hf => ?_)
        refine r_iload (pc := 50) S0 4 dX11_asked_50 rfl ?_
        refine r_iald (pc := 52) S0 hK dX11_asked_52 c11 hf (fun x18 c19 hf => ?_)
        refine r_iload_n (pc := 53) S0 1 dX11_asked_53 rfl rfl ?_
        obtain ⟨e20, h21, hf⟩ := ok_bind hf
        refine r_cS_I (pc := 54) [iv x18, iv a1] S0 hK hX ms_X11_147 (c_X11_hasBit l cA D N sx ad T A nx I x18 a1 c19 ca1 e20 h21) rfl rfl ⟨by decide, by decide⟩ (Nat.le_of_ble_eq_true rfl) ⟨Nat.le_refl _, Nat.le_refl _⟩ dX11_asked_54 (fun c22 => ?_)
        refine r_if_eq (pc := 57) (tgt := 67) S0 dX11_asked_57 (by decide) c22 hf (fun hf => ?_) (fun hf => ?_)
        · refine r_iinc (pc := 67) (lv' := [(4, iv (ia s9.2 1)), (0, rv ad w0), (1, iv a1), (2, iv a2), (3, iv s9.1)]) S0 4 dX11_asked_67 rfl (by decide) rfl ?_
          refine r_goto (pc := 70) (tgt := 26) S0 dX11_asked_70 (by decide) ?_
          have hz := ok_some hf
          refine r_lv [1, 2, 3, 4, 0] rfl ?_
          exact ih8 (s9.1, ia s9.2 1) hz c10 (cn_wrap _)
        · refine r_iload_n (pc := 60) S0 3 dX11_asked_60 rfl rfl ?_
          refine r_iconst (pc := 61) S0 dX11_asked_61 ?_
          refine r_iload (pc := 62) S0 4 dX11_asked_62 rfl ?_
          refine r_ishl (pc := 64) S0 dX11_asked_64 ?_
          refine r_ior (pc := 65) S0 dX11_asked_65 ?_
          refine r_istore_n (pc := 66) (lv' := [(3, iv (ior s9.1 (ishl 1 s9.2))), (0, rv ad w0), (1, iv a1), (2, iv a2), (4, iv s9.2)]) S0 dX11_asked_66 rfl (by decide) rfl ?_
          refine r_iinc (pc := 67) (lv' := [(4, iv (ia s9.2 1)), (3, iv (ior s9.1 (ishl 1 s9.2))), (0, rv ad w0), (1, iv a1), (2, iv a2)]) S0 4 dX11_asked_67 rfl (by decide) rfl ?_
          refine r_goto (pc := 70) (tgt := 26) S0 dX11_asked_70 (by decide) ?_
          have hz := ok_some hf
          refine r_lv [2, 3, 4, 1, 0] rfl ?_
          exact ih8 (ior s9.1 (ishl 1 s9.2), ia s9.2 1) hz (cn_toInt _) (cn_wrap _)
    · refine r_bipush (pc := 18) S0 dX11_asked_18 (by decide) ?_
      have hz := ok_some hf
      have hz : (-2) = e := hz
      subst hQ
      subst hz
      exact r_iret (pc := 20) S0 hr hlk (cnz (-2) rfl) dX11_asked_20

set_option maxHeartbeats 4000000 in
set_option maxRecDepth 100000 in
theorem c_X11_isHour (l : Launch) (cA : Nat → ClassId) (D : va_G) (N : Nat) (sx : Sx) (ad : Nat → Nat) (T : Knd) (A : Rfs) (nx : Nat) (I : Mem) (a0 : Int) (ca0 : cn a0) (e : Int) (h : f_X11_isHour T A a0 I = some e) : CtI l yX11_isHour cX11_isHour 1 (some .boolean) 1 60 cA D N sx ad T A nx [iv a0] I I e := by
  refine met_of (lv0 := [(0, iv a0)]) (by decide) (Nat.le_of_ble_eq_true rfl) rfl (fun p e0 s m args below meth c S0 hK hX hr hlk Q hQ => ?_)
  have hf : OK (f_X11_isHour T A a0 I) (fun z => z = e) := ⟨e, h, rfl⟩
  unfold f_X11_isHour at hf
  refine r_iload_n (pc := 0) S0 0 dX11_isHour_0 rfl rfl ?_
  refine r_if_lt (pc := 1) (tgt := 15) S0 dX11_isHour_1 (by decide) ca0 hf (fun hf => ?_) (fun hf => ?_)
  · refine r_iconst (pc := 15) S0 dX11_isHour_15 ?_
    have hz := ok_some hf
    have hz : 0 = e := hz
    subst hQ
    subst hz
    exact r_zret (pc := 16) S0 hr hlk (Or.inl rfl) dX11_isHour_16
  · refine r_iload_n (pc := 4) S0 0 dX11_isHour_4 rfl rfl ?_
    refine r_sipush (pc := 5) S0 dX11_isHour_5 (by decide) ?_
    refine r_icmp_ge (pc := 8) (tgt := 15) S0 dX11_isHour_8 (by decide) ca0 (cnz 400 rfl) hf (fun hf => ?_) (fun hf => ?_)
    · refine r_iconst (pc := 15) S0 dX11_isHour_15 ?_
      have hz := ok_some hf
      have hz : 0 = e := hz
      subst hQ
      subst hz
      exact r_zret (pc := 16) S0 hr hlk (Or.inl rfl) dX11_isHour_16
    · refine r_iconst (pc := 11) S0 dX11_isHour_11 ?_
      refine r_goto (pc := 12) (tgt := 16) S0 dX11_isHour_12 (by decide) ?_
      have hz := ok_some hf
      have hz : 1 = e := hz
      subst hQ
      subst hz
      exact r_zret (pc := 16) S0 hr hlk (Or.inr rfl) dX11_isHour_16

set_option maxHeartbeats 4000000 in
set_option maxRecDepth 100000 in
theorem c_X11_open (l : Launch) (cA : Nat → ClassId) (D : va_G) (N : Nat) (sx : Sx) (ad : Nat → Nat) (T : Knd) (A : Rfs) (nx : Nat) (I : Mem) (w0 : Nat) (a1 : Int) (a2 : Int) (ca1 : cn a1) (ca2 : cn a2) (e : Int) (h : f_X11_open T A w0 a1 a2 I = some e) : CtI l yX11_open cX11_open 3 (some .int) 4 128 cA D N sx ad T A nx [rv ad w0, iv a1, iv a2] I I e := by
  refine met_of (lv0 := [(0, rv ad w0), (1, iv a1), (2, iv a2)]) (by decide) (Nat.le_of_ble_eq_true rfl) rfl (fun p e0 s m args below meth c S0 hK hX hr hlk Q hQ => ?_)
  have hf : OK (f_X11_open T A w0 a1 a2 I) (fun z => z = e) := ⟨e, h, rfl⟩
  unfold f_X11_open at hf
  obtain ⟨hw0, hf⟩ := ok_grd hf
  refine r_aload_n (pc := 0) S0 0 dX11_open_0 rfl rfl ?_
  refine r_getR (pc := 1) S0 hK fl_X11_28 dX11_open_1 hf (fun x1 hf => ?_)
  refine r_iload_n (pc := 4) S0 1 dX11_open_4 rfl rfl ?_
  obtain ⟨e2, h3, hf⟩ := ok_bind hf
  refine r_cV_I (pc := 5) [iv a1] S0 hK hX mv_X11_133 (k_X2_hasOfficial h3) (c_X2_hasOfficial l cA D N sx ad T A nx I x1 a1 ca1 e2 h3) rfl rfl ⟨by decide, by decide⟩ (Nat.le_of_ble_eq_true rfl) ⟨Nat.le_refl _, Nat.le_refl _⟩ dX11_open_5 (fun c4 => ?_)
  refine r_if_eq (pc := 8) (tgt := 18) S0 dX11_open_8 (by decide) c4 hf (fun hf => ?_) (fun hf => ?_)
  · refine r_bipush (pc := 18) S0 dX11_open_18 (by decide) ?_
    have hz := ok_some hf
    have hz : (-2) = e := hz
    subst hQ
    subst hz
    exact r_iret (pc := 20) S0 hr hlk (cnz (-2) rfl) dX11_open_20
  · refine r_iload_n (pc := 11) S0 2 dX11_open_11 rfl rfl ?_
    obtain ⟨e5, h6, hf⟩ := ok_bind hf
    refine r_cS_I (pc := 12) [iv a2] S0 hK hX ms_X11_151 (c_X11_isHour l cA D N sx ad T A nx I a2 ca2 e5 h6) rfl rfl ⟨by decide, by decide⟩ (Nat.le_of_ble_eq_true rfl) ⟨Nat.le_refl _, Nat.le_refl _⟩ dX11_open_12 (fun c7 => ?_)
    refine r_if_ne (pc := 15) (tgt := 21) S0 dX11_open_15 (by decide) c7 hf (fun hf => ?_) (fun hf => ?_)
    · refine r_aload_n (pc := 21) S0 0 dX11_open_21 rfl rfl ?_
      refine r_getR (pc := 22) S0 hK fl_X11_28 dX11_open_22 hf (fun x8 hf => ?_)
      refine r_iload_n (pc := 25) S0 1 dX11_open_25 rfl rfl ?_
      refine r_iload_n (pc := 26) S0 2 dX11_open_26 rfl rfl ?_
      obtain ⟨e9, h10, hf⟩ := ok_bind hf
      refine r_cV_I (pc := 27) [iv a1, iv a2] S0 hK hX mv_X11_154 (k_X2_isOpen h10) (c_X2_isOpen l cA D N sx ad T A nx I x8 a1 a2 ca1 ca2 e9 h10) rfl rfl ⟨by decide, by decide⟩ (Nat.le_of_ble_eq_true rfl) ⟨Nat.le_refl _, Nat.le_refl _⟩ dX11_open_27 (fun c11 => ?_)
      refine r_if_eq (pc := 30) (tgt := 37) S0 dX11_open_30 (by decide) c11 hf (fun hf => ?_) (fun hf => ?_)
      · refine r_iconst (pc := 37) S0 dX11_open_37 ?_
        have hz := ok_some hf
        have hz : 0 = e := hz
        subst hQ
        subst hz
        exact r_iret (pc := 38) S0 hr hlk (cnz 0 rfl) dX11_open_38
      · refine r_iconst (pc := 33) S0 dX11_open_33 ?_
        refine r_goto (pc := 34) (tgt := 38) S0 dX11_open_34 (by decide) ?_
        have hz := ok_some hf
        have hz : 1 = e := hz
        subst hQ
        subst hz
        exact r_iret (pc := 38) S0 hr hlk (cnz 1 rfl) dX11_open_38
    · refine r_bipush (pc := 18) S0 dX11_open_18 (by decide) ?_
      have hz := ok_some hf
      have hz : (-2) = e := hz
      subst hQ
      subst hz
      exact r_iret (pc := 20) S0 hr hlk (cnz (-2) rfl) dX11_open_20

set_option maxHeartbeats 4000000 in
set_option maxRecDepth 100000 in
theorem c_X11_opens (l : Launch) (cA : Nat → ClassId) (D : va_G) (N : Nat) (sx : Sx) (ad : Nat → Nat) (T : Knd) (A : Rfs) (nx : Nat) (I : Mem) (w0 : Nat) (a1 : Int) (a2 : Int) (ca1 : cn a1) (ca2 : cn a2) (e : Int) (h : f_X11_opens T A w0 a1 a2 I = some e) : CtI l yX11_opens cX11_opens 3 (some .int) 2 82 cA D N sx ad T A nx [rv ad w0, iv a1, iv a2] I I e := by
  refine met_of (lv0 := [(0, rv ad w0), (1, iv a1), (2, iv a2)]) (by decide) (Nat.le_of_ble_eq_true rfl) rfl (fun p e0 s m args below meth c S0 hK hX hr hlk Q hQ => ?_)
  have hf : OK (f_X11_opens T A w0 a1 a2 I) (fun z => z = e) := ⟨e, h, rfl⟩
  unfold f_X11_opens at hf
  obtain ⟨hw0, hf⟩ := ok_grd hf
  refine r_aload_n (pc := 0) S0 0 dX11_opens_0 rfl rfl ?_
  refine r_getR (pc := 1) S0 hK fl_X11_28 dX11_opens_1 hf (fun x1 hf => ?_)
  refine r_iload_n (pc := 4) S0 1 dX11_opens_4 rfl rfl ?_
  obtain ⟨e2, h3, hf⟩ := ok_bind hf
  refine r_cV_I (pc := 5) [iv a1] S0 hK hX mv_X11_133 (k_X2_hasOfficial h3) (c_X2_hasOfficial l cA D N sx ad T A nx I x1 a1 ca1 e2 h3) rfl rfl ⟨by decide, by decide⟩ (Nat.le_of_ble_eq_true rfl) ⟨Nat.le_refl _, Nat.le_refl _⟩ dX11_opens_5 (fun c4 => ?_)
  refine r_if_eq (pc := 8) (tgt := 18) S0 dX11_opens_8 (by decide) c4 hf (fun hf => ?_) (fun hf => ?_)
  · refine r_bipush (pc := 18) S0 dX11_opens_18 (by decide) ?_
    have hz := ok_some hf
    have hz : (-2) = e := hz
    subst hQ
    subst hz
    exact r_iret (pc := 20) S0 hr hlk (cnz (-2) rfl) dX11_opens_20
  · refine r_iload_n (pc := 11) S0 2 dX11_opens_11 rfl rfl ?_
    obtain ⟨e5, h6, hf⟩ := ok_bind hf
    refine r_cS_I (pc := 12) [iv a2] S0 hK hX ms_X11_151 (c_X11_isHour l cA D N sx ad T A nx I a2 ca2 e5 h6) rfl rfl ⟨by decide, by decide⟩ (Nat.le_of_ble_eq_true rfl) ⟨Nat.le_refl _, Nat.le_refl _⟩ dX11_opens_12 (fun c7 => ?_)
    refine r_if_ne (pc := 15) (tgt := 21) S0 dX11_opens_15 (by decide) c7 hf (fun hf => ?_) (fun hf => ?_)
    · refine r_aload_n (pc := 21) S0 0 dX11_opens_21 rfl rfl ?_
      refine r_getR (pc := 22) S0 hK fl_X11_35 dX11_opens_22 hf (fun x8 hf => ?_)
      refine r_iload_n (pc := 25) S0 1 dX11_opens_25 rfl rfl ?_
      refine r_iload_n (pc := 26) S0 2 dX11_opens_26 rfl rfl ?_
      obtain ⟨e9, h10, hf⟩ := ok_bind hf
      refine r_cV_I (pc := 27) [iv a1, iv a2] S0 hK hX mv_X11_157 (k_X9_firstOpen h10) (c_X9_firstOpen l cA D N sx ad T A nx I x8 a1 a2 ca1 ca2 e9 h10) rfl rfl ⟨by decide, by decide⟩ (Nat.le_of_ble_eq_true rfl) ⟨Nat.le_refl _, Nat.le_refl _⟩ dX11_opens_27 (fun c11 => ?_)
      have hz := ok_some hf
      have hz : e9 = e := hz
      subst hQ
      subst hz
      exact r_iret (pc := 30) S0 hr hlk c11 dX11_opens_30
    · refine r_bipush (pc := 18) S0 dX11_opens_18 (by decide) ?_
      have hz := ok_some hf
      have hz : (-2) = e := hz
      subst hQ
      subst hz
      exact r_iret (pc := 20) S0 hr hlk (cnz (-2) rfl) dX11_opens_20

set_option maxHeartbeats 4000000 in
set_option maxRecDepth 100000 in
theorem c_X11_week (l : Launch) (cA : Nat → ClassId) (D : va_G) (N : Nat) (sx : Sx) (ad : Nat → Nat) (T : Knd) (A : Rfs) (nx : Nat) (I : Mem) (w0 : Nat) (a1 : Int) (ca1 : cn a1) (e : Int) (h : f_X11_week T A w0 a1 I = some e) : CtI l yX11_week cX11_week 4 (some .int) 3 104 cA D N sx ad T A nx [rv ad w0, iv a1] I I e := by
  refine met_of (lv0 := [(0, rv ad w0), (1, iv a1)]) (by decide) (Nat.le_of_ble_eq_true rfl) rfl (fun p e0 s m args below meth c S0 hK hX hr hlk Q hQ => ?_)
  have hf : OK (f_X11_week T A w0 a1 I) (fun z => z = e) := ⟨e, h, rfl⟩
  unfold f_X11_week at hf
  obtain ⟨hw0, hf⟩ := ok_grd hf
  refine r_aload_n (pc := 0) S0 0 dX11_week_0 rfl rfl ?_
  refine r_getR (pc := 1) S0 hK fl_X11_28 dX11_week_1 hf (fun x1 hf => ?_)
  refine r_iload_n (pc := 4) S0 1 dX11_week_4 rfl rfl ?_
  obtain ⟨e2, h3, hf⟩ := ok_bind hf
  refine r_cV_I (pc := 5) [iv a1] S0 hK hX mv_X11_133 (k_X2_hasOfficial h3) (c_X2_hasOfficial l cA D N sx ad T A nx I x1 a1 ca1 e2 h3) rfl rfl ⟨by decide, by decide⟩ (Nat.le_of_ble_eq_true rfl) ⟨Nat.le_refl _, Nat.le_refl _⟩ dX11_week_5 (fun c4 => ?_)
  refine r_if_ne (pc := 8) (tgt := 14) S0 dX11_week_8 (by decide) c4 hf (fun hf => ?_) (fun hf => ?_)
  · refine r_iconst (pc := 14) S0 dX11_week_14 ?_
    refine r_istore_n (pc := 15) (lv' := [(2, iv 0), (0, rv ad w0), (1, iv a1)]) S0 dX11_week_15 rfl (by decide) rfl ?_
    refine r_iconst (pc := 16) S0 dX11_week_16 ?_
    refine r_istore_n (pc := 17) (lv' := [(3, iv 0), (2, iv 0), (0, rv ad w0), (1, iv a1)]) S0 dX11_week_17 rfl (by decide) rfl ?_
    refine r_lv [2, 3, 1, 0] rfl ?_
    refine it_ind (P := fun s6 => cn s6.1 → cn s6.2 → G p l e0 (rmx 3 104) s m args below meth c 0 0 Q cA D N 4 ad T A nx 18 [(0, rv ad w0), (1, iv a1), (2, iv s6.1), (3, iv s6.2)] [] I) (fun n0 s6 ih5 hf c7 c8 => ?_) FU (0, 0) hf (cnz 0 rfl) (cnz 0 rfl)
    refine r_iload_n (pc := 18) S0 3 dX11_week_18 rfl rfl ?_
    refine r_bipush (pc := 19) S0 dX11_week_19 (by decide) ?_
    refine r_icmp_ge (pc := 21) (tgt := 45) S0 dX11_week_21 (by decide) c8 (cnz 50 rfl) hf (fun hf => ?_) (fun hf => ?_)
    · refine r_iload_n (pc := 45) S0 2 dX11_week_45 rfl rfl ?_
      have hz := ok_some hf
      have hz : s6.1 = e := hz
      subst hQ
      subst hz
      exact r_iret (pc := 46) S0 hr hlk c7 dX11_week_46
    · refine r_aload_n (pc := 24) S0 0 dX11_week_24 rfl rfl ?_
      refine r_getR (pc := 25) S0 hK fl_X11_28 dX11_week_25 hf (fun x9 hf => ?_)
      refine r_iload_n (pc := 28) S0 1 dX11_week_28 rfl rfl ?_
      refine r_iload_n (pc := 29) S0 3 dX11_week_29 rfl rfl ?_
      obtain ⟨e10, h11, hf⟩ := ok_bind hf
      refine r_cV_I (pc := 30) [iv a1, iv s6.2] S0 hK hX mv_X11_161 (k_X2_isOffered h11) (c_X2_isOffered l cA D N sx ad T A nx I x9 a1 s6.2 ca1 c8 e10 h11) rfl rfl ⟨by decide, by decide⟩ (Nat.le_of_ble_eq_true rfl) ⟨Nat.le_refl _, Nat.le_refl _⟩ dX11_week_30 (fun c12 => ?_)
      refine r_if_eq (pc := 33) (tgt := 39) S0 dX11_week_33 (by decide) c12 hf (fun hf => ?_) (fun hf => ?_)
      · refine r_iinc (pc := 39) (lv' := [(3, iv (ia s6.2 1)), (0, rv ad w0), (1, iv a1), (2, iv s6.1)]) S0 3 dX11_week_39 rfl (by decide) rfl ?_
        refine r_goto (pc := 42) (tgt := 18) S0 dX11_week_42 (by decide) ?_
        have hz := ok_some hf
        refine r_lv [1, 2, 3, 0] rfl ?_
        exact ih5 (s6.1, ia s6.2 1) hz c7 (cn_wrap _)
      · refine r_iinc (pc := 36) (lv' := [(2, iv (ia s6.1 1)), (0, rv ad w0), (1, iv a1), (3, iv s6.2)]) S0 2 dX11_week_36 rfl (by decide) rfl ?_
        refine r_iinc (pc := 39) (lv' := [(3, iv (ia s6.2 1)), (2, iv (ia s6.1 1)), (0, rv ad w0), (1, iv a1)]) S0 3 dX11_week_39 rfl (by decide) rfl ?_
        refine r_goto (pc := 42) (tgt := 18) S0 dX11_week_42 (by decide) ?_
        have hz := ok_some hf
        refine r_lv [2, 3, 1, 0] rfl ?_
        exact ih5 (ia s6.1 1, ia s6.2 1) hz (cn_wrap _) (cn_wrap _)
  · refine r_bipush (pc := 11) S0 dX11_week_11 (by decide) ?_
    have hz := ok_some hf
    have hz : (-2) = e := hz
    subst hQ
    subst hz
    exact r_iret (pc := 13) S0 hr hlk (cnz (-2) rfl) dX11_week_13

set_option maxHeartbeats 4000000 in
set_option maxRecDepth 100000 in
theorem c_X2_hasRoom (l : Launch) (cA : Nat → ClassId) (D : va_G) (N : Nat) (sx : Sx) (ad : Nat → Nat) (T : Knd) (A : Rfs) (nx : Nat) (I : Mem) (w0 : Nat) (a1 : Int) (ca1 : cn a1) (e : Int) (h : f_X2_hasRoom T A w0 a1 I = some e) : CtI l yX2_hasRoom cX2_hasRoom 2 (some .boolean) 1 60 cA D N sx ad T A nx [rv ad w0, iv a1] I I e := by
  refine met_of (lv0 := [(0, rv ad w0), (1, iv a1)]) (by decide) (Nat.le_of_ble_eq_true rfl) rfl (fun p e0 s m args below meth c S0 hK hX hr hlk Q hQ => ?_)
  have hf : OK (f_X2_hasRoom T A w0 a1 I) (fun z => z = e) := ⟨e, h, rfl⟩
  unfold f_X2_hasRoom at hf
  obtain ⟨hw0, hf⟩ := ok_grd hf
  refine r_iload_n (pc := 0) S0 1 dX2_hasRoom_0 rfl rfl ?_
  refine r_if_lt (pc := 1) (tgt := 22) S0 dX2_hasRoom_1 (by decide) ca1 hf (fun hf => ?_) (fun hf => ?_)
  · refine r_iconst (pc := 22) S0 dX2_hasRoom_22 ?_
    have hz := ok_some hf
    have hz : 0 = e := hz
    subst hQ
    subst hz
    exact r_zret (pc := 23) S0 hr hlk (Or.inl rfl) dX2_hasRoom_23
  · refine r_iload_n (pc := 4) S0 1 dX2_hasRoom_4 rfl rfl ?_
    refine r_aload_n (pc := 5) S0 0 dX2_hasRoom_5 rfl rfl ?_
    refine r_getI (pc := 6) S0 hK fl_X2_27 dX2_hasRoom_6 hf (fun x1 c2 hf => ?_)
    refine r_icmp_ge (pc := 9) (tgt := 22) S0 dX2_hasRoom_9 (by decide) ca1 c2 hf (fun hf => ?_) (fun hf => ?_)
    · refine r_iconst (pc := 22) S0 dX2_hasRoom_22 ?_
      have hz := ok_some hf
      have hz : 0 = e := hz
      subst hQ
      subst hz
      exact r_zret (pc := 23) S0 hr hlk (Or.inl rfl) dX2_hasRoom_23
    · refine r_iload_n (pc := 12) S0 1 dX2_hasRoom_12 rfl rfl ?_
      refine r_bipush (pc := 13) S0 dX2_hasRoom_13 (by decide) ?_
      refine r_icmp_ge (pc := 15) (tgt := 22) S0 dX2_hasRoom_15 (by decide) ca1 (cnz 6 rfl) hf (fun hf => ?_) (fun hf => ?_)
      · refine r_iconst (pc := 22) S0 dX2_hasRoom_22 ?_
        have hz := ok_some hf
        have hz : 0 = e := hz
        subst hQ
        subst hz
        exact r_zret (pc := 23) S0 hr hlk (Or.inl rfl) dX2_hasRoom_23
      · refine r_iconst (pc := 18) S0 dX2_hasRoom_18 ?_
        refine r_goto (pc := 19) (tgt := 23) S0 dX2_hasRoom_19 (by decide) ?_
        have hz := ok_some hf
        have hz : 1 = e := hz
        subst hQ
        subst hz
        exact r_zret (pc := 23) S0 hr hlk (Or.inr rfl) dX2_hasRoom_23

set_option maxHeartbeats 4000000 in
set_option maxRecDepth 100000 in
theorem c_X11_walk (l : Launch) (cA : Nat → ClassId) (D : va_G) (N : Nat) (sx : Sx) (ad : Nat → Nat) (T : Knd) (A : Rfs) (nx : Nat) (I : Mem) (w0 : Nat) (a1 : Int) (a2 : Int) (ca1 : cn a1) (ca2 : cn a2) (e : Int) (h : f_X11_walk T A w0 a1 a2 I = some e) : CtI l yX11_walk cX11_walk 3 (some .int) 2 82 cA D N sx ad T A nx [rv ad w0, iv a1, iv a2] I I e := by
  refine met_of (lv0 := [(0, rv ad w0), (1, iv a1), (2, iv a2)]) (by decide) (Nat.le_of_ble_eq_true rfl) rfl (fun p e0 s m args below meth c S0 hK hX hr hlk Q hQ => ?_)
  have hf : OK (f_X11_walk T A w0 a1 a2 I) (fun z => z = e) := ⟨e, h, rfl⟩
  unfold f_X11_walk at hf
  obtain ⟨hw0, hf⟩ := ok_grd hf
  refine r_aload_n (pc := 0) S0 0 dX11_walk_0 rfl rfl ?_
  refine r_getR (pc := 1) S0 hK fl_X11_28 dX11_walk_1 hf (fun x1 hf => ?_)
  refine r_iload_n (pc := 4) S0 1 dX11_walk_4 rfl rfl ?_
  obtain ⟨e2, h3, hf⟩ := ok_bind hf
  refine r_cV_I (pc := 5) [iv a1] S0 hK hX mv_X11_164 (k_X2_hasRoom h3) (c_X2_hasRoom l cA D N sx ad T A nx I x1 a1 ca1 e2 h3) rfl rfl ⟨by decide, by decide⟩ (Nat.le_of_ble_eq_true rfl) ⟨Nat.le_refl _, Nat.le_refl _⟩ dX11_walk_5 (fun c4 => ?_)
  refine r_if_eq (pc := 8) (tgt := 22) S0 dX11_walk_8 (by decide) c4 hf (fun hf => ?_) (fun hf => ?_)
  · refine r_bipush (pc := 22) S0 dX11_walk_22 (by decide) ?_
    have hz := ok_some hf
    have hz : (-2) = e := hz
    subst hQ
    subst hz
    exact r_iret (pc := 24) S0 hr hlk (cnz (-2) rfl) dX11_walk_24
  · refine r_aload_n (pc := 11) S0 0 dX11_walk_11 rfl rfl ?_
    refine r_getR (pc := 12) S0 hK fl_X11_28 dX11_walk_12 hf (fun x5 hf => ?_)
    refine r_iload_n (pc := 15) S0 2 dX11_walk_15 rfl rfl ?_
    obtain ⟨e6, h7, hf⟩ := ok_bind hf
    refine r_cV_I (pc := 16) [iv a2] S0 hK hX mv_X11_164 (k_X2_hasRoom h7) (c_X2_hasRoom l cA D N sx ad T A nx I x5 a2 ca2 e6 h7) rfl rfl ⟨by decide, by decide⟩ (Nat.le_of_ble_eq_true rfl) ⟨Nat.le_refl _, Nat.le_refl _⟩ dX11_walk_16 (fun c8 => ?_)
    refine r_if_ne (pc := 19) (tgt := 25) S0 dX11_walk_19 (by decide) c8 hf (fun hf => ?_) (fun hf => ?_)
    · refine r_aload_n (pc := 25) S0 0 dX11_walk_25 rfl rfl ?_
      refine r_getR (pc := 26) S0 hK fl_X11_35 dX11_walk_26 hf (fun x9 hf => ?_)
      refine r_iload_n (pc := 29) S0 1 dX11_walk_29 rfl rfl ?_
      refine r_iload_n (pc := 30) S0 2 dX11_walk_30 rfl rfl ?_
      obtain ⟨e10, h11, hf⟩ := ok_bind hf
      refine r_cV_I (pc := 31) [iv a1, iv a2] S0 hK hX mv_X11_167 (k_X9_hoursBetween h11) (c_X9_hoursBetween l cA D N sx ad T A nx I x9 a1 a2 ca1 ca2 e10 h11) rfl rfl ⟨by decide, by decide⟩ (Nat.le_of_ble_eq_true rfl) ⟨Nat.le_refl _, Nat.le_refl _⟩ dX11_walk_31 (fun c12 => ?_)
      have hz := ok_some hf
      have hz : e10 = e := hz
      subst hQ
      subst hz
      exact r_iret (pc := 34) S0 hr hlk c12 dX11_walk_34
    · refine r_bipush (pc := 22) S0 dX11_walk_22 (by decide) ?_
      have hz := ok_some hf
      have hz : (-2) = e := hz
      subst hQ
      subst hz
      exact r_iret (pc := 24) S0 hr hlk (cnz (-2) rfl) dX11_walk_24

set_option maxHeartbeats 4000000 in
set_option maxRecDepth 100000 in
theorem c_X2_isThere (l : Launch) (cA : Nat → ClassId) (D : va_G) (N : Nat) (sx : Sx) (ad : Nat → Nat) (T : Knd) (A : Rfs) (nx : Nat) (I : Mem) (w0 : Nat)  (e : Int) (h : f_X2_isThere T A w0 I = some e) : CtI l yX2_isThere cX2_isThere 1 (some .boolean) 1 60 cA D N sx ad T A nx [rv ad w0] I I e := by
  refine met_of (lv0 := [(0, rv ad w0)]) (by decide) (Nat.le_of_ble_eq_true rfl) rfl (fun p e0 s m args below meth c S0 hK hX hr hlk Q hQ => ?_)
  have hf : OK (f_X2_isThere T A w0 I) (fun z => z = e) := ⟨e, h, rfl⟩
  unfold f_X2_isThere at hf
  obtain ⟨hw0, hf⟩ := ok_grd hf
  refine r_aload_n (pc := 0) S0 0 dX2_isThere_0 rfl rfl ?_
  refine r_getI (pc := 1) S0 hK fl_X2_23 dX2_isThere_1 hf (fun x1 c2 hf => ?_)
  refine r_if_le (pc := 4) (tgt := 11) S0 dX2_isThere_4 (by decide) c2 hf (fun hf => ?_) (fun hf => ?_)
  · refine r_iconst (pc := 11) S0 dX2_isThere_11 ?_
    have hz := ok_some hf
    have hz : 0 = e := hz
    subst hQ
    subst hz
    exact r_zret (pc := 12) S0 hr hlk (Or.inl rfl) dX2_isThere_12
  · refine r_iconst (pc := 7) S0 dX2_isThere_7 ?_
    refine r_goto (pc := 8) (tgt := 12) S0 dX2_isThere_8 (by decide) ?_
    have hz := ok_some hf
    have hz : 1 = e := hz
    subst hQ
    subst hz
    exact r_zret (pc := 12) S0 hr hlk (Or.inr rfl) dX2_isThere_12
