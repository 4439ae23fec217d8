/-! Contracts, laid by wip/gen/gen.py. -/
set_option maxHeartbeats 4000000 in
set_option maxRecDepth 100000 in
theorem c_X12_whyNot (l : Launch) (cA : Nat → ClassId) (D : va_G) (N : Nat) (sx : Sx) (ad : Nat → Nat) (T : Knd) (A : Rfs) (nx : Nat) (I : Mem) (w0 : Nat) (a1 : Int) (ca1 : cn a1) (e : Int) (h : f_X12_whyNot T A w0 a1 I = some e) : CtI l yX12_whyNot cX12_whyNot 3 (some .int) 3 107 cA D N sx ad T A nx [rv ad w0, iv a1] I I e := by
  refine met_of (lv0 := [(0, rv ad w0), (1, iv a1)]) (by decide) (Nat.le_of_ble_eq_true rfl) rfl (fun p e0 s m args below meth c S0 hK hX hr hlk Q hQ => ?_)
  have hf : OK (f_X12_whyNot T A w0 a1 I) (fun z => z = e) := ⟨e, h, rfl⟩
  unfold f_X12_whyNot at hf
  obtain ⟨hw0, hf⟩ := ok_grd hf
  refine r_iload_n (pc := 0) S0 1 dX12_whyNot_0 rfl rfl ?_
  obtain ⟨e1, h2, hf⟩ := ok_bind hf
  refine r_cS_I (pc := 1) [iv a1] S0 hK hX ms_X12_98 (c_X12_isSlot l cA D N sx ad T A nx I a1 ca1 e1 h2) rfl rfl ⟨by decide, by decide⟩ (Nat.le_of_ble_eq_true rfl) ⟨Nat.le_refl _, Nat.le_refl _⟩ dX12_whyNot_1 (fun c3 => ?_)
  refine r_if_eq (pc := 4) (tgt := 14) S0 dX12_whyNot_4 (by decide) c3 hf (fun hf => ?_) (fun hf => ?_)
  · refine r_bipush (pc := 14) S0 dX12_whyNot_14 (by decide) ?_
    have hz := ok_some hf
    have hz : (-2) = e := hz
    subst hQ
    subst hz
    exact r_iret (pc := 16) S0 hr hlk (cnz (-2) rfl) dX12_whyNot_16
  · refine r_aload_n (pc := 7) S0 0 dX12_whyNot_7 rfl rfl ?_
    obtain ⟨e4, h5, hf⟩ := ok_bind hf
    refine r_cV_I (pc := 8) [] S0 hK hX mv_X12_267 (k_X12_isOffice h5) (c_X12_isOffice l cA D N sx ad T A nx I w0 e4 h5) rfl rfl ⟨by decide, by decide⟩ (Nat.le_of_ble_eq_true rfl) ⟨Nat.le_refl _, Nat.le_refl _⟩ dX12_whyNot_8 (fun c6 => ?_)
    refine r_if_ne (pc := 11) (tgt := 17) S0 dX12_whyNot_11 (by decide) c6 hf (fun hf => ?_) (fun hf => ?_)
    · refine r_aload_n (pc := 17) S0 0 dX12_whyNot_17 rfl rfl ?_
      refine r_getR (pc := 18) S0 hK fl_X12_7 dX12_whyNot_18 hf (fun x7 hf => ?_)
      refine r_iload_n (pc := 21) S0 1 dX12_whyNot_21 rfl rfl ?_
      refine r_iald (pc := 22) S0 hK dX12_whyNot_22 ca1 hf (fun x8 c9 hf => ?_)
      refine r_iconst (pc := 23) S0 dX12_whyNot_23 ?_
      refine r_icmp_ne (pc := 24) (tgt := 30) S0 dX12_whyNot_24 (by decide) c9 (cnz (-1) rfl) hf (fun hf => ?_) (fun hf => ?_)
      · refine r_iconst (pc := 30) S0 dX12_whyNot_30 ?_
        refine r_istore_n (pc := 31) (lv' := [(2, iv 0), (0, rv ad w0), (1, iv a1)]) S0 dX12_whyNot_31 rfl (by decide) rfl ?_
        refine r_lv [1, 2, 0] rfl ?_
        refine it_ind (P := fun s11 => cn s11 → G p l e0 (rmx 3 107) s m args below meth c 0 0 Q cA D N 3 ad T A nx 32 [(0, rv ad w0), (1, iv a1), (2, iv s11)] [] I) (fun n0 s11 ih10 hf c12 => ?_) FU 0 hf (cnz 0 rfl)
        refine r_iload_n (pc := 32) S0 2 dX12_whyNot_32 rfl rfl ?_
        refine r_aload_n (pc := 33) S0 0 dX12_whyNot_33 rfl rfl ?_
        refine r_getR (pc := 34) S0 hK fl_X12_13 dX12_whyNot_34 hf (fun x13 hf => ?_)
        refine r_iload_n (pc := 37) S0 1 dX12_whyNot_37 rfl rfl ?_
        refine r_iald (pc := 38) S0 hK dX12_whyNot_38 ca1 hf (fun x14 c15 hf => ?_)
        refine r_icmp_ge (pc := 39) (tgt := 69) S0 dX12_whyNot_39 (by decide) c12 c15 hf (fun hf => ?_) (fun hf => ?_)
        · refine r_iconst (pc := 69) S0 dX12_whyNot_69 ?_
          have hz := ok_some hf
          have hz : 0 = e := hz
          subst hQ
          subst hz
          exact r_iret (pc := 70) S0 hr hlk (cnz 0 rfl) dX12_whyNot_70
        · refine r_aload_n (pc := 42) S0 0 dX12_whyNot_42 rfl rfl ?_
          refine r_aload_n (pc := 43) S0 0 dX12_whyNot_43 rfl rfl ?_
          refine r_getR (pc := 44) S0 hK fl_X12_16 dX12_whyNot_44 hf (fun x16 hf => ?_)
          refine r_bipush (pc := 47) S0 dX12_whyNot_47 (by decide) ?_
          refine r_iload_n (pc := 49) S0 1 dX12_whyNot_49 rfl rfl ?_
          refine r_imul (pc := 50) S0 dX12_whyNot_50 ?_
          refine r_iload_n (pc := 51) S0 2 dX12_whyNot_51 rfl rfl ?_
          refine r_iadd (pc := 52) S0 dX12_whyNot_52 ?_
          refine r_lald (pc := 53) S0 hK dX12_whyNot_53 (cn_wrap _) hf (fun x17 c18 hf => ?_)
          obtain ⟨e19, h20, hf⟩ := ok_bind hf
          refine r_cV_I (pc := 54) [jv x17] S0 hK hX mv_X12_270 (k_X12_isOfficial h20) (c_X12_isOfficial l cA D N sx ad T A nx I w0 x17 c18 e19 h20) rfl rfl ⟨by decide, by decide⟩ (Nat.le_of_ble_eq_true rfl) ⟨Nat.le_refl _, Nat.le_refl _⟩ dX12_whyNot_54 (fun c21 => ?_)
          refine r_if_ne (pc := 57) (tgt := 63) S0 dX12_whyNot_57 (by decide) c21 hf (fun hf => ?_) (fun hf => ?_)
          · refine r_iinc (pc := 63) (lv' := [(2, iv (ia s11 1)), (0, rv ad w0), (1, iv a1)]) S0 2 dX12_whyNot_63 rfl (by decide) rfl ?_
            refine r_goto (pc := 66) (tgt := 32) S0 dX12_whyNot_66 (by decide) ?_
            have hz := ok_some hf
            refine r_lv [1, 2, 0] rfl ?_
            exact ih10 (ia s11 1) hz (cn_wrap _)
          · refine r_bipush (pc := 60) S0 dX12_whyNot_60 (by decide) ?_
            have hz := ok_some hf
            have hz : (-2) = e := hz
            subst hQ
            subst hz
            exact r_iret (pc := 62) S0 hr hlk (cnz (-2) rfl) dX12_whyNot_62
      · refine r_bipush (pc := 27) S0 dX12_whyNot_27 (by decide) ?_
        have hz := ok_some hf
        have hz : (-6) = e := hz
        subst hQ
        subst hz
        exact r_iret (pc := 29) S0 hr hlk (cnz (-6) rfl) dX12_whyNot_29
    · refine r_bipush (pc := 14) S0 dX12_whyNot_14 (by decide) ?_
      have hz := ok_some hf
      have hz : (-2) = e := hz
      subst hQ
      subst hz
      exact r_iret (pc := 16) S0 hr hlk (cnz (-2) rfl) dX12_whyNot_16

set_option maxHeartbeats 4000000 in
set_option maxRecDepth 100000 in
theorem c_X12_cellOf (l : Launch) (cA : Nat → ClassId) (D : va_G) (N : Nat) (sx : Sx) (ad : Nat → Nat) (T : Knd) (A : Rfs) (nx : Nat) (I : Mem) (w0 : Nat) (a1 : Int) (a2 : Int) (ca1 : cn a1) (ca2 : cn a2) (e : Int) (h : f_X12_cellOf T A w0 a1 a2 I = some e) : CtI l yX12_cellOf cX12_cellOf 3 (some .int) 1 60 cA D N sx ad T A nx [rv ad w0, iv a1, iv a2] I I e := by
  refine met_of (lv0 := [(0, rv ad w0), (1, iv a1), (2, iv a2)]) (by decide) (Nat.le_of_ble_eq_true rfl) rfl (fun p e0 s m args below meth c S0 hK hX hr hlk Q hQ => ?_)
  have hf : OK (f_X12_cellOf T A w0 a1 a2 I) (fun z => z = e) := ⟨e, h, rfl⟩
  unfold f_X12_cellOf at hf
  obtain ⟨hw0, hf⟩ := ok_grd hf
  refine r_aload_n (pc := 0) S0 0 dX12_cellOf_0 rfl rfl ?_
  refine r_getR (pc := 1) S0 hK fl_X12_16 dX12_cellOf_1 hf (fun x1 hf => ?_)
  refine r_bipush (pc := 4) S0 dX12_cellOf_4 (by decide) ?_
  refine r_iload_n (pc := 6) S0 1 dX12_cellOf_6 rfl rfl ?_
  refine r_imul (pc := 7) S0 dX12_cellOf_7 ?_
  refine r_iload_n (pc := 8) S0 2 dX12_cellOf_8 rfl rfl ?_
  refine r_iadd (pc := 9) S0 dX12_cellOf_9 ?_
  refine r_lald (pc := 10) S0 hK dX12_cellOf_10 (cn_wrap _) hf (fun x2 c3 hf => ?_)
  refine r_l2i (pc := 11) S0 dX12_cellOf_11 c3 ?_
  have hz := ok_some hf
  have hz : (wrap x2) = e := hz
  subst hQ
  subst hz
  exact r_iret (pc := 12) S0 hr hlk (cn_wrap _) dX12_cellOf_12

set_option maxHeartbeats 4000000 in
set_option maxRecDepth 100000 in
theorem c_X12_judge (l : Launch) (cA : Nat → ClassId) (D : va_G) (N : Nat) (sx : Sx) (ad : Nat → Nat) (T : Knd) (A : Rfs) (nx : Nat) (I : Mem) (w0 : Nat) (a1 : Int) (ca1 : cn a1) (e : (Int × Mem)) (h : f_X12_judge T A w0 a1 I = some e) : CtI l yX12_judge cX12_judge 6 (some .int) 4 129 cA D N sx ad T A nx [rv ad w0, iv a1] I e.2 e.1 := by
  refine met_of (lv0 := [(0, rv ad w0), (1, iv a1)]) (by decide) (Nat.le_of_ble_eq_true rfl) rfl (fun p e0 s m args below meth c S0 hK hX hr hlk Q hQ => ?_)
  have hf : OK (f_X12_judge T A w0 a1 I) (fun z => z = e) := ⟨e, h, rfl⟩
  unfold f_X12_judge at hf
  obtain ⟨hw0, hf⟩ := ok_grd hf
  refine r_aload_n (pc := 0) S0 0 dX12_judge_0 rfl rfl ?_
  refine r_iconst (pc := 1) S0 dX12_judge_1 ?_
  refine r_putI (pc := 2) S0 hK fl_X12_89 rfl rfl (cnz 0 rfl) dX12_judge_2 hf (fun I1 hf => ?_)
  refine r_aload_n (pc := 5) S0 0 dX12_judge_5 rfl rfl ?_
  refine r_iload_n (pc := 6) S0 1 dX12_judge_6 rfl rfl ?_
  obtain ⟨e2, h3, hf⟩ := ok_bind hf
  refine r_cV_I (pc := 7) [iv a1] S0 hK hX mv_X12_442 (k_X12_whyNot h3) (c_X12_whyNot l cA D N sx ad T A nx I1 w0 a1 ca1 e2 h3) rfl rfl ⟨by decide, by decide⟩ (Nat.le_of_ble_eq_true rfl) ⟨Nat.le_refl _, Nat.le_refl _⟩ dX12_judge_7 (fun c4 => ?_)
  refine r_istore_n (pc := 10) (lv' := [(2, iv e2), (0, rv ad w0), (1, iv a1)]) S0 dX12_judge_10 rfl (by decide) rfl ?_
  refine r_iload_n (pc := 11) S0 0 dX12_judge_11 rfl rfl ?_
  refine r_if_eq (pc := 12) (tgt := 17) S0 dX12_judge_12 (by decide) c4 hf (fun hf => ?_) (fun hf => ?_)
  · refine r_iconst (pc := 17) S0 dX12_judge_17 ?_
    refine r_istore_n (pc := 18) (lv' := [(3, iv 0), (2, iv e2), (0, rv ad w0), (1, iv a1)]) S0 dX12_judge_18 rfl (by decide) rfl ?_
    refine r_iconst (pc := 19) S0 dX12_judge_19 ?_
    refine r_istore (pc := 20) (lv' := [(4, iv 0), (3, iv 0), (2, iv e2), (0, rv ad w0), (1, iv a1)]) S0 dX12_judge_20 (by decide) rfl ?_
    refine thn_rule (P := fun v6 => G p l e0 (rmx 4 129) s m args below meth c 0 0 Q cA D N 6 ad T A nx 77 [(0, rv ad w0), (1, iv a1)] [] I1) hf (fun v6 hf => ?_) (fun K5 hf => ?_)
    · refine r_aload_n (pc := 77) S0 0 dX12_judge_77 rfl rfl ?_
      refine r_getR (pc := 78) S0 hK fl_X12_13 dX12_judge_78 hf (fun x23 hf => ?_)
      refine r_iload_n (pc := 81) S0 1 dX12_judge_81 rfl rfl ?_
      refine r_iald (pc := 82) S0 hK dX12_judge_82 ca1 hf (fun x24 c25 hf => ?_)
      have hz := ok_some hf
      have hz : (x24, I1) = e := hz
      subst hQ
      subst hz
      exact r_iret (pc := 83) S0 hr hlk c25 dX12_judge_83
    · refine r_lv [3, 4, 1, 0] rfl ?_
      refine it_ind (P := fun s8 => cn s8.1 → cn s8.2 → G p l e0 (rmx 4 129) s m args below meth c 0 0 Q cA D N 6 ad T A nx 22 [(0, rv ad w0), (1, iv a1), (3, iv s8.1), (4, iv s8.2)] [] I1) (fun n0 s8 ih7 hf c9 c10 => ?_) FU (0, 0) hf (cnz 0 rfl) (cnz 0 rfl)
      refine r_iload (pc := 22) S0 3 dX12_judge_22 rfl ?_
      refine r_aload_n (pc := 24) S0 0 dX12_judge_24 rfl rfl ?_
      refine r_getR (pc := 25) S0 hK fl_X12_13 dX12_judge_25 hf (fun x11 hf => ?_)
      refine r_iload_n (pc := 28) S0 1 dX12_judge_28 rfl rfl ?_
      refine r_iald (pc := 29) S0 hK dX12_judge_29 ca1 hf (fun x12 c13 hf => ?_)
      refine r_icmp_ge (pc := 30) (tgt := 77) S0 dX12_judge_30 (by decide) c10 c13 hf (fun hf => ?_) (fun hf => ?_)
      · have hz := ok_some hf
        refine r_lv [0, 1] rfl ?_
        exact K5 () hz
      · refine r_aload_n (pc := 33) S0 0 dX12_judge_33 rfl rfl ?_
        refine r_iload_n (pc := 34) S0 1 dX12_judge_34 rfl rfl ?_
        refine r_iload (pc := 35) S0 3 dX12_judge_35 rfl ?_
        obtain ⟨e14, h15, hf⟩ := ok_bind hf
        refine r_cV_I (pc := 37) [iv a1, iv s8.2] S0 hK hX mv_X12_445 (k_X12_cellOf h15) (c_X12_cellOf l cA D N sx ad T A nx I1 w0 a1 s8.2 ca1 c10 e14 h15) rfl rfl ⟨by decide, by decide⟩ (Nat.le_of_ble_eq_true rfl) ⟨Nat.le_refl _, Nat.le_refl _⟩ dX12_judge_37 (fun c16 => ?_)
        refine r_istore (pc := 40) (lv' := [(5, iv e14), (0, rv ad w0), (1, iv a1), (3, iv s8.1), (4, iv s8.2)]) S0 dX12_judge_40 (by decide) rfl ?_
        refine r_iload_n (pc := 42) S0 3 dX12_judge_42 rfl rfl ?_
        refine r_iload (pc := 43) S0 0 dX12_judge_43 rfl ?_
        obtain ⟨e17, h18, hf⟩ := ok_bind hf
        refine r_cS_I (pc := 45) [iv s8.1, iv e14] S0 hK hX ms_X12_278 (c_X12_isBit l cA D N sx ad T A nx I1 s8.1 e14 c9 c16 e17 h18) rfl rfl ⟨by decide, by decide⟩ (Nat.le_of_ble_eq_true rfl) ⟨Nat.le_refl _, Nat.le_refl _⟩ dX12_judge_45 (fun c19 => ?_)
        refine r_if_ne (pc := 48) (tgt := 61) S0 dX12_judge_48 (by decide) c19 hf (fun hf => ?_) (fun hf => ?_)
        · refine r_iload (pc := 61) S0 4 dX12_judge_61 rfl ?_
          have hz := ok_some hf
          have hz : (s8.2, I1) = e := hz
          subst hQ
          subst hz
          exact r_iret (pc := 63) S0 hr hlk c10 dX12_judge_63
        · refine r_aload_n (pc := 51) S0 1 dX12_judge_51 rfl rfl ?_
          refine r_iload (pc := 52) S0 0 dX12_judge_52 rfl ?_
          refine r_iload_n (pc := 54) S0 3 dX12_judge_54 rfl rfl ?_
          obtain ⟨e20, h21, hf⟩ := ok_bind hf
          refine r_cV_I (pc := 55) [iv e14, iv s8.1] S0 hK hX mv_X12_406 (k_X12_mayStamp h21) (c_X12_mayStamp l cA D N sx ad T A nx I1 w0 e14 s8.1 c16 c9 e20 h21) rfl rfl ⟨by decide, by decide⟩ (Nat.le_of_ble_eq_true rfl) ⟨Nat.le_refl _, Nat.le_refl _⟩ dX12_judge_55 (fun c22 => ?_)
          refine r_if_ne (pc := 58) (tgt := 64) S0 dX12_judge_58 (by decide) c22 hf (fun hf => ?_) (fun hf => ?_)
          · refine r_iload_n (pc := 64) S0 3 dX12_judge_64 rfl rfl ?_
            refine r_iconst (pc := 65) S0 dX12_judge_65 ?_
            refine r_iload (pc := 66) S0 0 dX12_judge_66 rfl ?_
            refine r_ishl (pc := 68) S0 dX12_judge_68 ?_
            refine r_ior (pc := 69) S0 dX12_judge_69 ?_
            refine r_istore_n (pc := 70) (lv' := [(3, iv (ior s8.1 (ishl 1 e14))), (5, iv e14), (0, rv ad w0), (1, iv a1), (4, iv s8.2)]) S0 dX12_judge_70 rfl (by decide) rfl ?_
            refine r_iinc (pc := 71) (lv' := [(4, iv (ia s8.2 1)), (3, iv (ior s8.1 (ishl 1 e14))), (5, iv e14), (0, rv ad w0), (1, iv a1)]) S0 4 dX12_judge_71 rfl (by decide) rfl ?_
            refine r_goto (pc := 74) (tgt := 22) S0 dX12_judge_74 (by decide) ?_
            have hz := ok_some hf
            refine r_lv [3, 4, 1, 0] rfl ?_
            exact ih7 (ior s8.1 (ishl 1 e14), ia s8.2 1) hz (cn_toInt _) (cn_wrap _)
          · refine r_iload (pc := 61) S0 4 dX12_judge_61 rfl ?_
            have hz := ok_some hf
            have hz : (s8.2, I1) = e := hz
            subst hQ
            subst hz
            exact r_iret (pc := 63) S0 hr hlk c10 dX12_judge_63
  · refine r_iload_n (pc := 15) S0 0 dX12_judge_15 rfl rfl ?_
    have hz := ok_some hf
    have hz : (e2, I1) = e := hz
    subst hQ
    subst hz
    exact r_iret (pc := 16) S0 hr hlk c4 dX12_judge_16

set_option maxHeartbeats 4000000 in
set_option maxRecDepth 100000 in
theorem c_X12_bribed (l : Launch) (cA : Nat → ClassId) (D : va_G) (N : Nat) (sx : Sx) (ad : Nat → Nat) (T : Knd) (A : Rfs) (nx : Nat) (I : Mem) (w0 : Nat) (a1 : Int) (ca1 : cn a1) (e : (Int × Mem)) (h : f_X12_bribed T A w0 a1 I = some e) : CtI l yX12_bribed cX12_bribed 7 (some .int) 4 129 cA D N sx ad T A nx [rv ad w0, iv a1] I e.2 e.1 := by
  refine met_of (lv0 := [(0, rv ad w0), (1, iv a1)]) (by decide) (Nat.le_of_ble_eq_true rfl) rfl (fun p e0 s m args below meth c S0 hK hX hr hlk Q hQ => ?_)
  have hf : OK (f_X12_bribed T A w0 a1 I) (fun z => z = e) := ⟨e, h, rfl⟩
  unfold f_X12_bribed at hf
  obtain ⟨hw0, hf⟩ := ok_grd hf
  refine r_aload_n (pc := 0) S0 0 dX12_bribed_0 rfl rfl ?_
  refine r_iconst (pc := 1) S0 dX12_bribed_1 ?_
  refine r_putI (pc := 2) S0 hK fl_X12_89 rfl rfl (cnz 0 rfl) dX12_bribed_2 hf (fun I1 hf => ?_)
  refine r_aload_n (pc := 5) S0 0 dX12_bribed_5 rfl rfl ?_
  refine r_iload_n (pc := 6) S0 1 dX12_bribed_6 rfl rfl ?_
  obtain ⟨e2, h3, hf⟩ := ok_bind hf
  refine r_cV_I (pc := 7) [iv a1] S0 hK hX mv_X12_442 (k_X12_whyNot h3) (c_X12_whyNot l cA D N sx ad T A nx I1 w0 a1 ca1 e2 h3) rfl rfl ⟨by decide, by decide⟩ (Nat.le_of_ble_eq_true rfl) ⟨Nat.le_refl _, Nat.le_refl _⟩ dX12_bribed_7 (fun c4 => ?_)
  refine r_istore_n (pc := 10) (lv' := [(2, iv e2), (0, rv ad w0), (1, iv a1)]) S0 dX12_bribed_10 rfl (by decide) rfl ?_
  refine r_iload_n (pc := 11) S0 0 dX12_bribed_11 rfl rfl ?_
  refine r_if_eq (pc := 12) (tgt := 17) S0 dX12_bribed_12 (by decide) c4 hf (fun hf => ?_) (fun hf => ?_)
  · refine r_iconst (pc := 17) S0 dX12_bribed_17 ?_
    refine r_istore_n (pc := 18) (lv' := [(3, iv 0), (2, iv e2), (0, rv ad w0), (1, iv a1)]) S0 dX12_bribed_18 rfl (by decide) rfl ?_
    refine r_iconst (pc := 19) S0 dX12_bribed_19 ?_
    refine r_istore (pc := 20) (lv' := [(4, iv 0), (3, iv 0), (2, iv e2), (0, rv ad w0), (1, iv a1)]) S0 dX12_bribed_20 (by decide) rfl ?_
    refine r_iconst (pc := 22) S0 dX12_bribed_22 ?_
    refine r_istore (pc := 23) (lv' := [(5, iv 0), (4, iv 0), (3, iv 0), (2, iv e2), (0, rv ad w0), (1, iv a1)]) S0 dX12_bribed_23 (by decide) rfl ?_
    refine r_lv [4, 5, 2, 1, 0] rfl ?_
    refine it_ind (P := fun s6 => cn s6.1 → cn s6.2.1 → cn s6.2.2 → G p l e0 (rmx 4 129) s m args below meth c 0 0 Q cA D N 7 ad T A nx 25 [(0, rv ad w0), (1, iv a1), (3, iv s6.1), (4, iv s6.2.1), (5, iv s6.2.2)] [] I1) (fun n0 s6 ih5 hf c7 c8 c9 => ?_) FU (0, 0, 0) hf (cnz 0 rfl) (cnz 0 rfl) (cnz 0 rfl)
    refine r_iload (pc := 25) S0 4 dX12_bribed_25 rfl ?_
    refine r_aload_n (pc := 27) S0 0 dX12_bribed_27 rfl rfl ?_
    refine r_getR (pc := 28) S0 hK fl_X12_13 dX12_bribed_28 hf (fun x10 hf => ?_)
    refine r_iload_n (pc := 31) S0 1 dX12_bribed_31 rfl rfl ?_
    refine r_iald (pc := 32) S0 hK dX12_bribed_32 ca1 hf (fun x11 c12 hf => ?_)
    refine r_icmp_ge (pc := 33) (tgt := 90) S0 dX12_bribed_33 (by decide) c9 c12 hf (fun hf => ?_) (fun hf => ?_)
    · refine r_iload (pc := 90) S0 3 dX12_bribed_90 rfl ?_
      have hz := ok_some hf
      have hz : (s6.2.1, I1) = e := hz
      subst hQ
      subst hz
      exact r_iret (pc := 92) S0 hr hlk c8 dX12_bribed_92
    · refine r_aload_n (pc := 36) S0 0 dX12_bribed_36 rfl rfl ?_
      refine r_iload_n (pc := 37) S0 1 dX12_bribed_37 rfl rfl ?_
      refine r_iload (pc := 38) S0 4 dX12_bribed_38 rfl ?_
      obtain ⟨e13, h14, hf⟩ := ok_bind hf
      refine r_cV_I (pc := 40) [iv a1, iv s6.2.2] S0 hK hX mv_X12_445 (k_X12_cellOf h14) (c_X12_cellOf l cA D N sx ad T A nx I1 w0 a1 s6.2.2 ca1 c9 e13 h14) rfl rfl ⟨by decide, by decide⟩ (Nat.le_of_ble_eq_true rfl) ⟨Nat.le_refl _, Nat.le_refl _⟩ dX12_bribed_40 (fun c15 => ?_)
      refine r_istore (pc := 43) (lv' := [(6, iv e13), (0, rv ad w0), (1, iv a1), (3, iv s6.1), (4, iv s6.2.1), (5, iv s6.2.2)]) S0 dX12_bribed_43 (by decide) rfl ?_
      refine r_iload (pc := 45) S0 4 dX12_bribed_45 rfl ?_
      refine r_iload_n (pc := 47) S0 3 dX12_bribed_47 rfl rfl ?_
      refine r_iload (pc := 48) S0 0 dX12_bribed_48 rfl ?_
      obtain ⟨e16, h17, hf⟩ := ok_bind hf
      refine r_cS_I (pc := 50) [iv s6.1, iv e13] S0 hK hX ms_X12_278 (c_X12_isBit l cA D N sx ad T A nx I1 s6.1 e13 c7 c15 e16 h17) rfl rfl ⟨by decide, by decide⟩ (Nat.le_of_ble_eq_true rfl) ⟨Nat.le_refl _, Nat.le_refl _⟩ dX12_bribed_50 (fun c18 => ?_)
      refine thn_rule (P := fun v20 => cn v20 → G p l e0 (rmx 4 129) s m args below meth c 0 0 Q cA D N 7 ad T A nx 74 [(0, rv ad w0), (1, iv a1), (3, iv s6.1), (5, iv s6.2.2), (6, iv e13)] [iv v20, iv s6.2.1] I1) hf (fun v20 hf c21 => ?_) (fun K19 hf => ?_)
      · refine r_ior (pc := 74) S0 dX12_bribed_74 ?_
        refine r_istore (pc := 75) (lv' := [(4, iv (ior s6.2.1 v20)), (0, rv ad w0), (1, iv a1), (3, iv s6.1), (5, iv s6.2.2), (6, iv e13)]) S0 dX12_bribed_75 (by decide) rfl ?_
        refine r_iload_n (pc := 77) S0 3 dX12_bribed_77 rfl rfl ?_
        refine r_iconst (pc := 78) S0 dX12_bribed_78 ?_
        refine r_iload (pc := 79) S0 5 dX12_bribed_79 rfl ?_
        refine r_ishl (pc := 81) S0 dX12_bribed_81 ?_
        refine r_ior (pc := 82) S0 dX12_bribed_82 ?_
        refine r_istore_n (pc := 83) (lv' := [(3, iv (ior s6.1 (ishl 1 e13))), (4, iv (ior s6.2.1 v20)), (0, rv ad w0), (1, iv a1), (5, iv s6.2.2), (6, iv e13)]) S0 dX12_bribed_83 rfl (by decide) rfl ?_
        refine r_iinc (pc := 84) (lv' := [(5, iv (ia s6.2.2 1)), (3, iv (ior s6.1 (ishl 1 e13))), (4, iv (ior s6.2.1 v20)), (0, rv ad w0), (1, iv a1), (6, iv e13)]) S0 4 dX12_bribed_84 rfl (by decide) rfl ?_
        refine r_goto (pc := 87) (tgt := 25) S0 dX12_bribed_87 (by decide) ?_
        have hz := ok_some hf
        refine r_lv [3, 4, 1, 2, 0] rfl ?_
        exact ih5 (ior s6.1 (ishl 1 e13), ior s6.2.1 v20, ia s6.2.2 1) hz (cn_toInt _) (cn_toInt _) (cn_wrap _)
      · refine thn_rule (P := fun v23 => G p l e0 (rmx 4 129) s m args below meth c 0 0 Q cA D N 7 ad T A nx 66 [(0, rv ad w0), (1, iv a1), (3, iv s6.1), (5, iv s6.2.2), (6, iv e13)] [iv s6.2.1] I1) hf (fun v23 hf => ?_) (fun K22 hf => ?_)
        · refine r_iconst (pc := 66) S0 dX12_bribed_66 ?_
          refine r_iload (pc := 67) S0 4 dX12_bribed_67 rfl ?_
          refine r_ishl (pc := 69) S0 dX12_bribed_69 ?_
          refine r_goto (pc := 70) (tgt := 74) S0 dX12_bribed_70 (by decide) ?_
          have hz := ok_some hf
          refine r_lv [0, 1, 2, 3, 4] rfl ?_
          exact K19 (ishl 1 e13) hz (cn_toInt _)
        · refine r_if_ne (pc := 53) (tgt := 66) S0 dX12_bribed_53 (by decide) c18 hf (fun hf => ?_) (fun hf => ?_)
          · have hz := ok_some hf
            refine r_lv [1, 2, 3, 5, 0] rfl ?_
            exact K22 () hz
          · refine r_aload_n (pc := 56) S0 1 dX12_bribed_56 rfl rfl ?_
            refine r_iload (pc := 57) S0 0 dX12_bribed_57 rfl ?_
            refine r_iload_n (pc := 59) S0 3 dX12_bribed_59 rfl rfl ?_
            obtain ⟨e24, h25, hf⟩ := ok_bind hf
            refine r_cV_I (pc := 60) [iv e13, iv s6.1] S0 hK hX mv_X12_406 (k_X12_mayStamp h25) (c_X12_mayStamp l cA D N sx ad T A nx I1 w0 e13 s6.1 c15 c7 e24 h25) rfl rfl ⟨by decide, by decide⟩ (Nat.le_of_ble_eq_true rfl) ⟨Nat.le_refl _, Nat.le_refl _⟩ dX12_bribed_60 (fun c26 => ?_)
            refine r_if_ne (pc := 63) (tgt := 73) S0 dX12_bribed_63 (by decide) c26 hf (fun hf => ?_) (fun hf => ?_)
            · refine r_iconst (pc := 73) S0 dX12_bribed_73 ?_
              have hz := ok_some hf
              refine r_lv [1, 2, 3, 5, 0] rfl ?_
              exact K19 0 hz (cnz 0 rfl)
            · have hz := ok_some hf
              refine r_lv [1, 2, 3, 5, 0] rfl ?_
              exact K22 () hz
  · refine r_iload_n (pc := 15) S0 0 dX12_bribed_15 rfl rfl ?_
    have hz := ok_some hf
    have hz : (e2, I1) = e := hz
    subst hQ
    subst hz
    exact r_iret (pc := 16) S0 hr hlk c4 dX12_bribed_16

set_option maxHeartbeats 4000000 in
set_option maxRecDepth 100000 in
theorem c_X12_runs (l : Launch) (cA : Nat → ClassId) (D : va_G) (N : Nat) (sx : Sx) (ad : Nat → Nat) (T : Knd) (A : Rfs) (nx : Nat) (I : Mem) (w0 : Nat) (a1 : Int) (ca1 : cn a1) (e : (Int × Mem)) (h : f_X12_runs T A w0 a1 I = some e) : CtI l yX12_runs cX12_runs 5 (some .int) 6 172 cA D N sx ad T A nx [rv ad w0, iv a1] I e.2 e.1 := by
  refine met_of (lv0 := [(0, rv ad w0), (1, iv a1)]) (by decide) (Nat.le_of_ble_eq_true rfl) rfl (fun p e0 s m args below meth c S0 hK hX hr hlk Q hQ => ?_)
  have hf : OK (f_X12_runs T A w0 a1 I) (fun z => z = e) := ⟨e, h, rfl⟩
  unfold f_X12_runs at hf
  obtain ⟨hw0, hf⟩ := ok_grd hf
  refine r_aload_n (pc := 0) S0 0 dX12_runs_0 rfl rfl ?_
  refine r_aload_n (pc := 1) S0 0 dX12_runs_1 rfl rfl ?_
  refine r_getR (pc := 2) S0 hK fl_X12_34 dX12_runs_2 hf (fun x1 hf => ?_)
  refine r_iconst (pc := 5) S0 dX12_runs_5 ?_
  refine r_iald (pc := 6) S0 hK dX12_runs_6 (cnz 2 rfl) hf (fun x2 c3 hf => ?_)
  obtain ⟨e4, h5, hf⟩ := ok_bind hf
  refine r_cV_V (pc := 7) [iv x2] S0 hK hX mv_X12_325 (k_X12_starts h5) (c_X12_starts l cA D N sx ad T A nx I w0 x2 c3 e4 h5) rfl rfl ⟨by decide, by decide⟩ (Nat.le_of_ble_eq_true rfl) ⟨Nat.le_refl _, Nat.le_refl _⟩ dX12_runs_7 ?_
  refine r_iconst (pc := 10) S0 dX12_runs_10 ?_
  refine r_istore_n (pc := 11) (lv' := [(2, iv 0), (0, rv ad w0), (1, iv a1)]) S0 dX12_runs_11 rfl (by decide) rfl ?_
  refine thn_rule (P := fun v7 => G p l e0 (rmx 6 172) s m args below meth c 0 0 Q cA D N 5 ad T A nx 114 [(0, rv ad w0)] [] v7) hf (fun v7 hf => ?_) (fun K6 hf => ?_)
  · refine r_aload_n (pc := 114) S0 0 dX12_runs_114 rfl rfl ?_
    refine r_getI (pc := 115) S0 hK fl_X12_300 dX12_runs_115 hf (fun x42 c43 hf => ?_)
    have hz := ok_some hf
    have hz : (x42, v7) = e := hz
    subst hQ
    subst hz
    exact r_iret (pc := 118) S0 hr hlk c43 dX12_runs_118
  · refine r_lv [1, 2, 0] rfl ?_
    refine it_ind (P := fun s9 => cn s9.1 → G p l e0 (rmx 6 172) s m args below meth c 0 0 Q cA D N 5 ad T A nx 12 [(0, rv ad w0), (1, iv a1), (2, iv s9.1)] [] s9.2) (fun n0 s9 ih8 hf c10 => ?_) FU (0, e4) hf (cnz 0 rfl)
    refine r_iload_n (pc := 12) S0 2 dX12_runs_12 rfl rfl ?_
    refine r_aload_n (pc := 13) S0 0 dX12_runs_13 rfl rfl ?_
    refine r_getR (pc := 14) S0 hK fl_X12_13 dX12_runs_14 hf (fun x11 hf => ?_)
    refine r_iload_n (pc := 17) S0 1 dX12_runs_17 rfl rfl ?_
    refine r_iald (pc := 18) S0 hK dX12_runs_18 ca1 hf (fun x12 c13 hf => ?_)
    refine r_icmp_ge (pc := 19) (tgt := 114) S0 dX12_runs_19 (by decide) c10 c13 hf (fun hf => ?_) (fun hf => ?_)
    · have hz := ok_some hf
      refine r_lv [0] rfl ?_
      exact K6 s9.2 hz
    · refine r_aload_n (pc := 22) S0 0 dX12_runs_22 rfl rfl ?_
      refine r_iload_n (pc := 23) S0 1 dX12_runs_23 rfl rfl ?_
      refine r_iload_n (pc := 24) S0 2 dX12_runs_24 rfl rfl ?_
      obtain ⟨e14, h15, hf⟩ := ok_bind hf
      refine r_cV_I (pc := 25) [iv a1, iv s9.1] S0 hK hX mv_X12_445 (k_X12_cellOf h15) (c_X12_cellOf l cA D N sx ad T A nx s9.2 w0 a1 s9.1 ca1 c10 e14 h15) rfl rfl ⟨by decide, by decide⟩ (Nat.le_of_ble_eq_true rfl) ⟨Nat.le_refl _, Nat.le_refl _⟩ dX12_runs_25 (fun c16 => ?_)
      refine r_istore_n (pc := 28) (lv' := [(3, iv e14), (0, rv ad w0), (1, iv a1), (2, iv s9.1)]) S0 dX12_runs_28 rfl (by decide) rfl ?_
      refine r_aload_n (pc := 29) S0 1 dX12_runs_29 rfl rfl ?_
      refine r_iload_n (pc := 30) S0 0 dX12_runs_30 rfl rfl ?_
      obtain ⟨e17, h18, hf⟩ := ok_bind hf
      refine r_cV_I (pc := 31) [iv e14] S0 hK hX mv_X12_328 (k_X12_stampsIn h18) (c_X12_stampsIn l cA D N sx ad T A nx s9.2 w0 e14 c16 e17 h18) rfl rfl ⟨by decide, by decide⟩ (Nat.le_of_ble_eq_true rfl) ⟨Nat.le_refl _, Nat.le_refl _⟩ dX12_runs_31 (fun c19 => ?_)
      refine r_istore (pc := 34) (lv' := [(4, iv e17), (3, iv e14), (0, rv ad w0), (1, iv a1), (2, iv s9.1)]) S0 dX12_runs_34 (by decide) rfl ?_
      refine r_iload (pc := 36) S0 0 dX12_runs_36 rfl ?_
      refine r_iconst (pc := 38) S0 dX12_runs_38 ?_
      refine r_icmp_ne (pc := 39) (tgt := 44) S0 dX12_runs_39 (by decide) c19 (cnz (-1) rfl) hf (fun hf => ?_) (fun hf => ?_)
      · refine r_aload_n (pc := 44) S0 2 dX12_runs_44 rfl rfl ?_
        refine r_getR (pc := 45) S0 hK fl_X12_83 dX12_runs_45 hf (fun x20 hf => ?_)
        refine r_iload_n (pc := 48) S0 1 dX12_runs_48 rfl rfl ?_
        refine r_dup2 (pc := 49) S0 dX12_runs_49 rfl rfl ?_
        refine r_iald (pc := 50) S0 hK dX12_runs_50 c16 hf (fun x21 c22 hf => ?_)
        refine r_iload (pc := 51) S0 0 dX12_runs_51 rfl ?_
        refine r_aload_n (pc := 53) S0 2 dX12_runs_53 rfl rfl ?_
        refine r_getI (pc := 54) S0 hK fl_X12_300 dX12_runs_54 hf (fun x23 c24 hf => ?_)
        refine r_isub (pc := 57) S0 dX12_runs_57 ?_
        refine r_aload_n (pc := 58) S0 2 dX12_runs_58 rfl rfl ?_
        refine r_getR (pc := 59) S0 hK fl_X12_56 dX12_runs_59 hf (fun x25 hf => ?_)
        refine r_bipush (pc := 62) S0 dX12_runs_62 (by decide) ?_
        refine r_aload_n (pc := 64) S0 2 dX12_runs_64 rfl rfl ?_
        refine r_getI (pc := 65) S0 hK fl_X12_303 dX12_runs_65 hf (fun x26 c27 hf => ?_)
        refine r_imul (pc := 68) S0 dX12_runs_68 ?_
        refine r_aload_n (pc := 69) S0 2 dX12_runs_69 rfl rfl ?_
        refine r_iload_n (pc := 70) S0 1 dX12_runs_70 rfl rfl ?_
        refine r_iconst (pc := 71) S0 dX12_runs_71 ?_
        obtain ⟨e28, h29, hf⟩ := ok_bind hf
        refine r_cV_I (pc := 72) [iv e14, iv 0] S0 hK hX mv_X12_275 (k_X12_of h29) (c_X12_of l cA D N sx ad T A nx s9.2 w0 e14 0 c16 (cnz 0 rfl) e28 h29) rfl rfl ⟨by decide, by decide⟩ (Nat.le_of_ble_eq_true rfl) ⟨Nat.le_refl _, Nat.le_refl _⟩ dX12_runs_72 (fun c30 => ?_)
        refine r_iadd (pc := 75) S0 dX12_runs_75 ?_
        refine r_iald (pc := 76) S0 hK dX12_runs_76 (cn_wrap _) hf (fun x31 c32 hf => ?_)
        refine r_isub (pc := 77) S0 dX12_runs_77 ?_
        refine r_iadd (pc := 78) S0 dX12_runs_78 ?_
        refine r_iast (pc := 79) S0 hK dX12_runs_79 c16 (cn_wrap _) hf (fun I33 hf => ?_)
        refine r_aload_n (pc := 80) S0 2 dX12_runs_80 rfl rfl ?_
        refine r_getI (pc := 81) S0 hK fl_X12_318 dX12_runs_81 hf (fun x34 c35 hf => ?_)
        refine thn_rule (P := fun v37 => G p l e0 (rmx 6 172) s m args below meth c 0 0 Q cA D N 5 ad T A nx 101 [(0, rv ad w0), (1, iv a1), (2, iv s9.1), (3, iv e14), (4, iv e17)] [] v37) hf (fun v37 hf => ?_) (fun K36 hf => ?_)
        · refine r_aload_n (pc := 101) S0 0 dX12_runs_101 rfl rfl ?_
          refine r_iload_n (pc := 102) S0 3 dX12_runs_102 rfl rfl ?_
          refine r_iload (pc := 103) S0 4 dX12_runs_103 rfl ?_
          obtain ⟨e40, h41, hf⟩ := ok_bind hf
          refine r_cV_V (pc := 105) [iv e14, iv e17] S0 hK hX mv_X12_331 (k_X12_goesTo h41) (c_X12_goesTo l cA D N sx ad T A nx v37 w0 e14 e17 c16 c19 e40 h41) rfl rfl ⟨by decide, by decide⟩ (Nat.le_of_ble_eq_true rfl) ⟨Nat.le_refl _, Nat.le_refl _⟩ dX12_runs_105 ?_
          refine r_iinc (pc := 108) (lv' := [(2, iv (ia s9.1 1)), (0, rv ad w0), (1, iv a1), (3, iv e14), (4, iv e17)]) S0 2 dX12_runs_108 rfl (by decide) rfl ?_
          refine r_goto (pc := 111) (tgt := 12) S0 dX12_runs_111 (by decide) ?_
          have hz := ok_some hf
          refine r_lv [1, 2, 0] rfl ?_
          exact ih8 (ia s9.1 1, e40) hz (cn_wrap _)
        · refine r_if_eq (pc := 84) (tgt := 101) S0 dX12_runs_84 (by decide) c35 hf (fun hf => ?_) (fun hf => ?_)
          · have hz := ok_some hf
            refine r_lv [2, 3, 4, 1, 0] rfl ?_
            exact K36 I33 hz
          · refine r_aload_n (pc := 87) S0 2 dX12_runs_87 rfl rfl ?_
            refine r_getR (pc := 88) S0 hK fl_X12_62 dX12_runs_88 hf (fun x38 hf => ?_)
            refine r_sipush (pc := 91) S0 dX12_runs_91 (by decide) ?_
            refine r_iload_n (pc := 94) S0 1 dX12_runs_94 rfl rfl ?_
            refine r_imul (pc := 95) S0 dX12_runs_95 ?_
            refine r_iload (pc := 96) S0 0 dX12_runs_96 rfl ?_
            refine r_iadd (pc := 98) S0 dX12_runs_98 ?_
            refine r_iconst (pc := 99) S0 dX12_runs_99 ?_
            refine r_zast (pc := 100) S0 hK dX12_runs_100 (cn_wrap _) (cnz 1 rfl) hf (fun I39 hf => ?_)
            have hz := ok_some hf
            refine r_lv [2, 3, 4, 1, 0] rfl ?_
            exact K36 I39 hz
      · refine r_iconst (pc := 42) S0 dX12_runs_42 ?_
        have hz := ok_some hf
        have hz : ((-1), s9.2) = e := hz
        subst hQ
        subst hz
        exact r_iret (pc := 43) S0 hr hlk (cnz (-1) rfl) dX12_runs_43

set_option maxHeartbeats 4000000 in
set_option maxRecDepth 100000 in
theorem c_X12_run (l : Launch) (cA : Nat → ClassId) (D : va_G) (N : Nat) (sx : Sx) (ad : Nat → Nat) (T : Knd) (A : Rfs) (nx : Nat) (I : Mem) (w0 : Nat) (a1 : Int) (ca1 : cn a1) (e : (Int × Mem)) (h : f_X12_run T A w0 a1 I = some e) : CtI l yX12_run cX12_run 3 (some .int) 7 196 cA D N sx ad T A nx [rv ad w0, iv a1] I e.2 e.1 := by
  refine met_of (lv0 := [(0, rv ad w0), (1, iv a1)]) (by decide) (Nat.le_of_ble_eq_true rfl) rfl (fun p e0 s m args below meth c S0 hK hX hr hlk Q hQ => ?_)
  have hf : OK (f_X12_run T A w0 a1 I) (fun z => z = e) := ⟨e, h, rfl⟩
  unfold f_X12_run at hf
  obtain ⟨hw0, hf⟩ := ok_grd hf
  refine r_aload_n (pc := 0) S0 0 dX12_run_0 rfl rfl ?_
  refine r_iconst (pc := 1) S0 dX12_run_1 ?_
  refine r_putI (pc := 2) S0 hK fl_X12_89 rfl rfl (cnz 0 rfl) dX12_run_2 hf (fun I1 hf => ?_)
  refine r_aload_n (pc := 5) S0 0 dX12_run_5 rfl rfl ?_
  refine r_iload_n (pc := 6) S0 1 dX12_run_6 rfl rfl ?_
  obtain ⟨e2, h3, hf⟩ := ok_bind hf
  refine r_cV_I (pc := 7) [iv a1] S0 hK hX mv_X12_442 (k_X12_whyNot h3) (c_X12_whyNot l cA D N sx ad T A nx I1 w0 a1 ca1 e2 h3) rfl rfl ⟨by decide, by decide⟩ (Nat.le_of_ble_eq_true rfl) ⟨Nat.le_refl _, Nat.le_refl _⟩ dX12_run_7 (fun c4 => ?_)
  refine r_istore_n (pc := 10) (lv' := [(2, iv e2), (0, rv ad w0), (1, iv a1)]) S0 dX12_run_10 rfl (by decide) rfl ?_
  refine r_iload_n (pc := 11) S0 0 dX12_run_11 rfl rfl ?_
  refine r_if_eq (pc := 12) (tgt := 19) S0 dX12_run_12 (by decide) c4 hf (fun hf => ?_) (fun hf => ?_)
  · refine r_aload_n (pc := 19) S0 1 dX12_run_19 rfl rfl ?_
    refine r_iload_n (pc := 20) S0 2 dX12_run_20 rfl rfl ?_
    obtain ⟨e5, h6, hf⟩ := ok_bind hf
    refine r_cV_I (pc := 21) [iv a1] S0 hK hX mv_X12_448 (k_X12_runs h6) (c_X12_runs l cA D N sx ad T A nx I1 w0 a1 ca1 e5 h6) rfl rfl ⟨by decide, by decide⟩ (Nat.le_of_ble_eq_true rfl) ⟨Nat.le_refl _, Nat.le_refl _⟩ dX12_run_21 (fun c7 => ?_)
    have hz := ok_some hf
    have hz : (e5.1, e5.2) = e := hz
    subst hQ
    subst hz
    exact r_iret (pc := 24) S0 hr hlk c7 dX12_run_24
  · refine r_iload_n (pc := 15) S0 0 dX12_run_15 rfl rfl ?_
    refine r_goto (pc := 16) (tgt := 24) S0 dX12_run_16 (by decide) ?_
    have hz := ok_some hf
    have hz : (e2, I1) = e := hz
    subst hQ
    subst hz
    exact r_iret (pc := 24) S0 hr hlk c4 dX12_run_24

set_option maxHeartbeats 4000000 in
set_option maxRecDepth 100000 in
theorem c_X12_queues (l : Launch) (cA : Nat → ClassId) (D : va_G) (N : Nat) (sx : Sx) (ad : Nat → Nat) (T : Knd) (A : Rfs) (nx : Nat) (I : Mem) (w0 : Nat) (a1 : Int) (a2 : Int) (ca1 : cn a1) (ca2 : cn a2) (e : Mem) (h : f_X12_queues T A w0 a1 a2 I = some e) : CtV l yX12_queues cX12_queues 4 none 7 196 cA D N sx ad T A nx [rv ad w0, iv a1, iv a2] I e := by
  refine met_of (lv0 := [(0, rv ad w0), (1, iv a1), (2, iv a2)]) (by decide) (Nat.le_of_ble_eq_true rfl) rfl (fun p e0 s m args below meth c S0 hK hX hr hlk Q hQ => ?_)
  have hf : OK (f_X12_queues T A w0 a1 a2 I) (fun z => z = e) := ⟨e, h, rfl⟩
  unfold f_X12_queues at hf
  obtain ⟨hw0, hf⟩ := ok_grd hf
  refine r_iconst (pc := 0) S0 dX12_queues_0 ?_
  refine r_istore_n (pc := 1) (lv' := [(3, iv 0), (0, rv ad w0), (1, iv a1), (2, iv a2)]) S0 dX12_queues_1 rfl (by decide) rfl ?_
  refine thn_rule (P := fun v2 => G p l e0 (rmx 7 196) s m args below meth c 0 0 Q cA D N 4 ad T A nx 22 [(0, rv ad w0), (1, iv a1), (2, iv a2)] [] v2) hf (fun v2 hf => ?_) (fun K1 hf => ?_)
  · refine r_iconst (pc := 22) S0 dX12_queues_22 ?_
    refine r_istore_n (pc := 23) (lv' := [(3, iv 0), (0, rv ad w0), (1, iv a1), (2, iv a2)]) S0 dX12_queues_23 rfl (by decide) rfl ?_
    refine thn_rule (P := fun v9 => G p l e0 (rmx 7 196) s m args below meth c 0 0 Q cA D N 4 ad T A nx 43 [(0, rv ad w0), (1, iv a1), (2, iv a2)] [] v9) hf (fun v9 hf => ?_) (fun K8 hf => ?_)
    · refine r_aload_n (pc := 43) S0 0 dX12_queues_43 rfl rfl ?_
      refine r_iconst (pc := 44) S0 dX12_queues_44 ?_
      refine r_putZ (pc := 45) S0 hK fl_X12_318 rfl rfl dX12_queues_45 hf (fun I15 hf => ?_)
      refine r_iconst (pc := 48) S0 dX12_queues_48 ?_
      refine r_istore_n (pc := 49) (lv' := [(3, iv 0), (0, rv ad w0), (1, iv a1), (2, iv a2)]) S0 dX12_queues_49 rfl (by decide) rfl ?_
      refine thn_rule (P := fun v17 => G p l e0 (rmx 7 196) s m args below meth c 0 0 Q cA D N 4 ad T A nx 72 [(0, rv ad w0)] [] v17) hf (fun v17 hf => ?_) (fun K16 hf => ?_)
      · refine r_aload_n (pc := 72) S0 0 dX12_queues_72 rfl rfl ?_
        refine r_iconst (pc := 73) S0 dX12_queues_73 ?_
        refine r_putZ (pc := 74) S0 hK fl_X12_318 rfl rfl dX12_queues_74 hf (fun I26 hf => ?_)
        have hz := ok_some hf
        have hz : I26 = e := hz
        subst hQ
        subst hz
        exact r_vret (pc := 77) S0 hr hlk dX12_queues_77
      · refine r_lv [1, 2, 3, 0] rfl ?_
        refine it_ind (P := fun s19 => cn s19.1 → G p l e0 (rmx 7 196) s m args below meth c 0 0 Q cA D N 4 ad T A nx 50 [(0, rv ad w0), (1, iv a1), (2, iv a2), (3, iv s19.1)] [] s19.2) (fun n0 s19 ih18 hf c20 => ?_) FU (0, I15) hf (cnz 0 rfl)
        refine r_iload_n (pc := 50) S0 3 dX12_queues_50 rfl rfl ?_
        refine r_iload_n (pc := 51) S0 2 dX12_queues_51 rfl rfl ?_
        refine r_icmp_ge (pc := 52) (tgt := 72) S0 dX12_queues_52 (by decide) c20 ca2 hf (fun hf => ?_) (fun hf => ?_)
        · have hz := ok_some hf
          refine r_lv [0] rfl ?_
          exact K16 s19.2 hz
        · refine r_aload_n (pc := 55) S0 0 dX12_queues_55 rfl rfl ?_
          refine r_getR (pc := 56) S0 hK fl_X12_86 dX12_queues_56 hf (fun x21 hf => ?_)
          refine r_iload_n (pc := 59) S0 3 dX12_queues_59 rfl rfl ?_
          refine r_aload_n (pc := 60) S0 0 dX12_queues_60 rfl rfl ?_
          refine r_iload_n (pc := 61) S0 1 dX12_queues_61 rfl rfl ?_
          obtain ⟨e22, h23, hf⟩ := ok_bind hf
          refine r_cV_I (pc := 62) [iv a1] S0 hK hX mv_X12_448 (k_X12_runs h23) (c_X12_runs l cA D N sx ad T A nx s19.2 w0 a1 ca1 e22 h23) rfl rfl ⟨by decide, by decide⟩ (Nat.le_of_ble_eq_true rfl) ⟨Nat.le_refl _, Nat.le_refl _⟩ dX12_queues_62 (fun c24 => ?_)
          refine r_iast (pc := 65) S0 hK dX12_queues_65 c20 c24 hf (fun I25 hf => ?_)
          refine r_iinc (pc := 66) (lv' := [(3, iv (ia s19.1 1)), (0, rv ad w0), (1, iv a1), (2, iv a2)]) S0 3 dX12_queues_66 rfl (by decide) rfl ?_
          refine r_goto (pc := 69) (tgt := 50) S0 dX12_queues_69 (by decide) ?_
          have hz := ok_some hf
          refine r_lv [1, 2, 3, 0] rfl ?_
          exact ih18 (ia s19.1 1, I25) hz (cn_wrap _)
    · refine r_lv [1, 2, 3, 0] rfl ?_
      refine it_ind (P := fun s11 => cn s11.1 → G p l e0 (rmx 7 196) s m args below meth c 0 0 Q cA D N 4 ad T A nx 24 [(0, rv ad w0), (1, iv a1), (2, iv a2), (3, iv s11.1)] [] s11.2) (fun n0 s11 ih10 hf c12 => ?_) FU (0, v2) hf (cnz 0 rfl)
      refine r_iload_n (pc := 24) S0 3 dX12_queues_24 rfl rfl ?_
      refine r_bipush (pc := 25) S0 dX12_queues_25 (by decide) ?_
      refine r_icmp_ge (pc := 27) (tgt := 43) S0 dX12_queues_27 (by decide) c12 (cnz 8 rfl) hf (fun hf => ?_) (fun hf => ?_)
      · have hz := ok_some hf
        refine r_lv [0, 1, 2] rfl ?_
        exact K8 s11.2 hz
      · refine r_aload_n (pc := 30) S0 0 dX12_queues_30 rfl rfl ?_
        refine r_getR (pc := 31) S0 hK fl_X12_83 dX12_queues_31 hf (fun x13 hf => ?_)
        refine r_iload_n (pc := 34) S0 3 dX12_queues_34 rfl rfl ?_
        refine r_iconst (pc := 35) S0 dX12_queues_35 ?_
        refine r_iast (pc := 36) S0 hK dX12_queues_36 c12 (cnz 0 rfl) hf (fun I14 hf => ?_)
        refine r_iinc (pc := 37) (lv' := [(3, iv (ia s11.1 1)), (0, rv ad w0), (1, iv a1), (2, iv a2)]) S0 3 dX12_queues_37 rfl (by decide) rfl ?_
        refine r_goto (pc := 40) (tgt := 24) S0 dX12_queues_40 (by decide) ?_
        have hz := ok_some hf
        refine r_lv [1, 2, 3, 0] rfl ?_
        exact ih10 (ia s11.1 1, I14) hz (cn_wrap _)
  · refine r_lv [1, 2, 3, 0] rfl ?_
    refine it_ind (P := fun s4 => cn s4.1 → G p l e0 (rmx 7 196) s m args below meth c 0 0 Q cA D N 4 ad T A nx 2 [(0, rv ad w0), (1, iv a1), (2, iv a2), (3, iv s4.1)] [] s4.2) (fun n0 s4 ih3 hf c5 => ?_) FU (0, I) hf (cnz 0 rfl)
    refine r_iload_n (pc := 2) S0 3 dX12_queues_2 rfl rfl ?_
    refine r_sipush (pc := 3) S0 dX12_queues_3 (by decide) ?_
    refine r_icmp_ge (pc := 6) (tgt := 22) S0 dX12_queues_6 (by decide) c5 (cnz 3200 rfl) hf (fun hf => ?_) (fun hf => ?_)
    · have hz := ok_some hf
      refine r_lv [0, 1, 2] rfl ?_
      exact K1 s4.2 hz
    · refine r_aload_n (pc := 9) S0 0 dX12_queues_9 rfl rfl ?_
      refine r_getR (pc := 10) S0 hK fl_X12_62 dX12_queues_10 hf (fun x6 hf => ?_)
      refine r_iload_n (pc := 13) S0 3 dX12_queues_13 rfl rfl ?_
      refine r_iconst (pc := 14) S0 dX12_queues_14 ?_
      refine r_zast (pc := 15) S0 hK dX12_queues_15 c5 (cnz 0 rfl) hf (fun I7 hf => ?_)
      refine r_iinc (pc := 16) (lv' := [(3, iv (ia s4.1 1)), (0, rv ad w0), (1, iv a1), (2, iv a2)]) S0 3 dX12_queues_16 rfl (by decide) rfl ?_
      refine r_goto (pc := 19) (tgt := 2) S0 dX12_queues_19 (by decide) ?_
      have hz := ok_some hf
      refine r_lv [1, 2, 3, 0] rfl ?_
      exact ih3 (ia s4.1 1, I7) hz (cn_wrap _)

set_option maxHeartbeats 4000000 in
set_option maxRecDepth 100000 in
theorem c_X12_lastOf (l : Launch) (cA : Nat → ClassId) (D : va_G) (N : Nat) (sx : Sx) (ad : Nat → Nat) (T : Knd) (A : Rfs) (nx : Nat) (I : Mem) (w0 : Nat) (a1 : Int) (ca1 : cn a1) (e : Int) (h : f_X12_lastOf T A w0 a1 I = some e) : CtI l yX12_lastOf cX12_lastOf 4 (some .int) 1 60 cA D N sx ad T A nx [rv ad w0, iv a1] I I e := by
  refine met_of (lv0 := [(0, rv ad w0), (1, iv a1)]) (by decide) (Nat.le_of_ble_eq_true rfl) rfl (fun p e0 s m args below meth c S0 hK hX hr hlk Q hQ => ?_)
  have hf : OK (f_X12_lastOf T A w0 a1 I) (fun z => z = e) := ⟨e, h, rfl⟩
  unfold f_X12_lastOf at hf
  obtain ⟨hw0, hf⟩ := ok_grd hf
  refine r_iconst (pc := 0) S0 dX12_lastOf_0 ?_
  refine r_istore_n (pc := 1) (lv' := [(2, iv 0), (0, rv ad w0), (1, iv a1)]) S0 dX12_lastOf_1 rfl (by decide) rfl ?_
  refine r_iconst (pc := 2) S0 dX12_lastOf_2 ?_
  refine r_istore_n (pc := 3) (lv' := [(3, iv 0), (2, iv 0), (0, rv ad w0), (1, iv a1)]) S0 dX12_lastOf_3 rfl (by decide) rfl ?_
  refine r_lv [2, 3, 1, 0] rfl ?_
  refine it_ind (P := fun s2 => cn s2.1 → cn s2.2 → G p l e0 (rmx 1 60) s m args below meth c 0 0 Q cA D N 4 ad T A nx 4 [(0, rv ad w0), (1, iv a1), (2, iv s2.1), (3, iv s2.2)] [] I) (fun n0 s2 ih1 hf c3 c4 => ?_) FU (0, 0) hf (cnz 0 rfl) (cnz 0 rfl)
  refine r_iload_n (pc := 4) S0 3 dX12_lastOf_4 rfl rfl ?_
  refine r_iload_n (pc := 5) S0 1 dX12_lastOf_5 rfl rfl ?_
  refine r_icmp_ge (pc := 6) (tgt := 48) S0 dX12_lastOf_6 (by decide) c4 ca1 hf (fun hf => ?_) (fun hf => ?_)
  · refine r_iload_n (pc := 48) S0 2 dX12_lastOf_48 rfl rfl ?_
    have hz := ok_some hf
    have hz : s2.1 = e := hz
    subst hQ
    subst hz
    exact r_iret (pc := 49) S0 hr hlk c3 dX12_lastOf_49
  · refine r_aload_n (pc := 9) S0 0 dX12_lastOf_9 rfl rfl ?_
    refine r_getR (pc := 10) S0 hK fl_X12_86 dX12_lastOf_10 hf (fun x5 hf => ?_)
    refine r_iload_n (pc := 13) S0 3 dX12_lastOf_13 rfl rfl ?_
    refine r_iald (pc := 14) S0 hK dX12_lastOf_14 c4 hf (fun x6 c7 hf => ?_)
    refine r_iconst (pc := 15) S0 dX12_lastOf_15 ?_
    refine r_icmp_ne (pc := 16) (tgt := 21) S0 dX12_lastOf_16 (by decide) c7 (cnz (-1) rfl) hf (fun hf => ?_) (fun hf => ?_)
    · refine r_aload_n (pc := 21) S0 0 dX12_lastOf_21 rfl rfl ?_
      refine r_getR (pc := 22) S0 hK fl_X12_86 dX12_lastOf_22 hf (fun x8 hf => ?_)
      refine r_iload_n (pc := 25) S0 3 dX12_lastOf_25 rfl rfl ?_
      refine r_iald (pc := 26) S0 hK dX12_lastOf_26 c4 hf (fun x9 c10 hf => ?_)
      refine r_iload_n (pc := 27) S0 2 dX12_lastOf_27 rfl rfl ?_
      refine r_icmp_le (pc := 28) (tgt := 40) S0 dX12_lastOf_28 (by decide) c10 c3 hf (fun hf => ?_) (fun hf => ?_)
      · refine r_iload_n (pc := 40) S0 2 dX12_lastOf_40 rfl rfl ?_
        refine r_istore_n (pc := 41) (lv' := [(2, iv s2.1), (0, rv ad w0), (1, iv a1), (3, iv s2.2)]) S0 dX12_lastOf_41 rfl (by decide) rfl ?_
        refine r_iinc (pc := 42) (lv' := [(3, iv (ia s2.2 1)), (2, iv s2.1), (0, rv ad w0), (1, iv a1)]) S0 3 dX12_lastOf_42 rfl (by decide) rfl ?_
        refine r_goto (pc := 45) (tgt := 4) S0 dX12_lastOf_45 (by decide) ?_
        have hz := ok_some hf
        refine r_lv [2, 3, 1, 0] rfl ?_
        exact ih1 (s2.1, ia s2.2 1) hz c3 (cn_wrap _)
      · refine r_aload_n (pc := 31) S0 0 dX12_lastOf_31 rfl rfl ?_
        refine r_getR (pc := 32) S0 hK fl_X12_86 dX12_lastOf_32 hf (fun x11 hf => ?_)
        refine r_iload_n (pc := 35) S0 3 dX12_lastOf_35 rfl rfl ?_
        refine r_iald (pc := 36) S0 hK dX12_lastOf_36 c4 hf (fun x12 c13 hf => ?_)
        refine r_goto (pc := 37) (tgt := 41) S0 dX12_lastOf_37 (by decide) ?_
        refine r_istore_n (pc := 41) (lv' := [(2, iv x12), (0, rv ad w0), (1, iv a1), (3, iv s2.2)]) S0 dX12_lastOf_41 rfl (by decide) rfl ?_
        refine r_iinc (pc := 42) (lv' := [(3, iv (ia s2.2 1)), (2, iv x12), (0, rv ad w0), (1, iv a1)]) S0 3 dX12_lastOf_42 rfl (by decide) rfl ?_
        refine r_goto (pc := 45) (tgt := 4) S0 dX12_lastOf_45 (by decide) ?_
        have hz := ok_some hf
        refine r_lv [2, 3, 1, 0] rfl ?_
        exact ih1 (x12, ia s2.2 1) hz c13 (cn_wrap _)
    · refine r_iconst (pc := 19) S0 dX12_lastOf_19 ?_
      have hz := ok_some hf
      have hz : (-1) = e := hz
      subst hQ
      subst hz
      exact r_iret (pc := 20) S0 hr hlk (cnz (-1) rfl) dX12_lastOf_20

set_option maxHeartbeats 4000000 in
set_option maxRecDepth 100000 in
theorem c_X12_queue (l : Launch) (cA : Nat → ClassId) (D : va_G) (N : Nat) (sx : Sx) (ad : Nat → Nat) (T : Knd) (A : Rfs) (nx : Nat) (I : Mem) (w0 : Nat) (a1 : Int) (a2 : Int) (ca1 : cn a1) (ca2 : cn a2) (e : (Int × Mem)) (h : f_X12_queue T A w0 a1 a2 I = some e) : CtI l yX12_queue cX12_queue 4 (some .int) 8 219 cA D N sx ad T A nx [rv ad w0, iv a1, iv a2] I e.2 e.1 := by
  refine met_of (lv0 := [(0, rv ad w0), (1, iv a1), (2, iv a2)]) (by decide) (Nat.le_of_ble_eq_true rfl) rfl (fun p e0 s m args below meth c S0 hK hX hr hlk Q hQ => ?_)
  have hf : OK (f_X12_queue T A w0 a1 a2 I) (fun z => z = e) := ⟨e, h, rfl⟩
  unfold f_X12_queue at hf
  obtain ⟨hw0, hf⟩ := ok_grd hf
  refine r_aload_n (pc := 0) S0 0 dX12_queue_0 rfl rfl ?_
  refine r_iconst (pc := 1) S0 dX12_queue_1 ?_
  refine r_putI (pc := 2) S0 hK fl_X12_89 rfl rfl (cnz 0 rfl) dX12_queue_2 hf (fun I1 hf => ?_)
  refine r_iload_n (pc := 5) S0 2 dX12_queue_5 rfl rfl ?_
  refine r_i2l (pc := 6) S0 dX12_queue_6 ca2 ?_
  refine r_lconst (pc := 7) (v := 1) S0 dX12_queue_7 rfl ?_
  refine r_ldc2 (pc := 8) (z := 9) S0 kl_X12_451 dX12_queue_8 (by decide) ?_
  obtain ⟨e2, h3, hf⟩ := ok_bind hf
  refine r_cS_I (pc := 11) [jv a2, jv 1, jv 9] S0 hK hX ms_X12_94 (c_X12_in l cA D N sx ad T A nx I1 a2 1 9 (cl_cn ca2) (clz 1 rfl) (clz 9 rfl) e2 h3) rfl rfl ⟨by decide, by decide⟩ (Nat.le_of_ble_eq_true rfl) ⟨Nat.le_refl _, Nat.le_refl _⟩ dX12_queue_11 (fun c4 => ?_)
  refine thn_rule (P := fun v6 => cn v6 → G p l e0 (rmx 8 219) s m args below meth c 0 0 Q cA D N 4 ad T A nx 27 [(0, rv ad w0), (1, iv a1), (2, iv a2)] [iv v6] I1) hf (fun v6 hf c7 => ?_) (fun K5 hf => ?_)
  · refine r_istore_n (pc := 27) (lv' := [(3, iv v6), (0, rv ad w0), (1, iv a1), (2, iv a2)]) S0 dX12_queue_27 rfl (by decide) rfl ?_
    refine r_iload_n (pc := 28) S0 0 dX12_queue_28 rfl rfl ?_
    refine r_if_eq (pc := 29) (tgt := 34) S0 dX12_queue_29 (by decide) c7 hf (fun hf => ?_) (fun hf => ?_)
    · refine r_aload_n (pc := 34) S0 1 dX12_queue_34 rfl rfl ?_
      refine r_iload_n (pc := 35) S0 2 dX12_queue_35 rfl rfl ?_
      refine r_iload_n (pc := 36) S0 3 dX12_queue_36 rfl rfl ?_
      obtain ⟨e11, h12, hf⟩ := ok_bind hf
      refine r_cV_V (pc := 37) [iv a1, iv a2] S0 hK hX mv_X12_453 (k_X12_queues h12) (c_X12_queues l cA D N sx ad T A nx I1 w0 a1 a2 ca1 ca2 e11 h12) rfl rfl ⟨by decide, by decide⟩ (Nat.le_of_ble_eq_true rfl) ⟨Nat.le_refl _, Nat.le_refl _⟩ dX12_queue_37 ?_
      refine r_aload_n (pc := 40) S0 1 dX12_queue_40 rfl rfl ?_
      refine r_iload_n (pc := 41) S0 3 dX12_queue_41 rfl rfl ?_
      obtain ⟨e13, h14, hf⟩ := ok_bind hf
      refine r_cV_I (pc := 42) [iv a2] S0 hK hX mv_X12_456 (k_X12_lastOf h14) (c_X12_lastOf l cA D N sx ad T A nx e11 w0 a2 ca2 e13 h14) rfl rfl ⟨by decide, by decide⟩ (Nat.le_of_ble_eq_true rfl) ⟨Nat.le_refl _, Nat.le_refl _⟩ dX12_queue_42 (fun c15 => ?_)
      have hz := ok_some hf
      have hz : (e13, e11) = e := hz
      subst hQ
      subst hz
      exact r_iret (pc := 45) S0 hr hlk c15 dX12_queue_45
    · refine r_iload_n (pc := 32) S0 0 dX12_queue_32 rfl rfl ?_
      have hz := ok_some hf
      have hz : (v6, I1) = e := hz
      subst hQ
      subst hz
      exact r_iret (pc := 33) S0 hr hlk c7 dX12_queue_33
  · refine r_if_eq (pc := 14) (tgt := 25) S0 dX12_queue_14 (by decide) c4 hf (fun hf => ?_) (fun hf => ?_)
    · refine r_bipush (pc := 25) S0 dX12_queue_25 (by decide) ?_
      have hz := ok_some hf
      refine r_lv [0, 1, 2] rfl ?_
      exact K5 (-2) hz (cnz (-2) rfl)
    · refine r_aload_n (pc := 17) S0 0 dX12_queue_17 rfl rfl ?_
      refine r_iload_n (pc := 18) S0 1 dX12_queue_18 rfl rfl ?_
      obtain ⟨e8, h9, hf⟩ := ok_bind hf
      refine r_cV_I (pc := 19) [iv a1] S0 hK hX mv_X12_442 (k_X12_whyNot h9) (c_X12_whyNot l cA D N sx ad T A nx I1 w0 a1 ca1 e8 h9) rfl rfl ⟨by decide, by decide⟩ (Nat.le_of_ble_eq_true rfl) ⟨Nat.le_refl _, Nat.le_refl _⟩ dX12_queue_19 (fun c10 => ?_)
      refine r_goto (pc := 22) (tgt := 27) S0 dX12_queue_22 (by decide) ?_
      have hz := ok_some hf
      refine r_lv [0, 1, 2] rfl ?_
      exact K5 e8 hz c10

set_option maxHeartbeats 4000000 in
set_option maxRecDepth 100000 in
theorem c_X12_served (l : Launch) (cA : Nat → ClassId) (D : va_G) (N : Nat) (sx : Sx) (ad : Nat → Nat) (T : Knd) (A : Rfs) (nx : Nat) (I : Mem) (w0 : Nat) (a1 : Int) (a2 : Int) (ca1 : cn a1) (ca2 : cn a2) (e : (Int × Mem)) (h : f_X12_served T A w0 a1 a2 I = some e) : CtI l yX12_served cX12_served 6 (some .int) 8 219 cA D N sx ad T A nx [rv ad w0, iv a1, iv a2] I e.2 e.1 := by
  refine met_of (lv0 := [(0, rv ad w0), (1, iv a1), (2, iv a2)]) (by decide) (Nat.le_of_ble_eq_true rfl) rfl (fun p e0 s m args below meth c S0 hK hX hr hlk Q hQ => ?_)
  have hf : OK (f_X12_served T A w0 a1 a2 I) (fun z => z = e) := ⟨e, h, rfl⟩
  unfold f_X12_served at hf
  obtain ⟨hw0, hf⟩ := ok_grd hf
  refine r_aload_n (pc := 0) S0 0 dX12_served_0 rfl rfl ?_
  refine r_iconst (pc := 1) S0 dX12_served_1 ?_
  refine r_putI (pc := 2) S0 hK fl_X12_89 rfl rfl (cnz 0 rfl) dX12_served_2 hf (fun I1 hf => ?_)
  refine r_iload_n (pc := 5) S0 2 dX12_served_5 rfl rfl ?_
  refine r_i2l (pc := 6) S0 dX12_served_6 ca2 ?_
  refine r_lconst (pc := 7) (v := 0) S0 dX12_served_7 rfl ?_
  refine r_ldc2 (pc := 8) (z := 400) S0 kl_X12_459 dX12_served_8 (by decide) ?_
  obtain ⟨e2, h3, hf⟩ := ok_bind hf
  refine r_cS_I (pc := 11) [jv a2, jv 0, jv 400] S0 hK hX ms_X12_94 (c_X12_in l cA D N sx ad T A nx I1 a2 0 400 (cl_cn ca2) (clz 0 rfl) (clz 400 rfl) e2 h3) rfl rfl ⟨by decide, by decide⟩ (Nat.le_of_ble_eq_true rfl) ⟨Nat.le_refl _, Nat.le_refl _⟩ dX12_served_11 (fun c4 => ?_)
  refine thn_rule (P := fun v6 => cn v6 → G p l e0 (rmx 8 219) s m args below meth c 0 0 Q cA D N 6 ad T A nx 27 [(0, rv ad w0), (1, iv a1), (2, iv a2)] [iv v6] I1) hf (fun v6 hf c7 => ?_) (fun K5 hf => ?_)
  · refine r_istore_n (pc := 27) (lv' := [(3, iv v6), (0, rv ad w0), (1, iv a1), (2, iv a2)]) S0 dX12_served_27 rfl (by decide) rfl ?_
    refine r_iload_n (pc := 28) S0 0 dX12_served_28 rfl rfl ?_
    refine r_if_eq (pc := 29) (tgt := 34) S0 dX12_served_29 (by decide) c7 hf (fun hf => ?_) (fun hf => ?_)
    · refine r_aload_n (pc := 34) S0 1 dX12_served_34 rfl rfl ?_
      refine r_iload_n (pc := 35) S0 2 dX12_served_35 rfl rfl ?_
      refine r_bipush (pc := 36) S0 dX12_served_36 (by decide) ?_
      obtain ⟨e11, h12, hf⟩ := ok_bind hf
      refine r_cV_V (pc := 38) [iv a1, iv 9] S0 hK hX mv_X12_453 (k_X12_queues h12) (c_X12_queues l cA D N sx ad T A nx I1 w0 a1 9 ca1 (cnz 9 rfl) e11 h12) rfl rfl ⟨by decide, by decide⟩ (Nat.le_of_ble_eq_true rfl) ⟨Nat.le_refl _, Nat.le_refl _⟩ dX12_served_38 ?_
      refine r_iconst (pc := 41) S0 dX12_served_41 ?_
      refine r_istore (pc := 42) (lv' := [(4, iv 0), (3, iv v6), (0, rv ad w0), (1, iv a1), (2, iv a2)]) S0 dX12_served_42 (by decide) rfl ?_
      refine r_iconst (pc := 44) S0 dX12_served_44 ?_
      refine r_istore (pc := 45) (lv' := [(5, iv 0), (4, iv 0), (3, iv v6), (0, rv ad w0), (1, iv a1), (2, iv a2)]) S0 dX12_served_45 (by decide) rfl ?_
      refine r_lv [3, 5, 1, 0] rfl ?_
      refine it_ind (P := fun s14 => cn s14.1 → cn s14.2 → G p l e0 (rmx 8 219) s m args below meth c 0 0 Q cA D N 6 ad T A nx 47 [(0, rv ad w0), (2, iv a2), (4, iv s14.1), (5, iv s14.2)] [] e11) (fun n0 s14 ih13 hf c15 c16 => ?_) FU (0, 0) hf (cnz 0 rfl) (cnz 0 rfl)
      refine r_iload (pc := 47) S0 3 dX12_served_47 rfl ?_
      refine r_bipush (pc := 49) S0 dX12_served_49 (by decide) ?_
      refine r_icmp_ge (pc := 51) (tgt := 92) S0 dX12_served_51 (by decide) c16 (cnz 9 rfl) hf (fun hf => ?_) (fun hf => ?_)
      · refine r_iload (pc := 92) S0 2 dX12_served_92 rfl ?_
        have hz := ok_some hf
        have hz : (s14.1, e11) = e := hz
        subst hQ
        subst hz
        exact r_iret (pc := 94) S0 hr hlk c15 dX12_served_94
      · refine r_iload (pc := 54) S0 2 dX12_served_54 rfl ?_
        refine r_aload_n (pc := 56) S0 0 dX12_served_56 rfl rfl ?_
        refine r_getR (pc := 57) S0 hK fl_X12_86 dX12_served_57 hf (fun x17 hf => ?_)
        refine r_iload (pc := 60) S0 3 dX12_served_60 rfl ?_
        refine r_iald (pc := 62) S0 hK dX12_served_62 c16 hf (fun x18 c19 hf => ?_)
        refine r_iconst (pc := 63) S0 dX12_served_63 ?_
        refine r_icmp_eq (pc := 64) (tgt := 82) S0 dX12_served_64 (by decide) c19 (cnz (-1) rfl) hf (fun hf => ?_) (fun hf => ?_)
        · refine r_iconst (pc := 82) S0 dX12_served_82 ?_
          refine r_iadd (pc := 83) S0 dX12_served_83 ?_
          refine r_istore (pc := 84) (lv' := [(4, iv (ia s14.1 0)), (0, rv ad w0), (2, iv a2), (5, iv s14.2)]) S0 dX12_served_84 (by decide) rfl ?_
          refine r_iinc (pc := 86) (lv' := [(5, iv (ia s14.2 1)), (4, iv (ia s14.1 0)), (0, rv ad w0), (2, iv a2)]) S0 3 dX12_served_86 rfl (by decide) rfl ?_
          refine r_goto (pc := 89) (tgt := 47) S0 dX12_served_89 (by decide) ?_
          have hz := ok_some hf
          refine r_lv [2, 3, 1, 0] rfl ?_
          exact ih13 (ia s14.1 0, ia s14.2 1) hz (cn_wrap _) (cn_wrap _)
        · refine r_aload_n (pc := 67) S0 0 dX12_served_67 rfl rfl ?_
          refine r_getR (pc := 68) S0 hK fl_X12_86 dX12_served_68 hf (fun x20 hf => ?_)
          refine r_iload (pc := 71) S0 3 dX12_served_71 rfl ?_
          refine r_iald (pc := 73) S0 hK dX12_served_73 c16 hf (fun x21 c22 hf => ?_)
          refine r_iload_n (pc := 74) S0 1 dX12_served_74 rfl rfl ?_
          refine r_icmp_gt (pc := 75) (tgt := 82) S0 dX12_served_75 (by decide) c22 ca2 hf (fun hf => ?_) (fun hf => ?_)
          · refine r_iconst (pc := 82) S0 dX12_served_82 ?_
            refine r_iadd (pc := 83) S0 dX12_served_83 ?_
            refine r_istore (pc := 84) (lv' := [(4, iv (ia s14.1 0)), (0, rv ad w0), (2, iv a2), (5, iv s14.2)]) S0 dX12_served_84 (by decide) rfl ?_
            refine r_iinc (pc := 86) (lv' := [(5, iv (ia s14.2 1)), (4, iv (ia s14.1 0)), (0, rv ad w0), (2, iv a2)]) S0 3 dX12_served_86 rfl (by decide) rfl ?_
            refine r_goto (pc := 89) (tgt := 47) S0 dX12_served_89 (by decide) ?_
            have hz := ok_some hf
            refine r_lv [2, 3, 1, 0] rfl ?_
            exact ih13 (ia s14.1 0, ia s14.2 1) hz (cn_wrap _) (cn_wrap _)
          · refine r_iconst (pc := 78) S0 dX12_served_78 ?_
            refine r_goto (pc := 79) (tgt := 83) S0 dX12_served_79 (by decide) ?_
            refine r_iadd (pc := 83) S0 dX12_served_83 ?_
            refine r_istore (pc := 84) (lv' := [(4, iv (ia s14.1 1)), (0, rv ad w0), (2, iv a2), (5, iv s14.2)]) S0 dX12_served_84 (by decide) rfl ?_
            refine r_iinc (pc := 86) (lv' := [(5, iv (ia s14.2 1)), (4, iv (ia s14.1 1)), (0, rv ad w0), (2, iv a2)]) S0 3 dX12_served_86 rfl (by decide) rfl ?_
            refine r_goto (pc := 89) (tgt := 47) S0 dX12_served_89 (by decide) ?_
            have hz := ok_some hf
            refine r_lv [2, 3, 1, 0] rfl ?_
            exact ih13 (ia s14.1 1, ia s14.2 1) hz (cn_wrap _) (cn_wrap _)
    · refine r_iload_n (pc := 32) S0 0 dX12_served_32 rfl rfl ?_
      have hz := ok_some hf
      have hz : (v6, I1) = e := hz
      subst hQ
      subst hz
      exact r_iret (pc := 33) S0 hr hlk c7 dX12_served_33
  · refine r_if_eq (pc := 14) (tgt := 25) S0 dX12_served_14 (by decide) c4 hf (fun hf => ?_) (fun hf => ?_)
    · refine r_bipush (pc := 25) S0 dX12_served_25 (by decide) ?_
      have hz := ok_some hf
      refine r_lv [0, 1, 2] rfl ?_
      exact K5 (-2) hz (cnz (-2) rfl)
    · refine r_aload_n (pc := 17) S0 0 dX12_served_17 rfl rfl ?_
      refine r_iload_n (pc := 18) S0 1 dX12_served_18 rfl rfl ?_
      obtain ⟨e8, h9, hf⟩ := ok_bind hf
      refine r_cV_I (pc := 19) [iv a1] S0 hK hX mv_X12_442 (k_X12_whyNot h9) (c_X12_whyNot l cA D N sx ad T A nx I1 w0 a1 ca1 e8 h9) rfl rfl ⟨by decide, by decide⟩ (Nat.le_of_ble_eq_true rfl) ⟨Nat.le_refl _, Nat.le_refl _⟩ dX12_served_19 (fun c10 => ?_)
      refine r_goto (pc := 22) (tgt := 27) S0 dX12_served_22 (by decide) ?_
      have hz := ok_some hf
      refine r_lv [0, 1, 2] rfl ?_
      exact K5 e8 hz c10

set_option maxHeartbeats 4000000 in
set_option maxRecDepth 100000 in
theorem c_X12_chair (l : Launch) (cA : Nat → ClassId) (D : va_G) (N : Nat) (sx : Sx) (ad : Nat → Nat) (T : Knd) (A : Rfs) (nx : Nat) (I : Mem) (w0 : Nat) (a1 : Int) (ca1 : cn a1) (e : (Int × Mem)) (h : f_X12_chair T A w0 a1 I = some e) : CtI l yX12_chair cX12_chair 7 (some .int) 8 219 cA D N sx ad T A nx [rv ad w0, iv a1] I e.2 e.1 := by
  refine met_of (lv0 := [(0, rv ad w0), (1, iv a1)]) (by decide) (Nat.le_of_ble_eq_true rfl) rfl (fun p e0 s m args below meth c S0 hK hX hr hlk Q hQ => ?_)
  have hf : OK (f_X12_chair T A w0 a1 I) (fun z => z = e) := ⟨e, h, rfl⟩
  unfold f_X12_chair at hf
  obtain ⟨hw0, hf⟩ := ok_grd hf
  refine r_aload_n (pc := 0) S0 0 dX12_chair_0 rfl rfl ?_
  refine r_iconst (pc := 1) S0 dX12_chair_1 ?_
  refine r_putI (pc := 2) S0 hK fl_X12_89 rfl rfl (cnz 0 rfl) dX12_chair_2 hf (fun I1 hf => ?_)
  refine r_aload_n (pc := 5) S0 0 dX12_chair_5 rfl rfl ?_
  refine r_iload_n (pc := 6) S0 1 dX12_chair_6 rfl rfl ?_
  obtain ⟨e2, h3, hf⟩ := ok_bind hf
  refine r_cV_I (pc := 7) [iv a1] S0 hK hX mv_X12_442 (k_X12_whyNot h3) (c_X12_whyNot l cA D N sx ad T A nx I1 w0 a1 ca1 e2 h3) rfl rfl ⟨by decide, by decide⟩ (Nat.le_of_ble_eq_true rfl) ⟨Nat.le_refl _, Nat.le_refl _⟩ dX12_chair_7 (fun c4 => ?_)
  refine r_istore_n (pc := 10) (lv' := [(2, iv e2), (0, rv ad w0), (1, iv a1)]) S0 dX12_chair_10 rfl (by decide) rfl ?_
  refine r_iload_n (pc := 11) S0 0 dX12_chair_11 rfl rfl ?_
  refine r_if_eq (pc := 12) (tgt := 17) S0 dX12_chair_12 (by decide) c4 hf (fun hf => ?_) (fun hf => ?_)
  · refine r_aload_n (pc := 17) S0 1 dX12_chair_17 rfl rfl ?_
    refine r_iload_n (pc := 18) S0 2 dX12_chair_18 rfl rfl ?_
    refine r_bipush (pc := 19) S0 dX12_chair_19 (by decide) ?_
    obtain ⟨e5, h6, hf⟩ := ok_bind hf
    refine r_cV_V (pc := 21) [iv a1, iv 9] S0 hK hX mv_X12_453 (k_X12_queues h6) (c_X12_queues l cA D N sx ad T A nx I1 w0 a1 9 ca1 (cnz 9 rfl) e5 h6) rfl rfl ⟨by decide, by decide⟩ (Nat.le_of_ble_eq_true rfl) ⟨Nat.le_refl _, Nat.le_refl _⟩ dX12_chair_21 ?_
    refine r_aload_n (pc := 24) S0 1 dX12_chair_24 rfl rfl ?_
    refine r_bipush (pc := 25) S0 dX12_chair_25 (by decide) ?_
    obtain ⟨e7, h8, hf⟩ := ok_bind hf
    refine r_cV_I (pc := 27) [iv 9] S0 hK hX mv_X12_456 (k_X12_lastOf h8) (c_X12_lastOf l cA D N sx ad T A nx e5 w0 9 (cnz 9 rfl) e7 h8) rfl rfl ⟨by decide, by decide⟩ (Nat.le_of_ble_eq_true rfl) ⟨Nat.le_refl _, Nat.le_refl _⟩ dX12_chair_27 (fun c9 => ?_)
    refine r_iconst (pc := 30) S0 dX12_chair_30 ?_
    refine r_icmp_ne (pc := 31) (tgt := 36) S0 dX12_chair_31 (by decide) c9 (cnz (-1) rfl) hf (fun hf => ?_) (fun hf => ?_)
    · refine r_iconst (pc := 36) S0 dX12_chair_36 ?_
      refine r_istore_n (pc := 37) (lv' := [(3, iv (-1)), (2, iv e2), (0, rv ad w0), (1, iv a1)]) S0 dX12_chair_37 rfl (by decide) rfl ?_
      refine r_iconst (pc := 38) S0 dX12_chair_38 ?_
      refine r_istore (pc := 39) (lv' := [(4, iv 0), (3, iv (-1)), (2, iv e2), (0, rv ad w0), (1, iv a1)]) S0 dX12_chair_39 (by decide) rfl ?_
      refine r_lv [3, 4, 1, 0] rfl ?_
      refine it_ind (P := fun s11 => cn s11.1 → cn s11.2 → G p l e0 (rmx 8 219) s m args below meth c 0 0 Q cA D N 7 ad T A nx 41 [(0, rv ad w0), (1, iv a1), (3, iv s11.1), (4, iv s11.2)] [] e5) (fun n0 s11 ih10 hf c12 c13 => ?_) FU ((-1), 0) hf (cnz (-1) rfl) (cnz 0 rfl)
      refine r_iload (pc := 41) S0 3 dX12_chair_41 rfl ?_
      refine r_aload_n (pc := 43) S0 0 dX12_chair_43 rfl rfl ?_
      refine r_getR (pc := 44) S0 hK fl_X12_34 dX12_chair_44 hf (fun x14 hf => ?_)
      refine r_iconst (pc := 47) S0 dX12_chair_47 ?_
      refine r_iald (pc := 48) S0 hK dX12_chair_48 (cnz 3 rfl) hf (fun x15 c16 hf => ?_)
      refine r_icmp_ge (pc := 49) (tgt := 134) S0 dX12_chair_49 (by decide) c13 c16 hf (fun hf => ?_) (fun hf => ?_)
      · refine r_iload_n (pc := 134) S0 2 dX12_chair_134 rfl rfl ?_
        have hz := ok_some hf
        have hz : (s11.1, e5) = e := hz
        subst hQ
        subst hz
        exact r_iret (pc := 135) S0 hr hlk c12 dX12_chair_135
      · refine r_iconst (pc := 52) S0 dX12_chair_52 ?_
        refine r_istore (pc := 53) (lv' := [(5, iv 0), (0, rv ad w0), (1, iv a1), (3, iv s11.1), (4, iv s11.2)]) S0 dX12_chair_53 (by decide) rfl ?_
        refine r_iconst (pc := 55) S0 dX12_chair_55 ?_
        refine r_istore (pc := 56) (lv' := [(6, iv 0), (5, iv 0), (0, rv ad w0), (1, iv a1), (3, iv s11.1), (4, iv s11.2)]) S0 dX12_chair_56 (by decide) rfl ?_
        refine thn_rule (P := fun v18 => cn v18 → G p l e0 (rmx 8 219) s m args below meth c 0 0 Q cA D N 7 ad T A nx 99 [(0, rv ad w0), (1, iv a1), (3, iv s11.1), (4, iv s11.2), (5, iv v18)] [] e5) hf (fun v18 hf c19 => ?_) (fun K17 hf => ?_)
        · refine r_iload (pc := 99) S0 4 dX12_chair_99 rfl ?_
          refine r_if_eq (pc := 101) (tgt := 128) S0 dX12_chair_101 (by decide) c19 hf (fun hf => ?_) (fun hf => ?_)
          · refine r_iinc (pc := 128) (lv' := [(4, iv (ia s11.2 1)), (0, rv ad w0), (1, iv a1), (3, iv s11.1), (5, iv v18)]) S0 3 dX12_chair_128 rfl (by decide) rfl ?_
            refine r_goto (pc := 131) (tgt := 41) S0 dX12_chair_131 (by decide) ?_
            have hz := ok_some hf
            refine r_lv [1, 2, 3, 0] rfl ?_
            exact ih10 (s11.1, ia s11.2 1) hz c12 (cn_wrap _)
          · refine r_iload_n (pc := 104) S0 2 dX12_chair_104 rfl rfl ?_
            refine r_iconst (pc := 105) S0 dX12_chair_105 ?_
            refine r_icmp_eq (pc := 106) (tgt := 125) S0 dX12_chair_106 (by decide) c12 (cnz (-1) rfl) hf (fun hf => ?_) (fun hf => ?_)
            · refine r_iload (pc := 125) S0 3 dX12_chair_125 rfl ?_
              refine r_istore_n (pc := 127) (lv' := [(3, iv s11.2), (0, rv ad w0), (1, iv a1), (4, iv s11.2), (5, iv v18)]) S0 dX12_chair_127 rfl (by decide) rfl ?_
              refine r_iinc (pc := 128) (lv' := [(4, iv (ia s11.2 1)), (3, iv s11.2), (0, rv ad w0), (1, iv a1), (5, iv v18)]) S0 3 dX12_chair_128 rfl (by decide) rfl ?_
              refine r_goto (pc := 131) (tgt := 41) S0 dX12_chair_131 (by decide) ?_
              have hz := ok_some hf
              refine r_lv [2, 3, 1, 0] rfl ?_
              exact ih10 (s11.2, ia s11.2 1) hz c13 (cn_wrap _)
            · refine r_aload_n (pc := 109) S0 0 dX12_chair_109 rfl rfl ?_
              refine r_getR (pc := 110) S0 hK fl_X12_83 dX12_chair_110 hf (fun x30 hf => ?_)
              refine r_iload (pc := 113) S0 3 dX12_chair_113 rfl ?_
              refine r_iald (pc := 115) S0 hK dX12_chair_115 c13 hf (fun x31 c32 hf => ?_)
              refine r_aload_n (pc := 116) S0 0 dX12_chair_116 rfl rfl ?_
              refine r_getR (pc := 117) S0 hK fl_X12_83 dX12_chair_117 hf (fun x33 hf => ?_)
              refine r_iload_n (pc := 120) S0 2 dX12_chair_120 rfl rfl ?_
              refine r_iald (pc := 121) S0 hK dX12_chair_121 c12 hf (fun x34 c35 hf => ?_)
              refine r_icmp_le (pc := 122) (tgt := 128) S0 dX12_chair_122 (by decide) c32 c35 hf (fun hf => ?_) (fun hf => ?_)
              · refine r_iinc (pc := 128) (lv' := [(4, iv (ia s11.2 1)), (0, rv ad w0), (1, iv a1), (3, iv s11.1), (5, iv v18)]) S0 3 dX12_chair_128 rfl (by decide) rfl ?_
                refine r_goto (pc := 131) (tgt := 41) S0 dX12_chair_131 (by decide) ?_
                have hz := ok_some hf
                refine r_lv [1, 2, 3, 0] rfl ?_
                exact ih10 (s11.1, ia s11.2 1) hz c12 (cn_wrap _)
              · refine r_iload (pc := 125) S0 3 dX12_chair_125 rfl ?_
                refine r_istore_n (pc := 127) (lv' := [(3, iv s11.2), (0, rv ad w0), (1, iv a1), (4, iv s11.2), (5, iv v18)]) S0 dX12_chair_127 rfl (by decide) rfl ?_
                refine r_iinc (pc := 128) (lv' := [(4, iv (ia s11.2 1)), (3, iv s11.2), (0, rv ad w0), (1, iv a1), (5, iv v18)]) S0 3 dX12_chair_128 rfl (by decide) rfl ?_
                refine r_goto (pc := 131) (tgt := 41) S0 dX12_chair_131 (by decide) ?_
                have hz := ok_some hf
                refine r_lv [2, 3, 1, 0] rfl ?_
                exact ih10 (s11.2, ia s11.2 1) hz c13 (cn_wrap _)
        · refine r_lv [2, 3, 4, 5, 1, 0] rfl ?_
          refine it_ind (P := fun s21 => cn s21.1 → cn s21.2 → G p l e0 (rmx 8 219) s m args below meth c 0 0 Q cA D N 7 ad T A nx 58 [(0, rv ad w0), (1, iv a1), (3, iv s11.1), (4, iv s11.2), (5, iv s21.1), (6, iv s21.2)] [] e5) (fun n0 s21 ih20 hf c22 c23 => ?_) FU (0, 0) hf (cnz 0 rfl) (cnz 0 rfl)
          refine r_iload (pc := 58) S0 5 dX12_chair_58 rfl ?_
          refine r_aload_n (pc := 60) S0 0 dX12_chair_60 rfl rfl ?_
          refine r_getR (pc := 61) S0 hK fl_X12_13 dX12_chair_61 hf (fun x24 hf => ?_)
          refine r_iload_n (pc := 64) S0 1 dX12_chair_64 rfl rfl ?_
          refine r_iald (pc := 65) S0 hK dX12_chair_65 ca1 hf (fun x25 c26 hf => ?_)
          refine r_icmp_ge (pc := 66) (tgt := 99) S0 dX12_chair_66 (by decide) c23 c26 hf (fun hf => ?_) (fun hf => ?_)
          · have hz := ok_some hf
            refine r_lv [0, 1, 2, 3, 4] rfl ?_
            exact K17 s21.1 hz c22
          · refine r_iload (pc := 69) S0 4 dX12_chair_69 rfl ?_
            refine r_if_ne (pc := 71) (tgt := 86) S0 dX12_chair_71 (by decide) c22 hf (fun hf => ?_) (fun hf => ?_)
            · refine r_iconst (pc := 86) S0 dX12_chair_86 ?_
              refine r_goto (pc := 87) (tgt := 91) S0 dX12_chair_87 (by decide) ?_
              refine r_istore (pc := 91) (lv' := [(5, iv 1), (0, rv ad w0), (1, iv a1), (3, iv s11.1), (4, iv s11.2), (6, iv s21.2)]) S0 dX12_chair_91 (by decide) rfl ?_
              refine r_iinc (pc := 93) (lv' := [(6, iv (ia s21.2 1)), (5, iv 1), (0, rv ad w0), (1, iv a1), (3, iv s11.1), (4, iv s11.2)]) S0 5 dX12_chair_93 rfl (by decide) rfl ?_
              refine r_goto (pc := 96) (tgt := 58) S0 dX12_chair_96 (by decide) ?_
              have hz := ok_some hf
              refine r_lv [2, 3, 4, 5, 1, 0] rfl ?_
              exact ih20 (1, ia s21.2 1) hz (cnz 1 rfl) (cn_wrap _)
            · refine r_aload_n (pc := 74) S0 0 dX12_chair_74 rfl rfl ?_
              refine r_iload_n (pc := 75) S0 1 dX12_chair_75 rfl rfl ?_
              refine r_iload (pc := 76) S0 5 dX12_chair_76 rfl ?_
              obtain ⟨e27, h28, hf⟩ := ok_bind hf
              refine r_cV_I (pc := 78) [iv a1, iv s21.2] S0 hK hX mv_X12_445 (k_X12_cellOf h28) (c_X12_cellOf l cA D N sx ad T A nx e5 w0 a1 s21.2 ca1 c23 e27 h28) rfl rfl ⟨by decide, by decide⟩ (Nat.le_of_ble_eq_true rfl) ⟨Nat.le_refl _, Nat.le_refl _⟩ dX12_chair_78 (fun c29 => ?_)
              refine r_iload (pc := 81) S0 3 dX12_chair_81 rfl ?_
              refine r_icmp_ne (pc := 83) (tgt := 90) S0 dX12_chair_83 (by decide) c29 c13 hf (fun hf => ?_) (fun hf => ?_)
              · refine r_iconst (pc := 90) S0 dX12_chair_90 ?_
                refine r_istore (pc := 91) (lv' := [(5, iv 0), (0, rv ad w0), (1, iv a1), (3, iv s11.1), (4, iv s11.2), (6, iv s21.2)]) S0 dX12_chair_91 (by decide) rfl ?_
                refine r_iinc (pc := 93) (lv' := [(6, iv (ia s21.2 1)), (5, iv 0), (0, rv ad w0), (1, iv a1), (3, iv s11.1), (4, iv s11.2)]) S0 5 dX12_chair_93 rfl (by decide) rfl ?_
                refine r_goto (pc := 96) (tgt := 58) S0 dX12_chair_96 (by decide) ?_
                have hz := ok_some hf
                refine r_lv [2, 3, 4, 5, 1, 0] rfl ?_
                exact ih20 (0, ia s21.2 1) hz (cnz 0 rfl) (cn_wrap _)
              · refine r_iconst (pc := 86) S0 dX12_chair_86 ?_
                refine r_goto (pc := 87) (tgt := 91) S0 dX12_chair_87 (by decide) ?_
                refine r_istore (pc := 91) (lv' := [(5, iv 1), (0, rv ad w0), (1, iv a1), (3, iv s11.1), (4, iv s11.2), (6, iv s21.2)]) S0 dX12_chair_91 (by decide) rfl ?_
                refine r_iinc (pc := 93) (lv' := [(6, iv (ia s21.2 1)), (5, iv 1), (0, rv ad w0), (1, iv a1), (3, iv s11.1), (4, iv s11.2)]) S0 5 dX12_chair_93 rfl (by decide) rfl ?_
                refine r_goto (pc := 96) (tgt := 58) S0 dX12_chair_96 (by decide) ?_
                have hz := ok_some hf
                refine r_lv [2, 3, 4, 5, 1, 0] rfl ?_
                exact ih20 (1, ia s21.2 1) hz (cnz 1 rfl) (cn_wrap _)
    · refine r_iconst (pc := 34) S0 dX12_chair_34 ?_
      have hz := ok_some hf
      have hz : ((-1), e5) = e := hz
      subst hQ
      subst hz
      exact r_iret (pc := 35) S0 hr hlk (cnz (-1) rfl) dX12_chair_35
  · refine r_iload_n (pc := 15) S0 0 dX12_chair_15 rfl rfl ?_
    have hz := ok_some hf
    have hz : (e2, I1) = e := hz
    subst hQ
    subst hz
    exact r_iret (pc := 16) S0 hr hlk c4 dX12_chair_16

set_option maxHeartbeats 4000000 in
set_option maxRecDepth 100000 in
theorem c_X12_draws (l : Launch) (cA : Nat → ClassId) (D : va_G) (N : Nat) (sx : Sx) (ad : Nat → Nat) (T : Knd) (A : Rfs) (nx : Nat) (I : Mem) (w0 : Nat) (a1 : Int) (ca1 : cl a1) (e : (Int × Mem)) (h : f_X12_draws T A w0 a1 I = some e) : CtI l yX12_draws cX12_draws 9 (some .int) 7 194 cA D N sx ad T A nx [rv ad w0, jv a1] I e.2 e.1 := by
  refine met_of (lv0 := [(0, rv ad w0), (1, jv a1)]) (by decide) (Nat.le_of_ble_eq_true rfl) rfl (fun p e0 s m args below meth c S0 hK hX hr hlk Q hQ => ?_)
  have hf : OK (f_X12_draws T A w0 a1 I) (fun z => z = e) := ⟨e, h, rfl⟩
  unfold f_X12_draws at hf
  obtain ⟨hw0, hf⟩ := ok_grd hf
  refine r_aload_n (pc := 0) S0 0 dX12_draws_0 rfl rfl ?_
  obtain ⟨e1, h2, hf⟩ := ok_bind hf
  refine r_cV_V (pc := 1) [] S0 hK hX mv_X12_334 (k_X12_lays h2) (c_X12_lays l cA D N sx ad T A nx I w0 e1 h2) rfl rfl ⟨by decide, by decide⟩ (Nat.le_of_ble_eq_true rfl) ⟨Nat.le_refl _, Nat.le_refl _⟩ dX12_draws_1 ?_
  refine r_lload_n (pc := 4) S0 1 dX12_draws_4 rfl rfl ?_
  refine r_lstore_n (pc := 5) (lv' := [(3, jv a1), (0, rv ad w0), (1, jv a1)]) S0 dX12_draws_5 rfl (by decide) rfl ?_
  refine r_aload_n (pc := 6) S0 1 dX12_draws_6 rfl rfl ?_
  obtain ⟨e3, h4, hf⟩ := ok_bind hf
  refine r_cV_I (pc := 7) [] S0 hK hX mv_X12_337 (k_X12_heldNow h4) (c_X12_heldNow l cA D N sx ad T A nx e1 w0 e3 h4) rfl rfl ⟨by decide, by decide⟩ (Nat.le_of_ble_eq_true rfl) ⟨Nat.le_refl _, Nat.le_refl _⟩ dX12_draws_7 (fun c5 => ?_)
  refine r_istore (pc := 10) (lv' := [(5, iv e3), (3, jv a1), (0, rv ad w0), (1, jv a1)]) S0 dX12_draws_10 (by decide) rfl ?_
  refine r_aload_n (pc := 12) S0 2 dX12_draws_12 rfl rfl ?_
  refine r_iconst (pc := 13) S0 dX12_draws_13 ?_
  refine r_putI (pc := 14) S0 hK fl_X12_461 rfl rfl (cnz 0 rfl) dX12_draws_14 hf (fun I6 hf => ?_)
  refine thn_rule (P := fun v8 => G p l e0 (rmx 7 194) s m args below meth c 0 0 Q cA D N 9 ad T A nx 149 [(0, rv ad w0)] [] v8) hf (fun v8 hf => ?_) (fun K7 hf => ?_)
  · refine r_aload_n (pc := 149) S0 0 dX12_draws_149 rfl rfl ?_
    refine r_getI (pc := 150) S0 hK fl_X12_300 dX12_draws_150 hf (fun x45 c46 hf => ?_)
    have hz := ok_some hf
    have hz : (x45, v8) = e := hz
    subst hQ
    subst hz
    exact r_iret (pc := 153) S0 hr hlk c46 dX12_draws_153
  · refine r_lv [2, 1, 0] rfl ?_
    refine it_ind (P := fun s10 => cl s10.1 → cn s10.2.1 → G p l e0 (rmx 7 194) s m args below meth c 0 0 Q cA D N 9 ad T A nx 17 [(0, rv ad w0), (3, jv s10.1), (5, iv s10.2.1)] [] s10.2.2) (fun n0 s10 ih9 hf c11 c12 => ?_) FU (a1, e3, I6) hf ca1 c5
    refine r_aload_n (pc := 17) S0 0 dX12_draws_17 rfl rfl ?_
    obtain ⟨e13, h14, hf⟩ := ok_bind hf
    refine r_cV_I (pc := 18) [] S0 hK hX mv_X12_345 (k_X12_isDone h14) (c_X12_isDone l cA D N sx ad T A nx s10.2.2 w0 e13 h14) rfl rfl ⟨by decide, by decide⟩ (Nat.le_of_ble_eq_true rfl) ⟨Nat.le_refl _, Nat.le_refl _⟩ dX12_draws_18 (fun c15 => ?_)
    refine r_if_ne (pc := 21) (tgt := 149) S0 dX12_draws_21 (by decide) c15 hf (fun hf => ?_) (fun hf => ?_)
    · have hz := ok_some hf
      refine r_lv [0] rfl ?_
      exact K7 s10.2.2 hz
    · refine r_aload_n (pc := 24) S0 0 dX12_draws_24 rfl rfl ?_
      obtain ⟨e16, h17, hf⟩ := ok_bind hf
      refine r_cV_I (pc := 25) [] S0 hK hX mv_X12_340 (k_X12_canNow h17) (c_X12_canNow l cA D N sx ad T A nx s10.2.2 w0 e16 h17) rfl rfl ⟨by decide, by decide⟩ (Nat.le_of_ble_eq_true rfl) ⟨Nat.le_refl _, Nat.le_refl _⟩ dX12_draws_25 (fun c18 => ?_)
      refine r_iload (pc := 28) S0 2 dX12_draws_28 rfl ?_
      refine r_iconst (pc := 30) S0 dX12_draws_30 ?_
      refine r_ixor (pc := 31) S0 dX12_draws_31 ?_
      refine r_iand (pc := 32) S0 dX12_draws_32 ?_
      refine r_istore (pc := 33) (lv' := [(6, iv (iand e16 (ixor s10.2.1 (-1)))), (0, rv ad w0), (3, jv s10.1), (5, iv s10.2.1)]) S0 dX12_draws_33 (by decide) rfl ?_
      refine r_iload (pc := 35) S0 0 dX12_draws_35 rfl ?_
      refine r_if_ne (pc := 37) (tgt := 42) S0 dX12_draws_37 (by decide) (cn_toInt _) hf (fun hf => ?_) (fun hf => ?_)
      · refine r_ldc2 (pc := 42) (z := 1103515245) S0 kl_X12_464 dX12_draws_42 (by decide) ?_
        refine r_lload_n (pc := 45) S0 2 dX12_draws_45 rfl rfl ?_
        refine r_lmul (pc := 46) S0 dX12_draws_46 ?_
        refine r_ldc2 (pc := 47) (z := 12345) S0 kl_X12_466 dX12_draws_47 (by decide) ?_
        refine r_ladd (pc := 50) S0 dX12_draws_50 ?_
        refine r_ldc2 (pc := 51) (z := 2147483648) S0 kl_X12_468 dX12_draws_51 (by decide) ?_
        refine r_lrem (pc := 54) S0 dX12_draws_54 (clz 2147483648 rfl) hf (fun hf => ?_)
        refine r_lstore_n (pc := 55) (lv' := [(3, jv (ilrm (ila (ilm 1103515245 s10.1) 12345) 2147483648)), (6, iv (iand e16 (ixor s10.2.1 (-1)))), (0, rv ad w0), (5, iv s10.2.1)]) S0 dX12_draws_55 rfl (by decide) rfl ?_
        refine r_lload_n (pc := 56) S0 0 dX12_draws_56 rfl rfl ?_
        refine r_ldc2 (pc := 57) (z := 65536) S0 kl_X12_470 dX12_draws_57 (by decide) ?_
        refine r_ldiv (pc := 60) S0 dX12_draws_60 (clz 65536 rfl) hf (fun hf => ?_)
        refine r_iload (pc := 61) S0 1 dX12_draws_61 rfl ?_
        obtain ⟨e19, h20, hf⟩ := ok_bind hf
        refine r_cS_I (pc := 63) [iv (iand e16 (ixor s10.2.1 (-1)))] S0 hK hX ms_X12_426 (c_X12_sizeOf l cA D N sx ad T A nx s10.2.2 (iand e16 (ixor s10.2.1 (-1))) (cn_toInt _) e19 h20) rfl rfl ⟨by decide, by decide⟩ (Nat.le_of_ble_eq_true rfl) ⟨Nat.le_refl _, Nat.le_refl _⟩ dX12_draws_63 (fun c21 => ?_)
        refine r_i2l (pc := 66) S0 dX12_draws_66 c21 ?_
        refine r_lrem (pc := 67) S0 dX12_draws_67 (cl_cn c21) hf (fun hf => ?_)
        refine r_l2i (pc := 68) S0 dX12_draws_68 (cl_toInt _) ?_
        refine r_istore (pc := 69) (lv' := [(7, iv (wrap (ilrm (ildv (ilrm (ila (ilm 1103515245 s10.1) 12345) 2147483648) 65536) e19))), (3, jv (ilrm (ila (ilm 1103515245 s10.1) 12345) 2147483648)), (6, iv (iand e16 (ixor s10.2.1 (-1)))), (0, rv ad w0), (5, iv s10.2.1)]) S0 dX12_draws_69 (by decide) rfl ?_
        refine r_iconst (pc := 71) S0 dX12_draws_71 ?_
        refine r_istore (pc := 72) (lv' := [(8, iv 0), (7, iv (wrap (ilrm (ildv (ilrm (ila (ilm 1103515245 s10.1) 12345) 2147483648) 65536) e19))), (3, jv (ilrm (ila (ilm 1103515245 s10.1) 12345) 2147483648)), (6, iv (iand e16 (ixor s10.2.1 (-1)))), (0, rv ad w0), (5, iv s10.2.1)]) S0 dX12_draws_72 (by decide) rfl ?_
        refine thn_rule (P := fun v23 => cn v23 → G p l e0 (rmx 7 194) s m args below meth c 0 0 Q cA D N 9 ad T A nx 115 [(0, rv ad w0), (3, jv (ilrm (ila (ilm 1103515245 s10.1) 12345) 2147483648)), (5, iv s10.2.1), (8, iv v23)] [] s10.2.2) hf (fun v23 hf c24 => ?_) (fun K22 hf => ?_)
        · refine r_aload_n (pc := 115) S0 0 dX12_draws_115 rfl rfl ?_
          refine r_iload (pc := 116) S0 3 dX12_draws_116 rfl ?_
          refine r_aload_n (pc := 118) S0 0 dX12_draws_118 rfl rfl ?_
          refine r_iload (pc := 119) S0 3 dX12_draws_119 rfl ?_
          obtain ⟨e37, h38, hf⟩ := ok_bind hf
          refine r_cV_I (pc := 121) [iv v23] S0 hK hX mv_X12_328 (k_X12_stampsIn h38) (c_X12_stampsIn l cA D N sx ad T A nx s10.2.2 w0 v23 c24 e37 h38) rfl rfl ⟨by decide, by decide⟩ (Nat.le_of_ble_eq_true rfl) ⟨Nat.le_refl _, Nat.le_refl _⟩ dX12_draws_121 (fun c39 => ?_)
          obtain ⟨e40, h41, hf⟩ := ok_bind hf
          refine r_cV_V (pc := 124) [iv v23, iv e37] S0 hK hX mv_X12_331 (k_X12_goesTo h41) (c_X12_goesTo l cA D N sx ad T A nx s10.2.2 w0 v23 e37 c24 c39 e40 h41) rfl rfl ⟨by decide, by decide⟩ (Nat.le_of_ble_eq_true rfl) ⟨Nat.le_refl _, Nat.le_refl _⟩ dX12_draws_124 ?_
          refine r_iload (pc := 127) S0 2 dX12_draws_127 rfl ?_
          refine r_iconst (pc := 129) S0 dX12_draws_129 ?_
          refine r_iload (pc := 130) S0 3 dX12_draws_130 rfl ?_
          refine r_ishl (pc := 132) S0 dX12_draws_132 ?_
          refine r_ior (pc := 133) S0 dX12_draws_133 ?_
          refine r_istore (pc := 134) (lv' := [(5, iv (ior s10.2.1 (ishl 1 v23))), (0, rv ad w0), (3, jv (ilrm (ila (ilm 1103515245 s10.1) 12345) 2147483648)), (8, iv v23)]) S0 dX12_draws_134 (by decide) rfl ?_
          refine r_aload_n (pc := 136) S0 1 dX12_draws_136 rfl rfl ?_
          refine r_dup (pc := 137) S0 dX12_draws_137 rfl ?_
          refine r_getI (pc := 138) S0 hK fl_X12_461 dX12_draws_138 hf (fun x42 c43 hf => ?_)
          refine r_iconst (pc := 141) S0 dX12_draws_141 ?_
          refine r_iadd (pc := 142) S0 dX12_draws_142 ?_
          refine r_putI (pc := 143) S0 hK fl_X12_461 rfl rfl (cn_wrap _) dX12_draws_143 hf (fun I44 hf => ?_)
          refine r_goto (pc := 146) (tgt := 17) S0 dX12_draws_146 (by decide) ?_
          have hz := ok_some hf
          refine r_lv [1, 2, 0] rfl ?_
          exact ih9 (ilrm (ila (ilm 1103515245 s10.1) 12345) 2147483648, ior s10.2.1 (ishl 1 v23), I44) hz (cl_toInt _) (cn_toInt _)
        · refine r_lv [4, 2, 5, 3, 1, 0] rfl ?_
          refine it_ind (P := fun s26 => cn s26.1 → cn s26.2 → G p l e0 (rmx 7 194) s m args below meth c 0 0 Q cA D N 9 ad T A nx 74 [(0, rv ad w0), (3, jv (ilrm (ila (ilm 1103515245 s10.1) 12345) 2147483648)), (5, iv s10.2.1), (6, iv (iand e16 (ixor s10.2.1 (-1)))), (7, iv s26.1), (8, iv s26.2)] [] s10.2.2) (fun n0 s26 ih25 hf c27 c28 => ?_) FU (wrap (ilrm (ildv (ilrm (ila (ilm 1103515245 s10.1) 12345) 2147483648) 65536) e19), 0) hf (cn_wrap _) (cnz 0 rfl)
          refine r_iload (pc := 74) S0 4 dX12_draws_74 rfl ?_
          refine thn_rule (P := fun v30 => G p l e0 (rmx 7 194) s m args below meth c 0 0 Q cA D N 9 ad T A nx 89 [(0, rv ad w0), (3, jv (ilrm (ila (ilm 1103515245 s10.1) 12345) 2147483648)), (5, iv s10.2.1), (6, iv (iand e16 (ixor s10.2.1 (-1)))), (7, iv s26.1), (8, iv s26.2)] [] s10.2.2) hf (fun v30 hf => ?_) (fun K29 hf => ?_)
          · refine r_iload (pc := 89) S0 4 dX12_draws_89 rfl ?_
            refine r_iload (pc := 91) S0 3 dX12_draws_91 rfl ?_
            refine r_iload (pc := 93) S0 5 dX12_draws_93 rfl ?_
            obtain ⟨e34, h35, hf⟩ := ok_bind hf
            refine r_cS_I (pc := 95) [iv (iand e16 (ixor s10.2.1 (-1))), iv s26.2] S0 hK hX ms_X12_278 (c_X12_isBit l cA D N sx ad T A nx s10.2.2 (iand e16 (ixor s10.2.1 (-1))) s26.2 (cn_toInt _) c28 e34 h35) rfl rfl ⟨by decide, by decide⟩ (Nat.le_of_ble_eq_true rfl) ⟨Nat.le_refl _, Nat.le_refl _⟩ dX12_draws_95 (fun c36 => ?_)
            refine r_if_eq (pc := 98) (tgt := 105) S0 dX12_draws_98 (by decide) c36 hf (fun hf => ?_) (fun hf => ?_)
            · refine r_iconst (pc := 105) S0 dX12_draws_105 ?_
              refine r_isub (pc := 106) S0 dX12_draws_106 ?_
              refine r_istore (pc := 107) (lv' := [(7, iv (isb s26.1 0)), (0, rv ad w0), (3, jv (ilrm (ila (ilm 1103515245 s10.1) 12345) 2147483648)), (5, iv s10.2.1), (6, iv (iand e16 (ixor s10.2.1 (-1)))), (8, iv s26.2)]) S0 dX12_draws_107 (by decide) rfl ?_
              refine r_iinc (pc := 109) (lv' := [(8, iv (ia s26.2 1)), (7, iv (isb s26.1 0)), (0, rv ad w0), (3, jv (ilrm (ila (ilm 1103515245 s10.1) 12345) 2147483648)), (5, iv s10.2.1), (6, iv (iand e16 (ixor s10.2.1 (-1))))]) S0 5 dX12_draws_109 rfl (by decide) rfl ?_
              refine r_goto (pc := 112) (tgt := 74) S0 dX12_draws_112 (by decide) ?_
              have hz := ok_some hf
              refine r_lv [2, 3, 4, 5, 1, 0] rfl ?_
              exact ih25 (isb s26.1 0, ia s26.2 1) hz (cn_wrap _) (cn_wrap _)
            · refine r_iconst (pc := 101) S0 dX12_draws_101 ?_
              refine r_goto (pc := 102) (tgt := 106) S0 dX12_draws_102 (by decide) ?_
              refine r_isub (pc := 106) S0 dX12_draws_106 ?_
              refine r_istore (pc := 107) (lv' := [(7, iv (isb s26.1 1)), (0, rv ad w0), (3, jv (ilrm (ila (ilm 1103515245 s10.1) 12345) 2147483648)), (5, iv s10.2.1), (6, iv (iand e16 (ixor s10.2.1 (-1)))), (8, iv s26.2)]) S0 dX12_draws_107 (by decide) rfl ?_
              refine r_iinc (pc := 109) (lv' := [(8, iv (ia s26.2 1)), (7, iv (isb s26.1 1)), (0, rv ad w0), (3, jv (ilrm (ila (ilm 1103515245 s10.1) 12345) 2147483648)), (5, iv s10.2.1), (6, iv (iand e16 (ixor s10.2.1 (-1))))]) S0 5 dX12_draws_109 rfl (by decide) rfl ?_
              refine r_goto (pc := 112) (tgt := 74) S0 dX12_draws_112 (by decide) ?_
              have hz := ok_some hf
              refine r_lv [2, 3, 4, 5, 1, 0] rfl ?_
              exact ih25 (isb s26.1 1, ia s26.2 1) hz (cn_wrap _) (cn_wrap _)
          · refine r_if_gt (pc := 76) (tgt := 89) S0 dX12_draws_76 (by decide) c27 hf (fun hf => ?_) (fun hf => ?_)
            · have hz := ok_some hf
              refine r_lv [0, 1, 2, 3, 4, 5] rfl ?_
              exact K29 () hz
            · refine r_iload (pc := 79) S0 3 dX12_draws_79 rfl ?_
              refine r_iload (pc := 81) S0 5 dX12_draws_81 rfl ?_
              obtain ⟨e31, h32, hf⟩ := ok_bind hf
              refine r_cS_I (pc := 83) [iv (iand e16 (ixor s10.2.1 (-1))), iv s26.2] S0 hK hX ms_X12_278 (c_X12_isBit l cA D N sx ad T A nx s10.2.2 (iand e16 (ixor s10.2.1 (-1))) s26.2 (cn_toInt _) c28 e31 h32) rfl rfl ⟨by decide, by decide⟩ (Nat.le_of_ble_eq_true rfl) ⟨Nat.le_refl _, Nat.le_refl _⟩ dX12_draws_83 (fun c33 => ?_)
              refine r_if_ne (pc := 86) (tgt := 115) S0 dX12_draws_86 (by decide) c33 hf (fun hf => ?_) (fun hf => ?_)
              · have hz := ok_some hf
                refine r_lv [0, 1, 2, 5] rfl ?_
                exact K22 s26.2 hz c28
              · have hz := ok_some hf
                refine r_lv [0, 1, 2, 3, 4, 5] rfl ?_
                exact K29 () hz
      · refine r_iconst (pc := 40) S0 dX12_draws_40 ?_
        have hz := ok_some hf
        have hz : ((-1), s10.2.2) = e := hz
        subst hQ
        subst hz
        exact r_iret (pc := 41) S0 hr hlk (cnz (-1) rfl) dX12_draws_41
