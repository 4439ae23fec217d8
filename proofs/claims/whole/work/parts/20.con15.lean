/-! Contracts, laid by wip/gen/gen.py. -/
set_option maxHeartbeats 4000000 in
set_option maxRecDepth 100000 in
theorem c_X12_waits (l : Launch) (cA : Nat → ClassId) (D : va_G) (N : Nat) (sx : Sx) (ad : Nat → Nat) (T : Knd) (A : Rfs) (nx : Nat) (I : Mem) (w0 : Nat) (a1 : Int) (ca1 : cn a1) (e : (Int × Mem)) (h : f_X12_waits T A w0 a1 I = some e) : CtI l yX12_waits cX12_waits 2 (some .int) 7 193 cA D N sx ad T A nx [rv ad w0, iv a1] I e.2 e.1 := by
  refine met_of (lv0 := [(0, rv ad w0), (1, iv a1)]) (by decide) (Nat.le_of_ble_eq_true rfl) rfl (fun p e0 s m args below meth c S0 hK hX hr hlk Q hQ => ?_)
  have hf : OK (f_X12_waits T A w0 a1 I) (fun z => z = e) := ⟨e, h, rfl⟩
  unfold f_X12_waits at hf
  obtain ⟨hw0, hf⟩ := ok_grd hf
  refine r_aload_n (pc := 0) S0 0 dX12_waits_0 rfl rfl ?_
  refine r_iconst (pc := 1) S0 dX12_waits_1 ?_
  refine r_putI (pc := 2) S0 hK fl_X12_89 rfl rfl (cnz 0 rfl) dX12_waits_2 hf (fun I1 hf => ?_)
  refine r_aload_n (pc := 5) S0 0 dX12_waits_5 rfl rfl ?_
  obtain ⟨e2, h3, hf⟩ := ok_bind hf
  refine r_cV_I (pc := 6) [] S0 hK hX mv_X12_267 (k_X12_isOffice h3) (c_X12_isOffice l cA D N sx ad T A nx I1 w0 e2 h3) rfl rfl ⟨by decide, by decide⟩ (Nat.le_of_ble_eq_true rfl) ⟨Nat.le_refl _, Nat.le_refl _⟩ dX12_waits_6 (fun c4 => ?_)
  refine r_if_eq (pc := 9) (tgt := 24) S0 dX12_waits_9 (by decide) c4 hf (fun hf => ?_) (fun hf => ?_)
  · refine r_bipush (pc := 24) S0 dX12_waits_24 (by decide) ?_
    have hz := ok_some hf
    have hz : ((-2), I1) = e := hz
    subst hQ
    subst hz
    exact r_iret (pc := 26) S0 hr hlk (cnz (-2) rfl) dX12_waits_26
  · refine r_iload_n (pc := 12) S0 1 dX12_waits_12 rfl rfl ?_
    refine r_i2l (pc := 13) S0 dX12_waits_13 ca1 ?_
    refine r_lconst (pc := 14) (v := 1) S0 dX12_waits_14 rfl ?_
    refine r_ldc2 (pc := 15) (z := 99) S0 kl_X12_343 dX12_waits_15 (by decide) ?_
    obtain ⟨e5, h6, hf⟩ := ok_bind hf
    refine r_cS_I (pc := 18) [jv a1, jv 1, jv 99] S0 hK hX ms_X12_94 (c_X12_in l cA D N sx ad T A nx I1 a1 1 99 (cl_cn ca1) (clz 1 rfl) (clz 99 rfl) e5 h6) rfl rfl ⟨by decide, by decide⟩ (Nat.le_of_ble_eq_true rfl) ⟨Nat.le_refl _, Nat.le_refl _⟩ dX12_waits_18 (fun c7 => ?_)
    refine r_if_ne (pc := 21) (tgt := 27) S0 dX12_waits_21 (by decide) c7 hf (fun hf => ?_) (fun hf => ?_)
    · refine r_aload_n (pc := 27) S0 0 dX12_waits_27 rfl rfl ?_
      obtain ⟨e8, h9, hf⟩ := ok_bind hf
      refine r_cV_V (pc := 28) [] S0 hK hX mv_X12_334 (k_X12_lays h9) (c_X12_lays l cA D N sx ad T A nx I1 w0 e8 h9) rfl rfl ⟨by decide, by decide⟩ (Nat.le_of_ble_eq_true rfl) ⟨Nat.le_refl _, Nat.le_refl _⟩ dX12_waits_28 ?_
      refine r_aload_n (pc := 31) S0 0 dX12_waits_31 rfl rfl ?_
      refine r_getI (pc := 32) S0 hK fl_X12_300 dX12_waits_32 hf (fun x10 c11 hf => ?_)
      refine r_iload_n (pc := 35) S0 1 dX12_waits_35 rfl rfl ?_
      refine r_iadd (pc := 36) S0 dX12_waits_36 ?_
      refine r_sipush (pc := 37) S0 dX12_waits_37 (by decide) ?_
      refine r_icmp_gt (pc := 40) (tgt := 54) S0 dX12_waits_40 (by decide) (cn_wrap _) (cnz 400 rfl) hf (fun hf => ?_) (fun hf => ?_)
      · refine r_bipush (pc := 54) S0 dX12_waits_54 (by decide) ?_
        have hz := ok_some hf
        have hz : ((-5), e8) = e := hz
        subst hQ
        subst hz
        exact r_iret (pc := 56) S0 hr hlk (cnz (-5) rfl) dX12_waits_56
      · refine r_aload_n (pc := 43) S0 0 dX12_waits_43 rfl rfl ?_
        refine r_getR (pc := 44) S0 hK fl_X12_34 dX12_waits_44 hf (fun x12 hf => ?_)
        refine r_iconst (pc := 47) S0 dX12_waits_47 ?_
        refine r_iald (pc := 48) S0 hK dX12_waits_48 (cnz 5 rfl) hf (fun x13 c14 hf => ?_)
        refine r_bipush (pc := 49) S0 dX12_waits_49 (by decide) ?_
        refine r_icmp_ne (pc := 51) (tgt := 57) S0 dX12_waits_51 (by decide) c14 (cnz 40 rfl) hf (fun hf => ?_) (fun hf => ?_)
        · refine r_aload_n (pc := 57) S0 0 dX12_waits_57 rfl rfl ?_
          refine r_getR (pc := 58) S0 hK fl_X12_49 dX12_waits_58 hf (fun x15 hf => ?_)
          refine r_aload_n (pc := 61) S0 0 dX12_waits_61 rfl rfl ?_
          refine r_getR (pc := 62) S0 hK fl_X12_34 dX12_waits_62 hf (fun x16 hf => ?_)
          refine r_iconst (pc := 65) S0 dX12_waits_65 ?_
          refine r_iald (pc := 66) S0 hK dX12_waits_66 (cnz 5 rfl) hf (fun x17 c18 hf => ?_)
          refine r_bipush (pc := 67) S0 dX12_waits_67 (by decide) ?_
          refine r_iload_n (pc := 69) S0 1 dX12_waits_69 rfl rfl ?_
          refine r_iadd (pc := 70) S0 dX12_waits_70 ?_
          refine r_iast (pc := 71) S0 hK dX12_waits_71 c18 (cn_wrap _) hf (fun I19 hf => ?_)
          refine r_aload_n (pc := 72) S0 0 dX12_waits_72 rfl rfl ?_
          refine r_getR (pc := 73) S0 hK fl_X12_34 dX12_waits_73 hf (fun x20 hf => ?_)
          refine r_iconst (pc := 76) S0 dX12_waits_76 ?_
          refine r_dup2 (pc := 77) S0 dX12_waits_77 rfl rfl ?_
          refine r_iald (pc := 78) S0 hK dX12_waits_78 (cnz 5 rfl) hf (fun x21 c22 hf => ?_)
          refine r_iconst (pc := 79) S0 dX12_waits_79 ?_
          refine r_iadd (pc := 80) S0 dX12_waits_80 ?_
          refine r_iast (pc := 81) S0 hK dX12_waits_81 (cnz 5 rfl) (cn_wrap _) hf (fun I23 hf => ?_)
          refine r_aload_n (pc := 82) S0 0 dX12_waits_82 rfl rfl ?_
          refine r_getI (pc := 83) S0 hK fl_X12_300 dX12_waits_83 hf (fun x24 c25 hf => ?_)
          refine r_iload_n (pc := 86) S0 1 dX12_waits_86 rfl rfl ?_
          refine r_iadd (pc := 87) S0 dX12_waits_87 ?_
          have hz := ok_some hf
          have hz : (ia x24 a1, I23) = e := hz
          subst hQ
          subst hz
          exact r_iret (pc := 88) S0 hr hlk (cn_wrap _) dX12_waits_88
        · refine r_bipush (pc := 54) S0 dX12_waits_54 (by decide) ?_
          have hz := ok_some hf
          have hz : ((-5), e8) = e := hz
          subst hQ
          subst hz
          exact r_iret (pc := 56) S0 hr hlk (cnz (-5) rfl) dX12_waits_56
    · refine r_bipush (pc := 24) S0 dX12_waits_24 (by decide) ?_
      have hz := ok_some hf
      have hz : ((-2), I1) = e := hz
      subst hQ
      subst hz
      exact r_iret (pc := 26) S0 hr hlk (cnz (-2) rfl) dX12_waits_26

set_option maxHeartbeats 4000000 in
set_option maxRecDepth 100000 in
theorem c_X12_undo (l : Launch) (cA : Nat → ClassId) (D : va_G) (N : Nat) (sx : Sx) (ad : Nat → Nat) (T : Knd) (A : Rfs) (nx : Nat) (I : Mem) (w0 : Nat)  (e : (Int × Mem)) (h : f_X12_undo T A w0 I = some e) : CtI l yX12_undo cX12_undo 1 (some .int) 2 80 cA D N sx ad T A nx [rv ad w0] I e.2 e.1 := by
  refine met_of (lv0 := [(0, rv ad w0)]) (by decide) (Nat.le_of_ble_eq_true rfl) rfl (fun p e0 s m args below meth c S0 hK hX hr hlk Q hQ => ?_)
  have hf : OK (f_X12_undo T A w0 I) (fun z => z = e) := ⟨e, h, rfl⟩
  unfold f_X12_undo at hf
  obtain ⟨hw0, hf⟩ := ok_grd hf
  refine r_aload_n (pc := 0) S0 0 dX12_undo_0 rfl rfl ?_
  refine r_iconst (pc := 1) S0 dX12_undo_1 ?_
  refine r_putI (pc := 2) S0 hK fl_X12_89 rfl rfl (cnz 0 rfl) dX12_undo_2 hf (fun I1 hf => ?_)
  refine r_aload_n (pc := 5) S0 0 dX12_undo_5 rfl rfl ?_
  obtain ⟨e2, h3, hf⟩ := ok_bind hf
  refine r_cV_I (pc := 6) [] S0 hK hX mv_X12_267 (k_X12_isOffice h3) (c_X12_isOffice l cA D N sx ad T A nx I1 w0 e2 h3) rfl rfl ⟨by decide, by decide⟩ (Nat.le_of_ble_eq_true rfl) ⟨Nat.le_refl _, Nat.le_refl _⟩ dX12_undo_6 (fun c4 => ?_)
  refine r_if_ne (pc := 9) (tgt := 15) S0 dX12_undo_9 (by decide) c4 hf (fun hf => ?_) (fun hf => ?_)
  · refine r_aload_n (pc := 15) S0 0 dX12_undo_15 rfl rfl ?_
    refine r_getR (pc := 16) S0 hK fl_X12_34 dX12_undo_16 hf (fun x5 hf => ?_)
    refine r_iconst (pc := 19) S0 dX12_undo_19 ?_
    refine r_iald (pc := 20) S0 hK dX12_undo_20 (cnz 5 rfl) hf (fun x6 c7 hf => ?_)
    refine r_if_ne (pc := 21) (tgt := 27) S0 dX12_undo_21 (by decide) c7 hf (fun hf => ?_) (fun hf => ?_)
    · refine r_aload_n (pc := 27) S0 0 dX12_undo_27 rfl rfl ?_
      refine r_getR (pc := 28) S0 hK fl_X12_34 dX12_undo_28 hf (fun x8 hf => ?_)
      refine r_iconst (pc := 31) S0 dX12_undo_31 ?_
      refine r_dup2 (pc := 32) S0 dX12_undo_32 rfl rfl ?_
      refine r_iald (pc := 33) S0 hK dX12_undo_33 (cnz 5 rfl) hf (fun x9 c10 hf => ?_)
      refine r_iconst (pc := 34) S0 dX12_undo_34 ?_
      refine r_isub (pc := 35) S0 dX12_undo_35 ?_
      refine r_iast (pc := 36) S0 hK dX12_undo_36 (cnz 5 rfl) (cn_wrap _) hf (fun I11 hf => ?_)
      refine r_aload_n (pc := 37) S0 0 dX12_undo_37 rfl rfl ?_
      refine r_getR (pc := 38) S0 hK fl_X12_34 dX12_undo_38 hf (fun x12 hf => ?_)
      refine r_iconst (pc := 41) S0 dX12_undo_41 ?_
      refine r_iald (pc := 42) S0 hK dX12_undo_42 (cnz 5 rfl) hf (fun x13 c14 hf => ?_)
      have hz := ok_some hf
      have hz : (x13, I11) = e := hz
      subst hQ
      subst hz
      exact r_iret (pc := 43) S0 hr hlk c14 dX12_undo_43
    · refine r_bipush (pc := 24) S0 dX12_undo_24 (by decide) ?_
      have hz := ok_some hf
      have hz : ((-5), I1) = e := hz
      subst hQ
      subst hz
      exact r_iret (pc := 26) S0 hr hlk (cnz (-5) rfl) dX12_undo_26
  · refine r_bipush (pc := 12) S0 dX12_undo_12 (by decide) ?_
    have hz := ok_some hf
    have hz : ((-2), I1) = e := hz
    subst hQ
    subst hz
    exact r_iret (pc := 14) S0 hr hlk (cnz (-2) rfl) dX12_undo_14

set_option maxHeartbeats 4000000 in
set_option maxRecDepth 100000 in
theorem c_X12_anew (l : Launch) (cA : Nat → ClassId) (D : va_G) (N : Nat) (sx : Sx) (ad : Nat → Nat) (T : Knd) (A : Rfs) (nx : Nat) (I : Mem) (w0 : Nat)  (e : (Int × Mem)) (h : f_X12_anew T A w0 I = some e) : CtI l yX12_anew cX12_anew 2 (some .int) 2 80 cA D N sx ad T A nx [rv ad w0] I e.2 e.1 := by
  refine met_of (lv0 := [(0, rv ad w0)]) (by decide) (Nat.le_of_ble_eq_true rfl) rfl (fun p e0 s m args below meth c S0 hK hX hr hlk Q hQ => ?_)
  have hf : OK (f_X12_anew T A w0 I) (fun z => z = e) := ⟨e, h, rfl⟩
  unfold f_X12_anew at hf
  obtain ⟨hw0, hf⟩ := ok_grd hf
  refine r_aload_n (pc := 0) S0 0 dX12_anew_0 rfl rfl ?_
  refine r_iconst (pc := 1) S0 dX12_anew_1 ?_
  refine r_putI (pc := 2) S0 hK fl_X12_89 rfl rfl (cnz 0 rfl) dX12_anew_2 hf (fun I1 hf => ?_)
  refine r_aload_n (pc := 5) S0 0 dX12_anew_5 rfl rfl ?_
  obtain ⟨e2, h3, hf⟩ := ok_bind hf
  refine r_cV_I (pc := 6) [] S0 hK hX mv_X12_267 (k_X12_isOffice h3) (c_X12_isOffice l cA D N sx ad T A nx I1 w0 e2 h3) rfl rfl ⟨by decide, by decide⟩ (Nat.le_of_ble_eq_true rfl) ⟨Nat.le_refl _, Nat.le_refl _⟩ dX12_anew_6 (fun c4 => ?_)
  refine r_if_ne (pc := 9) (tgt := 15) S0 dX12_anew_9 (by decide) c4 hf (fun hf => ?_) (fun hf => ?_)
  · refine r_aload_n (pc := 15) S0 0 dX12_anew_15 rfl rfl ?_
    refine r_getR (pc := 16) S0 hK fl_X12_34 dX12_anew_16 hf (fun x5 hf => ?_)
    refine r_iconst (pc := 19) S0 dX12_anew_19 ?_
    refine r_iald (pc := 20) S0 hK dX12_anew_20 (cnz 5 rfl) hf (fun x6 c7 hf => ?_)
    refine r_istore_n (pc := 21) (lv' := [(1, iv x6), (0, rv ad w0)]) S0 dX12_anew_21 rfl (by decide) rfl ?_
    refine r_aload_n (pc := 22) S0 1 dX12_anew_22 rfl rfl ?_
    refine r_getR (pc := 23) S0 hK fl_X12_34 dX12_anew_23 hf (fun x8 hf => ?_)
    refine r_iconst (pc := 26) S0 dX12_anew_26 ?_
    refine r_iconst (pc := 27) S0 dX12_anew_27 ?_
    refine r_iast (pc := 28) S0 hK dX12_anew_28 (cnz 5 rfl) (cnz 0 rfl) hf (fun I9 hf => ?_)
    refine r_iload_n (pc := 29) S0 0 dX12_anew_29 rfl rfl ?_
    have hz := ok_some hf
    have hz : (x6, I9) = e := hz
    subst hQ
    subst hz
    exact r_iret (pc := 30) S0 hr hlk c7 dX12_anew_30
  · refine r_bipush (pc := 12) S0 dX12_anew_12 (by decide) ?_
    have hz := ok_some hf
    have hz : ((-2), I1) = e := hz
    subst hQ
    subst hz
    exact r_iret (pc := 14) S0 hr hlk (cnz (-2) rfl) dX12_anew_14

set_option maxHeartbeats 4000000 in
set_option maxRecDepth 100000 in
theorem c_X12_led (l : Launch) (cA : Nat → ClassId) (D : va_G) (N : Nat) (sx : Sx) (ad : Nat → Nat) (T : Knd) (A : Rfs) (nx : Nat) (I : Mem) (w0 : Nat) (a1 : Int) (ca1 : cn a1) (e : (Int × Mem)) (h : f_X12_led T A w0 a1 I = some e) : CtI l yX12_led cX12_led 2 (some .int) 2 85 cA D N sx ad T A nx [rv ad w0, iv a1] I e.2 e.1 := by
  refine met_of (lv0 := [(0, rv ad w0), (1, iv a1)]) (by decide) (Nat.le_of_ble_eq_true rfl) rfl (fun p e0 s m args below meth c S0 hK hX hr hlk Q hQ => ?_)
  have hf : OK (f_X12_led T A w0 a1 I) (fun z => z = e) := ⟨e, h, rfl⟩
  unfold f_X12_led at hf
  obtain ⟨hw0, hf⟩ := ok_grd hf
  refine r_aload_n (pc := 0) S0 0 dX12_led_0 rfl rfl ?_
  refine r_iconst (pc := 1) S0 dX12_led_1 ?_
  refine r_putI (pc := 2) S0 hK fl_X12_89 rfl rfl (cnz 0 rfl) dX12_led_2 hf (fun I1 hf => ?_)
  refine r_aload_n (pc := 5) S0 0 dX12_led_5 rfl rfl ?_
  obtain ⟨e2, h3, hf⟩ := ok_bind hf
  refine r_cV_I (pc := 6) [] S0 hK hX mv_X12_267 (k_X12_isOffice h3) (c_X12_isOffice l cA D N sx ad T A nx I1 w0 e2 h3) rfl rfl ⟨by decide, by decide⟩ (Nat.le_of_ble_eq_true rfl) ⟨Nat.le_refl _, Nat.le_refl _⟩ dX12_led_6 (fun c4 => ?_)
  refine r_if_ne (pc := 9) (tgt := 17) S0 dX12_led_9 (by decide) c4 hf (fun hf => ?_) (fun hf => ?_)
  · refine r_iload_n (pc := 17) S0 1 dX12_led_17 rfl rfl ?_
    refine r_i2l (pc := 18) S0 dX12_led_18 ca1 ?_
    refine r_lconst (pc := 19) (v := 0) S0 dX12_led_19 rfl ?_
    refine r_aload_n (pc := 20) S0 0 dX12_led_20 rfl rfl ?_
    refine r_getR (pc := 21) S0 hK fl_X12_34 dX12_led_21 hf (fun x5 hf => ?_)
    refine r_iconst (pc := 24) S0 dX12_led_24 ?_
    refine r_iald (pc := 25) S0 hK dX12_led_25 (cnz 5 rfl) hf (fun x6 c7 hf => ?_)
    refine r_iconst (pc := 26) S0 dX12_led_26 ?_
    refine r_isub (pc := 27) S0 dX12_led_27 ?_
    refine r_i2l (pc := 28) S0 dX12_led_28 (cn_wrap _) ?_
    obtain ⟨e8, h9, hf⟩ := ok_bind hf
    refine r_cS_I (pc := 29) [jv a1, jv 0, jv (isb x6 1)] S0 hK hX ms_X12_94 (c_X12_in l cA D N sx ad T A nx I1 a1 0 (isb x6 1) (cl_cn ca1) (clz 0 rfl) (cl_cn (cn_wrap _)) e8 h9) rfl rfl ⟨by decide, by decide⟩ (Nat.le_of_ble_eq_true rfl) ⟨Nat.le_refl _, Nat.le_refl _⟩ dX12_led_29 (fun c10 => ?_)
    refine r_if_eq (pc := 32) (tgt := 44) S0 dX12_led_32 (by decide) c10 hf (fun hf => ?_) (fun hf => ?_)
    · refine r_iconst (pc := 44) S0 dX12_led_44 ?_
      have hz := ok_some hf
      have hz : ((-1), I1) = e := hz
      subst hQ
      subst hz
      exact r_iret (pc := 45) S0 hr hlk (cnz (-1) rfl) dX12_led_45
    · refine r_aload_n (pc := 35) S0 0 dX12_led_35 rfl rfl ?_
      refine r_getR (pc := 36) S0 hK fl_X12_49 dX12_led_36 hf (fun x11 hf => ?_)
      refine r_iload_n (pc := 39) S0 1 dX12_led_39 rfl rfl ?_
      refine r_iald (pc := 40) S0 hK dX12_led_40 ca1 hf (fun x12 c13 hf => ?_)
      refine r_goto (pc := 41) (tgt := 45) S0 dX12_led_41 (by decide) ?_
      have hz := ok_some hf
      have hz : (x12, I1) = e := hz
      subst hQ
      subst hz
      exact r_iret (pc := 45) S0 hr hlk c13 dX12_led_45
  · refine r_bipush (pc := 12) S0 dX12_led_12 (by decide) ?_
    refine r_goto (pc := 14) (tgt := 45) S0 dX12_led_14 (by decide) ?_
    have hz := ok_some hf
    have hz : ((-2), I1) = e := hz
    subst hQ
    subst hz
    exact r_iret (pc := 45) S0 hr hlk (cnz (-2) rfl) dX12_led_45

set_option maxHeartbeats 4000000 in
set_option maxRecDepth 100000 in
theorem c_X12_shoes (l : Launch) (cA : Nat → ClassId) (D : va_G) (N : Nat) (sx : Sx) (ad : Nat → Nat) (T : Knd) (A : Rfs) (nx : Nat) (I : Mem) (w0 : Nat)  (e : (Int × Mem)) (h : f_X12_shoes T A w0 I = some e) : CtI l yX12_shoes cX12_shoes 1 (some .int) 7 193 cA D N sx ad T A nx [rv ad w0] I e.2 e.1 := by
  refine met_of (lv0 := [(0, rv ad w0)]) (by decide) (Nat.le_of_ble_eq_true rfl) rfl (fun p e0 s m args below meth c S0 hK hX hr hlk Q hQ => ?_)
  have hf : OK (f_X12_shoes T A w0 I) (fun z => z = e) := ⟨e, h, rfl⟩
  unfold f_X12_shoes at hf
  obtain ⟨hw0, hf⟩ := ok_grd hf
  refine r_aload_n (pc := 0) S0 0 dX12_shoes_0 rfl rfl ?_
  refine r_iconst (pc := 1) S0 dX12_shoes_1 ?_
  refine r_putI (pc := 2) S0 hK fl_X12_89 rfl rfl (cnz 0 rfl) dX12_shoes_2 hf (fun I1 hf => ?_)
  refine r_aload_n (pc := 5) S0 0 dX12_shoes_5 rfl rfl ?_
  obtain ⟨e2, h3, hf⟩ := ok_bind hf
  refine r_cV_I (pc := 6) [] S0 hK hX mv_X12_267 (k_X12_isOffice h3) (c_X12_isOffice l cA D N sx ad T A nx I1 w0 e2 h3) rfl rfl ⟨by decide, by decide⟩ (Nat.le_of_ble_eq_true rfl) ⟨Nat.le_refl _, Nat.le_refl _⟩ dX12_shoes_6 (fun c4 => ?_)
  refine r_if_ne (pc := 9) (tgt := 15) S0 dX12_shoes_9 (by decide) c4 hf (fun hf => ?_) (fun hf => ?_)
  · refine r_aload_n (pc := 15) S0 0 dX12_shoes_15 rfl rfl ?_
    obtain ⟨e5, h6, hf⟩ := ok_bind hf
    refine r_cV_V (pc := 16) [] S0 hK hX mv_X12_334 (k_X12_lays h6) (c_X12_lays l cA D N sx ad T A nx I1 w0 e5 h6) rfl rfl ⟨by decide, by decide⟩ (Nat.le_of_ble_eq_true rfl) ⟨Nat.le_refl _, Nat.le_refl _⟩ dX12_shoes_16 ?_
    refine r_aload_n (pc := 19) S0 0 dX12_shoes_19 rfl rfl ?_
    refine r_getI (pc := 20) S0 hK fl_X12_306 dX12_shoes_20 hf (fun x7 c8 hf => ?_)
    have hz := ok_some hf
    have hz : (x7, e5) = e := hz
    subst hQ
    subst hz
    exact r_iret (pc := 23) S0 hr hlk c8 dX12_shoes_23
  · refine r_bipush (pc := 12) S0 dX12_shoes_12 (by decide) ?_
    have hz := ok_some hf
    have hz : ((-2), I1) = e := hz
    subst hQ
    subst hz
    exact r_iret (pc := 14) S0 hr hlk (cnz (-2) rfl) dX12_shoes_14

set_option maxHeartbeats 4000000 in
set_option maxRecDepth 100000 in
theorem c_X12_paid (l : Launch) (cA : Nat → ClassId) (D : va_G) (N : Nat) (sx : Sx) (ad : Nat → Nat) (T : Knd) (A : Rfs) (nx : Nat) (I : Mem) (w0 : Nat)  (e : (Int × Mem)) (h : f_X12_paid T A w0 I = some e) : CtI l yX12_paid cX12_paid 1 (some .int) 7 193 cA D N sx ad T A nx [rv ad w0] I e.2 e.1 := by
  refine met_of (lv0 := [(0, rv ad w0)]) (by decide) (Nat.le_of_ble_eq_true rfl) rfl (fun p e0 s m args below meth c S0 hK hX hr hlk Q hQ => ?_)
  have hf : OK (f_X12_paid T A w0 I) (fun z => z = e) := ⟨e, h, rfl⟩
  unfold f_X12_paid at hf
  obtain ⟨hw0, hf⟩ := ok_grd hf
  refine r_aload_n (pc := 0) S0 0 dX12_paid_0 rfl rfl ?_
  refine r_iconst (pc := 1) S0 dX12_paid_1 ?_
  refine r_putI (pc := 2) S0 hK fl_X12_89 rfl rfl (cnz 0 rfl) dX12_paid_2 hf (fun I1 hf => ?_)
  refine r_aload_n (pc := 5) S0 0 dX12_paid_5 rfl rfl ?_
  obtain ⟨e2, h3, hf⟩ := ok_bind hf
  refine r_cV_I (pc := 6) [] S0 hK hX mv_X12_267 (k_X12_isOffice h3) (c_X12_isOffice l cA D N sx ad T A nx I1 w0 e2 h3) rfl rfl ⟨by decide, by decide⟩ (Nat.le_of_ble_eq_true rfl) ⟨Nat.le_refl _, Nat.le_refl _⟩ dX12_paid_6 (fun c4 => ?_)
  refine r_if_ne (pc := 9) (tgt := 15) S0 dX12_paid_9 (by decide) c4 hf (fun hf => ?_) (fun hf => ?_)
  · refine r_aload_n (pc := 15) S0 0 dX12_paid_15 rfl rfl ?_
    obtain ⟨e5, h6, hf⟩ := ok_bind hf
    refine r_cV_V (pc := 16) [] S0 hK hX mv_X12_334 (k_X12_lays h6) (c_X12_lays l cA D N sx ad T A nx I1 w0 e5 h6) rfl rfl ⟨by decide, by decide⟩ (Nat.le_of_ble_eq_true rfl) ⟨Nat.le_refl _, Nat.le_refl _⟩ dX12_paid_16 ?_
    refine r_aload_n (pc := 19) S0 0 dX12_paid_19 rfl rfl ?_
    refine r_getI (pc := 20) S0 hK fl_X12_309 dX12_paid_20 hf (fun x7 c8 hf => ?_)
    have hz := ok_some hf
    have hz : (x7, e5) = e := hz
    subst hQ
    subst hz
    exact r_iret (pc := 23) S0 hr hlk c8 dX12_paid_23
  · refine r_bipush (pc := 12) S0 dX12_paid_12 (by decide) ?_
    have hz := ok_some hf
    have hz : ((-2), I1) = e := hz
    subst hQ
    subst hz
    exact r_iret (pc := 14) S0 hr hlk (cnz (-2) rfl) dX12_paid_14

set_option maxHeartbeats 4000000 in
set_option maxRecDepth 100000 in
theorem c_X12_isDone (l : Launch) (cA : Nat → ClassId) (D : va_G) (N : Nat) (sx : Sx) (ad : Nat → Nat) (T : Knd) (A : Rfs) (nx : Nat) (I : Mem) (w0 : Nat)  (e : Int) (h : f_X12_isDone T A w0 I = some e) : CtI l yX12_isDone cX12_isDone 1 (some .boolean) 4 125 cA D N sx ad T A nx [rv ad w0] I I e := by
  refine met_of (lv0 := [(0, rv ad w0)]) (by decide) (Nat.le_of_ble_eq_true rfl) rfl (fun p e0 s m args below meth c S0 hK hX hr hlk Q hQ => ?_)
  have hf : OK (f_X12_isDone T A w0 I) (fun z => z = e) := ⟨e, h, rfl⟩
  unfold f_X12_isDone at hf
  obtain ⟨hw0, hf⟩ := ok_grd hf
  refine r_aload_n (pc := 0) S0 0 dX12_isDone_0 rfl rfl ?_
  refine r_getR (pc := 1) S0 hK fl_X12_34 dX12_isDone_1 hf (fun x1 hf => ?_)
  refine r_iconst (pc := 4) S0 dX12_isDone_4 ?_
  refine r_iald (pc := 5) S0 hK dX12_isDone_5 (cnz 4 rfl) hf (fun x2 c3 hf => ?_)
  refine r_aload_n (pc := 6) S0 0 dX12_isDone_6 rfl rfl ?_
  obtain ⟨e4, h5, hf⟩ := ok_bind hf
  refine r_cV_I (pc := 7) [] S0 hK hX mv_X12_337 (k_X12_heldNow h5) (c_X12_heldNow l cA D N sx ad T A nx I w0 e4 h5) rfl rfl ⟨by decide, by decide⟩ (Nat.le_of_ble_eq_true rfl) ⟨Nat.le_refl _, Nat.le_refl _⟩ dX12_isDone_7 (fun c6 => ?_)
  refine r_iconst (pc := 10) S0 dX12_isDone_10 ?_
  refine r_ixor (pc := 11) S0 dX12_isDone_11 ?_
  refine r_iand (pc := 12) S0 dX12_isDone_12 ?_
  refine r_if_ne (pc := 13) (tgt := 20) S0 dX12_isDone_13 (by decide) (cn_toInt _) hf (fun hf => ?_) (fun hf => ?_)
  · refine r_iconst (pc := 20) S0 dX12_isDone_20 ?_
    have hz := ok_some hf
    have hz : 0 = e := hz
    subst hQ
    subst hz
    exact r_zret (pc := 21) S0 hr hlk (Or.inl rfl) dX12_isDone_21
  · refine r_iconst (pc := 16) S0 dX12_isDone_16 ?_
    refine r_goto (pc := 17) (tgt := 21) S0 dX12_isDone_17 (by decide) ?_
    have hz := ok_some hf
    have hz : 1 = e := hz
    subst hQ
    subst hz
    exact r_zret (pc := 21) S0 hr hlk (Or.inr rfl) dX12_isDone_21

set_option maxHeartbeats 4000000 in
set_option maxRecDepth 100000 in
theorem c_X12_done (l : Launch) (cA : Nat → ClassId) (D : va_G) (N : Nat) (sx : Sx) (ad : Nat → Nat) (T : Knd) (A : Rfs) (nx : Nat) (I : Mem) (w0 : Nat)  (e : (Int × Mem)) (h : f_X12_done T A w0 I = some e) : CtI l yX12_done cX12_done 1 (some .int) 7 193 cA D N sx ad T A nx [rv ad w0] I e.2 e.1 := by
  refine met_of (lv0 := [(0, rv ad w0)]) (by decide) (Nat.le_of_ble_eq_true rfl) rfl (fun p e0 s m args below meth c S0 hK hX hr hlk Q hQ => ?_)
  have hf : OK (f_X12_done T A w0 I) (fun z => z = e) := ⟨e, h, rfl⟩
  unfold f_X12_done at hf
  obtain ⟨hw0, hf⟩ := ok_grd hf
  refine r_aload_n (pc := 0) S0 0 dX12_done_0 rfl rfl ?_
  refine r_iconst (pc := 1) S0 dX12_done_1 ?_
  refine r_putI (pc := 2) S0 hK fl_X12_89 rfl rfl (cnz 0 rfl) dX12_done_2 hf (fun I1 hf => ?_)
  refine r_aload_n (pc := 5) S0 0 dX12_done_5 rfl rfl ?_
  obtain ⟨e2, h3, hf⟩ := ok_bind hf
  refine r_cV_I (pc := 6) [] S0 hK hX mv_X12_267 (k_X12_isOffice h3) (c_X12_isOffice l cA D N sx ad T A nx I1 w0 e2 h3) rfl rfl ⟨by decide, by decide⟩ (Nat.le_of_ble_eq_true rfl) ⟨Nat.le_refl _, Nat.le_refl _⟩ dX12_done_6 (fun c4 => ?_)
  refine r_if_ne (pc := 9) (tgt := 15) S0 dX12_done_9 (by decide) c4 hf (fun hf => ?_) (fun hf => ?_)
  · refine r_aload_n (pc := 15) S0 0 dX12_done_15 rfl rfl ?_
    obtain ⟨e5, h6, hf⟩ := ok_bind hf
    refine r_cV_V (pc := 16) [] S0 hK hX mv_X12_334 (k_X12_lays h6) (c_X12_lays l cA D N sx ad T A nx I1 w0 e5 h6) rfl rfl ⟨by decide, by decide⟩ (Nat.le_of_ble_eq_true rfl) ⟨Nat.le_refl _, Nat.le_refl _⟩ dX12_done_16 ?_
    refine r_aload_n (pc := 19) S0 0 dX12_done_19 rfl rfl ?_
    obtain ⟨e7, h8, hf⟩ := ok_bind hf
    refine r_cV_I (pc := 20) [] S0 hK hX mv_X12_345 (k_X12_isDone h8) (c_X12_isDone l cA D N sx ad T A nx e5 w0 e7 h8) rfl rfl ⟨by decide, by decide⟩ (Nat.le_of_ble_eq_true rfl) ⟨Nat.le_refl _, Nat.le_refl _⟩ dX12_done_20 (fun c9 => ?_)
    refine r_if_eq (pc := 23) (tgt := 30) S0 dX12_done_23 (by decide) c9 hf (fun hf => ?_) (fun hf => ?_)
    · refine r_iconst (pc := 30) S0 dX12_done_30 ?_
      have hz := ok_some hf
      have hz : (0, e5) = e := hz
      subst hQ
      subst hz
      exact r_iret (pc := 31) S0 hr hlk (cnz 0 rfl) dX12_done_31
    · refine r_iconst (pc := 26) S0 dX12_done_26 ?_
      refine r_goto (pc := 27) (tgt := 31) S0 dX12_done_27 (by decide) ?_
      have hz := ok_some hf
      have hz : (1, e5) = e := hz
      subst hQ
      subst hz
      exact r_iret (pc := 31) S0 hr hlk (cnz 1 rfl) dX12_done_31
  · refine r_bipush (pc := 12) S0 dX12_done_12 (by decide) ?_
    have hz := ok_some hf
    have hz : ((-2), I1) = e := hz
    subst hQ
    subst hz
    exact r_iret (pc := 14) S0 hr hlk (cnz (-2) rfl) dX12_done_14

set_option maxHeartbeats 4000000 in
set_option maxRecDepth 100000 in
theorem c_X12_measure (l : Launch) (cA : Nat → ClassId) (D : va_G) (N : Nat) (sx : Sx) (ad : Nat → Nat) (T : Knd) (A : Rfs) (nx : Nat) (I : Mem) (w0 : Nat) (a1 : Int) (ca1 : cn a1) (e : Int) (h : f_X12_measure T A w0 a1 I = some e) : CtI l yX12_measure cX12_measure 2 (some .int) 1 60 cA D N sx ad T A nx [rv ad w0, iv a1] I I e := by
  refine met_of (lv0 := [(0, rv ad w0), (1, iv a1)]) (by decide) (Nat.le_of_ble_eq_true rfl) rfl (fun p e0 s m args below meth c S0 hK hX hr hlk Q hQ => ?_)
  have hf : OK (f_X12_measure T A w0 a1 I) (fun z => z = e) := ⟨e, h, rfl⟩
  unfold f_X12_measure at hf
  obtain ⟨hw0, hf⟩ := ok_grd hf
  refine r_aload_n (pc := 0) S0 0 dX12_measure_0 rfl rfl ?_
  refine r_getI (pc := 1) S0 hK fl_X12_348 dX12_measure_1 hf (fun x1 c2 hf => ?_)
  refine r_if_ne (pc := 4) (tgt := 14) S0 dX12_measure_4 (by decide) c2 hf (fun hf => ?_) (fun hf => ?_)
  · refine r_aload_n (pc := 14) S0 0 dX12_measure_14 rfl rfl ?_
    refine r_getI (pc := 15) S0 hK fl_X12_348 dX12_measure_15 hf (fun x3 c4 hf => ?_)
    refine r_iconst (pc := 18) S0 dX12_measure_18 ?_
    refine r_icmp_ne (pc := 19) (tgt := 26) S0 dX12_measure_19 (by decide) c4 (cnz 1 rfl) hf (fun hf => ?_) (fun hf => ?_)
    · refine r_aload_n (pc := 26) S0 0 dX12_measure_26 rfl rfl ?_
      refine r_getI (pc := 27) S0 hK fl_X12_348 dX12_measure_27 hf (fun x5 c6 hf => ?_)
      refine r_iconst (pc := 30) S0 dX12_measure_30 ?_
      refine r_icmp_ne (pc := 31) (tgt := 41) S0 dX12_measure_31 (by decide) c6 (cnz 2 rfl) hf (fun hf => ?_) (fun hf => ?_)
      · refine r_aload_n (pc := 41) S0 0 dX12_measure_41 rfl rfl ?_
        refine r_getI (pc := 42) S0 hK fl_X12_348 dX12_measure_42 hf (fun x7 c8 hf => ?_)
        refine r_iconst (pc := 45) S0 dX12_measure_45 ?_
        refine r_icmp_ne (pc := 46) (tgt := 56) S0 dX12_measure_46 (by decide) c8 (cnz 3 rfl) hf (fun hf => ?_) (fun hf => ?_)
        · refine r_iconst (pc := 56) S0 dX12_measure_56 ?_
          have hz := ok_some hf
          have hz : 0 = e := hz
          subst hQ
          subst hz
          exact r_iret (pc := 57) S0 hr hlk (cnz 0 rfl) dX12_measure_57
        · refine r_aload_n (pc := 49) S0 0 dX12_measure_49 rfl rfl ?_
          refine r_getI (pc := 50) S0 hK fl_X12_309 dX12_measure_50 hf (fun x9 c10 hf => ?_)
          refine r_goto (pc := 53) (tgt := 57) S0 dX12_measure_53 (by decide) ?_
          have hz := ok_some hf
          have hz : x9 = e := hz
          subst hQ
          subst hz
          exact r_iret (pc := 57) S0 hr hlk c10 dX12_measure_57
      · refine r_aload_n (pc := 34) S0 0 dX12_measure_34 rfl rfl ?_
        refine r_getI (pc := 35) S0 hK fl_X12_306 dX12_measure_35 hf (fun x11 c12 hf => ?_)
        refine r_goto (pc := 38) (tgt := 57) S0 dX12_measure_38 (by decide) ?_
        have hz := ok_some hf
        have hz : x11 = e := hz
        subst hQ
        subst hz
        exact r_iret (pc := 57) S0 hr hlk c12 dX12_measure_57
    · refine r_iload_n (pc := 22) S0 1 dX12_measure_22 rfl rfl ?_
      refine r_goto (pc := 23) (tgt := 57) S0 dX12_measure_23 (by decide) ?_
      have hz := ok_some hf
      have hz : a1 = e := hz
      subst hQ
      subst hz
      exact r_iret (pc := 57) S0 hr hlk ca1 dX12_measure_57
  · refine r_aload_n (pc := 7) S0 0 dX12_measure_7 rfl rfl ?_
    refine r_getI (pc := 8) S0 hK fl_X12_300 dX12_measure_8 hf (fun x13 c14 hf => ?_)
    refine r_goto (pc := 11) (tgt := 57) S0 dX12_measure_11 (by decide) ?_
    have hz := ok_some hf
    have hz : x13 = e := hz
    subst hQ
    subst hz
    exact r_iret (pc := 57) S0 hr hlk c14 dX12_measure_57

set_option maxHeartbeats 4000000 in
set_option maxRecDepth 100000 in
theorem c_X12_isLess (l : Launch) (cA : Nat → ClassId) (D : va_G) (N : Nat) (sx : Sx) (ad : Nat → Nat) (T : Knd) (A : Rfs) (nx : Nat) (I : Mem) (w0 : Nat) (a1 : Int) (ca1 : cn a1) (e : Int) (h : f_X12_isLess T A w0 a1 I = some e) : CtI l yX12_isLess cX12_isLess 3 (some .boolean) 1 60 cA D N sx ad T A nx [rv ad w0, iv a1] I I e := by
  refine met_of (lv0 := [(0, rv ad w0), (1, iv a1)]) (by decide) (Nat.le_of_ble_eq_true rfl) rfl (fun p e0 s m args below meth c S0 hK hX hr hlk Q hQ => ?_)
  have hf : OK (f_X12_isLess T A w0 a1 I) (fun z => z = e) := ⟨e, h, rfl⟩
  unfold f_X12_isLess at hf
  obtain ⟨hw0, hf⟩ := ok_grd hf
  refine r_iconst (pc := 0) S0 dX12_isLess_0 ?_
  refine r_istore_n (pc := 1) (lv' := [(2, iv 0), (0, rv ad w0), (1, iv a1)]) S0 dX12_isLess_1 rfl (by decide) rfl ?_
  refine thn_rule (P := fun v2 => cn v2 → G p l e0 (rmx 1 60) s m args below meth c 0 0 Q cA D N 3 ad T A nx 22 [(0, rv ad w0), (2, iv v2)] [] I) hf (fun v2 hf c3 => ?_) (fun K1 hf => ?_)
  · refine r_aload_n (pc := 22) S0 0 dX12_isLess_22 rfl rfl ?_
    refine r_getR (pc := 23) S0 hK fl_X12_65 dX12_isLess_23 hf (fun x13 hf => ?_)
    refine r_iload_n (pc := 26) S0 1 dX12_isLess_26 rfl rfl ?_
    refine r_iald (pc := 27) S0 hK dX12_isLess_27 c3 hf (fun x14 c15 hf => ?_)
    refine r_aload_n (pc := 28) S0 0 dX12_isLess_28 rfl rfl ?_
    refine r_getR (pc := 29) S0 hK fl_X12_68 dX12_isLess_29 hf (fun x16 hf => ?_)
    refine r_iload_n (pc := 32) S0 1 dX12_isLess_32 rfl rfl ?_
    refine r_iald (pc := 33) S0 hK dX12_isLess_33 c3 hf (fun x17 c18 hf => ?_)
    refine r_icmp_ge (pc := 34) (tgt := 41) S0 dX12_isLess_34 (by decide) c15 c18 hf (fun hf => ?_) (fun hf => ?_)
    · refine r_iconst (pc := 41) S0 dX12_isLess_41 ?_
      have hz := ok_some hf
      have hz : 0 = e := hz
      subst hQ
      subst hz
      exact r_zret (pc := 42) S0 hr hlk (Or.inl rfl) dX12_isLess_42
    · refine r_iconst (pc := 37) S0 dX12_isLess_37 ?_
      refine r_goto (pc := 38) (tgt := 42) S0 dX12_isLess_38 (by decide) ?_
      have hz := ok_some hf
      have hz : 1 = e := hz
      subst hQ
      subst hz
      exact r_zret (pc := 42) S0 hr hlk (Or.inr rfl) dX12_isLess_42
  · refine r_lv [1, 2, 0] rfl ?_
    refine it_ind (P := fun s5 => cn s5 → G p l e0 (rmx 1 60) s m args below meth c 0 0 Q cA D N 3 ad T A nx 2 [(0, rv ad w0), (1, iv a1), (2, iv s5)] [] I) (fun n0 s5 ih4 hf c6 => ?_) FU 0 hf (cnz 0 rfl)
    refine r_iload_n (pc := 2) S0 2 dX12_isLess_2 rfl rfl ?_
    refine r_iload_n (pc := 3) S0 1 dX12_isLess_3 rfl rfl ?_
    refine r_icmp_ge (pc := 4) (tgt := 49) S0 dX12_isLess_4 (by decide) c6 ca1 hf (fun hf => ?_) (fun hf => ?_)
    · refine r_iconst (pc := 49) S0 dX12_isLess_49 ?_
      have hz := ok_some hf
      have hz : 0 = e := hz
      subst hQ
      subst hz
      exact r_zret (pc := 50) S0 hr hlk (Or.inl rfl) dX12_isLess_50
    · refine r_aload_n (pc := 7) S0 0 dX12_isLess_7 rfl rfl ?_
      refine r_getR (pc := 8) S0 hK fl_X12_65 dX12_isLess_8 hf (fun x7 hf => ?_)
      refine r_iload_n (pc := 11) S0 2 dX12_isLess_11 rfl rfl ?_
      refine r_iald (pc := 12) S0 hK dX12_isLess_12 c6 hf (fun x8 c9 hf => ?_)
      refine r_aload_n (pc := 13) S0 0 dX12_isLess_13 rfl rfl ?_
      refine r_getR (pc := 14) S0 hK fl_X12_68 dX12_isLess_14 hf (fun x10 hf => ?_)
      refine r_iload_n (pc := 17) S0 2 dX12_isLess_17 rfl rfl ?_
      refine r_iald (pc := 18) S0 hK dX12_isLess_18 c6 hf (fun x11 c12 hf => ?_)
      refine r_icmp_eq (pc := 19) (tgt := 43) S0 dX12_isLess_19 (by decide) c9 c12 hf (fun hf => ?_) (fun hf => ?_)
      · refine r_iinc (pc := 43) (lv' := [(2, iv (ia s5 1)), (0, rv ad w0), (1, iv a1)]) S0 2 dX12_isLess_43 rfl (by decide) rfl ?_
        refine r_goto (pc := 46) (tgt := 2) S0 dX12_isLess_46 (by decide) ?_
        have hz := ok_some hf
        refine r_lv [1, 2, 0] rfl ?_
        exact ih4 (ia s5 1) hz (cn_wrap _)
      · have hz := ok_some hf
        refine r_lv [0, 2] rfl ?_
        exact K1 s5 hz c6

set_option maxHeartbeats 4000000 in
set_option maxRecDepth 100000 in
theorem c_X12_meets (l : Launch) (cA : Nat → ClassId) (D : va_G) (N : Nat) (sx : Sx) (ad : Nat → Nat) (T : Knd) (A : Rfs) (nx : Nat) (I : Mem) (w0 : Nat) (a1 : Int) (a2 : Int) (ca1 : cn a1) (ca2 : cn a2) (e : Mem) (h : f_X12_meets T A w0 a1 a2 I = some e) : CtV l yX12_meets cX12_meets 5 none 2 82 cA D N sx ad T A nx [rv ad w0, iv a1, iv a2] I e := by
  refine met_of (lv0 := [(0, rv ad w0), (1, iv a1), (2, iv a2)]) (by decide) (Nat.le_of_ble_eq_true rfl) rfl (fun p e0 s m args below meth c S0 hK hX hr hlk Q hQ => ?_)
  have hf : OK (f_X12_meets T A w0 a1 a2 I) (fun z => z = e) := ⟨e, h, rfl⟩
  unfold f_X12_meets at hf
  obtain ⟨hw0, hf⟩ := ok_grd hf
  refine r_aload_n (pc := 0) S0 0 dX12_meets_0 rfl rfl ?_
  refine r_dup (pc := 1) S0 dX12_meets_1 rfl ?_
  refine r_getI (pc := 2) S0 hK fl_X12_351 dX12_meets_2 hf (fun x1 c2 hf => ?_)
  refine r_iconst (pc := 5) S0 dX12_meets_5 ?_
  refine r_iadd (pc := 6) S0 dX12_meets_6 ?_
  refine r_putI (pc := 7) S0 hK fl_X12_351 rfl rfl (cn_wrap _) dX12_meets_7 hf (fun I3 hf => ?_)
  refine r_aload_n (pc := 10) S0 0 dX12_meets_10 rfl rfl ?_
  refine r_dup (pc := 11) S0 dX12_meets_11 rfl ?_
  refine r_getI (pc := 12) S0 hK fl_X12_354 dX12_meets_12 hf (fun x4 c5 hf => ?_)
  refine r_iload_n (pc := 15) S0 2 dX12_meets_15 rfl rfl ?_
  refine r_iand (pc := 16) S0 dX12_meets_16 ?_
  refine r_putI (pc := 17) S0 hK fl_X12_354 rfl rfl (cn_toInt _) dX12_meets_17 hf (fun I6 hf => ?_)
  refine r_aload_n (pc := 20) S0 0 dX12_meets_20 rfl rfl ?_
  refine r_dup (pc := 21) S0 dX12_meets_21 rfl ?_
  refine r_getI (pc := 22) S0 hK fl_X12_357 dX12_meets_22 hf (fun x7 c8 hf => ?_)
  refine r_iload_n (pc := 25) S0 2 dX12_meets_25 rfl rfl ?_
  refine r_ior (pc := 26) S0 dX12_meets_26 ?_
  refine r_putI (pc := 27) S0 hK fl_X12_357 rfl rfl (cn_toInt _) dX12_meets_27 hf (fun I9 hf => ?_)
  refine r_aload_n (pc := 30) S0 0 dX12_meets_30 rfl rfl ?_
  refine r_iload_n (pc := 31) S0 1 dX12_meets_31 rfl rfl ?_
  obtain ⟨e10, h11, hf⟩ := ok_bind hf
  refine r_cV_I (pc := 32) [iv a1] S0 hK hX mv_X12_360 (k_X12_measure h11) (c_X12_measure l cA D N sx ad T A nx I9 w0 a1 ca1 e10 h11) rfl rfl ⟨by decide, by decide⟩ (Nat.le_of_ble_eq_true rfl) ⟨Nat.le_refl _, Nat.le_refl _⟩ dX12_meets_32 (fun c12 => ?_)
  refine r_istore_n (pc := 35) (lv' := [(3, iv e10), (0, rv ad w0), (1, iv a1), (2, iv a2)]) S0 dX12_meets_35 rfl (by decide) rfl ?_
  refine r_aload_n (pc := 36) S0 1 dX12_meets_36 rfl rfl ?_
  refine r_getI (pc := 37) S0 hK fl_X12_363 dX12_meets_37 hf (fun x13 c14 hf => ?_)
  refine r_iconst (pc := 40) S0 dX12_meets_40 ?_
  refine thn_rule (P := fun v16 => G p l e0 (rmx 2 82) s m args below meth c 0 0 Q cA D N 5 ad T A nx 85 [(0, rv ad w0), (1, iv a1), (3, iv e10)] [] I9) hf (fun v16 hf => ?_) (fun K15 hf => ?_)
  · refine r_aload_n (pc := 85) S0 0 dX12_meets_85 rfl rfl ?_
    refine r_iload_n (pc := 86) S0 2 dX12_meets_86 rfl rfl ?_
    refine r_putI (pc := 87) S0 hK fl_X12_363 rfl rfl c12 dX12_meets_87 hf (fun I28 hf => ?_)
    refine r_aload_n (pc := 90) S0 0 dX12_meets_90 rfl rfl ?_
    refine r_iload_n (pc := 91) S0 1 dX12_meets_91 rfl rfl ?_
    refine r_putI (pc := 92) S0 hK fl_X12_366 rfl rfl ca1 dX12_meets_92 hf (fun I29 hf => ?_)
    refine r_aload_n (pc := 95) S0 0 dX12_meets_95 rfl rfl ?_
    refine r_aload_n (pc := 96) S0 0 dX12_meets_96 rfl rfl ?_
    refine r_getI (pc := 97) S0 hK fl_X12_300 dX12_meets_97 hf (fun x30 c31 hf => ?_)
    refine r_putI (pc := 100) S0 hK fl_X12_372 rfl rfl c31 dX12_meets_100 hf (fun I32 hf => ?_)
    refine r_iconst (pc := 103) S0 dX12_meets_103 ?_
    refine r_istore (pc := 104) (lv' := [(4, iv 0), (0, rv ad w0), (1, iv a1), (3, iv e10)]) S0 dX12_meets_104 (by decide) rfl ?_
    refine thn_rule (P := fun v34 => G p l e0 (rmx 2 82) s m args below meth c 0 0 Q cA D N 5 ad T A nx 132 [(0, rv ad w0)] [] v34) hf (fun v34 hf => ?_) (fun K33 hf => ?_)
    · refine r_iconst (pc := 132) S0 dX12_meets_132 ?_
      refine r_istore (pc := 133) (lv' := [(4, iv 0), (0, rv ad w0)]) S0 dX12_meets_133 (by decide) rfl ?_
      refine r_lv [1, 0] rfl ?_
      refine it_ind (P := fun s44 => cn s44.1 → G p l e0 (rmx 2 82) s m args below meth c 0 0 Q cA D N 5 ad T A nx 135 [(0, rv ad w0), (4, iv s44.1)] [] s44.2) (fun n0 s44 ih43 hf c45 => ?_) FU (0, v34) hf (cnz 0 rfl)
      refine r_iload (pc := 135) S0 1 dX12_meets_135 rfl ?_
      refine r_bipush (pc := 137) S0 dX12_meets_137 (by decide) ?_
      refine r_icmp_ge (pc := 139) (tgt := 162) S0 dX12_meets_139 (by decide) c45 (cnz 8 rfl) hf (fun hf => ?_) (fun hf => ?_)
      · have hz := ok_some hf
        have hz : s44.2 = e := hz
        subst hQ
        subst hz
        exact r_vret (pc := 162) S0 hr hlk dX12_meets_162
      · refine r_aload_n (pc := 142) S0 0 dX12_meets_142 rfl rfl ?_
        refine r_getR (pc := 143) S0 hK fl_X12_71 dX12_meets_143 hf (fun x46 hf => ?_)
        refine r_iload (pc := 146) S0 1 dX12_meets_146 rfl ?_
        refine r_aload_n (pc := 148) S0 0 dX12_meets_148 rfl rfl ?_
        refine r_getR (pc := 149) S0 hK fl_X12_59 dX12_meets_149 hf (fun x47 hf => ?_)
        refine r_iload (pc := 152) S0 1 dX12_meets_152 rfl ?_
        refine r_iald (pc := 154) S0 hK dX12_meets_154 c45 hf (fun x48 c49 hf => ?_)
        refine r_iast (pc := 155) S0 hK dX12_meets_155 c45 c49 hf (fun I50 hf => ?_)
        refine r_iinc (pc := 156) (lv' := [(4, iv (ia s44.1 1)), (0, rv ad w0)]) S0 1 dX12_meets_156 rfl (by decide) rfl ?_
        refine r_goto (pc := 159) (tgt := 135) S0 dX12_meets_159 (by decide) ?_
        have hz := ok_some hf
        refine r_lv [1, 0] rfl ?_
        exact ih43 (ia s44.1 1, I50) hz (cn_wrap _)
    · refine r_lv [1, 2, 0] rfl ?_
      refine it_ind (P := fun s36 => cn s36.1 → G p l e0 (rmx 2 82) s m args below meth c 0 0 Q cA D N 5 ad T A nx 106 [(0, rv ad w0), (1, iv a1), (4, iv s36.1)] [] s36.2) (fun n0 s36 ih35 hf c37 => ?_) FU (0, I32) hf (cnz 0 rfl)
      refine r_iload (pc := 106) S0 2 dX12_meets_106 rfl ?_
      refine r_iload_n (pc := 108) S0 1 dX12_meets_108 rfl rfl ?_
      refine r_icmp_ge (pc := 109) (tgt := 132) S0 dX12_meets_109 (by decide) c37 ca1 hf (fun hf => ?_) (fun hf => ?_)
      · have hz := ok_some hf
        refine r_lv [0] rfl ?_
        exact K33 s36.2 hz
      · refine r_aload_n (pc := 112) S0 0 dX12_meets_112 rfl rfl ?_
        refine r_getR (pc := 113) S0 hK fl_X12_68 dX12_meets_113 hf (fun x38 hf => ?_)
        refine r_iload (pc := 116) S0 2 dX12_meets_116 rfl ?_
        refine r_aload_n (pc := 118) S0 0 dX12_meets_118 rfl rfl ?_
        refine r_getR (pc := 119) S0 hK fl_X12_65 dX12_meets_119 hf (fun x39 hf => ?_)
        refine r_iload (pc := 122) S0 2 dX12_meets_122 rfl ?_
        refine r_iald (pc := 124) S0 hK dX12_meets_124 c37 hf (fun x40 c41 hf => ?_)
        refine r_iast (pc := 125) S0 hK dX12_meets_125 c37 c41 hf (fun I42 hf => ?_)
        refine r_iinc (pc := 126) (lv' := [(4, iv (ia s36.1 1)), (0, rv ad w0), (1, iv a1)]) S0 2 dX12_meets_126 rfl (by decide) rfl ?_
        refine r_goto (pc := 129) (tgt := 106) S0 dX12_meets_129 (by decide) ?_
        have hz := ok_some hf
        refine r_lv [1, 2, 0] rfl ?_
        exact ih35 (ia s36.1 1, I42) hz (cn_wrap _)
  · refine r_icmp_eq (pc := 41) (tgt := 85) S0 dX12_meets_41 (by decide) c14 (cnz (-1) rfl) hf (fun hf => ?_) (fun hf => ?_)
    · have hz := ok_some hf
      refine r_lv [1, 2, 0] rfl ?_
      exact K15 () hz
    · refine r_iload_n (pc := 44) S0 0 dX12_meets_44 rfl rfl ?_
      refine r_aload_n (pc := 45) S0 1 dX12_meets_45 rfl rfl ?_
      refine r_getI (pc := 46) S0 hK fl_X12_363 dX12_meets_46 hf (fun x17 c18 hf => ?_)
      refine r_icmp_gt (pc := 49) (tgt := 84) S0 dX12_meets_49 (by decide) c12 c18 hf (fun hf => ?_) (fun hf => ?_)
      · have hz := ok_some hf
        have hz : I9 = e := hz
        subst hQ
        subst hz
        exact r_vret (pc := 84) S0 hr hlk dX12_meets_84
      · refine r_iload_n (pc := 52) S0 0 dX12_meets_52 rfl rfl ?_
        refine r_aload_n (pc := 53) S0 1 dX12_meets_53 rfl rfl ?_
        refine r_getI (pc := 54) S0 hK fl_X12_363 dX12_meets_54 hf (fun x19 c20 hf => ?_)
        refine r_icmp_ne (pc := 57) (tgt := 85) S0 dX12_meets_57 (by decide) c12 c20 hf (fun hf => ?_) (fun hf => ?_)
        · have hz := ok_some hf
          refine r_lv [1, 2, 0] rfl ?_
          exact K15 () hz
        · refine r_iload_n (pc := 60) S0 2 dX12_meets_60 rfl rfl ?_
          refine r_aload_n (pc := 61) S0 1 dX12_meets_61 rfl rfl ?_
          refine r_getI (pc := 62) S0 hK fl_X12_366 dX12_meets_62 hf (fun x21 c22 hf => ?_)
          refine r_icmp_gt (pc := 65) (tgt := 84) S0 dX12_meets_65 (by decide) ca1 c22 hf (fun hf => ?_) (fun hf => ?_)
          · have hz := ok_some hf
            have hz : I9 = e := hz
            subst hQ
            subst hz
            exact r_vret (pc := 84) S0 hr hlk dX12_meets_84
          · refine r_iload_n (pc := 68) S0 2 dX12_meets_68 rfl rfl ?_
            refine r_aload_n (pc := 69) S0 1 dX12_meets_69 rfl rfl ?_
            refine r_getI (pc := 70) S0 hK fl_X12_366 dX12_meets_70 hf (fun x23 c24 hf => ?_)
            refine r_icmp_ne (pc := 73) (tgt := 85) S0 dX12_meets_73 (by decide) ca1 c24 hf (fun hf => ?_) (fun hf => ?_)
            · have hz := ok_some hf
              refine r_lv [1, 2, 0] rfl ?_
              exact K15 () hz
            · refine r_aload_n (pc := 76) S0 1 dX12_meets_76 rfl rfl ?_
              refine r_iload_n (pc := 77) S0 2 dX12_meets_77 rfl rfl ?_
              obtain ⟨e25, h26, hf⟩ := ok_bind hf
              refine r_cV_I (pc := 78) [iv a1] S0 hK hX mv_X12_369 (k_X12_isLess h26) (c_X12_isLess l cA D N sx ad T A nx I9 w0 a1 ca1 e25 h26) rfl rfl ⟨by decide, by decide⟩ (Nat.le_of_ble_eq_true rfl) ⟨Nat.le_refl _, Nat.le_refl _⟩ dX12_meets_78 (fun c27 => ?_)
              refine r_if_ne (pc := 81) (tgt := 85) S0 dX12_meets_81 (by decide) c27 hf (fun hf => ?_) (fun hf => ?_)
              · have hz := ok_some hf
                refine r_lv [1, 2, 0] rfl ?_
                exact K15 () hz
              · have hz := ok_some hf
                have hz : I9 = e := hz
                subst hQ
                subst hz
                exact r_vret (pc := 84) S0 hr hlk dX12_meets_84

set_option maxHeartbeats 4000000 in
set_option maxRecDepth 100000 in
theorem c_X12_rows (l : Launch) (cA : Nat → ClassId) (D : va_G) (N : Nat) (sx : Sx) (ad : Nat → Nat) (T : Knd) (A : Rfs) (nx : Nat) (dd : Nat) : ∀ (I : Mem) (w0 : Nat) (a1 : Int) (a2 : Int) (a3 : Int) (ca1 : cn a1) (ca2 : cn a2) (ca3 : cn a3) (e : Mem) (h : f_X12_rows dd T A w0 a1 a2 a3 I = some e), CtV l yX12_rows cX12_rows 11 none (6 + dd) (172 + dd * 30) cA D N sx ad T A nx [rv ad w0, iv a1, iv a2, iv a3] I e := by
  induction dd with
  | zero => intro I w0 a1 a2 a3 ca1 ca2 ca3 e h; unfold f_X12_rows at h; cases h
  | succ dd ihd =>
    intro I w0 a1 a2 a3 ca1 ca2 ca3 e h
    refine met_of (lv0 := [(0, rv ad w0), (1, iv a1), (2, iv a2), (3, iv a3)]) (by decide) (Nat.le_of_ble_eq_true rfl) rfl (fun p e0 s m args below meth c S0 hK hX hr hlk Q hQ => ?_)
    have hf : OK (f_X12_rows (dd + 1) T A w0 a1 a2 a3 I) (fun z => z = e) := ⟨e, h, rfl⟩
    unfold f_X12_rows at hf
    obtain ⟨hw0, hf⟩ := ok_grd hf
    refine r_aload_n (pc := 0) S0 0 dX12_rows_0 rfl rfl ?_
    obtain ⟨e1, h2, hf⟩ := ok_bind hf
    refine r_cV_I (pc := 1) [] S0 hK hX mv_X12_345 (k_X12_isDone h2) (c_X12_isDone l cA D N sx ad T A nx I w0 e1 h2) rfl rfl ⟨by dsimp only [rmx]; omega, by dsimp only [rmx]; omega⟩ (Nat.le_of_ble_eq_true rfl) ⟨Nat.le_refl _, Nat.le_refl _⟩ dX12_rows_1 (fun c3 => ?_)
    refine r_if_eq (pc := 4) (tgt := 14) S0 dX12_rows_4 (by decide) c3 hf (fun hf => ?_) (fun hf => ?_)
    · refine r_aload_n (pc := 14) S0 0 dX12_rows_14 rfl rfl ?_
      refine r_getI (pc := 15) S0 hK fl_X12_348 dX12_rows_15 hf (fun x4 c5 hf => ?_)
      refine r_iconst (pc := 18) S0 dX12_rows_18 ?_
      refine thn_rule (P := fun v7 => G p l e0 (rmx (6 + (dd + 1)) (172 + (dd + 1) * 30)) s m args below meth c 0 0 Q cA D N 11 ad T A nx 43 [(0, rv ad w0), (1, iv a1), (2, iv a2), (3, iv a3)] [] I) hf (fun v7 hf => ?_) (fun K6 hf => ?_)
      · refine r_iconst (pc := 43) S0 dX12_rows_43 ?_
        refine r_istore (pc := 44) (lv' := [(4, iv 0), (0, rv ad w0), (1, iv a1), (2, iv a2), (3, iv a3)]) S0 dX12_rows_44 (by decide) rfl ?_
        refine r_lv [1, 2, 3, 4, 0] rfl ?_
        refine it_ind (P := fun s16 => cn s16.1 → G p l e0 (rmx (6 + (dd + 1)) (172 + (dd + 1) * 30)) s m args below meth c 0 0 Q cA D N 11 ad T A nx 46 [(0, rv ad w0), (1, iv a1), (2, iv a2), (3, iv a3), (4, iv s16.1)] [] s16.2) (fun n0 s16 ih15 hf c17 => ?_) FU (0, I) hf (cnz 0 rfl)
        refine r_iload (pc := 46) S0 4 dX12_rows_46 rfl ?_
        refine r_aload_n (pc := 48) S0 0 dX12_rows_48 rfl rfl ?_
        refine r_getR (pc := 49) S0 hK fl_X12_34 dX12_rows_49 hf (fun x18 hf => ?_)
        refine r_iconst (pc := 52) S0 dX12_rows_52 ?_
        refine r_iald (pc := 53) S0 hK dX12_rows_53 (cnz 3 rfl) hf (fun x19 c20 hf => ?_)
        refine r_icmp_ge (pc := 54) (tgt := 198) S0 dX12_rows_54 (by decide) c17 c20 hf (fun hf => ?_) (fun hf => ?_)
        · have hz := ok_some hf
          have hz : s16.2 = e := hz
          subst hQ
          subst hz
          exact r_vret (pc := 198) S0 hr hlk dX12_rows_198
        · refine r_iload_n (pc := 57) S0 2 dX12_rows_57 rfl rfl ?_
          refine r_iload (pc := 58) S0 4 dX12_rows_58 rfl ?_
          obtain ⟨e21, h22, hf⟩ := ok_bind hf
          refine r_cS_I (pc := 60) [iv a2, iv s16.1] S0 hK hX ms_X12_278 (c_X12_isBit l cA D N sx ad T A nx s16.2 a2 s16.1 ca2 c17 e21 h22) rfl rfl ⟨by dsimp only [rmx]; omega, by dsimp only [rmx]; omega⟩ (Nat.le_of_ble_eq_true rfl) ⟨Nat.le_refl _, Nat.le_refl _⟩ dX12_rows_60 (fun c23 => ?_)
          refine thn_rule (P := fun v25 => cn v25 → G p l e0 (rmx (6 + (dd + 1)) (172 + (dd + 1) * 30)) s m args below meth c 0 0 Q cA D N 11 ad T A nx 85 [(0, rv ad w0), (1, iv a1), (2, iv a2), (3, iv a3), (4, iv s16.1)] [iv v25] s16.2) hf (fun v25 hf c26 => ?_) (fun K24 hf => ?_)
          · refine r_istore (pc := 85) (lv' := [(5, iv v25), (0, rv ad w0), (1, iv a1), (2, iv a2), (3, iv a3), (4, iv s16.1)]) S0 dX12_rows_85 (by decide) rfl ?_
            refine r_iload (pc := 87) S0 0 dX12_rows_87 rfl ?_
            refine r_iconst (pc := 89) S0 dX12_rows_89 ?_
            refine r_icmp_ne (pc := 90) (tgt := 96) S0 dX12_rows_90 (by decide) c26 (cnz (-1) rfl) hf (fun hf => ?_) (fun hf => ?_)
            · refine r_aload_n (pc := 96) S0 1 dX12_rows_96 rfl rfl ?_
              refine r_getI (pc := 97) S0 hK fl_X12_300 dX12_rows_97 hf (fun x35 c36 hf => ?_)
              refine r_istore (pc := 100) (lv' := [(6, iv x35), (5, iv v25), (0, rv ad w0), (1, iv a1), (2, iv a2), (3, iv a3), (4, iv s16.1)]) S0 dX12_rows_100 (by decide) rfl ?_
              refine r_aload_n (pc := 102) S0 2 dX12_rows_102 rfl rfl ?_
              refine r_getI (pc := 103) S0 hK fl_X12_303 dX12_rows_103 hf (fun x37 c38 hf => ?_)
              refine r_istore (pc := 106) (lv' := [(7, iv x37), (6, iv x35), (5, iv v25), (0, rv ad w0), (1, iv a1), (2, iv a2), (3, iv a3), (4, iv s16.1)]) S0 dX12_rows_106 (by decide) rfl ?_
              refine r_aload_n (pc := 108) S0 3 dX12_rows_108 rfl rfl ?_
              refine r_getI (pc := 109) S0 hK fl_X12_306 dX12_rows_109 hf (fun x39 c40 hf => ?_)
              refine r_istore (pc := 112) (lv' := [(8, iv x39), (7, iv x37), (6, iv x35), (5, iv v25), (0, rv ad w0), (1, iv a1), (2, iv a2), (3, iv a3), (4, iv s16.1)]) S0 dX12_rows_112 (by decide) rfl ?_
              refine r_aload_n (pc := 114) S0 4 dX12_rows_114 rfl rfl ?_
              refine r_getI (pc := 115) S0 hK fl_X12_309 dX12_rows_115 hf (fun x41 c42 hf => ?_)
              refine r_istore (pc := 118) (lv' := [(9, iv x41), (8, iv x39), (7, iv x37), (6, iv x35), (5, iv v25), (0, rv ad w0), (1, iv a1), (2, iv a2), (3, iv a3), (4, iv s16.1)]) S0 dX12_rows_118 (by decide) rfl ?_
              refine r_aload_n (pc := 120) S0 5 dX12_rows_120 rfl rfl ?_
              refine r_getR (pc := 121) S0 hK fl_X12_59 dX12_rows_121 hf (fun x43 hf => ?_)
              refine r_iload (pc := 124) S0 9 dX12_rows_124 rfl ?_
              refine r_iald (pc := 126) S0 hK dX12_rows_126 c17 hf (fun x44 c45 hf => ?_)
              refine r_istore (pc := 127) (lv' := [(10, iv x44), (9, iv x41), (8, iv x39), (7, iv x37), (6, iv x35), (5, iv v25), (0, rv ad w0), (1, iv a1), (2, iv a2), (3, iv a3), (4, iv s16.1)]) S0 dX12_rows_127 (by decide) rfl ?_
              refine r_aload_n (pc := 129) S0 6 dX12_rows_129 rfl rfl ?_
              refine r_iload (pc := 130) S0 10 dX12_rows_130 rfl ?_
              refine r_iload (pc := 132) S0 5 dX12_rows_132 rfl ?_
              obtain ⟨e46, h47, hf⟩ := ok_bind hf
              refine r_cV_V (pc := 134) [iv s16.1, iv v25] S0 hK hX mv_X12_331 (k_X12_goesTo h47) (c_X12_goesTo l cA D N sx ad T A nx s16.2 w0 s16.1 v25 c17 c26 e46 h47) rfl rfl ⟨by dsimp only [rmx]; omega, by dsimp only [rmx]; omega⟩ (Nat.le_of_ble_eq_true rfl) ⟨Nat.le_refl _, Nat.le_refl _⟩ dX12_rows_134 ?_
              refine r_aload_n (pc := 137) S0 6 dX12_rows_137 rfl rfl ?_
              refine r_getR (pc := 138) S0 hK fl_X12_65 dX12_rows_138 hf (fun x48 hf => ?_)
              refine r_iload_n (pc := 141) S0 7 dX12_rows_141 rfl rfl ?_
              refine r_iload (pc := 142) S0 10 dX12_rows_142 rfl ?_
              refine r_iast (pc := 144) S0 hK dX12_rows_144 ca1 c17 hf (fun I49 hf => ?_)
              refine r_aload_n (pc := 145) S0 6 dX12_rows_145 rfl rfl ?_
              refine r_iload_n (pc := 146) S0 7 dX12_rows_146 rfl rfl ?_
              refine r_iconst (pc := 147) S0 dX12_rows_147 ?_
              refine r_iadd (pc := 148) S0 dX12_rows_148 ?_
              refine r_iload_n (pc := 149) S0 8 dX12_rows_149 rfl rfl ?_
              refine r_iload_n (pc := 150) S0 9 dX12_rows_150 rfl rfl ?_
              refine r_iconst (pc := 151) S0 dX12_rows_151 ?_
              refine r_iload (pc := 152) S0 10 dX12_rows_152 rfl ?_
              refine r_ishl (pc := 154) S0 dX12_rows_154 ?_
              refine r_ior (pc := 155) S0 dX12_rows_155 ?_
              obtain ⟨e50, h51, hf⟩ := ok_bind hf
              refine r_cV_V (pc := 156) [iv (ia a1 1), iv a2, iv (ior a3 (ishl 1 s16.1))] S0 hK hX mv_X12_378 (k_X12_rows h51) (ihd I49 w0 (ia a1 1) a2 (ior a3 (ishl 1 s16.1)) (cn_wrap _) ca2 (cn_toInt _) e50 h51) rfl rfl ⟨by dsimp only [rmx]; omega, by dsimp only [rmx]; omega⟩ (Nat.le_of_ble_eq_true rfl) ⟨Nat.le_refl _, Nat.le_refl _⟩ dX12_rows_156 ?_
              refine r_aload_n (pc := 159) S0 6 dX12_rows_159 rfl rfl ?_
              refine r_iload (pc := 160) S0 4 dX12_rows_160 rfl ?_
              refine r_putI (pc := 162) S0 hK fl_X12_300 rfl rfl c36 dX12_rows_162 hf (fun I52 hf => ?_)
              refine r_aload_n (pc := 165) S0 6 dX12_rows_165 rfl rfl ?_
              refine r_iload (pc := 166) S0 3 dX12_rows_166 rfl ?_
              refine r_putI (pc := 168) S0 hK fl_X12_303 rfl rfl c38 dX12_rows_168 hf (fun I53 hf => ?_)
              refine r_aload_n (pc := 171) S0 6 dX12_rows_171 rfl rfl ?_
              refine r_iload (pc := 172) S0 2 dX12_rows_172 rfl ?_
              refine r_putI (pc := 174) S0 hK fl_X12_306 rfl rfl c40 dX12_rows_174 hf (fun I54 hf => ?_)
              refine r_aload_n (pc := 177) S0 6 dX12_rows_177 rfl rfl ?_
              refine r_iload (pc := 178) S0 1 dX12_rows_178 rfl ?_
              refine r_putI (pc := 180) S0 hK fl_X12_309 rfl rfl c42 dX12_rows_180 hf (fun I55 hf => ?_)
              refine r_aload_n (pc := 183) S0 6 dX12_rows_183 rfl rfl ?_
              refine r_getR (pc := 184) S0 hK fl_X12_59 dX12_rows_184 hf (fun x56 hf => ?_)
              refine r_iload (pc := 187) S0 10 dX12_rows_187 rfl ?_
              refine r_iload (pc := 189) S0 0 dX12_rows_189 rfl ?_
              refine r_iast (pc := 191) S0 hK dX12_rows_191 c17 c45 hf (fun I57 hf => ?_)
              refine r_iinc (pc := 192) (lv' := [(4, iv (ia s16.1 1)), (10, iv x44), (9, iv x41), (8, iv x39), (7, iv x37), (6, iv x35), (5, iv v25), (0, rv ad w0), (1, iv a1), (2, iv a2), (3, iv a3)]) S0 10 dX12_rows_192 rfl (by decide) rfl ?_
              refine r_goto (pc := 195) (tgt := 46) S0 dX12_rows_195 (by decide) ?_
              have hz := ok_some hf
              refine r_lv [7, 8, 9, 10, 0] rfl ?_
              exact ih15 (ia s16.1 1, I57) hz (cn_wrap _)
            · refine r_goto (pc := 93) (tgt := 192) S0 dX12_rows_93 (by decide) ?_
              refine r_iinc (pc := 192) (lv' := [(4, iv (ia s16.1 1)), (5, iv v25), (0, rv ad w0), (1, iv a1), (2, iv a2), (3, iv a3)]) S0 5 dX12_rows_192 rfl (by decide) rfl ?_
              refine r_goto (pc := 195) (tgt := 46) S0 dX12_rows_195 (by decide) ?_
              have hz := ok_some hf
              refine r_lv [2, 3, 4, 5, 0] rfl ?_
              exact ih15 (ia s16.1 1, s16.2) hz (cn_wrap _)
          · refine thn_rule (P := fun v28 => G p l e0 (rmx (6 + (dd + 1)) (172 + (dd + 1) * 30)) s m args below meth c 0 0 Q cA D N 11 ad T A nx 84 [(0, rv ad w0), (1, iv a1), (2, iv a2), (3, iv a3), (4, iv s16.1)] [] s16.2) hf (fun v28 hf => ?_) (fun K27 hf => ?_)
            · refine r_iconst (pc := 84) S0 dX12_rows_84 ?_
              have hz := ok_some hf
              refine r_lv [0, 1, 2, 3, 4] rfl ?_
              exact K24 (-1) hz (cnz (-1) rfl)
            · refine r_if_eq (pc := 63) (tgt := 84) S0 dX12_rows_63 (by decide) c23 hf (fun hf => ?_) (fun hf => ?_)
              · have hz := ok_some hf
                refine r_lv [0, 1, 2, 3, 4] rfl ?_
                exact K27 () hz
              · refine r_iload_n (pc := 66) S0 3 dX12_rows_66 rfl rfl ?_
                refine r_iload (pc := 67) S0 4 dX12_rows_67 rfl ?_
                obtain ⟨e29, h30, hf⟩ := ok_bind hf
                refine r_cS_I (pc := 69) [iv a3, iv s16.1] S0 hK hX ms_X12_278 (c_X12_isBit l cA D N sx ad T A nx s16.2 a3 s16.1 ca3 c17 e29 h30) rfl rfl ⟨by dsimp only [rmx]; omega, by dsimp only [rmx]; omega⟩ (Nat.le_of_ble_eq_true rfl) ⟨Nat.le_refl _, Nat.le_refl _⟩ dX12_rows_69 (fun c31 => ?_)
                refine r_if_ne (pc := 72) (tgt := 84) S0 dX12_rows_72 (by decide) c31 hf (fun hf => ?_) (fun hf => ?_)
                · have hz := ok_some hf
                  refine r_lv [0, 1, 2, 3, 4] rfl ?_
                  exact K27 () hz
                · refine r_aload_n (pc := 75) S0 0 dX12_rows_75 rfl rfl ?_
                  refine r_iload (pc := 76) S0 4 dX12_rows_76 rfl ?_
                  obtain ⟨e32, h33, hf⟩ := ok_bind hf
                  refine r_cV_I (pc := 78) [iv s16.1] S0 hK hX mv_X12_328 (k_X12_stampsIn h33) (c_X12_stampsIn l cA D N sx ad T A nx s16.2 w0 s16.1 c17 e32 h33) rfl rfl ⟨by dsimp only [rmx]; omega, by dsimp only [rmx]; omega⟩ (Nat.le_of_ble_eq_true rfl) ⟨Nat.le_refl _, Nat.le_refl _⟩ dX12_rows_78 (fun c34 => ?_)
                  refine r_goto (pc := 81) (tgt := 85) S0 dX12_rows_81 (by decide) ?_
                  have hz := ok_some hf
                  refine r_lv [0, 1, 2, 3, 4] rfl ?_
                  exact K24 e32 hz c34
      · refine r_icmp_eq (pc := 19) (tgt := 43) S0 dX12_rows_19 (by decide) c5 (cnz 4 rfl) hf (fun hf => ?_) (fun hf => ?_)
        · have hz := ok_some hf
          refine r_lv [0, 1, 2, 3] rfl ?_
          exact K6 () hz
        · refine r_aload_n (pc := 22) S0 0 dX12_rows_22 rfl rfl ?_
          refine r_getI (pc := 23) S0 hK fl_X12_363 dX12_rows_23 hf (fun x8 c9 hf => ?_)
          refine r_iconst (pc := 26) S0 dX12_rows_26 ?_
          refine r_icmp_eq (pc := 27) (tgt := 43) S0 dX12_rows_27 (by decide) c9 (cnz (-1) rfl) hf (fun hf => ?_) (fun hf => ?_)
          · have hz := ok_some hf
            refine r_lv [0, 1, 2, 3] rfl ?_
            exact K6 () hz
          · refine r_aload_n (pc := 30) S0 0 dX12_rows_30 rfl rfl ?_
            refine r_iload_n (pc := 31) S0 1 dX12_rows_31 rfl rfl ?_
            obtain ⟨e10, h11, hf⟩ := ok_bind hf
            refine r_cV_I (pc := 32) [iv a1] S0 hK hX mv_X12_360 (k_X12_measure h11) (c_X12_measure l cA D N sx ad T A nx I w0 a1 ca1 e10 h11) rfl rfl ⟨by dsimp only [rmx]; omega, by dsimp only [rmx]; omega⟩ (Nat.le_of_ble_eq_true rfl) ⟨Nat.le_refl _, Nat.le_refl _⟩ dX12_rows_32 (fun c12 => ?_)
            refine r_aload_n (pc := 35) S0 0 dX12_rows_35 rfl rfl ?_
            refine r_getI (pc := 36) S0 hK fl_X12_363 dX12_rows_36 hf (fun x13 c14 hf => ?_)
            refine r_icmp_le (pc := 39) (tgt := 43) S0 dX12_rows_39 (by decide) c12 c14 hf (fun hf => ?_) (fun hf => ?_)
            · have hz := ok_some hf
              refine r_lv [0, 1, 2, 3] rfl ?_
              exact K6 () hz
            · have hz := ok_some hf
              have hz : I = e := hz
              subst hQ
              subst hz
              exact r_vret (pc := 42) S0 hr hlk dX12_rows_42
    · refine r_aload_n (pc := 7) S0 0 dX12_rows_7 rfl rfl ?_
      refine r_iload_n (pc := 8) S0 1 dX12_rows_8 rfl rfl ?_
      refine r_iload_n (pc := 9) S0 3 dX12_rows_9 rfl rfl ?_
      obtain ⟨e58, h59, hf⟩ := ok_bind hf
      refine r_cV_V (pc := 10) [iv a1, iv a3] S0 hK hX mv_X12_375 (k_X12_meets h59) (c_X12_meets l cA D N sx ad T A nx I w0 a1 a3 ca1 ca3 e58 h59) rfl rfl ⟨by dsimp only [rmx]; omega, by dsimp only [rmx]; omega⟩ (Nat.le_of_ble_eq_true rfl) ⟨Nat.le_refl _, Nat.le_refl _⟩ dX12_rows_10 ?_
      have hz := ok_some hf
      have hz : e58 = e := hz
      subst hQ
      subst hz
      exact r_vret (pc := 13) S0 hr hlk dX12_rows_13

set_option maxHeartbeats 4000000 in
set_option maxRecDepth 100000 in
theorem c_X12_finds (l : Launch) (cA : Nat → ClassId) (D : va_G) (N : Nat) (sx : Sx) (ad : Nat → Nat) (T : Knd) (A : Rfs) (nx : Nat) (I : Mem) (w0 : Nat) (a1 : Int) (ca1 : cn a1) (e : (Int × Mem)) (h : f_X12_finds T A w0 a1 I = some e) : CtI l yX12_finds cX12_finds 2 (some .int) 19 562 cA D N sx ad T A nx [rv ad w0, iv a1] I e.2 e.1 := by
  refine met_of (lv0 := [(0, rv ad w0), (1, iv a1)]) (by decide) (Nat.le_of_ble_eq_true rfl) rfl (fun p e0 s m args below meth c S0 hK hX hr hlk Q hQ => ?_)
  have hf : OK (f_X12_finds T A w0 a1 I) (fun z => z = e) := ⟨e, h, rfl⟩
  unfold f_X12_finds at hf
  obtain ⟨hw0, hf⟩ := ok_grd hf
  refine r_aload_n (pc := 0) S0 0 dX12_finds_0 rfl rfl ?_
  refine r_iload_n (pc := 1) S0 1 dX12_finds_1 rfl rfl ?_
  refine r_putI (pc := 2) S0 hK fl_X12_348 rfl rfl ca1 dX12_finds_2 hf (fun I1 hf => ?_)
  refine r_aload_n (pc := 5) S0 0 dX12_finds_5 rfl rfl ?_
  refine r_iconst (pc := 6) S0 dX12_finds_6 ?_
  refine r_putI (pc := 7) S0 hK fl_X12_363 rfl rfl (cnz (-1) rfl) dX12_finds_7 hf (fun I2 hf => ?_)
  refine r_aload_n (pc := 10) S0 0 dX12_finds_10 rfl rfl ?_
  refine r_iconst (pc := 11) S0 dX12_finds_11 ?_
  refine r_putI (pc := 12) S0 hK fl_X12_366 rfl rfl (cnz 0 rfl) dX12_finds_12 hf (fun I3 hf => ?_)
  refine r_aload_n (pc := 15) S0 0 dX12_finds_15 rfl rfl ?_
  refine r_iconst (pc := 16) S0 dX12_finds_16 ?_
  refine r_putI (pc := 17) S0 hK fl_X12_351 rfl rfl (cnz 0 rfl) dX12_finds_17 hf (fun I4 hf => ?_)
  refine r_aload_n (pc := 20) S0 0 dX12_finds_20 rfl rfl ?_
  refine r_sipush (pc := 21) S0 dX12_finds_21 (by decide) ?_
  refine r_putI (pc := 24) S0 hK fl_X12_354 rfl rfl (cnz 255 rfl) dX12_finds_24 hf (fun I5 hf => ?_)
  refine r_aload_n (pc := 27) S0 0 dX12_finds_27 rfl rfl ?_
  refine r_iconst (pc := 28) S0 dX12_finds_28 ?_
  refine r_putI (pc := 29) S0 hK fl_X12_357 rfl rfl (cnz 0 rfl) dX12_finds_29 hf (fun I6 hf => ?_)
  refine r_aload_n (pc := 32) S0 0 dX12_finds_32 rfl rfl ?_
  refine r_iconst (pc := 33) S0 dX12_finds_33 ?_
  refine r_putI (pc := 34) S0 hK fl_X12_306 rfl rfl (cnz 0 rfl) dX12_finds_34 hf (fun I7 hf => ?_)
  refine r_aload_n (pc := 37) S0 0 dX12_finds_37 rfl rfl ?_
  refine r_iconst (pc := 38) S0 dX12_finds_38 ?_
  refine r_putI (pc := 39) S0 hK fl_X12_309 rfl rfl (cnz 0 rfl) dX12_finds_39 hf (fun I8 hf => ?_)
  refine r_aload_n (pc := 42) S0 0 dX12_finds_42 rfl rfl ?_
  refine r_iconst (pc := 43) S0 dX12_finds_43 ?_
  refine r_aload_n (pc := 44) S0 0 dX12_finds_44 rfl rfl ?_
  obtain ⟨e9, h10, hf⟩ := ok_bind hf
  refine r_cV_I (pc := 45) [] S0 hK hX mv_X12_337 (k_X12_heldNow h10) (c_X12_heldNow l cA D N sx ad T A nx I8 w0 e9 h10) rfl rfl ⟨by decide, by decide⟩ (Nat.le_of_ble_eq_true rfl) ⟨Nat.le_refl _, Nat.le_refl _⟩ dX12_finds_45 (fun c11 => ?_)
  refine r_iconst (pc := 48) S0 dX12_finds_48 ?_
  refine r_ixor (pc := 49) S0 dX12_finds_49 ?_
  refine r_iconst (pc := 50) S0 dX12_finds_50 ?_
  obtain ⟨e12, h13, hf⟩ := ok_bind hf
  refine r_cV_V (pc := 51) [iv 0, iv (ixor e9 (-1)), iv 0] S0 hK hX mv_X12_378 (k_X12_rows h13) (c_X12_rows l cA D N sx ad T A nx 12 I8 w0 0 (ixor e9 (-1)) 0 (cnz 0 rfl) (cn_toInt _) (cnz 0 rfl) e12 h13) rfl rfl ⟨by dsimp only [rmx]; omega, by dsimp only [rmx]; omega⟩ (Nat.le_of_ble_eq_true rfl) ⟨Nat.le_refl _, Nat.le_refl _⟩ dX12_finds_51 ?_
  refine r_aload_n (pc := 54) S0 0 dX12_finds_54 rfl rfl ?_
  refine r_getI (pc := 55) S0 hK fl_X12_363 dX12_finds_55 hf (fun x14 c15 hf => ?_)
  have hz := ok_some hf
  have hz : (x14, e12) = e := hz
  subst hQ
  subst hz
  exact r_iret (pc := 58) S0 hr hlk c15 dX12_finds_58

set_option maxHeartbeats 4000000 in
set_option maxRecDepth 100000 in
theorem c_X12_findsNow (l : Launch) (cA : Nat → ClassId) (D : va_G) (N : Nat) (sx : Sx) (ad : Nat → Nat) (T : Knd) (A : Rfs) (nx : Nat) (I : Mem) (w0 : Nat) (a1 : Int) (ca1 : cn a1) (e : (Int × Mem)) (h : f_X12_findsNow T A w0 a1 I = some e) : CtI l yX12_findsNow cX12_findsNow 2 (some .int) 20 583 cA D N sx ad T A nx [rv ad w0, iv a1] I e.2 e.1 := by
  refine met_of (lv0 := [(0, rv ad w0), (1, iv a1)]) (by decide) (Nat.le_of_ble_eq_true rfl) rfl (fun p e0 s m args below meth c S0 hK hX hr hlk Q hQ => ?_)
  have hf : OK (f_X12_findsNow T A w0 a1 I) (fun z => z = e) := ⟨e, h, rfl⟩
  unfold f_X12_findsNow at hf
  obtain ⟨hw0, hf⟩ := ok_grd hf
  refine r_aload_n (pc := 0) S0 0 dX12_findsNow_0 rfl rfl ?_
  obtain ⟨e1, h2, hf⟩ := ok_bind hf
  refine r_cV_V (pc := 1) [] S0 hK hX mv_X12_334 (k_X12_lays h2) (c_X12_lays l cA D N sx ad T A nx I w0 e1 h2) rfl rfl ⟨by decide, by decide⟩ (Nat.le_of_ble_eq_true rfl) ⟨Nat.le_refl _, Nat.le_refl _⟩ dX12_findsNow_1 ?_
  refine r_aload_n (pc := 4) S0 0 dX12_findsNow_4 rfl rfl ?_
  refine r_iload_n (pc := 5) S0 1 dX12_findsNow_5 rfl rfl ?_
  obtain ⟨e3, h4, hf⟩ := ok_bind hf
  refine r_cV_I (pc := 6) [iv a1] S0 hK hX mv_X12_382 (k_X12_finds h4) (c_X12_finds l cA D N sx ad T A nx e1 w0 a1 ca1 e3 h4) rfl rfl ⟨by decide, by decide⟩ (Nat.le_of_ble_eq_true rfl) ⟨Nat.le_refl _, Nat.le_refl _⟩ dX12_findsNow_6 (fun c5 => ?_)
  have hz := ok_some hf
  have hz : (e3.1, e3.2) = e := hz
  subst hQ
  subst hz
  exact r_iret (pc := 9) S0 hr hlk c5 dX12_findsNow_9

set_option maxHeartbeats 4000000 in
set_option maxRecDepth 100000 in
theorem c_X12_stepOf (l : Launch) (cA : Nat → ClassId) (D : va_G) (N : Nat) (sx : Sx) (ad : Nat → Nat) (T : Knd) (A : Rfs) (nx : Nat) (I : Mem) (w0 : Nat) (a1 : Int) (a2 : Int) (ca1 : cn a1) (ca2 : cn a2) (e : (Int × Mem)) (h : f_X12_stepOf T A w0 a1 a2 I = some e) : CtI l yX12_stepOf cX12_stepOf 3 (some .int) 21 604 cA D N sx ad T A nx [rv ad w0, iv a1, iv a2] I e.2 e.1 := by
  refine met_of (lv0 := [(0, rv ad w0), (1, iv a1), (2, iv a2)]) (by decide) (Nat.le_of_ble_eq_true rfl) rfl (fun p e0 s m args below meth c S0 hK hX hr hlk Q hQ => ?_)
  have hf : OK (f_X12_stepOf T A w0 a1 a2 I) (fun z => z = e) := ⟨e, h, rfl⟩
  unfold f_X12_stepOf at hf
  obtain ⟨hw0, hf⟩ := ok_grd hf
  refine r_aload_n (pc := 0) S0 0 dX12_stepOf_0 rfl rfl ?_
  refine r_iload_n (pc := 1) S0 1 dX12_stepOf_1 rfl rfl ?_
  obtain ⟨e1, h2, hf⟩ := ok_bind hf
  refine r_cV_I (pc := 2) [iv a1] S0 hK hX mv_X12_385 (k_X12_findsNow h2) (c_X12_findsNow l cA D N sx ad T A nx I w0 a1 ca1 e1 h2) rfl rfl ⟨by decide, by decide⟩ (Nat.le_of_ble_eq_true rfl) ⟨Nat.le_refl _, Nat.le_refl _⟩ dX12_stepOf_2 (fun c3 => ?_)
  refine r_iconst (pc := 5) S0 dX12_stepOf_5 ?_
  refine r_icmp_eq (pc := 6) (tgt := 34) S0 dX12_stepOf_6 (by decide) c3 (cnz (-1) rfl) hf (fun hf => ?_) (fun hf => ?_)
  · refine r_iconst (pc := 34) S0 dX12_stepOf_34 ?_
    have hz := ok_some hf
    have hz : ((-1), e1.2) = e := hz
    subst hQ
    subst hz
    exact r_iret (pc := 35) S0 hr hlk (cnz (-1) rfl) dX12_stepOf_35
  · refine r_iload_n (pc := 9) S0 2 dX12_stepOf_9 rfl rfl ?_
    refine r_i2l (pc := 10) S0 dX12_stepOf_10 ca2 ?_
    refine r_lconst (pc := 11) (v := 0) S0 dX12_stepOf_11 rfl ?_
    refine r_aload_n (pc := 12) S0 0 dX12_stepOf_12 rfl rfl ?_
    refine r_getI (pc := 13) S0 hK fl_X12_366 dX12_stepOf_13 hf (fun x4 c5 hf => ?_)
    refine r_iconst (pc := 16) S0 dX12_stepOf_16 ?_
    refine r_isub (pc := 17) S0 dX12_stepOf_17 ?_
    refine r_i2l (pc := 18) S0 dX12_stepOf_18 (cn_wrap _) ?_
    obtain ⟨e6, h7, hf⟩ := ok_bind hf
    refine r_cS_I (pc := 19) [jv a2, jv 0, jv (isb x4 1)] S0 hK hX ms_X12_94 (c_X12_in l cA D N sx ad T A nx e1.2 a2 0 (isb x4 1) (cl_cn ca2) (clz 0 rfl) (cl_cn (cn_wrap _)) e6 h7) rfl rfl ⟨by decide, by decide⟩ (Nat.le_of_ble_eq_true rfl) ⟨Nat.le_refl _, Nat.le_refl _⟩ dX12_stepOf_19 (fun c8 => ?_)
    refine r_if_eq (pc := 22) (tgt := 34) S0 dX12_stepOf_22 (by decide) c8 hf (fun hf => ?_) (fun hf => ?_)
    · refine r_iconst (pc := 34) S0 dX12_stepOf_34 ?_
      have hz := ok_some hf
      have hz : ((-1), e1.2) = e := hz
      subst hQ
      subst hz
      exact r_iret (pc := 35) S0 hr hlk (cnz (-1) rfl) dX12_stepOf_35
    · refine r_aload_n (pc := 25) S0 0 dX12_stepOf_25 rfl rfl ?_
      refine r_getR (pc := 26) S0 hK fl_X12_68 dX12_stepOf_26 hf (fun x9 hf => ?_)
      refine r_iload_n (pc := 29) S0 2 dX12_stepOf_29 rfl rfl ?_
      refine r_iald (pc := 30) S0 hK dX12_stepOf_30 ca2 hf (fun x10 c11 hf => ?_)
      refine r_goto (pc := 31) (tgt := 35) S0 dX12_stepOf_31 (by decide) ?_
      have hz := ok_some hf
      have hz : (x10, e1.2) = e := hz
      subst hQ
      subst hz
      exact r_iret (pc := 35) S0 hr hlk c11 dX12_stepOf_35

set_option maxHeartbeats 4000000 in
set_option maxRecDepth 100000 in
theorem c_X12_soonest (l : Launch) (cA : Nat → ClassId) (D : va_G) (N : Nat) (sx : Sx) (ad : Nat → Nat) (T : Knd) (A : Rfs) (nx : Nat) (I : Mem) (w0 : Nat)  (e : (Int × Mem)) (h : f_X12_soonest T A w0 I = some e) : CtI l yX12_soonest cX12_soonest 1 (some .int) 21 604 cA D N sx ad T A nx [rv ad w0] I e.2 e.1 := by
  refine met_of (lv0 := [(0, rv ad w0)]) (by decide) (Nat.le_of_ble_eq_true rfl) rfl (fun p e0 s m args below meth c S0 hK hX hr hlk Q hQ => ?_)
  have hf : OK (f_X12_soonest T A w0 I) (fun z => z = e) := ⟨e, h, rfl⟩
  unfold f_X12_soonest at hf
  obtain ⟨hw0, hf⟩ := ok_grd hf
  refine r_aload_n (pc := 0) S0 0 dX12_soonest_0 rfl rfl ?_
  refine r_iconst (pc := 1) S0 dX12_soonest_1 ?_
  refine r_putI (pc := 2) S0 hK fl_X12_89 rfl rfl (cnz 0 rfl) dX12_soonest_2 hf (fun I1 hf => ?_)
  refine r_aload_n (pc := 5) S0 0 dX12_soonest_5 rfl rfl ?_
  obtain ⟨e2, h3, hf⟩ := ok_bind hf
  refine r_cV_I (pc := 6) [] S0 hK hX mv_X12_267 (k_X12_isOffice h3) (c_X12_isOffice l cA D N sx ad T A nx I1 w0 e2 h3) rfl rfl ⟨by decide, by decide⟩ (Nat.le_of_ble_eq_true rfl) ⟨Nat.le_refl _, Nat.le_refl _⟩ dX12_soonest_6 (fun c4 => ?_)
  refine r_if_eq (pc := 9) (tgt := 20) S0 dX12_soonest_9 (by decide) c4 hf (fun hf => ?_) (fun hf => ?_)
  · refine r_bipush (pc := 20) S0 dX12_soonest_20 (by decide) ?_
    have hz := ok_some hf
    have hz : ((-2), I1) = e := hz
    subst hQ
    subst hz
    exact r_iret (pc := 22) S0 hr hlk (cnz (-2) rfl) dX12_soonest_22
  · refine r_aload_n (pc := 12) S0 0 dX12_soonest_12 rfl rfl ?_
    refine r_iconst (pc := 13) S0 dX12_soonest_13 ?_
    obtain ⟨e5, h6, hf⟩ := ok_bind hf
    refine r_cV_I (pc := 14) [iv 0] S0 hK hX mv_X12_385 (k_X12_findsNow h6) (c_X12_findsNow l cA D N sx ad T A nx I1 w0 0 (cnz 0 rfl) e5 h6) rfl rfl ⟨by decide, by decide⟩ (Nat.le_of_ble_eq_true rfl) ⟨Nat.le_refl _, Nat.le_refl _⟩ dX12_soonest_14 (fun c7 => ?_)
    refine r_goto (pc := 17) (tgt := 22) S0 dX12_soonest_17 (by decide) ?_
    have hz := ok_some hf
    have hz : (e5.1, e5.2) = e := hz
    subst hQ
    subst hz
    exact r_iret (pc := 22) S0 hr hlk c7 dX12_soonest_22
