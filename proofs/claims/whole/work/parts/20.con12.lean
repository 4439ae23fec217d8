/-! Contracts, laid by wip/gen/gen.py. -/
set_option maxHeartbeats 4000000 in
set_option maxRecDepth 100000 in
theorem c_X12_wayLine (l : Launch) (cA : Nat → ClassId) (D : va_G) (N : Nat) (sx : Sx) (ad : Nat → Nat) (T : Knd) (A : Rfs) (nx : Nat) (I : Mem) (w0 : Nat)  (e : Mem) (h : f_X12_wayLine T A w0 I = some e) : CtV l yX12_wayLine cX12_wayLine 4 none 5 147 cA D N sx ad T A nx [rv ad w0] I e := by
  refine met_of (lv0 := [(0, rv ad w0)]) (by decide) (Nat.le_of_ble_eq_true rfl) rfl (fun p e0 s m args below meth c S0 hK hX hr hlk Q hQ => ?_)
  have hf : OK (f_X12_wayLine T A w0 I) (fun z => z = e) := ⟨e, h, rfl⟩
  unfold f_X12_wayLine at hf
  obtain ⟨hw0, hf⟩ := ok_grd hf
  refine r_aload_n (pc := 0) S0 0 dX12_wayLine_0 rfl rfl ?_
  obtain ⟨e1, h2, hf⟩ := ok_bind hf
  refine r_cV_I (pc := 1) [] S0 hK hX mv_X12_180 (k_X12_roomHere h2) (c_X12_roomHere l cA D N sx ad T A nx I w0 e1 h2) rfl rfl ⟨by decide, by decide⟩ (Nat.le_of_ble_eq_true rfl) ⟨Nat.le_refl _, Nat.le_refl _⟩ dX12_wayLine_1 (fun c3 => ?_)
  refine r_istore_n (pc := 4) (lv' := [(1, iv e1.1), (0, rv ad w0)]) S0 dX12_wayLine_4 rfl (by decide) rfl ?_
  refine r_aload_n (pc := 5) S0 1 dX12_wayLine_5 rfl rfl ?_
  refine r_getI (pc := 6) S0 hK fl_X12_141 dX12_wayLine_6 hf (fun x4 c5 hf => ?_)
  refine thn_rule (P := fun v7 => G p l e0 (rmx 5 147) s m args below meth c 0 0 Q cA D N 4 ad T A nx 33 [(0, rv ad w0), (1, iv e1.1)] [] v7) hf (fun v7 hf => ?_) (fun K6 hf => ?_)
  · refine r_aload_n (pc := 33) S0 0 dX12_wayLine_33 rfl rfl ?_
    obtain ⟨e14, h15, hf⟩ := ok_bind hf
    refine r_cV_I (pc := 34) [] S0 hK hX mv_X12_180 (k_X12_roomHere h15) (c_X12_roomHere l cA D N sx ad T A nx v7 w0 e14 h15) rfl rfl ⟨by decide, by decide⟩ (Nat.le_of_ble_eq_true rfl) ⟨Nat.le_refl _, Nat.le_refl _⟩ dX12_wayLine_34 (fun c16 => ?_)
    refine r_istore_n (pc := 37) (lv' := [(2, iv e14.1), (0, rv ad w0), (1, iv e1.1)]) S0 dX12_wayLine_37 rfl (by decide) rfl ?_
    refine r_aload_n (pc := 38) S0 1 dX12_wayLine_38 rfl rfl ?_
    refine r_iconst (pc := 39) S0 dX12_wayLine_39 ?_
    refine r_bipush (pc := 40) S0 dX12_wayLine_40 (by decide) ?_
    obtain ⟨e17, h18, hf⟩ := ok_bind hf
    refine r_cV_I (pc := 42) [iv 1, iv 9] S0 hK hX mv_X12_164 (k_X12_number h18) (c_X12_number l cA D N sx ad T A nx e14.2 w0 1 9 (cnz 1 rfl) (cnz 9 rfl) e17 h18) rfl rfl ⟨by decide, by decide⟩ (Nat.le_of_ble_eq_true rfl) ⟨Nat.le_refl _, Nat.le_refl _⟩ dX12_wayLine_42 (fun c19 => ?_)
    refine r_istore_n (pc := 45) (lv' := [(3, iv e17.1), (2, iv e14.1), (0, rv ad w0), (1, iv e1.1)]) S0 dX12_wayLine_45 rfl (by decide) rfl ?_
    refine r_aload_n (pc := 46) S0 2 dX12_wayLine_46 rfl rfl ?_
    refine r_getI (pc := 47) S0 hK fl_X12_141 dX12_wayLine_47 hf (fun x20 c21 hf => ?_)
    refine r_if_eq (pc := 50) (tgt := 54) S0 dX12_wayLine_50 (by decide) c21 hf (fun hf => ?_) (fun hf => ?_)
    · refine r_aload_n (pc := 54) S0 2 dX12_wayLine_54 rfl rfl ?_
      refine r_getR (pc := 55) S0 hK fl_X12_46 dX12_wayLine_55 hf (fun x22 hf => ?_)
      refine r_sipush (pc := 58) S0 dX12_wayLine_58 (by decide) ?_
      refine r_bipush (pc := 61) S0 dX12_wayLine_61 (by decide) ?_
      refine r_iload_n (pc := 63) S0 3 dX12_wayLine_63 rfl rfl ?_
      refine r_imul (pc := 64) S0 dX12_wayLine_64 ?_
      refine r_iadd (pc := 65) S0 dX12_wayLine_65 ?_
      refine r_iload_n (pc := 66) S0 1 dX12_wayLine_66 rfl rfl ?_
      refine r_iadd (pc := 67) S0 dX12_wayLine_67 ?_
      refine r_iload_n (pc := 68) S0 0 dX12_wayLine_68 rfl rfl ?_
      refine r_iast (pc := 69) S0 hK dX12_wayLine_69 (cn_wrap _) c19 hf (fun I23 hf => ?_)
      refine r_aload_n (pc := 70) S0 2 dX12_wayLine_70 rfl rfl ?_
      refine r_getR (pc := 71) S0 hK fl_X12_46 dX12_wayLine_71 hf (fun x24 hf => ?_)
      refine r_sipush (pc := 74) S0 dX12_wayLine_74 (by decide) ?_
      refine r_bipush (pc := 77) S0 dX12_wayLine_77 (by decide) ?_
      refine r_iload_n (pc := 79) S0 1 dX12_wayLine_79 rfl rfl ?_
      refine r_imul (pc := 80) S0 dX12_wayLine_80 ?_
      refine r_iadd (pc := 81) S0 dX12_wayLine_81 ?_
      refine r_iload_n (pc := 82) S0 3 dX12_wayLine_82 rfl rfl ?_
      refine r_iadd (pc := 83) S0 dX12_wayLine_83 ?_
      refine r_iload_n (pc := 84) S0 0 dX12_wayLine_84 rfl rfl ?_
      refine r_iast (pc := 85) S0 hK dX12_wayLine_85 (cn_wrap _) c19 hf (fun I25 hf => ?_)
      have hz := ok_some hf
      have hz : I25 = e := hz
      subst hQ
      subst hz
      exact r_vret (pc := 86) S0 hr hlk dX12_wayLine_86
    · have hz := ok_some hf
      have hz : e17.2 = e := hz
      subst hQ
      subst hz
      exact r_vret (pc := 53) S0 hr hlk dX12_wayLine_53
  · refine r_if_ne (pc := 9) (tgt := 33) S0 dX12_wayLine_9 (by decide) c5 hf (fun hf => ?_) (fun hf => ?_)
    · have hz := ok_some hf
      refine r_lv [1, 0] rfl ?_
      exact K6 e1.2 hz
    · refine r_aload_n (pc := 12) S0 1 dX12_wayLine_12 rfl rfl ?_
      refine r_getI (pc := 13) S0 hK fl_X12_130 dX12_wayLine_13 hf (fun x8 c9 hf => ?_)
      refine r_iconst (pc := 16) S0 dX12_wayLine_16 ?_
      refine r_icmp_ne (pc := 17) (tgt := 33) S0 dX12_wayLine_17 (by decide) c9 (cnz 2 rfl) hf (fun hf => ?_) (fun hf => ?_)
      · have hz := ok_some hf
        refine r_lv [1, 0] rfl ?_
        exact K6 e1.2 hz
      · refine r_aload_n (pc := 20) S0 1 dX12_wayLine_20 rfl rfl ?_
        refine r_getI (pc := 21) S0 hK fl_X12_123 dX12_wayLine_21 hf (fun x10 c11 hf => ?_)
        refine r_iload_n (pc := 24) S0 0 dX12_wayLine_24 rfl rfl ?_
        refine r_icmp_ne (pc := 25) (tgt := 33) S0 dX12_wayLine_25 (by decide) c11 c3 hf (fun hf => ?_) (fun hf => ?_)
        · have hz := ok_some hf
          refine r_lv [1, 0] rfl ?_
          exact K6 e1.2 hz
        · refine r_aload_n (pc := 28) S0 1 dX12_wayLine_28 rfl rfl ?_
          refine r_iconst (pc := 29) S0 dX12_wayLine_29 ?_
          obtain ⟨e12, h13, hf⟩ := ok_bind hf
          refine r_cV_V (pc := 30) [iv 2] S0 hK hX mv_X12_157 (k_X12_fails h13) (c_X12_fails l cA D N sx ad T A nx e1.2 w0 2 (cnz 2 rfl) e12 h13) rfl rfl ⟨by decide, by decide⟩ (Nat.le_of_ble_eq_true rfl) ⟨Nat.le_refl _, Nat.le_refl _⟩ dX12_wayLine_30 ?_
          have hz := ok_some hf
          refine r_lv [1, 0] rfl ?_
          exact K6 e12 hz

set_option maxHeartbeats 4000000 in
set_option maxRecDepth 100000 in
theorem c_X12_askLine (l : Launch) (cA : Nat → ClassId) (D : va_G) (N : Nat) (sx : Sx) (ad : Nat → Nat) (T : Knd) (A : Rfs) (nx : Nat) (I : Mem) (w0 : Nat) (w1 : Nat)  (e : Mem) (h : f_X12_askLine T A w0 w1 I = some e) : CtV l yX12_askLine cX12_askLine 4 none 5 147 cA D N sx ad T A nx [rv ad w0, rv ad w1] I e := by
  refine met_of (lv0 := [(0, rv ad w0), (1, rv ad w1)]) (by decide) (Nat.le_of_ble_eq_true rfl) rfl (fun p e0 s m args below meth c S0 hK hX hr hlk Q hQ => ?_)
  have hf : OK (f_X12_askLine T A w0 w1 I) (fun z => z = e) := ⟨e, h, rfl⟩
  unfold f_X12_askLine at hf
  obtain ⟨hw0, hf⟩ := ok_grd hf
  refine r_aload_n (pc := 0) S0 0 dX12_askLine_0 rfl rfl ?_
  obtain ⟨e1, h2, hf⟩ := ok_bind hf
  refine r_cV_I (pc := 1) [] S0 hK hX mv_X12_207 (k_X12_officialHere h2) (c_X12_officialHere l cA D N sx ad T A nx I w0 e1 h2) rfl rfl ⟨by decide, by decide⟩ (Nat.le_of_ble_eq_true rfl) ⟨Nat.le_refl _, Nat.le_refl _⟩ dX12_askLine_1 (fun c3 => ?_)
  refine r_istore_n (pc := 4) (lv' := [(2, iv e1.1), (0, rv ad w0), (1, rv ad w1)]) S0 dX12_askLine_4 rfl (by decide) rfl ?_
  refine r_aload_n (pc := 5) S0 1 dX12_askLine_5 rfl rfl ?_
  refine r_getI (pc := 6) S0 hK fl_X12_141 dX12_askLine_6 hf (fun x4 c5 hf => ?_)
  refine thn_rule (P := fun v7 => G p l e0 (rmx 5 147) s m args below meth c 0 0 Q cA D N 4 ad T A nx 62 [(0, rv ad w0), (1, rv ad w1), (2, iv e1.1)] [] v7) hf (fun v7 hf => ?_) (fun K6 hf => ?_)
  · refine r_aload_n (pc := 62) S0 0 dX12_askLine_62 rfl rfl ?_
    obtain ⟨e25, h26, hf⟩ := ok_bind hf
    refine r_cV_I (pc := 63) [] S0 hK hX mv_X12_207 (k_X12_officialHere h26) (c_X12_officialHere l cA D N sx ad T A nx v7 w0 e25 h26) rfl rfl ⟨by decide, by decide⟩ (Nat.le_of_ble_eq_true rfl) ⟨Nat.le_refl _, Nat.le_refl _⟩ dX12_askLine_63 (fun c27 => ?_)
    refine r_istore_n (pc := 66) (lv' := [(3, iv e25.1), (0, rv ad w0), (1, rv ad w1), (2, iv e1.1)]) S0 dX12_askLine_66 rfl (by decide) rfl ?_
    refine r_aload_n (pc := 67) S0 1 dX12_askLine_67 rfl rfl ?_
    obtain ⟨e28, h29, hf⟩ := ok_bind hf
    refine r_cV_I (pc := 68) [] S0 hK hX mv_X12_193 (k_X12_isGood h29) (c_X12_isGood l cA D N sx ad T A nx e25.2 w0 e28 h29) rfl rfl ⟨by decide, by decide⟩ (Nat.le_of_ble_eq_true rfl) ⟨Nat.le_refl _, Nat.le_refl _⟩ dX12_askLine_68 (fun c30 => ?_)
    refine r_if_eq (pc := 71) (tgt := 86) S0 dX12_askLine_71 (by decide) c30 hf (fun hf => ?_) (fun hf => ?_)
    · have hz := ok_some hf
      have hz : e25.2 = e := hz
      subst hQ
      subst hz
      exact r_vret (pc := 86) S0 hr hlk dX12_askLine_86
    · refine r_aload_n (pc := 74) S0 2 dX12_askLine_74 rfl rfl ?_
      refine r_bipush (pc := 75) S0 dX12_askLine_75 (by decide) ?_
      refine r_iload_n (pc := 77) S0 3 dX12_askLine_77 rfl rfl ?_
      refine r_iadd (pc := 78) S0 dX12_askLine_78 ?_
      refine r_dup2 (pc := 79) S0 dX12_askLine_79 rfl rfl ?_
      refine r_iald (pc := 80) S0 hK dX12_askLine_80 (cn_wrap _) hf (fun x31 c32 hf => ?_)
      refine r_iconst (pc := 81) S0 dX12_askLine_81 ?_
      refine r_iload_n (pc := 82) S0 0 dX12_askLine_82 rfl rfl ?_
      refine r_ishl (pc := 83) S0 dX12_askLine_83 ?_
      refine r_ior (pc := 84) S0 dX12_askLine_84 ?_
      refine r_iast (pc := 85) S0 hK dX12_askLine_85 (cn_wrap _) (cn_toInt _) hf (fun I33 hf => ?_)
      have hz := ok_some hf
      have hz : I33 = e := hz
      subst hQ
      subst hz
      exact r_vret (pc := 86) S0 hr hlk dX12_askLine_86
  · refine r_if_ne (pc := 9) (tgt := 62) S0 dX12_askLine_9 (by decide) c5 hf (fun hf => ?_) (fun hf => ?_)
    · have hz := ok_some hf
      refine r_lv [1, 2, 0] rfl ?_
      exact K6 e1.2 hz
    · refine r_aload_n (pc := 12) S0 1 dX12_askLine_12 rfl rfl ?_
      refine r_getI (pc := 13) S0 hK fl_X12_130 dX12_askLine_13 hf (fun x8 c9 hf => ?_)
      refine r_iconst (pc := 16) S0 dX12_askLine_16 ?_
      refine r_icmp_ne (pc := 17) (tgt := 62) S0 dX12_askLine_17 (by decide) c9 (cnz 2 rfl) hf (fun hf => ?_) (fun hf => ?_)
      · have hz := ok_some hf
        refine r_lv [1, 2, 0] rfl ?_
        exact K6 e1.2 hz
      · refine r_aload_n (pc := 20) S0 1 dX12_askLine_20 rfl rfl ?_
        refine r_getI (pc := 21) S0 hK fl_X12_123 dX12_askLine_21 hf (fun x10 c11 hf => ?_)
        refine r_aload_n (pc := 24) S0 1 dX12_askLine_24 rfl rfl ?_
        refine r_iconst (pc := 25) S0 dX12_askLine_25 ?_
        obtain ⟨e12, h13, hf⟩ := ok_bind hf
        refine r_cV_I (pc := 26) [iv 3] S0 hK hX mv_X12_171 (k_X12_hasRead h13) (c_X12_hasRead l cA D N sx ad T A nx e1.2 w0 3 (cnz 3 rfl) e12 h13) rfl rfl ⟨by decide, by decide⟩ (Nat.le_of_ble_eq_true rfl) ⟨Nat.le_refl _, Nat.le_refl _⟩ dX12_askLine_26 (fun c14 => ?_)
        refine r_icmp_ge (pc := 29) (tgt := 62) S0 dX12_askLine_29 (by decide) c11 c14 hf (fun hf => ?_) (fun hf => ?_)
        · have hz := ok_some hf
          refine r_lv [1, 2, 0] rfl ?_
          exact K6 e1.2 hz
        · refine r_aload_n (pc := 32) S0 1 dX12_askLine_32 rfl rfl ?_
          refine r_getI (pc := 33) S0 hK fl_X12_123 dX12_askLine_33 hf (fun x15 c16 hf => ?_)
          refine r_iload_n (pc := 36) S0 0 dX12_askLine_36 rfl rfl ?_
          refine thn_rule (P := fun v18 => G p l e0 (rmx 5 147) s m args below meth c 0 0 Q cA D N 4 ad T A nx 57 [(0, rv ad w0), (1, rv ad w1), (2, iv e1.1)] [] e1.2) hf (fun v18 hf => ?_) (fun K17 hf => ?_)
          · refine r_aload_n (pc := 57) S0 0 dX12_askLine_57 rfl rfl ?_
            refine r_iconst (pc := 58) S0 dX12_askLine_58 ?_
            obtain ⟨e23, h24, hf⟩ := ok_bind hf
            refine r_cV_V (pc := 59) [iv 2] S0 hK hX mv_X12_157 (k_X12_fails h24) (c_X12_fails l cA D N sx ad T A nx e1.2 w0 2 (cnz 2 rfl) e23 h24) rfl rfl ⟨by decide, by decide⟩ (Nat.le_of_ble_eq_true rfl) ⟨Nat.le_refl _, Nat.le_refl _⟩ dX12_askLine_59 ?_
            have hz := ok_some hf
            refine r_lv [0, 1, 2] rfl ?_
            exact K6 e23 hz
          · refine r_icmp_eq (pc := 37) (tgt := 57) S0 dX12_askLine_37 (by decide) c16 c3 hf (fun hf => ?_) (fun hf => ?_)
            · have hz := ok_some hf
              refine r_lv [1, 2, 0] rfl ?_
              exact K17 () hz
            · refine r_aload_n (pc := 40) S0 2 dX12_askLine_40 rfl rfl ?_
              refine r_bipush (pc := 41) S0 dX12_askLine_41 (by decide) ?_
              refine r_iload_n (pc := 43) S0 0 dX12_askLine_43 rfl rfl ?_
              refine r_iadd (pc := 44) S0 dX12_askLine_44 ?_
              refine r_iald (pc := 45) S0 hK dX12_askLine_45 (cn_wrap _) hf (fun x19 c20 hf => ?_)
              refine r_aload_n (pc := 46) S0 1 dX12_askLine_46 rfl rfl ?_
              refine r_getI (pc := 47) S0 hK fl_X12_123 dX12_askLine_47 hf (fun x21 c22 hf => ?_)
              refine r_ishr (pc := 50) S0 dX12_askLine_50 ?_
              refine r_iconst (pc := 51) S0 dX12_askLine_51 ?_
              refine r_iand (pc := 52) S0 dX12_askLine_52 ?_
              refine r_iconst (pc := 53) S0 dX12_askLine_53 ?_
              refine r_icmp_ne (pc := 54) (tgt := 62) S0 dX12_askLine_54 (by decide) (cn_toInt _) (cnz 1 rfl) hf (fun hf => ?_) (fun hf => ?_)
              · have hz := ok_some hf
                refine r_lv [1, 2, 0] rfl ?_
                exact K6 e1.2 hz
              · have hz := ok_some hf
                refine r_lv [1, 2, 0] rfl ?_
                exact K17 () hz

set_option maxHeartbeats 4000000 in
set_option maxRecDepth 100000 in
theorem c_X12_leaveLine (l : Launch) (cA : Nat → ClassId) (D : va_G) (N : Nat) (sx : Sx) (ad : Nat → Nat) (T : Knd) (A : Rfs) (nx : Nat) (I : Mem) (w0 : Nat)  (e : Mem) (h : f_X12_leaveLine T A w0 I = some e) : CtV l yX12_leaveLine cX12_leaveLine 4 none 6 172 cA D N sx ad T A nx [rv ad w0] I e := by
  refine met_of (lv0 := [(0, rv ad w0)]) (by decide) (Nat.le_of_ble_eq_true rfl) rfl (fun p e0 s m args below meth c S0 hK hX hr hlk Q hQ => ?_)
  have hf : OK (f_X12_leaveLine T A w0 I) (fun z => z = e) := ⟨e, h, rfl⟩
  unfold f_X12_leaveLine at hf
  obtain ⟨hw0, hf⟩ := ok_grd hf
  refine r_aload_n (pc := 0) S0 0 dX12_leaveLine_0 rfl rfl ?_
  refine r_aload_n (pc := 1) S0 0 dX12_leaveLine_1 rfl rfl ?_
  obtain ⟨e1, h2, hf⟩ := ok_bind hf
  refine r_cV_I (pc := 2) [] S0 hK hX mv_X12_207 (k_X12_officialHere h2) (c_X12_officialHere l cA D N sx ad T A nx I w0 e1 h2) rfl rfl ⟨by decide, by decide⟩ (Nat.le_of_ble_eq_true rfl) ⟨Nat.le_refl _, Nat.le_refl _⟩ dX12_leaveLine_2 (fun c3 => ?_)
  obtain ⟨e4, h5, hf⟩ := ok_bind hf
  refine r_cV_I (pc := 5) [iv e1.1] S0 hK hX mv_X12_175 (k_X12_placeRead h5) (c_X12_placeRead l cA D N sx ad T A nx e1.2 w0 e1.1 c3 e4 h5) rfl rfl ⟨by decide, by decide⟩ (Nat.le_of_ble_eq_true rfl) ⟨Nat.le_refl _, Nat.le_refl _⟩ dX12_leaveLine_5 (fun c6 => ?_)
  refine r_istore_n (pc := 8) (lv' := [(1, iv e4), (0, rv ad w0)]) S0 dX12_leaveLine_8 rfl (by decide) rfl ?_
  refine r_aload_n (pc := 9) S0 1 dX12_leaveLine_9 rfl rfl ?_
  refine r_ldc2 (pc := 10) (z := 131638) S0 kl_X12_184 dX12_leaveLine_10 (by decide) ?_
  refine r_iconst (pc := 13) S0 dX12_leaveLine_13 ?_
  refine r_bipush (pc := 14) S0 dX12_leaveLine_14 (by decide) ?_
  obtain ⟨e7, h8, hf⟩ := ok_bind hf
  refine r_cV_I (pc := 16) [jv 131638, iv 0, iv 39] S0 hK hX mv_X12_186 (k_X12_number_ h8) (c_X12_number_ l cA D N sx ad T A nx e1.2 w0 131638 0 39 (clz 131638 rfl) (cnz 0 rfl) (cnz 39 rfl) e7 h8) rfl rfl ⟨by decide, by decide⟩ (Nat.le_of_ble_eq_true rfl) ⟨Nat.le_refl _, Nat.le_refl _⟩ dX12_leaveLine_16 (fun c9 => ?_)
  refine r_istore_n (pc := 19) (lv' := [(2, iv e7.1), (1, iv e4), (0, rv ad w0)]) S0 dX12_leaveLine_19 rfl (by decide) rfl ?_
  refine r_aload_n (pc := 20) S0 2 dX12_leaveLine_20 rfl rfl ?_
  refine r_ldc2 (pc := 21) (z := 555) S0 kl_X12_189 dX12_leaveLine_21 (by decide) ?_
  refine r_iload_n (pc := 24) S0 0 dX12_leaveLine_24 rfl rfl ?_
  refine r_bipush (pc := 25) S0 dX12_leaveLine_25 (by decide) ?_
  obtain ⟨e10, h11, hf⟩ := ok_bind hf
  refine r_cV_I (pc := 27) [jv 555, iv e7.1, iv 39] S0 hK hX mv_X12_186 (k_X12_number_ h11) (c_X12_number_ l cA D N sx ad T A nx e7.2 w0 555 e7.1 39 (clz 555 rfl) c9 (cnz 39 rfl) e10 h11) rfl rfl ⟨by decide, by decide⟩ (Nat.le_of_ble_eq_true rfl) ⟨Nat.le_refl _, Nat.le_refl _⟩ dX12_leaveLine_27 (fun c12 => ?_)
  refine r_istore_n (pc := 30) (lv' := [(3, iv e10.1), (2, iv e7.1), (1, iv e4), (0, rv ad w0)]) S0 dX12_leaveLine_30 rfl (by decide) rfl ?_
  refine r_aload_n (pc := 31) S0 3 dX12_leaveLine_31 rfl rfl ?_
  refine r_getI (pc := 32) S0 hK fl_X12_141 dX12_leaveLine_32 hf (fun x13 c14 hf => ?_)
  refine r_if_eq (pc := 35) (tgt := 39) S0 dX12_leaveLine_35 (by decide) c14 hf (fun hf => ?_) (fun hf => ?_)
  · refine r_aload_n (pc := 39) S0 3 dX12_leaveLine_39 rfl rfl ?_
    refine r_getR (pc := 40) S0 hK fl_X12_37 dX12_leaveLine_40 hf (fun x15 hf => ?_)
    refine r_iload_n (pc := 43) S0 2 dX12_leaveLine_43 rfl rfl ?_
    refine r_bipush (pc := 44) S0 dX12_leaveLine_44 (by decide) ?_
    refine r_iadd (pc := 46) S0 dX12_leaveLine_46 ?_
    refine r_iload_n (pc := 47) S0 1 dX12_leaveLine_47 rfl rfl ?_
    refine r_iast (pc := 48) S0 hK dX12_leaveLine_48 (cn_wrap _) c9 hf (fun I16 hf => ?_)
    refine r_aload_n (pc := 49) S0 3 dX12_leaveLine_49 rfl rfl ?_
    refine r_getR (pc := 50) S0 hK fl_X12_37 dX12_leaveLine_50 hf (fun x17 hf => ?_)
    refine r_iload_n (pc := 53) S0 2 dX12_leaveLine_53 rfl rfl ?_
    refine r_bipush (pc := 54) S0 dX12_leaveLine_54 (by decide) ?_
    refine r_iadd (pc := 56) S0 dX12_leaveLine_56 ?_
    refine r_iload_n (pc := 57) S0 0 dX12_leaveLine_57 rfl rfl ?_
    refine r_iast (pc := 58) S0 hK dX12_leaveLine_58 (cn_wrap _) c12 hf (fun I18 hf => ?_)
    have hz := ok_some hf
    have hz : I18 = e := hz
    subst hQ
    subst hz
    exact r_vret (pc := 59) S0 hr hlk dX12_leaveLine_59
  · have hz := ok_some hf
    have hz : e10.2 = e := hz
    subst hQ
    subst hz
    exact r_vret (pc := 38) S0 hr hlk dX12_leaveLine_38

set_option maxHeartbeats 4000000 in
set_option maxRecDepth 100000 in
theorem c_X12_line (l : Launch) (cA : Nat → ClassId) (D : va_G) (N : Nat) (sx : Sx) (ad : Nat → Nat) (T : Knd) (A : Rfs) (nx : Nat) (I : Mem) (w0 : Nat)  (e : Mem) (h : f_X12_line T A w0 I = some e) : CtV l yX12_line cX12_line 4 none 7 196 cA D N sx ad T A nx [rv ad w0] I e := by
  refine met_of (lv0 := [(0, rv ad w0)]) (by decide) (Nat.le_of_ble_eq_true rfl) rfl (fun p e0 s m args below meth c S0 hK hX hr hlk Q hQ => ?_)
  have hf : OK (f_X12_line T A w0 I) (fun z => z = e) := ⟨e, h, rfl⟩
  unfold f_X12_line at hf
  obtain ⟨hw0, hf⟩ := ok_grd hf
  refine r_aload_n (pc := 0) S0 0 dX12_line_0 rfl rfl ?_
  refine r_ldc2 (pc := 1) (z := 159320763039) S0 kl_X12_210 dX12_line_1 (by decide) ?_
  obtain ⟨e1, h2, hf⟩ := ok_bind hf
  refine r_cV_I (pc := 4) [jv 159320763039] S0 hK hX mv_X12_147 (k_X12_is h2) (c_X12_is l cA D N sx ad T A nx I w0 159320763039 (clz 159320763039 rfl) e1 h2) rfl rfl ⟨by decide, by decide⟩ (Nat.le_of_ble_eq_true rfl) ⟨Nat.le_refl _, Nat.le_refl _⟩ dX12_line_4 (fun c3 => ?_)
  refine r_istore_n (pc := 7) (lv' := [(1, iv e1), (0, rv ad w0)]) S0 dX12_line_7 rfl (by decide) rfl ?_
  refine r_iload_n (pc := 8) S0 0 dX12_line_8 rfl rfl ?_
  refine thn_rule (P := fun v5 => G p l e0 (rmx 7 196) s m args below meth c 0 0 Q cA D N 4 ad T A nx 27 [(0, rv ad w0), (1, iv e1)] [] v5) hf (fun v5 hf => ?_) (fun K4 hf => ?_)
  · refine r_aload_n (pc := 27) S0 0 dX12_line_27 rfl rfl ?_
    refine r_getI (pc := 28) S0 hK fl_X12_141 dX12_line_28 hf (fun x11 c12 hf => ?_)
    refine r_if_eq (pc := 31) (tgt := 35) S0 dX12_line_31 (by decide) c12 hf (fun hf => ?_) (fun hf => ?_)
    · refine r_aload_n (pc := 35) S0 0 dX12_line_35 rfl rfl ?_
      refine r_ldc2 (pc := 36) (z := 7542361) S0 kl_X12_212 dX12_line_36 (by decide) ?_
      obtain ⟨e13, h14, hf⟩ := ok_bind hf
      refine r_cV_I (pc := 39) [jv 7542361] S0 hK hX mv_X12_147 (k_X12_is h14) (c_X12_is l cA D N sx ad T A nx v5 w0 7542361 (clz 7542361 rfl) e13 h14) rfl rfl ⟨by decide, by decide⟩ (Nat.le_of_ble_eq_true rfl) ⟨Nat.le_refl _, Nat.le_refl _⟩ dX12_line_39 (fun c15 => ?_)
      refine r_istore_n (pc := 42) (lv' := [(2, iv e13), (0, rv ad w0), (1, iv e1)]) S0 dX12_line_42 rfl (by decide) rfl ?_
      refine r_iload_n (pc := 43) S0 2 dX12_line_43 rfl rfl ?_
      refine r_if_eq (pc := 44) (tgt := 58) S0 dX12_line_44 (by decide) c3 hf (fun hf => ?_) (fun hf => ?_)
      · refine r_iload_n (pc := 58) S0 0 dX12_line_58 rfl rfl ?_
        refine thn_rule (P := fun v17 => G p l e0 (rmx 7 196) s m args below meth c 0 0 Q cA D N 4 ad T A nx 72 [(0, rv ad w0), (2, iv e13)] [] v5) hf (fun v17 hf => ?_) (fun K16 hf => ?_)
        · refine r_aload_n (pc := 72) S0 0 dX12_line_72 rfl rfl ?_
          obtain ⟨e52, h53, hf⟩ := ok_bind hf
          refine r_cV_V (pc := 73) [] S0 hK hX mv_X12_151 (k_X12_next h53) (c_X12_next l cA D N sx ad T A nx v5 w0 e52 h53) rfl rfl ⟨by decide, by decide⟩ (Nat.le_of_ble_eq_true rfl) ⟨Nat.le_refl _, Nat.le_refl _⟩ dX12_line_73 ?_
          refine r_aload_n (pc := 76) S0 0 dX12_line_76 rfl rfl ?_
          refine r_iload_n (pc := 77) S0 1 dX12_line_77 rfl rfl ?_
          refine thn_rule (P := fun v55 => G p l e0 (rmx 7 196) s m args below meth c 0 0 Q cA D N 4 ad T A nx 92 [] [rv ad v55, rv ad w0] e52) hf (fun v55 hf => ?_) (fun K54 hf => ?_)
          · obtain ⟨e58, h59, hf⟩ := ok_bind hf
            refine r_cV_V (pc := 92) [rv ad v55] S0 hK hX mv_X12_219 (k_X12_askLine h59) (c_X12_askLine l cA D N sx ad T A nx e52 w0 v55 e58 h59) rfl rfl ⟨by decide, by decide⟩ (Nat.le_of_ble_eq_true rfl) ⟨Nat.le_refl _, Nat.le_refl _⟩ dX12_line_92 ?_
            refine r_goto (pc := 95) (tgt := 178) S0 dX12_line_95 (by decide) ?_
            have hz := ok_some hf
            have hz : e58 = e := hz
            subst hQ
            subst hz
            exact r_vret (pc := 178) S0 hr hlk dX12_line_178
          · refine r_if_eq (pc := 78) (tgt := 88) S0 dX12_line_78 (by decide) c15 hf (fun hf => ?_) (fun hf => ?_)
            · refine r_aload_n (pc := 88) S0 0 dX12_line_88 rfl rfl ?_
              refine r_getR (pc := 89) S0 hK fl_X12_43 dX12_line_89 hf (fun x56 hf => ?_)
              have hz := ok_some hf
              refine r_lv [] rfl ?_
              exact K54 x56 hz
            · refine r_aload_n (pc := 81) S0 0 dX12_line_81 rfl rfl ?_
              refine r_getR (pc := 82) S0 hK fl_X12_40 dX12_line_82 hf (fun x57 hf => ?_)
              refine r_goto (pc := 85) (tgt := 92) S0 dX12_line_85 (by decide) ?_
              have hz := ok_some hf
              refine r_lv [] rfl ?_
              exact K54 x57 hz
        · refine r_if_ne (pc := 59) (tgt := 72) S0 dX12_line_59 (by decide) c15 hf (fun hf => ?_) (fun hf => ?_)
          · have hz := ok_some hf
            refine r_lv [1, 0] rfl ?_
            exact K16 () hz
          · refine r_aload_n (pc := 62) S0 1 dX12_line_62 rfl rfl ?_
            refine r_ldc2 (pc := 63) (z := 40600) S0 kl_X12_217 dX12_line_63 (by decide) ?_
            obtain ⟨e18, h19, hf⟩ := ok_bind hf
            refine r_cV_I (pc := 66) [jv 40600] S0 hK hX mv_X12_147 (k_X12_is h19) (c_X12_is l cA D N sx ad T A nx v5 w0 40600 (clz 40600 rfl) e18 h19) rfl rfl ⟨by decide, by decide⟩ (Nat.le_of_ble_eq_true rfl) ⟨Nat.le_refl _, Nat.le_refl _⟩ dX12_line_66 (fun c20 => ?_)
            refine r_if_eq (pc := 69) (tgt := 98) S0 dX12_line_69 (by decide) c20 hf (fun hf => ?_) (fun hf => ?_)
            · refine r_aload_n (pc := 98) S0 1 dX12_line_98 rfl rfl ?_
              refine r_ldc2 (pc := 99) (z := 16819) S0 kl_X12_223 dX12_line_99 (by decide) ?_
              obtain ⟨e21, h22, hf⟩ := ok_bind hf
              refine r_cV_I (pc := 102) [jv 16819] S0 hK hX mv_X12_154 (k_X12_takes h22) (c_X12_takes l cA D N sx ad T A nx v5 w0 16819 (clz 16819 rfl) e21 h22) rfl rfl ⟨by decide, by decide⟩ (Nat.le_of_ble_eq_true rfl) ⟨Nat.le_refl _, Nat.le_refl _⟩ dX12_line_102 (fun c23 => ?_)
              refine r_if_eq (pc := 105) (tgt := 115) S0 dX12_line_105 (by decide) c23 hf (fun hf => ?_) (fun hf => ?_)
              · refine r_aload_n (pc := 115) S0 1 dX12_line_115 rfl rfl ?_
                refine r_ldc2 (pc := 116) (z := 6477035) S0 kl_X12_228 dX12_line_116 (by decide) ?_
                obtain ⟨e24, h25, hf⟩ := ok_bind hf
                refine r_cV_I (pc := 119) [jv 6477035] S0 hK hX mv_X12_154 (k_X12_takes h25) (c_X12_takes l cA D N sx ad T A nx e21.2 w0 6477035 (clz 6477035 rfl) e24 h25) rfl rfl ⟨by decide, by decide⟩ (Nat.le_of_ble_eq_true rfl) ⟨Nat.le_refl _, Nat.le_refl _⟩ dX12_line_119 (fun c26 => ?_)
                refine r_if_eq (pc := 122) (tgt := 132) S0 dX12_line_122 (by decide) c26 hf (fun hf => ?_) (fun hf => ?_)
                · refine r_aload_n (pc := 132) S0 1 dX12_line_132 rfl rfl ?_
                  refine r_ldc2 (pc := 133) (z := 232603751) S0 kl_X12_233 dX12_line_133 (by decide) ?_
                  obtain ⟨e27, h28, hf⟩ := ok_bind hf
                  refine r_cV_V (pc := 136) [jv 232603751] S0 hK hX mv_X12_160 (k_X12_asks h28) (c_X12_asks l cA D N sx ad T A nx e24.2 w0 232603751 (clz 232603751 rfl) e27 h28) rfl rfl ⟨by decide, by decide⟩ (Nat.le_of_ble_eq_true rfl) ⟨Nat.le_refl _, Nat.le_refl _⟩ dX12_line_136 ?_
                  refine r_iconst (pc := 139) S0 dX12_line_139 ?_
                  refine r_istore_n (pc := 140) (lv' := [(3, iv 0), (2, iv e13), (0, rv ad w0), (1, iv e1)]) S0 dX12_line_140 rfl (by decide) rfl ?_
                  refine thn_rule (P := fun v30 => cn v30.1 → G p l e0 (rmx 7 196) s m args below meth c 0 0 Q cA D N 4 ad T A nx 165 [(0, rv ad w0), (3, iv v30.1)] [] v30.2) hf (fun v30 hf c31 => ?_) (fun K29 hf => ?_)
                  · refine r_aload_n (pc := 165) S0 0 dX12_line_165 rfl rfl ?_
                    obtain ⟨e43, h44, hf⟩ := ok_bind hf
                    refine r_cV_I (pc := 166) [] S0 hK hX mv_X12_193 (k_X12_isGood h44) (c_X12_isGood l cA D N sx ad T A nx v30.2 w0 e43 h44) rfl rfl ⟨by decide, by decide⟩ (Nat.le_of_ble_eq_true rfl) ⟨Nat.le_refl _, Nat.le_refl _⟩ dX12_line_166 (fun c45 => ?_)
                    refine r_if_eq (pc := 169) (tgt := 178) S0 dX12_line_169 (by decide) c45 hf (fun hf => ?_) (fun hf => ?_)
                    · have hz := ok_some hf
                      have hz : v30.2 = e := hz
                      subst hQ
                      subst hz
                      exact r_vret (pc := 178) S0 hr hlk dX12_line_178
                    · refine r_aload_n (pc := 172) S0 0 dX12_line_172 rfl rfl ?_
                      refine r_iconst (pc := 173) S0 dX12_line_173 ?_
                      refine r_iload_n (pc := 174) S0 1 dX12_line_174 rfl rfl ?_
                      obtain ⟨e46, h47, hf⟩ := ok_bind hf
                      refine r_cV_V (pc := 175) [iv 4, iv v30.1] S0 hK hX mv_X12_203 (k_X12_reads h47) (c_X12_reads l cA D N sx ad T A nx v30.2 w0 4 v30.1 (cnz 4 rfl) c31 e46 h47) rfl rfl ⟨by decide, by decide⟩ (Nat.le_of_ble_eq_true rfl) ⟨Nat.le_refl _, Nat.le_refl _⟩ dX12_line_175 ?_
                      have hz := ok_some hf
                      have hz : e46 = e := hz
                      subst hQ
                      subst hz
                      exact r_vret (pc := 178) S0 hr hlk dX12_line_178
                  · refine r_lv [2, 0] rfl ?_
                    refine it_ind (P := fun s33 => cn s33.1 → G p l e0 (rmx 7 196) s m args below meth c 0 0 Q cA D N 4 ad T A nx 141 [(0, rv ad w0), (3, iv s33.1)] [] s33.2) (fun n0 s33 ih32 hf c34 => ?_) FU (0, e27) hf (cnz 0 rfl)
                    refine r_iload_n (pc := 141) S0 1 dX12_line_141 rfl rfl ?_
                    refine r_iconst (pc := 142) S0 dX12_line_142 ?_
                    refine r_aload_n (pc := 143) S0 0 dX12_line_143 rfl rfl ?_
                    obtain ⟨e35, h36, hf⟩ := ok_bind hf
                    refine r_cV_I (pc := 144) [] S0 hK hX mv_X12_207 (k_X12_officialHere h36) (c_X12_officialHere l cA D N sx ad T A nx s33.2 w0 e35 h36) rfl rfl ⟨by decide, by decide⟩ (Nat.le_of_ble_eq_true rfl) ⟨Nat.le_refl _, Nat.le_refl _⟩ dX12_line_144 (fun c37 => ?_)
                    refine r_ishl (pc := 147) S0 dX12_line_147 ?_
                    refine r_ior (pc := 148) S0 dX12_line_148 ?_
                    refine r_istore_n (pc := 149) (lv' := [(3, iv (ior s33.1 (ishl 1 e35.1))), (0, rv ad w0)]) S0 dX12_line_149 rfl (by decide) rfl ?_
                    refine r_aload_n (pc := 150) S0 1 dX12_line_150 rfl rfl ?_
                    obtain ⟨e38, h39, hf⟩ := ok_bind hf
                    refine r_cV_I (pc := 151) [] S0 hK hX mv_X12_193 (k_X12_isGood h39) (c_X12_isGood l cA D N sx ad T A nx e35.2 w0 e38 h39) rfl rfl ⟨by decide, by decide⟩ (Nat.le_of_ble_eq_true rfl) ⟨Nat.le_refl _, Nat.le_refl _⟩ dX12_line_151 (fun c40 => ?_)
                    refine r_if_eq (pc := 154) (tgt := 165) S0 dX12_line_154 (by decide) c40 hf (fun hf => ?_) (fun hf => ?_)
                    · have hz := ok_some hf
                      refine r_lv [1, 0] rfl ?_
                      exact K29 (ior s33.1 (ishl 1 e35.1), e35.2) hz (cn_toInt _)
                    · refine r_aload_n (pc := 157) S0 1 dX12_line_157 rfl rfl ?_
                      refine r_getI (pc := 158) S0 hK fl_X12_130 dX12_line_158 hf (fun x41 c42 hf => ?_)
                      refine r_iconst (pc := 161) S0 dX12_line_161 ?_
                      refine r_icmp_eq (pc := 162) (tgt := 141) S0 dX12_line_162 (by decide) c42 (cnz 2 rfl) hf (fun hf => ?_) (fun hf => ?_)
                      · have hz := ok_some hf
                        refine r_lv [1, 0] rfl ?_
                        exact ih32 (ior s33.1 (ishl 1 e35.1), e35.2) hz (cn_toInt _)
                      · have hz := ok_some hf
                        refine r_lv [1, 0] rfl ?_
                        exact K29 (ior s33.1 (ishl 1 e35.1), e35.2) hz (cn_toInt _)
                · refine r_aload_n (pc := 125) S0 1 dX12_line_125 rfl rfl ?_
                  obtain ⟨e48, h49, hf⟩ := ok_bind hf
                  refine r_cV_V (pc := 126) [] S0 hK hX mv_X12_230 (k_X12_leaveLine h49) (c_X12_leaveLine l cA D N sx ad T A nx e24.2 w0 e48 h49) rfl rfl ⟨by decide, by decide⟩ (Nat.le_of_ble_eq_true rfl) ⟨Nat.le_refl _, Nat.le_refl _⟩ dX12_line_126 ?_
                  refine r_goto (pc := 129) (tgt := 178) S0 dX12_line_129 (by decide) ?_
                  have hz := ok_some hf
                  have hz : e48 = e := hz
                  subst hQ
                  subst hz
                  exact r_vret (pc := 178) S0 hr hlk dX12_line_178
              · refine r_aload_n (pc := 108) S0 1 dX12_line_108 rfl rfl ?_
                obtain ⟨e50, h51, hf⟩ := ok_bind hf
                refine r_cV_V (pc := 109) [] S0 hK hX mv_X12_225 (k_X12_wayLine h51) (c_X12_wayLine l cA D N sx ad T A nx e21.2 w0 e50 h51) rfl rfl ⟨by decide, by decide⟩ (Nat.le_of_ble_eq_true rfl) ⟨Nat.le_refl _, Nat.le_refl _⟩ dX12_line_109 ?_
                refine r_goto (pc := 112) (tgt := 178) S0 dX12_line_112 (by decide) ?_
                have hz := ok_some hf
                have hz : e50 = e := hz
                subst hQ
                subst hz
                exact r_vret (pc := 178) S0 hr hlk dX12_line_178
            · have hz := ok_some hf
              refine r_lv [1, 0] rfl ?_
              exact K16 () hz
      · refine r_aload_n (pc := 47) S0 1 dX12_line_47 rfl rfl ?_
        obtain ⟨e60, h61, hf⟩ := ok_bind hf
        refine r_cV_V (pc := 48) [] S0 hK hX mv_X12_151 (k_X12_next h61) (c_X12_next l cA D N sx ad T A nx v5 w0 e60 h61) rfl rfl ⟨by decide, by decide⟩ (Nat.le_of_ble_eq_true rfl) ⟨Nat.le_refl _, Nat.le_refl _⟩ dX12_line_48 ?_
        refine r_aload_n (pc := 51) S0 1 dX12_line_51 rfl rfl ?_
        obtain ⟨e62, h63, hf⟩ := ok_bind hf
        refine r_cV_V (pc := 52) [] S0 hK hX mv_X12_214 (k_X12_officialLine h63) (c_X12_officialLine l cA D N sx ad T A nx e60 w0 e62 h63) rfl rfl ⟨by decide, by decide⟩ (Nat.le_of_ble_eq_true rfl) ⟨Nat.le_refl _, Nat.le_refl _⟩ dX12_line_52 ?_
        refine r_goto (pc := 55) (tgt := 178) S0 dX12_line_55 (by decide) ?_
        have hz := ok_some hf
        have hz : e62 = e := hz
        subst hQ
        subst hz
        exact r_vret (pc := 178) S0 hr hlk dX12_line_178
    · have hz := ok_some hf
      have hz : v5 = e := hz
      subst hQ
      subst hz
      exact r_vret (pc := 34) S0 hr hlk dX12_line_34
  · refine r_if_eq (pc := 9) (tgt := 27) S0 dX12_line_9 (by decide) c3 hf (fun hf => ?_) (fun hf => ?_)
    · have hz := ok_some hf
      refine r_lv [1, 0] rfl ?_
      exact K4 I hz
    · refine r_aload_n (pc := 12) S0 1 dX12_line_12 rfl rfl ?_
      refine r_iconst (pc := 13) S0 dX12_line_13 ?_
      obtain ⟨e6, h7, hf⟩ := ok_bind hf
      refine r_cV_I (pc := 14) [iv 3] S0 hK hX mv_X12_171 (k_X12_hasRead h7) (c_X12_hasRead l cA D N sx ad T A nx I w0 3 (cnz 3 rfl) e6 h7) rfl rfl ⟨by decide, by decide⟩ (Nat.le_of_ble_eq_true rfl) ⟨Nat.le_refl _, Nat.le_refl _⟩ dX12_line_14 (fun c8 => ?_)
      refine r_bipush (pc := 17) S0 dX12_line_17 (by decide) ?_
      refine r_icmp_ne (pc := 19) (tgt := 27) S0 dX12_line_19 (by decide) c8 (cnz 8 rfl) hf (fun hf => ?_) (fun hf => ?_)
      · have hz := ok_some hf
        refine r_lv [1, 0] rfl ?_
        exact K4 I hz
      · refine r_aload_n (pc := 22) S0 1 dX12_line_22 rfl rfl ?_
        refine r_iconst (pc := 23) S0 dX12_line_23 ?_
        obtain ⟨e9, h10, hf⟩ := ok_bind hf
        refine r_cV_V (pc := 24) [iv 3] S0 hK hX mv_X12_157 (k_X12_fails h10) (c_X12_fails l cA D N sx ad T A nx I w0 3 (cnz 3 rfl) e9 h10) rfl rfl ⟨by decide, by decide⟩ (Nat.le_of_ble_eq_true rfl) ⟨Nat.le_refl _, Nat.le_refl _⟩ dX12_line_24 ?_
        have hz := ok_some hf
        refine r_lv [1, 0] rfl ?_
        exact K4 e9 hz

set_option maxHeartbeats 4000000 in
set_option maxRecDepth 100000 in
theorem c_X12_clears (l : Launch) (cA : Nat → ClassId) (D : va_G) (N : Nat) (sx : Sx) (ad : Nat → Nat) (T : Knd) (A : Rfs) (nx : Nat) (I : Mem) (w0 : Nat)  (e : Mem) (h : f_X12_clears T A w0 I = some e) : CtV l yX12_clears cX12_clears 2 none 2 82 cA D N sx ad T A nx [rv ad w0] I e := by
  refine met_of (lv0 := [(0, rv ad w0)]) (by decide) (Nat.le_of_ble_eq_true rfl) rfl (fun p e0 s m args below meth c S0 hK hX hr hlk Q hQ => ?_)
  have hf : OK (f_X12_clears T A w0 I) (fun z => z = e) := ⟨e, h, rfl⟩
  unfold f_X12_clears at hf
  obtain ⟨hw0, hf⟩ := ok_grd hf
  refine r_aload_n (pc := 0) S0 0 dX12_clears_0 rfl rfl ?_
  refine r_getR (pc := 1) S0 hK fl_X12_31 dX12_clears_1 hf (fun x1 hf => ?_)
  refine r_iconst (pc := 4) S0 dX12_clears_4 ?_
  refine r_iconst (pc := 5) S0 dX12_clears_5 ?_
  refine r_iast (pc := 6) S0 hK dX12_clears_6 (cnz 4 rfl) (cnz 0 rfl) hf (fun I2 hf => ?_)
  refine r_iconst (pc := 7) S0 dX12_clears_7 ?_
  refine r_istore_n (pc := 8) (lv' := [(1, iv 0), (0, rv ad w0)]) S0 dX12_clears_8 rfl (by decide) rfl ?_
  refine thn_rule (P := fun v4 => G p l e0 (rmx 2 82) s m args below meth c 0 0 Q cA D N 2 ad T A nx 27 [(0, rv ad w0)] [] v4) hf (fun v4 hf => ?_) (fun K3 hf => ?_)
  · refine r_iconst (pc := 27) S0 dX12_clears_27 ?_
    refine r_istore_n (pc := 28) (lv' := [(1, iv 0), (0, rv ad w0)]) S0 dX12_clears_28 rfl (by decide) rfl ?_
    refine r_lv [1, 0] rfl ?_
    refine it_ind (P := fun s11 => cn s11.1 → G p l e0 (rmx 2 82) s m args below meth c 0 0 Q cA D N 2 ad T A nx 29 [(0, rv ad w0), (1, iv s11.1)] [] s11.2) (fun n0 s11 ih10 hf c12 => ?_) FU (0, v4) hf (cnz 0 rfl)
    refine r_iload_n (pc := 29) S0 1 dX12_clears_29 rfl rfl ?_
    refine r_bipush (pc := 30) S0 dX12_clears_30 (by decide) ?_
    refine r_icmp_ge (pc := 32) (tgt := 52) S0 dX12_clears_32 (by decide) c12 (cnz 36 rfl) hf (fun hf => ?_) (fun hf => ?_)
    · have hz := ok_some hf
      have hz : s11.2 = e := hz
      subst hQ
      subst hz
      exact r_vret (pc := 52) S0 hr hlk dX12_clears_52
    · refine r_aload_n (pc := 35) S0 0 dX12_clears_35 rfl rfl ?_
      refine r_getR (pc := 36) S0 hK fl_X12_46 dX12_clears_36 hf (fun x13 hf => ?_)
      refine r_sipush (pc := 39) S0 dX12_clears_39 (by decide) ?_
      refine r_iload_n (pc := 42) S0 1 dX12_clears_42 rfl rfl ?_
      refine r_iadd (pc := 43) S0 dX12_clears_43 ?_
      refine r_iconst (pc := 44) S0 dX12_clears_44 ?_
      refine r_iast (pc := 45) S0 hK dX12_clears_45 (cn_wrap _) (cnz 0 rfl) hf (fun I14 hf => ?_)
      refine r_iinc (pc := 46) (lv' := [(1, iv (ia s11.1 1)), (0, rv ad w0)]) S0 1 dX12_clears_46 rfl (by decide) rfl ?_
      refine r_goto (pc := 49) (tgt := 29) S0 dX12_clears_49 (by decide) ?_
      have hz := ok_some hf
      refine r_lv [1, 0] rfl ?_
      exact ih10 (ia s11.1 1, I14) hz (cn_wrap _)
  · refine r_lv [1, 0] rfl ?_
    refine it_ind (P := fun s6 => cn s6.1 → G p l e0 (rmx 2 82) s m args below meth c 0 0 Q cA D N 2 ad T A nx 9 [(0, rv ad w0), (1, iv s6.1)] [] s6.2) (fun n0 s6 ih5 hf c7 => ?_) FU (0, I2) hf (cnz 0 rfl)
    refine r_iload_n (pc := 9) S0 1 dX12_clears_9 rfl rfl ?_
    refine r_bipush (pc := 10) S0 dX12_clears_10 (by decide) ?_
    refine r_icmp_ge (pc := 12) (tgt := 27) S0 dX12_clears_12 (by decide) c7 (cnz 6 rfl) hf (fun hf => ?_) (fun hf => ?_)
    · have hz := ok_some hf
      refine r_lv [0] rfl ?_
      exact K3 s6.2 hz
    · refine r_aload_n (pc := 15) S0 0 dX12_clears_15 rfl rfl ?_
      refine r_iload_n (pc := 16) S0 1 dX12_clears_16 rfl rfl ?_
      refine r_iconst (pc := 17) S0 dX12_clears_17 ?_
      obtain ⟨e8, h9, hf⟩ := ok_bind hf
      refine r_cV_V (pc := 18) [iv s6.1, iv 0] S0 hK hX mv_X12_203 (k_X12_reads h9) (c_X12_reads l cA D N sx ad T A nx s6.2 w0 s6.1 0 c7 (cnz 0 rfl) e8 h9) rfl rfl ⟨by decide, by decide⟩ (Nat.le_of_ble_eq_true rfl) ⟨Nat.le_refl _, Nat.le_refl _⟩ dX12_clears_18 ?_
      refine r_iinc (pc := 21) (lv' := [(1, iv (ia s6.1 1)), (0, rv ad w0)]) S0 1 dX12_clears_21 rfl (by decide) rfl ?_
      refine r_goto (pc := 24) (tgt := 9) S0 dX12_clears_24 (by decide) ?_
      have hz := ok_some hf
      refine r_lv [1, 0] rfl ?_
      exact ih5 (ia s6.1 1, e8) hz (cn_wrap _)

set_option maxHeartbeats 4000000 in
set_option maxRecDepth 100000 in
theorem c_X12_copyRow (l : Launch) (cA : Nat → ClassId) (D : va_G) (N : Nat) (sx : Sx) (ad : Nat → Nat) (T : Knd) (A : Rfs) (nx : Nat) (I : Mem) (w0 : Nat) (a1 : Int) (a2 : Int) (a3 : Int) (ca1 : cn a1) (ca2 : cn a2) (ca3 : cn a3) (e : Mem) (h : f_X12_copyRow T A w0 a1 a2 a3 I = some e) : CtV l yX12_copyRow cX12_copyRow 5 none 1 60 cA D N sx ad T A nx [rv ad w0, iv a1, iv a2, iv a3] I e := by
  refine met_of (lv0 := [(0, rv ad w0), (1, iv a1), (2, iv a2), (3, iv a3)]) (by decide) (Nat.le_of_ble_eq_true rfl) rfl (fun p e0 s m args below meth c S0 hK hX hr hlk Q hQ => ?_)
  have hf : OK (f_X12_copyRow T A w0 a1 a2 a3 I) (fun z => z = e) := ⟨e, h, rfl⟩
  unfold f_X12_copyRow at hf
  refine r_iconst (pc := 0) S0 dX12_copyRow_0 ?_
  refine r_istore (pc := 1) (lv' := [(4, iv 0), (0, rv ad w0), (1, iv a1), (2, iv a2), (3, iv a3)]) S0 dX12_copyRow_1 (by decide) rfl ?_
  refine r_lv [1, 2, 3, 4, 0] rfl ?_
  refine it_ind (P := fun s2 => cn s2.1 → G p l e0 (rmx 1 60) s m args below meth c 0 0 Q cA D N 5 ad T A nx 3 [(0, rv ad w0), (1, iv a1), (2, iv a2), (3, iv a3), (4, iv s2.1)] [] s2.2) (fun n0 s2 ih1 hf c3 => ?_) FU (0, I) hf (cnz 0 rfl)
  refine r_iload (pc := 3) S0 4 dX12_copyRow_3 rfl ?_
  refine r_iload_n (pc := 5) S0 1 dX12_copyRow_5 rfl rfl ?_
  refine r_icmp_ge (pc := 6) (tgt := 31) S0 dX12_copyRow_6 (by decide) c3 ca1 hf (fun hf => ?_) (fun hf => ?_)
  · have hz := ok_some hf
    have hz : s2.2 = e := hz
    subst hQ
    subst hz
    exact r_vret (pc := 31) S0 hr hlk dX12_copyRow_31
  · refine r_aload_n (pc := 9) S0 0 dX12_copyRow_9 rfl rfl ?_
    refine r_iload_n (pc := 10) S0 1 dX12_copyRow_10 rfl rfl ?_
    refine r_iload_n (pc := 11) S0 3 dX12_copyRow_11 rfl rfl ?_
    refine r_imul (pc := 12) S0 dX12_copyRow_12 ?_
    refine r_iload (pc := 13) S0 4 dX12_copyRow_13 rfl ?_
    refine r_iadd (pc := 15) S0 dX12_copyRow_15 ?_
    refine r_aload_n (pc := 16) S0 0 dX12_copyRow_16 rfl rfl ?_
    refine r_iload_n (pc := 17) S0 1 dX12_copyRow_17 rfl rfl ?_
    refine r_iload_n (pc := 18) S0 2 dX12_copyRow_18 rfl rfl ?_
    refine r_imul (pc := 19) S0 dX12_copyRow_19 ?_
    refine r_iload (pc := 20) S0 4 dX12_copyRow_20 rfl ?_
    refine r_iadd (pc := 22) S0 dX12_copyRow_22 ?_
    refine r_iald (pc := 23) S0 hK dX12_copyRow_23 (cn_wrap _) hf (fun x4 c5 hf => ?_)
    refine r_iast (pc := 24) S0 hK dX12_copyRow_24 (cn_wrap _) c5 hf (fun I6 hf => ?_)
    refine r_iinc (pc := 25) (lv' := [(4, iv (ia s2.1 1)), (0, rv ad w0), (1, iv a1), (2, iv a2), (3, iv a3)]) S0 4 dX12_copyRow_25 rfl (by decide) rfl ?_
    refine r_goto (pc := 28) (tgt := 3) S0 dX12_copyRow_28 (by decide) ?_
    have hz := ok_some hf
    refine r_lv [1, 2, 3, 4, 0] rfl ?_
    exact ih1 (ia s2.1 1, I6) hz (cn_wrap _)

set_option maxHeartbeats 4000000 in
set_option maxRecDepth 100000 in
theorem c_X12_copyOffice (l : Launch) (cA : Nat → ClassId) (D : va_G) (N : Nat) (sx : Sx) (ad : Nat → Nat) (T : Knd) (A : Rfs) (nx : Nat) (I : Mem) (w0 : Nat) (a1 : Int) (a2 : Int) (ca1 : cn a1) (ca2 : cn a2) (e : Mem) (h : f_X12_copyOffice T A w0 a1 a2 I = some e) : CtV l yX12_copyOffice cX12_copyOffice 3 none 2 84 cA D N sx ad T A nx [rv ad w0, iv a1, iv a2] I e := by
  refine met_of (lv0 := [(0, rv ad w0), (1, iv a1), (2, iv a2)]) (by decide) (Nat.le_of_ble_eq_true rfl) rfl (fun p e0 s m args below meth c S0 hK hX hr hlk Q hQ => ?_)
  have hf : OK (f_X12_copyOffice T A w0 a1 a2 I) (fun z => z = e) := ⟨e, h, rfl⟩
  unfold f_X12_copyOffice at hf
  obtain ⟨hw0, hf⟩ := ok_grd hf
  refine r_aload_n (pc := 0) S0 0 dX12_copyOffice_0 rfl rfl ?_
  refine r_getR (pc := 1) S0 hK fl_X12_31 dX12_copyOffice_1 hf (fun x1 hf => ?_)
  refine r_iconst (pc := 4) S0 dX12_copyOffice_4 ?_
  refine r_iload_n (pc := 5) S0 1 dX12_copyOffice_5 rfl rfl ?_
  refine r_iload_n (pc := 6) S0 2 dX12_copyOffice_6 rfl rfl ?_
  obtain ⟨e2, h3, hf⟩ := ok_bind hf
  refine r_cS_V (pc := 7) [rv ad x1, iv 1, iv a1, iv a2] S0 hK hX ms_X12_261 (c_X12_copyRow l cA D N sx ad T A nx I x1 1 a1 a2 (cnz 1 rfl) ca1 ca2 e2 h3) rfl rfl ⟨by decide, by decide⟩ (Nat.le_of_ble_eq_true rfl) ⟨Nat.le_refl _, Nat.le_refl _⟩ dX12_copyOffice_7 ?_
  refine r_aload_n (pc := 10) S0 0 dX12_copyOffice_10 rfl rfl ?_
  refine r_getR (pc := 11) S0 hK fl_X12_34 dX12_copyOffice_11 hf (fun x4 hf => ?_)
  refine r_bipush (pc := 14) S0 dX12_copyOffice_14 (by decide) ?_
  refine r_iload_n (pc := 16) S0 1 dX12_copyOffice_16 rfl rfl ?_
  refine r_iload_n (pc := 17) S0 2 dX12_copyOffice_17 rfl rfl ?_
  obtain ⟨e5, h6, hf⟩ := ok_bind hf
  refine r_cS_V (pc := 18) [rv ad x4, iv 6, iv a1, iv a2] S0 hK hX ms_X12_261 (c_X12_copyRow l cA D N sx ad T A nx e2 x4 6 a1 a2 (cnz 6 rfl) ca1 ca2 e5 h6) rfl rfl ⟨by decide, by decide⟩ (Nat.le_of_ble_eq_true rfl) ⟨Nat.le_refl _, Nat.le_refl _⟩ dX12_copyOffice_18 ?_
  refine r_aload_n (pc := 21) S0 0 dX12_copyOffice_21 rfl rfl ?_
  refine r_getR (pc := 22) S0 hK fl_X12_37 dX12_copyOffice_22 hf (fun x7 hf => ?_)
  refine r_bipush (pc := 25) S0 dX12_copyOffice_25 (by decide) ?_
  refine r_iload_n (pc := 27) S0 1 dX12_copyOffice_27 rfl rfl ?_
  refine r_iload_n (pc := 28) S0 2 dX12_copyOffice_28 rfl rfl ?_
  obtain ⟨e8, h9, hf⟩ := ok_bind hf
  refine r_cS_V (pc := 29) [rv ad x7, iv 72, iv a1, iv a2] S0 hK hX ms_X12_261 (c_X12_copyRow l cA D N sx ad T A nx e5 x7 72 a1 a2 (cnz 72 rfl) ca1 ca2 e8 h9) rfl rfl ⟨by decide, by decide⟩ (Nat.le_of_ble_eq_true rfl) ⟨Nat.le_refl _, Nat.le_refl _⟩ dX12_copyOffice_29 ?_
  refine r_aload_n (pc := 32) S0 0 dX12_copyOffice_32 rfl rfl ?_
  refine r_getR (pc := 33) S0 hK fl_X12_40 dX12_copyOffice_33 hf (fun x10 hf => ?_)
  refine r_bipush (pc := 36) S0 dX12_copyOffice_36 (by decide) ?_
  refine r_iload_n (pc := 38) S0 1 dX12_copyOffice_38 rfl rfl ?_
  refine r_iload_n (pc := 39) S0 2 dX12_copyOffice_39 rfl rfl ?_
  obtain ⟨e11, h12, hf⟩ := ok_bind hf
  refine r_cS_V (pc := 40) [rv ad x10, iv 8, iv a1, iv a2] S0 hK hX ms_X12_261 (c_X12_copyRow l cA D N sx ad T A nx e8 x10 8 a1 a2 (cnz 8 rfl) ca1 ca2 e11 h12) rfl rfl ⟨by decide, by decide⟩ (Nat.le_of_ble_eq_true rfl) ⟨Nat.le_refl _, Nat.le_refl _⟩ dX12_copyOffice_40 ?_
  refine r_aload_n (pc := 43) S0 0 dX12_copyOffice_43 rfl rfl ?_
  refine r_getR (pc := 44) S0 hK fl_X12_43 dX12_copyOffice_44 hf (fun x13 hf => ?_)
  refine r_bipush (pc := 47) S0 dX12_copyOffice_47 (by decide) ?_
  refine r_iload_n (pc := 49) S0 1 dX12_copyOffice_49 rfl rfl ?_
  refine r_iload_n (pc := 50) S0 2 dX12_copyOffice_50 rfl rfl ?_
  obtain ⟨e14, h15, hf⟩ := ok_bind hf
  refine r_cS_V (pc := 51) [rv ad x13, iv 8, iv a1, iv a2] S0 hK hX ms_X12_261 (c_X12_copyRow l cA D N sx ad T A nx e11 x13 8 a1 a2 (cnz 8 rfl) ca1 ca2 e14 h15) rfl rfl ⟨by decide, by decide⟩ (Nat.le_of_ble_eq_true rfl) ⟨Nat.le_refl _, Nat.le_refl _⟩ dX12_copyOffice_51 ?_
  refine r_aload_n (pc := 54) S0 0 dX12_copyOffice_54 rfl rfl ?_
  refine r_getR (pc := 55) S0 hK fl_X12_46 dX12_copyOffice_55 hf (fun x16 hf => ?_)
  refine r_bipush (pc := 58) S0 dX12_copyOffice_58 (by decide) ?_
  refine r_iload_n (pc := 60) S0 1 dX12_copyOffice_60 rfl rfl ?_
  refine r_iload_n (pc := 61) S0 2 dX12_copyOffice_61 rfl rfl ?_
  obtain ⟨e17, h18, hf⟩ := ok_bind hf
  refine r_cS_V (pc := 62) [rv ad x16, iv 36, iv a1, iv a2] S0 hK hX ms_X12_261 (c_X12_copyRow l cA D N sx ad T A nx e14 x16 36 a1 a2 (cnz 36 rfl) ca1 ca2 e17 h18) rfl rfl ⟨by decide, by decide⟩ (Nat.le_of_ble_eq_true rfl) ⟨Nat.le_refl _, Nat.le_refl _⟩ dX12_copyOffice_62 ?_
  refine r_aload_n (pc := 65) S0 0 dX12_copyOffice_65 rfl rfl ?_
  refine r_getR (pc := 66) S0 hK fl_X12_49 dX12_copyOffice_66 hf (fun x19 hf => ?_)
  refine r_bipush (pc := 69) S0 dX12_copyOffice_69 (by decide) ?_
  refine r_iload_n (pc := 71) S0 1 dX12_copyOffice_71 rfl rfl ?_
  refine r_iload_n (pc := 72) S0 2 dX12_copyOffice_72 rfl rfl ?_
  obtain ⟨e20, h21, hf⟩ := ok_bind hf
  refine r_cS_V (pc := 73) [rv ad x19, iv 40, iv a1, iv a2] S0 hK hX ms_X12_261 (c_X12_copyRow l cA D N sx ad T A nx e17 x19 40 a1 a2 (cnz 40 rfl) ca1 ca2 e20 h21) rfl rfl ⟨by decide, by decide⟩ (Nat.le_of_ble_eq_true rfl) ⟨Nat.le_refl _, Nat.le_refl _⟩ dX12_copyOffice_73 ?_
  have hz := ok_some hf
  have hz : e20 = e := hz
  subst hQ
  subst hz
  exact r_vret (pc := 76) S0 hr hlk dX12_copyOffice_76

set_option maxHeartbeats 4000000 in
set_option maxRecDepth 100000 in
theorem c_X12_office (l : Launch) (cA : Nat → ClassId) (D : va_G) (N : Nat) (sx : Sx) (ad : Nat → Nat) (T : Knd) (A : Rfs) (nx : Nat) (I : Mem) (w0 : Nat)  (e : (Int × Mem)) (h : f_X12_office T A w0 I = some e) : CtI l yX12_office cX12_office 1 (some .int) 8 219 cA D N sx ad T A nx [rv ad w0] I e.2 e.1 := by
  refine met_of (lv0 := [(0, rv ad w0)]) (by decide) (Nat.le_of_ble_eq_true rfl) rfl (fun p e0 s m args below meth c S0 hK hX hr hlk Q hQ => ?_)
  have hf : OK (f_X12_office T A w0 I) (fun z => z = e) := ⟨e, h, rfl⟩
  unfold f_X12_office at hf
  obtain ⟨hw0, hf⟩ := ok_grd hf
  refine r_aload_n (pc := 0) S0 0 dX12_office_0 rfl rfl ?_
  refine r_iconst (pc := 1) S0 dX12_office_1 ?_
  refine r_putI (pc := 2) S0 hK fl_X12_89 rfl rfl (cnz 0 rfl) dX12_office_2 hf (fun I1 hf => ?_)
  refine r_aload_n (pc := 5) S0 0 dX12_office_5 rfl rfl ?_
  obtain ⟨e2, h3, hf⟩ := ok_bind hf
  refine r_cV_V (pc := 6) [] S0 hK hX mv_X12_235 (k_X12_clears h3) (c_X12_clears l cA D N sx ad T A nx I1 w0 e2 h3) rfl rfl ⟨by decide, by decide⟩ (Nat.le_of_ble_eq_true rfl) ⟨Nat.le_refl _, Nat.le_refl _⟩ dX12_office_6 ?_
  refine r_aload_n (pc := 9) S0 0 dX12_office_9 rfl rfl ?_
  obtain ⟨e4, h5, hf⟩ := ok_bind hf
  refine r_cV_V (pc := 10) [] S0 hK hX mv_X12_238 (k_X12_begins h5) (c_X12_begins l cA D N sx ad T A nx e2 w0 e4 h5) rfl rfl ⟨by decide, by decide⟩ (Nat.le_of_ble_eq_true rfl) ⟨Nat.le_refl _, Nat.le_refl _⟩ dX12_office_10 ?_
  refine thn_rule (P := fun v7 => G p l e0 (rmx 8 219) s m args below meth c 0 0 Q cA D N 1 ad T A nx 121 [(0, rv ad w0)] [] v7) hf (fun v7 hf => ?_) (fun K6 hf => ?_)
  · refine r_aload_n (pc := 121) S0 0 dX12_office_121 rfl rfl ?_
    obtain ⟨e52, h53, hf⟩ := ok_bind hf
    refine r_cV_V (pc := 122) [] S0 hK hX mv_X12_255 (k_X12_isOver h53) (c_X12_isOver l cA D N sx ad T A nx v7 w0 e52 h53) rfl rfl ⟨by decide, by decide⟩ (Nat.le_of_ble_eq_true rfl) ⟨Nat.le_refl _, Nat.le_refl _⟩ dX12_office_122 ?_
    refine r_aload_n (pc := 125) S0 0 dX12_office_125 rfl rfl ?_
    refine r_getI (pc := 126) S0 hK fl_X12_141 dX12_office_126 hf (fun x54 c55 hf => ?_)
    refine r_if_eq (pc := 129) (tgt := 135) S0 dX12_office_129 (by decide) c55 hf (fun hf => ?_) (fun hf => ?_)
    · refine r_aload_n (pc := 135) S0 0 dX12_office_135 rfl rfl ?_
      refine r_iconst (pc := 136) S0 dX12_office_136 ?_
      refine r_iconst (pc := 137) S0 dX12_office_137 ?_
      obtain ⟨e56, h57, hf⟩ := ok_bind hf
      refine r_cV_V (pc := 138) [iv 4, iv 0] S0 hK hX mv_X12_258 (k_X12_copyOffice h57) (c_X12_copyOffice l cA D N sx ad T A nx e52 w0 4 0 (cnz 4 rfl) (cnz 0 rfl) e56 h57) rfl rfl ⟨by decide, by decide⟩ (Nat.le_of_ble_eq_true rfl) ⟨Nat.le_refl _, Nat.le_refl _⟩ dX12_office_138 ?_
      refine r_aload_n (pc := 141) S0 0 dX12_office_141 rfl rfl ?_
      refine r_getR (pc := 142) S0 hK fl_X12_31 dX12_office_142 hf (fun x58 hf => ?_)
      refine r_iconst (pc := 145) S0 dX12_office_145 ?_
      refine r_iald (pc := 146) S0 hK dX12_office_146 (cnz 0 rfl) hf (fun x59 c60 hf => ?_)
      have hz := ok_some hf
      have hz : (x59, e56) = e := hz
      subst hQ
      subst hz
      exact r_iret (pc := 147) S0 hr hlk c60 dX12_office_147
    · refine r_bipush (pc := 132) S0 dX12_office_132 (by decide) ?_
      have hz := ok_some hf
      have hz : ((-4), e52) = e := hz
      subst hQ
      subst hz
      exact r_iret (pc := 134) S0 hr hlk (cnz (-4) rfl) dX12_office_134
  · refine r_lv [0] rfl ?_
    refine it_ind (P := fun s9 => G p l e0 (rmx 8 219) s m args below meth c 0 0 Q cA D N 1 ad T A nx 13 [(0, rv ad w0)] [] s9) (fun n0 s9 ih8 hf => ?_) FU e4 hf
    refine r_aload_n (pc := 13) S0 0 dX12_office_13 rfl rfl ?_
    obtain ⟨e10, h11, hf⟩ := ok_bind hf
    refine r_cV_I (pc := 14) [] S0 hK hX mv_X12_193 (k_X12_isGood h11) (c_X12_isGood l cA D N sx ad T A nx s9 w0 e10 h11) rfl rfl ⟨by decide, by decide⟩ (Nat.le_of_ble_eq_true rfl) ⟨Nat.le_refl _, Nat.le_refl _⟩ dX12_office_14 (fun c12 => ?_)
    refine r_if_eq (pc := 17) (tgt := 121) S0 dX12_office_17 (by decide) c12 hf (fun hf => ?_) (fun hf => ?_)
    · have hz := ok_some hf
      refine r_lv [0] rfl ?_
      exact K6 s9 hz
    · refine r_aload_n (pc := 20) S0 0 dX12_office_20 rfl rfl ?_
      refine r_getI (pc := 21) S0 hK fl_X12_130 dX12_office_21 hf (fun x13 c14 hf => ?_)
      refine r_if_eq (pc := 24) (tgt := 121) S0 dX12_office_24 (by decide) c14 hf (fun hf => ?_) (fun hf => ?_)
      · have hz := ok_some hf
        refine r_lv [0] rfl ?_
        exact K6 s9 hz
      · refine r_aload_n (pc := 27) S0 0 dX12_office_27 rfl rfl ?_
        refine r_getR (pc := 28) S0 hK fl_X12_31 dX12_office_28 hf (fun x15 hf => ?_)
        refine r_iconst (pc := 31) S0 dX12_office_31 ?_
        refine r_iald (pc := 32) S0 hK dX12_office_32 (cnz 4 rfl) hf (fun x16 c17 hf => ?_)
        refine thn_rule (P := fun v19 => G p l e0 (rmx 8 219) s m args below meth c 0 0 Q cA D N 1 ad T A nx 97 [(0, rv ad w0)] [] v19) hf (fun v19 hf => ?_) (fun K18 hf => ?_)
        · refine r_aload_n (pc := 97) S0 0 dX12_office_97 rfl rfl ?_
          obtain ⟨e41, h42, hf⟩ := ok_bind hf
          refine r_cV_I (pc := 98) [] S0 hK hX mv_X12_193 (k_X12_isGood h42) (c_X12_isGood l cA D N sx ad T A nx v19 w0 e41 h42) rfl rfl ⟨by decide, by decide⟩ (Nat.le_of_ble_eq_true rfl) ⟨Nat.le_refl _, Nat.le_refl _⟩ dX12_office_98 (fun c43 => ?_)
          refine thn_rule (P := fun v45 => G p l e0 (rmx 8 219) s m args below meth c 0 0 Q cA D N 1 ad T A nx 108 [(0, rv ad w0)] [] v45) hf (fun v45 hf => ?_) (fun K44 hf => ?_)
          · refine r_aload_n (pc := 108) S0 0 dX12_office_108 rfl rfl ?_
            refine r_getR (pc := 109) S0 hK fl_X12_31 dX12_office_109 hf (fun x48 hf => ?_)
            refine r_iconst (pc := 112) S0 dX12_office_112 ?_
            refine r_dup2 (pc := 113) S0 dX12_office_113 rfl rfl ?_
            refine r_iald (pc := 114) S0 hK dX12_office_114 (cnz 4 rfl) hf (fun x49 c50 hf => ?_)
            refine r_iconst (pc := 115) S0 dX12_office_115 ?_
            refine r_iadd (pc := 116) S0 dX12_office_116 ?_
            refine r_iast (pc := 117) S0 hK dX12_office_117 (cnz 4 rfl) (cn_wrap _) hf (fun I51 hf => ?_)
            refine r_goto (pc := 118) (tgt := 13) S0 dX12_office_118 (by decide) ?_
            have hz := ok_some hf
            refine r_lv [0] rfl ?_
            exact ih8 I51 hz
          · refine r_if_eq (pc := 101) (tgt := 108) S0 dX12_office_101 (by decide) c43 hf (fun hf => ?_) (fun hf => ?_)
            · have hz := ok_some hf
              refine r_lv [0] rfl ?_
              exact K44 v19 hz
            · refine r_aload_n (pc := 104) S0 0 dX12_office_104 rfl rfl ?_
              obtain ⟨e46, h47, hf⟩ := ok_bind hf
              refine r_cV_V (pc := 105) [] S0 hK hX mv_X12_252 (k_X12_ends h47) (c_X12_ends l cA D N sx ad T A nx v19 w0 e46 h47) rfl rfl ⟨by decide, by decide⟩ (Nat.le_of_ble_eq_true rfl) ⟨Nat.le_refl _, Nat.le_refl _⟩ dX12_office_105 ?_
              have hz := ok_some hf
              refine r_lv [0] rfl ?_
              exact K44 e46 hz
        · refine r_if_ne (pc := 33) (tgt := 93) S0 dX12_office_33 (by decide) c17 hf (fun hf => ?_) (fun hf => ?_)
          · refine r_aload_n (pc := 93) S0 0 dX12_office_93 rfl rfl ?_
            obtain ⟨e20, h21, hf⟩ := ok_bind hf
            refine r_cV_V (pc := 94) [] S0 hK hX mv_X12_249 (k_X12_line h21) (c_X12_line l cA D N sx ad T A nx s9 w0 e20 h21) rfl rfl ⟨by decide, by decide⟩ (Nat.le_of_ble_eq_true rfl) ⟨Nat.le_refl _, Nat.le_refl _⟩ dX12_office_94 ?_
            have hz := ok_some hf
            refine r_lv [0] rfl ?_
            exact K18 e20 hz
          · refine r_aload_n (pc := 36) S0 0 dX12_office_36 rfl rfl ?_
            refine r_ldc2 (pc := 37) (z := 218546996) S0 kl_X12_241 dX12_office_37 (by decide) ?_
            obtain ⟨e22, h23, hf⟩ := ok_bind hf
            refine r_cV_V (pc := 40) [jv 218546996] S0 hK hX mv_X12_160 (k_X12_asks h23) (c_X12_asks l cA D N sx ad T A nx s9 w0 218546996 (clz 218546996 rfl) e22 h23) rfl rfl ⟨by decide, by decide⟩ (Nat.le_of_ble_eq_true rfl) ⟨Nat.le_refl _, Nat.le_refl _⟩ dX12_office_40 ?_
            refine r_aload_n (pc := 43) S0 0 dX12_office_43 rfl rfl ?_
            refine r_iconst (pc := 44) S0 dX12_office_44 ?_
            refine r_aload_n (pc := 45) S0 0 dX12_office_45 rfl rfl ?_
            refine r_ldc2 (pc := 46) (z := 9872488) S0 kl_X12_243 dX12_office_46 (by decide) ?_
            refine r_iconst (pc := 49) S0 dX12_office_49 ?_
            refine r_bipush (pc := 50) S0 dX12_office_50 (by decide) ?_
            obtain ⟨e24, h25, hf⟩ := ok_bind hf
            refine r_cV_I (pc := 52) [jv 9872488, iv 1, iv 6] S0 hK hX mv_X12_186 (k_X12_number_ h25) (c_X12_number_ l cA D N sx ad T A nx e22 w0 9872488 1 6 (clz 9872488 rfl) (cnz 1 rfl) (cnz 6 rfl) e24 h25) rfl rfl ⟨by decide, by decide⟩ (Nat.le_of_ble_eq_true rfl) ⟨Nat.le_refl _, Nat.le_refl _⟩ dX12_office_52 (fun c26 => ?_)
            obtain ⟨e27, h28, hf⟩ := ok_bind hf
            refine r_cV_V (pc := 55) [iv 0, iv e24.1] S0 hK hX mv_X12_203 (k_X12_reads h28) (c_X12_reads l cA D N sx ad T A nx e24.2 w0 0 e24.1 (cnz 0 rfl) c26 e27 h28) rfl rfl ⟨by decide, by decide⟩ (Nat.le_of_ble_eq_true rfl) ⟨Nat.le_refl _, Nat.le_refl _⟩ dX12_office_55 ?_
            refine r_aload_n (pc := 58) S0 0 dX12_office_58 rfl rfl ?_
            refine r_ldc2 (pc := 59) (z := 257) S0 kl_X12_245 dX12_office_59 (by decide) ?_
            obtain ⟨e29, h30, hf⟩ := ok_bind hf
            refine r_cV_V (pc := 62) [jv 257] S0 hK hX mv_X12_160 (k_X12_asks h30) (c_X12_asks l cA D N sx ad T A nx e27 w0 257 (clz 257 rfl) e29 h30) rfl rfl ⟨by decide, by decide⟩ (Nat.le_of_ble_eq_true rfl) ⟨Nat.le_refl _, Nat.le_refl _⟩ dX12_office_62 ?_
            refine r_aload_n (pc := 65) S0 0 dX12_office_65 rfl rfl ?_
            refine r_iconst (pc := 66) S0 dX12_office_66 ?_
            refine r_aload_n (pc := 67) S0 0 dX12_office_67 rfl rfl ?_
            obtain ⟨e31, h32, hf⟩ := ok_bind hf
            refine r_cV_I (pc := 68) [] S0 hK hX mv_X12_180 (k_X12_roomHere h32) (c_X12_roomHere l cA D N sx ad T A nx e29 w0 e31 h32) rfl rfl ⟨by decide, by decide⟩ (Nat.le_of_ble_eq_true rfl) ⟨Nat.le_refl _, Nat.le_refl _⟩ dX12_office_68 (fun c33 => ?_)
            obtain ⟨e34, h35, hf⟩ := ok_bind hf
            refine r_cV_V (pc := 71) [iv 1, iv e31.1] S0 hK hX mv_X12_203 (k_X12_reads h35) (c_X12_reads l cA D N sx ad T A nx e31.2 w0 1 e31.1 (cnz 1 rfl) c33 e34 h35) rfl rfl ⟨by decide, by decide⟩ (Nat.le_of_ble_eq_true rfl) ⟨Nat.le_refl _, Nat.le_refl _⟩ dX12_office_71 ?_
            refine r_aload_n (pc := 74) S0 0 dX12_office_74 rfl rfl ?_
            refine r_iconst (pc := 75) S0 dX12_office_75 ?_
            refine r_aload_n (pc := 76) S0 0 dX12_office_76 rfl rfl ?_
            refine r_ldc2 (pc := 77) (z := 47) S0 kl_X12_247 dX12_office_77 (by decide) ?_
            refine r_iconst (pc := 80) S0 dX12_office_80 ?_
            refine r_sipush (pc := 81) S0 dX12_office_81 (by decide) ?_
            obtain ⟨e36, h37, hf⟩ := ok_bind hf
            refine r_cV_I (pc := 84) [jv 47, iv 0, iv 399] S0 hK hX mv_X12_186 (k_X12_number_ h37) (c_X12_number_ l cA D N sx ad T A nx e34 w0 47 0 399 (clz 47 rfl) (cnz 0 rfl) (cnz 399 rfl) e36 h37) rfl rfl ⟨by decide, by decide⟩ (Nat.le_of_ble_eq_true rfl) ⟨Nat.le_refl _, Nat.le_refl _⟩ dX12_office_84 (fun c38 => ?_)
            obtain ⟨e39, h40, hf⟩ := ok_bind hf
            refine r_cV_V (pc := 87) [iv 2, iv e36.1] S0 hK hX mv_X12_203 (k_X12_reads h40) (c_X12_reads l cA D N sx ad T A nx e36.2 w0 2 e36.1 (cnz 2 rfl) c38 e39 h40) rfl rfl ⟨by decide, by decide⟩ (Nat.le_of_ble_eq_true rfl) ⟨Nat.le_refl _, Nat.le_refl _⟩ dX12_office_87 ?_
            refine r_goto (pc := 90) (tgt := 97) S0 dX12_office_90 (by decide) ?_
            have hz := ok_some hf
            refine r_lv [0] rfl ?_
            exact K18 e39 hz

set_option maxHeartbeats 4000000 in
set_option maxRecDepth 100000 in
theorem c_X12_isOffice (l : Launch) (cA : Nat → ClassId) (D : va_G) (N : Nat) (sx : Sx) (ad : Nat → Nat) (T : Knd) (A : Rfs) (nx : Nat) (I : Mem) (w0 : Nat)  (e : Int) (h : f_X12_isOffice T A w0 I = some e) : CtI l yX12_isOffice cX12_isOffice 1 (some .boolean) 1 60 cA D N sx ad T A nx [rv ad w0] I I e := by
  refine met_of (lv0 := [(0, rv ad w0)]) (by decide) (Nat.le_of_ble_eq_true rfl) rfl (fun p e0 s m args below meth c S0 hK hX hr hlk Q hQ => ?_)
  have hf : OK (f_X12_isOffice T A w0 I) (fun z => z = e) := ⟨e, h, rfl⟩
  unfold f_X12_isOffice at hf
  obtain ⟨hw0, hf⟩ := ok_grd hf
  refine r_aload_n (pc := 0) S0 0 dX12_isOffice_0 rfl rfl ?_
  refine r_getR (pc := 1) S0 hK fl_X12_31 dX12_isOffice_1 hf (fun x1 hf => ?_)
  refine r_iconst (pc := 4) S0 dX12_isOffice_4 ?_
  refine r_iald (pc := 5) S0 hK dX12_isOffice_5 (cnz 0 rfl) hf (fun x2 c3 hf => ?_)
  refine r_if_le (pc := 6) (tgt := 13) S0 dX12_isOffice_6 (by decide) c3 hf (fun hf => ?_) (fun hf => ?_)
  · refine r_iconst (pc := 13) S0 dX12_isOffice_13 ?_
    have hz := ok_some hf
    have hz : 0 = e := hz
    subst hQ
    subst hz
    exact r_zret (pc := 14) S0 hr hlk (Or.inl rfl) dX12_isOffice_14
  · refine r_iconst (pc := 9) S0 dX12_isOffice_9 ?_
    refine r_goto (pc := 10) (tgt := 14) S0 dX12_isOffice_10 (by decide) ?_
    have hz := ok_some hf
    have hz : 1 = e := hz
    subst hQ
    subst hz
    exact r_zret (pc := 14) S0 hr hlk (Or.inr rfl) dX12_isOffice_14

set_option maxHeartbeats 4000000 in
set_option maxRecDepth 100000 in
theorem c_X12_isOfficial (l : Launch) (cA : Nat → ClassId) (D : va_G) (N : Nat) (sx : Sx) (ad : Nat → Nat) (T : Knd) (A : Rfs) (nx : Nat) (I : Mem) (w0 : Nat) (a1 : Int) (ca1 : cl a1) (e : Int) (h : f_X12_isOfficial T A w0 a1 I = some e) : CtI l yX12_isOfficial cX12_isOfficial 3 (some .boolean) 2 85 cA D N sx ad T A nx [rv ad w0, jv a1] I I e := by
  refine met_of (lv0 := [(0, rv ad w0), (1, jv a1)]) (by decide) (Nat.le_of_ble_eq_true rfl) rfl (fun p e0 s m args below meth c S0 hK hX hr hlk Q hQ => ?_)
  have hf : OK (f_X12_isOfficial T A w0 a1 I) (fun z => z = e) := ⟨e, h, rfl⟩
  unfold f_X12_isOfficial at hf
  obtain ⟨hw0, hf⟩ := ok_grd hf
  refine r_lload_n (pc := 0) S0 1 dX12_isOfficial_0 rfl rfl ?_
  refine r_lconst (pc := 1) (v := 0) S0 dX12_isOfficial_1 rfl ?_
  refine r_aload_n (pc := 2) S0 0 dX12_isOfficial_2 rfl rfl ?_
  refine r_getR (pc := 3) S0 hK fl_X12_34 dX12_isOfficial_3 hf (fun x1 hf => ?_)
  refine r_iconst (pc := 6) S0 dX12_isOfficial_6 ?_
  refine r_iald (pc := 7) S0 hK dX12_isOfficial_7 (cnz 3 rfl) hf (fun x2 c3 hf => ?_)
  refine r_i2l (pc := 8) S0 dX12_isOfficial_8 c3 ?_
  refine r_lconst (pc := 9) (v := 1) S0 dX12_isOfficial_9 rfl ?_
  refine r_lsub (pc := 10) S0 dX12_isOfficial_10 ?_
  obtain ⟨e4, h5, hf⟩ := ok_bind hf
  refine r_cS_I (pc := 11) [jv a1, jv 0, jv (ils x2 1)] S0 hK hX ms_X12_94 (c_X12_in l cA D N sx ad T A nx I a1 0 (ils x2 1) ca1 (clz 0 rfl) (cl_wrapl _) e4 h5) rfl rfl ⟨by decide, by decide⟩ (Nat.le_of_ble_eq_true rfl) ⟨Nat.le_refl _, Nat.le_refl _⟩ dX12_isOfficial_11 (fun c6 => ?_)
  obtain ⟨_, z7, hf⟩ := ok_bind hf
  have hz := ok_some hf
  have hz : e4 = e := hz
  subst hQ
  subst hz
  exact r_zret (pc := 14) S0 hr hlk (zck_some z7) dX12_isOfficial_14

set_option maxHeartbeats 4000000 in
set_option maxRecDepth 100000 in
theorem c_X12_isRoom (l : Launch) (cA : Nat → ClassId) (D : va_G) (N : Nat) (sx : Sx) (ad : Nat → Nat) (T : Knd) (A : Rfs) (nx : Nat) (I : Mem) (w0 : Nat) (a1 : Int) (ca1 : cn a1) (e : Int) (h : f_X12_isRoom T A w0 a1 I = some e) : CtI l yX12_isRoom cX12_isRoom 2 (some .boolean) 2 85 cA D N sx ad T A nx [rv ad w0, iv a1] I I e := by
  refine met_of (lv0 := [(0, rv ad w0), (1, iv a1)]) (by decide) (Nat.le_of_ble_eq_true rfl) rfl (fun p e0 s m args below meth c S0 hK hX hr hlk Q hQ => ?_)
  have hf : OK (f_X12_isRoom T A w0 a1 I) (fun z => z = e) := ⟨e, h, rfl⟩
  unfold f_X12_isRoom at hf
  obtain ⟨hw0, hf⟩ := ok_grd hf
  refine r_iload_n (pc := 0) S0 1 dX12_isRoom_0 rfl rfl ?_
  refine r_i2l (pc := 1) S0 dX12_isRoom_1 ca1 ?_
  refine r_lconst (pc := 2) (v := 0) S0 dX12_isRoom_2 rfl ?_
  refine r_aload_n (pc := 3) S0 0 dX12_isRoom_3 rfl rfl ?_
  refine r_getR (pc := 4) S0 hK fl_X12_34 dX12_isRoom_4 hf (fun x1 hf => ?_)
  refine r_iconst (pc := 7) S0 dX12_isRoom_7 ?_
  refine r_iald (pc := 8) S0 hK dX12_isRoom_8 (cnz 0 rfl) hf (fun x2 c3 hf => ?_)
  refine r_iconst (pc := 9) S0 dX12_isRoom_9 ?_
  refine r_isub (pc := 10) S0 dX12_isRoom_10 ?_
  refine r_i2l (pc := 11) S0 dX12_isRoom_11 (cn_wrap _) ?_
  obtain ⟨e4, h5, hf⟩ := ok_bind hf
  refine r_cS_I (pc := 12) [jv a1, jv 0, jv (isb x2 1)] S0 hK hX ms_X12_94 (c_X12_in l cA D N sx ad T A nx I a1 0 (isb x2 1) (cl_cn ca1) (clz 0 rfl) (cl_cn (cn_wrap _)) e4 h5) rfl rfl ⟨by decide, by decide⟩ (Nat.le_of_ble_eq_true rfl) ⟨Nat.le_refl _, Nat.le_refl _⟩ dX12_isRoom_12 (fun c6 => ?_)
  obtain ⟨_, z7, hf⟩ := ok_bind hf
  have hz := ok_some hf
  have hz : e4 = e := hz
  subst hQ
  subst hz
  exact r_zret (pc := 15) S0 hr hlk (zck_some z7) dX12_isRoom_15

set_option maxHeartbeats 4000000 in
set_option maxRecDepth 100000 in
theorem c_X12_isHour (l : Launch) (cA : Nat → ClassId) (D : va_G) (N : Nat) (sx : Sx) (ad : Nat → Nat) (T : Knd) (A : Rfs) (nx : Nat) (I : Mem) (a0 : Int) (ca0 : cn a0) (e : Int) (h : f_X12_isHour T A a0 I = some e) : CtI l yX12_isHour cX12_isHour 1 (some .boolean) 2 85 cA D N sx ad T A nx [iv a0] I I e := by
  refine met_of (lv0 := [(0, iv a0)]) (by decide) (Nat.le_of_ble_eq_true rfl) rfl (fun p e0 s m args below meth c S0 hK hX hr hlk Q hQ => ?_)
  have hf : OK (f_X12_isHour T A a0 I) (fun z => z = e) := ⟨e, h, rfl⟩
  unfold f_X12_isHour at hf
  refine r_iload_n (pc := 0) S0 0 dX12_isHour_0 rfl rfl ?_
  refine r_i2l (pc := 1) S0 dX12_isHour_1 ca0 ?_
  refine r_lconst (pc := 2) (v := 0) S0 dX12_isHour_2 rfl ?_
  refine r_ldc2 (pc := 3) (z := 399) S0 kl_X12_265 dX12_isHour_3 (by decide) ?_
  obtain ⟨e1, h2, hf⟩ := ok_bind hf
  refine r_cS_I (pc := 6) [jv a0, jv 0, jv 399] S0 hK hX ms_X12_94 (c_X12_in l cA D N sx ad T A nx I a0 0 399 (cl_cn ca0) (clz 0 rfl) (clz 399 rfl) e1 h2) rfl rfl ⟨by decide, by decide⟩ (Nat.le_of_ble_eq_true rfl) ⟨Nat.le_refl _, Nat.le_refl _⟩ dX12_isHour_6 (fun c3 => ?_)
  obtain ⟨_, z4, hf⟩ := ok_bind hf
  have hz := ok_some hf
  have hz : e1 = e := hz
  subst hQ
  subst hz
  exact r_zret (pc := 9) S0 hr hlk (zck_some z4) dX12_isHour_9

set_option maxHeartbeats 4000000 in
set_option maxRecDepth 100000 in
theorem c_X12_isSet (l : Launch) (cA : Nat → ClassId) (D : va_G) (N : Nat) (sx : Sx) (ad : Nat → Nat) (T : Knd) (A : Rfs) (nx : Nat) (I : Mem) (w0 : Nat) (a1 : Int) (ca1 : cn a1) (e : Int) (h : f_X12_isSet T A w0 a1 I = some e) : CtI l yX12_isSet cX12_isSet 2 (some .boolean) 2 85 cA D N sx ad T A nx [rv ad w0, iv a1] I I e := by
  refine met_of (lv0 := [(0, rv ad w0), (1, iv a1)]) (by decide) (Nat.le_of_ble_eq_true rfl) rfl (fun p e0 s m args below meth c S0 hK hX hr hlk Q hQ => ?_)
  have hf : OK (f_X12_isSet T A w0 a1 I) (fun z => z = e) := ⟨e, h, rfl⟩
  unfold f_X12_isSet at hf
  obtain ⟨hw0, hf⟩ := ok_grd hf
  refine r_aload_n (pc := 0) S0 0 dX12_isSet_0 rfl rfl ?_
  obtain ⟨e1, h2, hf⟩ := ok_bind hf
  refine r_cV_I (pc := 1) [] S0 hK hX mv_X12_267 (k_X12_isOffice h2) (c_X12_isOffice l cA D N sx ad T A nx I w0 e1 h2) rfl rfl ⟨by decide, by decide⟩ (Nat.le_of_ble_eq_true rfl) ⟨Nat.le_refl _, Nat.le_refl _⟩ dX12_isSet_1 (fun c3 => ?_)
  refine r_if_eq (pc := 4) (tgt := 31) S0 dX12_isSet_4 (by decide) c3 hf (fun hf => ?_) (fun hf => ?_)
  · refine r_iconst (pc := 31) S0 dX12_isSet_31 ?_
    have hz := ok_some hf
    have hz : 0 = e := hz
    subst hQ
    subst hz
    exact r_zret (pc := 32) S0 hr hlk (Or.inl rfl) dX12_isSet_32
  · refine r_iload_n (pc := 7) S0 1 dX12_isSet_7 rfl rfl ?_
    refine r_i2l (pc := 8) S0 dX12_isSet_8 ca1 ?_
    refine r_lconst (pc := 9) (v := 0) S0 dX12_isSet_9 rfl ?_
    refine r_iconst (pc := 10) S0 dX12_isSet_10 ?_
    refine r_aload_n (pc := 11) S0 0 dX12_isSet_11 rfl rfl ?_
    refine r_getR (pc := 12) S0 hK fl_X12_34 dX12_isSet_12 hf (fun x4 hf => ?_)
    refine r_iconst (pc := 15) S0 dX12_isSet_15 ?_
    refine r_iald (pc := 16) S0 hK dX12_isSet_16 (cnz 3 rfl) hf (fun x5 c6 hf => ?_)
    refine r_ishl (pc := 17) S0 dX12_isSet_17 ?_
    refine r_iconst (pc := 18) S0 dX12_isSet_18 ?_
    refine r_isub (pc := 19) S0 dX12_isSet_19 ?_
    refine r_i2l (pc := 20) S0 dX12_isSet_20 (cn_wrap _) ?_
    obtain ⟨e7, h8, hf⟩ := ok_bind hf
    refine r_cS_I (pc := 21) [jv a1, jv 0, jv (isb (ishl 1 x5) 1)] S0 hK hX ms_X12_94 (c_X12_in l cA D N sx ad T A nx I a1 0 (isb (ishl 1 x5) 1) (cl_cn ca1) (clz 0 rfl) (cl_cn (cn_wrap _)) e7 h8) rfl rfl ⟨by decide, by decide⟩ (Nat.le_of_ble_eq_true rfl) ⟨Nat.le_refl _, Nat.le_refl _⟩ dX12_isSet_21 (fun c9 => ?_)
    refine r_if_eq (pc := 24) (tgt := 31) S0 dX12_isSet_24 (by decide) c9 hf (fun hf => ?_) (fun hf => ?_)
    · refine r_iconst (pc := 31) S0 dX12_isSet_31 ?_
      have hz := ok_some hf
      have hz : 0 = e := hz
      subst hQ
      subst hz
      exact r_zret (pc := 32) S0 hr hlk (Or.inl rfl) dX12_isSet_32
    · refine r_iconst (pc := 27) S0 dX12_isSet_27 ?_
      refine r_goto (pc := 28) (tgt := 32) S0 dX12_isSet_28 (by decide) ?_
      have hz := ok_some hf
      have hz : 1 = e := hz
      subst hQ
      subst hz
      exact r_zret (pc := 32) S0 hr hlk (Or.inr rfl) dX12_isSet_32

set_option maxHeartbeats 4000000 in
set_option maxRecDepth 100000 in
theorem c_X12_isBit (l : Launch) (cA : Nat → ClassId) (D : va_G) (N : Nat) (sx : Sx) (ad : Nat → Nat) (T : Knd) (A : Rfs) (nx : Nat) (I : Mem) (a0 : Int) (a1 : Int) (ca0 : cn a0) (ca1 : cn a1) (e : Int) (h : f_X12_isBit T A a0 a1 I = some e) : CtI l yX12_isBit cX12_isBit 2 (some .boolean) 1 60 cA D N sx ad T A nx [iv a0, iv a1] I I e := by
  refine met_of (lv0 := [(0, iv a0), (1, iv a1)]) (by decide) (Nat.le_of_ble_eq_true rfl) rfl (fun p e0 s m args below meth c S0 hK hX hr hlk Q hQ => ?_)
  have hf : OK (f_X12_isBit T A a0 a1 I) (fun z => z = e) := ⟨e, h, rfl⟩
  unfold f_X12_isBit at hf
  refine r_iload_n (pc := 0) S0 0 dX12_isBit_0 rfl rfl ?_
  refine r_iload_n (pc := 1) S0 1 dX12_isBit_1 rfl rfl ?_
  refine r_ishr (pc := 2) S0 dX12_isBit_2 ?_
  refine r_iconst (pc := 3) S0 dX12_isBit_3 ?_
  refine r_iand (pc := 4) S0 dX12_isBit_4 ?_
  refine r_iconst (pc := 5) S0 dX12_isBit_5 ?_
  refine r_icmp_ne (pc := 6) (tgt := 13) S0 dX12_isBit_6 (by decide) (cn_toInt _) (cnz 1 rfl) hf (fun hf => ?_) (fun hf => ?_)
  · refine r_iconst (pc := 13) S0 dX12_isBit_13 ?_
    have hz := ok_some hf
    have hz : 0 = e := hz
    subst hQ
    subst hz
    exact r_zret (pc := 14) S0 hr hlk (Or.inl rfl) dX12_isBit_14
  · refine r_iconst (pc := 9) S0 dX12_isBit_9 ?_
    refine r_goto (pc := 10) (tgt := 14) S0 dX12_isBit_10 (by decide) ?_
    have hz := ok_some hf
    have hz : 1 = e := hz
    subst hQ
    subst hz
    exact r_zret (pc := 14) S0 hr hlk (Or.inr rfl) dX12_isBit_14

set_option maxHeartbeats 4000000 in
set_option maxRecDepth 100000 in
theorem c_X12_sizeOf (l : Launch) (cA : Nat → ClassId) (D : va_G) (N : Nat) (sx : Sx) (ad : Nat → Nat) (T : Knd) (A : Rfs) (nx : Nat) (I : Mem) (a0 : Int) (ca0 : cn a0) (e : Int) (h : f_X12_sizeOf T A a0 I = some e) : CtI l yX12_sizeOf cX12_sizeOf 3 (some .int) 1 60 cA D N sx ad T A nx [iv a0] I I e := by
  refine met_of (lv0 := [(0, iv a0)]) (by decide) (Nat.le_of_ble_eq_true rfl) rfl (fun p e0 s m args below meth c S0 hK hX hr hlk Q hQ => ?_)
  have hf : OK (f_X12_sizeOf T A a0 I) (fun z => z = e) := ⟨e, h, rfl⟩
  unfold f_X12_sizeOf at hf
  refine r_iconst (pc := 0) S0 dX12_sizeOf_0 ?_
  refine r_istore_n (pc := 1) (lv' := [(1, iv 0), (0, iv a0)]) S0 dX12_sizeOf_1 rfl (by decide) rfl ?_
  refine r_iload_n (pc := 2) S0 1 dX12_sizeOf_2 rfl rfl ?_
  refine r_istore_n (pc := 3) (lv' := [(2, iv a0), (1, iv 0), (0, iv a0)]) S0 dX12_sizeOf_3 rfl (by decide) rfl ?_
  refine r_lv [1, 0] rfl ?_
  refine it_ind (P := fun s2 => cn s2.1 → cn s2.2 → G p l e0 (rmx 1 60) s m args below meth c 0 0 Q cA D N 3 ad T A nx 4 [(1, iv s2.1), (2, iv s2.2)] [] I) (fun n0 s2 ih1 hf c3 c4 => ?_) FU (0, a0) hf (cnz 0 rfl) ca0
  refine r_iload_n (pc := 4) S0 1 dX12_sizeOf_4 rfl rfl ?_
  refine r_if_eq (pc := 5) (tgt := 20) S0 dX12_sizeOf_5 (by decide) c4 hf (fun hf => ?_) (fun hf => ?_)
  · refine r_iload_n (pc := 20) S0 0 dX12_sizeOf_20 rfl rfl ?_
    have hz := ok_some hf
    have hz : s2.1 = e := hz
    subst hQ
    subst hz
    exact r_iret (pc := 21) S0 hr hlk c3 dX12_sizeOf_21
  · refine r_iinc (pc := 8) (lv' := [(1, iv (ia s2.1 1)), (2, iv s2.2)]) S0 0 dX12_sizeOf_8 rfl (by decide) rfl ?_
    refine r_iload_n (pc := 11) S0 1 dX12_sizeOf_11 rfl rfl ?_
    refine r_iload_n (pc := 12) S0 1 dX12_sizeOf_12 rfl rfl ?_
    refine r_iconst (pc := 13) S0 dX12_sizeOf_13 ?_
    refine r_isub (pc := 14) S0 dX12_sizeOf_14 ?_
    refine r_iand (pc := 15) S0 dX12_sizeOf_15 ?_
    refine r_istore_n (pc := 16) (lv' := [(2, iv (iand s2.2 (isb s2.2 1))), (1, iv (ia s2.1 1))]) S0 dX12_sizeOf_16 rfl (by decide) rfl ?_
    refine r_goto (pc := 17) (tgt := 4) S0 dX12_sizeOf_17 (by decide) ?_
    have hz := ok_some hf
    refine r_lv [1, 0] rfl ?_
    exact ih1 (ia s2.1 1, iand s2.2 (isb s2.2 1)) hz (cn_wrap _) (cn_toInt _)
