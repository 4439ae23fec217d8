/-! Contracts, laid by wip/gen/gen.py. -/
set_option maxHeartbeats 4000000 in
set_option maxRecDepth 100000 in
theorem c_X12_of (l : Launch) (cA : Nat → ClassId) (D : va_G) (N : Nat) (sx : Sx) (ad : Nat → Nat) (T : Knd) (A : Rfs) (nx : Nat) (I : Mem) (w0 : Nat) (a1 : Int) (a2 : Int) (ca1 : cn a1) (ca2 : cn a2) (e : Int) (h : f_X12_of T A w0 a1 a2 I = some e) : CtI l yX12_of cX12_of 3 (some .int) 1 60 cA D N sx ad T A nx [rv ad w0, iv a1, iv a2] I I e := by
  refine met_of (lv0 := [(0, rv ad w0), (1, iv a1), (2, iv a2)]) (by decide) (Nat.le_of_ble_eq_true rfl) rfl (fun p e0 s m args below meth c S0 hK hX hr hlk Q hQ => ?_)
  have hf : OK (f_X12_of T A w0 a1 a2 I) (fun z => z = e) := ⟨e, h, rfl⟩
  unfold f_X12_of at hf
  obtain ⟨hw0, hf⟩ := ok_grd hf
  refine r_aload_n (pc := 0) S0 0 dX12_of_0 rfl rfl ?_
  refine r_getR (pc := 1) S0 hK fl_X12_37 dX12_of_1 hf (fun x1 hf => ?_)
  refine r_bipush (pc := 4) S0 dX12_of_4 (by decide) ?_
  refine r_iload_n (pc := 6) S0 1 dX12_of_6 rfl rfl ?_
  refine r_imul (pc := 7) S0 dX12_of_7 ?_
  refine r_iload_n (pc := 8) S0 2 dX12_of_8 rfl rfl ?_
  refine r_iadd (pc := 9) S0 dX12_of_9 ?_
  refine r_iald (pc := 10) S0 hK dX12_of_10 (cn_wrap _) hf (fun x2 c3 hf => ?_)
  have hz := ok_some hf
  have hz : x2 = e := hz
  subst hQ
  subst hz
  exact r_iret (pc := 11) S0 hr hlk c3 dX12_of_11

set_option maxHeartbeats 4000000 in
set_option maxRecDepth 100000 in
theorem c_X12_official (l : Launch) (cA : Nat → ClassId) (D : va_G) (N : Nat) (sx : Sx) (ad : Nat → Nat) (T : Knd) (A : Rfs) (nx : Nat) (I : Mem) (w0 : Nat) (a1 : Int) (a2 : Int) (ca1 : cn a1) (ca2 : cn a2) (e : (Int × Mem)) (h : f_X12_official T A w0 a1 a2 I = some e) : CtI l yX12_official cX12_official 3 (some .int) 3 107 cA D N sx ad T A nx [rv ad w0, iv a1, iv a2] I e.2 e.1 := by
  refine met_of (lv0 := [(0, rv ad w0), (1, iv a1), (2, iv a2)]) (by decide) (Nat.le_of_ble_eq_true rfl) rfl (fun p e0 s m args below meth c S0 hK hX hr hlk Q hQ => ?_)
  have hf : OK (f_X12_official T A w0 a1 a2 I) (fun z => z = e) := ⟨e, h, rfl⟩
  unfold f_X12_official at hf
  obtain ⟨hw0, hf⟩ := ok_grd hf
  refine r_aload_n (pc := 0) S0 0 dX12_official_0 rfl rfl ?_
  refine r_iconst (pc := 1) S0 dX12_official_1 ?_
  refine r_putI (pc := 2) S0 hK fl_X12_89 rfl rfl (cnz 0 rfl) dX12_official_2 hf (fun I1 hf => ?_)
  refine r_aload_n (pc := 5) S0 0 dX12_official_5 rfl rfl ?_
  refine r_iload_n (pc := 6) S0 1 dX12_official_6 rfl rfl ?_
  refine r_i2l (pc := 7) S0 dX12_official_7 ca1 ?_
  obtain ⟨e2, h3, hf⟩ := ok_bind hf
  refine r_cV_I (pc := 8) [jv a1] S0 hK hX mv_X12_270 (k_X12_isOfficial h3) (c_X12_isOfficial l cA D N sx ad T A nx I1 w0 a1 (cl_cn ca1) e2 h3) rfl rfl ⟨by decide, by decide⟩ (Nat.le_of_ble_eq_true rfl) ⟨Nat.le_refl _, Nat.le_refl _⟩ dX12_official_8 (fun c4 => ?_)
  refine r_if_eq (pc := 11) (tgt := 35) S0 dX12_official_11 (by decide) c4 hf (fun hf => ?_) (fun hf => ?_)
  · refine r_bipush (pc := 35) S0 dX12_official_35 (by decide) ?_
    have hz := ok_some hf
    have hz : ((-2), I1) = e := hz
    subst hQ
    subst hz
    exact r_iret (pc := 37) S0 hr hlk (cnz (-2) rfl) dX12_official_37
  · refine r_iload_n (pc := 14) S0 2 dX12_official_14 rfl rfl ?_
    refine r_i2l (pc := 15) S0 dX12_official_15 ca2 ?_
    refine r_lconst (pc := 16) (v := 0) S0 dX12_official_16 rfl ?_
    refine r_ldc2 (pc := 17) (z := 8) S0 kl_X12_273 dX12_official_17 (by decide) ?_
    obtain ⟨e5, h6, hf⟩ := ok_bind hf
    refine r_cS_I (pc := 20) [jv a2, jv 0, jv 8] S0 hK hX ms_X12_94 (c_X12_in l cA D N sx ad T A nx I1 a2 0 8 (cl_cn ca2) (clz 0 rfl) (clz 8 rfl) e5 h6) rfl rfl ⟨by decide, by decide⟩ (Nat.le_of_ble_eq_true rfl) ⟨Nat.le_refl _, Nat.le_refl _⟩ dX12_official_20 (fun c7 => ?_)
    refine r_if_eq (pc := 23) (tgt := 35) S0 dX12_official_23 (by decide) c7 hf (fun hf => ?_) (fun hf => ?_)
    · refine r_bipush (pc := 35) S0 dX12_official_35 (by decide) ?_
      have hz := ok_some hf
      have hz : ((-2), I1) = e := hz
      subst hQ
      subst hz
      exact r_iret (pc := 37) S0 hr hlk (cnz (-2) rfl) dX12_official_37
    · refine r_aload_n (pc := 26) S0 0 dX12_official_26 rfl rfl ?_
      refine r_iload_n (pc := 27) S0 1 dX12_official_27 rfl rfl ?_
      refine r_iload_n (pc := 28) S0 2 dX12_official_28 rfl rfl ?_
      obtain ⟨e8, h9, hf⟩ := ok_bind hf
      refine r_cV_I (pc := 29) [iv a1, iv a2] S0 hK hX mv_X12_275 (k_X12_of h9) (c_X12_of l cA D N sx ad T A nx I1 w0 a1 a2 ca1 ca2 e8 h9) rfl rfl ⟨by decide, by decide⟩ (Nat.le_of_ble_eq_true rfl) ⟨Nat.le_refl _, Nat.le_refl _⟩ dX12_official_29 (fun c10 => ?_)
      refine r_goto (pc := 32) (tgt := 37) S0 dX12_official_32 (by decide) ?_
      have hz := ok_some hf
      have hz : (e8, I1) = e := hz
      subst hQ
      subst hz
      exact r_iret (pc := 37) S0 hr hlk c10 dX12_official_37

set_option maxHeartbeats 4000000 in
set_option maxRecDepth 100000 in
theorem c_X12_asks_ (l : Launch) (cA : Nat → ClassId) (D : va_G) (N : Nat) (sx : Sx) (ad : Nat → Nat) (T : Knd) (A : Rfs) (nx : Nat) (I : Mem) (w0 : Nat) (a1 : Int) (a2 : Int) (ca1 : cn a1) (ca2 : cn a2) (e : (Int × Mem)) (h : f_X12_asks_ T A w0 a1 a2 I = some e) : CtI l yX12_asks_ cX12_asks_ 3 (some .int) 3 107 cA D N sx ad T A nx [rv ad w0, iv a1, iv a2] I e.2 e.1 := by
  refine met_of (lv0 := [(0, rv ad w0), (1, iv a1), (2, iv a2)]) (by decide) (Nat.le_of_ble_eq_true rfl) rfl (fun p e0 s m args below meth c S0 hK hX hr hlk Q hQ => ?_)
  have hf : OK (f_X12_asks_ T A w0 a1 a2 I) (fun z => z = e) := ⟨e, h, rfl⟩
  unfold f_X12_asks_ at hf
  obtain ⟨hw0, hf⟩ := ok_grd hf
  refine r_aload_n (pc := 0) S0 0 dX12_asks__0 rfl rfl ?_
  refine r_iconst (pc := 1) S0 dX12_asks__1 ?_
  refine r_putI (pc := 2) S0 hK fl_X12_89 rfl rfl (cnz 0 rfl) dX12_asks__2 hf (fun I1 hf => ?_)
  refine r_aload_n (pc := 5) S0 0 dX12_asks__5 rfl rfl ?_
  refine r_iload_n (pc := 6) S0 1 dX12_asks__6 rfl rfl ?_
  refine r_i2l (pc := 7) S0 dX12_asks__7 ca1 ?_
  obtain ⟨e2, h3, hf⟩ := ok_bind hf
  refine r_cV_I (pc := 8) [jv a1] S0 hK hX mv_X12_270 (k_X12_isOfficial h3) (c_X12_isOfficial l cA D N sx ad T A nx I1 w0 a1 (cl_cn ca1) e2 h3) rfl rfl ⟨by decide, by decide⟩ (Nat.le_of_ble_eq_true rfl) ⟨Nat.le_refl _, Nat.le_refl _⟩ dX12_asks__8 (fun c4 => ?_)
  refine r_if_eq (pc := 11) (tgt := 46) S0 dX12_asks__11 (by decide) c4 hf (fun hf => ?_) (fun hf => ?_)
  · refine r_bipush (pc := 46) S0 dX12_asks__46 (by decide) ?_
    have hz := ok_some hf
    have hz : ((-2), I1) = e := hz
    subst hQ
    subst hz
    exact r_iret (pc := 48) S0 hr hlk (cnz (-2) rfl) dX12_asks__48
  · refine r_iload_n (pc := 14) S0 2 dX12_asks__14 rfl rfl ?_
    refine r_i2l (pc := 15) S0 dX12_asks__15 ca2 ?_
    refine r_lconst (pc := 16) (v := 0) S0 dX12_asks__16 rfl ?_
    refine r_lconst (pc := 17) (v := 1) S0 dX12_asks__17 rfl ?_
    obtain ⟨e5, h6, hf⟩ := ok_bind hf
    refine r_cS_I (pc := 18) [jv a2, jv 0, jv 1] S0 hK hX ms_X12_94 (c_X12_in l cA D N sx ad T A nx I1 a2 0 1 (cl_cn ca2) (clz 0 rfl) (clz 1 rfl) e5 h6) rfl rfl ⟨by decide, by decide⟩ (Nat.le_of_ble_eq_true rfl) ⟨Nat.le_refl _, Nat.le_refl _⟩ dX12_asks__18 (fun c7 => ?_)
    refine r_if_eq (pc := 21) (tgt := 46) S0 dX12_asks__21 (by decide) c7 hf (fun hf => ?_) (fun hf => ?_)
    · refine r_bipush (pc := 46) S0 dX12_asks__46 (by decide) ?_
      have hz := ok_some hf
      have hz : ((-2), I1) = e := hz
      subst hQ
      subst hz
      exact r_iret (pc := 48) S0 hr hlk (cnz (-2) rfl) dX12_asks__48
    · refine r_iload_n (pc := 24) S0 2 dX12_asks__24 rfl rfl ?_
      refine r_if_ne (pc := 25) (tgt := 37) S0 dX12_asks__25 (by decide) ca2 hf (fun hf => ?_) (fun hf => ?_)
      · refine r_aload_n (pc := 37) S0 0 dX12_asks__37 rfl rfl ?_
        refine r_getR (pc := 38) S0 hK fl_X12_43 dX12_asks__38 hf (fun x8 hf => ?_)
        refine r_iload_n (pc := 41) S0 1 dX12_asks__41 rfl rfl ?_
        refine r_iald (pc := 42) S0 hK dX12_asks__42 ca1 hf (fun x9 c10 hf => ?_)
        refine r_goto (pc := 43) (tgt := 48) S0 dX12_asks__43 (by decide) ?_
        have hz := ok_some hf
        have hz : (x9, I1) = e := hz
        subst hQ
        subst hz
        exact r_iret (pc := 48) S0 hr hlk c10 dX12_asks__48
      · refine r_aload_n (pc := 28) S0 0 dX12_asks__28 rfl rfl ?_
        refine r_getR (pc := 29) S0 hK fl_X12_40 dX12_asks__29 hf (fun x11 hf => ?_)
        refine r_iload_n (pc := 32) S0 1 dX12_asks__32 rfl rfl ?_
        refine r_iald (pc := 33) S0 hK dX12_asks__33 ca1 hf (fun x12 c13 hf => ?_)
        refine r_goto (pc := 34) (tgt := 48) S0 dX12_asks__34 (by decide) ?_
        have hz := ok_some hf
        have hz : (x12, I1) = e := hz
        subst hQ
        subst hz
        exact r_iret (pc := 48) S0 hr hlk c13 dX12_asks__48

set_option maxHeartbeats 4000000 in
set_option maxRecDepth 100000 in
theorem c_X12_asked (l : Launch) (cA : Nat → ClassId) (D : va_G) (N : Nat) (sx : Sx) (ad : Nat → Nat) (T : Knd) (A : Rfs) (nx : Nat) (I : Mem) (w0 : Nat) (a1 : Int) (a2 : Int) (ca1 : cn a1) (ca2 : cn a2) (e : (Int × Mem)) (h : f_X12_asked T A w0 a1 a2 I = some e) : CtI l yX12_asked cX12_asked 5 (some .int) 3 107 cA D N sx ad T A nx [rv ad w0, iv a1, iv a2] I e.2 e.1 := by
  refine met_of (lv0 := [(0, rv ad w0), (1, iv a1), (2, iv a2)]) (by decide) (Nat.le_of_ble_eq_true rfl) rfl (fun p e0 s m args below meth c S0 hK hX hr hlk Q hQ => ?_)
  have hf : OK (f_X12_asked T A w0 a1 a2 I) (fun z => z = e) := ⟨e, h, rfl⟩
  unfold f_X12_asked at hf
  obtain ⟨hw0, hf⟩ := ok_grd hf
  refine r_aload_n (pc := 0) S0 0 dX12_asked_0 rfl rfl ?_
  refine r_iconst (pc := 1) S0 dX12_asked_1 ?_
  refine r_putI (pc := 2) S0 hK fl_X12_89 rfl rfl (cnz 0 rfl) dX12_asked_2 hf (fun I1 hf => ?_)
  refine r_aload_n (pc := 5) S0 0 dX12_asked_5 rfl rfl ?_
  refine r_iload_n (pc := 6) S0 1 dX12_asked_6 rfl rfl ?_
  refine r_i2l (pc := 7) S0 dX12_asked_7 ca1 ?_
  obtain ⟨e2, h3, hf⟩ := ok_bind hf
  refine r_cV_I (pc := 8) [jv a1] S0 hK hX mv_X12_270 (k_X12_isOfficial h3) (c_X12_isOfficial l cA D N sx ad T A nx I1 w0 a1 (cl_cn ca1) e2 h3) rfl rfl ⟨by decide, by decide⟩ (Nat.le_of_ble_eq_true rfl) ⟨Nat.le_refl _, Nat.le_refl _⟩ dX12_asked_8 (fun c4 => ?_)
  refine r_if_eq (pc := 11) (tgt := 24) S0 dX12_asked_11 (by decide) c4 hf (fun hf => ?_) (fun hf => ?_)
  · refine r_bipush (pc := 24) S0 dX12_asked_24 (by decide) ?_
    have hz := ok_some hf
    have hz : ((-2), I1) = e := hz
    subst hQ
    subst hz
    exact r_iret (pc := 26) S0 hr hlk (cnz (-2) rfl) dX12_asked_26
  · refine r_iload_n (pc := 14) S0 2 dX12_asked_14 rfl rfl ?_
    refine r_i2l (pc := 15) S0 dX12_asked_15 ca2 ?_
    refine r_lconst (pc := 16) (v := 0) S0 dX12_asked_16 rfl ?_
    refine r_lconst (pc := 17) (v := 1) S0 dX12_asked_17 rfl ?_
    obtain ⟨e5, h6, hf⟩ := ok_bind hf
    refine r_cS_I (pc := 18) [jv a2, jv 0, jv 1] S0 hK hX ms_X12_94 (c_X12_in l cA D N sx ad T A nx I1 a2 0 1 (cl_cn ca2) (clz 0 rfl) (clz 1 rfl) e5 h6) rfl rfl ⟨by decide, by decide⟩ (Nat.le_of_ble_eq_true rfl) ⟨Nat.le_refl _, Nat.le_refl _⟩ dX12_asked_18 (fun c7 => ?_)
    refine r_if_ne (pc := 21) (tgt := 27) S0 dX12_asked_21 (by decide) c7 hf (fun hf => ?_) (fun hf => ?_)
    · refine r_iconst (pc := 27) S0 dX12_asked_27 ?_
      refine r_istore_n (pc := 28) (lv' := [(3, iv 0), (0, rv ad w0), (1, iv a1), (2, iv a2)]) S0 dX12_asked_28 rfl (by decide) rfl ?_
      refine r_iconst (pc := 29) S0 dX12_asked_29 ?_
      refine r_istore (pc := 30) (lv' := [(4, iv 0), (3, iv 0), (0, rv ad w0), (1, iv a1), (2, iv a2)]) S0 dX12_asked_30 (by decide) rfl ?_
      refine r_lv [2, 3, 4, 1, 0] rfl ?_
      refine it_ind (P := fun s9 => cn s9.1 → cn s9.2 → G p l e0 (rmx 3 107) s m args below meth c 0 0 Q cA D N 5 ad T A nx 32 [(0, rv ad w0), (1, iv a1), (2, iv a2), (3, iv s9.1), (4, iv s9.2)] [] I1) (fun n0 s9 ih8 hf c10 c11 => ?_) FU (0, 0) hf (cnz 0 rfl) (cnz 0 rfl)
      refine r_iload (pc := 32) S0 4 dX12_asked_32 rfl ?_
      refine r_aload_n (pc := 34) S0 0 dX12_asked_34 rfl rfl ?_
      refine r_getR (pc := 35) S0 hK fl_X12_34 dX12_asked_35 hf (fun x12 hf => ?_)
      refine r_iconst (pc := 38) S0 dX12_asked_38 ?_
      refine r_iald (pc := 39) S0 hK dX12_asked_39 (cnz 3 rfl) hf (fun x13 c14 hf => ?_)
      refine r_icmp_ge (pc := 40) (tgt := 88) S0 dX12_asked_40 (by decide) c11 c14 hf (fun hf => ?_) (fun hf => ?_)
      · refine r_iload_n (pc := 88) S0 3 dX12_asked_88 rfl rfl ?_
        have hz := ok_some hf
        have hz : (s9.1, I1) = e := hz
        subst hQ
        subst hz
        exact r_iret (pc := 89) S0 hr hlk c10 dX12_asked_89
      · refine r_iload_n (pc := 43) S0 3 dX12_asked_43 rfl rfl ?_
        refine r_iload_n (pc := 44) S0 2 dX12_asked_44 rfl rfl ?_
        refine thn_rule (P := fun v16 => cn v16 → G p l e0 (rmx 3 107) s m args below meth c 0 0 Q cA D N 5 ad T A nx 65 [(0, rv ad w0), (1, iv a1), (2, iv a2), (4, iv s9.2)] [iv v16, iv s9.1] I1) hf (fun v16 hf c17 => ?_) (fun K15 hf => ?_)
        · refine r_iload_n (pc := 65) S0 1 dX12_asked_65 rfl rfl ?_
          obtain ⟨e24, h25, hf⟩ := ok_bind hf
          refine r_cS_I (pc := 66) [iv v16, iv a1] S0 hK hX ms_X12_278 (c_X12_isBit l cA D N sx ad T A nx I1 v16 a1 c17 ca1 e24 h25) rfl rfl ⟨by decide, by decide⟩ (Nat.le_of_ble_eq_true rfl) ⟨Nat.le_refl _, Nat.le_refl _⟩ dX12_asked_66 (fun c26 => ?_)
          refine thn_rule (P := fun v28 => cn v28 → G p l e0 (rmx 3 107) s m args below meth c 0 0 Q cA D N 5 ad T A nx 80 [(0, rv ad w0), (1, iv a1), (2, iv a2), (4, iv s9.2)] [iv v28, iv s9.1] I1) hf (fun v28 hf c29 => ?_) (fun K27 hf => ?_)
          · refine r_ior (pc := 80) S0 dX12_asked_80 ?_
            refine r_istore_n (pc := 81) (lv' := [(3, iv (ior s9.1 v28)), (0, rv ad w0), (1, iv a1), (2, iv a2), (4, iv s9.2)]) S0 dX12_asked_81 rfl (by decide) rfl ?_
            refine r_iinc (pc := 82) (lv' := [(4, iv (ia s9.2 1)), (3, iv (ior s9.1 v28)), (0, rv ad w0), (1, iv a1), (2, iv a2)]) S0 4 dX12_asked_82 rfl (by decide) rfl ?_
            refine r_goto (pc := 85) (tgt := 32) S0 dX12_asked_85 (by decide) ?_
            have hz := ok_some hf
            refine r_lv [2, 3, 4, 1, 0] rfl ?_
            exact ih8 (ior s9.1 v28, ia s9.2 1) hz (cn_toInt _) (cn_wrap _)
          · refine r_if_eq (pc := 69) (tgt := 79) S0 dX12_asked_69 (by decide) c26 hf (fun hf => ?_) (fun hf => ?_)
            · refine r_iconst (pc := 79) S0 dX12_asked_79 ?_
              have hz := ok_some hf
              refine r_lv [0, 1, 2, 3] rfl ?_
              exact K27 0 hz (cnz 0 rfl)
            · refine r_iconst (pc := 72) S0 dX12_asked_72 ?_
              refine r_iload (pc := 73) S0 3 dX12_asked_73 rfl ?_
              refine r_ishl (pc := 75) S0 dX12_asked_75 ?_
              refine r_goto (pc := 76) (tgt := 80) S0 dX12_asked_76 (by decide) ?_
              have hz := ok_some hf
              refine r_lv [0, 1, 2, 3] rfl ?_
              exact K27 (ishl 1 s9.2) hz (cn_toInt _)
        · refine r_if_ne (pc := 45) (tgt := 58) S0 dX12_asked_45 (by decide) ca2 hf (fun hf => ?_) (fun hf => ?_)
          · refine r_aload_n (pc := 58) S0 0 dX12_asked_58 rfl rfl ?_
            refine r_getR (pc := 59) S0 hK fl_X12_43 dX12_asked_59 hf (fun x18 hf => ?_)
            refine r_iload (pc := 62) S0 4 dX12_asked_62 rfl ?_
            refine r_iald (pc := 64) S0 hK dX12_asked_64 c11 hf (fun x19 c20 hf => ?_)
            have hz := ok_some hf
            refine r_lv [0, 1, 2, 4] rfl ?_
            exact K15 x19 hz c20
          · refine r_aload_n (pc := 48) S0 0 dX12_asked_48 rfl rfl ?_
            refine r_getR (pc := 49) S0 hK fl_X12_40 dX12_asked_49 hf (fun x21 hf => ?_)
            refine r_iload (pc := 52) S0 4 dX12_asked_52 rfl ?_
            refine r_iald (pc := 54) S0 hK dX12_asked_54 c11 hf (fun x22 c23 hf => ?_)
            refine r_goto (pc := 55) (tgt := 65) S0 dX12_asked_55 (by decide) ?_
            have hz := ok_some hf
            refine r_lv [0, 1, 2, 4] rfl ?_
            exact K15 x22 hz c23
    · refine r_bipush (pc := 24) S0 dX12_asked_24 (by decide) ?_
      have hz := ok_some hf
      have hz : ((-2), I1) = e := hz
      subst hQ
      subst hz
      exact r_iret (pc := 26) S0 hr hlk (cnz (-2) rfl) dX12_asked_26

set_option maxHeartbeats 4000000 in
set_option maxRecDepth 100000 in
theorem c_X12_isOpenDay (l : Launch) (cA : Nat → ClassId) (D : va_G) (N : Nat) (sx : Sx) (ad : Nat → Nat) (T : Knd) (A : Rfs) (nx : Nat) (I : Mem) (w0 : Nat) (a1 : Int) (a2 : Int) (ca1 : cn a1) (ca2 : cn a2) (e : Int) (h : f_X12_isOpenDay T A w0 a1 a2 I = some e) : CtI l yX12_isOpenDay cX12_isOpenDay 3 (some .boolean) 2 82 cA D N sx ad T A nx [rv ad w0, iv a1, iv a2] I I e := by
  refine met_of (lv0 := [(0, rv ad w0), (1, iv a1), (2, iv a2)]) (by decide) (Nat.le_of_ble_eq_true rfl) rfl (fun p e0 s m args below meth c S0 hK hX hr hlk Q hQ => ?_)
  have hf : OK (f_X12_isOpenDay T A w0 a1 a2 I) (fun z => z = e) := ⟨e, h, rfl⟩
  unfold f_X12_isOpenDay at hf
  obtain ⟨hw0, hf⟩ := ok_grd hf
  refine r_aload_n (pc := 0) S0 0 dX12_isOpenDay_0 rfl rfl ?_
  refine r_iload_n (pc := 1) S0 1 dX12_isOpenDay_1 rfl rfl ?_
  refine r_iconst (pc := 2) S0 dX12_isOpenDay_2 ?_
  obtain ⟨e1, h2, hf⟩ := ok_bind hf
  refine r_cV_I (pc := 3) [iv a1, iv 3] S0 hK hX mv_X12_275 (k_X12_of h2) (c_X12_of l cA D N sx ad T A nx I w0 a1 3 ca1 (cnz 3 rfl) e1 h2) rfl rfl ⟨by decide, by decide⟩ (Nat.le_of_ble_eq_true rfl) ⟨Nat.le_refl _, Nat.le_refl _⟩ dX12_isOpenDay_3 (fun c3 => ?_)
  refine r_iload_n (pc := 6) S0 2 dX12_isOpenDay_6 rfl rfl ?_
  refine r_bipush (pc := 7) S0 dX12_isOpenDay_7 (by decide) ?_
  refine r_idiv (pc := 9) S0 dX12_isOpenDay_9 (cnz 10 rfl) hf (fun hf => ?_)
  refine r_iconst (pc := 10) S0 dX12_isOpenDay_10 ?_
  refine r_irem (pc := 11) S0 dX12_isOpenDay_11 (cnz 5 rfl) hf (fun hf => ?_)
  obtain ⟨e4, h5, hf⟩ := ok_bind hf
  refine r_cS_I (pc := 12) [iv e1, iv (irm (idv a2 10) 5)] S0 hK hX ms_X12_278 (c_X12_isBit l cA D N sx ad T A nx I e1 (irm (idv a2 10) 5) c3 (cn_toInt _) e4 h5) rfl rfl ⟨by decide, by decide⟩ (Nat.le_of_ble_eq_true rfl) ⟨Nat.le_refl _, Nat.le_refl _⟩ dX12_isOpenDay_12 (fun c6 => ?_)
  refine r_if_eq (pc := 15) (tgt := 61) S0 dX12_isOpenDay_15 (by decide) c6 hf (fun hf => ?_) (fun hf => ?_)
  · refine r_iconst (pc := 61) S0 dX12_isOpenDay_61 ?_
    have hz := ok_some hf
    have hz : 0 = e := hz
    subst hQ
    subst hz
    exact r_zret (pc := 62) S0 hr hlk (Or.inl rfl) dX12_isOpenDay_62
  · refine r_iload_n (pc := 18) S0 2 dX12_isOpenDay_18 rfl rfl ?_
    refine r_bipush (pc := 19) S0 dX12_isOpenDay_19 (by decide) ?_
    refine r_irem (pc := 21) S0 dX12_isOpenDay_21 (cnz 10 rfl) hf (fun hf => ?_)
    refine r_aload_n (pc := 22) S0 0 dX12_isOpenDay_22 rfl rfl ?_
    refine r_iload_n (pc := 23) S0 1 dX12_isOpenDay_23 rfl rfl ?_
    refine r_iconst (pc := 24) S0 dX12_isOpenDay_24 ?_
    obtain ⟨e7, h8, hf⟩ := ok_bind hf
    refine r_cV_I (pc := 25) [iv a1, iv 1] S0 hK hX mv_X12_275 (k_X12_of h8) (c_X12_of l cA D N sx ad T A nx I w0 a1 1 ca1 (cnz 1 rfl) e7 h8) rfl rfl ⟨by decide, by decide⟩ (Nat.le_of_ble_eq_true rfl) ⟨Nat.le_refl _, Nat.le_refl _⟩ dX12_isOpenDay_25 (fun c9 => ?_)
    refine r_icmp_lt (pc := 28) (tgt := 61) S0 dX12_isOpenDay_28 (by decide) (cn_toInt _) c9 hf (fun hf => ?_) (fun hf => ?_)
    · refine r_iconst (pc := 61) S0 dX12_isOpenDay_61 ?_
      have hz := ok_some hf
      have hz : 0 = e := hz
      subst hQ
      subst hz
      exact r_zret (pc := 62) S0 hr hlk (Or.inl rfl) dX12_isOpenDay_62
    · refine r_iload_n (pc := 31) S0 2 dX12_isOpenDay_31 rfl rfl ?_
      refine r_bipush (pc := 32) S0 dX12_isOpenDay_32 (by decide) ?_
      refine r_irem (pc := 34) S0 dX12_isOpenDay_34 (cnz 10 rfl) hf (fun hf => ?_)
      refine r_aload_n (pc := 35) S0 0 dX12_isOpenDay_35 rfl rfl ?_
      refine r_iload_n (pc := 36) S0 1 dX12_isOpenDay_36 rfl rfl ?_
      refine r_iconst (pc := 37) S0 dX12_isOpenDay_37 ?_
      obtain ⟨e10, h11, hf⟩ := ok_bind hf
      refine r_cV_I (pc := 38) [iv a1, iv 2] S0 hK hX mv_X12_275 (k_X12_of h11) (c_X12_of l cA D N sx ad T A nx I w0 a1 2 ca1 (cnz 2 rfl) e10 h11) rfl rfl ⟨by decide, by decide⟩ (Nat.le_of_ble_eq_true rfl) ⟨Nat.le_refl _, Nat.le_refl _⟩ dX12_isOpenDay_38 (fun c12 => ?_)
      refine r_icmp_gt (pc := 41) (tgt := 61) S0 dX12_isOpenDay_41 (by decide) (cn_toInt _) c12 hf (fun hf => ?_) (fun hf => ?_)
      · refine r_iconst (pc := 61) S0 dX12_isOpenDay_61 ?_
        have hz := ok_some hf
        have hz : 0 = e := hz
        subst hQ
        subst hz
        exact r_zret (pc := 62) S0 hr hlk (Or.inl rfl) dX12_isOpenDay_62
      · refine r_iload_n (pc := 44) S0 2 dX12_isOpenDay_44 rfl rfl ?_
        refine r_bipush (pc := 45) S0 dX12_isOpenDay_45 (by decide) ?_
        refine r_irem (pc := 47) S0 dX12_isOpenDay_47 (cnz 10 rfl) hf (fun hf => ?_)
        refine r_aload_n (pc := 48) S0 0 dX12_isOpenDay_48 rfl rfl ?_
        refine r_iload_n (pc := 49) S0 1 dX12_isOpenDay_49 rfl rfl ?_
        refine r_iconst (pc := 50) S0 dX12_isOpenDay_50 ?_
        obtain ⟨e13, h14, hf⟩ := ok_bind hf
        refine r_cV_I (pc := 51) [iv a1, iv 4] S0 hK hX mv_X12_275 (k_X12_of h14) (c_X12_of l cA D N sx ad T A nx I w0 a1 4 ca1 (cnz 4 rfl) e13 h14) rfl rfl ⟨by decide, by decide⟩ (Nat.le_of_ble_eq_true rfl) ⟨Nat.le_refl _, Nat.le_refl _⟩ dX12_isOpenDay_51 (fun c15 => ?_)
        refine r_icmp_eq (pc := 54) (tgt := 61) S0 dX12_isOpenDay_54 (by decide) (cn_toInt _) c15 hf (fun hf => ?_) (fun hf => ?_)
        · refine r_iconst (pc := 61) S0 dX12_isOpenDay_61 ?_
          have hz := ok_some hf
          have hz : 0 = e := hz
          subst hQ
          subst hz
          exact r_zret (pc := 62) S0 hr hlk (Or.inl rfl) dX12_isOpenDay_62
        · refine r_iconst (pc := 57) S0 dX12_isOpenDay_57 ?_
          refine r_goto (pc := 58) (tgt := 62) S0 dX12_isOpenDay_58 (by decide) ?_
          have hz := ok_some hf
          have hz : 1 = e := hz
          subst hQ
          subst hz
          exact r_zret (pc := 62) S0 hr hlk (Or.inr rfl) dX12_isOpenDay_62

set_option maxHeartbeats 4000000 in
set_option maxRecDepth 100000 in
theorem c_X12_isLeave (l : Launch) (cA : Nat → ClassId) (D : va_G) (N : Nat) (sx : Sx) (ad : Nat → Nat) (T : Knd) (A : Rfs) (nx : Nat) (I : Mem) (w0 : Nat) (a1 : Int) (a2 : Int) (ca1 : cn a1) (ca2 : cn a2) (e : Int) (h : f_X12_isLeave T A w0 a1 a2 I = some e) : CtI l yX12_isLeave cX12_isLeave 3 (some .boolean) 2 82 cA D N sx ad T A nx [rv ad w0, iv a1, iv a2] I I e := by
  refine met_of (lv0 := [(0, rv ad w0), (1, iv a1), (2, iv a2)]) (by decide) (Nat.le_of_ble_eq_true rfl) rfl (fun p e0 s m args below meth c S0 hK hX hr hlk Q hQ => ?_)
  have hf : OK (f_X12_isLeave T A w0 a1 a2 I) (fun z => z = e) := ⟨e, h, rfl⟩
  unfold f_X12_isLeave at hf
  obtain ⟨hw0, hf⟩ := ok_grd hf
  refine r_aload_n (pc := 0) S0 0 dX12_isLeave_0 rfl rfl ?_
  refine r_iload_n (pc := 1) S0 1 dX12_isLeave_1 rfl rfl ?_
  refine r_bipush (pc := 2) S0 dX12_isLeave_2 (by decide) ?_
  obtain ⟨e1, h2, hf⟩ := ok_bind hf
  refine r_cV_I (pc := 4) [iv a1, iv 7] S0 hK hX mv_X12_275 (k_X12_of h2) (c_X12_of l cA D N sx ad T A nx I w0 a1 7 ca1 (cnz 7 rfl) e1 h2) rfl rfl ⟨by decide, by decide⟩ (Nat.le_of_ble_eq_true rfl) ⟨Nat.le_refl _, Nat.le_refl _⟩ dX12_isLeave_4 (fun c3 => ?_)
  refine r_iconst (pc := 7) S0 dX12_isLeave_7 ?_
  refine r_icmp_eq (pc := 8) (tgt := 43) S0 dX12_isLeave_8 (by decide) c3 (cnz (-1) rfl) hf (fun hf => ?_) (fun hf => ?_)
  · refine r_iconst (pc := 43) S0 dX12_isLeave_43 ?_
    have hz := ok_some hf
    have hz : 0 = e := hz
    subst hQ
    subst hz
    exact r_zret (pc := 44) S0 hr hlk (Or.inl rfl) dX12_isLeave_44
  · refine r_iload_n (pc := 11) S0 2 dX12_isLeave_11 rfl rfl ?_
    refine r_bipush (pc := 12) S0 dX12_isLeave_12 (by decide) ?_
    refine r_idiv (pc := 14) S0 dX12_isLeave_14 (cnz 10 rfl) hf (fun hf => ?_)
    refine r_aload_n (pc := 15) S0 0 dX12_isLeave_15 rfl rfl ?_
    refine r_iload_n (pc := 16) S0 1 dX12_isLeave_16 rfl rfl ?_
    refine r_bipush (pc := 17) S0 dX12_isLeave_17 (by decide) ?_
    obtain ⟨e4, h5, hf⟩ := ok_bind hf
    refine r_cV_I (pc := 19) [iv a1, iv 7] S0 hK hX mv_X12_275 (k_X12_of h5) (c_X12_of l cA D N sx ad T A nx I w0 a1 7 ca1 (cnz 7 rfl) e4 h5) rfl rfl ⟨by decide, by decide⟩ (Nat.le_of_ble_eq_true rfl) ⟨Nat.le_refl _, Nat.le_refl _⟩ dX12_isLeave_19 (fun c6 => ?_)
    refine r_icmp_lt (pc := 22) (tgt := 43) S0 dX12_isLeave_22 (by decide) (cn_toInt _) c6 hf (fun hf => ?_) (fun hf => ?_)
    · refine r_iconst (pc := 43) S0 dX12_isLeave_43 ?_
      have hz := ok_some hf
      have hz : 0 = e := hz
      subst hQ
      subst hz
      exact r_zret (pc := 44) S0 hr hlk (Or.inl rfl) dX12_isLeave_44
    · refine r_iload_n (pc := 25) S0 2 dX12_isLeave_25 rfl rfl ?_
      refine r_bipush (pc := 26) S0 dX12_isLeave_26 (by decide) ?_
      refine r_idiv (pc := 28) S0 dX12_isLeave_28 (cnz 10 rfl) hf (fun hf => ?_)
      refine r_aload_n (pc := 29) S0 0 dX12_isLeave_29 rfl rfl ?_
      refine r_iload_n (pc := 30) S0 1 dX12_isLeave_30 rfl rfl ?_
      refine r_bipush (pc := 31) S0 dX12_isLeave_31 (by decide) ?_
      obtain ⟨e7, h8, hf⟩ := ok_bind hf
      refine r_cV_I (pc := 33) [iv a1, iv 8] S0 hK hX mv_X12_275 (k_X12_of h8) (c_X12_of l cA D N sx ad T A nx I w0 a1 8 ca1 (cnz 8 rfl) e7 h8) rfl rfl ⟨by decide, by decide⟩ (Nat.le_of_ble_eq_true rfl) ⟨Nat.le_refl _, Nat.le_refl _⟩ dX12_isLeave_33 (fun c9 => ?_)
      refine r_icmp_gt (pc := 36) (tgt := 43) S0 dX12_isLeave_36 (by decide) (cn_toInt _) c9 hf (fun hf => ?_) (fun hf => ?_)
      · refine r_iconst (pc := 43) S0 dX12_isLeave_43 ?_
        have hz := ok_some hf
        have hz : 0 = e := hz
        subst hQ
        subst hz
        exact r_zret (pc := 44) S0 hr hlk (Or.inl rfl) dX12_isLeave_44
      · refine r_iconst (pc := 39) S0 dX12_isLeave_39 ?_
        refine r_goto (pc := 40) (tgt := 44) S0 dX12_isLeave_40 (by decide) ?_
        have hz := ok_some hf
        have hz : 1 = e := hz
        subst hQ
        subst hz
        exact r_zret (pc := 44) S0 hr hlk (Or.inr rfl) dX12_isLeave_44

set_option maxHeartbeats 4000000 in
set_option maxRecDepth 100000 in
theorem c_X12_isOpen (l : Launch) (cA : Nat → ClassId) (D : va_G) (N : Nat) (sx : Sx) (ad : Nat → Nat) (T : Knd) (A : Rfs) (nx : Nat) (I : Mem) (w0 : Nat) (a1 : Int) (a2 : Int) (ca1 : cn a1) (ca2 : cn a2) (e : Int) (h : f_X12_isOpen T A w0 a1 a2 I = some e) : CtI l yX12_isOpen cX12_isOpen 3 (some .boolean) 3 104 cA D N sx ad T A nx [rv ad w0, iv a1, iv a2] I I e := by
  refine met_of (lv0 := [(0, rv ad w0), (1, iv a1), (2, iv a2)]) (by decide) (Nat.le_of_ble_eq_true rfl) rfl (fun p e0 s m args below meth c S0 hK hX hr hlk Q hQ => ?_)
  have hf : OK (f_X12_isOpen T A w0 a1 a2 I) (fun z => z = e) := ⟨e, h, rfl⟩
  unfold f_X12_isOpen at hf
  obtain ⟨hw0, hf⟩ := ok_grd hf
  refine r_aload_n (pc := 0) S0 0 dX12_isOpen_0 rfl rfl ?_
  refine r_iload_n (pc := 1) S0 1 dX12_isOpen_1 rfl rfl ?_
  refine r_iload_n (pc := 2) S0 2 dX12_isOpen_2 rfl rfl ?_
  obtain ⟨e1, h2, hf⟩ := ok_bind hf
  refine r_cV_I (pc := 3) [iv a1, iv a2] S0 hK hX mv_X12_282 (k_X12_isOpenDay h2) (c_X12_isOpenDay l cA D N sx ad T A nx I w0 a1 a2 ca1 ca2 e1 h2) rfl rfl ⟨by decide, by decide⟩ (Nat.le_of_ble_eq_true rfl) ⟨Nat.le_refl _, Nat.le_refl _⟩ dX12_isOpen_3 (fun c3 => ?_)
  refine r_if_eq (pc := 6) (tgt := 22) S0 dX12_isOpen_6 (by decide) c3 hf (fun hf => ?_) (fun hf => ?_)
  · refine r_iconst (pc := 22) S0 dX12_isOpen_22 ?_
    have hz := ok_some hf
    have hz : 0 = e := hz
    subst hQ
    subst hz
    exact r_zret (pc := 23) S0 hr hlk (Or.inl rfl) dX12_isOpen_23
  · refine r_aload_n (pc := 9) S0 0 dX12_isOpen_9 rfl rfl ?_
    refine r_iload_n (pc := 10) S0 1 dX12_isOpen_10 rfl rfl ?_
    refine r_iload_n (pc := 11) S0 2 dX12_isOpen_11 rfl rfl ?_
    obtain ⟨e4, h5, hf⟩ := ok_bind hf
    refine r_cV_I (pc := 12) [iv a1, iv a2] S0 hK hX mv_X12_285 (k_X12_isLeave h5) (c_X12_isLeave l cA D N sx ad T A nx I w0 a1 a2 ca1 ca2 e4 h5) rfl rfl ⟨by decide, by decide⟩ (Nat.le_of_ble_eq_true rfl) ⟨Nat.le_refl _, Nat.le_refl _⟩ dX12_isOpen_12 (fun c6 => ?_)
    refine r_if_ne (pc := 15) (tgt := 22) S0 dX12_isOpen_15 (by decide) c6 hf (fun hf => ?_) (fun hf => ?_)
    · refine r_iconst (pc := 22) S0 dX12_isOpen_22 ?_
      have hz := ok_some hf
      have hz : 0 = e := hz
      subst hQ
      subst hz
      exact r_zret (pc := 23) S0 hr hlk (Or.inl rfl) dX12_isOpen_23
    · refine r_iconst (pc := 18) S0 dX12_isOpen_18 ?_
      refine r_goto (pc := 19) (tgt := 23) S0 dX12_isOpen_19 (by decide) ?_
      have hz := ok_some hf
      have hz : 1 = e := hz
      subst hQ
      subst hz
      exact r_zret (pc := 23) S0 hr hlk (Or.inr rfl) dX12_isOpen_23

set_option maxHeartbeats 4000000 in
set_option maxRecDepth 100000 in
theorem c_X12_open (l : Launch) (cA : Nat → ClassId) (D : va_G) (N : Nat) (sx : Sx) (ad : Nat → Nat) (T : Knd) (A : Rfs) (nx : Nat) (I : Mem) (w0 : Nat) (a1 : Int) (a2 : Int) (ca1 : cn a1) (ca2 : cn a2) (e : (Int × Mem)) (h : f_X12_open T A w0 a1 a2 I = some e) : CtI l yX12_open cX12_open 3 (some .int) 4 126 cA D N sx ad T A nx [rv ad w0, iv a1, iv a2] I e.2 e.1 := by
  refine met_of (lv0 := [(0, rv ad w0), (1, iv a1), (2, iv a2)]) (by decide) (Nat.le_of_ble_eq_true rfl) rfl (fun p e0 s m args below meth c S0 hK hX hr hlk Q hQ => ?_)
  have hf : OK (f_X12_open T A w0 a1 a2 I) (fun z => z = e) := ⟨e, h, rfl⟩
  unfold f_X12_open at hf
  obtain ⟨hw0, hf⟩ := ok_grd hf
  refine r_aload_n (pc := 0) S0 0 dX12_open_0 rfl rfl ?_
  refine r_iconst (pc := 1) S0 dX12_open_1 ?_
  refine r_putI (pc := 2) S0 hK fl_X12_89 rfl rfl (cnz 0 rfl) dX12_open_2 hf (fun I1 hf => ?_)
  refine r_aload_n (pc := 5) S0 0 dX12_open_5 rfl rfl ?_
  refine r_iload_n (pc := 6) S0 1 dX12_open_6 rfl rfl ?_
  refine r_i2l (pc := 7) S0 dX12_open_7 ca1 ?_
  obtain ⟨e2, h3, hf⟩ := ok_bind hf
  refine r_cV_I (pc := 8) [jv a1] S0 hK hX mv_X12_270 (k_X12_isOfficial h3) (c_X12_isOfficial l cA D N sx ad T A nx I1 w0 a1 (cl_cn ca1) e2 h3) rfl rfl ⟨by decide, by decide⟩ (Nat.le_of_ble_eq_true rfl) ⟨Nat.le_refl _, Nat.le_refl _⟩ dX12_open_8 (fun c4 => ?_)
  refine r_if_eq (pc := 11) (tgt := 38) S0 dX12_open_11 (by decide) c4 hf (fun hf => ?_) (fun hf => ?_)
  · refine r_bipush (pc := 38) S0 dX12_open_38 (by decide) ?_
    have hz := ok_some hf
    have hz : ((-2), I1) = e := hz
    subst hQ
    subst hz
    exact r_iret (pc := 40) S0 hr hlk (cnz (-2) rfl) dX12_open_40
  · refine r_iload_n (pc := 14) S0 2 dX12_open_14 rfl rfl ?_
    obtain ⟨e5, h6, hf⟩ := ok_bind hf
    refine r_cS_I (pc := 15) [iv a2] S0 hK hX ms_X12_288 (c_X12_isHour l cA D N sx ad T A nx I1 a2 ca2 e5 h6) rfl rfl ⟨by decide, by decide⟩ (Nat.le_of_ble_eq_true rfl) ⟨Nat.le_refl _, Nat.le_refl _⟩ dX12_open_15 (fun c7 => ?_)
    refine r_if_eq (pc := 18) (tgt := 38) S0 dX12_open_18 (by decide) c7 hf (fun hf => ?_) (fun hf => ?_)
    · refine r_bipush (pc := 38) S0 dX12_open_38 (by decide) ?_
      have hz := ok_some hf
      have hz : ((-2), I1) = e := hz
      subst hQ
      subst hz
      exact r_iret (pc := 40) S0 hr hlk (cnz (-2) rfl) dX12_open_40
    · refine r_aload_n (pc := 21) S0 0 dX12_open_21 rfl rfl ?_
      refine r_iload_n (pc := 22) S0 1 dX12_open_22 rfl rfl ?_
      refine r_iload_n (pc := 23) S0 2 dX12_open_23 rfl rfl ?_
      obtain ⟨e8, h9, hf⟩ := ok_bind hf
      refine r_cV_I (pc := 24) [iv a1, iv a2] S0 hK hX mv_X12_291 (k_X12_isOpen h9) (c_X12_isOpen l cA D N sx ad T A nx I1 w0 a1 a2 ca1 ca2 e8 h9) rfl rfl ⟨by decide, by decide⟩ (Nat.le_of_ble_eq_true rfl) ⟨Nat.le_refl _, Nat.le_refl _⟩ dX12_open_24 (fun c10 => ?_)
      refine r_if_eq (pc := 27) (tgt := 34) S0 dX12_open_27 (by decide) c10 hf (fun hf => ?_) (fun hf => ?_)
      · refine r_iconst (pc := 34) S0 dX12_open_34 ?_
        refine r_goto (pc := 35) (tgt := 40) S0 dX12_open_35 (by decide) ?_
        have hz := ok_some hf
        have hz : (0, I1) = e := hz
        subst hQ
        subst hz
        exact r_iret (pc := 40) S0 hr hlk (cnz 0 rfl) dX12_open_40
      · refine r_iconst (pc := 30) S0 dX12_open_30 ?_
        refine r_goto (pc := 31) (tgt := 40) S0 dX12_open_31 (by decide) ?_
        have hz := ok_some hf
        have hz : (1, I1) = e := hz
        subst hQ
        subst hz
        exact r_iret (pc := 40) S0 hr hlk (cnz 1 rfl) dX12_open_40

set_option maxHeartbeats 4000000 in
set_option maxRecDepth 100000 in
theorem c_X12_opens (l : Launch) (cA : Nat → ClassId) (D : va_G) (N : Nat) (sx : Sx) (ad : Nat → Nat) (T : Knd) (A : Rfs) (nx : Nat) (I : Mem) (w0 : Nat) (a1 : Int) (a2 : Int) (ca1 : cn a1) (ca2 : cn a2) (e : (Int × Mem)) (h : f_X12_opens T A w0 a1 a2 I = some e) : CtI l yX12_opens cX12_opens 4 (some .int) 4 126 cA D N sx ad T A nx [rv ad w0, iv a1, iv a2] I e.2 e.1 := by
  refine met_of (lv0 := [(0, rv ad w0), (1, iv a1), (2, iv a2)]) (by decide) (Nat.le_of_ble_eq_true rfl) rfl (fun p e0 s m args below meth c S0 hK hX hr hlk Q hQ => ?_)
  have hf : OK (f_X12_opens T A w0 a1 a2 I) (fun z => z = e) := ⟨e, h, rfl⟩
  unfold f_X12_opens at hf
  obtain ⟨hw0, hf⟩ := ok_grd hf
  refine r_aload_n (pc := 0) S0 0 dX12_opens_0 rfl rfl ?_
  refine r_iconst (pc := 1) S0 dX12_opens_1 ?_
  refine r_putI (pc := 2) S0 hK fl_X12_89 rfl rfl (cnz 0 rfl) dX12_opens_2 hf (fun I1 hf => ?_)
  refine r_aload_n (pc := 5) S0 0 dX12_opens_5 rfl rfl ?_
  refine r_iload_n (pc := 6) S0 1 dX12_opens_6 rfl rfl ?_
  refine r_i2l (pc := 7) S0 dX12_opens_7 ca1 ?_
  obtain ⟨e2, h3, hf⟩ := ok_bind hf
  refine r_cV_I (pc := 8) [jv a1] S0 hK hX mv_X12_270 (k_X12_isOfficial h3) (c_X12_isOfficial l cA D N sx ad T A nx I1 w0 a1 (cl_cn ca1) e2 h3) rfl rfl ⟨by decide, by decide⟩ (Nat.le_of_ble_eq_true rfl) ⟨Nat.le_refl _, Nat.le_refl _⟩ dX12_opens_8 (fun c4 => ?_)
  refine r_if_eq (pc := 11) (tgt := 21) S0 dX12_opens_11 (by decide) c4 hf (fun hf => ?_) (fun hf => ?_)
  · refine r_bipush (pc := 21) S0 dX12_opens_21 (by decide) ?_
    have hz := ok_some hf
    have hz : ((-2), I1) = e := hz
    subst hQ
    subst hz
    exact r_iret (pc := 23) S0 hr hlk (cnz (-2) rfl) dX12_opens_23
  · refine r_iload_n (pc := 14) S0 2 dX12_opens_14 rfl rfl ?_
    obtain ⟨e5, h6, hf⟩ := ok_bind hf
    refine r_cS_I (pc := 15) [iv a2] S0 hK hX ms_X12_288 (c_X12_isHour l cA D N sx ad T A nx I1 a2 ca2 e5 h6) rfl rfl ⟨by decide, by decide⟩ (Nat.le_of_ble_eq_true rfl) ⟨Nat.le_refl _, Nat.le_refl _⟩ dX12_opens_15 (fun c7 => ?_)
    refine r_if_ne (pc := 18) (tgt := 24) S0 dX12_opens_18 (by decide) c7 hf (fun hf => ?_) (fun hf => ?_)
    · refine r_iload_n (pc := 24) S0 2 dX12_opens_24 rfl rfl ?_
      refine r_istore_n (pc := 25) (lv' := [(3, iv a2), (0, rv ad w0), (1, iv a1), (2, iv a2)]) S0 dX12_opens_25 rfl (by decide) rfl ?_
      refine r_lv [1, 2, 0] rfl ?_
      refine it_ind (P := fun s9 => cn s9 → G p l e0 (rmx 4 126) s m args below meth c 0 0 Q cA D N 4 ad T A nx 26 [(0, rv ad w0), (1, iv a1), (3, iv s9)] [] I1) (fun n0 s9 ih8 hf c10 => ?_) FU a2 hf ca2
      refine r_iload_n (pc := 26) S0 2 dX12_opens_26 rfl rfl ?_
      refine r_sipush (pc := 27) S0 dX12_opens_27 (by decide) ?_
      refine r_icmp_ge (pc := 30) (tgt := 50) S0 dX12_opens_30 (by decide) c10 (cnz 400 rfl) hf (fun hf => ?_) (fun hf => ?_)
      · refine r_iconst (pc := 50) S0 dX12_opens_50 ?_
        have hz := ok_some hf
        have hz : ((-1), I1) = e := hz
        subst hQ
        subst hz
        exact r_iret (pc := 51) S0 hr hlk (cnz (-1) rfl) dX12_opens_51
      · refine r_aload_n (pc := 33) S0 0 dX12_opens_33 rfl rfl ?_
        refine r_iload_n (pc := 34) S0 1 dX12_opens_34 rfl rfl ?_
        refine r_iload_n (pc := 35) S0 2 dX12_opens_35 rfl rfl ?_
        obtain ⟨e11, h12, hf⟩ := ok_bind hf
        refine r_cV_I (pc := 36) [iv a1, iv s9] S0 hK hX mv_X12_291 (k_X12_isOpen h12) (c_X12_isOpen l cA D N sx ad T A nx I1 w0 a1 s9 ca1 c10 e11 h12) rfl rfl ⟨by decide, by decide⟩ (Nat.le_of_ble_eq_true rfl) ⟨Nat.le_refl _, Nat.le_refl _⟩ dX12_opens_36 (fun c13 => ?_)
        refine r_if_eq (pc := 39) (tgt := 44) S0 dX12_opens_39 (by decide) c13 hf (fun hf => ?_) (fun hf => ?_)
        · refine r_iinc (pc := 44) (lv' := [(3, iv (ia s9 1)), (0, rv ad w0), (1, iv a1)]) S0 2 dX12_opens_44 rfl (by decide) rfl ?_
          refine r_goto (pc := 47) (tgt := 26) S0 dX12_opens_47 (by decide) ?_
          have hz := ok_some hf
          refine r_lv [1, 2, 0] rfl ?_
          exact ih8 (ia s9 1) hz (cn_wrap _)
        · refine r_iload_n (pc := 42) S0 2 dX12_opens_42 rfl rfl ?_
          have hz := ok_some hf
          have hz : (s9, I1) = e := hz
          subst hQ
          subst hz
          exact r_iret (pc := 43) S0 hr hlk c10 dX12_opens_43
    · refine r_bipush (pc := 21) S0 dX12_opens_21 (by decide) ?_
      have hz := ok_some hf
      have hz : ((-2), I1) = e := hz
      subst hQ
      subst hz
      exact r_iret (pc := 23) S0 hr hlk (cnz (-2) rfl) dX12_opens_23

set_option maxHeartbeats 4000000 in
set_option maxRecDepth 100000 in
theorem c_X12_week (l : Launch) (cA : Nat → ClassId) (D : va_G) (N : Nat) (sx : Sx) (ad : Nat → Nat) (T : Knd) (A : Rfs) (nx : Nat) (I : Mem) (w0 : Nat) (a1 : Int) (ca1 : cn a1) (e : (Int × Mem)) (h : f_X12_week T A w0 a1 I = some e) : CtI l yX12_week cX12_week 4 (some .int) 3 107 cA D N sx ad T A nx [rv ad w0, iv a1] I e.2 e.1 := by
  refine met_of (lv0 := [(0, rv ad w0), (1, iv a1)]) (by decide) (Nat.le_of_ble_eq_true rfl) rfl (fun p e0 s m args below meth c S0 hK hX hr hlk Q hQ => ?_)
  have hf : OK (f_X12_week T A w0 a1 I) (fun z => z = e) := ⟨e, h, rfl⟩
  unfold f_X12_week at hf
  obtain ⟨hw0, hf⟩ := ok_grd hf
  refine r_aload_n (pc := 0) S0 0 dX12_week_0 rfl rfl ?_
  refine r_iconst (pc := 1) S0 dX12_week_1 ?_
  refine r_putI (pc := 2) S0 hK fl_X12_89 rfl rfl (cnz 0 rfl) dX12_week_2 hf (fun I1 hf => ?_)
  refine r_aload_n (pc := 5) S0 0 dX12_week_5 rfl rfl ?_
  refine r_iload_n (pc := 6) S0 1 dX12_week_6 rfl rfl ?_
  refine r_i2l (pc := 7) S0 dX12_week_7 ca1 ?_
  obtain ⟨e2, h3, hf⟩ := ok_bind hf
  refine r_cV_I (pc := 8) [jv a1] S0 hK hX mv_X12_270 (k_X12_isOfficial h3) (c_X12_isOfficial l cA D N sx ad T A nx I1 w0 a1 (cl_cn ca1) e2 h3) rfl rfl ⟨by decide, by decide⟩ (Nat.le_of_ble_eq_true rfl) ⟨Nat.le_refl _, Nat.le_refl _⟩ dX12_week_8 (fun c4 => ?_)
  refine r_if_ne (pc := 11) (tgt := 17) S0 dX12_week_11 (by decide) c4 hf (fun hf => ?_) (fun hf => ?_)
  · refine r_iconst (pc := 17) S0 dX12_week_17 ?_
    refine r_istore_n (pc := 18) (lv' := [(2, iv 0), (0, rv ad w0), (1, iv a1)]) S0 dX12_week_18 rfl (by decide) rfl ?_
    refine r_iconst (pc := 19) S0 dX12_week_19 ?_
    refine r_istore_n (pc := 20) (lv' := [(3, iv 0), (2, iv 0), (0, rv ad w0), (1, iv a1)]) S0 dX12_week_20 rfl (by decide) rfl ?_
    refine r_lv [2, 3, 1, 0] rfl ?_
    refine it_ind (P := fun s6 => cn s6.1 → cn s6.2 → G p l e0 (rmx 3 107) s m args below meth c 0 0 Q cA D N 4 ad T A nx 21 [(0, rv ad w0), (1, iv a1), (2, iv s6.1), (3, iv s6.2)] [] I1) (fun n0 s6 ih5 hf c7 c8 => ?_) FU (0, 0) hf (cnz 0 rfl) (cnz 0 rfl)
    refine r_iload_n (pc := 21) S0 3 dX12_week_21 rfl rfl ?_
    refine r_bipush (pc := 22) S0 dX12_week_22 (by decide) ?_
    refine r_icmp_ge (pc := 24) (tgt := 50) S0 dX12_week_24 (by decide) c8 (cnz 50 rfl) hf (fun hf => ?_) (fun hf => ?_)
    · refine r_iload_n (pc := 50) S0 2 dX12_week_50 rfl rfl ?_
      have hz := ok_some hf
      have hz : (s6.1, I1) = e := hz
      subst hQ
      subst hz
      exact r_iret (pc := 51) S0 hr hlk c7 dX12_week_51
    · refine r_iload_n (pc := 27) S0 2 dX12_week_27 rfl rfl ?_
      refine r_aload_n (pc := 28) S0 0 dX12_week_28 rfl rfl ?_
      refine r_iload_n (pc := 29) S0 1 dX12_week_29 rfl rfl ?_
      refine r_iload_n (pc := 30) S0 3 dX12_week_30 rfl rfl ?_
      obtain ⟨e9, h10, hf⟩ := ok_bind hf
      refine r_cV_I (pc := 31) [iv a1, iv s6.2] S0 hK hX mv_X12_282 (k_X12_isOpenDay h10) (c_X12_isOpenDay l cA D N sx ad T A nx I1 w0 a1 s6.2 ca1 c8 e9 h10) rfl rfl ⟨by decide, by decide⟩ (Nat.le_of_ble_eq_true rfl) ⟨Nat.le_refl _, Nat.le_refl _⟩ dX12_week_31 (fun c11 => ?_)
      refine r_if_eq (pc := 34) (tgt := 41) S0 dX12_week_34 (by decide) c11 hf (fun hf => ?_) (fun hf => ?_)
      · refine r_iconst (pc := 41) S0 dX12_week_41 ?_
        refine r_iadd (pc := 42) S0 dX12_week_42 ?_
        refine r_istore_n (pc := 43) (lv' := [(2, iv (ia s6.1 0)), (0, rv ad w0), (1, iv a1), (3, iv s6.2)]) S0 dX12_week_43 rfl (by decide) rfl ?_
        refine r_iinc (pc := 44) (lv' := [(3, iv (ia s6.2 1)), (2, iv (ia s6.1 0)), (0, rv ad w0), (1, iv a1)]) S0 3 dX12_week_44 rfl (by decide) rfl ?_
        refine r_goto (pc := 47) (tgt := 21) S0 dX12_week_47 (by decide) ?_
        have hz := ok_some hf
        refine r_lv [2, 3, 1, 0] rfl ?_
        exact ih5 (ia s6.1 0, ia s6.2 1) hz (cn_wrap _) (cn_wrap _)
      · refine r_iconst (pc := 37) S0 dX12_week_37 ?_
        refine r_goto (pc := 38) (tgt := 42) S0 dX12_week_38 (by decide) ?_
        refine r_iadd (pc := 42) S0 dX12_week_42 ?_
        refine r_istore_n (pc := 43) (lv' := [(2, iv (ia s6.1 1)), (0, rv ad w0), (1, iv a1), (3, iv s6.2)]) S0 dX12_week_43 rfl (by decide) rfl ?_
        refine r_iinc (pc := 44) (lv' := [(3, iv (ia s6.2 1)), (2, iv (ia s6.1 1)), (0, rv ad w0), (1, iv a1)]) S0 3 dX12_week_44 rfl (by decide) rfl ?_
        refine r_goto (pc := 47) (tgt := 21) S0 dX12_week_47 (by decide) ?_
        have hz := ok_some hf
        refine r_lv [2, 3, 1, 0] rfl ?_
        exact ih5 (ia s6.1 1, ia s6.2 1) hz (cn_wrap _) (cn_wrap _)
  · refine r_bipush (pc := 14) S0 dX12_week_14 (by decide) ?_
    have hz := ok_some hf
    have hz : ((-2), I1) = e := hz
    subst hQ
    subst hz
    exact r_iret (pc := 16) S0 hr hlk (cnz (-2) rfl) dX12_week_16

set_option maxHeartbeats 4000000 in
set_option maxRecDepth 100000 in
theorem c_X12_laysWalks (l : Launch) (cA : Nat → ClassId) (D : va_G) (N : Nat) (sx : Sx) (ad : Nat → Nat) (T : Knd) (A : Rfs) (nx : Nat) (I : Mem) (w0 : Nat)  (e : Mem) (h : f_X12_laysWalks T A w0 I = some e) : CtV l yX12_laysWalks cX12_laysWalks 4 none 1 60 cA D N sx ad T A nx [rv ad w0] I e := by
  refine met_of (lv0 := [(0, rv ad w0)]) (by decide) (Nat.le_of_ble_eq_true rfl) rfl (fun p e0 s m args below meth c S0 hK hX hr hlk Q hQ => ?_)
  have hf : OK (f_X12_laysWalks T A w0 I) (fun z => z = e) := ⟨e, h, rfl⟩
  unfold f_X12_laysWalks at hf
  obtain ⟨hw0, hf⟩ := ok_grd hf
  refine r_iconst (pc := 0) S0 dX12_laysWalks_0 ?_
  refine r_istore_n (pc := 1) (lv' := [(1, iv 0), (0, rv ad w0)]) S0 dX12_laysWalks_1 rfl (by decide) rfl ?_
  refine thn_rule (P := fun v2 => G p l e0 (rmx 1 60) s m args below meth c 0 0 Q cA D N 4 ad T A nx 78 [(0, rv ad w0)] [] v2) hf (fun v2 hf => ?_) (fun K1 hf => ?_)
  · refine r_iconst (pc := 78) S0 dX12_laysWalks_78 ?_
    refine r_istore_n (pc := 79) (lv' := [(1, iv 0), (0, rv ad w0)]) S0 dX12_laysWalks_79 rfl (by decide) rfl ?_
    refine r_lv [1, 0] rfl ?_
    refine it_ind (P := fun s21 => cn s21.1 → G p l e0 (rmx 1 60) s m args below meth c 0 0 Q cA D N 4 ad T A nx 80 [(0, rv ad w0), (1, iv s21.1)] [] s21.2) (fun n0 s21 ih20 hf c22 => ?_) FU (0, v2) hf (cnz 0 rfl)
    refine r_iload_n (pc := 80) S0 1 dX12_laysWalks_80 rfl rfl ?_
    refine r_bipush (pc := 81) S0 dX12_laysWalks_81 (by decide) ?_
    refine r_icmp_ge (pc := 83) (tgt := 191) S0 dX12_laysWalks_83 (by decide) c22 (cnz 6 rfl) hf (fun hf => ?_) (fun hf => ?_)
    · have hz := ok_some hf
      have hz : s21.2 = e := hz
      subst hQ
      subst hz
      exact r_vret (pc := 191) S0 hr hlk dX12_laysWalks_191
    · refine r_iconst (pc := 86) S0 dX12_laysWalks_86 ?_
      refine r_istore_n (pc := 87) (lv' := [(2, iv 0), (0, rv ad w0), (1, iv s21.1)]) S0 dX12_laysWalks_87 rfl (by decide) rfl ?_
      refine r_lv [1, 2, 0] rfl ?_
      refine it_ind (P := fun s24 => cn s24.1 → G p l e0 (rmx 1 60) s m args below meth c 0 0 Q cA D N 4 ad T A nx 88 [(0, rv ad w0), (1, iv s21.1), (2, iv s24.1)] [] s24.2) (fun n0 s24 ih23 hf c25 => ?_) FU (0, s21.2) hf (cnz 0 rfl)
      refine r_iload_n (pc := 88) S0 2 dX12_laysWalks_88 rfl rfl ?_
      refine r_bipush (pc := 89) S0 dX12_laysWalks_89 (by decide) ?_
      refine r_icmp_ge (pc := 91) (tgt := 185) S0 dX12_laysWalks_91 (by decide) c25 (cnz 6 rfl) hf (fun hf => ?_) (fun hf => ?_)
      · refine r_iinc (pc := 185) (lv' := [(1, iv (ia s21.1 1)), (0, rv ad w0), (2, iv s24.1)]) S0 1 dX12_laysWalks_185 rfl (by decide) rfl ?_
        refine r_goto (pc := 188) (tgt := 80) S0 dX12_laysWalks_188 (by decide) ?_
        have hz := ok_some hf
        refine r_lv [1, 0] rfl ?_
        exact ih20 (ia s21.1 1, s24.2) hz (cn_wrap _)
      · refine r_iconst (pc := 94) S0 dX12_laysWalks_94 ?_
        refine r_istore_n (pc := 95) (lv' := [(3, iv 0), (0, rv ad w0), (1, iv s21.1), (2, iv s24.1)]) S0 dX12_laysWalks_95 rfl (by decide) rfl ?_
        refine r_lv [1, 2, 3, 0] rfl ?_
        refine it_ind (P := fun s27 => cn s27.1 → G p l e0 (rmx 1 60) s m args below meth c 0 0 Q cA D N 4 ad T A nx 96 [(0, rv ad w0), (1, iv s21.1), (2, iv s24.1), (3, iv s27.1)] [] s27.2) (fun n0 s27 ih26 hf c28 => ?_) FU (0, s24.2) hf (cnz 0 rfl)
        refine r_iload_n (pc := 96) S0 3 dX12_laysWalks_96 rfl rfl ?_
        refine r_bipush (pc := 97) S0 dX12_laysWalks_97 (by decide) ?_
        refine r_icmp_ge (pc := 99) (tgt := 179) S0 dX12_laysWalks_99 (by decide) c28 (cnz 6 rfl) hf (fun hf => ?_) (fun hf => ?_)
        · refine r_iinc (pc := 179) (lv' := [(2, iv (ia s24.1 1)), (0, rv ad w0), (1, iv s21.1), (3, iv s27.1)]) S0 2 dX12_laysWalks_179 rfl (by decide) rfl ?_
          refine r_goto (pc := 182) (tgt := 88) S0 dX12_laysWalks_182 (by decide) ?_
          have hz := ok_some hf
          refine r_lv [1, 2, 0] rfl ?_
          exact ih23 (ia s24.1 1, s27.2) hz (cn_wrap _)
        · refine r_aload_n (pc := 102) S0 0 dX12_laysWalks_102 rfl rfl ?_
          refine r_getR (pc := 103) S0 hK fl_X12_56 dX12_laysWalks_103 hf (fun x29 hf => ?_)
          refine r_bipush (pc := 106) S0 dX12_laysWalks_106 (by decide) ?_
          refine r_iload_n (pc := 108) S0 2 dX12_laysWalks_108 rfl rfl ?_
          refine r_imul (pc := 109) S0 dX12_laysWalks_109 ?_
          refine r_iload_n (pc := 110) S0 1 dX12_laysWalks_110 rfl rfl ?_
          refine r_iadd (pc := 111) S0 dX12_laysWalks_111 ?_
          refine r_iald (pc := 112) S0 hK dX12_laysWalks_112 (cn_wrap _) hf (fun x30 c31 hf => ?_)
          refine r_aload_n (pc := 113) S0 0 dX12_laysWalks_113 rfl rfl ?_
          refine r_getR (pc := 114) S0 hK fl_X12_56 dX12_laysWalks_114 hf (fun x32 hf => ?_)
          refine r_bipush (pc := 117) S0 dX12_laysWalks_117 (by decide) ?_
          refine r_iload_n (pc := 119) S0 1 dX12_laysWalks_119 rfl rfl ?_
          refine r_imul (pc := 120) S0 dX12_laysWalks_120 ?_
          refine r_iload_n (pc := 121) S0 3 dX12_laysWalks_121 rfl rfl ?_
          refine r_iadd (pc := 122) S0 dX12_laysWalks_122 ?_
          refine r_iald (pc := 123) S0 hK dX12_laysWalks_123 (cn_wrap _) hf (fun x33 c34 hf => ?_)
          refine r_iadd (pc := 124) S0 dX12_laysWalks_124 ?_
          refine r_aload_n (pc := 125) S0 0 dX12_laysWalks_125 rfl rfl ?_
          refine r_getR (pc := 126) S0 hK fl_X12_56 dX12_laysWalks_126 hf (fun x35 hf => ?_)
          refine r_bipush (pc := 129) S0 dX12_laysWalks_129 (by decide) ?_
          refine r_iload_n (pc := 131) S0 2 dX12_laysWalks_131 rfl rfl ?_
          refine r_imul (pc := 132) S0 dX12_laysWalks_132 ?_
          refine r_iload_n (pc := 133) S0 3 dX12_laysWalks_133 rfl rfl ?_
          refine r_iadd (pc := 134) S0 dX12_laysWalks_134 ?_
          refine r_iald (pc := 135) S0 hK dX12_laysWalks_135 (cn_wrap _) hf (fun x36 c37 hf => ?_)
          refine r_icmp_ge (pc := 136) (tgt := 173) S0 dX12_laysWalks_136 (by decide) (cn_wrap _) c37 hf (fun hf => ?_) (fun hf => ?_)
          · refine r_iinc (pc := 173) (lv' := [(3, iv (ia s27.1 1)), (0, rv ad w0), (1, iv s21.1), (2, iv s24.1)]) S0 3 dX12_laysWalks_173 rfl (by decide) rfl ?_
            refine r_goto (pc := 176) (tgt := 96) S0 dX12_laysWalks_176 (by decide) ?_
            have hz := ok_some hf
            refine r_lv [1, 2, 3, 0] rfl ?_
            exact ih26 (ia s27.1 1, s27.2) hz (cn_wrap _)
          · refine r_aload_n (pc := 139) S0 0 dX12_laysWalks_139 rfl rfl ?_
            refine r_getR (pc := 140) S0 hK fl_X12_56 dX12_laysWalks_140 hf (fun x38 hf => ?_)
            refine r_bipush (pc := 143) S0 dX12_laysWalks_143 (by decide) ?_
            refine r_iload_n (pc := 145) S0 2 dX12_laysWalks_145 rfl rfl ?_
            refine r_imul (pc := 146) S0 dX12_laysWalks_146 ?_
            refine r_iload_n (pc := 147) S0 3 dX12_laysWalks_147 rfl rfl ?_
            refine r_iadd (pc := 148) S0 dX12_laysWalks_148 ?_
            refine r_aload_n (pc := 149) S0 0 dX12_laysWalks_149 rfl rfl ?_
            refine r_getR (pc := 150) S0 hK fl_X12_56 dX12_laysWalks_150 hf (fun x39 hf => ?_)
            refine r_bipush (pc := 153) S0 dX12_laysWalks_153 (by decide) ?_
            refine r_iload_n (pc := 155) S0 2 dX12_laysWalks_155 rfl rfl ?_
            refine r_imul (pc := 156) S0 dX12_laysWalks_156 ?_
            refine r_iload_n (pc := 157) S0 1 dX12_laysWalks_157 rfl rfl ?_
            refine r_iadd (pc := 158) S0 dX12_laysWalks_158 ?_
            refine r_iald (pc := 159) S0 hK dX12_laysWalks_159 (cn_wrap _) hf (fun x40 c41 hf => ?_)
            refine r_aload_n (pc := 160) S0 0 dX12_laysWalks_160 rfl rfl ?_
            refine r_getR (pc := 161) S0 hK fl_X12_56 dX12_laysWalks_161 hf (fun x42 hf => ?_)
            refine r_bipush (pc := 164) S0 dX12_laysWalks_164 (by decide) ?_
            refine r_iload_n (pc := 166) S0 1 dX12_laysWalks_166 rfl rfl ?_
            refine r_imul (pc := 167) S0 dX12_laysWalks_167 ?_
            refine r_iload_n (pc := 168) S0 3 dX12_laysWalks_168 rfl rfl ?_
            refine r_iadd (pc := 169) S0 dX12_laysWalks_169 ?_
            refine r_iald (pc := 170) S0 hK dX12_laysWalks_170 (cn_wrap _) hf (fun x43 c44 hf => ?_)
            refine r_iadd (pc := 171) S0 dX12_laysWalks_171 ?_
            refine r_iast (pc := 172) S0 hK dX12_laysWalks_172 (cn_wrap _) (cn_wrap _) hf (fun I45 hf => ?_)
            refine r_iinc (pc := 173) (lv' := [(3, iv (ia s27.1 1)), (0, rv ad w0), (1, iv s21.1), (2, iv s24.1)]) S0 3 dX12_laysWalks_173 rfl (by decide) rfl ?_
            refine r_goto (pc := 176) (tgt := 96) S0 dX12_laysWalks_176 (by decide) ?_
            have hz := ok_some hf
            refine r_lv [1, 2, 3, 0] rfl ?_
            exact ih26 (ia s27.1 1, I45) hz (cn_wrap _)
  · refine r_lv [1, 0] rfl ?_
    refine it_ind (P := fun s4 => cn s4.1 → G p l e0 (rmx 1 60) s m args below meth c 0 0 Q cA D N 4 ad T A nx 2 [(0, rv ad w0), (1, iv s4.1)] [] s4.2) (fun n0 s4 ih3 hf c5 => ?_) FU (0, I) hf (cnz 0 rfl)
    refine r_iload_n (pc := 2) S0 1 dX12_laysWalks_2 rfl rfl ?_
    refine r_bipush (pc := 3) S0 dX12_laysWalks_3 (by decide) ?_
    refine r_icmp_ge (pc := 5) (tgt := 78) S0 dX12_laysWalks_5 (by decide) c5 (cnz 6 rfl) hf (fun hf => ?_) (fun hf => ?_)
    · have hz := ok_some hf
      refine r_lv [0] rfl ?_
      exact K1 s4.2 hz
    · refine r_iconst (pc := 8) S0 dX12_laysWalks_8 ?_
      refine r_istore_n (pc := 9) (lv' := [(2, iv 0), (0, rv ad w0), (1, iv s4.1)]) S0 dX12_laysWalks_9 rfl (by decide) rfl ?_
      refine r_lv [1, 2, 0] rfl ?_
      refine it_ind (P := fun s7 => cn s7.1 → G p l e0 (rmx 1 60) s m args below meth c 0 0 Q cA D N 4 ad T A nx 10 [(0, rv ad w0), (1, iv s4.1), (2, iv s7.1)] [] s7.2) (fun n0 s7 ih6 hf c8 => ?_) FU (0, s4.2) hf (cnz 0 rfl)
      refine r_iload_n (pc := 10) S0 2 dX12_laysWalks_10 rfl rfl ?_
      refine r_bipush (pc := 11) S0 dX12_laysWalks_11 (by decide) ?_
      refine r_icmp_ge (pc := 13) (tgt := 72) S0 dX12_laysWalks_13 (by decide) c8 (cnz 6 rfl) hf (fun hf => ?_) (fun hf => ?_)
      · refine r_iinc (pc := 72) (lv' := [(1, iv (ia s4.1 1)), (0, rv ad w0), (2, iv s7.1)]) S0 1 dX12_laysWalks_72 rfl (by decide) rfl ?_
        refine r_goto (pc := 75) (tgt := 2) S0 dX12_laysWalks_75 (by decide) ?_
        have hz := ok_some hf
        refine r_lv [1, 0] rfl ?_
        exact ih3 (ia s4.1 1, s7.2) hz (cn_wrap _)
      · refine r_aload_n (pc := 16) S0 0 dX12_laysWalks_16 rfl rfl ?_
        refine r_getR (pc := 17) S0 hK fl_X12_56 dX12_laysWalks_17 hf (fun x9 hf => ?_)
        refine r_bipush (pc := 20) S0 dX12_laysWalks_20 (by decide) ?_
        refine r_iload_n (pc := 22) S0 1 dX12_laysWalks_22 rfl rfl ?_
        refine r_imul (pc := 23) S0 dX12_laysWalks_23 ?_
        refine r_iload_n (pc := 24) S0 2 dX12_laysWalks_24 rfl rfl ?_
        refine r_iadd (pc := 25) S0 dX12_laysWalks_25 ?_
        refine r_iload_n (pc := 26) S0 1 dX12_laysWalks_26 rfl rfl ?_
        refine r_iload_n (pc := 27) S0 2 dX12_laysWalks_27 rfl rfl ?_
        refine thn_rule (P := fun v11 => cn v11 → G p l e0 (rmx 1 60) s m args below meth c 0 0 Q cA D N 4 ad T A nx 65 [(0, rv ad w0), (1, iv s4.1), (2, iv s7.1)] [iv v11, iv (ia (im 6 s4.1) s7.1), rv ad x9] s7.2) hf (fun v11 hf c12 => ?_) (fun K10 hf => ?_)
        · refine r_iast (pc := 65) S0 hK dX12_laysWalks_65 (cn_wrap _) c12 hf (fun I19 hf => ?_)
          refine r_iinc (pc := 66) (lv' := [(2, iv (ia s7.1 1)), (0, rv ad w0), (1, iv s4.1)]) S0 2 dX12_laysWalks_66 rfl (by decide) rfl ?_
          refine r_goto (pc := 69) (tgt := 10) S0 dX12_laysWalks_69 (by decide) ?_
          have hz := ok_some hf
          refine r_lv [1, 2, 0] rfl ?_
          exact ih6 (ia s7.1 1, I19) hz (cn_wrap _)
        · refine r_icmp_ne (pc := 28) (tgt := 35) S0 dX12_laysWalks_28 (by decide) c5 c8 hf (fun hf => ?_) (fun hf => ?_)
          · refine r_aload_n (pc := 35) S0 0 dX12_laysWalks_35 rfl rfl ?_
            refine r_getR (pc := 36) S0 hK fl_X12_46 dX12_laysWalks_36 hf (fun x13 hf => ?_)
            refine r_bipush (pc := 39) S0 dX12_laysWalks_39 (by decide) ?_
            refine r_iload_n (pc := 41) S0 1 dX12_laysWalks_41 rfl rfl ?_
            refine r_imul (pc := 42) S0 dX12_laysWalks_42 ?_
            refine r_iload_n (pc := 43) S0 2 dX12_laysWalks_43 rfl rfl ?_
            refine r_iadd (pc := 44) S0 dX12_laysWalks_44 ?_
            refine r_iald (pc := 45) S0 hK dX12_laysWalks_45 (cn_wrap _) hf (fun x14 c15 hf => ?_)
            refine r_if_le (pc := 46) (tgt := 63) S0 dX12_laysWalks_46 (by decide) c15 hf (fun hf => ?_) (fun hf => ?_)
            · refine r_ldc (pc := 63) (z := 100000) S0 k_X12_139 dX12_laysWalks_63 (by decide) ?_
              have hz := ok_some hf
              refine r_lv [0, 1, 2] rfl ?_
              exact K10 100000 hz (cnz 100000 rfl)
            · refine r_aload_n (pc := 49) S0 0 dX12_laysWalks_49 rfl rfl ?_
              refine r_getR (pc := 50) S0 hK fl_X12_46 dX12_laysWalks_50 hf (fun x16 hf => ?_)
              refine r_bipush (pc := 53) S0 dX12_laysWalks_53 (by decide) ?_
              refine r_iload_n (pc := 55) S0 1 dX12_laysWalks_55 rfl rfl ?_
              refine r_imul (pc := 56) S0 dX12_laysWalks_56 ?_
              refine r_iload_n (pc := 57) S0 2 dX12_laysWalks_57 rfl rfl ?_
              refine r_iadd (pc := 58) S0 dX12_laysWalks_58 ?_
              refine r_iald (pc := 59) S0 hK dX12_laysWalks_59 (cn_wrap _) hf (fun x17 c18 hf => ?_)
              refine r_goto (pc := 60) (tgt := 65) S0 dX12_laysWalks_60 (by decide) ?_
              have hz := ok_some hf
              refine r_lv [0, 1, 2] rfl ?_
              exact K10 x17 hz c18
          · refine r_iconst (pc := 31) S0 dX12_laysWalks_31 ?_
            refine r_goto (pc := 32) (tgt := 65) S0 dX12_laysWalks_32 (by decide) ?_
            have hz := ok_some hf
            refine r_lv [0, 1, 2] rfl ?_
            exact K10 0 hz (cnz 0 rfl)

set_option maxHeartbeats 4000000 in
set_option maxRecDepth 100000 in
theorem c_X12_walk (l : Launch) (cA : Nat → ClassId) (D : va_G) (N : Nat) (sx : Sx) (ad : Nat → Nat) (T : Knd) (A : Rfs) (nx : Nat) (I : Mem) (w0 : Nat) (a1 : Int) (a2 : Int) (ca1 : cn a1) (ca2 : cn a2) (e : (Int × Mem)) (h : f_X12_walk T A w0 a1 a2 I = some e) : CtI l yX12_walk cX12_walk 3 (some .int) 3 106 cA D N sx ad T A nx [rv ad w0, iv a1, iv a2] I e.2 e.1 := by
  refine met_of (lv0 := [(0, rv ad w0), (1, iv a1), (2, iv a2)]) (by decide) (Nat.le_of_ble_eq_true rfl) rfl (fun p e0 s m args below meth c S0 hK hX hr hlk Q hQ => ?_)
  have hf : OK (f_X12_walk T A w0 a1 a2 I) (fun z => z = e) := ⟨e, h, rfl⟩
  unfold f_X12_walk at hf
  obtain ⟨hw0, hf⟩ := ok_grd hf
  refine r_aload_n (pc := 0) S0 0 dX12_walk_0 rfl rfl ?_
  refine r_iconst (pc := 1) S0 dX12_walk_1 ?_
  refine r_putI (pc := 2) S0 hK fl_X12_89 rfl rfl (cnz 0 rfl) dX12_walk_2 hf (fun I1 hf => ?_)
  refine r_aload_n (pc := 5) S0 0 dX12_walk_5 rfl rfl ?_
  refine r_iload_n (pc := 6) S0 1 dX12_walk_6 rfl rfl ?_
  obtain ⟨e2, h3, hf⟩ := ok_bind hf
  refine r_cV_I (pc := 7) [iv a1] S0 hK hX mv_X12_294 (k_X12_isRoom h3) (c_X12_isRoom l cA D N sx ad T A nx I1 w0 a1 ca1 e2 h3) rfl rfl ⟨by decide, by decide⟩ (Nat.le_of_ble_eq_true rfl) ⟨Nat.le_refl _, Nat.le_refl _⟩ dX12_walk_7 (fun c4 => ?_)
  refine r_if_eq (pc := 10) (tgt := 21) S0 dX12_walk_10 (by decide) c4 hf (fun hf => ?_) (fun hf => ?_)
  · refine r_bipush (pc := 21) S0 dX12_walk_21 (by decide) ?_
    have hz := ok_some hf
    have hz : ((-2), I1) = e := hz
    subst hQ
    subst hz
    exact r_iret (pc := 23) S0 hr hlk (cnz (-2) rfl) dX12_walk_23
  · refine r_aload_n (pc := 13) S0 0 dX12_walk_13 rfl rfl ?_
    refine r_iload_n (pc := 14) S0 2 dX12_walk_14 rfl rfl ?_
    obtain ⟨e5, h6, hf⟩ := ok_bind hf
    refine r_cV_I (pc := 15) [iv a2] S0 hK hX mv_X12_294 (k_X12_isRoom h6) (c_X12_isRoom l cA D N sx ad T A nx I1 w0 a2 ca2 e5 h6) rfl rfl ⟨by decide, by decide⟩ (Nat.le_of_ble_eq_true rfl) ⟨Nat.le_refl _, Nat.le_refl _⟩ dX12_walk_15 (fun c7 => ?_)
    refine r_if_ne (pc := 18) (tgt := 24) S0 dX12_walk_18 (by decide) c7 hf (fun hf => ?_) (fun hf => ?_)
    · refine r_aload_n (pc := 24) S0 0 dX12_walk_24 rfl rfl ?_
      obtain ⟨e8, h9, hf⟩ := ok_bind hf
      refine r_cV_V (pc := 25) [] S0 hK hX mv_X12_297 (k_X12_laysWalks h9) (c_X12_laysWalks l cA D N sx ad T A nx I1 w0 e8 h9) rfl rfl ⟨by decide, by decide⟩ (Nat.le_of_ble_eq_true rfl) ⟨Nat.le_refl _, Nat.le_refl _⟩ dX12_walk_25 ?_
      refine r_aload_n (pc := 28) S0 0 dX12_walk_28 rfl rfl ?_
      refine r_getR (pc := 29) S0 hK fl_X12_56 dX12_walk_29 hf (fun x10 hf => ?_)
      refine r_bipush (pc := 32) S0 dX12_walk_32 (by decide) ?_
      refine r_iload_n (pc := 34) S0 1 dX12_walk_34 rfl rfl ?_
      refine r_imul (pc := 35) S0 dX12_walk_35 ?_
      refine r_iload_n (pc := 36) S0 2 dX12_walk_36 rfl rfl ?_
      refine r_iadd (pc := 37) S0 dX12_walk_37 ?_
      refine r_iald (pc := 38) S0 hK dX12_walk_38 (cn_wrap _) hf (fun x11 c12 hf => ?_)
      refine r_ldc (pc := 39) (z := 100000) S0 k_X12_139 dX12_walk_39 (by decide) ?_
      refine r_icmp_lt (pc := 41) (tgt := 48) S0 dX12_walk_41 (by decide) c12 (cnz 100000 rfl) hf (fun hf => ?_) (fun hf => ?_)
      · refine r_aload_n (pc := 48) S0 0 dX12_walk_48 rfl rfl ?_
        refine r_getR (pc := 49) S0 hK fl_X12_56 dX12_walk_49 hf (fun x13 hf => ?_)
        refine r_bipush (pc := 52) S0 dX12_walk_52 (by decide) ?_
        refine r_iload_n (pc := 54) S0 1 dX12_walk_54 rfl rfl ?_
        refine r_imul (pc := 55) S0 dX12_walk_55 ?_
        refine r_iload_n (pc := 56) S0 2 dX12_walk_56 rfl rfl ?_
        refine r_iadd (pc := 57) S0 dX12_walk_57 ?_
        refine r_iald (pc := 58) S0 hK dX12_walk_58 (cn_wrap _) hf (fun x14 c15 hf => ?_)
        have hz := ok_some hf
        have hz : (x14, e8) = e := hz
        subst hQ
        subst hz
        exact r_iret (pc := 59) S0 hr hlk c15 dX12_walk_59
      · refine r_iconst (pc := 44) S0 dX12_walk_44 ?_
        refine r_goto (pc := 45) (tgt := 59) S0 dX12_walk_45 (by decide) ?_
        have hz := ok_some hf
        have hz : ((-1), e8) = e := hz
        subst hQ
        subst hz
        exact r_iret (pc := 59) S0 hr hlk (cnz (-1) rfl) dX12_walk_59
    · refine r_bipush (pc := 21) S0 dX12_walk_21 (by decide) ?_
      have hz := ok_some hf
      have hz : ((-2), I1) = e := hz
      subst hQ
      subst hz
      exact r_iret (pc := 23) S0 hr hlk (cnz (-2) rfl) dX12_walk_23

set_option maxHeartbeats 4000000 in
set_option maxRecDepth 100000 in
theorem c_X12_permit (l : Launch) (cA : Nat → ClassId) (D : va_G) (N : Nat) (sx : Sx) (ad : Nat → Nat) (T : Knd) (A : Rfs) (nx : Nat) (I : Mem) (w0 : Nat)  (e : (Int × Mem)) (h : f_X12_permit T A w0 I = some e) : CtI l yX12_permit cX12_permit 1 (some .int) 2 80 cA D N sx ad T A nx [rv ad w0] I e.2 e.1 := by
  refine met_of (lv0 := [(0, rv ad w0)]) (by decide) (Nat.le_of_ble_eq_true rfl) rfl (fun p e0 s m args below meth c S0 hK hX hr hlk Q hQ => ?_)
  have hf : OK (f_X12_permit T A w0 I) (fun z => z = e) := ⟨e, h, rfl⟩
  unfold f_X12_permit at hf
  obtain ⟨hw0, hf⟩ := ok_grd hf
  refine r_aload_n (pc := 0) S0 0 dX12_permit_0 rfl rfl ?_
  refine r_iconst (pc := 1) S0 dX12_permit_1 ?_
  refine r_putI (pc := 2) S0 hK fl_X12_89 rfl rfl (cnz 0 rfl) dX12_permit_2 hf (fun I1 hf => ?_)
  refine r_aload_n (pc := 5) S0 0 dX12_permit_5 rfl rfl ?_
  obtain ⟨e2, h3, hf⟩ := ok_bind hf
  refine r_cV_I (pc := 6) [] S0 hK hX mv_X12_267 (k_X12_isOffice h3) (c_X12_isOffice l cA D N sx ad T A nx I1 w0 e2 h3) rfl rfl ⟨by decide, by decide⟩ (Nat.le_of_ble_eq_true rfl) ⟨Nat.le_refl _, Nat.le_refl _⟩ dX12_permit_6 (fun c4 => ?_)
  refine r_if_eq (pc := 9) (tgt := 21) S0 dX12_permit_9 (by decide) c4 hf (fun hf => ?_) (fun hf => ?_)
  · refine r_bipush (pc := 21) S0 dX12_permit_21 (by decide) ?_
    have hz := ok_some hf
    have hz : ((-2), I1) = e := hz
    subst hQ
    subst hz
    exact r_iret (pc := 23) S0 hr hlk (cnz (-2) rfl) dX12_permit_23
  · refine r_aload_n (pc := 12) S0 0 dX12_permit_12 rfl rfl ?_
    refine r_getR (pc := 13) S0 hK fl_X12_34 dX12_permit_13 hf (fun x5 hf => ?_)
    refine r_iconst (pc := 16) S0 dX12_permit_16 ?_
    refine r_iald (pc := 17) S0 hK dX12_permit_17 (cnz 4 rfl) hf (fun x6 c7 hf => ?_)
    refine r_goto (pc := 18) (tgt := 23) S0 dX12_permit_18 (by decide) ?_
    have hz := ok_some hf
    have hz : (x6, I1) = e := hz
    subst hQ
    subst hz
    exact r_iret (pc := 23) S0 hr hlk c7 dX12_permit_23

set_option maxHeartbeats 4000000 in
set_option maxRecDepth 100000 in
theorem c_X12_starts (l : Launch) (cA : Nat → ClassId) (D : va_G) (N : Nat) (sx : Sx) (ad : Nat → Nat) (T : Knd) (A : Rfs) (nx : Nat) (I : Mem) (w0 : Nat) (a1 : Int) (ca1 : cn a1) (e : Mem) (h : f_X12_starts T A w0 a1 I = some e) : CtV l yX12_starts cX12_starts 3 none 2 83 cA D N sx ad T A nx [rv ad w0, iv a1] I e := by
  refine met_of (lv0 := [(0, rv ad w0), (1, iv a1)]) (by decide) (Nat.le_of_ble_eq_true rfl) rfl (fun p e0 s m args below meth c S0 hK hX hr hlk Q hQ => ?_)
  have hf : OK (f_X12_starts T A w0 a1 I) (fun z => z = e) := ⟨e, h, rfl⟩
  unfold f_X12_starts at hf
  obtain ⟨hw0, hf⟩ := ok_grd hf
  refine r_aload_n (pc := 0) S0 0 dX12_starts_0 rfl rfl ?_
  obtain ⟨e1, h2, hf⟩ := ok_bind hf
  refine r_cV_V (pc := 1) [] S0 hK hX mv_X12_297 (k_X12_laysWalks h2) (c_X12_laysWalks l cA D N sx ad T A nx I w0 e1 h2) rfl rfl ⟨by decide, by decide⟩ (Nat.le_of_ble_eq_true rfl) ⟨Nat.le_refl _, Nat.le_refl _⟩ dX12_starts_1 ?_
  refine r_aload_n (pc := 4) S0 0 dX12_starts_4 rfl rfl ?_
  refine r_iload_n (pc := 5) S0 1 dX12_starts_5 rfl rfl ?_
  refine r_putI (pc := 6) S0 hK fl_X12_300 rfl rfl ca1 dX12_starts_6 hf (fun I3 hf => ?_)
  refine r_aload_n (pc := 9) S0 0 dX12_starts_9 rfl rfl ?_
  refine r_aload_n (pc := 10) S0 0 dX12_starts_10 rfl rfl ?_
  refine r_getR (pc := 11) S0 hK fl_X12_34 dX12_starts_11 hf (fun x4 hf => ?_)
  refine r_iconst (pc := 14) S0 dX12_starts_14 ?_
  refine r_iald (pc := 15) S0 hK dX12_starts_15 (cnz 1 rfl) hf (fun x5 c6 hf => ?_)
  refine r_putI (pc := 16) S0 hK fl_X12_303 rfl rfl c6 dX12_starts_16 hf (fun I7 hf => ?_)
  refine r_aload_n (pc := 19) S0 0 dX12_starts_19 rfl rfl ?_
  refine r_iconst (pc := 20) S0 dX12_starts_20 ?_
  refine r_putI (pc := 21) S0 hK fl_X12_306 rfl rfl (cnz 0 rfl) dX12_starts_21 hf (fun I8 hf => ?_)
  refine r_aload_n (pc := 24) S0 0 dX12_starts_24 rfl rfl ?_
  refine r_iconst (pc := 25) S0 dX12_starts_25 ?_
  refine r_putI (pc := 26) S0 hK fl_X12_309 rfl rfl (cnz 0 rfl) dX12_starts_26 hf (fun I9 hf => ?_)
  refine r_iconst (pc := 29) S0 dX12_starts_29 ?_
  refine r_istore_n (pc := 30) (lv' := [(2, iv 0), (0, rv ad w0), (1, iv a1)]) S0 dX12_starts_30 rfl (by decide) rfl ?_
  refine r_lv [1, 0] rfl ?_
  refine it_ind (P := fun s11 => cn s11.1 → G p l e0 (rmx 2 83) s m args below meth c 0 0 Q cA D N 3 ad T A nx 31 [(0, rv ad w0), (2, iv s11.1)] [] s11.2) (fun n0 s11 ih10 hf c12 => ?_) FU (0, I9) hf (cnz 0 rfl)
  refine r_iload_n (pc := 31) S0 1 dX12_starts_31 rfl rfl ?_
  refine r_bipush (pc := 32) S0 dX12_starts_32 (by decide) ?_
  refine r_icmp_ge (pc := 34) (tgt := 50) S0 dX12_starts_34 (by decide) c12 (cnz 8 rfl) hf (fun hf => ?_) (fun hf => ?_)
  · have hz := ok_some hf
    have hz : s11.2 = e := hz
    subst hQ
    subst hz
    exact r_vret (pc := 50) S0 hr hlk dX12_starts_50
  · refine r_aload_n (pc := 37) S0 0 dX12_starts_37 rfl rfl ?_
    refine r_getR (pc := 38) S0 hK fl_X12_59 dX12_starts_38 hf (fun x13 hf => ?_)
    refine r_iload_n (pc := 41) S0 1 dX12_starts_41 rfl rfl ?_
    refine r_iconst (pc := 42) S0 dX12_starts_42 ?_
    refine r_iast (pc := 43) S0 hK dX12_starts_43 c12 (cnz (-1) rfl) hf (fun I14 hf => ?_)
    refine r_iinc (pc := 44) (lv' := [(2, iv (ia s11.1 1)), (0, rv ad w0)]) S0 1 dX12_starts_44 rfl (by decide) rfl ?_
    refine r_goto (pc := 47) (tgt := 31) S0 dX12_starts_47 (by decide) ?_
    have hz := ok_some hf
    refine r_lv [1, 0] rfl ?_
    exact ih10 (ia s11.1 1, I14) hz (cn_wrap _)

set_option maxHeartbeats 4000000 in
set_option maxRecDepth 100000 in
theorem c_X12_isHeld (l : Launch) (cA : Nat → ClassId) (D : va_G) (N : Nat) (sx : Sx) (ad : Nat → Nat) (T : Knd) (A : Rfs) (nx : Nat) (I : Mem) (w0 : Nat) (a1 : Int) (a2 : Int) (ca1 : cn a1) (ca2 : cn a2) (e : Int) (h : f_X12_isHeld T A w0 a1 a2 I = some e) : CtI l yX12_isHeld cX12_isHeld 3 (some .boolean) 1 60 cA D N sx ad T A nx [rv ad w0, iv a1, iv a2] I I e := by
  refine met_of (lv0 := [(0, rv ad w0), (1, iv a1), (2, iv a2)]) (by decide) (Nat.le_of_ble_eq_true rfl) rfl (fun p e0 s m args below meth c S0 hK hX hr hlk Q hQ => ?_)
  have hf : OK (f_X12_isHeld T A w0 a1 a2 I) (fun z => z = e) := ⟨e, h, rfl⟩
  unfold f_X12_isHeld at hf
  obtain ⟨hw0, hf⟩ := ok_grd hf
  refine r_aload_n (pc := 0) S0 0 dX12_isHeld_0 rfl rfl ?_
  refine r_getR (pc := 1) S0 hK fl_X12_59 dX12_isHeld_1 hf (fun x1 hf => ?_)
  refine r_iload_n (pc := 4) S0 1 dX12_isHeld_4 rfl rfl ?_
  refine r_iald (pc := 5) S0 hK dX12_isHeld_5 ca1 hf (fun x2 c3 hf => ?_)
  refine r_iconst (pc := 6) S0 dX12_isHeld_6 ?_
  refine r_icmp_eq (pc := 7) (tgt := 24) S0 dX12_isHeld_7 (by decide) c3 (cnz (-1) rfl) hf (fun hf => ?_) (fun hf => ?_)
  · refine r_iconst (pc := 24) S0 dX12_isHeld_24 ?_
    have hz := ok_some hf
    have hz : 0 = e := hz
    subst hQ
    subst hz
    exact r_zret (pc := 25) S0 hr hlk (Or.inl rfl) dX12_isHeld_25
  · refine r_iload_n (pc := 10) S0 2 dX12_isHeld_10 rfl rfl ?_
    refine r_aload_n (pc := 11) S0 0 dX12_isHeld_11 rfl rfl ?_
    refine r_getR (pc := 12) S0 hK fl_X12_59 dX12_isHeld_12 hf (fun x4 hf => ?_)
    refine r_iload_n (pc := 15) S0 1 dX12_isHeld_15 rfl rfl ?_
    refine r_iald (pc := 16) S0 hK dX12_isHeld_16 ca1 hf (fun x5 c6 hf => ?_)
    refine r_icmp_gt (pc := 17) (tgt := 24) S0 dX12_isHeld_17 (by decide) ca2 c6 hf (fun hf => ?_) (fun hf => ?_)
    · refine r_iconst (pc := 24) S0 dX12_isHeld_24 ?_
      have hz := ok_some hf
      have hz : 0 = e := hz
      subst hQ
      subst hz
      exact r_zret (pc := 25) S0 hr hlk (Or.inl rfl) dX12_isHeld_25
    · refine r_iconst (pc := 20) S0 dX12_isHeld_20 ?_
      refine r_goto (pc := 21) (tgt := 25) S0 dX12_isHeld_21 (by decide) ?_
      have hz := ok_some hf
      have hz : 1 = e := hz
      subst hQ
      subst hz
      exact r_zret (pc := 25) S0 hr hlk (Or.inr rfl) dX12_isHeld_25
