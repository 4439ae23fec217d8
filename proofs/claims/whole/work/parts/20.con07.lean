/-! Contracts, laid by wip/gen/gen.py. -/
set_option maxHeartbeats 4000000 in
set_option maxRecDepth 100000 in
theorem c_X6_canBeHad (l : Launch) (cA : Nat → ClassId) (D : va_G) (N : Nat) (sx : Sx) (ad : Nat → Nat) (T : Knd) (A : Rfs) (nx : Nat) (I : Mem) (w0 : Nat) (a1 : Int) (ca1 : cn a1) (e : Int) (h : f_X6_canBeHad T A w0 a1 I = some e) : CtI l yX6_canBeHad cX6_canBeHad 3 (some .boolean) 1 60 cA D N sx ad T A nx [rv ad w0, iv a1] I I e := by
  refine met_of (lv0 := [(0, rv ad w0), (1, iv a1)]) (by decide) (Nat.le_of_ble_eq_true rfl) rfl (fun p e0 s m args below meth c S0 hK hX hr hlk Q hQ => ?_)
  have hf : OK (f_X6_canBeHad T A w0 a1 I) (fun z => z = e) := ⟨e, h, rfl⟩
  unfold f_X6_canBeHad at hf
  obtain ⟨hw0, hf⟩ := ok_grd hf
  refine r_iconst (pc := 0) S0 dX6_canBeHad_0 ?_
  refine r_istore_n (pc := 1) (lv' := [(2, iv 0), (0, rv ad w0), (1, iv a1)]) S0 dX6_canBeHad_1 rfl (by decide) rfl ?_
  refine r_lv [1, 2, 0] rfl ?_
  refine it_ind (P := fun s2 => cn s2 → G p l e0 (rmx 1 60) s m args below meth c 0 0 Q cA D N 3 ad T A nx 2 [(0, rv ad w0), (1, iv a1), (2, iv s2)] [] I) (fun n0 s2 ih1 hf c3 => ?_) FU 0 hf (cnz 0 rfl)
  refine r_iload_n (pc := 2) S0 2 dX6_canBeHad_2 rfl rfl ?_
  refine r_aload_n (pc := 3) S0 0 dX6_canBeHad_3 rfl rfl ?_
  refine r_getI (pc := 4) S0 hK fl_X6_41 dX6_canBeHad_4 hf (fun x4 c5 hf => ?_)
  refine r_icmp_ge (pc := 7) (tgt := 37) S0 dX6_canBeHad_7 (by decide) c3 c5 hf (fun hf => ?_) (fun hf => ?_)
  · refine r_iconst (pc := 37) S0 dX6_canBeHad_37 ?_
    have hz := ok_some hf
    have hz : 0 = e := hz
    subst hQ
    subst hz
    exact r_zret (pc := 38) S0 hr hlk (Or.inl rfl) dX6_canBeHad_38
  · refine r_aload_n (pc := 10) S0 0 dX6_canBeHad_10 rfl rfl ?_
    refine r_getR (pc := 11) S0 hK fl_X6_18 dX6_canBeHad_11 hf (fun x6 hf => ?_)
    refine r_iload_n (pc := 14) S0 2 dX6_canBeHad_14 rfl rfl ?_
    refine r_lald (pc := 15) S0 hK dX6_canBeHad_15 c3 hf (fun x7 c8 hf => ?_)
    refine r_lconst (pc := 16) (v := 0) S0 dX6_canBeHad_16 rfl ?_
    refine r_lcmp (pc := 17) S0 dX6_canBeHad_17 c8 (clz 0 rfl) ?_
    refine r_if_le (pc := 18) (tgt := 31) S0 dX6_canBeHad_18 (by decide) (cn_lcmp _ _) hf (fun hf => ?_) (fun hf => ?_)
    · refine r_iinc (pc := 31) (lv' := [(2, iv (ia s2 1)), (0, rv ad w0), (1, iv a1)]) S0 2 dX6_canBeHad_31 rfl (by decide) rfl ?_
      refine r_goto (pc := 34) (tgt := 2) S0 dX6_canBeHad_34 (by decide) ?_
      have hz := ok_some hf
      refine r_lv [1, 2, 0] rfl ?_
      exact ih1 (ia s2 1) hz (cn_wrap _)
    · refine r_iload_n (pc := 21) S0 1 dX6_canBeHad_21 rfl rfl ?_
      refine r_iload_n (pc := 22) S0 2 dX6_canBeHad_22 rfl rfl ?_
      refine r_iconst (pc := 23) S0 dX6_canBeHad_23 ?_
      refine r_ixor (pc := 24) S0 dX6_canBeHad_24 ?_
      refine r_iand (pc := 25) S0 dX6_canBeHad_25 ?_
      refine r_if_ne (pc := 26) (tgt := 31) S0 dX6_canBeHad_26 (by decide) (cn_toInt _) hf (fun hf => ?_) (fun hf => ?_)
      · refine r_iinc (pc := 31) (lv' := [(2, iv (ia s2 1)), (0, rv ad w0), (1, iv a1)]) S0 2 dX6_canBeHad_31 rfl (by decide) rfl ?_
        refine r_goto (pc := 34) (tgt := 2) S0 dX6_canBeHad_34 (by decide) ?_
        have hz := ok_some hf
        refine r_lv [1, 2, 0] rfl ?_
        exact ih1 (ia s2 1) hz (cn_wrap _)
      · refine r_iconst (pc := 29) S0 dX6_canBeHad_29 ?_
        have hz := ok_some hf
        have hz : 1 = e := hz
        subst hQ
        subst hz
        exact r_zret (pc := 30) S0 hr hlk (Or.inr rfl) dX6_canBeHad_30

set_option maxHeartbeats 4000000 in
set_option maxRecDepth 100000 in
theorem c_X6_isHadWithout (l : Launch) (cA : Nat → ClassId) (D : va_G) (N : Nat) (sx : Sx) (ad : Nat → Nat) (T : Knd) (A : Rfs) (nx : Nat) (I : Mem) (w0 : Nat) (w1 : Nat) (a2 : Int) (a3 : Int) (a4 : Int) (ca2 : cn a2) (ca3 : cn a3) (ca4 : cn a4) (e : (Int × Mem)) (h : f_X6_isHadWithout T A w0 w1 a2 a3 a4 I = some e) : CtI l yX6_isHadWithout cX6_isHadWithout 5 (some .boolean) 2 85 cA D N sx ad T A nx [rv ad w0, rv ad w1, iv a2, iv a3, iv a4] I e.2 e.1 := by
  refine met_of (lv0 := [(0, rv ad w0), (1, rv ad w1), (2, iv a2), (3, iv a3), (4, iv a4)]) (by decide) (Nat.le_of_ble_eq_true rfl) rfl (fun p e0 s m args below meth c S0 hK hX hr hlk Q hQ => ?_)
  have hf : OK (f_X6_isHadWithout T A w0 w1 a2 a3 a4 I) (fun z => z = e) := ⟨e, h, rfl⟩
  unfold f_X6_isHadWithout at hf
  obtain ⟨hw0, hf⟩ := ok_grd hf
  refine r_aload_n (pc := 0) S0 1 dX6_isHadWithout_0 rfl rfl ?_
  refine r_iload_n (pc := 1) S0 2 dX6_isHadWithout_1 rfl rfl ?_
  refine r_dup2 (pc := 2) S0 dX6_isHadWithout_2 rfl rfl ?_
  refine r_iald (pc := 3) S0 hK dX6_isHadWithout_3 ca2 hf (fun x1 c2 hf => ?_)
  refine r_iconst (pc := 4) S0 dX6_isHadWithout_4 ?_
  refine r_iload_n (pc := 5) S0 3 dX6_isHadWithout_5 rfl rfl ?_
  refine r_ishl (pc := 6) S0 dX6_isHadWithout_6 ?_
  refine r_ixor (pc := 7) S0 dX6_isHadWithout_7 ?_
  refine r_iast (pc := 8) S0 hK dX6_isHadWithout_8 ca2 (cn_toInt _) hf (fun I3 hf => ?_)
  refine r_aload_n (pc := 9) S0 0 dX6_isHadWithout_9 rfl rfl ?_
  obtain ⟨e4, h5, hf⟩ := ok_bind hf
  refine r_cV_V (pc := 10) [] S0 hK hX mv_X6_54 (k_X6_countOrders h5) (c_X6_countOrders l cA D N sx ad T A nx I3 w0 e4 h5) rfl rfl ⟨by decide, by decide⟩ (Nat.le_of_ble_eq_true rfl) ⟨Nat.le_refl _, Nat.le_refl _⟩ dX6_isHadWithout_10 ?_
  refine r_aload_n (pc := 13) S0 1 dX6_isHadWithout_13 rfl rfl ?_
  refine r_iload_n (pc := 14) S0 2 dX6_isHadWithout_14 rfl rfl ?_
  refine r_dup2 (pc := 15) S0 dX6_isHadWithout_15 rfl rfl ?_
  refine r_iald (pc := 16) S0 hK dX6_isHadWithout_16 ca2 hf (fun x6 c7 hf => ?_)
  refine r_iconst (pc := 17) S0 dX6_isHadWithout_17 ?_
  refine r_iload_n (pc := 18) S0 3 dX6_isHadWithout_18 rfl rfl ?_
  refine r_ishl (pc := 19) S0 dX6_isHadWithout_19 ?_
  refine r_ixor (pc := 20) S0 dX6_isHadWithout_20 ?_
  refine r_iast (pc := 21) S0 hK dX6_isHadWithout_21 ca2 (cn_toInt _) hf (fun I8 hf => ?_)
  refine r_aload_n (pc := 22) S0 0 dX6_isHadWithout_22 rfl rfl ?_
  refine r_iload (pc := 23) S0 4 dX6_isHadWithout_23 rfl ?_
  obtain ⟨e9, h10, hf⟩ := ok_bind hf
  refine r_cV_I (pc := 25) [iv a4] S0 hK hX mv_X6_80 (k_X6_canBeHad h10) (c_X6_canBeHad l cA D N sx ad T A nx I8 w0 a4 ca4 e9 h10) rfl rfl ⟨by decide, by decide⟩ (Nat.le_of_ble_eq_true rfl) ⟨Nat.le_refl _, Nat.le_refl _⟩ dX6_isHadWithout_25 (fun c11 => ?_)
  obtain ⟨_, z12, hf⟩ := ok_bind hf
  have hz := ok_some hf
  have hz : (e9, I8) = e := hz
  subst hQ
  subst hz
  exact r_zret (pc := 28) S0 hr hlk (zck_some z12) dX6_isHadWithout_28

set_option maxHeartbeats 4000000 in
set_option maxRecDepth 100000 in
theorem c_X6_firstPartingOf (l : Launch) (cA : Nat → ClassId) (D : va_G) (N : Nat) (sx : Sx) (ad : Nat → Nat) (T : Knd) (A : Rfs) (nx : Nat) (I : Mem) (w0 : Nat) (w1 : Nat) (a2 : Int) (ca2 : cn a2) (e : (Int × Mem)) (h : f_X6_firstPartingOf T A w0 w1 a2 I = some e) : CtI l yX6_firstPartingOf cX6_firstPartingOf 5 (some .int) 3 109 cA D N sx ad T A nx [rv ad w0, rv ad w1, iv a2] I e.2 e.1 := by
  refine met_of (lv0 := [(0, rv ad w0), (1, rv ad w1), (2, iv a2)]) (by decide) (Nat.le_of_ble_eq_true rfl) rfl (fun p e0 s m args below meth c S0 hK hX hr hlk Q hQ => ?_)
  have hf : OK (f_X6_firstPartingOf T A w0 w1 a2 I) (fun z => z = e) := ⟨e, h, rfl⟩
  unfold f_X6_firstPartingOf at hf
  obtain ⟨hw0, hf⟩ := ok_grd hf
  refine r_iconst (pc := 0) S0 dX6_firstPartingOf_0 ?_
  refine r_istore_n (pc := 1) (lv' := [(3, iv 0), (0, rv ad w0), (1, rv ad w1), (2, iv a2)]) S0 dX6_firstPartingOf_1 rfl (by decide) rfl ?_
  refine thn_rule (P := fun v2 => cn v2.1 → cn v2.2.1 → G p l e0 (rmx 3 109) s m args below meth c 0 0 Q cA D N 5 ad T A nx 45 [(3, iv v2.1), (4, iv v2.2.1)] [] v2.2.2) hf (fun v2 hf c3 c4 => ?_) (fun K1 hf => ?_)
  · refine r_bipush (pc := 45) S0 dX6_firstPartingOf_45 (by decide) ?_
    refine r_iload_n (pc := 47) S0 0 dX6_firstPartingOf_47 rfl rfl ?_
    refine r_imul (pc := 48) S0 dX6_firstPartingOf_48 ?_
    refine r_iload (pc := 49) S0 1 dX6_firstPartingOf_49 rfl ?_
    refine r_iadd (pc := 51) S0 dX6_firstPartingOf_51 ?_
    have hz := ok_some hf
    have hz : (ia (im 10 v2.1) v2.2.1, v2.2.2) = e := hz
    subst hQ
    subst hz
    exact r_iret (pc := 52) S0 hr hlk (cn_wrap _) dX6_firstPartingOf_52
  · refine r_lv [1, 2, 3, 0] rfl ?_
    refine it_ind (P := fun s6 => cn s6.1 → G p l e0 (rmx 3 109) s m args below meth c 0 0 Q cA D N 5 ad T A nx 2 [(0, rv ad w0), (1, rv ad w1), (2, iv a2), (3, iv s6.1)] [] s6.2) (fun n0 s6 ih5 hf c7 => ?_) FU (0, I) hf (cnz 0 rfl)
    refine r_iload_n (pc := 2) S0 3 dX6_firstPartingOf_2 rfl rfl ?_
    refine r_aload_n (pc := 3) S0 0 dX6_firstPartingOf_3 rfl rfl ?_
    refine r_getI (pc := 4) S0 hK fl_X6_40 dX6_firstPartingOf_4 hf (fun x8 c9 hf => ?_)
    refine r_icmp_ge (pc := 7) (tgt := 65) S0 dX6_firstPartingOf_7 (by decide) c7 c9 hf (fun hf => ?_) (fun hf => ?_)
    · refine r_iconst (pc := 65) S0 dX6_firstPartingOf_65 ?_
      have hz := ok_some hf
      have hz : ((-1), s6.2) = e := hz
      subst hQ
      subst hz
      exact r_iret (pc := 66) S0 hr hlk (cnz (-1) rfl) dX6_firstPartingOf_66
    · refine r_iconst (pc := 10) S0 dX6_firstPartingOf_10 ?_
      refine r_istore (pc := 11) (lv' := [(4, iv 0), (0, rv ad w0), (1, rv ad w1), (2, iv a2), (3, iv s6.1)]) S0 dX6_firstPartingOf_11 (by decide) rfl ?_
      refine r_lv [1, 2, 3, 4, 0] rfl ?_
      refine it_ind (P := fun s11 => cn s11.1 → G p l e0 (rmx 3 109) s m args below meth c 0 0 Q cA D N 5 ad T A nx 13 [(0, rv ad w0), (1, rv ad w1), (2, iv a2), (3, iv s6.1), (4, iv s11.1)] [] s11.2) (fun n0 s11 ih10 hf c12 => ?_) FU (0, s6.2) hf (cnz 0 rfl)
      refine r_iload (pc := 13) S0 4 dX6_firstPartingOf_13 rfl ?_
      refine r_aload_n (pc := 15) S0 0 dX6_firstPartingOf_15 rfl rfl ?_
      refine r_getI (pc := 16) S0 hK fl_X6_40 dX6_firstPartingOf_16 hf (fun x13 c14 hf => ?_)
      refine r_icmp_ge (pc := 19) (tgt := 59) S0 dX6_firstPartingOf_19 (by decide) c12 c14 hf (fun hf => ?_) (fun hf => ?_)
      · refine r_iinc (pc := 59) (lv' := [(3, iv (ia s6.1 1)), (0, rv ad w0), (1, rv ad w1), (2, iv a2), (4, iv s11.1)]) S0 3 dX6_firstPartingOf_59 rfl (by decide) rfl ?_
        refine r_goto (pc := 62) (tgt := 2) S0 dX6_firstPartingOf_62 (by decide) ?_
        have hz := ok_some hf
        refine r_lv [1, 2, 3, 0] rfl ?_
        exact ih5 (ia s6.1 1, s11.2) hz (cn_wrap _)
      · refine r_aload_n (pc := 22) S0 1 dX6_firstPartingOf_22 rfl rfl ?_
        refine r_iload_n (pc := 23) S0 3 dX6_firstPartingOf_23 rfl rfl ?_
        refine r_iald (pc := 24) S0 hK dX6_firstPartingOf_24 c7 hf (fun x15 c16 hf => ?_)
        refine r_iload (pc := 25) S0 4 dX6_firstPartingOf_25 rfl ?_
        obtain ⟨e17, h18, hf⟩ := ok_bind hf
        refine r_cN_I (pc := 27) [iv x15, iv s11.1] S0 hK hX mn_X6_57 (c_X11_hasBit l cA D N sx ad T A nx s11.2 x15 s11.1 c16 c12 e17 h18) rfl rfl ⟨by decide, by decide⟩ (Nat.le_of_ble_eq_true rfl) ⟨Nat.le_refl _, Nat.le_refl _⟩ dX6_firstPartingOf_27 (fun c19 => ?_)
        refine r_if_eq (pc := 30) (tgt := 53) S0 dX6_firstPartingOf_30 (by decide) c19 hf (fun hf => ?_) (fun hf => ?_)
        · refine r_iinc (pc := 53) (lv' := [(4, iv (ia s11.1 1)), (0, rv ad w0), (1, rv ad w1), (2, iv a2), (3, iv s6.1)]) S0 4 dX6_firstPartingOf_53 rfl (by decide) rfl ?_
          refine r_goto (pc := 56) (tgt := 13) S0 dX6_firstPartingOf_56 (by decide) ?_
          have hz := ok_some hf
          refine r_lv [1, 2, 3, 4, 0] rfl ?_
          exact ih10 (ia s11.1 1, s11.2) hz (cn_wrap _)
        · refine r_aload_n (pc := 33) S0 0 dX6_firstPartingOf_33 rfl rfl ?_
          refine r_aload_n (pc := 34) S0 1 dX6_firstPartingOf_34 rfl rfl ?_
          refine r_iload_n (pc := 35) S0 3 dX6_firstPartingOf_35 rfl rfl ?_
          refine r_iload (pc := 36) S0 4 dX6_firstPartingOf_36 rfl ?_
          refine r_iload_n (pc := 38) S0 2 dX6_firstPartingOf_38 rfl rfl ?_
          obtain ⟨e20, h21, hf⟩ := ok_bind hf
          refine r_cV_I (pc := 39) [rv ad w1, iv s6.1, iv s11.1, iv a2] S0 hK hX mv_X6_88 (k_X6_isHadWithout h21) (c_X6_isHadWithout l cA D N sx ad T A nx s11.2 w0 w1 s6.1 s11.1 a2 c7 c12 ca2 e20 h21) rfl rfl ⟨by decide, by decide⟩ (Nat.le_of_ble_eq_true rfl) ⟨Nat.le_refl _, Nat.le_refl _⟩ dX6_firstPartingOf_39 (fun c22 => ?_)
          refine r_if_eq (pc := 42) (tgt := 53) S0 dX6_firstPartingOf_42 (by decide) c22 hf (fun hf => ?_) (fun hf => ?_)
          · refine r_iinc (pc := 53) (lv' := [(4, iv (ia s11.1 1)), (0, rv ad w0), (1, rv ad w1), (2, iv a2), (3, iv s6.1)]) S0 4 dX6_firstPartingOf_53 rfl (by decide) rfl ?_
            refine r_goto (pc := 56) (tgt := 13) S0 dX6_firstPartingOf_56 (by decide) ?_
            have hz := ok_some hf
            refine r_lv [1, 2, 3, 4, 0] rfl ?_
            exact ih10 (ia s11.1 1, e20.2) hz (cn_wrap _)
          · have hz := ok_some hf
            refine r_lv [3, 4] rfl ?_
            exact K1 (s6.1, s11.1, e20.2) hz c7 c12

set_option maxHeartbeats 4000000 in
set_option maxRecDepth 100000 in
theorem c_X6_firstParting (l : Launch) (cA : Nat → ClassId) (D : va_G) (N : Nat) (sx : Sx) (ad : Nat → Nat) (T : Knd) (A : Rfs) (nx : Nat) (I : Mem) (w0 : Nat) (a1 : Int) (ca1 : cn a1) (e : (Int × Mem)) (h : f_X6_firstParting T A w0 a1 I = some e) : CtI l yX6_firstParting cX6_firstParting 4 (some .int) 4 133 cA D N sx ad T A nx [rv ad w0, iv a1] I e.2 e.1 := by
  refine met_of (lv0 := [(0, rv ad w0), (1, iv a1)]) (by decide) (Nat.le_of_ble_eq_true rfl) rfl (fun p e0 s m args below meth c S0 hK hX hr hlk Q hQ => ?_)
  have hf : OK (f_X6_firstParting T A w0 a1 I) (fun z => z = e) := ⟨e, h, rfl⟩
  unfold f_X6_firstParting at hf
  obtain ⟨hw0, hf⟩ := ok_grd hf
  refine r_aload_n (pc := 0) S0 0 dX6_firstParting_0 rfl rfl ?_
  refine r_iload_n (pc := 1) S0 1 dX6_firstParting_1 rfl rfl ?_
  obtain ⟨e1, h2, hf⟩ := ok_bind hf
  refine r_cV_I (pc := 2) [iv a1] S0 hK hX mv_X6_80 (k_X6_canBeHad h2) (c_X6_canBeHad l cA D N sx ad T A nx I w0 a1 ca1 e1 h2) rfl rfl ⟨by decide, by decide⟩ (Nat.le_of_ble_eq_true rfl) ⟨Nat.le_refl _, Nat.le_refl _⟩ dX6_firstParting_2 (fun c3 => ?_)
  refine r_if_eq (pc := 5) (tgt := 10) S0 dX6_firstParting_5 (by decide) c3 hf (fun hf => ?_) (fun hf => ?_)
  · refine r_aload_n (pc := 10) S0 0 dX6_firstParting_10 rfl rfl ?_
    refine r_aload_n (pc := 11) S0 0 dX6_firstParting_11 rfl rfl ?_
    refine r_getR (pc := 12) S0 hK fl_X6_9 dX6_firstParting_12 hf (fun x4 hf => ?_)
    refine r_iload_n (pc := 15) S0 1 dX6_firstParting_15 rfl rfl ?_
    obtain ⟨e5, h6, hf⟩ := ok_bind hf
    refine r_cV_I (pc := 16) [rv ad x4, iv a1] S0 hK hX mv_X6_84 (k_X6_firstPartingOf h6) (c_X6_firstPartingOf l cA D N sx ad T A nx I w0 x4 a1 ca1 e5 h6) rfl rfl ⟨by decide, by decide⟩ (Nat.le_of_ble_eq_true rfl) ⟨Nat.le_refl _, Nat.le_refl _⟩ dX6_firstParting_16 (fun c7 => ?_)
    refine r_istore_n (pc := 19) (lv' := [(2, iv e5.1), (0, rv ad w0), (1, iv a1)]) S0 dX6_firstParting_19 rfl (by decide) rfl ?_
    refine r_iload_n (pc := 20) S0 0 dX6_firstParting_20 rfl rfl ?_
    refine r_iconst (pc := 21) S0 dX6_firstParting_21 ?_
    refine r_icmp_eq (pc := 22) (tgt := 27) S0 dX6_firstParting_22 (by decide) c7 (cnz (-1) rfl) hf (fun hf => ?_) (fun hf => ?_)
    · refine r_aload_n (pc := 27) S0 1 dX6_firstParting_27 rfl rfl ?_
      refine r_aload_n (pc := 28) S0 1 dX6_firstParting_28 rfl rfl ?_
      refine r_getR (pc := 29) S0 hK fl_X6_15 dX6_firstParting_29 hf (fun x8 hf => ?_)
      refine r_iload_n (pc := 32) S0 2 dX6_firstParting_32 rfl rfl ?_
      obtain ⟨e9, h10, hf⟩ := ok_bind hf
      refine r_cV_I (pc := 33) [rv ad x8, iv a1] S0 hK hX mv_X6_84 (k_X6_firstPartingOf h10) (c_X6_firstPartingOf l cA D N sx ad T A nx e5.2 w0 x8 a1 ca1 e9 h10) rfl rfl ⟨by decide, by decide⟩ (Nat.le_of_ble_eq_true rfl) ⟨Nat.le_refl _, Nat.le_refl _⟩ dX6_firstParting_33 (fun c11 => ?_)
      refine r_istore_n (pc := 36) (lv' := [(3, iv e9.1), (2, iv e5.1), (0, rv ad w0), (1, iv a1)]) S0 dX6_firstParting_36 rfl (by decide) rfl ?_
      refine r_iload_n (pc := 37) S0 0 dX6_firstParting_37 rfl rfl ?_
      refine r_iconst (pc := 38) S0 dX6_firstParting_38 ?_
      refine r_icmp_ne (pc := 39) (tgt := 46) S0 dX6_firstParting_39 (by decide) c11 (cnz (-1) rfl) hf (fun hf => ?_) (fun hf => ?_)
      · refine r_bipush (pc := 46) S0 dX6_firstParting_46 (by decide) ?_
        refine r_iload_n (pc := 48) S0 0 dX6_firstParting_48 rfl rfl ?_
        refine r_iadd (pc := 49) S0 dX6_firstParting_49 ?_
        have hz := ok_some hf
        have hz : (ia 100 e9.1, e9.2) = e := hz
        subst hQ
        subst hz
        exact r_iret (pc := 50) S0 hr hlk (cn_wrap _) dX6_firstParting_50
      · refine r_iconst (pc := 42) S0 dX6_firstParting_42 ?_
        refine r_goto (pc := 43) (tgt := 50) S0 dX6_firstParting_43 (by decide) ?_
        have hz := ok_some hf
        have hz : ((-1), e9.2) = e := hz
        subst hQ
        subst hz
        exact r_iret (pc := 50) S0 hr hlk (cnz (-1) rfl) dX6_firstParting_50
    · refine r_iload_n (pc := 25) S0 0 dX6_firstParting_25 rfl rfl ?_
      have hz := ok_some hf
      have hz : (e5.1, e5.2) = e := hz
      subst hQ
      subst hz
      exact r_iret (pc := 26) S0 hr hlk c7 dX6_firstParting_26
  · refine r_iconst (pc := 8) S0 dX6_firstParting_8 ?_
    have hz := ok_some hf
    have hz : ((-1), I) = e := hz
    subst hQ
    subst hz
    exact r_iret (pc := 9) S0 hr hlk (cnz (-1) rfl) dX6_firstParting_9

set_option maxHeartbeats 4000000 in
set_option maxRecDepth 100000 in
theorem c_X11_parted (l : Launch) (cA : Nat → ClassId) (D : va_G) (N : Nat) (sx : Sx) (ad : Nat → Nat) (T : Knd) (A : Rfs) (nx : Nat) (I : Mem) (w0 : Nat)  (e : (Int × Mem)) (h : f_X11_parted T A w0 I = some e) : CtI l yX11_parted cX11_parted 1 (some .int) 5 156 cA D N sx ad T A nx [rv ad w0] I e.2 e.1 := by
  refine met_of (lv0 := [(0, rv ad w0)]) (by decide) (Nat.le_of_ble_eq_true rfl) rfl (fun p e0 s m args below meth c S0 hK hX hr hlk Q hQ => ?_)
  have hf : OK (f_X11_parted T A w0 I) (fun z => z = e) := ⟨e, h, rfl⟩
  unfold f_X11_parted at hf
  obtain ⟨hw0, hf⟩ := ok_grd hf
  refine r_aload_n (pc := 0) S0 0 dX11_parted_0 rfl rfl ?_
  refine r_getR (pc := 1) S0 hK fl_X11_28 dX11_parted_1 hf (fun x1 hf => ?_)
  obtain ⟨e2, h3, hf⟩ := ok_bind hf
  refine r_cV_I (pc := 4) [] S0 hK hX mv_X11_170 (k_X2_isThere h3) (c_X2_isThere l cA D N sx ad T A nx I x1 e2 h3) rfl rfl ⟨by decide, by decide⟩ (Nat.le_of_ble_eq_true rfl) ⟨Nat.le_refl _, Nat.le_refl _⟩ dX11_parted_4 (fun c4 => ?_)
  refine r_if_eq (pc := 7) (tgt := 27) S0 dX11_parted_7 (by decide) c4 hf (fun hf => ?_) (fun hf => ?_)
  · refine r_bipush (pc := 27) S0 dX11_parted_27 (by decide) ?_
    have hz := ok_some hf
    have hz : ((-2), I) = e := hz
    subst hQ
    subst hz
    exact r_iret (pc := 29) S0 hr hlk (cnz (-2) rfl) dX11_parted_29
  · refine r_aload_n (pc := 10) S0 0 dX11_parted_10 rfl rfl ?_
    obtain ⟨e5, h6, hf⟩ := ok_bind hf
    refine r_cV_R (pc := 11) [] S0 hK hX mv_X11_283 (k_X11_knownSets h6) (c_X11_knownSets l cA D N sx ad T A nx I w0 e5 h6) rfl rfl ⟨by decide, by decide⟩ (Nat.le_of_ble_eq_true rfl) ⟨Nat.le_refl _, Nat.le_refl _⟩ dX11_parted_11 ?_
    refine r_aload_n (pc := 14) S0 0 dX11_parted_14 rfl rfl ?_
    refine r_getR (pc := 15) S0 hK fl_X11_28 dX11_parted_15 hf (fun x7 hf => ?_)
    refine r_getI (pc := 18) S0 hK fl_X11_174 dX11_parted_18 hf (fun x8 c9 hf => ?_)
    obtain ⟨e10, h11, hf⟩ := ok_bind hf
    refine r_cV_I (pc := 21) [iv x8] S0 hK hX mv_X11_313 (k_X6_firstParting h11) (c_X6_firstParting l cA D N sx ad T A nx e5.2 e5.1 x8 c9 e10 h11) rfl rfl ⟨by decide, by decide⟩ (Nat.le_of_ble_eq_true rfl) ⟨Nat.le_refl _, Nat.le_refl _⟩ dX11_parted_21 (fun c12 => ?_)
    refine r_goto (pc := 24) (tgt := 29) S0 dX11_parted_24 (by decide) ?_
    have hz := ok_some hf
    have hz : (e10.1, e10.2) = e := hz
    subst hQ
    subst hz
    exact r_iret (pc := 29) S0 hr hlk c12 dX11_parted_29

set_option maxHeartbeats 4000000 in
set_option maxRecDepth 100000 in
theorem c_X7_isSlot (l : Launch) (cA : Nat → ClassId) (D : va_G) (N : Nat) (sx : Sx) (ad : Nat → Nat) (T : Knd) (A : Rfs) (nx : Nat) (I : Mem) (w0 : Nat) (a1 : Int) (ca1 : cn a1) (e : Int) (h : f_X7_isSlot T A w0 a1 I = some e) : CtI l yX7_isSlot cX7_isSlot 2 (some .boolean) 1 60 cA D N sx ad T A nx [rv ad w0, iv a1] I I e := by
  refine met_of (lv0 := [(0, rv ad w0), (1, iv a1)]) (by decide) (Nat.le_of_ble_eq_true rfl) rfl (fun p e0 s m args below meth c S0 hK hX hr hlk Q hQ => ?_)
  have hf : OK (f_X7_isSlot T A w0 a1 I) (fun z => z = e) := ⟨e, h, rfl⟩
  unfold f_X7_isSlot at hf
  obtain ⟨hw0, hf⟩ := ok_grd hf
  refine r_iload_n (pc := 0) S0 1 dX7_isSlot_0 rfl rfl ?_
  refine r_if_lt (pc := 1) (tgt := 13) S0 dX7_isSlot_1 (by decide) ca1 hf (fun hf => ?_) (fun hf => ?_)
  · refine r_iconst (pc := 13) S0 dX7_isSlot_13 ?_
    have hz := ok_some hf
    have hz : 0 = e := hz
    subst hQ
    subst hz
    exact r_zret (pc := 14) S0 hr hlk (Or.inl rfl) dX7_isSlot_14
  · refine r_iload_n (pc := 4) S0 1 dX7_isSlot_4 rfl rfl ?_
    refine r_iconst (pc := 5) S0 dX7_isSlot_5 ?_
    refine r_icmp_ge (pc := 6) (tgt := 13) S0 dX7_isSlot_6 (by decide) ca1 (cnz 4 rfl) hf (fun hf => ?_) (fun hf => ?_)
    · refine r_iconst (pc := 13) S0 dX7_isSlot_13 ?_
      have hz := ok_some hf
      have hz : 0 = e := hz
      subst hQ
      subst hz
      exact r_zret (pc := 14) S0 hr hlk (Or.inl rfl) dX7_isSlot_14
    · refine r_iconst (pc := 9) S0 dX7_isSlot_9 ?_
      refine r_goto (pc := 10) (tgt := 14) S0 dX7_isSlot_10 (by decide) ?_
      have hz := ok_some hf
      have hz : 1 = e := hz
      subst hQ
      subst hz
      exact r_zret (pc := 14) S0 hr hlk (Or.inr rfl) dX7_isSlot_14

set_option maxHeartbeats 4000000 in
set_option maxRecDepth 100000 in
theorem c_X7_hasRow (l : Launch) (cA : Nat → ClassId) (D : va_G) (N : Nat) (sx : Sx) (ad : Nat → Nat) (T : Knd) (A : Rfs) (nx : Nat) (I : Mem) (w0 : Nat) (a1 : Int) (ca1 : cn a1) (e : Int) (h : f_X7_hasRow T A w0 a1 I = some e) : CtI l yX7_hasRow cX7_hasRow 2 (some .boolean) 2 81 cA D N sx ad T A nx [rv ad w0, iv a1] I I e := by
  refine met_of (lv0 := [(0, rv ad w0), (1, iv a1)]) (by decide) (Nat.le_of_ble_eq_true rfl) rfl (fun p e0 s m args below meth c S0 hK hX hr hlk Q hQ => ?_)
  have hf : OK (f_X7_hasRow T A w0 a1 I) (fun z => z = e) := ⟨e, h, rfl⟩
  unfold f_X7_hasRow at hf
  obtain ⟨hw0, hf⟩ := ok_grd hf
  refine r_aload_n (pc := 0) S0 0 dX7_hasRow_0 rfl rfl ?_
  refine r_iload_n (pc := 1) S0 1 dX7_hasRow_1 rfl rfl ?_
  obtain ⟨e1, h2, hf⟩ := ok_bind hf
  refine r_cV_I (pc := 2) [iv a1] S0 hK hX mv_X7_29 (k_X7_isSlot h2) (c_X7_isSlot l cA D N sx ad T A nx I w0 a1 ca1 e1 h2) rfl rfl ⟨by decide, by decide⟩ (Nat.le_of_ble_eq_true rfl) ⟨Nat.le_refl _, Nat.le_refl _⟩ dX7_hasRow_2 (fun c3 => ?_)
  refine r_if_eq (pc := 5) (tgt := 22) S0 dX7_hasRow_5 (by decide) c3 hf (fun hf => ?_) (fun hf => ?_)
  · refine r_iconst (pc := 22) S0 dX7_hasRow_22 ?_
    have hz := ok_some hf
    have hz : 0 = e := hz
    subst hQ
    subst hz
    exact r_zret (pc := 23) S0 hr hlk (Or.inl rfl) dX7_hasRow_23
  · refine r_aload_n (pc := 8) S0 0 dX7_hasRow_8 rfl rfl ?_
    refine r_getR (pc := 9) S0 hK fl_X7_20 dX7_hasRow_9 hf (fun x4 hf => ?_)
    refine r_iload_n (pc := 12) S0 1 dX7_hasRow_12 rfl rfl ?_
    refine r_iald (pc := 13) S0 hK dX7_hasRow_13 ca1 hf (fun x5 c6 hf => ?_)
    refine r_iconst (pc := 14) S0 dX7_hasRow_14 ?_
    refine r_icmp_eq (pc := 15) (tgt := 22) S0 dX7_hasRow_15 (by decide) c6 (cnz (-1) rfl) hf (fun hf => ?_) (fun hf => ?_)
    · refine r_iconst (pc := 22) S0 dX7_hasRow_22 ?_
      have hz := ok_some hf
      have hz : 0 = e := hz
      subst hQ
      subst hz
      exact r_zret (pc := 23) S0 hr hlk (Or.inl rfl) dX7_hasRow_23
    · refine r_iconst (pc := 18) S0 dX7_hasRow_18 ?_
      refine r_goto (pc := 19) (tgt := 23) S0 dX7_hasRow_19 (by decide) ?_
      have hz := ok_some hf
      have hz : 1 = e := hz
      subst hQ
      subst hz
      exact r_zret (pc := 23) S0 hr hlk (Or.inr rfl) dX7_hasRow_23

set_option maxHeartbeats 4000000 in
set_option maxRecDepth 100000 in
theorem c_X7_lengthOf (l : Launch) (cA : Nat → ClassId) (D : va_G) (N : Nat) (sx : Sx) (ad : Nat → Nat) (T : Knd) (A : Rfs) (nx : Nat) (I : Mem) (w0 : Nat) (a1 : Int) (ca1 : cn a1) (e : Int) (h : f_X7_lengthOf T A w0 a1 I = some e) : CtI l yX7_lengthOf cX7_lengthOf 2 (some .int) 3 102 cA D N sx ad T A nx [rv ad w0, iv a1] I I e := by
  refine met_of (lv0 := [(0, rv ad w0), (1, iv a1)]) (by decide) (Nat.le_of_ble_eq_true rfl) rfl (fun p e0 s m args below meth c S0 hK hX hr hlk Q hQ => ?_)
  have hf : OK (f_X7_lengthOf T A w0 a1 I) (fun z => z = e) := ⟨e, h, rfl⟩
  unfold f_X7_lengthOf at hf
  obtain ⟨hw0, hf⟩ := ok_grd hf
  refine r_aload_n (pc := 0) S0 0 dX7_lengthOf_0 rfl rfl ?_
  refine r_iload_n (pc := 1) S0 1 dX7_lengthOf_1 rfl rfl ?_
  obtain ⟨e1, h2, hf⟩ := ok_bind hf
  refine r_cV_I (pc := 2) [iv a1] S0 hK hX mv_X7_33 (k_X7_hasRow h2) (c_X7_hasRow l cA D N sx ad T A nx I w0 a1 ca1 e1 h2) rfl rfl ⟨by decide, by decide⟩ (Nat.le_of_ble_eq_true rfl) ⟨Nat.le_refl _, Nat.le_refl _⟩ dX7_lengthOf_2 (fun c3 => ?_)
  refine r_if_eq (pc := 5) (tgt := 17) S0 dX7_lengthOf_5 (by decide) c3 hf (fun hf => ?_) (fun hf => ?_)
  · refine r_iconst (pc := 17) S0 dX7_lengthOf_17 ?_
    have hz := ok_some hf
    have hz : 0 = e := hz
    subst hQ
    subst hz
    exact r_iret (pc := 18) S0 hr hlk (cnz 0 rfl) dX7_lengthOf_18
  · refine r_aload_n (pc := 8) S0 0 dX7_lengthOf_8 rfl rfl ?_
    refine r_getR (pc := 9) S0 hK fl_X7_20 dX7_lengthOf_9 hf (fun x4 hf => ?_)
    refine r_iload_n (pc := 12) S0 1 dX7_lengthOf_12 rfl rfl ?_
    refine r_iald (pc := 13) S0 hK dX7_lengthOf_13 ca1 hf (fun x5 c6 hf => ?_)
    refine r_goto (pc := 14) (tgt := 18) S0 dX7_lengthOf_14 (by decide) ?_
    have hz := ok_some hf
    have hz : x5 = e := hz
    subst hQ
    subst hz
    exact r_iret (pc := 18) S0 hr hlk c6 dX7_lengthOf_18

set_option maxHeartbeats 4000000 in
set_option maxRecDepth 100000 in
theorem c_X7_areBelow (l : Launch) (cA : Nat → ClassId) (D : va_G) (N : Nat) (sx : Sx) (ad : Nat → Nat) (T : Knd) (A : Rfs) (nx : Nat) (I : Mem) (w0 : Nat) (a1 : Int) (a2 : Int) (ca1 : cn a1) (ca2 : cn a2) (e : Int) (h : f_X7_areBelow T A w0 a1 a2 I = some e) : CtI l yX7_areBelow cX7_areBelow 4 (some .boolean) 4 123 cA D N sx ad T A nx [rv ad w0, iv a1, iv a2] I I e := by
  refine met_of (lv0 := [(0, rv ad w0), (1, iv a1), (2, iv a2)]) (by decide) (Nat.le_of_ble_eq_true rfl) rfl (fun p e0 s m args below meth c S0 hK hX hr hlk Q hQ => ?_)
  have hf : OK (f_X7_areBelow T A w0 a1 a2 I) (fun z => z = e) := ⟨e, h, rfl⟩
  unfold f_X7_areBelow at hf
  obtain ⟨hw0, hf⟩ := ok_grd hf
  refine r_iconst (pc := 0) S0 dX7_areBelow_0 ?_
  refine r_istore_n (pc := 1) (lv' := [(3, iv 0), (0, rv ad w0), (1, iv a1), (2, iv a2)]) S0 dX7_areBelow_1 rfl (by decide) rfl ?_
  refine r_lv [1, 2, 3, 0] rfl ?_
  refine it_ind (P := fun s2 => cn s2 → G p l e0 (rmx 4 123) s m args below meth c 0 0 Q cA D N 4 ad T A nx 2 [(0, rv ad w0), (1, iv a1), (2, iv a2), (3, iv s2)] [] I) (fun n0 s2 ih1 hf c3 => ?_) FU 0 hf (cnz 0 rfl)
  refine r_iload_n (pc := 2) S0 3 dX7_areBelow_2 rfl rfl ?_
  refine r_aload_n (pc := 3) S0 0 dX7_areBelow_3 rfl rfl ?_
  refine r_iload_n (pc := 4) S0 1 dX7_areBelow_4 rfl rfl ?_
  obtain ⟨e4, h5, hf⟩ := ok_bind hf
  refine r_cV_I (pc := 5) [iv a1] S0 hK hX mv_X7_39 (k_X7_lengthOf h5) (c_X7_lengthOf l cA D N sx ad T A nx I w0 a1 ca1 e4 h5) rfl rfl ⟨by decide, by decide⟩ (Nat.le_of_ble_eq_true rfl) ⟨Nat.le_refl _, Nat.le_refl _⟩ dX7_areBelow_5 (fun c6 => ?_)
  refine r_icmp_ge (pc := 8) (tgt := 46) S0 dX7_areBelow_8 (by decide) c3 c6 hf (fun hf => ?_) (fun hf => ?_)
  · refine r_iconst (pc := 46) S0 dX7_areBelow_46 ?_
    have hz := ok_some hf
    have hz : 1 = e := hz
    subst hQ
    subst hz
    exact r_zret (pc := 47) S0 hr hlk (Or.inr rfl) dX7_areBelow_47
  · refine r_aload_n (pc := 11) S0 0 dX7_areBelow_11 rfl rfl ?_
    refine r_getR (pc := 12) S0 hK fl_X7_13 dX7_areBelow_12 hf (fun x7 hf => ?_)
    refine r_iload_n (pc := 15) S0 1 dX7_areBelow_15 rfl rfl ?_
    refine r_aald 25 5 (pc := 16) S0 hK (by decide) rfl rfl dX7_areBelow_16 ca1 hf (fun x8 hf => ?_)
    refine r_iload_n (pc := 17) S0 3 dX7_areBelow_17 rfl rfl ?_
    refine r_lald (pc := 18) S0 hK dX7_areBelow_18 c3 hf (fun x9 c10 hf => ?_)
    refine r_lconst (pc := 19) (v := 0) S0 dX7_areBelow_19 rfl ?_
    refine r_lcmp (pc := 20) S0 dX7_areBelow_20 c10 (clz 0 rfl) ?_
    refine r_if_lt (pc := 21) (tgt := 38) S0 dX7_areBelow_21 (by decide) (cn_lcmp _ _) hf (fun hf => ?_) (fun hf => ?_)
    · refine r_iconst (pc := 38) S0 dX7_areBelow_38 ?_
      have hz := ok_some hf
      have hz : 0 = e := hz
      subst hQ
      subst hz
      exact r_zret (pc := 39) S0 hr hlk (Or.inl rfl) dX7_areBelow_39
    · refine r_aload_n (pc := 24) S0 0 dX7_areBelow_24 rfl rfl ?_
      refine r_getR (pc := 25) S0 hK fl_X7_13 dX7_areBelow_25 hf (fun x11 hf => ?_)
      refine r_iload_n (pc := 28) S0 1 dX7_areBelow_28 rfl rfl ?_
      refine r_aald 25 5 (pc := 29) S0 hK (by decide) rfl rfl dX7_areBelow_29 ca1 hf (fun x12 hf => ?_)
      refine r_iload_n (pc := 30) S0 3 dX7_areBelow_30 rfl rfl ?_
      refine r_lald (pc := 31) S0 hK dX7_areBelow_31 c3 hf (fun x13 c14 hf => ?_)
      refine r_iload_n (pc := 32) S0 2 dX7_areBelow_32 rfl rfl ?_
      refine r_i2l (pc := 33) S0 dX7_areBelow_33 ca2 ?_
      refine r_lcmp (pc := 34) S0 dX7_areBelow_34 c14 (cl_cn ca2) ?_
      refine r_if_lt (pc := 35) (tgt := 40) S0 dX7_areBelow_35 (by decide) (cn_lcmp _ _) hf (fun hf => ?_) (fun hf => ?_)
      · refine r_iinc (pc := 40) (lv' := [(3, iv (ia s2 1)), (0, rv ad w0), (1, iv a1), (2, iv a2)]) S0 3 dX7_areBelow_40 rfl (by decide) rfl ?_
        refine r_goto (pc := 43) (tgt := 2) S0 dX7_areBelow_43 (by decide) ?_
        have hz := ok_some hf
        refine r_lv [1, 2, 3, 0] rfl ?_
        exact ih1 (ia s2 1) hz (cn_wrap _)
      · refine r_iconst (pc := 38) S0 dX7_areBelow_38 ?_
        have hz := ok_some hf
        have hz : 0 = e := hz
        subst hQ
        subst hz
        exact r_zret (pc := 39) S0 hr hlk (Or.inl rfl) dX7_areBelow_39

set_option maxHeartbeats 4000000 in
set_option maxRecDepth 100000 in
theorem c_X11_refusal (l : Launch) (cA : Nat → ClassId) (D : va_G) (N : Nat) (sx : Sx) (ad : Nat → Nat) (T : Knd) (A : Rfs) (nx : Nat) (I : Mem) (w0 : Nat) (a1 : Int) (ca1 : cn a1) (e : Int) (h : f_X11_refusal T A w0 a1 I = some e) : CtI l yX11_refusal cX11_refusal 2 (some .int) 5 146 cA D N sx ad T A nx [rv ad w0, iv a1] I I e := by
  refine met_of (lv0 := [(0, rv ad w0), (1, iv a1)]) (by decide) (Nat.le_of_ble_eq_true rfl) rfl (fun p e0 s m args below meth c S0 hK hX hr hlk Q hQ => ?_)
  have hf : OK (f_X11_refusal T A w0 a1 I) (fun z => z = e) := ⟨e, h, rfl⟩
  unfold f_X11_refusal at hf
  obtain ⟨hw0, hf⟩ := ok_grd hf
  refine r_aload_n (pc := 0) S0 0 dX11_refusal_0 rfl rfl ?_
  refine r_getR (pc := 1) S0 hK fl_X11_83 dX11_refusal_1 hf (fun x1 hf => ?_)
  refine r_iload_n (pc := 4) S0 1 dX11_refusal_4 rfl rfl ?_
  obtain ⟨e2, h3, hf⟩ := ok_bind hf
  refine r_cV_I (pc := 5) [iv a1] S0 hK hX mv_X11_366 (k_X7_isSlot h3) (c_X7_isSlot l cA D N sx ad T A nx I x1 a1 ca1 e2 h3) rfl rfl ⟨by decide, by decide⟩ (Nat.le_of_ble_eq_true rfl) ⟨Nat.le_refl _, Nat.le_refl _⟩ dX11_refusal_5 (fun c4 => ?_)
  refine r_if_eq (pc := 8) (tgt := 21) S0 dX11_refusal_8 (by decide) c4 hf (fun hf => ?_) (fun hf => ?_)
  · refine r_bipush (pc := 21) S0 dX11_refusal_21 (by decide) ?_
    have hz := ok_some hf
    have hz : (-2) = e := hz
    subst hQ
    subst hz
    exact r_iret (pc := 23) S0 hr hlk (cnz (-2) rfl) dX11_refusal_23
  · refine r_aload_n (pc := 11) S0 0 dX11_refusal_11 rfl rfl ?_
    refine r_getR (pc := 12) S0 hK fl_X11_28 dX11_refusal_12 hf (fun x5 hf => ?_)
    obtain ⟨e6, h7, hf⟩ := ok_bind hf
    refine r_cV_I (pc := 15) [] S0 hK hX mv_X11_170 (k_X2_isThere h7) (c_X2_isThere l cA D N sx ad T A nx I x5 e6 h7) rfl rfl ⟨by decide, by decide⟩ (Nat.le_of_ble_eq_true rfl) ⟨Nat.le_refl _, Nat.le_refl _⟩ dX11_refusal_15 (fun c8 => ?_)
    refine r_if_ne (pc := 18) (tgt := 24) S0 dX11_refusal_18 (by decide) c8 hf (fun hf => ?_) (fun hf => ?_)
    · refine r_aload_n (pc := 24) S0 0 dX11_refusal_24 rfl rfl ?_
      refine r_getR (pc := 25) S0 hK fl_X11_83 dX11_refusal_25 hf (fun x9 hf => ?_)
      refine r_iload_n (pc := 28) S0 1 dX11_refusal_28 rfl rfl ?_
      obtain ⟨e10, h11, hf⟩ := ok_bind hf
      refine r_cV_I (pc := 29) [iv a1] S0 hK hX mv_X11_373 (k_X7_hasRow h11) (c_X7_hasRow l cA D N sx ad T A nx I x9 a1 ca1 e10 h11) rfl rfl ⟨by decide, by decide⟩ (Nat.le_of_ble_eq_true rfl) ⟨Nat.le_refl _, Nat.le_refl _⟩ dX11_refusal_29 (fun c12 => ?_)
      refine r_if_ne (pc := 32) (tgt := 38) S0 dX11_refusal_32 (by decide) c12 hf (fun hf => ?_) (fun hf => ?_)
      · refine r_aload_n (pc := 38) S0 0 dX11_refusal_38 rfl rfl ?_
        refine r_getR (pc := 39) S0 hK fl_X11_83 dX11_refusal_39 hf (fun x13 hf => ?_)
        refine r_iload_n (pc := 42) S0 1 dX11_refusal_42 rfl rfl ?_
        refine r_aload_n (pc := 43) S0 0 dX11_refusal_43 rfl rfl ?_
        refine r_getR (pc := 44) S0 hK fl_X11_28 dX11_refusal_44 hf (fun x14 hf => ?_)
        refine r_getI (pc := 47) S0 hK fl_X11_144 dX11_refusal_47 hf (fun x15 c16 hf => ?_)
        obtain ⟨e17, h18, hf⟩ := ok_bind hf
        refine r_cV_I (pc := 50) [iv a1, iv x15] S0 hK hX mv_X11_408 (k_X7_areBelow h18) (c_X7_areBelow l cA D N sx ad T A nx I x13 a1 x15 ca1 c16 e17 h18) rfl rfl ⟨by decide, by decide⟩ (Nat.le_of_ble_eq_true rfl) ⟨Nat.le_refl _, Nat.le_refl _⟩ dX11_refusal_50 (fun c19 => ?_)
        refine r_if_eq (pc := 53) (tgt := 60) S0 dX11_refusal_53 (by decide) c19 hf (fun hf => ?_) (fun hf => ?_)
        · refine r_bipush (pc := 60) S0 dX11_refusal_60 (by decide) ?_
          have hz := ok_some hf
          have hz : (-2) = e := hz
          subst hQ
          subst hz
          exact r_iret (pc := 62) S0 hr hlk (cnz (-2) rfl) dX11_refusal_62
        · refine r_iconst (pc := 56) S0 dX11_refusal_56 ?_
          refine r_goto (pc := 57) (tgt := 62) S0 dX11_refusal_57 (by decide) ?_
          have hz := ok_some hf
          have hz : 0 = e := hz
          subst hQ
          subst hz
          exact r_iret (pc := 62) S0 hr hlk (cnz 0 rfl) dX11_refusal_62
      · refine r_bipush (pc := 35) S0 dX11_refusal_35 (by decide) ?_
        have hz := ok_some hf
        have hz : (-6) = e := hz
        subst hQ
        subst hz
        exact r_iret (pc := 37) S0 hr hlk (cnz (-6) rfl) dX11_refusal_37
    · refine r_bipush (pc := 21) S0 dX11_refusal_21 (by decide) ?_
      have hz := ok_some hf
      have hz : (-2) = e := hz
      subst hQ
      subst hz
      exact r_iret (pc := 23) S0 hr hlk (cnz (-2) rfl) dX11_refusal_23

set_option maxHeartbeats 4000000 in
set_option maxRecDepth 100000 in
theorem c_X7_officialAt (l : Launch) (cA : Nat → ClassId) (D : va_G) (N : Nat) (sx : Sx) (ad : Nat → Nat) (T : Knd) (A : Rfs) (nx : Nat) (I : Mem) (w0 : Nat) (a1 : Int) (a2 : Int) (ca1 : cn a1) (ca2 : cn a2) (e : Int) (h : f_X7_officialAt T A w0 a1 a2 I = some e) : CtI l yX7_officialAt cX7_officialAt 3 (some .int) 4 123 cA D N sx ad T A nx [rv ad w0, iv a1, iv a2] I I e := by
  refine met_of (lv0 := [(0, rv ad w0), (1, iv a1), (2, iv a2)]) (by decide) (Nat.le_of_ble_eq_true rfl) rfl (fun p e0 s m args below meth c S0 hK hX hr hlk Q hQ => ?_)
  have hf : OK (f_X7_officialAt T A w0 a1 a2 I) (fun z => z = e) := ⟨e, h, rfl⟩
  unfold f_X7_officialAt at hf
  obtain ⟨hw0, hf⟩ := ok_grd hf
  refine r_iload_n (pc := 0) S0 2 dX7_officialAt_0 rfl rfl ?_
  refine r_if_lt (pc := 1) (tgt := 25) S0 dX7_officialAt_1 (by decide) ca2 hf (fun hf => ?_) (fun hf => ?_)
  · refine r_iconst (pc := 25) S0 dX7_officialAt_25 ?_
    have hz := ok_some hf
    have hz : (-1) = e := hz
    subst hQ
    subst hz
    exact r_iret (pc := 26) S0 hr hlk (cnz (-1) rfl) dX7_officialAt_26
  · refine r_iload_n (pc := 4) S0 2 dX7_officialAt_4 rfl rfl ?_
    refine r_aload_n (pc := 5) S0 0 dX7_officialAt_5 rfl rfl ?_
    refine r_iload_n (pc := 6) S0 1 dX7_officialAt_6 rfl rfl ?_
    obtain ⟨e1, h2, hf⟩ := ok_bind hf
    refine r_cV_I (pc := 7) [iv a1] S0 hK hX mv_X7_39 (k_X7_lengthOf h2) (c_X7_lengthOf l cA D N sx ad T A nx I w0 a1 ca1 e1 h2) rfl rfl ⟨by decide, by decide⟩ (Nat.le_of_ble_eq_true rfl) ⟨Nat.le_refl _, Nat.le_refl _⟩ dX7_officialAt_7 (fun c3 => ?_)
    refine r_icmp_ge (pc := 10) (tgt := 25) S0 dX7_officialAt_10 (by decide) ca2 c3 hf (fun hf => ?_) (fun hf => ?_)
    · refine r_iconst (pc := 25) S0 dX7_officialAt_25 ?_
      have hz := ok_some hf
      have hz : (-1) = e := hz
      subst hQ
      subst hz
      exact r_iret (pc := 26) S0 hr hlk (cnz (-1) rfl) dX7_officialAt_26
    · refine r_aload_n (pc := 13) S0 0 dX7_officialAt_13 rfl rfl ?_
      refine r_getR (pc := 14) S0 hK fl_X7_13 dX7_officialAt_14 hf (fun x4 hf => ?_)
      refine r_iload_n (pc := 17) S0 1 dX7_officialAt_17 rfl rfl ?_
      refine r_aald 25 5 (pc := 18) S0 hK (by decide) rfl rfl dX7_officialAt_18 ca1 hf (fun x5 hf => ?_)
      refine r_iload_n (pc := 19) S0 2 dX7_officialAt_19 rfl rfl ?_
      refine r_lald (pc := 20) S0 hK dX7_officialAt_20 ca2 hf (fun x6 c7 hf => ?_)
      refine r_l2i (pc := 21) S0 dX7_officialAt_21 c7 ?_
      refine r_goto (pc := 22) (tgt := 26) S0 dX7_officialAt_22 (by decide) ?_
      have hz := ok_some hf
      have hz : (wrap x6) = e := hz
      subst hQ
      subst hz
      exact r_iret (pc := 26) S0 hr hlk (cn_wrap _) dX7_officialAt_26

set_option maxHeartbeats 4000000 in
set_option maxRecDepth 100000 in
theorem c_X2_mayStamp (l : Launch) (cA : Nat → ClassId) (D : va_G) (N : Nat) (sx : Sx) (ad : Nat → Nat) (T : Knd) (A : Rfs) (nx : Nat) (I : Mem) (w0 : Nat) (a1 : Int) (a2 : Int) (ca1 : cn a1) (ca2 : cn a2) (e : Int) (h : f_X2_mayStamp T A w0 a1 a2 I = some e) : CtI l yX2_mayStamp cX2_mayStamp 3 (some .boolean) 2 81 cA D N sx ad T A nx [rv ad w0, iv a1, iv a2] I I e := by
  refine met_of (lv0 := [(0, rv ad w0), (1, iv a1), (2, iv a2)]) (by decide) (Nat.le_of_ble_eq_true rfl) rfl (fun p e0 s m args below meth c S0 hK hX hr hlk Q hQ => ?_)
  have hf : OK (f_X2_mayStamp T A w0 a1 a2 I) (fun z => z = e) := ⟨e, h, rfl⟩
  unfold f_X2_mayStamp at hf
  obtain ⟨hw0, hf⟩ := ok_grd hf
  refine r_aload_n (pc := 0) S0 0 dX2_mayStamp_0 rfl rfl ?_
  refine r_iload_n (pc := 1) S0 1 dX2_mayStamp_1 rfl rfl ?_
  obtain ⟨e1, h2, hf⟩ := ok_bind hf
  refine r_cV_I (pc := 2) [iv a1] S0 hK hX mv_X2_61 (k_X2_hasOfficial h2) (c_X2_hasOfficial l cA D N sx ad T A nx I w0 a1 ca1 e1 h2) rfl rfl ⟨by decide, by decide⟩ (Nat.le_of_ble_eq_true rfl) ⟨Nat.le_refl _, Nat.le_refl _⟩ dX2_mayStamp_2 (fun c3 => ?_)
  refine r_if_eq (pc := 5) (tgt := 50) S0 dX2_mayStamp_5 (by decide) c3 hf (fun hf => ?_) (fun hf => ?_)
  · refine r_iconst (pc := 50) S0 dX2_mayStamp_50 ?_
    have hz := ok_some hf
    have hz : 0 = e := hz
    subst hQ
    subst hz
    exact r_zret (pc := 51) S0 hr hlk (Or.inl rfl) dX2_mayStamp_51
  · refine r_iload_n (pc := 8) S0 2 dX2_mayStamp_8 rfl rfl ?_
    refine r_iload_n (pc := 9) S0 1 dX2_mayStamp_9 rfl rfl ?_
    obtain ⟨e4, h5, hf⟩ := ok_bind hf
    refine r_cN_I (pc := 10) [iv a2, iv a1] S0 hK hX mn_X2_69 (c_X11_hasBit l cA D N sx ad T A nx I a2 a1 ca2 ca1 e4 h5) rfl rfl ⟨by decide, by decide⟩ (Nat.le_of_ble_eq_true rfl) ⟨Nat.le_refl _, Nat.le_refl _⟩ dX2_mayStamp_10 (fun c6 => ?_)
    refine r_if_ne (pc := 13) (tgt := 50) S0 dX2_mayStamp_13 (by decide) c6 hf (fun hf => ?_) (fun hf => ?_)
    · refine r_iconst (pc := 50) S0 dX2_mayStamp_50 ?_
      have hz := ok_some hf
      have hz : 0 = e := hz
      subst hQ
      subst hz
      exact r_zret (pc := 51) S0 hr hlk (Or.inl rfl) dX2_mayStamp_51
    · refine r_aload_n (pc := 16) S0 0 dX2_mayStamp_16 rfl rfl ?_
      refine r_getR (pc := 17) S0 hK fl_X2_17 dX2_mayStamp_17 hf (fun x7 hf => ?_)
      refine r_bipush (pc := 20) S0 dX2_mayStamp_20 (by decide) ?_
      refine r_aald 24 4 (pc := 22) S0 hK (by decide) rfl rfl dX2_mayStamp_22 (cnz 9 rfl) hf (fun x8 hf => ?_)
      refine r_iload_n (pc := 23) S0 1 dX2_mayStamp_23 rfl rfl ?_
      refine r_iald (pc := 24) S0 hK dX2_mayStamp_24 ca1 hf (fun x9 c10 hf => ?_)
      refine r_iload_n (pc := 25) S0 2 dX2_mayStamp_25 rfl rfl ?_
      refine r_iconst (pc := 26) S0 dX2_mayStamp_26 ?_
      refine r_ixor (pc := 27) S0 dX2_mayStamp_27 ?_
      refine r_iand (pc := 28) S0 dX2_mayStamp_28 ?_
      refine r_if_ne (pc := 29) (tgt := 50) S0 dX2_mayStamp_29 (by decide) (cn_toInt _) hf (fun hf => ?_) (fun hf => ?_)
      · refine r_iconst (pc := 50) S0 dX2_mayStamp_50 ?_
        have hz := ok_some hf
        have hz : 0 = e := hz
        subst hQ
        subst hz
        exact r_zret (pc := 51) S0 hr hlk (Or.inl rfl) dX2_mayStamp_51
      · refine r_aload_n (pc := 32) S0 0 dX2_mayStamp_32 rfl rfl ?_
        refine r_getR (pc := 33) S0 hK fl_X2_17 dX2_mayStamp_33 hf (fun x11 hf => ?_)
        refine r_bipush (pc := 36) S0 dX2_mayStamp_36 (by decide) ?_
        refine r_aald 24 4 (pc := 38) S0 hK (by decide) rfl rfl dX2_mayStamp_38 (cnz 10 rfl) hf (fun x12 hf => ?_)
        refine r_iload_n (pc := 39) S0 1 dX2_mayStamp_39 rfl rfl ?_
        refine r_iald (pc := 40) S0 hK dX2_mayStamp_40 ca1 hf (fun x13 c14 hf => ?_)
        refine r_iload_n (pc := 41) S0 2 dX2_mayStamp_41 rfl rfl ?_
        refine r_iand (pc := 42) S0 dX2_mayStamp_42 ?_
        refine r_if_ne (pc := 43) (tgt := 50) S0 dX2_mayStamp_43 (by decide) (cn_toInt _) hf (fun hf => ?_) (fun hf => ?_)
        · refine r_iconst (pc := 50) S0 dX2_mayStamp_50 ?_
          have hz := ok_some hf
          have hz : 0 = e := hz
          subst hQ
          subst hz
          exact r_zret (pc := 51) S0 hr hlk (Or.inl rfl) dX2_mayStamp_51
        · refine r_iconst (pc := 46) S0 dX2_mayStamp_46 ?_
          refine r_goto (pc := 47) (tgt := 51) S0 dX2_mayStamp_47 (by decide) ?_
          have hz := ok_some hf
          have hz : 1 = e := hz
          subst hQ
          subst hz
          exact r_zret (pc := 51) S0 hr hlk (Or.inr rfl) dX2_mayStamp_51

set_option maxHeartbeats 4000000 in
set_option maxRecDepth 100000 in
theorem c_X11_judge (l : Launch) (cA : Nat → ClassId) (D : va_G) (N : Nat) (sx : Sx) (ad : Nat → Nat) (T : Knd) (A : Rfs) (nx : Nat) (I : Mem) (w0 : Nat) (a1 : Int) (ca1 : cn a1) (e : Int) (h : f_X11_judge T A w0 a1 I = some e) : CtI l yX11_judge cX11_judge 6 (some .int) 6 167 cA D N sx ad T A nx [rv ad w0, iv a1] I I e := by
  refine met_of (lv0 := [(0, rv ad w0), (1, iv a1)]) (by decide) (Nat.le_of_ble_eq_true rfl) rfl (fun p e0 s m args below meth c S0 hK hX hr hlk Q hQ => ?_)
  have hf : OK (f_X11_judge T A w0 a1 I) (fun z => z = e) := ⟨e, h, rfl⟩
  unfold f_X11_judge at hf
  obtain ⟨hw0, hf⟩ := ok_grd hf
  refine r_aload_n (pc := 0) S0 0 dX11_judge_0 rfl rfl ?_
  refine r_iload_n (pc := 1) S0 1 dX11_judge_1 rfl rfl ?_
  obtain ⟨e1, h2, hf⟩ := ok_bind hf
  refine r_cV_I (pc := 2) [iv a1] S0 hK hX mv_X11_316 (k_X11_refusal h2) (c_X11_refusal l cA D N sx ad T A nx I w0 a1 ca1 e1 h2) rfl rfl ⟨by decide, by decide⟩ (Nat.le_of_ble_eq_true rfl) ⟨Nat.le_refl _, Nat.le_refl _⟩ dX11_judge_2 (fun c3 => ?_)
  refine r_istore_n (pc := 5) (lv' := [(2, iv e1), (0, rv ad w0), (1, iv a1)]) S0 dX11_judge_5 rfl (by decide) rfl ?_
  refine r_iload_n (pc := 6) S0 0 dX11_judge_6 rfl rfl ?_
  refine r_if_eq (pc := 7) (tgt := 12) S0 dX11_judge_7 (by decide) c3 hf (fun hf => ?_) (fun hf => ?_)
  · refine r_iconst (pc := 12) S0 dX11_judge_12 ?_
    refine r_istore_n (pc := 13) (lv' := [(3, iv 0), (2, iv e1), (0, rv ad w0), (1, iv a1)]) S0 dX11_judge_13 rfl (by decide) rfl ?_
    refine r_iconst (pc := 14) S0 dX11_judge_14 ?_
    refine r_istore (pc := 15) (lv' := [(4, iv 0), (3, iv 0), (2, iv e1), (0, rv ad w0), (1, iv a1)]) S0 dX11_judge_15 (by decide) rfl ?_
    refine thn_rule (P := fun v5 => G p l e0 (rmx 6 167) s m args below meth c 0 0 Q cA D N 6 ad T A nx 71 [(0, rv ad w0), (1, iv a1)] [] I) hf (fun v5 hf => ?_) (fun K4 hf => ?_)
    · refine r_aload_n (pc := 71) S0 0 dX11_judge_71 rfl rfl ?_
      refine r_getR (pc := 72) S0 hK fl_X11_83 dX11_judge_72 hf (fun x22 hf => ?_)
      refine r_iload_n (pc := 75) S0 1 dX11_judge_75 rfl rfl ?_
      obtain ⟨e23, h24, hf⟩ := ok_bind hf
      refine r_cV_I (pc := 76) [iv a1] S0 hK hX mv_X11_319 (k_X7_lengthOf h24) (c_X7_lengthOf l cA D N sx ad T A nx I x22 a1 ca1 e23 h24) rfl rfl ⟨by decide, by decide⟩ (Nat.le_of_ble_eq_true rfl) ⟨Nat.le_refl _, Nat.le_refl _⟩ dX11_judge_76 (fun c25 => ?_)
      have hz := ok_some hf
      have hz : e23 = e := hz
      subst hQ
      subst hz
      exact r_iret (pc := 79) S0 hr hlk c25 dX11_judge_79
    · refine r_lv [3, 4, 1, 0] rfl ?_
      refine it_ind (P := fun s7 => cn s7.1 → cn s7.2 → G p l e0 (rmx 6 167) s m args below meth c 0 0 Q cA D N 6 ad T A nx 17 [(0, rv ad w0), (1, iv a1), (3, iv s7.1), (4, iv s7.2)] [] I) (fun n0 s7 ih6 hf c8 c9 => ?_) FU (0, 0) hf (cnz 0 rfl) (cnz 0 rfl)
      refine r_iload (pc := 17) S0 3 dX11_judge_17 rfl ?_
      refine r_aload_n (pc := 19) S0 0 dX11_judge_19 rfl rfl ?_
      refine r_getR (pc := 20) S0 hK fl_X11_83 dX11_judge_20 hf (fun x10 hf => ?_)
      refine r_iload_n (pc := 23) S0 1 dX11_judge_23 rfl rfl ?_
      obtain ⟨e11, h12, hf⟩ := ok_bind hf
      refine r_cV_I (pc := 24) [iv a1] S0 hK hX mv_X11_319 (k_X7_lengthOf h12) (c_X7_lengthOf l cA D N sx ad T A nx I x10 a1 ca1 e11 h12) rfl rfl ⟨by decide, by decide⟩ (Nat.le_of_ble_eq_true rfl) ⟨Nat.le_refl _, Nat.le_refl _⟩ dX11_judge_24 (fun c13 => ?_)
      refine r_icmp_ge (pc := 27) (tgt := 71) S0 dX11_judge_27 (by decide) c9 c13 hf (fun hf => ?_) (fun hf => ?_)
      · have hz := ok_some hf
        refine r_lv [0, 1] rfl ?_
        exact K4 () hz
      · refine r_aload_n (pc := 30) S0 0 dX11_judge_30 rfl rfl ?_
        refine r_getR (pc := 31) S0 hK fl_X11_83 dX11_judge_31 hf (fun x14 hf => ?_)
        refine r_iload_n (pc := 34) S0 1 dX11_judge_34 rfl rfl ?_
        refine r_iload (pc := 35) S0 3 dX11_judge_35 rfl ?_
        obtain ⟨e15, h16, hf⟩ := ok_bind hf
        refine r_cV_I (pc := 37) [iv a1, iv s7.2] S0 hK hX mv_X11_322 (k_X7_officialAt h16) (c_X7_officialAt l cA D N sx ad T A nx I x14 a1 s7.2 ca1 c9 e15 h16) rfl rfl ⟨by decide, by decide⟩ (Nat.le_of_ble_eq_true rfl) ⟨Nat.le_refl _, Nat.le_refl _⟩ dX11_judge_37 (fun c17 => ?_)
        refine r_istore (pc := 40) (lv' := [(5, iv e15), (0, rv ad w0), (1, iv a1), (3, iv s7.1), (4, iv s7.2)]) S0 dX11_judge_40 (by decide) rfl ?_
        refine r_aload_n (pc := 42) S0 1 dX11_judge_42 rfl rfl ?_
        refine r_getR (pc := 43) S0 hK fl_X11_28 dX11_judge_43 hf (fun x18 hf => ?_)
        refine r_iload (pc := 46) S0 0 dX11_judge_46 rfl ?_
        refine r_iload_n (pc := 48) S0 3 dX11_judge_48 rfl rfl ?_
        obtain ⟨e19, h20, hf⟩ := ok_bind hf
        refine r_cV_I (pc := 49) [iv e15, iv s7.1] S0 hK hX mv_X11_323 (k_X2_mayStamp h20) (c_X2_mayStamp l cA D N sx ad T A nx I x18 e15 s7.1 c17 c8 e19 h20) rfl rfl ⟨by decide, by decide⟩ (Nat.le_of_ble_eq_true rfl) ⟨Nat.le_refl _, Nat.le_refl _⟩ dX11_judge_49 (fun c21 => ?_)
        refine r_if_ne (pc := 52) (tgt := 58) S0 dX11_judge_52 (by decide) c21 hf (fun hf => ?_) (fun hf => ?_)
        · refine r_iload_n (pc := 58) S0 3 dX11_judge_58 rfl rfl ?_
          refine r_iconst (pc := 59) S0 dX11_judge_59 ?_
          refine r_iload (pc := 60) S0 0 dX11_judge_60 rfl ?_
          refine r_ishl (pc := 62) S0 dX11_judge_62 ?_
          refine r_ior (pc := 63) S0 dX11_judge_63 ?_
          refine r_istore_n (pc := 64) (lv' := [(3, iv (ior s7.1 (ishl 1 e15))), (5, iv e15), (0, rv ad w0), (1, iv a1), (4, iv s7.2)]) S0 dX11_judge_64 rfl (by decide) rfl ?_
          refine r_iinc (pc := 65) (lv' := [(4, iv (ia s7.2 1)), (3, iv (ior s7.1 (ishl 1 e15))), (5, iv e15), (0, rv ad w0), (1, iv a1)]) S0 4 dX11_judge_65 rfl (by decide) rfl ?_
          refine r_goto (pc := 68) (tgt := 17) S0 dX11_judge_68 (by decide) ?_
          have hz := ok_some hf
          refine r_lv [3, 4, 1, 0] rfl ?_
          exact ih6 (ior s7.1 (ishl 1 e15), ia s7.2 1) hz (cn_toInt _) (cn_wrap _)
        · refine r_iload (pc := 55) S0 4 dX11_judge_55 rfl ?_
          have hz := ok_some hf
          have hz : s7.2 = e := hz
          subst hQ
          subst hz
          exact r_iret (pc := 57) S0 hr hlk c9 dX11_judge_57
  · refine r_iload_n (pc := 10) S0 0 dX11_judge_10 rfl rfl ?_
    have hz := ok_some hf
    have hz : e1 = e := hz
    subst hQ
    subst hz
    exact r_iret (pc := 11) S0 hr hlk c3 dX11_judge_11

set_option maxHeartbeats 4000000 in
set_option maxRecDepth 100000 in
theorem c_X11_bribed (l : Launch) (cA : Nat → ClassId) (D : va_G) (N : Nat) (sx : Sx) (ad : Nat → Nat) (T : Knd) (A : Rfs) (nx : Nat) (I : Mem) (w0 : Nat) (a1 : Int) (ca1 : cn a1) (e : Int) (h : f_X11_bribed T A w0 a1 I = some e) : CtI l yX11_bribed cX11_bribed 7 (some .int) 6 167 cA D N sx ad T A nx [rv ad w0, iv a1] I I e := by
  refine met_of (lv0 := [(0, rv ad w0), (1, iv a1)]) (by decide) (Nat.le_of_ble_eq_true rfl) rfl (fun p e0 s m args below meth c S0 hK hX hr hlk Q hQ => ?_)
  have hf : OK (f_X11_bribed T A w0 a1 I) (fun z => z = e) := ⟨e, h, rfl⟩
  unfold f_X11_bribed at hf
  obtain ⟨hw0, hf⟩ := ok_grd hf
  refine r_aload_n (pc := 0) S0 0 dX11_bribed_0 rfl rfl ?_
  refine r_iload_n (pc := 1) S0 1 dX11_bribed_1 rfl rfl ?_
  obtain ⟨e1, h2, hf⟩ := ok_bind hf
  refine r_cV_I (pc := 2) [iv a1] S0 hK hX mv_X11_316 (k_X11_refusal h2) (c_X11_refusal l cA D N sx ad T A nx I w0 a1 ca1 e1 h2) rfl rfl ⟨by decide, by decide⟩ (Nat.le_of_ble_eq_true rfl) ⟨Nat.le_refl _, Nat.le_refl _⟩ dX11_bribed_2 (fun c3 => ?_)
  refine r_istore_n (pc := 5) (lv' := [(2, iv e1), (0, rv ad w0), (1, iv a1)]) S0 dX11_bribed_5 rfl (by decide) rfl ?_
  refine r_iload_n (pc := 6) S0 0 dX11_bribed_6 rfl rfl ?_
  refine r_if_eq (pc := 7) (tgt := 12) S0 dX11_bribed_7 (by decide) c3 hf (fun hf => ?_) (fun hf => ?_)
  · refine r_iconst (pc := 12) S0 dX11_bribed_12 ?_
    refine r_istore_n (pc := 13) (lv' := [(3, iv 0), (2, iv e1), (0, rv ad w0), (1, iv a1)]) S0 dX11_bribed_13 rfl (by decide) rfl ?_
    refine r_iconst (pc := 14) S0 dX11_bribed_14 ?_
    refine r_istore (pc := 15) (lv' := [(4, iv 0), (3, iv 0), (2, iv e1), (0, rv ad w0), (1, iv a1)]) S0 dX11_bribed_15 (by decide) rfl ?_
    refine r_iconst (pc := 17) S0 dX11_bribed_17 ?_
    refine r_istore (pc := 18) (lv' := [(5, iv 0), (4, iv 0), (3, iv 0), (2, iv e1), (0, rv ad w0), (1, iv a1)]) S0 dX11_bribed_18 (by decide) rfl ?_
    refine r_lv [4, 5, 2, 1, 0] rfl ?_
    refine it_ind (P := fun s5 => cn s5.1 → cn s5.2.1 → cn s5.2.2 → G p l e0 (rmx 6 167) s m args below meth c 0 0 Q cA D N 7 ad T A nx 20 [(0, rv ad w0), (1, iv a1), (3, iv s5.1), (4, iv s5.2.1), (5, iv s5.2.2)] [] I) (fun n0 s5 ih4 hf c6 c7 c8 => ?_) FU (0, 0, 0) hf (cnz 0 rfl) (cnz 0 rfl) (cnz 0 rfl)
    refine r_iload (pc := 20) S0 4 dX11_bribed_20 rfl ?_
    refine r_aload_n (pc := 22) S0 0 dX11_bribed_22 rfl rfl ?_
    refine r_getR (pc := 23) S0 hK fl_X11_83 dX11_bribed_23 hf (fun x9 hf => ?_)
    refine r_iload_n (pc := 26) S0 1 dX11_bribed_26 rfl rfl ?_
    obtain ⟨e10, h11, hf⟩ := ok_bind hf
    refine r_cV_I (pc := 27) [iv a1] S0 hK hX mv_X11_319 (k_X7_lengthOf h11) (c_X7_lengthOf l cA D N sx ad T A nx I x9 a1 ca1 e10 h11) rfl rfl ⟨by decide, by decide⟩ (Nat.le_of_ble_eq_true rfl) ⟨Nat.le_refl _, Nat.le_refl _⟩ dX11_bribed_27 (fun c12 => ?_)
    refine r_icmp_ge (pc := 30) (tgt := 80) S0 dX11_bribed_30 (by decide) c8 c12 hf (fun hf => ?_) (fun hf => ?_)
    · refine r_iload (pc := 80) S0 3 dX11_bribed_80 rfl ?_
      have hz := ok_some hf
      have hz : s5.2.1 = e := hz
      subst hQ
      subst hz
      exact r_iret (pc := 82) S0 hr hlk c7 dX11_bribed_82
    · refine r_aload_n (pc := 33) S0 0 dX11_bribed_33 rfl rfl ?_
      refine r_getR (pc := 34) S0 hK fl_X11_83 dX11_bribed_34 hf (fun x13 hf => ?_)
      refine r_iload_n (pc := 37) S0 1 dX11_bribed_37 rfl rfl ?_
      refine r_iload (pc := 38) S0 4 dX11_bribed_38 rfl ?_
      obtain ⟨e14, h15, hf⟩ := ok_bind hf
      refine r_cV_I (pc := 40) [iv a1, iv s5.2.2] S0 hK hX mv_X11_322 (k_X7_officialAt h15) (c_X7_officialAt l cA D N sx ad T A nx I x13 a1 s5.2.2 ca1 c8 e14 h15) rfl rfl ⟨by decide, by decide⟩ (Nat.le_of_ble_eq_true rfl) ⟨Nat.le_refl _, Nat.le_refl _⟩ dX11_bribed_40 (fun c16 => ?_)
      refine r_istore (pc := 43) (lv' := [(6, iv e14), (0, rv ad w0), (1, iv a1), (3, iv s5.1), (4, iv s5.2.1), (5, iv s5.2.2)]) S0 dX11_bribed_43 (by decide) rfl ?_
      refine r_aload_n (pc := 45) S0 1 dX11_bribed_45 rfl rfl ?_
      refine r_getR (pc := 46) S0 hK fl_X11_28 dX11_bribed_46 hf (fun x17 hf => ?_)
      refine r_iload (pc := 49) S0 0 dX11_bribed_49 rfl ?_
      refine r_iload_n (pc := 51) S0 3 dX11_bribed_51 rfl rfl ?_
      obtain ⟨e18, h19, hf⟩ := ok_bind hf
      refine r_cV_I (pc := 52) [iv e14, iv s5.1] S0 hK hX mv_X11_323 (k_X2_mayStamp h19) (c_X2_mayStamp l cA D N sx ad T A nx I x17 e14 s5.1 c16 c6 e18 h19) rfl rfl ⟨by decide, by decide⟩ (Nat.le_of_ble_eq_true rfl) ⟨Nat.le_refl _, Nat.le_refl _⟩ dX11_bribed_52 (fun c20 => ?_)
      refine thn_rule (P := fun v22 => cn v22 → G p l e0 (rmx 6 167) s m args below meth c 0 0 Q cA D N 7 ad T A nx 67 [(0, rv ad w0), (1, iv a1), (3, iv s5.1), (4, iv v22), (5, iv s5.2.2), (6, iv e14)] [] I) hf (fun v22 hf c23 => ?_) (fun K21 hf => ?_)
      · refine r_iload_n (pc := 67) S0 2 dX11_bribed_67 rfl rfl ?_
        refine r_iconst (pc := 68) S0 dX11_bribed_68 ?_
        refine r_iload (pc := 69) S0 5 dX11_bribed_69 rfl ?_
        refine r_ishl (pc := 71) S0 dX11_bribed_71 ?_
        refine r_ior (pc := 72) S0 dX11_bribed_72 ?_
        refine r_istore_n (pc := 73) (lv' := [(3, iv (ior s5.1 (ishl 1 e14))), (0, rv ad w0), (1, iv a1), (4, iv v22), (5, iv s5.2.2), (6, iv e14)]) S0 dX11_bribed_73 rfl (by decide) rfl ?_
        refine r_iinc (pc := 74) (lv' := [(5, iv (ia s5.2.2 1)), (3, iv (ior s5.1 (ishl 1 e14))), (0, rv ad w0), (1, iv a1), (4, iv v22), (6, iv e14)]) S0 4 dX11_bribed_74 rfl (by decide) rfl ?_
        refine r_goto (pc := 77) (tgt := 20) S0 dX11_bribed_77 (by decide) ?_
        have hz := ok_some hf
        refine r_lv [2, 3, 1, 4, 0] rfl ?_
        exact ih4 (ior s5.1 (ishl 1 e14), v22, ia s5.2.2 1) hz (cn_toInt _) c23 (cn_wrap _)
      · refine r_if_ne (pc := 55) (tgt := 67) S0 dX11_bribed_55 (by decide) c20 hf (fun hf => ?_) (fun hf => ?_)
        · have hz := ok_some hf
          refine r_lv [1, 2, 3, 4, 5, 0] rfl ?_
          exact K21 s5.2.1 hz c7
        · refine r_iload (pc := 58) S0 4 dX11_bribed_58 rfl ?_
          refine r_iconst (pc := 60) S0 dX11_bribed_60 ?_
          refine r_iload (pc := 61) S0 0 dX11_bribed_61 rfl ?_
          refine r_ishl (pc := 63) S0 dX11_bribed_63 ?_
          refine r_ior (pc := 64) S0 dX11_bribed_64 ?_
          refine r_istore (pc := 65) (lv' := [(4, iv (ior s5.2.1 (ishl 1 e14))), (6, iv e14), (0, rv ad w0), (1, iv a1), (3, iv s5.1), (5, iv s5.2.2)]) S0 dX11_bribed_65 (by decide) rfl ?_
          have hz := ok_some hf
          refine r_lv [2, 3, 4, 0, 5, 1] rfl ?_
          exact K21 (ior s5.2.1 (ishl 1 e14)) hz (cn_toInt _)
  · refine r_iload_n (pc := 10) S0 0 dX11_bribed_10 rfl rfl ?_
    have hz := ok_some hf
    have hz : e1 = e := hz
    subst hQ
    subst hz
    exact r_iret (pc := 11) S0 hr hlk c3 dX11_bribed_11

set_option maxHeartbeats 4000000 in
set_option maxRecDepth 100000 in
theorem c_X3_firstFree (l : Launch) (cA : Nat → ClassId) (D : va_G) (N : Nat) (sx : Sx) (ad : Nat → Nat) (T : Knd) (A : Rfs) (nx : Nat) (I : Mem) (w0 : Nat) (a1 : Int) (a2 : Int) (ca1 : cn a1) (ca2 : cn a2) (e : Int) (h : f_X3_firstFree T A w0 a1 a2 I = some e) : CtI l yX3_firstFree cX3_firstFree 5 (some .int) 2 82 cA D N sx ad T A nx [rv ad w0, iv a1, iv a2] I I e := by
  refine met_of (lv0 := [(0, rv ad w0), (1, iv a1), (2, iv a2)]) (by decide) (Nat.le_of_ble_eq_true rfl) rfl (fun p e0 s m args below meth c S0 hK hX hr hlk Q hQ => ?_)
  have hf : OK (f_X3_firstFree T A w0 a1 a2 I) (fun z => z = e) := ⟨e, h, rfl⟩
  unfold f_X3_firstFree at hf
  obtain ⟨hw0, hf⟩ := ok_grd hf
  refine r_aload_n (pc := 0) S0 0 dX3_firstFree_0 rfl rfl ?_
  refine r_getR (pc := 1) S0 hK fl_X3_21 dX3_firstFree_1 hf (fun x1 hf => ?_)
  refine r_getR (pc := 4) S0 hK fl_X3_90 dX3_firstFree_4 hf (fun x2 hf => ?_)
  refine r_iload_n (pc := 7) S0 1 dX3_firstFree_7 rfl rfl ?_
  refine r_iload_n (pc := 8) S0 2 dX3_firstFree_8 rfl rfl ?_
  obtain ⟨e3, h4, hf⟩ := ok_bind hf
  refine r_cV_I (pc := 9) [iv a1, iv a2] S0 hK hX mv_X3_94 (k_X9_firstOpen h4) (c_X9_firstOpen l cA D N sx ad T A nx I x2 a1 a2 ca1 ca2 e3 h4) rfl rfl ⟨by decide, by decide⟩ (Nat.le_of_ble_eq_true rfl) ⟨Nat.le_refl _, Nat.le_refl _⟩ dX3_firstFree_9 (fun c5 => ?_)
  refine r_istore_n (pc := 12) (lv' := [(3, iv e3), (0, rv ad w0), (1, iv a1), (2, iv a2)]) S0 dX3_firstFree_12 rfl (by decide) rfl ?_
  refine r_iconst (pc := 13) S0 dX3_firstFree_13 ?_
  refine r_istore (pc := 14) (lv' := [(4, iv 0), (3, iv e3), (0, rv ad w0), (1, iv a1), (2, iv a2)]) S0 dX3_firstFree_14 (by decide) rfl ?_
  refine r_lv [2, 3, 1, 0] rfl ?_
  refine it_ind (P := fun s7 => cn s7.1 → cn s7.2 → G p l e0 (rmx 2 82) s m args below meth c 0 0 Q cA D N 5 ad T A nx 16 [(0, rv ad w0), (1, iv a1), (3, iv s7.1), (4, iv s7.2)] [] I) (fun n0 s7 ih6 hf c8 c9 => ?_) FU (e3, 0) hf c5 (cnz 0 rfl)
  refine r_iload (pc := 16) S0 3 dX3_firstFree_16 rfl ?_
  refine r_sipush (pc := 18) S0 dX3_firstFree_18 (by decide) ?_
  refine r_icmp_ge (pc := 21) (tgt := 65) S0 dX3_firstFree_21 (by decide) c9 (cnz 400 rfl) hf (fun hf => ?_) (fun hf => ?_)
  · refine r_iload_n (pc := 65) S0 2 dX3_firstFree_65 rfl rfl ?_
    have hz := ok_some hf
    have hz : s7.1 = e := hz
    subst hQ
    subst hz
    exact r_iret (pc := 66) S0 hr hlk c8 dX3_firstFree_66
  · refine r_iload_n (pc := 24) S0 2 dX3_firstFree_24 rfl rfl ?_
    obtain ⟨e10, h11, hf⟩ := ok_bind hf
    refine r_cN_I (pc := 25) [iv s7.1] S0 hK hX mn_X3_99 (c_X11_isHour l cA D N sx ad T A nx I s7.1 c8 e10 h11) rfl rfl ⟨by decide, by decide⟩ (Nat.le_of_ble_eq_true rfl) ⟨Nat.le_refl _, Nat.le_refl _⟩ dX3_firstFree_25 (fun c12 => ?_)
    refine r_if_eq (pc := 28) (tgt := 65) S0 dX3_firstFree_28 (by decide) c12 hf (fun hf => ?_) (fun hf => ?_)
    · refine r_iload_n (pc := 65) S0 2 dX3_firstFree_65 rfl rfl ?_
      have hz := ok_some hf
      have hz : s7.1 = e := hz
      subst hQ
      subst hz
      exact r_iret (pc := 66) S0 hr hlk c8 dX3_firstFree_66
    · refine r_aload_n (pc := 31) S0 0 dX3_firstFree_31 rfl rfl ?_
      refine r_getR (pc := 32) S0 hK fl_X3_9 dX3_firstFree_32 hf (fun x13 hf => ?_)
      refine r_iload_n (pc := 35) S0 2 dX3_firstFree_35 rfl rfl ?_
      refine r_iald (pc := 36) S0 hK dX3_firstFree_36 c8 hf (fun x14 c15 hf => ?_)
      refine r_iload_n (pc := 37) S0 1 dX3_firstFree_37 rfl rfl ?_
      obtain ⟨e16, h17, hf⟩ := ok_bind hf
      refine r_cN_I (pc := 38) [iv x14, iv a1] S0 hK hX mn_X3_102 (c_X11_hasBit l cA D N sx ad T A nx I x14 a1 c15 ca1 e16 h17) rfl rfl ⟨by decide, by decide⟩ (Nat.le_of_ble_eq_true rfl) ⟨Nat.le_refl _, Nat.le_refl _⟩ dX3_firstFree_38 (fun c18 => ?_)
      refine r_if_eq (pc := 41) (tgt := 65) S0 dX3_firstFree_41 (by decide) c18 hf (fun hf => ?_) (fun hf => ?_)
      · refine r_iload_n (pc := 65) S0 2 dX3_firstFree_65 rfl rfl ?_
        have hz := ok_some hf
        have hz : s7.1 = e := hz
        subst hQ
        subst hz
        exact r_iret (pc := 66) S0 hr hlk c8 dX3_firstFree_66
      · refine r_aload_n (pc := 44) S0 0 dX3_firstFree_44 rfl rfl ?_
        refine r_getR (pc := 45) S0 hK fl_X3_21 dX3_firstFree_45 hf (fun x19 hf => ?_)
        refine r_getR (pc := 48) S0 hK fl_X3_90 dX3_firstFree_48 hf (fun x20 hf => ?_)
        refine r_iload_n (pc := 51) S0 1 dX3_firstFree_51 rfl rfl ?_
        refine r_iload_n (pc := 52) S0 2 dX3_firstFree_52 rfl rfl ?_
        refine r_iconst (pc := 53) S0 dX3_firstFree_53 ?_
        refine r_iadd (pc := 54) S0 dX3_firstFree_54 ?_
        obtain ⟨e21, h22, hf⟩ := ok_bind hf
        refine r_cV_I (pc := 55) [iv a1, iv (ia s7.1 1)] S0 hK hX mv_X3_94 (k_X9_firstOpen h22) (c_X9_firstOpen l cA D N sx ad T A nx I x20 a1 (ia s7.1 1) ca1 (cn_wrap _) e21 h22) rfl rfl ⟨by decide, by decide⟩ (Nat.le_of_ble_eq_true rfl) ⟨Nat.le_refl _, Nat.le_refl _⟩ dX3_firstFree_55 (fun c23 => ?_)
        refine r_istore_n (pc := 58) (lv' := [(3, iv e21), (0, rv ad w0), (1, iv a1), (4, iv s7.2)]) S0 dX3_firstFree_58 rfl (by decide) rfl ?_
        refine r_iinc (pc := 59) (lv' := [(4, iv (ia s7.2 1)), (3, iv e21), (0, rv ad w0), (1, iv a1)]) S0 3 dX3_firstFree_59 rfl (by decide) rfl ?_
        refine r_goto (pc := 62) (tgt := 16) S0 dX3_firstFree_62 (by decide) ?_
        have hz := ok_some hf
        refine r_lv [2, 3, 1, 0] rfl ?_
        exact ih6 (e21, ia s7.2 1) hz c23 (cn_wrap _)

set_option maxHeartbeats 4000000 in
set_option maxRecDepth 100000 in
theorem c_X3_goTo (l : Launch) (cA : Nat → ClassId) (D : va_G) (N : Nat) (sx : Sx) (ad : Nat → Nat) (T : Knd) (A : Rfs) (nx : Nat) (I : Mem) (w0 : Nat) (a1 : Int) (ca1 : cn a1) (e : (Int × Mem)) (h : f_X3_goTo T A w0 a1 I = some e) : CtI l yX3_goTo cX3_goTo 4 (some .boolean) 3 106 cA D N sx ad T A nx [rv ad w0, iv a1] I e.2 e.1 := by
  refine met_of (lv0 := [(0, rv ad w0), (1, iv a1)]) (by decide) (Nat.le_of_ble_eq_true rfl) rfl (fun p e0 s m args below meth c S0 hK hX hr hlk Q hQ => ?_)
  have hf : OK (f_X3_goTo T A w0 a1 I) (fun z => z = e) := ⟨e, h, rfl⟩
  unfold f_X3_goTo at hf
  obtain ⟨hw0, hf⟩ := ok_grd hf
  refine r_aload_n (pc := 0) S0 0 dX3_goTo_0 rfl rfl ?_
  refine r_getR (pc := 1) S0 hK fl_X3_21 dX3_goTo_1 hf (fun x1 hf => ?_)
  refine r_iload_n (pc := 4) S0 1 dX3_goTo_4 rfl rfl ?_
  obtain ⟨e2, h3, hf⟩ := ok_bind hf
  refine r_cV_I (pc := 5) [iv a1] S0 hK hX mv_X3_71 (k_X10_arrival h3) (c_X10_arrival l cA D N sx ad T A nx I x1 a1 ca1 e2 h3) rfl rfl ⟨by decide, by decide⟩ (Nat.le_of_ble_eq_true rfl) ⟨Nat.le_refl _, Nat.le_refl _⟩ dX3_goTo_5 (fun c4 => ?_)
  refine r_istore_n (pc := 8) (lv' := [(2, iv e2), (0, rv ad w0), (1, iv a1)]) S0 dX3_goTo_8 rfl (by decide) rfl ?_
  refine r_iload_n (pc := 9) S0 0 dX3_goTo_9 rfl rfl ?_
  refine r_iconst (pc := 10) S0 dX3_goTo_10 ?_
  refine r_icmp_eq (pc := 11) (tgt := 25) S0 dX3_goTo_11 (by decide) c4 (cnz (-1) rfl) hf (fun hf => ?_) (fun hf => ?_)
  · refine r_iconst (pc := 25) S0 dX3_goTo_25 ?_
    have hz := ok_some hf
    have hz : (0, I) = e := hz
    subst hQ
    subst hz
    exact r_zret (pc := 26) S0 hr hlk (Or.inl rfl) dX3_goTo_26
  · refine r_aload_n (pc := 14) S0 1 dX3_goTo_14 rfl rfl ?_
    refine r_getR (pc := 15) S0 hK fl_X3_21 dX3_goTo_15 hf (fun x5 hf => ?_)
    refine r_iload_n (pc := 18) S0 2 dX3_goTo_18 rfl rfl ?_
    obtain ⟨e6, h7, hf⟩ := ok_bind hf
    refine r_cV_I (pc := 19) [iv a1] S0 hK hX mv_X3_74 (k_X10_holds h7) (c_X10_holds l cA D N sx ad T A nx I x5 a1 ca1 e6 h7) rfl rfl ⟨by decide, by decide⟩ (Nat.le_of_ble_eq_true rfl) ⟨Nat.le_refl _, Nat.le_refl _⟩ dX3_goTo_19 (fun c8 => ?_)
    refine r_if_eq (pc := 22) (tgt := 27) S0 dX3_goTo_22 (by decide) c8 hf (fun hf => ?_) (fun hf => ?_)
    · refine r_aload_n (pc := 27) S0 1 dX3_goTo_27 rfl rfl ?_
      refine r_iload_n (pc := 28) S0 2 dX3_goTo_28 rfl rfl ?_
      refine r_aload_n (pc := 29) S0 1 dX3_goTo_29 rfl rfl ?_
      refine r_getR (pc := 30) S0 hK fl_X3_21 dX3_goTo_30 hf (fun x9 hf => ?_)
      refine r_iload_n (pc := 33) S0 2 dX3_goTo_33 rfl rfl ?_
      refine r_iload_n (pc := 34) S0 0 dX3_goTo_34 rfl rfl ?_
      obtain ⟨e10, h11, hf⟩ := ok_bind hf
      refine r_cV_I (pc := 35) [iv a1, iv e2] S0 hK hX mv_X3_77 (k_X10_unbarred h11) (c_X10_unbarred l cA D N sx ad T A nx I x9 a1 e2 ca1 c4 e10 h11) rfl rfl ⟨by decide, by decide⟩ (Nat.le_of_ble_eq_true rfl) ⟨Nat.le_refl _, Nat.le_refl _⟩ dX3_goTo_35 (fun c12 => ?_)
      obtain ⟨e13, h14, hf⟩ := ok_bind hf
      refine r_cV_I (pc := 38) [iv a1, iv e10] S0 hK hX mv_X3_80 (k_X3_firstFree h14) (c_X3_firstFree l cA D N sx ad T A nx I w0 a1 e10 ca1 c12 e13 h14) rfl rfl ⟨by decide, by decide⟩ (Nat.le_of_ble_eq_true rfl) ⟨Nat.le_refl _, Nat.le_refl _⟩ dX3_goTo_38 (fun c15 => ?_)
      refine r_istore_n (pc := 41) (lv' := [(3, iv e13), (2, iv e2), (0, rv ad w0), (1, iv a1)]) S0 dX3_goTo_41 rfl (by decide) rfl ?_
      refine r_iload_n (pc := 42) S0 0 dX3_goTo_42 rfl rfl ?_
      refine r_iconst (pc := 43) S0 dX3_goTo_43 ?_
      refine r_icmp_eq (pc := 44) (tgt := 59) S0 dX3_goTo_44 (by decide) c15 (cnz (-1) rfl) hf (fun hf => ?_) (fun hf => ?_)
      · refine r_iconst (pc := 59) S0 dX3_goTo_59 ?_
        have hz := ok_some hf
        have hz : (0, I) = e := hz
        subst hQ
        subst hz
        exact r_zret (pc := 60) S0 hr hlk (Or.inl rfl) dX3_goTo_60
      · refine r_iload_n (pc := 47) S0 0 dX3_goTo_47 rfl rfl ?_
        refine r_aload_n (pc := 48) S0 2 dX3_goTo_48 rfl rfl ?_
        refine r_getR (pc := 49) S0 hK fl_X3_21 dX3_goTo_49 hf (fun x16 hf => ?_)
        refine r_iload_n (pc := 52) S0 3 dX3_goTo_52 rfl rfl ?_
        obtain ⟨e17, h18, hf⟩ := ok_bind hf
        refine r_cV_I (pc := 53) [iv a1] S0 hK hX mv_X3_83 (k_X10_supported h18) (c_X10_supported l cA D N sx ad T A nx I x16 a1 ca1 e17 h18) rfl rfl ⟨by decide, by decide⟩ (Nat.le_of_ble_eq_true rfl) ⟨Nat.le_refl _, Nat.le_refl _⟩ dX3_goTo_53 (fun c19 => ?_)
        refine r_icmp_le (pc := 56) (tgt := 61) S0 dX3_goTo_56 (by decide) c15 c19 hf (fun hf => ?_) (fun hf => ?_)
        · refine r_aload_n (pc := 61) S0 2 dX3_goTo_61 rfl rfl ?_
          refine r_getR (pc := 62) S0 hK fl_X3_18 dX3_goTo_62 hf (fun x20 hf => ?_)
          refine r_iload_n (pc := 65) S0 3 dX3_goTo_65 rfl rfl ?_
          refine r_dup2 (pc := 66) S0 dX3_goTo_66 rfl rfl ?_
          refine r_iald (pc := 67) S0 hK dX3_goTo_67 ca1 hf (fun x21 c22 hf => ?_)
          refine r_iload_n (pc := 68) S0 0 dX3_goTo_68 rfl rfl ?_
          refine r_iload_n (pc := 69) S0 1 dX3_goTo_69 rfl rfl ?_
          refine r_isub (pc := 70) S0 dX3_goTo_70 ?_
          refine r_iadd (pc := 71) S0 dX3_goTo_71 ?_
          refine r_iast (pc := 72) S0 hK dX3_goTo_72 ca1 (cn_wrap _) hf (fun I23 hf => ?_)
          refine r_aload_n (pc := 73) S0 2 dX3_goTo_73 rfl rfl ?_
          refine r_dup (pc := 74) S0 dX3_goTo_74 rfl ?_
          refine r_getI (pc := 75) S0 hK fl_X3_31 dX3_goTo_75 hf (fun x24 c25 hf => ?_)
          refine r_iconst (pc := 78) S0 dX3_goTo_78 ?_
          refine r_iload_n (pc := 79) S0 3 dX3_goTo_79 rfl rfl ?_
          refine r_ishl (pc := 80) S0 dX3_goTo_80 ?_
          refine r_ior (pc := 81) S0 dX3_goTo_81 ?_
          refine r_putI (pc := 82) S0 hK fl_X3_31 rfl rfl (cn_toInt _) dX3_goTo_82 hf (fun I26 hf => ?_)
          refine r_aload_n (pc := 85) S0 2 dX3_goTo_85 rfl rfl ?_
          refine r_getR (pc := 86) S0 hK fl_X3_9 dX3_goTo_86 hf (fun x27 hf => ?_)
          refine r_iload_n (pc := 89) S0 0 dX3_goTo_89 rfl rfl ?_
          refine r_dup2 (pc := 90) S0 dX3_goTo_90 rfl rfl ?_
          refine r_iald (pc := 91) S0 hK dX3_goTo_91 c15 hf (fun x28 c29 hf => ?_)
          refine r_iconst (pc := 92) S0 dX3_goTo_92 ?_
          refine r_iload_n (pc := 93) S0 3 dX3_goTo_93 rfl rfl ?_
          refine r_ishl (pc := 94) S0 dX3_goTo_94 ?_
          refine r_ior (pc := 95) S0 dX3_goTo_95 ?_
          refine r_iast (pc := 96) S0 hK dX3_goTo_96 c15 (cn_toInt _) hf (fun I30 hf => ?_)
          refine r_aload_n (pc := 97) S0 2 dX3_goTo_97 rfl rfl ?_
          refine r_getR (pc := 98) S0 hK fl_X3_21 dX3_goTo_98 hf (fun x31 hf => ?_)
          refine r_iload_n (pc := 101) S0 3 dX3_goTo_101 rfl rfl ?_
          refine r_iload_n (pc := 102) S0 0 dX3_goTo_102 rfl rfl ?_
          obtain ⟨e32, h33, hf⟩ := ok_bind hf
          refine r_cV_V (pc := 103) [iv a1, iv e13] S0 hK hX mv_X3_86 (k_X10_stampIn h33) (c_X10_stampIn l cA D N sx ad T A nx I30 x31 a1 e13 ca1 c15 e32 h33) rfl rfl ⟨by decide, by decide⟩ (Nat.le_of_ble_eq_true rfl) ⟨Nat.le_refl _, Nat.le_refl _⟩ dX3_goTo_103 ?_
          refine r_iconst (pc := 106) S0 dX3_goTo_106 ?_
          have hz := ok_some hf
          have hz : (1, e32) = e := hz
          subst hQ
          subst hz
          exact r_zret (pc := 107) S0 hr hlk (Or.inr rfl) dX3_goTo_107
        · refine r_iconst (pc := 59) S0 dX3_goTo_59 ?_
          have hz := ok_some hf
          have hz : (0, I) = e := hz
          subst hQ
          subst hz
          exact r_zret (pc := 60) S0 hr hlk (Or.inl rfl) dX3_goTo_60
    · refine r_iconst (pc := 25) S0 dX3_goTo_25 ?_
      have hz := ok_some hf
      have hz : (0, I) = e := hz
      subst hQ
      subst hz
      exact r_zret (pc := 26) S0 hr hlk (Or.inl rfl) dX3_goTo_26
