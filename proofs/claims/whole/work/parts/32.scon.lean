/-! Their contracts. -/
set_option maxHeartbeats 4000000 in
set_option maxRecDepth 100000 in
theorem c_X8_isWord (l : Launch) (cA : Nat → ClassId) (D : va_G) (N : Nat) (sx : Sx) (ad : Nat → Nat) (T : Knd) (A : Rfs) (nx : Nat) (I : Mem) (w0 : Nat) (w1 : Nat)  (e : Int) (h : f_X8_isWord T A w0 w1 I = some e) : CtI l yX8_isWord cX8_isWord 3 (some .boolean) 5 147 cA D N sx ad T A nx [rv ad w0, .ref (sx.1 w1)] I I e := by
  refine met_of (lv0 := [(0, rv ad w0), (1, .ref (sx.1 w1))]) (by decide) (Nat.le_of_ble_eq_true rfl) rfl (fun p e0 s m args below meth c S0 hK hX hr hlk Q hQ => ?_)
  have hf : OK (f_X8_isWord T A w0 w1 I) (fun z => z = e) := ⟨e, h, rfl⟩
  unfold f_X8_isWord at hf
  obtain ⟨hw0, hf⟩ := ok_grd hf
  refine r_aload_n (pc := 0) S0 0 dX8_isWord_0 rfl rfl ?_
  refine r_getI (pc := 1) S0 hK fl_X8_31 dX8_isWord_1 hf (fun x1 c2 hf => ?_)
  refine r_iconst (pc := 4) S0 dX8_isWord_4 ?_
  refine r_icmp_ne (pc := 5) (tgt := 24) S0 dX8_isWord_5 (by decide) c2 (cnz 1 rfl) hf (fun hf => ?_) (fun hf => ?_)
  · refine r_iconst (pc := 24) S0 dX8_isWord_24 ?_
    have hz := ok_some hf
    have hz : 0 = e := hz
    subst hQ
    subst hz
    exact r_zret (pc := 25) S0 hr hlk (Or.inl rfl) dX8_isWord_25
  · refine r_aload_n (pc := 8) S0 0 dX8_isWord_8 rfl rfl ?_
    refine r_getI (pc := 9) S0 hK fl_X8_19 dX8_isWord_9 hf (fun x3 c4 hf => ?_)
    refine r_aload_n (pc := 12) S0 0 dX8_isWord_12 rfl rfl ?_
    refine r_getI (pc := 13) S0 hK fl_X8_25 dX8_isWord_13 hf (fun x5 c6 hf => ?_)
    refine r_isub (pc := 16) S0 dX8_isWord_16 ?_
    refine r_aload_n (pc := 17) S0 1 dX8_isWord_17 rfl rfl ?_
    refine r_slen (pc := 18) S0 hK hX sl_X8_41 dX8_isWord_18 ⟨by decide, by decide⟩ (Nat.le_of_ble_eq_true rfl) ⟨Nat.le_refl _, Nat.le_refl _⟩ hf (fun x7 c8 hf => ?_)
    refine r_icmp_eq (pc := 21) (tgt := 26) S0 dX8_isWord_21 (by decide) (cn_wrap _) c8 hf (fun hf => ?_) (fun hf => ?_)
    · refine r_iconst (pc := 26) S0 dX8_isWord_26 ?_
      refine r_istore_n (pc := 27) (lv' := [(2, iv 0), (0, rv ad w0), (1, .ref (sx.1 w1))]) S0 dX8_isWord_27 rfl (by decide) rfl ?_
      refine r_lv [1, 2, 0] rfl ?_
      refine it_ind (P := fun s10 => cn s10 → G p l e0 (rmx 5 147) s m args below meth c 0 0 Q cA D N 3 ad T A nx 28 [(0, rv ad w0), (1, .ref (sx.1 w1)), (2, iv s10)] [] I) (fun n0 s10 ih9 hf c11 => ?_) FU 0 hf (cnz 0 rfl)
      refine r_iload_n (pc := 28) S0 2 dX8_isWord_28 rfl rfl ?_
      refine r_aload_n (pc := 29) S0 1 dX8_isWord_29 rfl rfl ?_
      refine r_slen (pc := 30) S0 hK hX sl_X8_41 dX8_isWord_30 ⟨by decide, by decide⟩ (Nat.le_of_ble_eq_true rfl) ⟨Nat.le_refl _, Nat.le_refl _⟩ hf (fun x12 c13 hf => ?_)
      refine r_icmp_ge (pc := 33) (tgt := 76) S0 dX8_isWord_33 (by decide) c11 c13 hf (fun hf => ?_) (fun hf => ?_)
      · refine r_iconst (pc := 76) S0 dX8_isWord_76 ?_
        have hz := ok_some hf
        have hz : 1 = e := hz
        subst hQ
        subst hz
        exact r_zret (pc := 77) S0 hr hlk (Or.inr rfl) dX8_isWord_77
      · refine r_aload_n (pc := 36) S0 0 dX8_isWord_36 rfl rfl ?_
        refine r_getI (pc := 37) S0 hK fl_X8_25 dX8_isWord_37 hf (fun x14 c15 hf => ?_)
        refine r_iload_n (pc := 40) S0 2 dX8_isWord_40 rfl rfl ?_
        refine r_iadd (pc := 41) S0 dX8_isWord_41 ?_
        refine r_aload_n (pc := 42) S0 0 dX8_isWord_42 rfl rfl ?_
        refine r_getI (pc := 43) S0 hK fl_X8_15 dX8_isWord_43 hf (fun x16 c17 hf => ?_)
        refine r_icmp_ge (pc := 46) (tgt := 76) S0 dX8_isWord_46 (by decide) (cn_wrap _) c17 hf (fun hf => ?_) (fun hf => ?_)
        · refine r_iconst (pc := 76) S0 dX8_isWord_76 ?_
          have hz := ok_some hf
          have hz : 1 = e := hz
          subst hQ
          subst hz
          exact r_zret (pc := 77) S0 hr hlk (Or.inr rfl) dX8_isWord_77
        · refine r_aload_n (pc := 49) S0 0 dX8_isWord_49 rfl rfl ?_
          refine r_getR (pc := 50) S0 hK fl_X8_9 dX8_isWord_50 hf (fun x18 hf => ?_)
          refine r_aload_n (pc := 53) S0 0 dX8_isWord_53 rfl rfl ?_
          refine r_getI (pc := 54) S0 hK fl_X8_25 dX8_isWord_54 hf (fun x19 c20 hf => ?_)
          refine r_iload_n (pc := 57) S0 2 dX8_isWord_57 rfl rfl ?_
          refine r_iadd (pc := 58) S0 dX8_isWord_58 ?_
          refine r_bald (pc := 59) S0 hK dX8_isWord_59 (cn_wrap _) hf (fun x21 c22 hf => ?_)
          refine r_aload_n (pc := 60) S0 1 dX8_isWord_60 rfl rfl ?_
          refine r_iload_n (pc := 61) S0 2 dX8_isWord_61 rfl rfl ?_
          refine r_sch (pc := 62) S0 hK hX sc_X8_46 dX8_isWord_62 c11 ⟨by decide, by decide⟩ (Nat.le_of_ble_eq_true rfl) ⟨Nat.le_refl _, Nat.le_refl _⟩ hf (fun x23 c24 hf => ?_)
          refine r_icmp_eq (pc := 65) (tgt := 70) S0 dX8_isWord_65 (by decide) c22 c24 hf (fun hf => ?_) (fun hf => ?_)
          · refine r_iinc (pc := 70) (lv' := [(2, iv (ia s10 1)), (0, rv ad w0), (1, .ref (sx.1 w1))]) S0 2 dX8_isWord_70 rfl (by decide) rfl ?_
            refine r_goto (pc := 73) (tgt := 28) S0 dX8_isWord_73 (by decide) ?_
            have hz := ok_some hf
            refine r_lv [1, 2, 0] rfl ?_
            exact ih9 (ia s10 1) hz (cn_wrap _)
          · refine r_iconst (pc := 68) S0 dX8_isWord_68 ?_
            have hz := ok_some hf
            have hz : 0 = e := hz
            subst hQ
            subst hz
            exact r_zret (pc := 69) S0 hr hlk (Or.inl rfl) dX8_isWord_69
    · refine r_iconst (pc := 24) S0 dX8_isWord_24 ?_
      have hz := ok_some hf
      have hz : 0 = e := hz
      subst hQ
      subst hz
      exact r_zret (pc := 25) S0 hr hlk (Or.inl rfl) dX8_isWord_25

set_option maxHeartbeats 4000000 in
set_option maxRecDepth 100000 in
theorem c_X4_takeAfter (l : Launch) (cA : Nat → ClassId) (D : va_G) (N : Nat) (sx : Sx) (ad : Nat → Nat) (T : Knd) (A : Rfs) (nx : Nat) (I : Mem) (w0 : Nat) (w1 : Nat) (a2 : Int) (a3 : Int) (ca2 : cn a2) (ca3 : cn a3) (e : (Int × Mem)) (h : f_X4_takeAfter T A w0 w1 a2 a3 I = some e) : CtI l yX4_takeAfter cX4_takeAfter 4 (some .int) 6 169 cA D N sx ad T A nx [rv ad w0, .ref (sx.1 w1), iv a2, iv a3] I e.2 e.1 := by
  refine met_of (lv0 := [(0, rv ad w0), (1, .ref (sx.1 w1)), (2, iv a2), (3, iv a3)]) (by decide) (Nat.le_of_ble_eq_true rfl) rfl (fun p e0 s m args below meth c S0 hK hX hr hlk Q hQ => ?_)
  have hf : OK (f_X4_takeAfter T A w0 w1 a2 a3 I) (fun z => z = e) := ⟨e, h, rfl⟩
  unfold f_X4_takeAfter at hf
  obtain ⟨hw0, hf⟩ := ok_grd hf
  refine r_aload_n (pc := 0) S0 0 dX4_takeAfter_0 rfl rfl ?_
  refine r_getI (pc := 1) S0 hK fl_X4_29 dX4_takeAfter_1 hf (fun x1 c2 hf => ?_)
  refine r_if_eq (pc := 4) (tgt := 9) S0 dX4_takeAfter_4 (by decide) c2 hf (fun hf => ?_) (fun hf => ?_)
  · refine r_aload_n (pc := 9) S0 0 dX4_takeAfter_9 rfl rfl ?_
    refine r_getR (pc := 10) S0 hK fl_X4_22 dX4_takeAfter_10 hf (fun x3 hf => ?_)
    refine r_aload_n (pc := 13) S0 1 dX4_takeAfter_13 rfl rfl ?_
    obtain ⟨e4, h5, hf⟩ := ok_bind hf
    refine r_cV_I (pc := 14) [.ref (sx.1 w1)] S0 hK hX mv_X4_45 (k_X8_isWord h5) (c_X8_isWord l cA D N sx ad T A nx I x3 w1 e4 h5) rfl rfl ⟨by decide, by decide⟩ (Nat.le_of_ble_eq_true rfl) ⟨Nat.le_refl _, Nat.le_refl _⟩ dX4_takeAfter_14 (fun c6 => ?_)
    refine r_if_ne (pc := 17) (tgt := 26) S0 dX4_takeAfter_17 (by decide) c6 hf (fun hf => ?_) (fun hf => ?_)
    · refine r_aload_n (pc := 26) S0 0 dX4_takeAfter_26 rfl rfl ?_
      refine r_getR (pc := 27) S0 hK fl_X4_22 dX4_takeAfter_27 hf (fun x7 hf => ?_)
      obtain ⟨e8, h9, hf⟩ := ok_bind hf
      refine r_cV_V (pc := 30) [] S0 hK hX mv_X4_90 (k_X8_advance h9) (c_X8_advance l cA D N sx ad T A nx I x7 e8 h9) rfl rfl ⟨by decide, by decide⟩ (Nat.le_of_ble_eq_true rfl) ⟨Nat.le_refl _, Nat.le_refl _⟩ dX4_takeAfter_30 ?_
      refine r_aload_n (pc := 33) S0 0 dX4_takeAfter_33 rfl rfl ?_
      refine r_iload_n (pc := 34) S0 2 dX4_takeAfter_34 rfl rfl ?_
      refine r_iload_n (pc := 35) S0 3 dX4_takeAfter_35 rfl rfl ?_
      obtain ⟨e10, h11, hf⟩ := ok_bind hf
      refine r_cV_I (pc := 36) [iv a2, iv a3] S0 hK hX mv_X4_140 (k_X4_takeNumber h11) (c_X4_takeNumber l cA D N sx ad T A nx e8 w0 a2 a3 ca2 ca3 e10 h11) rfl rfl ⟨by decide, by decide⟩ (Nat.le_of_ble_eq_true rfl) ⟨Nat.le_refl _, Nat.le_refl _⟩ dX4_takeAfter_36 (fun c12 => ?_)
      have hz := ok_some hf
      have hz : (e10.1, e10.2) = e := hz
      subst hQ
      subst hz
      exact r_iret (pc := 39) S0 hr hlk c12 dX4_takeAfter_39
    · refine r_aload_n (pc := 20) S0 0 dX4_takeAfter_20 rfl rfl ?_
      refine r_iconst (pc := 21) S0 dX4_takeAfter_21 ?_
      obtain ⟨e13, h14, hf⟩ := ok_bind hf
      refine r_cV_I (pc := 22) [iv 1] S0 hK hX mv_X4_52 (k_X4_blame h14) (c_X4_blame l cA D N sx ad T A nx I w0 1 (cnz 1 rfl) e13 h14) rfl rfl ⟨by decide, by decide⟩ (Nat.le_of_ble_eq_true rfl) ⟨Nat.le_refl _, Nat.le_refl _⟩ dX4_takeAfter_22 (fun c15 => ?_)
      have hz := ok_some hf
      have hz : (e13.1, e13.2) = e := hz
      subst hQ
      subst hz
      exact r_iret (pc := 25) S0 hr hlk c15 dX4_takeAfter_25
  · refine r_iconst (pc := 7) S0 dX4_takeAfter_7 ?_
    have hz := ok_some hf
    have hz : (0, I) = e := hz
    subst hQ
    subst hz
    exact r_iret (pc := 8) S0 hr hlk (cnz 0 rfl) dX4_takeAfter_8

set_option maxHeartbeats 4000000 in
set_option maxRecDepth 100000 in
theorem c_X4_readHead (l : Launch) (cA : Nat → ClassId) (D : va_G) (N : Nat) (sx : Sx) (ad : Nat → Nat) (T : Knd) (A : Rfs) (nx : Nat) (I : Mem) (w0 : Nat)  (e : Mem) (h : f_X4_readHead T A w0 I = some e) : CtV l yX4_readHead cX4_readHead 1 none 7 192 cA D N sx ad T A nx [rv ad w0] I e := by
  refine met_of (lv0 := [(0, rv ad w0)]) (by decide) (Nat.le_of_ble_eq_true rfl) rfl (fun p e0 s m args below meth c S0 hK hX hr hlk Q hQ => ?_)
  have hf : OK (f_X4_readHead T A w0 I) (fun z => z = e) := ⟨e, h, rfl⟩
  unfold f_X4_readHead at hf
  obtain ⟨hw0, hf⟩ := ok_grd hf
  refine r_aload_n (pc := 0) S0 0 dX4_readHead_0 rfl rfl ?_
  refine r_getR (pc := 1) S0 hK fl_X4_22 dX4_readHead_1 hf (fun x1 hf => ?_)
  obtain ⟨e2, h3, hf⟩ := ok_bind hf
  refine r_cV_V (pc := 4) [] S0 hK hX mv_X4_90 (k_X8_advance h3) (c_X8_advance l cA D N sx ad T A nx I x1 e2 h3) rfl rfl ⟨by decide, by decide⟩ (Nat.le_of_ble_eq_true rfl) ⟨Nat.le_refl _, Nat.le_refl _⟩ dX4_readHead_4 ?_
  refine r_aload_n (pc := 7) S0 0 dX4_readHead_7 rfl rfl ?_
  refine r_getR (pc := 8) S0 hK fl_X4_12 dX4_readHead_8 hf (fun x4 hf => ?_)
  refine r_aload_n (pc := 11) S0 0 dX4_readHead_11 rfl rfl ?_
  refine r_ldcs (pc := 12) S0 hX (i := 1) rfl rfl dX4_readHead_12 ?_
  refine r_iconst (pc := 14) S0 dX4_readHead_14 ?_
  refine r_bipush (pc := 15) S0 dX4_readHead_15 (by decide) ?_
  obtain ⟨e5, h6, hf⟩ := ok_bind hf
  refine r_cV_I (pc := 17) [.ref (sx.1 1), iv 1, iv 6] S0 hK hX mv_X4_95 (k_X4_takeAfter h6) (c_X4_takeAfter l cA D N sx ad T A nx e2 w0 1 1 6 (cnz 1 rfl) (cnz 6 rfl) e5 h6) rfl rfl ⟨by decide, by decide⟩ (Nat.le_of_ble_eq_true rfl) ⟨Nat.le_refl _, Nat.le_refl _⟩ dX4_readHead_17 (fun c7 => ?_)
  refine r_putI (pc := 20) S0 hK fl_X4_99 rfl rfl c7 dX4_readHead_20 hf (fun I8 hf => ?_)
  refine r_aload_n (pc := 23) S0 0 dX4_readHead_23 rfl rfl ?_
  refine r_getR (pc := 24) S0 hK fl_X4_12 dX4_readHead_24 hf (fun x9 hf => ?_)
  refine r_aload_n (pc := 27) S0 0 dX4_readHead_27 rfl rfl ?_
  refine r_ldcs (pc := 28) S0 hX (i := 2) rfl rfl dX4_readHead_28 ?_
  refine r_iconst (pc := 30) S0 dX4_readHead_30 ?_
  refine r_aload_n (pc := 31) S0 0 dX4_readHead_31 rfl rfl ?_
  refine r_getR (pc := 32) S0 hK fl_X4_12 dX4_readHead_32 hf (fun x10 hf => ?_)
  refine r_getI (pc := 35) S0 hK fl_X4_99 dX4_readHead_35 hf (fun x11 c12 hf => ?_)
  refine r_iconst (pc := 38) S0 dX4_readHead_38 ?_
  refine r_isub (pc := 39) S0 dX4_readHead_39 ?_
  obtain ⟨e13, h14, hf⟩ := ok_bind hf
  refine r_cV_I (pc := 40) [.ref (sx.1 2), iv 0, iv (isb x11 1)] S0 hK hX mv_X4_95 (k_X4_takeAfter h14) (c_X4_takeAfter l cA D N sx ad T A nx I8 w0 2 0 (isb x11 1) (cnz 0 rfl) (cn_wrap _) e13 h14) rfl rfl ⟨by decide, by decide⟩ (Nat.le_of_ble_eq_true rfl) ⟨Nat.le_refl _, Nat.le_refl _⟩ dX4_readHead_40 (fun c15 => ?_)
  refine r_putI (pc := 43) S0 hK fl_X4_103 rfl rfl c15 dX4_readHead_43 hf (fun I16 hf => ?_)
  refine r_aload_n (pc := 46) S0 0 dX4_readHead_46 rfl rfl ?_
  refine r_getR (pc := 47) S0 hK fl_X4_12 dX4_readHead_47 hf (fun x17 hf => ?_)
  refine r_aload_n (pc := 50) S0 0 dX4_readHead_50 rfl rfl ?_
  refine r_ldcs (pc := 51) S0 hX (i := 3) rfl rfl dX4_readHead_51 ?_
  refine r_iconst (pc := 53) S0 dX4_readHead_53 ?_
  refine r_sipush (pc := 54) S0 dX4_readHead_54 (by decide) ?_
  obtain ⟨e18, h19, hf⟩ := ok_bind hf
  refine r_cV_I (pc := 57) [.ref (sx.1 3), iv 0, iv 399] S0 hK hX mv_X4_95 (k_X4_takeAfter h19) (c_X4_takeAfter l cA D N sx ad T A nx I16 w0 3 0 399 (cnz 0 rfl) (cnz 399 rfl) e18 h19) rfl rfl ⟨by decide, by decide⟩ (Nat.le_of_ble_eq_true rfl) ⟨Nat.le_refl _, Nat.le_refl _⟩ dX4_readHead_57 (fun c20 => ?_)
  refine r_putI (pc := 60) S0 hK fl_X4_108 rfl rfl c20 dX4_readHead_60 hf (fun I21 hf => ?_)
  have hz := ok_some hf
  have hz : I21 = e := hz
  subst hQ
  subst hz
  exact r_vret (pc := 63) S0 hr hlk dX4_readHead_63

set_option maxHeartbeats 4000000 in
set_option maxRecDepth 100000 in
theorem c_X4_readMark (l : Launch) (cA : Nat → ClassId) (D : va_G) (N : Nat) (sx : Sx) (ad : Nat → Nat) (T : Knd) (A : Rfs) (nx : Nat) (I : Mem) (w0 : Nat) (w1 : Nat) (a2 : Int) (a3 : Int) (a4 : Int) (ca2 : cn a2) (ca3 : cn a3) (ca4 : cn a4) (e : Mem) (h : f_X4_readMark T A w0 w1 a2 a3 a4 I = some e) : CtV l yX4_readMark cX4_readMark 6 none 6 169 cA D N sx ad T A nx [rv ad w0, .ref (sx.1 w1), iv a2, iv a3, iv a4] I e := by
  refine met_of (lv0 := [(0, rv ad w0), (1, .ref (sx.1 w1)), (2, iv a2), (3, iv a3), (4, iv a4)]) (by decide) (Nat.le_of_ble_eq_true rfl) rfl (fun p e0 s m args below meth c S0 hK hX hr hlk Q hQ => ?_)
  have hf : OK (f_X4_readMark T A w0 w1 a2 a3 a4 I) (fun z => z = e) := ⟨e, h, rfl⟩
  unfold f_X4_readMark at hf
  obtain ⟨hw0, hf⟩ := ok_grd hf
  refine r_aload_n (pc := 0) S0 0 dX4_readMark_0 rfl rfl ?_
  refine r_getR (pc := 1) S0 hK fl_X4_12 dX4_readMark_1 hf (fun x1 hf => ?_)
  refine r_getI (pc := 4) S0 hK fl_X4_111 dX4_readMark_4 hf (fun x2 c3 hf => ?_)
  refine r_istore (pc := 7) (lv' := [(5, iv x2), (0, rv ad w0), (1, .ref (sx.1 w1)), (2, iv a2), (3, iv a3), (4, iv a4)]) S0 dX4_readMark_7 (by decide) rfl ?_
  refine r_aload_n (pc := 9) S0 1 dX4_readMark_9 rfl rfl ?_
  refine r_getI (pc := 10) S0 hK fl_X4_29 dX4_readMark_10 hf (fun x4 c5 hf => ?_)
  refine r_if_ne (pc := 13) (tgt := 69) S0 dX4_readMark_13 (by decide) c5 hf (fun hf => ?_) (fun hf => ?_)
  · have hz := ok_some hf
    have hz : I = e := hz
    subst hQ
    subst hz
    exact r_vret (pc := 69) S0 hr hlk dX4_readMark_69
  · refine r_iload (pc := 16) S0 0 dX4_readMark_16 rfl ?_
    refine r_bipush (pc := 18) S0 dX4_readMark_18 (by decide) ?_
    refine r_icmp_ge (pc := 20) (tgt := 69) S0 dX4_readMark_20 (by decide) c3 (cnz 8 rfl) hf (fun hf => ?_) (fun hf => ?_)
    · have hz := ok_some hf
      have hz : I = e := hz
      subst hQ
      subst hz
      exact r_vret (pc := 69) S0 hr hlk dX4_readMark_69
    · refine r_aload_n (pc := 23) S0 1 dX4_readMark_23 rfl rfl ?_
      refine r_getR (pc := 24) S0 hK fl_X4_12 dX4_readMark_24 hf (fun x6 hf => ?_)
      refine r_getR (pc := 27) S0 hK fl_X4_136 dX4_readMark_27 hf (fun x7 hf => ?_)
      refine r_iload_n (pc := 30) S0 3 dX4_readMark_30 rfl rfl ?_
      refine r_aald 24 4 (pc := 31) S0 hK (by decide) rfl rfl dX4_readMark_31 ca2 hf (fun x8 hf => ?_)
      refine r_iload (pc := 32) S0 0 dX4_readMark_32 rfl ?_
      refine r_iald (pc := 34) S0 hK dX4_readMark_34 c3 hf (fun x9 c10 hf => ?_)
      refine r_iconst (pc := 35) S0 dX4_readMark_35 ?_
      refine r_icmp_ne (pc := 36) (tgt := 69) S0 dX4_readMark_36 (by decide) c10 (cnz (-1) rfl) hf (fun hf => ?_) (fun hf => ?_)
      · have hz := ok_some hf
        have hz : I = e := hz
        subst hQ
        subst hz
        exact r_vret (pc := 69) S0 hr hlk dX4_readMark_69
      · refine r_aload_n (pc := 39) S0 1 dX4_readMark_39 rfl rfl ?_
        refine r_getR (pc := 40) S0 hK fl_X4_22 dX4_readMark_40 hf (fun x11 hf => ?_)
        refine r_aload_n (pc := 43) S0 2 dX4_readMark_43 rfl rfl ?_
        obtain ⟨e12, h13, hf⟩ := ok_bind hf
        refine r_cV_I (pc := 44) [.ref (sx.1 w1)] S0 hK hX mv_X4_45 (k_X8_isWord h13) (c_X8_isWord l cA D N sx ad T A nx I x11 w1 e12 h13) rfl rfl ⟨by decide, by decide⟩ (Nat.le_of_ble_eq_true rfl) ⟨Nat.le_refl _, Nat.le_refl _⟩ dX4_readMark_44 (fun c14 => ?_)
        refine r_if_eq (pc := 47) (tgt := 69) S0 dX4_readMark_47 (by decide) c14 hf (fun hf => ?_) (fun hf => ?_)
        · have hz := ok_some hf
          have hz : I = e := hz
          subst hQ
          subst hz
          exact r_vret (pc := 69) S0 hr hlk dX4_readMark_69
        · refine r_aload_n (pc := 50) S0 1 dX4_readMark_50 rfl rfl ?_
          refine r_getR (pc := 51) S0 hK fl_X4_22 dX4_readMark_51 hf (fun x15 hf => ?_)
          obtain ⟨e16, h17, hf⟩ := ok_bind hf
          refine r_cV_V (pc := 54) [] S0 hK hX mv_X4_90 (k_X8_advance h17) (c_X8_advance l cA D N sx ad T A nx I x15 e16 h17) rfl rfl ⟨by decide, by decide⟩ (Nat.le_of_ble_eq_true rfl) ⟨Nat.le_refl _, Nat.le_refl _⟩ dX4_readMark_54 ?_
          refine r_aload_n (pc := 57) S0 1 dX4_readMark_57 rfl rfl ?_
          refine r_iload_n (pc := 58) S0 3 dX4_readMark_58 rfl rfl ?_
          refine r_aload_n (pc := 59) S0 1 dX4_readMark_59 rfl rfl ?_
          refine r_iload_n (pc := 60) S0 4 dX4_readMark_60 rfl rfl ?_
          refine r_iload (pc := 61) S0 5 dX4_readMark_61 rfl ?_
          obtain ⟨e18, h19, hf⟩ := ok_bind hf
          refine r_cV_I (pc := 63) [iv a3, iv a4] S0 hK hX mv_X4_140 (k_X4_takeNumber h19) (c_X4_takeNumber l cA D N sx ad T A nx e16 w0 a3 a4 ca3 ca4 e18 h19) rfl rfl ⟨by decide, by decide⟩ (Nat.le_of_ble_eq_true rfl) ⟨Nat.le_refl _, Nat.le_refl _⟩ dX4_readMark_63 (fun c20 => ?_)
          obtain ⟨e21, h22, hf⟩ := ok_bind hf
          refine r_cV_V (pc := 66) [iv a2, iv e18.1] S0 hK hX mv_X4_116 (k_X4_tell h22) (c_X4_tell l cA D N sx ad T A nx e18.2 w0 a2 e18.1 ca2 c20 e21 h22) rfl rfl ⟨by decide, by decide⟩ (Nat.le_of_ble_eq_true rfl) ⟨Nat.le_refl _, Nat.le_refl _⟩ dX4_readMark_66 ?_
          have hz := ok_some hf
          have hz : e21 = e := hz
          subst hQ
          subst hz
          exact r_vret (pc := 69) S0 hr hlk dX4_readMark_69

set_option maxHeartbeats 4000000 in
set_option maxRecDepth 100000 in
theorem c_X4_readOfficial (l : Launch) (cA : Nat → ClassId) (D : va_G) (N : Nat) (sx : Sx) (ad : Nat → Nat) (T : Knd) (A : Rfs) (nx : Nat) (I : Mem) (w0 : Nat)  (e : Mem) (h : f_X4_readOfficial T A w0 I = some e) : CtV l yX4_readOfficial cX4_readOfficial 4 none 7 194 cA D N sx ad T A nx [rv ad w0] I e := by
  refine met_of (lv0 := [(0, rv ad w0)]) (by decide) (Nat.le_of_ble_eq_true rfl) rfl (fun p e0 s m args below meth c S0 hK hX hr hlk Q hQ => ?_)
  have hf : OK (f_X4_readOfficial T A w0 I) (fun z => z = e) := ⟨e, h, rfl⟩
  unfold f_X4_readOfficial at hf
  obtain ⟨hw0, hf⟩ := ok_grd hf
  refine r_aload_n (pc := 0) S0 0 dX4_readOfficial_0 rfl rfl ?_
  refine r_getR (pc := 1) S0 hK fl_X4_12 dX4_readOfficial_1 hf (fun x1 hf => ?_)
  refine r_getI (pc := 4) S0 hK fl_X4_111 dX4_readOfficial_4 hf (fun x2 c3 hf => ?_)
  refine r_istore_n (pc := 7) (lv' := [(1, iv x2), (0, rv ad w0)]) S0 dX4_readOfficial_7 rfl (by decide) rfl ?_
  refine r_iload_n (pc := 8) S0 0 dX4_readOfficial_8 rfl rfl ?_
  refine r_bipush (pc := 9) S0 dX4_readOfficial_9 (by decide) ?_
  refine r_icmp_lt (pc := 11) (tgt := 21) S0 dX4_readOfficial_11 (by decide) c3 (cnz 8 rfl) hf (fun hf => ?_) (fun hf => ?_)
  · refine r_aload_n (pc := 21) S0 1 dX4_readOfficial_21 rfl rfl ?_
    refine r_getR (pc := 22) S0 hK fl_X4_22 dX4_readOfficial_22 hf (fun x4 hf => ?_)
    obtain ⟨e5, h6, hf⟩ := ok_bind hf
    refine r_cV_V (pc := 25) [] S0 hK hX mv_X4_90 (k_X8_advance h6) (c_X8_advance l cA D N sx ad T A nx I x4 e5 h6) rfl rfl ⟨by decide, by decide⟩ (Nat.le_of_ble_eq_true rfl) ⟨Nat.le_refl _, Nat.le_refl _⟩ dX4_readOfficial_25 ?_
    refine r_aload_n (pc := 28) S0 1 dX4_readOfficial_28 rfl rfl ?_
    refine r_iconst (pc := 29) S0 dX4_readOfficial_29 ?_
    refine r_aload_n (pc := 30) S0 1 dX4_readOfficial_30 rfl rfl ?_
    refine r_ldcs (pc := 31) S0 hX (i := 5) rfl rfl dX4_readOfficial_31 ?_
    refine r_iconst (pc := 33) S0 dX4_readOfficial_33 ?_
    refine r_aload_n (pc := 34) S0 1 dX4_readOfficial_34 rfl rfl ?_
    refine r_getR (pc := 35) S0 hK fl_X4_12 dX4_readOfficial_35 hf (fun x7 hf => ?_)
    refine r_getI (pc := 38) S0 hK fl_X4_99 dX4_readOfficial_38 hf (fun x8 c9 hf => ?_)
    refine r_iconst (pc := 41) S0 dX4_readOfficial_41 ?_
    refine r_isub (pc := 42) S0 dX4_readOfficial_42 ?_
    obtain ⟨e10, h11, hf⟩ := ok_bind hf
    refine r_cV_I (pc := 43) [.ref (sx.1 5), iv 0, iv (isb x8 1)] S0 hK hX mv_X4_95 (k_X4_takeAfter h11) (c_X4_takeAfter l cA D N sx ad T A nx e5 w0 5 0 (isb x8 1) (cnz 0 rfl) (cn_wrap _) e10 h11) rfl rfl ⟨by decide, by decide⟩ (Nat.le_of_ble_eq_true rfl) ⟨Nat.le_refl _, Nat.le_refl _⟩ dX4_readOfficial_43 (fun c12 => ?_)
    obtain ⟨e13, h14, hf⟩ := ok_bind hf
    refine r_cV_V (pc := 46) [iv 0, iv e10.1] S0 hK hX mv_X4_116 (k_X4_tell h14) (c_X4_tell l cA D N sx ad T A nx e10.2 w0 0 e10.1 (cnz 0 rfl) c12 e13 h14) rfl rfl ⟨by decide, by decide⟩ (Nat.le_of_ble_eq_true rfl) ⟨Nat.le_refl _, Nat.le_refl _⟩ dX4_readOfficial_46 ?_
    refine r_aload_n (pc := 49) S0 1 dX4_readOfficial_49 rfl rfl ?_
    refine r_ldcs (pc := 50) S0 hX (i := 6) rfl rfl dX4_readOfficial_50 ?_
    refine r_iconst (pc := 52) S0 dX4_readOfficial_52 ?_
    refine r_bipush (pc := 53) S0 dX4_readOfficial_53 (by decide) ?_
    obtain ⟨e15, h16, hf⟩ := ok_bind hf
    refine r_cV_I (pc := 55) [.ref (sx.1 6), iv 0, iv 9] S0 hK hX mv_X4_95 (k_X4_takeAfter h16) (c_X4_takeAfter l cA D N sx ad T A nx e13 w0 6 0 9 (cnz 0 rfl) (cnz 9 rfl) e15 h16) rfl rfl ⟨by decide, by decide⟩ (Nat.le_of_ble_eq_true rfl) ⟨Nat.le_refl _, Nat.le_refl _⟩ dX4_readOfficial_55 (fun c17 => ?_)
    refine r_istore_n (pc := 58) (lv' := [(2, iv e15.1), (1, iv x2), (0, rv ad w0)]) S0 dX4_readOfficial_58 rfl (by decide) rfl ?_
    refine r_aload_n (pc := 59) S0 2 dX4_readOfficial_59 rfl rfl ?_
    refine r_iconst (pc := 60) S0 dX4_readOfficial_60 ?_
    refine r_iload_n (pc := 61) S0 0 dX4_readOfficial_61 rfl rfl ?_
    obtain ⟨e18, h19, hf⟩ := ok_bind hf
    refine r_cV_V (pc := 62) [iv 1, iv e15.1] S0 hK hX mv_X4_116 (k_X4_tell h19) (c_X4_tell l cA D N sx ad T A nx e15.2 w0 1 e15.1 (cnz 1 rfl) c17 e18 h19) rfl rfl ⟨by decide, by decide⟩ (Nat.le_of_ble_eq_true rfl) ⟨Nat.le_refl _, Nat.le_refl _⟩ dX4_readOfficial_62 ?_
    refine r_aload_n (pc := 65) S0 2 dX4_readOfficial_65 rfl rfl ?_
    refine r_iconst (pc := 66) S0 dX4_readOfficial_66 ?_
    refine r_aload_n (pc := 67) S0 2 dX4_readOfficial_67 rfl rfl ?_
    refine r_ldcs (pc := 68) S0 hX (i := 7) rfl rfl dX4_readOfficial_68 ?_
    refine r_iload_n (pc := 70) S0 0 dX4_readOfficial_70 rfl rfl ?_
    refine r_bipush (pc := 71) S0 dX4_readOfficial_71 (by decide) ?_
    obtain ⟨e20, h21, hf⟩ := ok_bind hf
    refine r_cV_I (pc := 73) [.ref (sx.1 7), iv e15.1, iv 9] S0 hK hX mv_X4_95 (k_X4_takeAfter h21) (c_X4_takeAfter l cA D N sx ad T A nx e18 w0 7 e15.1 9 c17 (cnz 9 rfl) e20 h21) rfl rfl ⟨by decide, by decide⟩ (Nat.le_of_ble_eq_true rfl) ⟨Nat.le_refl _, Nat.le_refl _⟩ dX4_readOfficial_73 (fun c22 => ?_)
    obtain ⟨e23, h24, hf⟩ := ok_bind hf
    refine r_cV_V (pc := 76) [iv 2, iv e20.1] S0 hK hX mv_X4_116 (k_X4_tell h24) (c_X4_tell l cA D N sx ad T A nx e20.2 w0 2 e20.1 (cnz 2 rfl) c22 e23 h24) rfl rfl ⟨by decide, by decide⟩ (Nat.le_of_ble_eq_true rfl) ⟨Nat.le_refl _, Nat.le_refl _⟩ dX4_readOfficial_76 ?_
    refine r_aload_n (pc := 79) S0 2 dX4_readOfficial_79 rfl rfl ?_
    refine r_iconst (pc := 80) S0 dX4_readOfficial_80 ?_
    refine r_aload_n (pc := 81) S0 2 dX4_readOfficial_81 rfl rfl ?_
    refine r_ldcs (pc := 82) S0 hX (i := 8) rfl rfl dX4_readOfficial_82 ?_
    refine r_iconst (pc := 84) S0 dX4_readOfficial_84 ?_
    refine r_bipush (pc := 85) S0 dX4_readOfficial_85 (by decide) ?_
    obtain ⟨e25, h26, hf⟩ := ok_bind hf
    refine r_cV_I (pc := 87) [.ref (sx.1 8), iv 1, iv 31] S0 hK hX mv_X4_95 (k_X4_takeAfter h26) (c_X4_takeAfter l cA D N sx ad T A nx e23 w0 8 1 31 (cnz 1 rfl) (cnz 31 rfl) e25 h26) rfl rfl ⟨by decide, by decide⟩ (Nat.le_of_ble_eq_true rfl) ⟨Nat.le_refl _, Nat.le_refl _⟩ dX4_readOfficial_87 (fun c27 => ?_)
    obtain ⟨e28, h29, hf⟩ := ok_bind hf
    refine r_cV_V (pc := 90) [iv 3, iv e25.1] S0 hK hX mv_X4_116 (k_X4_tell h29) (c_X4_tell l cA D N sx ad T A nx e25.2 w0 3 e25.1 (cnz 3 rfl) c27 e28 h29) rfl rfl ⟨by decide, by decide⟩ (Nat.le_of_ble_eq_true rfl) ⟨Nat.le_refl _, Nat.le_refl _⟩ dX4_readOfficial_90 ?_
    refine r_aload_n (pc := 93) S0 2 dX4_readOfficial_93 rfl rfl ?_
    refine r_iconst (pc := 94) S0 dX4_readOfficial_94 ?_
    refine r_iconst (pc := 95) S0 dX4_readOfficial_95 ?_
    obtain ⟨e30, h31, hf⟩ := ok_bind hf
    refine r_cV_V (pc := 96) [iv 4, iv (-1)] S0 hK hX mv_X4_116 (k_X4_tell h31) (c_X4_tell l cA D N sx ad T A nx e28 w0 4 (-1) (cnz 4 rfl) (cnz (-1) rfl) e30 h31) rfl rfl ⟨by decide, by decide⟩ (Nat.le_of_ble_eq_true rfl) ⟨Nat.le_refl _, Nat.le_refl _⟩ dX4_readOfficial_96 ?_
    refine r_aload_n (pc := 99) S0 2 dX4_readOfficial_99 rfl rfl ?_
    refine r_iconst (pc := 100) S0 dX4_readOfficial_100 ?_
    refine r_iconst (pc := 101) S0 dX4_readOfficial_101 ?_
    obtain ⟨e32, h33, hf⟩ := ok_bind hf
    refine r_cV_V (pc := 102) [iv 5, iv (-1)] S0 hK hX mv_X4_116 (k_X4_tell h33) (c_X4_tell l cA D N sx ad T A nx e30 w0 5 (-1) (cnz 5 rfl) (cnz (-1) rfl) e32 h33) rfl rfl ⟨by decide, by decide⟩ (Nat.le_of_ble_eq_true rfl) ⟨Nat.le_refl _, Nat.le_refl _⟩ dX4_readOfficial_102 ?_
    refine r_aload_n (pc := 105) S0 2 dX4_readOfficial_105 rfl rfl ?_
    refine r_bipush (pc := 106) S0 dX4_readOfficial_106 (by decide) ?_
    refine r_iconst (pc := 108) S0 dX4_readOfficial_108 ?_
    obtain ⟨e34, h35, hf⟩ := ok_bind hf
    refine r_cV_V (pc := 109) [iv 6, iv (-1)] S0 hK hX mv_X4_116 (k_X4_tell h35) (c_X4_tell l cA D N sx ad T A nx e32 w0 6 (-1) (cnz 6 rfl) (cnz (-1) rfl) e34 h35) rfl rfl ⟨by decide, by decide⟩ (Nat.le_of_ble_eq_true rfl) ⟨Nat.le_refl _, Nat.le_refl _⟩ dX4_readOfficial_109 ?_
    refine r_aload_n (pc := 112) S0 2 dX4_readOfficial_112 rfl rfl ?_
    refine r_bipush (pc := 113) S0 dX4_readOfficial_113 (by decide) ?_
    refine r_iconst (pc := 115) S0 dX4_readOfficial_115 ?_
    obtain ⟨e36, h37, hf⟩ := ok_bind hf
    refine r_cV_V (pc := 116) [iv 7, iv (-1)] S0 hK hX mv_X4_116 (k_X4_tell h37) (c_X4_tell l cA D N sx ad T A nx e34 w0 7 (-1) (cnz 7 rfl) (cnz (-1) rfl) e36 h37) rfl rfl ⟨by decide, by decide⟩ (Nat.le_of_ble_eq_true rfl) ⟨Nat.le_refl _, Nat.le_refl _⟩ dX4_readOfficial_116 ?_
    refine r_aload_n (pc := 119) S0 2 dX4_readOfficial_119 rfl rfl ?_
    refine r_bipush (pc := 120) S0 dX4_readOfficial_120 (by decide) ?_
    refine r_iconst (pc := 122) S0 dX4_readOfficial_122 ?_
    obtain ⟨e38, h39, hf⟩ := ok_bind hf
    refine r_cV_V (pc := 123) [iv 8, iv (-1)] S0 hK hX mv_X4_116 (k_X4_tell h39) (c_X4_tell l cA D N sx ad T A nx e36 w0 8 (-1) (cnz 8 rfl) (cnz (-1) rfl) e38 h39) rfl rfl ⟨by decide, by decide⟩ (Nat.le_of_ble_eq_true rfl) ⟨Nat.le_refl _, Nat.le_refl _⟩ dX4_readOfficial_123 ?_
    refine r_iconst (pc := 126) S0 dX4_readOfficial_126 ?_
    refine r_istore_n (pc := 127) (lv' := [(3, iv 0), (2, iv e15.1), (1, iv x2), (0, rv ad w0)]) S0 dX4_readOfficial_127 rfl (by decide) rfl ?_
    refine thn_rule (P := fun v41 => G p l e0 (rmx 7 194) s m args below meth c 0 0 Q cA D N 4 ad T A nx 170 [(0, rv ad w0), (1, iv x2)] [] v41) hf (fun v41 hf => ?_) (fun K40 hf => ?_)
    · refine r_aload_n (pc := 170) S0 0 dX4_readOfficial_170 rfl rfl ?_
      refine r_getR (pc := 171) S0 hK fl_X4_12 dX4_readOfficial_171 hf (fun x51 hf => ?_)
      refine r_getR (pc := 174) S0 hK fl_X4_136 dX4_readOfficial_174 hf (fun x52 hf => ?_)
      refine r_bipush (pc := 177) S0 dX4_readOfficial_177 (by decide) ?_
      refine r_aald 24 4 (pc := 179) S0 hK (by decide) rfl rfl dX4_readOfficial_179 (cnz 6 rfl) hf (fun x53 hf => ?_)
      refine r_iload_n (pc := 180) S0 1 dX4_readOfficial_180 rfl rfl ?_
      refine r_iald (pc := 181) S0 hK dX4_readOfficial_181 c3 hf (fun x54 c55 hf => ?_)
      refine r_iconst (pc := 182) S0 dX4_readOfficial_182 ?_
      refine thn_rule (P := fun v57 => G p l e0 (rmx 7 194) s m args below meth c 0 0 Q cA D N 4 ad T A nx 193 [(0, rv ad w0)] [] v57) hf (fun v57 hf => ?_) (fun K56 hf => ?_)
      · refine r_aload_n (pc := 193) S0 0 dX4_readOfficial_193 rfl rfl ?_
        refine r_getR (pc := 194) S0 hK fl_X4_12 dX4_readOfficial_194 hf (fun x60 hf => ?_)
        refine r_dup (pc := 197) S0 dX4_readOfficial_197 rfl ?_
        refine r_getI (pc := 198) S0 hK fl_X4_111 dX4_readOfficial_198 hf (fun x61 c62 hf => ?_)
        refine r_iconst (pc := 201) S0 dX4_readOfficial_201 ?_
        refine r_iadd (pc := 202) S0 dX4_readOfficial_202 ?_
        refine r_putI (pc := 203) S0 hK fl_X4_111 rfl rfl (cn_wrap _) dX4_readOfficial_203 hf (fun I63 hf => ?_)
        have hz := ok_some hf
        have hz : I63 = e := hz
        subst hQ
        subst hz
        exact r_vret (pc := 206) S0 hr hlk dX4_readOfficial_206
      · refine r_icmp_ne (pc := 183) (tgt := 193) S0 dX4_readOfficial_183 (by decide) c55 (cnz (-1) rfl) hf (fun hf => ?_) (fun hf => ?_)
        · have hz := ok_some hf
          refine r_lv [0] rfl ?_
          exact K56 v41 hz
        · refine r_aload_n (pc := 186) S0 0 dX4_readOfficial_186 rfl rfl ?_
          refine r_bipush (pc := 187) S0 dX4_readOfficial_187 (by decide) ?_
          refine r_iconst (pc := 189) S0 dX4_readOfficial_189 ?_
          obtain ⟨e58, h59, hf⟩ := ok_bind hf
          refine r_cV_V (pc := 190) [iv 6, iv 0] S0 hK hX mv_X4_116 (k_X4_tell h59) (c_X4_tell l cA D N sx ad T A nx v41 w0 6 0 (cnz 6 rfl) (cnz 0 rfl) e58 h59) rfl rfl ⟨by decide, by decide⟩ (Nat.le_of_ble_eq_true rfl) ⟨Nat.le_refl _, Nat.le_refl _⟩ dX4_readOfficial_190 ?_
          have hz := ok_some hf
          refine r_lv [0] rfl ?_
          exact K56 e58 hz
    · refine r_lv [3, 2, 0] rfl ?_
      refine it_ind (P := fun s43 => cn s43.1 → G p l e0 (rmx 7 194) s m args below meth c 0 0 Q cA D N 4 ad T A nx 128 [(0, rv ad w0), (1, iv x2), (3, iv s43.1)] [] s43.2) (fun n0 s43 ih42 hf c44 => ?_) FU (0, e38) hf (cnz 0 rfl)
      refine r_iload_n (pc := 128) S0 2 dX4_readOfficial_128 rfl rfl ?_
      refine r_iconst (pc := 129) S0 dX4_readOfficial_129 ?_
      refine r_icmp_ge (pc := 130) (tgt := 170) S0 dX4_readOfficial_130 (by decide) c44 (cnz 3 rfl) hf (fun hf => ?_) (fun hf => ?_)
      · have hz := ok_some hf
        refine r_lv [0, 1] rfl ?_
        exact K40 s43.2 hz
      · refine r_aload_n (pc := 133) S0 0 dX4_readOfficial_133 rfl rfl ?_
        refine r_ldcs (pc := 134) S0 hX (i := 9) rfl rfl dX4_readOfficial_134 ?_
        refine r_iconst (pc := 136) S0 dX4_readOfficial_136 ?_
        refine r_iconst (pc := 137) S0 dX4_readOfficial_137 ?_
        refine r_bipush (pc := 138) S0 dX4_readOfficial_138 (by decide) ?_
        obtain ⟨e45, h46, hf⟩ := ok_bind hf
        refine r_cV_V (pc := 140) [.ref (sx.1 9), iv 4, iv 0, iv 9] S0 hK hX mv_X4_128 (k_X4_readMark h46) (c_X4_readMark l cA D N sx ad T A nx s43.2 w0 9 4 0 9 (cnz 4 rfl) (cnz 0 rfl) (cnz 9 rfl) e45 h46) rfl rfl ⟨by decide, by decide⟩ (Nat.le_of_ble_eq_true rfl) ⟨Nat.le_refl _, Nat.le_refl _⟩ dX4_readOfficial_140 ?_
        refine r_aload_n (pc := 143) S0 0 dX4_readOfficial_143 rfl rfl ?_
        refine r_ldcs (pc := 144) S0 hX (i := 10) rfl rfl dX4_readOfficial_144 ?_
        refine r_iconst (pc := 146) S0 dX4_readOfficial_146 ?_
        refine r_iconst (pc := 147) S0 dX4_readOfficial_147 ?_
        refine r_bipush (pc := 148) S0 dX4_readOfficial_148 (by decide) ?_
        obtain ⟨e47, h48, hf⟩ := ok_bind hf
        refine r_cV_V (pc := 150) [.ref (sx.1 10), iv 5, iv 1, iv 20] S0 hK hX mv_X4_128 (k_X4_readMark h48) (c_X4_readMark l cA D N sx ad T A nx e45 w0 10 5 1 20 (cnz 5 rfl) (cnz 1 rfl) (cnz 20 rfl) e47 h48) rfl rfl ⟨by decide, by decide⟩ (Nat.le_of_ble_eq_true rfl) ⟨Nat.le_refl _, Nat.le_refl _⟩ dX4_readOfficial_150 ?_
        refine r_aload_n (pc := 153) S0 0 dX4_readOfficial_153 rfl rfl ?_
        refine r_ldcs (pc := 154) S0 hX (i := 11) rfl rfl dX4_readOfficial_154 ?_
        refine r_bipush (pc := 156) S0 dX4_readOfficial_156 (by decide) ?_
        refine r_iconst (pc := 158) S0 dX4_readOfficial_158 ?_
        refine r_bipush (pc := 159) S0 dX4_readOfficial_159 (by decide) ?_
        obtain ⟨e49, h50, hf⟩ := ok_bind hf
        refine r_cV_V (pc := 161) [.ref (sx.1 11), iv 6, iv 0, iv 99] S0 hK hX mv_X4_128 (k_X4_readMark h50) (c_X4_readMark l cA D N sx ad T A nx e47 w0 11 6 0 99 (cnz 6 rfl) (cnz 0 rfl) (cnz 99 rfl) e49 h50) rfl rfl ⟨by decide, by decide⟩ (Nat.le_of_ble_eq_true rfl) ⟨Nat.le_refl _, Nat.le_refl _⟩ dX4_readOfficial_161 ?_
        refine r_iinc (pc := 164) (lv' := [(3, iv (ia s43.1 1)), (0, rv ad w0), (1, iv x2)]) S0 2 dX4_readOfficial_164 rfl (by decide) rfl ?_
        refine r_goto (pc := 167) (tgt := 128) S0 dX4_readOfficial_167 (by decide) ?_
        have hz := ok_some hf
        refine r_lv [1, 2, 0] rfl ?_
        exact ih42 (ia s43.1 1, e49) hz (cn_wrap _)
  · refine r_aload_n (pc := 14) S0 1 dX4_readOfficial_14 rfl rfl ?_
    refine r_iconst (pc := 15) S0 dX4_readOfficial_15 ?_
    obtain ⟨e64, h65, hf⟩ := ok_bind hf
    refine r_cV_I (pc := 16) [iv 3] S0 hK hX mv_X4_52 (k_X4_blame h65) (c_X4_blame l cA D N sx ad T A nx I w0 3 (cnz 3 rfl) e64 h65) rfl rfl ⟨by decide, by decide⟩ (Nat.le_of_ble_eq_true rfl) ⟨Nat.le_refl _, Nat.le_refl _⟩ dX4_readOfficial_16 (fun c66 => ?_)
    refine r_pop (pc := 19) S0 dX4_readOfficial_19 rfl ?_
    have hz := ok_some hf
    have hz : e64.2 = e := hz
    subst hQ
    subst hz
    exact r_vret (pc := 20) S0 hr hlk dX4_readOfficial_20

set_option maxHeartbeats 4000000 in
set_option maxRecDepth 100000 in
theorem c_X4_readLeave (l : Launch) (cA : Nat → ClassId) (D : va_G) (N : Nat) (sx : Sx) (ad : Nat → Nat) (T : Knd) (A : Rfs) (nx : Nat) (I : Mem) (w0 : Nat)  (e : Mem) (h : f_X4_readLeave T A w0 I = some e) : CtV l yX4_readLeave cX4_readLeave 4 none 7 192 cA D N sx ad T A nx [rv ad w0] I e := by
  refine met_of (lv0 := [(0, rv ad w0)]) (by decide) (Nat.le_of_ble_eq_true rfl) rfl (fun p e0 s m args below meth c S0 hK hX hr hlk Q hQ => ?_)
  have hf : OK (f_X4_readLeave T A w0 I) (fun z => z = e) := ⟨e, h, rfl⟩
  unfold f_X4_readLeave at hf
  obtain ⟨hw0, hf⟩ := ok_grd hf
  refine r_aload_n (pc := 0) S0 0 dX4_readLeave_0 rfl rfl ?_
  refine r_getR (pc := 1) S0 hK fl_X4_22 dX4_readLeave_1 hf (fun x1 hf => ?_)
  obtain ⟨e2, h3, hf⟩ := ok_bind hf
  refine r_cV_V (pc := 4) [] S0 hK hX mv_X4_90 (k_X8_advance h3) (c_X8_advance l cA D N sx ad T A nx I x1 e2 h3) rfl rfl ⟨by decide, by decide⟩ (Nat.le_of_ble_eq_true rfl) ⟨Nat.le_refl _, Nat.le_refl _⟩ dX4_readLeave_4 ?_
  refine r_aload_n (pc := 7) S0 0 dX4_readLeave_7 rfl rfl ?_
  refine r_iconst (pc := 8) S0 dX4_readLeave_8 ?_
  refine r_aload_n (pc := 9) S0 0 dX4_readLeave_9 rfl rfl ?_
  refine r_getR (pc := 10) S0 hK fl_X4_12 dX4_readLeave_10 hf (fun x4 hf => ?_)
  refine r_getI (pc := 13) S0 hK fl_X4_111 dX4_readLeave_13 hf (fun x5 c6 hf => ?_)
  refine r_iconst (pc := 16) S0 dX4_readLeave_16 ?_
  refine r_isub (pc := 17) S0 dX4_readLeave_17 ?_
  obtain ⟨e7, h8, hf⟩ := ok_bind hf
  refine r_cV_I (pc := 18) [iv 0, iv (isb x5 1)] S0 hK hX mv_X4_140 (k_X4_takeNumber h8) (c_X4_takeNumber l cA D N sx ad T A nx e2 w0 0 (isb x5 1) (cnz 0 rfl) (cn_wrap _) e7 h8) rfl rfl ⟨by decide, by decide⟩ (Nat.le_of_ble_eq_true rfl) ⟨Nat.le_refl _, Nat.le_refl _⟩ dX4_readLeave_18 (fun c9 => ?_)
  refine r_istore_n (pc := 21) (lv' := [(1, iv e7.1), (0, rv ad w0)]) S0 dX4_readLeave_21 rfl (by decide) rfl ?_
  refine r_aload_n (pc := 22) S0 1 dX4_readLeave_22 rfl rfl ?_
  refine r_ldcs (pc := 23) S0 hX (i := 6) rfl rfl dX4_readLeave_23 ?_
  refine r_iconst (pc := 25) S0 dX4_readLeave_25 ?_
  refine r_bipush (pc := 26) S0 dX4_readLeave_26 (by decide) ?_
  obtain ⟨e10, h11, hf⟩ := ok_bind hf
  refine r_cV_I (pc := 28) [.ref (sx.1 6), iv 0, iv 39] S0 hK hX mv_X4_95 (k_X4_takeAfter h11) (c_X4_takeAfter l cA D N sx ad T A nx e7.2 w0 6 0 39 (cnz 0 rfl) (cnz 39 rfl) e10 h11) rfl rfl ⟨by decide, by decide⟩ (Nat.le_of_ble_eq_true rfl) ⟨Nat.le_refl _, Nat.le_refl _⟩ dX4_readLeave_28 (fun c12 => ?_)
  refine r_istore_n (pc := 31) (lv' := [(2, iv e10.1), (1, iv e7.1), (0, rv ad w0)]) S0 dX4_readLeave_31 rfl (by decide) rfl ?_
  refine r_aload_n (pc := 32) S0 2 dX4_readLeave_32 rfl rfl ?_
  refine r_ldcs (pc := 33) S0 hX (i := 7) rfl rfl dX4_readLeave_33 ?_
  refine r_iload_n (pc := 35) S0 0 dX4_readLeave_35 rfl rfl ?_
  refine r_bipush (pc := 36) S0 dX4_readLeave_36 (by decide) ?_
  obtain ⟨e13, h14, hf⟩ := ok_bind hf
  refine r_cV_I (pc := 38) [.ref (sx.1 7), iv e10.1, iv 39] S0 hK hX mv_X4_95 (k_X4_takeAfter h14) (c_X4_takeAfter l cA D N sx ad T A nx e10.2 w0 7 e10.1 39 c12 (cnz 39 rfl) e13 h14) rfl rfl ⟨by decide, by decide⟩ (Nat.le_of_ble_eq_true rfl) ⟨Nat.le_refl _, Nat.le_refl _⟩ dX4_readLeave_38 (fun c15 => ?_)
  refine r_istore_n (pc := 41) (lv' := [(3, iv e13.1), (2, iv e10.1), (1, iv e7.1), (0, rv ad w0)]) S0 dX4_readLeave_41 rfl (by decide) rfl ?_
  refine r_aload_n (pc := 42) S0 3 dX4_readLeave_42 rfl rfl ?_
  refine r_getI (pc := 43) S0 hK fl_X4_29 dX4_readLeave_43 hf (fun x16 c17 hf => ?_)
  refine r_if_ne (pc := 46) (tgt := 75) S0 dX4_readLeave_46 (by decide) c17 hf (fun hf => ?_) (fun hf => ?_)
  · have hz := ok_some hf
    have hz : e13.2 = e := hz
    subst hQ
    subst hz
    exact r_vret (pc := 75) S0 hr hlk dX4_readLeave_75
  · refine r_aload_n (pc := 49) S0 3 dX4_readLeave_49 rfl rfl ?_
    refine r_getR (pc := 50) S0 hK fl_X4_12 dX4_readLeave_50 hf (fun x18 hf => ?_)
    refine r_getR (pc := 53) S0 hK fl_X4_136 dX4_readLeave_53 hf (fun x19 hf => ?_)
    refine r_bipush (pc := 56) S0 dX4_readLeave_56 (by decide) ?_
    refine r_aald 24 4 (pc := 58) S0 hK (by decide) rfl rfl dX4_readLeave_58 (cnz 7 rfl) hf (fun x20 hf => ?_)
    refine r_iload_n (pc := 59) S0 2 dX4_readLeave_59 rfl rfl ?_
    refine r_iload_n (pc := 60) S0 1 dX4_readLeave_60 rfl rfl ?_
    refine r_iast (pc := 61) S0 hK dX4_readLeave_61 c9 c12 hf (fun I21 hf => ?_)
    refine r_aload_n (pc := 62) S0 3 dX4_readLeave_62 rfl rfl ?_
    refine r_getR (pc := 63) S0 hK fl_X4_12 dX4_readLeave_63 hf (fun x22 hf => ?_)
    refine r_getR (pc := 66) S0 hK fl_X4_136 dX4_readLeave_66 hf (fun x23 hf => ?_)
    refine r_bipush (pc := 69) S0 dX4_readLeave_69 (by decide) ?_
    refine r_aald 24 4 (pc := 71) S0 hK (by decide) rfl rfl dX4_readLeave_71 (cnz 8 rfl) hf (fun x24 hf => ?_)
    refine r_iload_n (pc := 72) S0 2 dX4_readLeave_72 rfl rfl ?_
    refine r_iload_n (pc := 73) S0 0 dX4_readLeave_73 rfl rfl ?_
    refine r_iast (pc := 74) S0 hK dX4_readLeave_74 c9 c15 hf (fun I25 hf => ?_)
    have hz := ok_some hf
    have hz : I25 = e := hz
    subst hQ
    subst hz
    exact r_vret (pc := 75) S0 hr hlk dX4_readLeave_75

set_option maxHeartbeats 4000000 in
set_option maxRecDepth 100000 in
theorem c_X4_readLine (l : Launch) (cA : Nat → ClassId) (D : va_G) (N : Nat) (sx : Sx) (ad : Nat → Nat) (T : Knd) (A : Rfs) (nx : Nat) (I : Mem) (w0 : Nat)  (e : Mem) (h : f_X4_readLine T A w0 I = some e) : CtV l yX4_readLine cX4_readLine 2 none 8 217 cA D N sx ad T A nx [rv ad w0] I e := by
  refine met_of (lv0 := [(0, rv ad w0)]) (by decide) (Nat.le_of_ble_eq_true rfl) rfl (fun p e0 s m args below meth c S0 hK hX hr hlk Q hQ => ?_)
  have hf : OK (f_X4_readLine T A w0 I) (fun z => z = e) := ⟨e, h, rfl⟩
  unfold f_X4_readLine at hf
  obtain ⟨hw0, hf⟩ := ok_grd hf
  refine r_aload_n (pc := 0) S0 0 dX4_readLine_0 rfl rfl ?_
  refine r_getR (pc := 1) S0 hK fl_X4_22 dX4_readLine_1 hf (fun x1 hf => ?_)
  refine r_ldcs (pc := 4) S0 hX (i := 0) rfl rfl dX4_readLine_4 ?_
  obtain ⟨e2, h3, hf⟩ := ok_bind hf
  refine r_cV_I (pc := 6) [.ref (sx.1 0)] S0 hK hX mv_X4_45 (k_X8_isWord h3) (c_X8_isWord l cA D N sx ad T A nx I x1 0 e2 h3) rfl rfl ⟨by decide, by decide⟩ (Nat.le_of_ble_eq_true rfl) ⟨Nat.le_refl _, Nat.le_refl _⟩ dX4_readLine_6 (fun c4 => ?_)
  refine r_istore_n (pc := 9) (lv' := [(1, iv e2), (0, rv ad w0)]) S0 dX4_readLine_9 rfl (by decide) rfl ?_
  refine r_iload_n (pc := 10) S0 0 dX4_readLine_10 rfl rfl ?_
  refine r_aload_n (pc := 11) S0 1 dX4_readLine_11 rfl rfl ?_
  refine r_getR (pc := 12) S0 hK fl_X4_12 dX4_readLine_12 hf (fun x5 hf => ?_)
  refine r_getI (pc := 15) S0 hK fl_X4_49 dX4_readLine_15 hf (fun x6 c7 hf => ?_)
  refine thn_rule (P := fun v9 => cn v9 → G p l e0 (rmx 8 217) s m args below meth c 0 0 Q cA D N 2 ad T A nx 26 [(0, rv ad w0), (1, iv e2)] [iv v9, iv e2] I) hf (fun v9 hf c10 => ?_) (fun K8 hf => ?_)
  · refine thn_rule (P := fun v12 => G p l e0 (rmx 8 217) s m args below meth c 0 0 Q cA D N 2 ad T A nx 173 [(0, rv ad w0)] [] v12) hf (fun v12 hf => ?_) (fun K11 hf => ?_)
    · refine r_aload_n (pc := 173) S0 0 dX4_readLine_173 rfl rfl ?_
      obtain ⟨e57, h58, hf⟩ := ok_bind hf
      refine r_cV_V (pc := 174) [] S0 hK hX mv_X4_87 (k_X4_takeSign h58) (c_X4_takeSign l cA D N sx ad T A nx v12 w0 e57 h58) rfl rfl ⟨by decide, by decide⟩ (Nat.le_of_ble_eq_true rfl) ⟨Nat.le_refl _, Nat.le_refl _⟩ dX4_readLine_174 ?_
      have hz := ok_some hf
      have hz : e57 = e := hz
      subst hQ
      subst hz
      exact r_vret (pc := 177) S0 hr hlk dX4_readLine_177
    · refine r_icmp_eq (pc := 26) (tgt := 38) S0 dX4_readLine_26 (by decide) c4 c10 hf (fun hf => ?_) (fun hf => ?_)
      · refine r_iload_n (pc := 38) S0 1 dX4_readLine_38 rfl rfl ?_
        refine r_if_eq (pc := 39) (tgt := 49) S0 dX4_readLine_39 (by decide) c4 hf (fun hf => ?_) (fun hf => ?_)
        · refine r_aload_n (pc := 49) S0 0 dX4_readLine_49 rfl rfl ?_
          refine r_getR (pc := 50) S0 hK fl_X4_22 dX4_readLine_50 hf (fun x13 hf => ?_)
          refine r_ldcs (pc := 53) S0 hX (i := 4) rfl rfl dX4_readLine_53 ?_
          obtain ⟨e14, h15, hf⟩ := ok_bind hf
          refine r_cV_I (pc := 55) [.ref (sx.1 4)] S0 hK hX mv_X4_45 (k_X8_isWord h15) (c_X8_isWord l cA D N sx ad T A nx I x13 4 e14 h15) rfl rfl ⟨by decide, by decide⟩ (Nat.le_of_ble_eq_true rfl) ⟨Nat.le_refl _, Nat.le_refl _⟩ dX4_readLine_55 (fun c16 => ?_)
          refine r_if_eq (pc := 58) (tgt := 68) S0 dX4_readLine_58 (by decide) c16 hf (fun hf => ?_) (fun hf => ?_)
          · refine r_aload_n (pc := 68) S0 0 dX4_readLine_68 rfl rfl ?_
            refine r_getR (pc := 69) S0 hK fl_X4_22 dX4_readLine_69 hf (fun x17 hf => ?_)
            refine r_ldcs (pc := 72) S0 hX (i := 12) rfl rfl dX4_readLine_72 ?_
            obtain ⟨e18, h19, hf⟩ := ok_bind hf
            refine r_cV_I (pc := 74) [.ref (sx.1 12)] S0 hK hX mv_X4_45 (k_X8_isWord h19) (c_X8_isWord l cA D N sx ad T A nx I x17 12 e18 h19) rfl rfl ⟨by decide, by decide⟩ (Nat.le_of_ble_eq_true rfl) ⟨Nat.le_refl _, Nat.le_refl _⟩ dX4_readLine_74 (fun c20 => ?_)
            refine r_if_eq (pc := 77) (tgt := 87) S0 dX4_readLine_77 (by decide) c20 hf (fun hf => ?_) (fun hf => ?_)
            · refine r_aload_n (pc := 87) S0 0 dX4_readLine_87 rfl rfl ?_
              refine r_getR (pc := 88) S0 hK fl_X4_22 dX4_readLine_88 hf (fun x21 hf => ?_)
              refine r_ldcs (pc := 91) S0 hX (i := 13) rfl rfl dX4_readLine_91 ?_
              obtain ⟨e22, h23, hf⟩ := ok_bind hf
              refine r_cV_I (pc := 93) [.ref (sx.1 13)] S0 hK hX mv_X4_45 (k_X8_isWord h23) (c_X8_isWord l cA D N sx ad T A nx I x21 13 e22 h23) rfl rfl ⟨by decide, by decide⟩ (Nat.le_of_ble_eq_true rfl) ⟨Nat.le_refl _, Nat.le_refl _⟩ dX4_readLine_93 (fun c24 => ?_)
              refine r_if_eq (pc := 96) (tgt := 108) S0 dX4_readLine_96 (by decide) c24 hf (fun hf => ?_) (fun hf => ?_)
              · refine r_aload_n (pc := 108) S0 0 dX4_readLine_108 rfl rfl ?_
                refine r_getR (pc := 109) S0 hK fl_X4_22 dX4_readLine_109 hf (fun x25 hf => ?_)
                refine r_ldcs (pc := 112) S0 hX (i := 14) rfl rfl dX4_readLine_112 ?_
                obtain ⟨e26, h27, hf⟩ := ok_bind hf
                refine r_cV_I (pc := 114) [.ref (sx.1 14)] S0 hK hX mv_X4_45 (k_X8_isWord h27) (c_X8_isWord l cA D N sx ad T A nx I x25 14 e26 h27) rfl rfl ⟨by decide, by decide⟩ (Nat.le_of_ble_eq_true rfl) ⟨Nat.le_refl _, Nat.le_refl _⟩ dX4_readLine_114 (fun c28 => ?_)
                refine r_if_eq (pc := 117) (tgt := 129) S0 dX4_readLine_117 (by decide) c28 hf (fun hf => ?_) (fun hf => ?_)
                · refine r_aload_n (pc := 129) S0 0 dX4_readLine_129 rfl rfl ?_
                  refine r_getR (pc := 130) S0 hK fl_X4_22 dX4_readLine_130 hf (fun x29 hf => ?_)
                  refine r_ldcs (pc := 133) S0 hX (i := 15) rfl rfl dX4_readLine_133 ?_
                  obtain ⟨e30, h31, hf⟩ := ok_bind hf
                  refine r_cV_I (pc := 135) [.ref (sx.1 15)] S0 hK hX mv_X4_45 (k_X8_isWord h31) (c_X8_isWord l cA D N sx ad T A nx I x29 15 e30 h31) rfl rfl ⟨by decide, by decide⟩ (Nat.le_of_ble_eq_true rfl) ⟨Nat.le_refl _, Nat.le_refl _⟩ dX4_readLine_135 (fun c32 => ?_)
                  refine r_if_eq (pc := 138) (tgt := 148) S0 dX4_readLine_138 (by decide) c32 hf (fun hf => ?_) (fun hf => ?_)
                  · refine r_aload_n (pc := 148) S0 0 dX4_readLine_148 rfl rfl ?_
                    refine r_getR (pc := 149) S0 hK fl_X4_22 dX4_readLine_149 hf (fun x33 hf => ?_)
                    refine r_ldcs (pc := 152) S0 hX (i := 16) rfl rfl dX4_readLine_152 ?_
                    obtain ⟨e34, h35, hf⟩ := ok_bind hf
                    refine r_cV_I (pc := 154) [.ref (sx.1 16)] S0 hK hX mv_X4_45 (k_X8_isWord h35) (c_X8_isWord l cA D N sx ad T A nx I x33 16 e34 h35) rfl rfl ⟨by decide, by decide⟩ (Nat.le_of_ble_eq_true rfl) ⟨Nat.le_refl _, Nat.le_refl _⟩ dX4_readLine_154 (fun c36 => ?_)
                    refine r_if_eq (pc := 157) (tgt := 167) S0 dX4_readLine_157 (by decide) c36 hf (fun hf => ?_) (fun hf => ?_)
                    · refine r_aload_n (pc := 167) S0 0 dX4_readLine_167 rfl rfl ?_
                      refine r_iconst (pc := 168) S0 dX4_readLine_168 ?_
                      obtain ⟨e37, h38, hf⟩ := ok_bind hf
                      refine r_cV_I (pc := 169) [iv 1] S0 hK hX mv_X4_52 (k_X4_blame h38) (c_X4_blame l cA D N sx ad T A nx I w0 1 (cnz 1 rfl) e37 h38) rfl rfl ⟨by decide, by decide⟩ (Nat.le_of_ble_eq_true rfl) ⟨Nat.le_refl _, Nat.le_refl _⟩ dX4_readLine_169 (fun c39 => ?_)
                      refine r_pop (pc := 172) S0 dX4_readLine_172 rfl ?_
                      have hz := ok_some hf
                      refine r_lv [0] rfl ?_
                      exact K11 e37.2 hz
                    · refine r_aload_n (pc := 160) S0 0 dX4_readLine_160 rfl rfl ?_
                      obtain ⟨e40, h41, hf⟩ := ok_bind hf
                      refine r_cV_V (pc := 161) [] S0 hK hX mv_X4_84 (k_X4_readPermit h41) (c_X4_readPermit l cA D N sx ad T A nx I w0 e40 h41) rfl rfl ⟨by decide, by decide⟩ (Nat.le_of_ble_eq_true rfl) ⟨Nat.le_refl _, Nat.le_refl _⟩ dX4_readLine_161 ?_
                      refine r_goto (pc := 164) (tgt := 173) S0 dX4_readLine_164 (by decide) ?_
                      have hz := ok_some hf
                      refine r_lv [0] rfl ?_
                      exact K11 e40 hz
                  · refine r_aload_n (pc := 141) S0 0 dX4_readLine_141 rfl rfl ?_
                    obtain ⟨e42, h43, hf⟩ := ok_bind hf
                    refine r_cV_V (pc := 142) [] S0 hK hX mv_X4_79 (k_X4_readLeave h43) (c_X4_readLeave l cA D N sx ad T A nx I w0 e42 h43) rfl rfl ⟨by decide, by decide⟩ (Nat.le_of_ble_eq_true rfl) ⟨Nat.le_refl _, Nat.le_refl _⟩ dX4_readLine_142 ?_
                    refine r_goto (pc := 145) (tgt := 173) S0 dX4_readLine_145 (by decide) ?_
                    have hz := ok_some hf
                    refine r_lv [0] rfl ?_
                    exact K11 e42 hz
                · refine r_aload_n (pc := 120) S0 0 dX4_readLine_120 rfl rfl ?_
                  refine r_bipush (pc := 121) S0 dX4_readLine_121 (by decide) ?_
                  obtain ⟨e44, h45, hf⟩ := ok_bind hf
                  refine r_cV_V (pc := 123) [iv 10] S0 hK hX mv_X4_71 (k_X4_readAsking h45) (c_X4_readAsking l cA D N sx ad T A nx I w0 10 (cnz 10 rfl) e44 h45) rfl rfl ⟨by decide, by decide⟩ (Nat.le_of_ble_eq_true rfl) ⟨Nat.le_refl _, Nat.le_refl _⟩ dX4_readLine_123 ?_
                  refine r_goto (pc := 126) (tgt := 173) S0 dX4_readLine_126 (by decide) ?_
                  have hz := ok_some hf
                  refine r_lv [0] rfl ?_
                  exact K11 e44 hz
              · refine r_aload_n (pc := 99) S0 0 dX4_readLine_99 rfl rfl ?_
                refine r_bipush (pc := 100) S0 dX4_readLine_100 (by decide) ?_
                obtain ⟨e46, h47, hf⟩ := ok_bind hf
                refine r_cV_V (pc := 102) [iv 9] S0 hK hX mv_X4_71 (k_X4_readAsking h47) (c_X4_readAsking l cA D N sx ad T A nx I w0 9 (cnz 9 rfl) e46 h47) rfl rfl ⟨by decide, by decide⟩ (Nat.le_of_ble_eq_true rfl) ⟨Nat.le_refl _, Nat.le_refl _⟩ dX4_readLine_102 ?_
                refine r_goto (pc := 105) (tgt := 173) S0 dX4_readLine_105 (by decide) ?_
                have hz := ok_some hf
                refine r_lv [0] rfl ?_
                exact K11 e46 hz
            · refine r_aload_n (pc := 80) S0 0 dX4_readLine_80 rfl rfl ?_
              obtain ⟨e48, h49, hf⟩ := ok_bind hf
              refine r_cV_V (pc := 81) [] S0 hK hX mv_X4_66 (k_X4_readWay h49) (c_X4_readWay l cA D N sx ad T A nx I w0 e48 h49) rfl rfl ⟨by decide, by decide⟩ (Nat.le_of_ble_eq_true rfl) ⟨Nat.le_refl _, Nat.le_refl _⟩ dX4_readLine_81 ?_
              refine r_goto (pc := 84) (tgt := 173) S0 dX4_readLine_84 (by decide) ?_
              have hz := ok_some hf
              refine r_lv [0] rfl ?_
              exact K11 e48 hz
          · refine r_aload_n (pc := 61) S0 0 dX4_readLine_61 rfl rfl ?_
            obtain ⟨e50, h51, hf⟩ := ok_bind hf
            refine r_cV_V (pc := 62) [] S0 hK hX mv_X4_61 (k_X4_readOfficial h51) (c_X4_readOfficial l cA D N sx ad T A nx I w0 e50 h51) rfl rfl ⟨by decide, by decide⟩ (Nat.le_of_ble_eq_true rfl) ⟨Nat.le_refl _, Nat.le_refl _⟩ dX4_readLine_62 ?_
            refine r_goto (pc := 65) (tgt := 173) S0 dX4_readLine_65 (by decide) ?_
            have hz := ok_some hf
            refine r_lv [0] rfl ?_
            exact K11 e50 hz
        · refine r_aload_n (pc := 42) S0 0 dX4_readLine_42 rfl rfl ?_
          obtain ⟨e52, h53, hf⟩ := ok_bind hf
          refine r_cV_V (pc := 43) [] S0 hK hX mv_X4_56 (k_X4_readHead h53) (c_X4_readHead l cA D N sx ad T A nx I w0 e52 h53) rfl rfl ⟨by decide, by decide⟩ (Nat.le_of_ble_eq_true rfl) ⟨Nat.le_refl _, Nat.le_refl _⟩ dX4_readLine_43 ?_
          refine r_goto (pc := 46) (tgt := 173) S0 dX4_readLine_46 (by decide) ?_
          have hz := ok_some hf
          refine r_lv [0] rfl ?_
          exact K11 e52 hz
      · refine r_aload_n (pc := 29) S0 0 dX4_readLine_29 rfl rfl ?_
        refine r_iconst (pc := 30) S0 dX4_readLine_30 ?_
        obtain ⟨e54, h55, hf⟩ := ok_bind hf
        refine r_cV_I (pc := 31) [iv 1] S0 hK hX mv_X4_52 (k_X4_blame h55) (c_X4_blame l cA D N sx ad T A nx I w0 1 (cnz 1 rfl) e54 h55) rfl rfl ⟨by decide, by decide⟩ (Nat.le_of_ble_eq_true rfl) ⟨Nat.le_refl _, Nat.le_refl _⟩ dX4_readLine_31 (fun c56 => ?_)
        refine r_pop (pc := 34) S0 dX4_readLine_34 rfl ?_
        refine r_goto (pc := 35) (tgt := 173) S0 dX4_readLine_35 (by decide) ?_
        have hz := ok_some hf
        refine r_lv [0] rfl ?_
        exact K11 e54.2 hz
  · refine r_if_ne (pc := 18) (tgt := 25) S0 dX4_readLine_18 (by decide) c7 hf (fun hf => ?_) (fun hf => ?_)
    · refine r_iconst (pc := 25) S0 dX4_readLine_25 ?_
      have hz := ok_some hf
      refine r_lv [1, 0] rfl ?_
      exact K8 0 hz (cnz 0 rfl)
    · refine r_iconst (pc := 21) S0 dX4_readLine_21 ?_
      refine r_goto (pc := 22) (tgt := 26) S0 dX4_readLine_22 (by decide) ?_
      have hz := ok_some hf
      refine r_lv [1, 0] rfl ?_
      exact K8 1 hz (cnz 1 rfl)

set_option maxHeartbeats 4000000 in
set_option maxRecDepth 100000 in
theorem c_X4_readAll (l : Launch) (cA : Nat → ClassId) (D : va_G) (N : Nat) (sx : Sx) (ad : Nat → Nat) (T : Knd) (A : Rfs) (nx : Nat) (I : Mem) (w0 : Nat)  (e : Mem) (h : f_X4_readAll T A w0 I = some e) : CtV l yX4_readAll cX4_readAll 2 none 9 238 cA D N sx ad T A nx [rv ad w0] I e := by
  refine met_of (lv0 := [(0, rv ad w0)]) (by decide) (Nat.le_of_ble_eq_true rfl) rfl (fun p e0 s m args below meth c S0 hK hX hr hlk Q hQ => ?_)
  have hf : OK (f_X4_readAll T A w0 I) (fun z => z = e) := ⟨e, h, rfl⟩
  unfold f_X4_readAll at hf
  obtain ⟨hw0, hf⟩ := ok_grd hf
  refine r_aload_n (pc := 0) S0 0 dX4_readAll_0 rfl rfl ?_
  refine r_getR (pc := 1) S0 hK fl_X4_12 dX4_readAll_1 hf (fun x1 hf => ?_)
  obtain ⟨e2, h3, hf⟩ := ok_bind hf
  refine r_cV_V (pc := 4) [] S0 hK hX mv_X4_26 (k_X2_clear h3) (c_X2_clear l cA D N sx ad T A nx I x1 e2 h3) rfl rfl ⟨by decide, by decide⟩ (Nat.le_of_ble_eq_true rfl) ⟨Nat.le_refl _, Nat.le_refl _⟩ dX4_readAll_4 ?_
  refine r_aload_n (pc := 7) S0 0 dX4_readAll_7 rfl rfl ?_
  refine r_iconst (pc := 8) S0 dX4_readAll_8 ?_
  refine r_putI (pc := 9) S0 hK fl_X4_29 rfl rfl (cnz 0 rfl) dX4_readAll_9 hf (fun I4 hf => ?_)
  refine r_aload_n (pc := 12) S0 0 dX4_readAll_12 rfl rfl ?_
  refine r_iconst (pc := 13) S0 dX4_readAll_13 ?_
  refine r_putI (pc := 14) S0 hK fl_X4_18 rfl rfl (cnz (-1) rfl) dX4_readAll_14 hf (fun I5 hf => ?_)
  refine r_aload_n (pc := 17) S0 0 dX4_readAll_17 rfl rfl ?_
  refine r_getR (pc := 18) S0 hK fl_X4_22 dX4_readAll_18 hf (fun x6 hf => ?_)
  obtain ⟨e7, h8, hf⟩ := ok_bind hf
  refine r_cV_V (pc := 21) [] S0 hK hX mv_X4_32 (k_X8_rewind h8) (c_X8_rewind l cA D N sx ad T A nx I5 x6 e7 h8) rfl rfl ⟨by decide, by decide⟩ (Nat.le_of_ble_eq_true rfl) ⟨Nat.le_refl _, Nat.le_refl _⟩ dX4_readAll_21 ?_
  refine r_iconst (pc := 24) S0 dX4_readAll_24 ?_
  refine r_istore_n (pc := 25) (lv' := [(1, iv 0), (0, rv ad w0)]) S0 dX4_readAll_25 rfl (by decide) rfl ?_
  refine r_lv [1, 0] rfl ?_
  refine it_ind (P := fun s10 => cn s10.1 → G p l e0 (rmx 9 238) s m args below meth c 0 0 Q cA D N 2 ad T A nx 26 [(0, rv ad w0), (1, iv s10.1)] [] s10.2) (fun n0 s10 ih9 hf c11 => ?_) FU (0, e7) hf (cnz 0 rfl)
  refine r_iload_n (pc := 26) S0 1 dX4_readAll_26 rfl rfl ?_
  refine r_sipush (pc := 27) S0 dX4_readAll_27 (by decide) ?_
  refine r_icmp_ge (pc := 30) (tgt := 60) S0 dX4_readAll_30 (by decide) c11 (cnz 1600 rfl) hf (fun hf => ?_) (fun hf => ?_)
  · have hz := ok_some hf
    have hz : s10.2 = e := hz
    subst hQ
    subst hz
    exact r_vret (pc := 60) S0 hr hlk dX4_readAll_60
  · refine r_aload_n (pc := 33) S0 0 dX4_readAll_33 rfl rfl ?_
    refine r_getI (pc := 34) S0 hK fl_X4_29 dX4_readAll_34 hf (fun x12 c13 hf => ?_)
    refine r_if_ne (pc := 37) (tgt := 60) S0 dX4_readAll_37 (by decide) c13 hf (fun hf => ?_) (fun hf => ?_)
    · have hz := ok_some hf
      have hz : s10.2 = e := hz
      subst hQ
      subst hz
      exact r_vret (pc := 60) S0 hr hlk dX4_readAll_60
    · refine r_aload_n (pc := 40) S0 0 dX4_readAll_40 rfl rfl ?_
      refine r_getR (pc := 41) S0 hK fl_X4_22 dX4_readAll_41 hf (fun x14 hf => ?_)
      refine r_getI (pc := 44) S0 hK fl_X4_37 dX4_readAll_44 hf (fun x15 c16 hf => ?_)
      refine r_if_eq (pc := 47) (tgt := 60) S0 dX4_readAll_47 (by decide) c16 hf (fun hf => ?_) (fun hf => ?_)
      · have hz := ok_some hf
        have hz : s10.2 = e := hz
        subst hQ
        subst hz
        exact r_vret (pc := 60) S0 hr hlk dX4_readAll_60
      · refine r_aload_n (pc := 50) S0 0 dX4_readAll_50 rfl rfl ?_
        obtain ⟨e17, h18, hf⟩ := ok_bind hf
        refine r_cV_V (pc := 51) [] S0 hK hX mv_X4_40 (k_X4_readLine h18) (c_X4_readLine l cA D N sx ad T A nx s10.2 w0 e17 h18) rfl rfl ⟨by decide, by decide⟩ (Nat.le_of_ble_eq_true rfl) ⟨Nat.le_refl _, Nat.le_refl _⟩ dX4_readAll_51 ?_
        refine r_iinc (pc := 54) (lv' := [(1, iv (ia s10.1 1)), (0, rv ad w0)]) S0 1 dX4_readAll_54 rfl (by decide) rfl ?_
        refine r_goto (pc := 57) (tgt := 26) S0 dX4_readAll_57 (by decide) ?_
        have hz := ok_some hf
        refine r_lv [1, 0] rfl ?_
        exact ih9 (ia s10.1 1, e17) hz (cn_wrap _)

set_option maxHeartbeats 4000000 in
set_option maxRecDepth 100000 in
theorem c_X11_office (l : Launch) (cA : Nat → ClassId) (D : va_G) (N : Nat) (sx : Sx) (ad : Nat → Nat) (T : Knd) (A : Rfs) (nx : Nat) (I : Mem) (w0 : Nat)  (e : (Int × Mem)) (h : f_X11_office T A w0 I = some e) : CtI l yX11_office cX11_office 1 (some .int) 10 259 cA D N sx ad T A nx [rv ad w0] I e.2 e.1 := by
  refine met_of (lv0 := [(0, rv ad w0)]) (by decide) (Nat.le_of_ble_eq_true rfl) rfl (fun p e0 s m args below meth c S0 hK hX hr hlk Q hQ => ?_)
  have hf : OK (f_X11_office T A w0 I) (fun z => z = e) := ⟨e, h, rfl⟩
  unfold f_X11_office at hf
  obtain ⟨hw0, hf⟩ := ok_grd hf
  refine r_aload_n (pc := 0) S0 0 dX11_office_0 rfl rfl ?_
  refine r_getR (pc := 1) S0 hK fl_X11_21 dX11_office_1 hf (fun x1 hf => ?_)
  obtain ⟨e2, h3, hf⟩ := ok_bind hf
  refine r_cV_V (pc := 4) [] S0 hK hX mv_X11_113 (k_X4_readAll h3) (c_X4_readAll l cA D N sx ad T A nx I x1 e2 h3) rfl rfl ⟨by decide, by decide⟩ (Nat.le_of_ble_eq_true rfl) ⟨Nat.le_refl _, Nat.le_refl _⟩ dX11_office_4 ?_
  refine r_aload_n (pc := 7) S0 0 dX11_office_7 rfl rfl ?_
  refine r_getR (pc := 8) S0 hK fl_X11_10 dX11_office_8 hf (fun x4 hf => ?_)
  refine r_iconst (pc := 11) S0 dX11_office_11 ?_
  refine r_putI (pc := 12) S0 hK fl_X11_105 rfl rfl (cnz 0 rfl) dX11_office_12 hf (fun I5 hf => ?_)
  refine r_aload_n (pc := 15) S0 0 dX11_office_15 rfl rfl ?_
  refine r_getR (pc := 16) S0 hK fl_X11_21 dX11_office_16 hf (fun x6 hf => ?_)
  refine r_getI (pc := 19) S0 hK fl_X11_116 dX11_office_19 hf (fun x7 c8 hf => ?_)
  refine r_if_eq (pc := 22) (tgt := 28) S0 dX11_office_22 (by decide) c8 hf (fun hf => ?_) (fun hf => ?_)
  · refine r_aload_n (pc := 28) S0 0 dX11_office_28 rfl rfl ?_
    refine r_getR (pc := 29) S0 hK fl_X11_28 dX11_office_29 hf (fun x9 hf => ?_)
    refine r_aload_n (pc := 32) S0 0 dX11_office_32 rfl rfl ?_
    refine r_getR (pc := 33) S0 hK fl_X11_21 dX11_office_33 hf (fun x10 hf => ?_)
    refine r_getR (pc := 36) S0 hK fl_X11_119 dX11_office_36 hf (fun x11 hf => ?_)
    obtain ⟨e12, h13, hf⟩ := ok_bind hf
    refine r_cV_V (pc := 39) [rv ad x11] S0 hK hX mv_X11_120 (k_X2_copyFrom h13) (c_X2_copyFrom l cA D N sx ad T A nx I5 x9 x11 e12 h13) rfl rfl ⟨by decide, by decide⟩ (Nat.le_of_ble_eq_true rfl) ⟨Nat.le_refl _, Nat.le_refl _⟩ dX11_office_39 ?_
    refine r_aload_n (pc := 42) S0 0 dX11_office_42 rfl rfl ?_
    obtain ⟨e14, h15, hf⟩ := ok_bind hf
    refine r_cV_V (pc := 43) [] S0 hK hX mv_X11_124 (k_X11_planChanged h15) (c_X11_planChanged l cA D N sx ad T A nx e12 w0 e14 h15) rfl rfl ⟨by decide, by decide⟩ (Nat.le_of_ble_eq_true rfl) ⟨Nat.le_refl _, Nat.le_refl _⟩ dX11_office_43 ?_
    refine r_aload_n (pc := 46) S0 0 dX11_office_46 rfl rfl ?_
    refine r_getR (pc := 47) S0 hK fl_X11_28 dX11_office_47 hf (fun x16 hf => ?_)
    refine r_getI (pc := 50) S0 hK fl_X11_127 dX11_office_50 hf (fun x17 c18 hf => ?_)
    have hz := ok_some hf
    have hz : (x17, e14) = e := hz
    subst hQ
    subst hz
    exact r_iret (pc := 53) S0 hr hlk c18 dX11_office_53
  · refine r_bipush (pc := 25) S0 dX11_office_25 (by decide) ?_
    have hz := ok_some hf
    have hz : ((-4), I5) = e := hz
    subst hQ
    subst hz
    exact r_iret (pc := 27) S0 hr hlk (cnz (-4) rfl) dX11_office_27
