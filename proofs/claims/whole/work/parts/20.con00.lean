/-! Contracts, laid by wip/gen/gen.py. -/
set_option maxHeartbeats 4000000 in
set_option maxRecDepth 100000 in
theorem c_J7_fill_53178 (l : Launch) (cA : Nat → ClassId) (D : va_G) (N : Nat) (sx : Sx) (ad : Nat → Nat) (T : Knd) (A : Rfs) (nx : Nat) (I : Mem) (w0 : Nat) (a1 : Int) (ca1 : cn a1) (e : Mem) (h : f_J7_fill_53178 T A w0 a1 I = some e) : CtV l yJ7_fill_53178 cJ7_fill_53178 4 none 1 60 cA D N sx ad T A nx [rv ad w0, iv a1] I e := by
  refine met_of (lv0 := [(0, rv ad w0), (1, iv a1)]) (by decide) (Nat.le_of_ble_eq_true rfl) rfl (fun p e0 s m args below meth c S0 hK hX hr hlk Q hQ => ?_)
  have hf : OK (f_J7_fill_53178 T A w0 a1 I) (fun z => z = e) := ⟨e, h, rfl⟩
  unfold f_J7_fill_53178 at hf
  refine r_iconst (pc := 0) S0 dJ7_fill_53178_0 ?_
  refine r_istore_n (pc := 1) (lv' := [(2, iv 0), (0, rv ad w0), (1, iv a1)]) S0 dJ7_fill_53178_1 rfl (by decide) rfl ?_
  refine r_aload_n (pc := 2) S0 1 dJ7_fill_53178_2 rfl rfl ?_
  refine r_aln 20 0 (pc := 3) S0 hK (by decide) rfl dJ7_fill_53178_3 hf (fun x1 c2 hf => ?_)
  refine r_istore_n (pc := 4) (lv' := [(3, iv x1), (2, iv 0), (0, rv ad w0), (1, iv a1)]) S0 dJ7_fill_53178_4 rfl (by decide) rfl ?_
  refine r_lv [2, 3, 1, 0] rfl ?_
  refine it_ind (P := fun s4 => cn s4.1 → G p l e0 (rmx 1 60) s m args below meth c 0 0 Q cA D N 4 ad T A nx 5 [(0, rv ad w0), (1, iv a1), (2, iv s4.1), (3, iv x1)] [] s4.2) (fun n0 s4 ih3 hf c5 => ?_) FU (0, I) hf (cnz 0 rfl)
  refine r_iload_n (pc := 5) S0 2 dJ7_fill_53178_5 rfl rfl ?_
  refine r_iload_n (pc := 6) S0 3 dJ7_fill_53178_6 rfl rfl ?_
  refine r_icmp_ge (pc := 7) (tgt := 20) S0 dJ7_fill_53178_7 (by decide) c5 c2 hf (fun hf => ?_) (fun hf => ?_)
  · have hz := ok_some hf
    have hz : s4.2 = e := hz
    subst hQ
    subst hz
    exact r_vret (pc := 20) S0 hr hlk dJ7_fill_53178_20
  · refine r_aload_n (pc := 10) S0 0 dJ7_fill_53178_10 rfl rfl ?_
    refine r_iload_n (pc := 11) S0 2 dJ7_fill_53178_11 rfl rfl ?_
    refine r_iload_n (pc := 12) S0 1 dJ7_fill_53178_12 rfl rfl ?_
    refine r_iast (pc := 13) S0 hK dJ7_fill_53178_13 c5 ca1 hf (fun I6 hf => ?_)
    refine r_iinc (pc := 14) (lv' := [(2, iv (ia s4.1 1)), (0, rv ad w0), (1, iv a1), (3, iv x1)]) S0 2 dJ7_fill_53178_14 rfl (by decide) rfl ?_
    refine r_goto (pc := 17) (tgt := 5) S0 dJ7_fill_53178_17 (by decide) ?_
    have hz := ok_some hf
    refine r_lv [1, 2, 0, 3] rfl ?_
    exact ih3 (ia s4.1 1, I6) hz (cn_wrap _)

set_option maxHeartbeats 4000000 in
set_option maxRecDepth 100000 in
theorem c_X8_put (l : Launch) (cA : Nat → ClassId) (D : va_G) (N : Nat) (sx : Sx) (ad : Nat → Nat) (T : Knd) (A : Rfs) (nx : Nat) (I : Mem) (w0 : Nat) (a1 : Int) (ca1 : cn a1) (e : Mem) (h : f_X8_put T A w0 a1 I = some e) : CtV l yX8_put cX8_put 3 none 1 60 cA D N sx ad T A nx [rv ad w0, iv a1] I e := by
  refine met_of (lv0 := [(0, rv ad w0), (1, iv a1)]) (by decide) (Nat.le_of_ble_eq_true rfl) rfl (fun p e0 s m args below meth c S0 hK hX hr hlk Q hQ => ?_)
  have hf : OK (f_X8_put T A w0 a1 I) (fun z => z = e) := ⟨e, h, rfl⟩
  unfold f_X8_put at hf
  obtain ⟨hw0, hf⟩ := ok_grd hf
  refine r_bipush (pc := 0) S0 dX8_put_0 (by decide) ?_
  refine r_istore_n (pc := 2) (lv' := [(2, iv 24), (0, rv ad w0), (1, iv a1)]) S0 dX8_put_2 rfl (by decide) rfl ?_
  refine r_lv [1, 2, 0] rfl ?_
  refine it_ind (P := fun s2 => cn s2.1 → G p l e0 (rmx 1 60) s m args below meth c 0 0 Q cA D N 3 ad T A nx 3 [(0, rv ad w0), (1, iv a1), (2, iv s2.1)] [] s2.2) (fun n0 s2 ih1 hf c3 => ?_) FU (24, I) hf (cnz 24 rfl)
  refine r_iload_n (pc := 3) S0 2 dX8_put_3 rfl rfl ?_
  refine r_if_lt (pc := 4) (tgt := 48) S0 dX8_put_4 (by decide) c3 hf (fun hf => ?_) (fun hf => ?_)
  · have hz := ok_some hf
    have hz : s2.2 = e := hz
    subst hQ
    subst hz
    exact r_vret (pc := 48) S0 hr hlk dX8_put_48
  · refine r_aload_n (pc := 7) S0 0 dX8_put_7 rfl rfl ?_
    refine r_getI (pc := 8) S0 hK fl_X8_15 dX8_put_8 hf (fun x4 c5 hf => ?_)
    refine r_aload_n (pc := 11) S0 0 dX8_put_11 rfl rfl ?_
    refine r_getR (pc := 12) S0 hK fl_X8_9 dX8_put_12 hf (fun x6 hf => ?_)
    refine r_aln 22 2 (pc := 15) S0 hK (by decide) rfl dX8_put_15 hf (fun x7 c8 hf => ?_)
    refine r_icmp_ge (pc := 16) (tgt := 42) S0 dX8_put_16 (by decide) c5 c8 hf (fun hf => ?_) (fun hf => ?_)
    · refine r_iinc (pc := 42) (lv' := [(2, iv (ia s2.1 (-8))), (0, rv ad w0), (1, iv a1)]) S0 2 dX8_put_42 rfl (by decide) rfl ?_
      refine r_goto (pc := 45) (tgt := 3) S0 dX8_put_45 (by decide) ?_
      have hz := ok_some hf
      refine r_lv [1, 2, 0] rfl ?_
      exact ih1 (ia s2.1 (-8), s2.2) hz (cn_wrap _)
    · refine r_aload_n (pc := 19) S0 0 dX8_put_19 rfl rfl ?_
      refine r_getR (pc := 20) S0 hK fl_X8_9 dX8_put_20 hf (fun x9 hf => ?_)
      refine r_aload_n (pc := 23) S0 0 dX8_put_23 rfl rfl ?_
      refine r_getI (pc := 24) S0 hK fl_X8_15 dX8_put_24 hf (fun x10 c11 hf => ?_)
      refine r_iload_n (pc := 27) S0 1 dX8_put_27 rfl rfl ?_
      refine r_iload_n (pc := 28) S0 2 dX8_put_28 rfl rfl ?_
      refine r_ishr (pc := 29) S0 dX8_put_29 ?_
      refine r_i2b (pc := 30) S0 dX8_put_30 ?_
      refine r_bast (pc := 31) S0 hK dX8_put_31 c11 (cn_toInt _) hf (fun I12 hf => ?_)
      refine r_aload_n (pc := 32) S0 0 dX8_put_32 rfl rfl ?_
      refine r_dup (pc := 33) S0 dX8_put_33 rfl ?_
      refine r_getI (pc := 34) S0 hK fl_X8_15 dX8_put_34 hf (fun x13 c14 hf => ?_)
      refine r_iconst (pc := 37) S0 dX8_put_37 ?_
      refine r_iadd (pc := 38) S0 dX8_put_38 ?_
      refine r_putI (pc := 39) S0 hK fl_X8_15 rfl rfl (cn_wrap _) dX8_put_39 hf (fun I15 hf => ?_)
      refine r_iinc (pc := 42) (lv' := [(2, iv (ia s2.1 (-8))), (0, rv ad w0), (1, iv a1)]) S0 2 dX8_put_42 rfl (by decide) rfl ?_
      refine r_goto (pc := 45) (tgt := 3) S0 dX8_put_45 (by decide) ?_
      have hz := ok_some hf
      refine r_lv [1, 2, 0] rfl ?_
      exact ih1 (ia s2.1 (-8), I15) hz (cn_wrap _)

set_option maxHeartbeats 4000000 in
set_option maxRecDepth 100000 in
theorem c_X11_feed (l : Launch) (cA : Nat → ClassId) (D : va_G) (N : Nat) (sx : Sx) (ad : Nat → Nat) (T : Knd) (A : Rfs) (nx : Nat) (I : Mem) (w0 : Nat) (a1 : Int) (a2 : Int) (a3 : Int) (a4 : Int) (a5 : Int) (ca1 : cn a1) (ca2 : cn a2) (ca3 : cn a3) (ca4 : cn a4) (ca5 : cn a5) (e : (Int × Mem)) (h : f_X11_feed T A w0 a1 a2 a3 a4 a5 I = some e) : CtI l yX11_feed cX11_feed 6 (some .int) 2 82 cA D N sx ad T A nx [rv ad w0, iv a1, iv a2, iv a3, iv a4, iv a5] I e.2 e.1 := by
  refine met_of (lv0 := [(0, rv ad w0), (1, iv a1), (2, iv a2), (3, iv a3), (4, iv a4), (5, iv a5)]) (by decide) (Nat.le_of_ble_eq_true rfl) rfl (fun p e0 s m args below meth c S0 hK hX hr hlk Q hQ => ?_)
  have hf : OK (f_X11_feed T A w0 a1 a2 a3 a4 a5 I) (fun z => z = e) := ⟨e, h, rfl⟩
  unfold f_X11_feed at hf
  obtain ⟨hw0, hf⟩ := ok_grd hf
  refine r_aload_n (pc := 0) S0 0 dX11_feed_0 rfl rfl ?_
  refine r_getR (pc := 1) S0 hK fl_X11_10 dX11_feed_1 hf (fun x1 hf => ?_)
  refine r_getI (pc := 4) S0 hK fl_X11_105 dX11_feed_4 hf (fun x2 c3 hf => ?_)
  refine r_sipush (pc := 7) S0 dX11_feed_7 (by decide) ?_
  refine r_icmp_le (pc := 10) (tgt := 15) S0 dX11_feed_10 (by decide) c3 (cnz 1580 rfl) hf (fun hf => ?_) (fun hf => ?_)
  · refine r_aload_n (pc := 15) S0 0 dX11_feed_15 rfl rfl ?_
    refine r_getR (pc := 16) S0 hK fl_X11_10 dX11_feed_16 hf (fun x4 hf => ?_)
    refine r_iload_n (pc := 19) S0 1 dX11_feed_19 rfl rfl ?_
    obtain ⟨e5, h6, hf⟩ := ok_bind hf
    refine r_cV_V (pc := 20) [iv a1] S0 hK hX mv_X11_109 (k_X8_put h6) (c_X8_put l cA D N sx ad T A nx I x4 a1 ca1 e5 h6) rfl rfl ⟨by decide, by decide⟩ (Nat.le_of_ble_eq_true rfl) ⟨Nat.le_refl _, Nat.le_refl _⟩ dX11_feed_20 ?_
    refine r_aload_n (pc := 23) S0 0 dX11_feed_23 rfl rfl ?_
    refine r_getR (pc := 24) S0 hK fl_X11_10 dX11_feed_24 hf (fun x7 hf => ?_)
    refine r_iload_n (pc := 27) S0 2 dX11_feed_27 rfl rfl ?_
    obtain ⟨e8, h9, hf⟩ := ok_bind hf
    refine r_cV_V (pc := 28) [iv a2] S0 hK hX mv_X11_109 (k_X8_put h9) (c_X8_put l cA D N sx ad T A nx e5 x7 a2 ca2 e8 h9) rfl rfl ⟨by decide, by decide⟩ (Nat.le_of_ble_eq_true rfl) ⟨Nat.le_refl _, Nat.le_refl _⟩ dX11_feed_28 ?_
    refine r_aload_n (pc := 31) S0 0 dX11_feed_31 rfl rfl ?_
    refine r_getR (pc := 32) S0 hK fl_X11_10 dX11_feed_32 hf (fun x10 hf => ?_)
    refine r_iload_n (pc := 35) S0 3 dX11_feed_35 rfl rfl ?_
    obtain ⟨e11, h12, hf⟩ := ok_bind hf
    refine r_cV_V (pc := 36) [iv a3] S0 hK hX mv_X11_109 (k_X8_put h12) (c_X8_put l cA D N sx ad T A nx e8 x10 a3 ca3 e11 h12) rfl rfl ⟨by decide, by decide⟩ (Nat.le_of_ble_eq_true rfl) ⟨Nat.le_refl _, Nat.le_refl _⟩ dX11_feed_36 ?_
    refine r_aload_n (pc := 39) S0 0 dX11_feed_39 rfl rfl ?_
    refine r_getR (pc := 40) S0 hK fl_X11_10 dX11_feed_40 hf (fun x13 hf => ?_)
    refine r_iload (pc := 43) S0 4 dX11_feed_43 rfl ?_
    obtain ⟨e14, h15, hf⟩ := ok_bind hf
    refine r_cV_V (pc := 45) [iv a4] S0 hK hX mv_X11_109 (k_X8_put h15) (c_X8_put l cA D N sx ad T A nx e11 x13 a4 ca4 e14 h15) rfl rfl ⟨by decide, by decide⟩ (Nat.le_of_ble_eq_true rfl) ⟨Nat.le_refl _, Nat.le_refl _⟩ dX11_feed_45 ?_
    refine r_aload_n (pc := 48) S0 0 dX11_feed_48 rfl rfl ?_
    refine r_getR (pc := 49) S0 hK fl_X11_10 dX11_feed_49 hf (fun x16 hf => ?_)
    refine r_iload (pc := 52) S0 5 dX11_feed_52 rfl ?_
    obtain ⟨e17, h18, hf⟩ := ok_bind hf
    refine r_cV_V (pc := 54) [iv a5] S0 hK hX mv_X11_109 (k_X8_put h18) (c_X8_put l cA D N sx ad T A nx e14 x16 a5 ca5 e17 h18) rfl rfl ⟨by decide, by decide⟩ (Nat.le_of_ble_eq_true rfl) ⟨Nat.le_refl _, Nat.le_refl _⟩ dX11_feed_54 ?_
    refine r_aload_n (pc := 57) S0 0 dX11_feed_57 rfl rfl ?_
    refine r_getR (pc := 58) S0 hK fl_X11_10 dX11_feed_58 hf (fun x19 hf => ?_)
    refine r_getI (pc := 61) S0 hK fl_X11_105 dX11_feed_61 hf (fun x20 c21 hf => ?_)
    have hz := ok_some hf
    have hz : (x20, e17) = e := hz
    subst hQ
    subst hz
    exact r_iret (pc := 64) S0 hr hlk c21 dX11_feed_64
  · refine r_iconst (pc := 13) S0 dX11_feed_13 ?_
    have hz := ok_some hf
    have hz : ((-1), I) = e := hz
    subst hQ
    subst hz
    exact r_iret (pc := 14) S0 hr hlk (cnz (-1) rfl) dX11_feed_14

set_option maxHeartbeats 4000000 in
set_option maxRecDepth 100000 in
theorem c_X11_end (l : Launch) (cA : Nat → ClassId) (D : va_G) (N : Nat) (sx : Sx) (ad : Nat → Nat) (T : Knd) (A : Rfs) (nx : Nat) (I : Mem) (w0 : Nat) (a1 : Int) (ca1 : cn a1) (e : (Int × Mem)) (h : f_X11_end T A w0 a1 I = some e) : CtI l yX11_end cX11_end 2 (some .int) 1 60 cA D N sx ad T A nx [rv ad w0, iv a1] I e.2 e.1 := by
  refine met_of (lv0 := [(0, rv ad w0), (1, iv a1)]) (by decide) (Nat.le_of_ble_eq_true rfl) rfl (fun p e0 s m args below meth c S0 hK hX hr hlk Q hQ => ?_)
  have hf : OK (f_X11_end T A w0 a1 I) (fun z => z = e) := ⟨e, h, rfl⟩
  unfold f_X11_end at hf
  obtain ⟨hw0, hf⟩ := ok_grd hf
  refine r_iload_n (pc := 0) S0 1 dX11_end_0 rfl rfl ?_
  refine r_if_lt (pc := 1) (tgt := 15) S0 dX11_end_1 (by decide) ca1 hf (fun hf => ?_) (fun hf => ?_)
  · refine r_iconst (pc := 15) S0 dX11_end_15 ?_
    have hz := ok_some hf
    have hz : ((-1), I) = e := hz
    subst hQ
    subst hz
    exact r_iret (pc := 16) S0 hr hlk (cnz (-1) rfl) dX11_end_16
  · refine r_iload_n (pc := 4) S0 1 dX11_end_4 rfl rfl ?_
    refine r_aload_n (pc := 5) S0 0 dX11_end_5 rfl rfl ?_
    refine r_getR (pc := 6) S0 hK fl_X11_10 dX11_end_6 hf (fun x1 hf => ?_)
    refine r_getI (pc := 9) S0 hK fl_X11_105 dX11_end_9 hf (fun x2 c3 hf => ?_)
    refine r_icmp_le (pc := 12) (tgt := 17) S0 dX11_end_12 (by decide) ca1 c3 hf (fun hf => ?_) (fun hf => ?_)
    · refine r_aload_n (pc := 17) S0 0 dX11_end_17 rfl rfl ?_
      refine r_getR (pc := 18) S0 hK fl_X11_10 dX11_end_18 hf (fun x4 hf => ?_)
      refine r_iload_n (pc := 21) S0 1 dX11_end_21 rfl rfl ?_
      refine r_putI (pc := 22) S0 hK fl_X11_105 rfl rfl ca1 dX11_end_22 hf (fun I5 hf => ?_)
      refine r_iload_n (pc := 25) S0 1 dX11_end_25 rfl rfl ?_
      have hz := ok_some hf
      have hz : (a1, I5) = e := hz
      subst hQ
      subst hz
      exact r_iret (pc := 26) S0 hr hlk ca1 dX11_end_26
    · refine r_iconst (pc := 15) S0 dX11_end_15 ?_
      have hz := ok_some hf
      have hz : ((-1), I) = e := hz
      subst hQ
      subst hz
      exact r_iret (pc := 16) S0 hr hlk (cnz (-1) rfl) dX11_end_16

set_option maxHeartbeats 4000000 in
set_option maxRecDepth 100000 in
theorem c_X2_clear (l : Launch) (cA : Nat → ClassId) (D : va_G) (N : Nat) (sx : Sx) (ad : Nat → Nat) (T : Knd) (A : Rfs) (nx : Nat) (I : Mem) (w0 : Nat)  (e : Mem) (h : f_X2_clear T A w0 I = some e) : CtV l yX2_clear cX2_clear 2 none 2 83 cA D N sx ad T A nx [rv ad w0] I e := by
  refine met_of (lv0 := [(0, rv ad w0)]) (by decide) (Nat.le_of_ble_eq_true rfl) rfl (fun p e0 s m args below meth c S0 hK hX hr hlk Q hQ => ?_)
  have hf : OK (f_X2_clear T A w0 I) (fun z => z = e) := ⟨e, h, rfl⟩
  unfold f_X2_clear at hf
  obtain ⟨hw0, hf⟩ := ok_grd hf
  refine r_aload_n (pc := 0) S0 0 dX2_clear_0 rfl rfl ?_
  refine r_iconst (pc := 1) S0 dX2_clear_1 ?_
  refine r_putI (pc := 2) S0 hK fl_X2_23 rfl rfl (cnz 0 rfl) dX2_clear_2 hf (fun I1 hf => ?_)
  refine r_aload_n (pc := 5) S0 0 dX2_clear_5 rfl rfl ?_
  refine r_iconst (pc := 6) S0 dX2_clear_6 ?_
  refine r_putI (pc := 7) S0 hK fl_X2_27 rfl rfl (cnz 0 rfl) dX2_clear_7 hf (fun I2 hf => ?_)
  refine r_aload_n (pc := 10) S0 0 dX2_clear_10 rfl rfl ?_
  refine r_iconst (pc := 11) S0 dX2_clear_11 ?_
  refine r_putI (pc := 12) S0 hK fl_X2_30 rfl rfl (cnz 0 rfl) dX2_clear_12 hf (fun I3 hf => ?_)
  refine r_aload_n (pc := 15) S0 0 dX2_clear_15 rfl rfl ?_
  refine r_iconst (pc := 16) S0 dX2_clear_16 ?_
  refine r_putI (pc := 17) S0 hK fl_X2_33 rfl rfl (cnz 0 rfl) dX2_clear_17 hf (fun I4 hf => ?_)
  refine r_aload_n (pc := 20) S0 0 dX2_clear_20 rfl rfl ?_
  refine r_iconst (pc := 21) S0 dX2_clear_21 ?_
  refine r_putI (pc := 22) S0 hK fl_X2_36 rfl rfl (cnz 0 rfl) dX2_clear_22 hf (fun I5 hf => ?_)
  refine r_aload_n (pc := 25) S0 0 dX2_clear_25 rfl rfl ?_
  refine r_iconst (pc := 26) S0 dX2_clear_26 ?_
  refine r_putI (pc := 27) S0 hK fl_X2_39 rfl rfl (cnz 0 rfl) dX2_clear_27 hf (fun I6 hf => ?_)
  refine r_aload_n (pc := 30) S0 0 dX2_clear_30 rfl rfl ?_
  refine r_iconst (pc := 31) S0 dX2_clear_31 ?_
  refine r_putI (pc := 32) S0 hK fl_X2_42 rfl rfl (cnz 0 rfl) dX2_clear_32 hf (fun I7 hf => ?_)
  refine r_iconst (pc := 35) S0 dX2_clear_35 ?_
  refine r_istore_n (pc := 36) (lv' := [(1, iv 0), (0, rv ad w0)]) S0 dX2_clear_36 rfl (by decide) rfl ?_
  refine thn_rule (P := fun v9 => G p l e0 (rmx 2 83) s m args below meth c 0 0 Q cA D N 2 ad T A nx 59 [(0, rv ad w0)] [] v9) hf (fun v9 hf => ?_) (fun K8 hf => ?_)
  · refine r_iconst (pc := 59) S0 dX2_clear_59 ?_
    refine r_istore_n (pc := 60) (lv' := [(1, iv 0), (0, rv ad w0)]) S0 dX2_clear_60 rfl (by decide) rfl ?_
    refine r_lv [1, 0] rfl ?_
    refine it_ind (P := fun s18 => cn s18.1 → G p l e0 (rmx 2 83) s m args below meth c 0 0 Q cA D N 2 ad T A nx 61 [(0, rv ad w0), (1, iv s18.1)] [] s18.2) (fun n0 s18 ih17 hf c19 => ?_) FU (0, v9) hf (cnz 0 rfl)
    refine r_iload_n (pc := 61) S0 1 dX2_clear_61 rfl rfl ?_
    refine r_bipush (pc := 62) S0 dX2_clear_62 (by decide) ?_
    refine r_icmp_ge (pc := 64) (tgt := 83) S0 dX2_clear_64 (by decide) c19 (cnz 6 rfl) hf (fun hf => ?_) (fun hf => ?_)
    · have hz := ok_some hf
      have hz : s18.2 = e := hz
      subst hQ
      subst hz
      exact r_vret (pc := 83) S0 hr hlk dX2_clear_83
    · refine r_aload_n (pc := 67) S0 0 dX2_clear_67 rfl rfl ?_
      refine r_getR (pc := 68) S0 hK fl_X2_20 dX2_clear_68 hf (fun x20 hf => ?_)
      refine r_iload_n (pc := 71) S0 1 dX2_clear_71 rfl rfl ?_
      refine r_aald 24 4 (pc := 72) S0 hK (by decide) rfl rfl dX2_clear_72 c19 hf (fun x21 hf => ?_)
      refine r_iconst (pc := 73) S0 dX2_clear_73 ?_
      obtain ⟨e22, h23, hf⟩ := ok_bind hf
      refine r_cS_V (pc := 74) [rv ad x21, iv 0] S0 hK hX ms_X2_45 (c_J7_fill_53178 l cA D N sx ad T A nx s18.2 x21 0 (cnz 0 rfl) e22 h23) rfl rfl ⟨by decide, by decide⟩ (Nat.le_of_ble_eq_true rfl) ⟨Nat.le_refl _, Nat.le_refl _⟩ dX2_clear_74 ?_
      refine r_iinc (pc := 77) (lv' := [(1, iv (ia s18.1 1)), (0, rv ad w0)]) S0 1 dX2_clear_77 rfl (by decide) rfl ?_
      refine r_goto (pc := 80) (tgt := 61) S0 dX2_clear_80 (by decide) ?_
      have hz := ok_some hf
      refine r_lv [1, 0] rfl ?_
      exact ih17 (ia s18.1 1, e22) hz (cn_wrap _)
  · refine r_lv [1, 0] rfl ?_
    refine it_ind (P := fun s11 => cn s11.1 → G p l e0 (rmx 2 83) s m args below meth c 0 0 Q cA D N 2 ad T A nx 37 [(0, rv ad w0), (1, iv s11.1)] [] s11.2) (fun n0 s11 ih10 hf c12 => ?_) FU (0, I7) hf (cnz 0 rfl)
    refine r_iload_n (pc := 37) S0 1 dX2_clear_37 rfl rfl ?_
    refine r_bipush (pc := 38) S0 dX2_clear_38 (by decide) ?_
    refine r_icmp_ge (pc := 40) (tgt := 59) S0 dX2_clear_40 (by decide) c12 (cnz 11 rfl) hf (fun hf => ?_) (fun hf => ?_)
    · have hz := ok_some hf
      refine r_lv [0] rfl ?_
      exact K8 s11.2 hz
    · refine r_aload_n (pc := 43) S0 0 dX2_clear_43 rfl rfl ?_
      refine r_getR (pc := 44) S0 hK fl_X2_17 dX2_clear_44 hf (fun x13 hf => ?_)
      refine r_iload_n (pc := 47) S0 1 dX2_clear_47 rfl rfl ?_
      refine r_aald 24 4 (pc := 48) S0 hK (by decide) rfl rfl dX2_clear_48 c12 hf (fun x14 hf => ?_)
      refine r_iconst (pc := 49) S0 dX2_clear_49 ?_
      obtain ⟨e15, h16, hf⟩ := ok_bind hf
      refine r_cS_V (pc := 50) [rv ad x14, iv 0] S0 hK hX ms_X2_45 (c_J7_fill_53178 l cA D N sx ad T A nx s11.2 x14 0 (cnz 0 rfl) e15 h16) rfl rfl ⟨by decide, by decide⟩ (Nat.le_of_ble_eq_true rfl) ⟨Nat.le_refl _, Nat.le_refl _⟩ dX2_clear_50 ?_
      refine r_iinc (pc := 53) (lv' := [(1, iv (ia s11.1 1)), (0, rv ad w0)]) S0 1 dX2_clear_53 rfl (by decide) rfl ?_
      refine r_goto (pc := 56) (tgt := 37) S0 dX2_clear_56 (by decide) ?_
      have hz := ok_some hf
      refine r_lv [1, 0] rfl ?_
      exact ih10 (ia s11.1 1, e15) hz (cn_wrap _)

set_option maxHeartbeats 4000000 in
set_option maxRecDepth 100000 in
theorem c_X8_advance (l : Launch) (cA : Nat → ClassId) (D : va_G) (N : Nat) (sx : Sx) (ad : Nat → Nat) (T : Knd) (A : Rfs) (nx : Nat) (I : Mem) (w0 : Nat)  (e : Mem) (h : f_X8_advance T A w0 I = some e) : CtV l yX8_advance cX8_advance 1 none 2 81 cA D N sx ad T A nx [rv ad w0] I e := by
  refine met_of (lv0 := [(0, rv ad w0)]) (by decide) (Nat.le_of_ble_eq_true rfl) rfl (fun p e0 s m args below meth c S0 hK hX hr hlk Q hQ => ?_)
  have hf : OK (f_X8_advance T A w0 I) (fun z => z = e) := ⟨e, h, rfl⟩
  unfold f_X8_advance at hf
  obtain ⟨hw0, hf⟩ := ok_grd hf
  refine r_aload_n (pc := 0) S0 0 dX8_advance_0 rfl rfl ?_
  refine r_aload_n (pc := 1) S0 0 dX8_advance_1 rfl rfl ?_
  refine r_getI (pc := 2) S0 hK fl_X8_19 dX8_advance_2 hf (fun x1 c2 hf => ?_)
  refine r_putI (pc := 5) S0 hK fl_X8_25 rfl rfl c2 dX8_advance_5 hf (fun I3 hf => ?_)
  refine thn_rule (P := fun v5 => G p l e0 (rmx 2 81) s m args below meth c 0 0 Q cA D N 1 ad T A nx 60 [(0, rv ad w0)] [] v5) hf (fun v5 hf => ?_) (fun K4 hf => ?_)
  · refine r_aload_n (pc := 60) S0 0 dX8_advance_60 rfl rfl ?_
    refine r_aload_n (pc := 61) S0 0 dX8_advance_61 rfl rfl ?_
    refine r_getI (pc := 62) S0 hK fl_X8_25 dX8_advance_62 hf (fun x27 c28 hf => ?_)
    refine r_putI (pc := 65) S0 hK fl_X8_19 rfl rfl c28 dX8_advance_65 hf (fun I29 hf => ?_)
    refine r_aload_n (pc := 68) S0 0 dX8_advance_68 rfl rfl ?_
    refine r_iconst (pc := 69) S0 dX8_advance_69 ?_
    refine r_putI (pc := 70) S0 hK fl_X8_28 rfl rfl (cnz 0 rfl) dX8_advance_70 hf (fun I30 hf => ?_)
    refine thn_rule (P := fun v32 => G p l e0 (rmx 2 81) s m args below meth c 0 0 Q cA D N 1 ad T A nx 125 [(0, rv ad w0)] [] v32) hf (fun v32 hf => ?_) (fun K31 hf => ?_)
    · refine r_aload_n (pc := 125) S0 0 dX8_advance_125 rfl rfl ?_
      refine r_getI (pc := 126) S0 hK fl_X8_19 dX8_advance_126 hf (fun x52 c53 hf => ?_)
      refine r_aload_n (pc := 129) S0 0 dX8_advance_129 rfl rfl ?_
      refine r_getI (pc := 130) S0 hK fl_X8_25 dX8_advance_130 hf (fun x54 c55 hf => ?_)
      refine r_icmp_le (pc := 133) (tgt := 142) S0 dX8_advance_133 (by decide) c53 c55 hf (fun hf => ?_) (fun hf => ?_)
      · refine thn_rule (P := fun v57 => G p l e0 (rmx 2 81) s m args below meth c 0 0 Q cA D N 1 ad T A nx 223 [(0, rv ad w0)] [] v57) hf (fun v57 hf => ?_) (fun K56 hf => ?_)
        · refine r_aload_n (pc := 223) S0 0 dX8_advance_223 rfl rfl ?_
          refine r_getI (pc := 224) S0 hK fl_X8_19 dX8_advance_224 hf (fun x85 c86 hf => ?_)
          refine r_aload_n (pc := 227) S0 0 dX8_advance_227 rfl rfl ?_
          refine r_getI (pc := 228) S0 hK fl_X8_25 dX8_advance_228 hf (fun x87 c88 hf => ?_)
          refine r_icmp_le (pc := 231) (tgt := 240) S0 dX8_advance_231 (by decide) c86 c88 hf (fun hf => ?_) (fun hf => ?_)
          · refine r_aload_n (pc := 240) S0 0 dX8_advance_240 rfl rfl ?_
            refine r_getI (pc := 241) S0 hK fl_X8_25 dX8_advance_241 hf (fun x89 c90 hf => ?_)
            refine r_aload_n (pc := 244) S0 0 dX8_advance_244 rfl rfl ?_
            refine r_getI (pc := 245) S0 hK fl_X8_15 dX8_advance_245 hf (fun x91 c92 hf => ?_)
            refine r_icmp_lt (pc := 248) (tgt := 257) S0 dX8_advance_248 (by decide) c90 c92 hf (fun hf => ?_) (fun hf => ?_)
            · refine r_aload_n (pc := 257) S0 0 dX8_advance_257 rfl rfl ?_
              refine r_aload_n (pc := 258) S0 0 dX8_advance_258 rfl rfl ?_
              refine r_getR (pc := 259) S0 hK fl_X8_9 dX8_advance_259 hf (fun x93 hf => ?_)
              refine r_aload_n (pc := 262) S0 0 dX8_advance_262 rfl rfl ?_
              refine r_getI (pc := 263) S0 hK fl_X8_25 dX8_advance_263 hf (fun x94 c95 hf => ?_)
              refine r_bald (pc := 266) S0 hK dX8_advance_266 c95 hf (fun x96 c97 hf => ?_)
              refine r_bipush (pc := 267) S0 dX8_advance_267 (by decide) ?_
              refine thn_rule (P := fun v99 => cn v99 → G p l e0 (rmx 2 81) s m args below meth c 0 0 Q cA D N 1 ad T A nx 277 [(0, rv ad w0)] [iv v99, rv ad w0] v57) hf (fun v99 hf c100 => ?_) (fun K98 hf => ?_)
              · refine r_putI (pc := 277) S0 hK fl_X8_31 rfl rfl c100 dX8_advance_277 hf (fun I101 hf => ?_)
                refine r_aload_n (pc := 280) S0 0 dX8_advance_280 rfl rfl ?_
                refine r_aload_n (pc := 281) S0 0 dX8_advance_281 rfl rfl ?_
                refine r_getI (pc := 282) S0 hK fl_X8_25 dX8_advance_282 hf (fun x102 c103 hf => ?_)
                refine r_iconst (pc := 285) S0 dX8_advance_285 ?_
                refine r_iadd (pc := 286) S0 dX8_advance_286 ?_
                refine r_putI (pc := 287) S0 hK fl_X8_19 rfl rfl (cn_wrap _) dX8_advance_287 hf (fun I104 hf => ?_)
                have hz := ok_some hf
                have hz : I104 = e := hz
                subst hQ
                subst hz
                exact r_vret (pc := 290) S0 hr hlk dX8_advance_290
              · refine r_icmp_ne (pc := 269) (tgt := 276) S0 dX8_advance_269 (by decide) c97 (cnz 59 rfl) hf (fun hf => ?_) (fun hf => ?_)
                · refine r_iconst (pc := 276) S0 dX8_advance_276 ?_
                  have hz := ok_some hf
                  refine r_lv [0] rfl ?_
                  exact K98 4 hz (cnz 4 rfl)
                · refine r_iconst (pc := 272) S0 dX8_advance_272 ?_
                  refine r_goto (pc := 273) (tgt := 277) S0 dX8_advance_273 (by decide) ?_
                  have hz := ok_some hf
                  refine r_lv [0] rfl ?_
                  exact K98 3 hz (cnz 3 rfl)
            · refine r_aload_n (pc := 251) S0 0 dX8_advance_251 rfl rfl ?_
              refine r_iconst (pc := 252) S0 dX8_advance_252 ?_
              refine r_putI (pc := 253) S0 hK fl_X8_31 rfl rfl (cnz 0 rfl) dX8_advance_253 hf (fun I105 hf => ?_)
              have hz := ok_some hf
              have hz : I105 = e := hz
              subst hQ
              subst hz
              exact r_vret (pc := 256) S0 hr hlk dX8_advance_256
          · refine r_aload_n (pc := 234) S0 0 dX8_advance_234 rfl rfl ?_
            refine r_iconst (pc := 235) S0 dX8_advance_235 ?_
            refine r_putI (pc := 236) S0 hK fl_X8_31 rfl rfl (cnz 2 rfl) dX8_advance_236 hf (fun I106 hf => ?_)
            have hz := ok_some hf
            have hz : I106 = e := hz
            subst hQ
            subst hz
            exact r_vret (pc := 239) S0 hr hlk dX8_advance_239
        · refine r_lv [0] rfl ?_
          refine it_ind (P := fun s59 => G p l e0 (rmx 2 81) s m args below meth c 0 0 Q cA D N 1 ad T A nx 142 [(0, rv ad w0)] [] s59) (fun n0 s59 ih58 hf => ?_) FU v32 hf
          refine r_aload_n (pc := 142) S0 0 dX8_advance_142 rfl rfl ?_
          refine r_getI (pc := 143) S0 hK fl_X8_19 dX8_advance_143 hf (fun x60 c61 hf => ?_)
          refine r_aload_n (pc := 146) S0 0 dX8_advance_146 rfl rfl ?_
          refine r_getI (pc := 147) S0 hK fl_X8_15 dX8_advance_147 hf (fun x62 c63 hf => ?_)
          refine r_icmp_ge (pc := 150) (tgt := 223) S0 dX8_advance_150 (by decide) c61 c63 hf (fun hf => ?_) (fun hf => ?_)
          · have hz := ok_some hf
            refine r_lv [0] rfl ?_
            exact K56 s59 hz
          · refine r_aload_n (pc := 153) S0 0 dX8_advance_153 rfl rfl ?_
            refine r_getR (pc := 154) S0 hK fl_X8_9 dX8_advance_154 hf (fun x64 hf => ?_)
            refine r_aload_n (pc := 157) S0 0 dX8_advance_157 rfl rfl ?_
            refine r_getI (pc := 158) S0 hK fl_X8_19 dX8_advance_158 hf (fun x65 c66 hf => ?_)
            refine r_bald (pc := 161) S0 hK dX8_advance_161 c66 hf (fun x67 c68 hf => ?_)
            refine r_bipush (pc := 162) S0 dX8_advance_162 (by decide) ?_
            refine r_icmp_lt (pc := 164) (tgt := 223) S0 dX8_advance_164 (by decide) c68 (cnz 48 rfl) hf (fun hf => ?_) (fun hf => ?_)
            · have hz := ok_some hf
              refine r_lv [0] rfl ?_
              exact K56 s59 hz
            · refine r_aload_n (pc := 167) S0 0 dX8_advance_167 rfl rfl ?_
              refine r_getR (pc := 168) S0 hK fl_X8_9 dX8_advance_168 hf (fun x69 hf => ?_)
              refine r_aload_n (pc := 171) S0 0 dX8_advance_171 rfl rfl ?_
              refine r_getI (pc := 172) S0 hK fl_X8_19 dX8_advance_172 hf (fun x70 c71 hf => ?_)
              refine r_bald (pc := 175) S0 hK dX8_advance_175 c71 hf (fun x72 c73 hf => ?_)
              refine r_bipush (pc := 176) S0 dX8_advance_176 (by decide) ?_
              refine r_icmp_gt (pc := 178) (tgt := 223) S0 dX8_advance_178 (by decide) c73 (cnz 57 rfl) hf (fun hf => ?_) (fun hf => ?_)
              · have hz := ok_some hf
                refine r_lv [0] rfl ?_
                exact K56 s59 hz
              · refine r_aload_n (pc := 181) S0 0 dX8_advance_181 rfl rfl ?_
                refine r_ldc (pc := 182) (z := 100000) S0 k_X8_34 dX8_advance_182 (by decide) ?_
                refine r_aload_n (pc := 184) S0 0 dX8_advance_184 rfl rfl ?_
                refine r_getI (pc := 185) S0 hK fl_X8_28 dX8_advance_185 hf (fun x74 c75 hf => ?_)
                refine r_bipush (pc := 188) S0 dX8_advance_188 (by decide) ?_
                refine r_imul (pc := 190) S0 dX8_advance_190 ?_
                refine r_aload_n (pc := 191) S0 0 dX8_advance_191 rfl rfl ?_
                refine r_getR (pc := 192) S0 hK fl_X8_9 dX8_advance_192 hf (fun x76 hf => ?_)
                refine r_aload_n (pc := 195) S0 0 dX8_advance_195 rfl rfl ?_
                refine r_getI (pc := 196) S0 hK fl_X8_19 dX8_advance_196 hf (fun x77 c78 hf => ?_)
                refine r_bald (pc := 199) S0 hK dX8_advance_199 c78 hf (fun x79 c80 hf => ?_)
                refine r_iadd (pc := 200) S0 dX8_advance_200 ?_
                refine r_bipush (pc := 201) S0 dX8_advance_201 (by decide) ?_
                refine r_isub (pc := 203) S0 dX8_advance_203 ?_
                refine r_mmin (pc := 204) S0 mmmin_X8_35 ⟨by decide, Nat.le_of_ble_eq_true rfl⟩ ⟨Nat.le_refl _, Nat.le_refl _⟩ dX8_advance_204 (cnz 100000 rfl) (cn_wrap _) ?_
                refine r_putI (pc := 207) S0 hK fl_X8_28 rfl rfl (cn_imin (cnz 100000 rfl) (cn_wrap _)) dX8_advance_207 hf (fun I81 hf => ?_)
                refine r_aload_n (pc := 210) S0 0 dX8_advance_210 rfl rfl ?_
                refine r_dup (pc := 211) S0 dX8_advance_211 rfl ?_
                refine r_getI (pc := 212) S0 hK fl_X8_19 dX8_advance_212 hf (fun x82 c83 hf => ?_)
                refine r_iconst (pc := 215) S0 dX8_advance_215 ?_
                refine r_iadd (pc := 216) S0 dX8_advance_216 ?_
                refine r_putI (pc := 217) S0 hK fl_X8_19 rfl rfl (cn_wrap _) dX8_advance_217 hf (fun I84 hf => ?_)
                refine r_goto (pc := 220) (tgt := 142) S0 dX8_advance_220 (by decide) ?_
                have hz := ok_some hf
                refine r_lv [0] rfl ?_
                exact ih58 I84 hz
      · refine r_aload_n (pc := 136) S0 0 dX8_advance_136 rfl rfl ?_
        refine r_iconst (pc := 137) S0 dX8_advance_137 ?_
        refine r_putI (pc := 138) S0 hK fl_X8_31 rfl rfl (cnz 1 rfl) dX8_advance_138 hf (fun I107 hf => ?_)
        have hz := ok_some hf
        have hz : I107 = e := hz
        subst hQ
        subst hz
        exact r_vret (pc := 141) S0 hr hlk dX8_advance_141
    · refine r_lv [0] rfl ?_
      refine it_ind (P := fun s34 => G p l e0 (rmx 2 81) s m args below meth c 0 0 Q cA D N 1 ad T A nx 73 [(0, rv ad w0)] [] s34) (fun n0 s34 ih33 hf => ?_) FU I30 hf
      refine r_aload_n (pc := 73) S0 0 dX8_advance_73 rfl rfl ?_
      refine r_getI (pc := 74) S0 hK fl_X8_19 dX8_advance_74 hf (fun x35 c36 hf => ?_)
      refine r_aload_n (pc := 77) S0 0 dX8_advance_77 rfl rfl ?_
      refine r_getI (pc := 78) S0 hK fl_X8_15 dX8_advance_78 hf (fun x37 c38 hf => ?_)
      refine r_icmp_ge (pc := 81) (tgt := 125) S0 dX8_advance_81 (by decide) c36 c38 hf (fun hf => ?_) (fun hf => ?_)
      · have hz := ok_some hf
        refine r_lv [0] rfl ?_
        exact K31 s34 hz
      · refine r_aload_n (pc := 84) S0 0 dX8_advance_84 rfl rfl ?_
        refine r_getR (pc := 85) S0 hK fl_X8_9 dX8_advance_85 hf (fun x39 hf => ?_)
        refine r_aload_n (pc := 88) S0 0 dX8_advance_88 rfl rfl ?_
        refine r_getI (pc := 89) S0 hK fl_X8_19 dX8_advance_89 hf (fun x40 c41 hf => ?_)
        refine r_bald (pc := 92) S0 hK dX8_advance_92 c41 hf (fun x42 c43 hf => ?_)
        refine r_bipush (pc := 93) S0 dX8_advance_93 (by decide) ?_
        refine r_icmp_lt (pc := 95) (tgt := 125) S0 dX8_advance_95 (by decide) c43 (cnz 97 rfl) hf (fun hf => ?_) (fun hf => ?_)
        · have hz := ok_some hf
          refine r_lv [0] rfl ?_
          exact K31 s34 hz
        · refine r_aload_n (pc := 98) S0 0 dX8_advance_98 rfl rfl ?_
          refine r_getR (pc := 99) S0 hK fl_X8_9 dX8_advance_99 hf (fun x44 hf => ?_)
          refine r_aload_n (pc := 102) S0 0 dX8_advance_102 rfl rfl ?_
          refine r_getI (pc := 103) S0 hK fl_X8_19 dX8_advance_103 hf (fun x45 c46 hf => ?_)
          refine r_bald (pc := 106) S0 hK dX8_advance_106 c46 hf (fun x47 c48 hf => ?_)
          refine r_bipush (pc := 107) S0 dX8_advance_107 (by decide) ?_
          refine r_icmp_gt (pc := 109) (tgt := 125) S0 dX8_advance_109 (by decide) c48 (cnz 122 rfl) hf (fun hf => ?_) (fun hf => ?_)
          · have hz := ok_some hf
            refine r_lv [0] rfl ?_
            exact K31 s34 hz
          · refine r_aload_n (pc := 112) S0 0 dX8_advance_112 rfl rfl ?_
            refine r_dup (pc := 113) S0 dX8_advance_113 rfl ?_
            refine r_getI (pc := 114) S0 hK fl_X8_19 dX8_advance_114 hf (fun x49 c50 hf => ?_)
            refine r_iconst (pc := 117) S0 dX8_advance_117 ?_
            refine r_iadd (pc := 118) S0 dX8_advance_118 ?_
            refine r_putI (pc := 119) S0 hK fl_X8_19 rfl rfl (cn_wrap _) dX8_advance_119 hf (fun I51 hf => ?_)
            refine r_goto (pc := 122) (tgt := 73) S0 dX8_advance_122 (by decide) ?_
            have hz := ok_some hf
            refine r_lv [0] rfl ?_
            exact ih33 I51 hz
  · refine r_lv [0] rfl ?_
    refine it_ind (P := fun s7 => G p l e0 (rmx 2 81) s m args below meth c 0 0 Q cA D N 1 ad T A nx 8 [(0, rv ad w0)] [] s7) (fun n0 s7 ih6 hf => ?_) FU I3 hf
    refine r_aload_n (pc := 8) S0 0 dX8_advance_8 rfl rfl ?_
    refine r_getI (pc := 9) S0 hK fl_X8_25 dX8_advance_9 hf (fun x8 c9 hf => ?_)
    refine r_aload_n (pc := 12) S0 0 dX8_advance_12 rfl rfl ?_
    refine r_getI (pc := 13) S0 hK fl_X8_15 dX8_advance_13 hf (fun x10 c11 hf => ?_)
    refine r_icmp_ge (pc := 16) (tgt := 60) S0 dX8_advance_16 (by decide) c9 c11 hf (fun hf => ?_) (fun hf => ?_)
    · have hz := ok_some hf
      refine r_lv [0] rfl ?_
      exact K4 s7 hz
    · refine r_aload_n (pc := 19) S0 0 dX8_advance_19 rfl rfl ?_
      refine r_getR (pc := 20) S0 hK fl_X8_9 dX8_advance_20 hf (fun x12 hf => ?_)
      refine r_aload_n (pc := 23) S0 0 dX8_advance_23 rfl rfl ?_
      refine r_getI (pc := 24) S0 hK fl_X8_25 dX8_advance_24 hf (fun x13 c14 hf => ?_)
      refine r_bald (pc := 27) S0 hK dX8_advance_27 c14 hf (fun x15 c16 hf => ?_)
      refine r_bipush (pc := 28) S0 dX8_advance_28 (by decide) ?_
      refine thn_rule (P := fun v18 => G p l e0 (rmx 2 81) s m args below meth c 0 0 Q cA D N 1 ad T A nx 47 [(0, rv ad w0)] [] s7) hf (fun v18 hf => ?_) (fun K17 hf => ?_)
      · refine r_aload_n (pc := 47) S0 0 dX8_advance_47 rfl rfl ?_
        refine r_dup (pc := 48) S0 dX8_advance_48 rfl ?_
        refine r_getI (pc := 49) S0 hK fl_X8_25 dX8_advance_49 hf (fun x24 c25 hf => ?_)
        refine r_iconst (pc := 52) S0 dX8_advance_52 ?_
        refine r_iadd (pc := 53) S0 dX8_advance_53 ?_
        refine r_putI (pc := 54) S0 hK fl_X8_25 rfl rfl (cn_wrap _) dX8_advance_54 hf (fun I26 hf => ?_)
        refine r_goto (pc := 57) (tgt := 8) S0 dX8_advance_57 (by decide) ?_
        have hz := ok_some hf
        refine r_lv [0] rfl ?_
        exact ih6 I26 hz
      · refine r_icmp_eq (pc := 30) (tgt := 47) S0 dX8_advance_30 (by decide) c16 (cnz 32 rfl) hf (fun hf => ?_) (fun hf => ?_)
        · have hz := ok_some hf
          refine r_lv [0] rfl ?_
          exact K17 () hz
        · refine r_aload_n (pc := 33) S0 0 dX8_advance_33 rfl rfl ?_
          refine r_getR (pc := 34) S0 hK fl_X8_9 dX8_advance_34 hf (fun x19 hf => ?_)
          refine r_aload_n (pc := 37) S0 0 dX8_advance_37 rfl rfl ?_
          refine r_getI (pc := 38) S0 hK fl_X8_25 dX8_advance_38 hf (fun x20 c21 hf => ?_)
          refine r_bald (pc := 41) S0 hK dX8_advance_41 c21 hf (fun x22 c23 hf => ?_)
          refine r_bipush (pc := 42) S0 dX8_advance_42 (by decide) ?_
          refine r_icmp_ne (pc := 44) (tgt := 60) S0 dX8_advance_44 (by decide) c23 (cnz 10 rfl) hf (fun hf => ?_) (fun hf => ?_)
          · have hz := ok_some hf
            refine r_lv [0] rfl ?_
            exact K4 s7 hz
          · have hz := ok_some hf
            refine r_lv [0] rfl ?_
            exact K17 () hz

set_option maxHeartbeats 4000000 in
set_option maxRecDepth 100000 in
theorem c_X8_rewind (l : Launch) (cA : Nat → ClassId) (D : va_G) (N : Nat) (sx : Sx) (ad : Nat → Nat) (T : Knd) (A : Rfs) (nx : Nat) (I : Mem) (w0 : Nat)  (e : Mem) (h : f_X8_rewind T A w0 I = some e) : CtV l yX8_rewind cX8_rewind 1 none 3 101 cA D N sx ad T A nx [rv ad w0] I e := by
  refine met_of (lv0 := [(0, rv ad w0)]) (by decide) (Nat.le_of_ble_eq_true rfl) rfl (fun p e0 s m args below meth c S0 hK hX hr hlk Q hQ => ?_)
  have hf : OK (f_X8_rewind T A w0 I) (fun z => z = e) := ⟨e, h, rfl⟩
  unfold f_X8_rewind at hf
  obtain ⟨hw0, hf⟩ := ok_grd hf
  refine r_aload_n (pc := 0) S0 0 dX8_rewind_0 rfl rfl ?_
  refine r_iconst (pc := 1) S0 dX8_rewind_1 ?_
  refine r_putI (pc := 2) S0 hK fl_X8_19 rfl rfl (cnz 0 rfl) dX8_rewind_2 hf (fun I1 hf => ?_)
  refine r_aload_n (pc := 5) S0 0 dX8_rewind_5 rfl rfl ?_
  obtain ⟨e2, h3, hf⟩ := ok_bind hf
  refine r_cV_V (pc := 6) [] S0 hK hX mv_X8_22 (k_X8_advance h3) (c_X8_advance l cA D N sx ad T A nx I1 w0 e2 h3) rfl rfl ⟨by decide, by decide⟩ (Nat.le_of_ble_eq_true rfl) ⟨Nat.le_refl _, Nat.le_refl _⟩ dX8_rewind_6 ?_
  have hz := ok_some hf
  have hz : e2 = e := hz
  subst hQ
  subst hz
  exact r_vret (pc := 9) S0 hr hlk dX8_rewind_9

set_option maxHeartbeats 4000000 in
set_option maxRecDepth 100000 in
theorem c_X4_blame (l : Launch) (cA : Nat → ClassId) (D : va_G) (N : Nat) (sx : Sx) (ad : Nat → Nat) (T : Knd) (A : Rfs) (nx : Nat) (I : Mem) (w0 : Nat) (a1 : Int) (ca1 : cn a1) (e : (Int × Mem)) (h : f_X4_blame T A w0 a1 I = some e) : CtI l yX4_blame cX4_blame 2 (some .int) 1 60 cA D N sx ad T A nx [rv ad w0, iv a1] I e.2 e.1 := by
  refine met_of (lv0 := [(0, rv ad w0), (1, iv a1)]) (by decide) (Nat.le_of_ble_eq_true rfl) rfl (fun p e0 s m args below meth c S0 hK hX hr hlk Q hQ => ?_)
  have hf : OK (f_X4_blame T A w0 a1 I) (fun z => z = e) := ⟨e, h, rfl⟩
  unfold f_X4_blame at hf
  obtain ⟨hw0, hf⟩ := ok_grd hf
  refine r_aload_n (pc := 0) S0 0 dX4_blame_0 rfl rfl ?_
  refine r_iload_n (pc := 1) S0 1 dX4_blame_1 rfl rfl ?_
  refine r_putI (pc := 2) S0 hK fl_X4_29 rfl rfl ca1 dX4_blame_2 hf (fun I1 hf => ?_)
  refine r_aload_n (pc := 5) S0 0 dX4_blame_5 rfl rfl ?_
  refine r_aload_n (pc := 6) S0 0 dX4_blame_6 rfl rfl ?_
  refine r_getR (pc := 7) S0 hK fl_X4_22 dX4_blame_7 hf (fun x2 hf => ?_)
  refine r_getI (pc := 10) S0 hK fl_X4_159 dX4_blame_10 hf (fun x3 c4 hf => ?_)
  refine r_putI (pc := 13) S0 hK fl_X4_18 rfl rfl c4 dX4_blame_13 hf (fun I5 hf => ?_)
  refine r_iconst (pc := 16) S0 dX4_blame_16 ?_
  have hz := ok_some hf
  have hz : (0, I5) = e := hz
  subst hQ
  subst hz
  exact r_iret (pc := 17) S0 hr hlk (cnz 0 rfl) dX4_blame_17

set_option maxHeartbeats 4000000 in
set_option maxRecDepth 100000 in
theorem c_X4_takeNumber (l : Launch) (cA : Nat → ClassId) (D : va_G) (N : Nat) (sx : Sx) (ad : Nat → Nat) (T : Knd) (A : Rfs) (nx : Nat) (I : Mem) (w0 : Nat) (a1 : Int) (a2 : Int) (ca1 : cn a1) (ca2 : cn a2) (e : (Int × Mem)) (h : f_X4_takeNumber T A w0 a1 a2 I = some e) : CtI l yX4_takeNumber cX4_takeNumber 4 (some .int) 3 101 cA D N sx ad T A nx [rv ad w0, iv a1, iv a2] I e.2 e.1 := by
  refine met_of (lv0 := [(0, rv ad w0), (1, iv a1), (2, iv a2)]) (by decide) (Nat.le_of_ble_eq_true rfl) rfl (fun p e0 s m args below meth c S0 hK hX hr hlk Q hQ => ?_)
  have hf : OK (f_X4_takeNumber T A w0 a1 a2 I) (fun z => z = e) := ⟨e, h, rfl⟩
  unfold f_X4_takeNumber at hf
  obtain ⟨hw0, hf⟩ := ok_grd hf
  refine r_aload_n (pc := 0) S0 0 dX4_takeNumber_0 rfl rfl ?_
  refine r_getI (pc := 1) S0 hK fl_X4_29 dX4_takeNumber_1 hf (fun x1 c2 hf => ?_)
  refine r_if_eq (pc := 4) (tgt := 9) S0 dX4_takeNumber_4 (by decide) c2 hf (fun hf => ?_) (fun hf => ?_)
  · refine r_aload_n (pc := 9) S0 0 dX4_takeNumber_9 rfl rfl ?_
    refine r_getR (pc := 10) S0 hK fl_X4_22 dX4_takeNumber_10 hf (fun x3 hf => ?_)
    refine r_getI (pc := 13) S0 hK fl_X4_37 dX4_takeNumber_13 hf (fun x4 c5 hf => ?_)
    refine r_iconst (pc := 16) S0 dX4_takeNumber_16 ?_
    refine r_icmp_eq (pc := 17) (tgt := 26) S0 dX4_takeNumber_17 (by decide) c5 (cnz 2 rfl) hf (fun hf => ?_) (fun hf => ?_)
    · refine r_aload_n (pc := 26) S0 0 dX4_takeNumber_26 rfl rfl ?_
      refine r_getR (pc := 27) S0 hK fl_X4_22 dX4_takeNumber_27 hf (fun x6 hf => ?_)
      refine r_getI (pc := 30) S0 hK fl_X4_152 dX4_takeNumber_30 hf (fun x7 c8 hf => ?_)
      refine r_iload_n (pc := 33) S0 1 dX4_takeNumber_33 rfl rfl ?_
      refine thn_rule (P := fun v10 => G p l e0 (rmx 3 101) s m args below meth c 0 0 Q cA D N 4 ad T A nx 48 [(0, rv ad w0)] [] I) hf (fun v10 hf => ?_) (fun K9 hf => ?_)
      · refine r_aload_n (pc := 48) S0 0 dX4_takeNumber_48 rfl rfl ?_
        refine r_iconst (pc := 49) S0 dX4_takeNumber_49 ?_
        obtain ⟨e20, h21, hf⟩ := ok_bind hf
        refine r_cV_I (pc := 50) [iv 2] S0 hK hX mv_X4_52 (k_X4_blame h21) (c_X4_blame l cA D N sx ad T A nx I w0 2 (cnz 2 rfl) e20 h21) rfl rfl ⟨by decide, by decide⟩ (Nat.le_of_ble_eq_true rfl) ⟨Nat.le_refl _, Nat.le_refl _⟩ dX4_takeNumber_50 (fun c22 => ?_)
        have hz := ok_some hf
        have hz : (e20.1, e20.2) = e := hz
        subst hQ
        subst hz
        exact r_iret (pc := 53) S0 hr hlk c22 dX4_takeNumber_53
      · refine r_icmp_lt (pc := 34) (tgt := 48) S0 dX4_takeNumber_34 (by decide) c8 ca1 hf (fun hf => ?_) (fun hf => ?_)
        · have hz := ok_some hf
          refine r_lv [0] rfl ?_
          exact K9 () hz
        · refine r_aload_n (pc := 37) S0 0 dX4_takeNumber_37 rfl rfl ?_
          refine r_getR (pc := 38) S0 hK fl_X4_22 dX4_takeNumber_38 hf (fun x11 hf => ?_)
          refine r_getI (pc := 41) S0 hK fl_X4_152 dX4_takeNumber_41 hf (fun x12 c13 hf => ?_)
          refine r_iload_n (pc := 44) S0 2 dX4_takeNumber_44 rfl rfl ?_
          refine r_icmp_le (pc := 45) (tgt := 54) S0 dX4_takeNumber_45 (by decide) c13 ca2 hf (fun hf => ?_) (fun hf => ?_)
          · refine r_aload_n (pc := 54) S0 0 dX4_takeNumber_54 rfl rfl ?_
            refine r_getR (pc := 55) S0 hK fl_X4_22 dX4_takeNumber_55 hf (fun x14 hf => ?_)
            refine r_getI (pc := 58) S0 hK fl_X4_152 dX4_takeNumber_58 hf (fun x15 c16 hf => ?_)
            refine r_istore_n (pc := 61) (lv' := [(3, iv x15), (0, rv ad w0), (1, iv a1), (2, iv a2)]) S0 dX4_takeNumber_61 rfl (by decide) rfl ?_
            refine r_aload_n (pc := 62) S0 1 dX4_takeNumber_62 rfl rfl ?_
            refine r_getR (pc := 63) S0 hK fl_X4_22 dX4_takeNumber_63 hf (fun x17 hf => ?_)
            obtain ⟨e18, h19, hf⟩ := ok_bind hf
            refine r_cV_V (pc := 66) [] S0 hK hX mv_X4_90 (k_X8_advance h19) (c_X8_advance l cA D N sx ad T A nx I x17 e18 h19) rfl rfl ⟨by decide, by decide⟩ (Nat.le_of_ble_eq_true rfl) ⟨Nat.le_refl _, Nat.le_refl _⟩ dX4_takeNumber_66 ?_
            refine r_iload_n (pc := 69) S0 0 dX4_takeNumber_69 rfl rfl ?_
            have hz := ok_some hf
            have hz : (x15, e18) = e := hz
            subst hQ
            subst hz
            exact r_iret (pc := 70) S0 hr hlk c16 dX4_takeNumber_70
          · have hz := ok_some hf
            refine r_lv [0] rfl ?_
            exact K9 () hz
    · refine r_aload_n (pc := 20) S0 0 dX4_takeNumber_20 rfl rfl ?_
      refine r_iconst (pc := 21) S0 dX4_takeNumber_21 ?_
      obtain ⟨e23, h24, hf⟩ := ok_bind hf
      refine r_cV_I (pc := 22) [iv 1] S0 hK hX mv_X4_52 (k_X4_blame h24) (c_X4_blame l cA D N sx ad T A nx I w0 1 (cnz 1 rfl) e23 h24) rfl rfl ⟨by decide, by decide⟩ (Nat.le_of_ble_eq_true rfl) ⟨Nat.le_refl _, Nat.le_refl _⟩ dX4_takeNumber_22 (fun c25 => ?_)
      have hz := ok_some hf
      have hz : (e23.1, e23.2) = e := hz
      subst hQ
      subst hz
      exact r_iret (pc := 25) S0 hr hlk c25 dX4_takeNumber_25
  · refine r_iconst (pc := 7) S0 dX4_takeNumber_7 ?_
    have hz := ok_some hf
    have hz : (0, I) = e := hz
    subst hQ
    subst hz
    exact r_iret (pc := 8) S0 hr hlk (cnz 0 rfl) dX4_takeNumber_8

set_option maxHeartbeats 4000000 in
set_option maxRecDepth 100000 in
theorem c_X4_tell (l : Launch) (cA : Nat → ClassId) (D : va_G) (N : Nat) (sx : Sx) (ad : Nat → Nat) (T : Knd) (A : Rfs) (nx : Nat) (I : Mem) (w0 : Nat) (a1 : Int) (a2 : Int) (ca1 : cn a1) (ca2 : cn a2) (e : Mem) (h : f_X4_tell T A w0 a1 a2 I = some e) : CtV l yX4_tell cX4_tell 3 none 1 60 cA D N sx ad T A nx [rv ad w0, iv a1, iv a2] I e := by
  refine met_of (lv0 := [(0, rv ad w0), (1, iv a1), (2, iv a2)]) (by decide) (Nat.le_of_ble_eq_true rfl) rfl (fun p e0 s m args below meth c S0 hK hX hr hlk Q hQ => ?_)
  have hf : OK (f_X4_tell T A w0 a1 a2 I) (fun z => z = e) := ⟨e, h, rfl⟩
  unfold f_X4_tell at hf
  obtain ⟨hw0, hf⟩ := ok_grd hf
  refine r_aload_n (pc := 0) S0 0 dX4_tell_0 rfl rfl ?_
  refine r_getR (pc := 1) S0 hK fl_X4_12 dX4_tell_1 hf (fun x1 hf => ?_)
  refine r_getI (pc := 4) S0 hK fl_X4_111 dX4_tell_4 hf (fun x2 c3 hf => ?_)
  refine r_bipush (pc := 7) S0 dX4_tell_7 (by decide) ?_
  refine r_icmp_ge (pc := 9) (tgt := 30) S0 dX4_tell_9 (by decide) c3 (cnz 8 rfl) hf (fun hf => ?_) (fun hf => ?_)
  · have hz := ok_some hf
    have hz : I = e := hz
    subst hQ
    subst hz
    exact r_vret (pc := 30) S0 hr hlk dX4_tell_30
  · refine r_aload_n (pc := 12) S0 0 dX4_tell_12 rfl rfl ?_
    refine r_getR (pc := 13) S0 hK fl_X4_12 dX4_tell_13 hf (fun x4 hf => ?_)
    refine r_getR (pc := 16) S0 hK fl_X4_136 dX4_tell_16 hf (fun x5 hf => ?_)
    refine r_iload_n (pc := 19) S0 1 dX4_tell_19 rfl rfl ?_
    refine r_aald 24 4 (pc := 20) S0 hK (by decide) rfl rfl dX4_tell_20 ca1 hf (fun x6 hf => ?_)
    refine r_aload_n (pc := 21) S0 0 dX4_tell_21 rfl rfl ?_
    refine r_getR (pc := 22) S0 hK fl_X4_12 dX4_tell_22 hf (fun x7 hf => ?_)
    refine r_getI (pc := 25) S0 hK fl_X4_111 dX4_tell_25 hf (fun x8 c9 hf => ?_)
    refine r_iload_n (pc := 28) S0 2 dX4_tell_28 rfl rfl ?_
    refine r_iast (pc := 29) S0 hK dX4_tell_29 c9 ca2 hf (fun I10 hf => ?_)
    have hz := ok_some hf
    have hz : I10 = e := hz
    subst hQ
    subst hz
    exact r_vret (pc := 30) S0 hr hlk dX4_tell_30

set_option maxHeartbeats 4000000 in
set_option maxRecDepth 100000 in
theorem c_X11_hasBit (l : Launch) (cA : Nat → ClassId) (D : va_G) (N : Nat) (sx : Sx) (ad : Nat → Nat) (T : Knd) (A : Rfs) (nx : Nat) (I : Mem) (a0 : Int) (a1 : Int) (ca0 : cn a0) (ca1 : cn a1) (e : Int) (h : f_X11_hasBit T A a0 a1 I = some e) : CtI l yX11_hasBit cX11_hasBit 2 (some .boolean) 1 60 cA D N sx ad T A nx [iv a0, iv a1] I I e := by
  refine met_of (lv0 := [(0, iv a0), (1, iv a1)]) (by decide) (Nat.le_of_ble_eq_true rfl) rfl (fun p e0 s m args below meth c S0 hK hX hr hlk Q hQ => ?_)
  have hf : OK (f_X11_hasBit T A a0 a1 I) (fun z => z = e) := ⟨e, h, rfl⟩
  unfold f_X11_hasBit at hf
  refine r_iload_n (pc := 0) S0 0 dX11_hasBit_0 rfl rfl ?_
  refine r_iload_n (pc := 1) S0 1 dX11_hasBit_1 rfl rfl ?_
  refine r_ishr (pc := 2) S0 dX11_hasBit_2 ?_
  refine r_iconst (pc := 3) S0 dX11_hasBit_3 ?_
  refine r_iand (pc := 4) S0 dX11_hasBit_4 ?_
  refine r_if_eq (pc := 5) (tgt := 12) S0 dX11_hasBit_5 (by decide) (cn_toInt _) hf (fun hf => ?_) (fun hf => ?_)
  · refine r_iconst (pc := 12) S0 dX11_hasBit_12 ?_
    have hz := ok_some hf
    have hz : 0 = e := hz
    subst hQ
    subst hz
    exact r_zret (pc := 13) S0 hr hlk (Or.inl rfl) dX11_hasBit_13
  · refine r_iconst (pc := 8) S0 dX11_hasBit_8 ?_
    refine r_goto (pc := 9) (tgt := 13) S0 dX11_hasBit_9 (by decide) ?_
    have hz := ok_some hf
    have hz : 1 = e := hz
    subst hQ
    subst hz
    exact r_zret (pc := 13) S0 hr hlk (Or.inr rfl) dX11_hasBit_13

set_option maxHeartbeats 4000000 in
set_option maxRecDepth 100000 in
theorem c_X4_takeNumberBut (l : Launch) (cA : Nat → ClassId) (D : va_G) (N : Nat) (sx : Sx) (ad : Nat → Nat) (T : Knd) (A : Rfs) (nx : Nat) (I : Mem) (w0 : Nat) (a1 : Int) (a2 : Int) (ca1 : cn a1) (ca2 : cn a2) (e : (Int × Mem)) (h : f_X4_takeNumberBut T A w0 a1 a2 I = some e) : CtI l yX4_takeNumberBut cX4_takeNumberBut 4 (some .int) 4 124 cA D N sx ad T A nx [rv ad w0, iv a1, iv a2] I e.2 e.1 := by
  refine met_of (lv0 := [(0, rv ad w0), (1, iv a1), (2, iv a2)]) (by decide) (Nat.le_of_ble_eq_true rfl) rfl (fun p e0 s m args below meth c S0 hK hX hr hlk Q hQ => ?_)
  have hf : OK (f_X4_takeNumberBut T A w0 a1 a2 I) (fun z => z = e) := ⟨e, h, rfl⟩
  unfold f_X4_takeNumberBut at hf
  obtain ⟨hw0, hf⟩ := ok_grd hf
  refine r_aload_n (pc := 0) S0 0 dX4_takeNumberBut_0 rfl rfl ?_
  refine r_getR (pc := 1) S0 hK fl_X4_22 dX4_takeNumberBut_1 hf (fun x1 hf => ?_)
  refine r_getI (pc := 4) S0 hK fl_X4_37 dX4_takeNumberBut_4 hf (fun x2 c3 hf => ?_)
  refine r_iconst (pc := 7) S0 dX4_takeNumberBut_7 ?_
  refine thn_rule (P := fun v5 => cn v5 → G p l e0 (rmx 4 124) s m args below meth c 0 0 Q cA D N 4 ad T A nx 27 [(0, rv ad w0), (1, iv a1), (2, iv a2)] [iv v5] I) hf (fun v5 hf c6 => ?_) (fun K4 hf => ?_)
  · refine r_istore_n (pc := 27) (lv' := [(3, iv v5), (0, rv ad w0), (1, iv a1), (2, iv a2)]) S0 dX4_takeNumberBut_27 rfl (by decide) rfl ?_
    refine r_aload_n (pc := 28) S0 1 dX4_takeNumberBut_28 rfl rfl ?_
    refine r_getI (pc := 29) S0 hK fl_X4_29 dX4_takeNumberBut_29 hf (fun x12 c13 hf => ?_)
    refine thn_rule (P := fun v15 => G p l e0 (rmx 4 124) s m args below meth c 0 0 Q cA D N 4 ad T A nx 59 [(0, rv ad w0), (2, iv a2)] [] I) hf (fun v15 hf => ?_) (fun K14 hf => ?_)
    · refine r_aload_n (pc := 59) S0 0 dX4_takeNumberBut_59 rfl rfl ?_
      refine r_iconst (pc := 60) S0 dX4_takeNumberBut_60 ?_
      refine r_iload_n (pc := 61) S0 1 dX4_takeNumberBut_61 rfl rfl ?_
      obtain ⟨e25, h26, hf⟩ := ok_bind hf
      refine r_cV_I (pc := 62) [iv 0, iv a2] S0 hK hX mv_X4_140 (k_X4_takeNumber h26) (c_X4_takeNumber l cA D N sx ad T A nx I w0 0 a2 (cnz 0 rfl) ca2 e25 h26) rfl rfl ⟨by decide, by decide⟩ (Nat.le_of_ble_eq_true rfl) ⟨Nat.le_refl _, Nat.le_refl _⟩ dX4_takeNumberBut_62 (fun c27 => ?_)
      have hz := ok_some hf
      have hz : (e25.1, e25.2) = e := hz
      subst hQ
      subst hz
      exact r_iret (pc := 65) S0 hr hlk c27 dX4_takeNumberBut_65
    · refine r_if_ne (pc := 32) (tgt := 59) S0 dX4_takeNumberBut_32 (by decide) c13 hf (fun hf => ?_) (fun hf => ?_)
      · have hz := ok_some hf
        refine r_lv [1, 3] rfl ?_
        exact K14 () hz
      · refine r_iload_n (pc := 35) S0 0 dX4_takeNumberBut_35 rfl rfl ?_
        refine r_if_eq (pc := 36) (tgt := 59) S0 dX4_takeNumberBut_36 (by decide) c6 hf (fun hf => ?_) (fun hf => ?_)
        · have hz := ok_some hf
          refine r_lv [1, 3] rfl ?_
          exact K14 () hz
        · refine r_iload_n (pc := 39) S0 2 dX4_takeNumberBut_39 rfl rfl ?_
          refine r_aload_n (pc := 40) S0 1 dX4_takeNumberBut_40 rfl rfl ?_
          refine r_getR (pc := 41) S0 hK fl_X4_22 dX4_takeNumberBut_41 hf (fun x16 hf => ?_)
          refine r_getI (pc := 44) S0 hK fl_X4_152 dX4_takeNumberBut_44 hf (fun x17 c18 hf => ?_)
          obtain ⟨e19, h20, hf⟩ := ok_bind hf
          refine r_cN_I (pc := 47) [iv a1, iv x17] S0 hK hX mn_X4_155 (c_X11_hasBit l cA D N sx ad T A nx I a1 x17 ca1 c18 e19 h20) rfl rfl ⟨by decide, by decide⟩ (Nat.le_of_ble_eq_true rfl) ⟨Nat.le_refl _, Nat.le_refl _⟩ dX4_takeNumberBut_47 (fun c21 => ?_)
          refine r_if_eq (pc := 50) (tgt := 59) S0 dX4_takeNumberBut_50 (by decide) c21 hf (fun hf => ?_) (fun hf => ?_)
          · have hz := ok_some hf
            refine r_lv [1, 3] rfl ?_
            exact K14 () hz
          · refine r_aload_n (pc := 53) S0 1 dX4_takeNumberBut_53 rfl rfl ?_
            refine r_iconst (pc := 54) S0 dX4_takeNumberBut_54 ?_
            obtain ⟨e22, h23, hf⟩ := ok_bind hf
            refine r_cV_I (pc := 55) [iv 2] S0 hK hX mv_X4_52 (k_X4_blame h23) (c_X4_blame l cA D N sx ad T A nx I w0 2 (cnz 2 rfl) e22 h23) rfl rfl ⟨by decide, by decide⟩ (Nat.le_of_ble_eq_true rfl) ⟨Nat.le_refl _, Nat.le_refl _⟩ dX4_takeNumberBut_55 (fun c24 => ?_)
            have hz := ok_some hf
            have hz : (e22.1, e22.2) = e := hz
            subst hQ
            subst hz
            exact r_iret (pc := 58) S0 hr hlk c24 dX4_takeNumberBut_58
  · refine thn_rule (P := fun v8 => G p l e0 (rmx 4 124) s m args below meth c 0 0 Q cA D N 4 ad T A nx 26 [(0, rv ad w0), (1, iv a1), (2, iv a2)] [] I) hf (fun v8 hf => ?_) (fun K7 hf => ?_)
    · refine r_iconst (pc := 26) S0 dX4_takeNumberBut_26 ?_
      have hz := ok_some hf
      refine r_lv [0, 1, 2] rfl ?_
      exact K4 0 hz (cnz 0 rfl)
    · refine r_icmp_ne (pc := 8) (tgt := 26) S0 dX4_takeNumberBut_8 (by decide) c3 (cnz 2 rfl) hf (fun hf => ?_) (fun hf => ?_)
      · have hz := ok_some hf
        refine r_lv [0, 1, 2] rfl ?_
        exact K7 () hz
      · refine r_aload_n (pc := 11) S0 0 dX4_takeNumberBut_11 rfl rfl ?_
        refine r_getR (pc := 12) S0 hK fl_X4_22 dX4_takeNumberBut_12 hf (fun x9 hf => ?_)
        refine r_getI (pc := 15) S0 hK fl_X4_152 dX4_takeNumberBut_15 hf (fun x10 c11 hf => ?_)
        refine r_iload_n (pc := 18) S0 2 dX4_takeNumberBut_18 rfl rfl ?_
        refine r_icmp_gt (pc := 19) (tgt := 26) S0 dX4_takeNumberBut_19 (by decide) c11 ca2 hf (fun hf => ?_) (fun hf => ?_)
        · have hz := ok_some hf
          refine r_lv [0, 1, 2] rfl ?_
          exact K7 () hz
        · refine r_iconst (pc := 22) S0 dX4_takeNumberBut_22 ?_
          refine r_goto (pc := 23) (tgt := 27) S0 dX4_takeNumberBut_23 (by decide) ?_
          have hz := ok_some hf
          refine r_lv [0, 1, 2] rfl ?_
          exact K4 1 hz (cnz 1 rfl)

set_option maxHeartbeats 4000000 in
set_option maxRecDepth 100000 in
theorem c_X4_readWay (l : Launch) (cA : Nat → ClassId) (D : va_G) (N : Nat) (sx : Sx) (ad : Nat → Nat) (T : Knd) (A : Rfs) (nx : Nat) (I : Mem) (w0 : Nat)  (e : Mem) (h : f_X4_readWay T A w0 I = some e) : CtV l yX4_readWay cX4_readWay 4 none 5 147 cA D N sx ad T A nx [rv ad w0] I e := by
  refine met_of (lv0 := [(0, rv ad w0)]) (by decide) (Nat.le_of_ble_eq_true rfl) rfl (fun p e0 s m args below meth c S0 hK hX hr hlk Q hQ => ?_)
  have hf : OK (f_X4_readWay T A w0 I) (fun z => z = e) := ⟨e, h, rfl⟩
  unfold f_X4_readWay at hf
  obtain ⟨hw0, hf⟩ := ok_grd hf
  refine r_aload_n (pc := 0) S0 0 dX4_readWay_0 rfl rfl ?_
  refine r_getR (pc := 1) S0 hK fl_X4_22 dX4_readWay_1 hf (fun x1 hf => ?_)
  obtain ⟨e2, h3, hf⟩ := ok_bind hf
  refine r_cV_V (pc := 4) [] S0 hK hX mv_X4_90 (k_X8_advance h3) (c_X8_advance l cA D N sx ad T A nx I x1 e2 h3) rfl rfl ⟨by decide, by decide⟩ (Nat.le_of_ble_eq_true rfl) ⟨Nat.le_refl _, Nat.le_refl _⟩ dX4_readWay_4 ?_
  refine r_aload_n (pc := 7) S0 0 dX4_readWay_7 rfl rfl ?_
  refine r_iconst (pc := 8) S0 dX4_readWay_8 ?_
  refine r_aload_n (pc := 9) S0 0 dX4_readWay_9 rfl rfl ?_
  refine r_getR (pc := 10) S0 hK fl_X4_12 dX4_readWay_10 hf (fun x4 hf => ?_)
  refine r_getI (pc := 13) S0 hK fl_X4_99 dX4_readWay_13 hf (fun x5 c6 hf => ?_)
  refine r_iconst (pc := 16) S0 dX4_readWay_16 ?_
  refine r_isub (pc := 17) S0 dX4_readWay_17 ?_
  obtain ⟨e7, h8, hf⟩ := ok_bind hf
  refine r_cV_I (pc := 18) [iv 0, iv (isb x5 1)] S0 hK hX mv_X4_140 (k_X4_takeNumber h8) (c_X4_takeNumber l cA D N sx ad T A nx e2 w0 0 (isb x5 1) (cnz 0 rfl) (cn_wrap _) e7 h8) rfl rfl ⟨by decide, by decide⟩ (Nat.le_of_ble_eq_true rfl) ⟨Nat.le_refl _, Nat.le_refl _⟩ dX4_readWay_18 (fun c9 => ?_)
  refine r_istore_n (pc := 21) (lv' := [(1, iv e7.1), (0, rv ad w0)]) S0 dX4_readWay_21 rfl (by decide) rfl ?_
  refine r_aload_n (pc := 22) S0 1 dX4_readWay_22 rfl rfl ?_
  refine r_iconst (pc := 23) S0 dX4_readWay_23 ?_
  refine r_iload_n (pc := 24) S0 0 dX4_readWay_24 rfl rfl ?_
  refine r_ishl (pc := 25) S0 dX4_readWay_25 ?_
  refine r_aload_n (pc := 26) S0 1 dX4_readWay_26 rfl rfl ?_
  refine r_getR (pc := 27) S0 hK fl_X4_12 dX4_readWay_27 hf (fun x10 hf => ?_)
  refine r_getI (pc := 30) S0 hK fl_X4_99 dX4_readWay_30 hf (fun x11 c12 hf => ?_)
  refine r_iconst (pc := 33) S0 dX4_readWay_33 ?_
  refine r_isub (pc := 34) S0 dX4_readWay_34 ?_
  obtain ⟨e13, h14, hf⟩ := ok_bind hf
  refine r_cV_I (pc := 35) [iv (ishl 1 e7.1), iv (isb x11 1)] S0 hK hX mv_X4_144 (k_X4_takeNumberBut h14) (c_X4_takeNumberBut l cA D N sx ad T A nx e7.2 w0 (ishl 1 e7.1) (isb x11 1) (cn_toInt _) (cn_wrap _) e13 h14) rfl rfl ⟨by decide, by decide⟩ (Nat.le_of_ble_eq_true rfl) ⟨Nat.le_refl _, Nat.le_refl _⟩ dX4_readWay_35 (fun c15 => ?_)
  refine r_istore_n (pc := 38) (lv' := [(2, iv e13.1), (1, iv e7.1), (0, rv ad w0)]) S0 dX4_readWay_38 rfl (by decide) rfl ?_
  refine r_aload_n (pc := 39) S0 2 dX4_readWay_39 rfl rfl ?_
  refine r_iconst (pc := 40) S0 dX4_readWay_40 ?_
  refine r_bipush (pc := 41) S0 dX4_readWay_41 (by decide) ?_
  obtain ⟨e16, h17, hf⟩ := ok_bind hf
  refine r_cV_I (pc := 43) [iv 1, iv 9] S0 hK hX mv_X4_140 (k_X4_takeNumber h17) (c_X4_takeNumber l cA D N sx ad T A nx e13.2 w0 1 9 (cnz 1 rfl) (cnz 9 rfl) e16 h17) rfl rfl ⟨by decide, by decide⟩ (Nat.le_of_ble_eq_true rfl) ⟨Nat.le_refl _, Nat.le_refl _⟩ dX4_readWay_43 (fun c18 => ?_)
  refine r_istore_n (pc := 46) (lv' := [(3, iv e16.1), (2, iv e13.1), (1, iv e7.1), (0, rv ad w0)]) S0 dX4_readWay_46 rfl (by decide) rfl ?_
  refine r_aload_n (pc := 47) S0 3 dX4_readWay_47 rfl rfl ?_
  refine r_getI (pc := 48) S0 hK fl_X4_29 dX4_readWay_48 hf (fun x19 c20 hf => ?_)
  refine r_if_ne (pc := 51) (tgt := 78) S0 dX4_readWay_51 (by decide) c20 hf (fun hf => ?_) (fun hf => ?_)
  · have hz := ok_some hf
    have hz : e16.2 = e := hz
    subst hQ
    subst hz
    exact r_vret (pc := 78) S0 hr hlk dX4_readWay_78
  · refine r_aload_n (pc := 54) S0 3 dX4_readWay_54 rfl rfl ?_
    refine r_getR (pc := 55) S0 hK fl_X4_12 dX4_readWay_55 hf (fun x21 hf => ?_)
    refine r_getR (pc := 58) S0 hK fl_X4_147 dX4_readWay_58 hf (fun x22 hf => ?_)
    refine r_iload_n (pc := 61) S0 2 dX4_readWay_61 rfl rfl ?_
    refine r_aald 24 4 (pc := 62) S0 hK (by decide) rfl rfl dX4_readWay_62 c9 hf (fun x23 hf => ?_)
    refine r_iload_n (pc := 63) S0 1 dX4_readWay_63 rfl rfl ?_
    refine r_iload_n (pc := 64) S0 0 dX4_readWay_64 rfl rfl ?_
    refine r_iast (pc := 65) S0 hK dX4_readWay_65 c15 c18 hf (fun I24 hf => ?_)
    refine r_aload_n (pc := 66) S0 3 dX4_readWay_66 rfl rfl ?_
    refine r_getR (pc := 67) S0 hK fl_X4_12 dX4_readWay_67 hf (fun x25 hf => ?_)
    refine r_getR (pc := 70) S0 hK fl_X4_147 dX4_readWay_70 hf (fun x26 hf => ?_)
    refine r_iload_n (pc := 73) S0 1 dX4_readWay_73 rfl rfl ?_
    refine r_aald 24 4 (pc := 74) S0 hK (by decide) rfl rfl dX4_readWay_74 c15 hf (fun x27 hf => ?_)
    refine r_iload_n (pc := 75) S0 2 dX4_readWay_75 rfl rfl ?_
    refine r_iload_n (pc := 76) S0 0 dX4_readWay_76 rfl rfl ?_
    refine r_iast (pc := 77) S0 hK dX4_readWay_77 c9 c18 hf (fun I28 hf => ?_)
    have hz := ok_some hf
    have hz : I28 = e := hz
    subst hQ
    subst hz
    exact r_vret (pc := 78) S0 hr hlk dX4_readWay_78

set_option maxHeartbeats 4000000 in
set_option maxRecDepth 100000 in
theorem c_X4_readAsking (l : Launch) (cA : Nat → ClassId) (D : va_G) (N : Nat) (sx : Sx) (ad : Nat → Nat) (T : Knd) (A : Rfs) (nx : Nat) (I : Mem) (w0 : Nat) (a1 : Int) (ca1 : cn a1) (e : Mem) (h : f_X4_readAsking T A w0 a1 I = some e) : CtV l yX4_readAsking cX4_readAsking 4 none 5 147 cA D N sx ad T A nx [rv ad w0, iv a1] I e := by
  refine met_of (lv0 := [(0, rv ad w0), (1, iv a1)]) (by decide) (Nat.le_of_ble_eq_true rfl) rfl (fun p e0 s m args below meth c S0 hK hX hr hlk Q hQ => ?_)
  have hf : OK (f_X4_readAsking T A w0 a1 I) (fun z => z = e) := ⟨e, h, rfl⟩
  unfold f_X4_readAsking at hf
  obtain ⟨hw0, hf⟩ := ok_grd hf
  refine r_aload_n (pc := 0) S0 0 dX4_readAsking_0 rfl rfl ?_
  refine r_getR (pc := 1) S0 hK fl_X4_22 dX4_readAsking_1 hf (fun x1 hf => ?_)
  obtain ⟨e2, h3, hf⟩ := ok_bind hf
  refine r_cV_V (pc := 4) [] S0 hK hX mv_X4_90 (k_X8_advance h3) (c_X8_advance l cA D N sx ad T A nx I x1 e2 h3) rfl rfl ⟨by decide, by decide⟩ (Nat.le_of_ble_eq_true rfl) ⟨Nat.le_refl _, Nat.le_refl _⟩ dX4_readAsking_4 ?_
  refine r_aload_n (pc := 7) S0 0 dX4_readAsking_7 rfl rfl ?_
  refine r_iconst (pc := 8) S0 dX4_readAsking_8 ?_
  refine r_aload_n (pc := 9) S0 0 dX4_readAsking_9 rfl rfl ?_
  refine r_getR (pc := 10) S0 hK fl_X4_12 dX4_readAsking_10 hf (fun x4 hf => ?_)
  refine r_getI (pc := 13) S0 hK fl_X4_111 dX4_readAsking_13 hf (fun x5 c6 hf => ?_)
  refine r_iconst (pc := 16) S0 dX4_readAsking_16 ?_
  refine r_isub (pc := 17) S0 dX4_readAsking_17 ?_
  obtain ⟨e7, h8, hf⟩ := ok_bind hf
  refine r_cV_I (pc := 18) [iv 0, iv (isb x5 1)] S0 hK hX mv_X4_140 (k_X4_takeNumber h8) (c_X4_takeNumber l cA D N sx ad T A nx e2 w0 0 (isb x5 1) (cnz 0 rfl) (cn_wrap _) e7 h8) rfl rfl ⟨by decide, by decide⟩ (Nat.le_of_ble_eq_true rfl) ⟨Nat.le_refl _, Nat.le_refl _⟩ dX4_readAsking_18 (fun c9 => ?_)
  refine r_istore_n (pc := 21) (lv' := [(2, iv e7.1), (0, rv ad w0), (1, iv a1)]) S0 dX4_readAsking_21 rfl (by decide) rfl ?_
  refine r_aload_n (pc := 22) S0 1 dX4_readAsking_22 rfl rfl ?_
  refine r_iconst (pc := 23) S0 dX4_readAsking_23 ?_
  refine r_iload_n (pc := 24) S0 0 dX4_readAsking_24 rfl rfl ?_
  refine r_ishl (pc := 25) S0 dX4_readAsking_25 ?_
  refine r_aload_n (pc := 26) S0 1 dX4_readAsking_26 rfl rfl ?_
  refine r_getR (pc := 27) S0 hK fl_X4_12 dX4_readAsking_27 hf (fun x10 hf => ?_)
  refine r_getR (pc := 30) S0 hK fl_X4_136 dX4_readAsking_30 hf (fun x11 hf => ?_)
  refine r_iload_n (pc := 33) S0 2 dX4_readAsking_33 rfl rfl ?_
  refine r_aald 24 4 (pc := 34) S0 hK (by decide) rfl rfl dX4_readAsking_34 ca1 hf (fun x12 hf => ?_)
  refine r_iload_n (pc := 35) S0 0 dX4_readAsking_35 rfl rfl ?_
  refine r_iald (pc := 36) S0 hK dX4_readAsking_36 c9 hf (fun x13 c14 hf => ?_)
  refine r_ior (pc := 37) S0 dX4_readAsking_37 ?_
  refine r_aload_n (pc := 38) S0 1 dX4_readAsking_38 rfl rfl ?_
  refine r_getR (pc := 39) S0 hK fl_X4_12 dX4_readAsking_39 hf (fun x15 hf => ?_)
  refine r_getI (pc := 42) S0 hK fl_X4_111 dX4_readAsking_42 hf (fun x16 c17 hf => ?_)
  refine r_iconst (pc := 45) S0 dX4_readAsking_45 ?_
  refine r_isub (pc := 46) S0 dX4_readAsking_46 ?_
  obtain ⟨e18, h19, hf⟩ := ok_bind hf
  refine r_cV_I (pc := 47) [iv (ior (ishl 1 e7.1) x13), iv (isb x16 1)] S0 hK hX mv_X4_144 (k_X4_takeNumberBut h19) (c_X4_takeNumberBut l cA D N sx ad T A nx e7.2 w0 (ior (ishl 1 e7.1) x13) (isb x16 1) (cn_toInt _) (cn_wrap _) e18 h19) rfl rfl ⟨by decide, by decide⟩ (Nat.le_of_ble_eq_true rfl) ⟨Nat.le_refl _, Nat.le_refl _⟩ dX4_readAsking_47 (fun c20 => ?_)
  refine r_istore_n (pc := 50) (lv' := [(3, iv e18.1), (2, iv e7.1), (0, rv ad w0), (1, iv a1)]) S0 dX4_readAsking_50 rfl (by decide) rfl ?_
  refine r_aload_n (pc := 51) S0 2 dX4_readAsking_51 rfl rfl ?_
  refine r_getI (pc := 52) S0 hK fl_X4_29 dX4_readAsking_52 hf (fun x21 c22 hf => ?_)
  refine r_if_ne (pc := 55) (tgt := 75) S0 dX4_readAsking_55 (by decide) c22 hf (fun hf => ?_) (fun hf => ?_)
  · have hz := ok_some hf
    have hz : e18.2 = e := hz
    subst hQ
    subst hz
    exact r_vret (pc := 75) S0 hr hlk dX4_readAsking_75
  · refine r_aload_n (pc := 58) S0 2 dX4_readAsking_58 rfl rfl ?_
    refine r_getR (pc := 59) S0 hK fl_X4_12 dX4_readAsking_59 hf (fun x23 hf => ?_)
    refine r_getR (pc := 62) S0 hK fl_X4_136 dX4_readAsking_62 hf (fun x24 hf => ?_)
    refine r_iload_n (pc := 65) S0 3 dX4_readAsking_65 rfl rfl ?_
    refine r_aald 24 4 (pc := 66) S0 hK (by decide) rfl rfl dX4_readAsking_66 ca1 hf (fun x25 hf => ?_)
    refine r_iload_n (pc := 67) S0 1 dX4_readAsking_67 rfl rfl ?_
    refine r_dup2 (pc := 68) S0 dX4_readAsking_68 rfl rfl ?_
    refine r_iald (pc := 69) S0 hK dX4_readAsking_69 c9 hf (fun x26 c27 hf => ?_)
    refine r_iconst (pc := 70) S0 dX4_readAsking_70 ?_
    refine r_iload_n (pc := 71) S0 0 dX4_readAsking_71 rfl rfl ?_
    refine r_ishl (pc := 72) S0 dX4_readAsking_72 ?_
    refine r_ior (pc := 73) S0 dX4_readAsking_73 ?_
    refine r_iast (pc := 74) S0 hK dX4_readAsking_74 c9 (cn_toInt _) hf (fun I28 hf => ?_)
    have hz := ok_some hf
    have hz : I28 = e := hz
    subst hQ
    subst hz
    exact r_vret (pc := 75) S0 hr hlk dX4_readAsking_75

set_option maxHeartbeats 4000000 in
set_option maxRecDepth 100000 in
theorem c_X4_readPermit (l : Launch) (cA : Nat → ClassId) (D : va_G) (N : Nat) (sx : Sx) (ad : Nat → Nat) (T : Knd) (A : Rfs) (nx : Nat) (I : Mem) (w0 : Nat)  (e : Mem) (h : f_X4_readPermit T A w0 I = some e) : CtV l yX4_readPermit cX4_readPermit 3 none 4 124 cA D N sx ad T A nx [rv ad w0] I e := by
  refine met_of (lv0 := [(0, rv ad w0)]) (by decide) (Nat.le_of_ble_eq_true rfl) rfl (fun p e0 s m args below meth c S0 hK hX hr hlk Q hQ => ?_)
  have hf : OK (f_X4_readPermit T A w0 I) (fun z => z = e) := ⟨e, h, rfl⟩
  unfold f_X4_readPermit at hf
  obtain ⟨hw0, hf⟩ := ok_grd hf
  refine r_aload_n (pc := 0) S0 0 dX4_readPermit_0 rfl rfl ?_
  refine r_getR (pc := 1) S0 hK fl_X4_22 dX4_readPermit_1 hf (fun x1 hf => ?_)
  obtain ⟨e2, h3, hf⟩ := ok_bind hf
  refine r_cV_V (pc := 4) [] S0 hK hX mv_X4_90 (k_X8_advance h3) (c_X8_advance l cA D N sx ad T A nx I x1 e2 h3) rfl rfl ⟨by decide, by decide⟩ (Nat.le_of_ble_eq_true rfl) ⟨Nat.le_refl _, Nat.le_refl _⟩ dX4_readPermit_4 ?_
  refine r_iconst (pc := 7) S0 dX4_readPermit_7 ?_
  refine r_aload_n (pc := 8) S0 0 dX4_readPermit_8 rfl rfl ?_
  refine r_iconst (pc := 9) S0 dX4_readPermit_9 ?_
  refine r_aload_n (pc := 10) S0 0 dX4_readPermit_10 rfl rfl ?_
  refine r_getR (pc := 11) S0 hK fl_X4_12 dX4_readPermit_11 hf (fun x4 hf => ?_)
  refine r_getI (pc := 14) S0 hK fl_X4_111 dX4_readPermit_14 hf (fun x5 c6 hf => ?_)
  refine r_iconst (pc := 17) S0 dX4_readPermit_17 ?_
  refine r_isub (pc := 18) S0 dX4_readPermit_18 ?_
  obtain ⟨e7, h8, hf⟩ := ok_bind hf
  refine r_cV_I (pc := 19) [iv 0, iv (isb x5 1)] S0 hK hX mv_X4_140 (k_X4_takeNumber h8) (c_X4_takeNumber l cA D N sx ad T A nx e2 w0 0 (isb x5 1) (cnz 0 rfl) (cn_wrap _) e7 h8) rfl rfl ⟨by decide, by decide⟩ (Nat.le_of_ble_eq_true rfl) ⟨Nat.le_refl _, Nat.le_refl _⟩ dX4_readPermit_19 (fun c9 => ?_)
  refine r_ishl (pc := 22) S0 dX4_readPermit_22 ?_
  refine r_istore_n (pc := 23) (lv' := [(1, iv (ishl 1 e7.1)), (0, rv ad w0)]) S0 dX4_readPermit_23 rfl (by decide) rfl ?_
  refine r_iconst (pc := 24) S0 dX4_readPermit_24 ?_
  refine r_istore_n (pc := 25) (lv' := [(2, iv 0), (1, iv (ishl 1 e7.1)), (0, rv ad w0)]) S0 dX4_readPermit_25 rfl (by decide) rfl ?_
  refine thn_rule (P := fun v11 => cn v11.1 → G p l e0 (rmx 4 124) s m args below meth c 0 0 Q cA D N 3 ad T A nx 76 [(0, rv ad w0), (1, iv v11.1)] [] v11.2) hf (fun v11 hf c12 => ?_) (fun K10 hf => ?_)
  · refine r_aload_n (pc := 76) S0 0 dX4_readPermit_76 rfl rfl ?_
    refine r_getR (pc := 77) S0 hK fl_X4_12 dX4_readPermit_77 hf (fun x28 hf => ?_)
    refine r_iload_n (pc := 80) S0 1 dX4_readPermit_80 rfl rfl ?_
    refine r_putI (pc := 81) S0 hK fl_X4_150 rfl rfl c12 dX4_readPermit_81 hf (fun I29 hf => ?_)
    have hz := ok_some hf
    have hz : I29 = e := hz
    subst hQ
    subst hz
    exact r_vret (pc := 84) S0 hr hlk dX4_readPermit_84
  · refine r_lv [2, 1, 0] rfl ?_
    refine it_ind (P := fun s14 => cn s14.1 → cn s14.2.1 → G p l e0 (rmx 4 124) s m args below meth c 0 0 Q cA D N 3 ad T A nx 26 [(0, rv ad w0), (1, iv s14.1), (2, iv s14.2.1)] [] s14.2.2) (fun n0 s14 ih13 hf c15 c16 => ?_) FU (ishl 1 e7.1, 0, e7.2) hf (cn_toInt _) (cnz 0 rfl)
    refine r_iload_n (pc := 26) S0 2 dX4_readPermit_26 rfl rfl ?_
    refine r_sipush (pc := 27) S0 dX4_readPermit_27 (by decide) ?_
    refine r_icmp_ge (pc := 30) (tgt := 76) S0 dX4_readPermit_30 (by decide) c16 (cnz 1600 rfl) hf (fun hf => ?_) (fun hf => ?_)
    · have hz := ok_some hf
      refine r_lv [0, 1] rfl ?_
      exact K10 (s14.1, s14.2.2) hz c15
    · refine r_aload_n (pc := 33) S0 0 dX4_readPermit_33 rfl rfl ?_
      refine r_getI (pc := 34) S0 hK fl_X4_29 dX4_readPermit_34 hf (fun x17 c18 hf => ?_)
      refine r_if_ne (pc := 37) (tgt := 76) S0 dX4_readPermit_37 (by decide) c18 hf (fun hf => ?_) (fun hf => ?_)
      · have hz := ok_some hf
        refine r_lv [0, 1] rfl ?_
        exact K10 (s14.1, s14.2.2) hz c15
      · refine r_aload_n (pc := 40) S0 0 dX4_readPermit_40 rfl rfl ?_
        refine r_getR (pc := 41) S0 hK fl_X4_22 dX4_readPermit_41 hf (fun x19 hf => ?_)
        refine r_getI (pc := 44) S0 hK fl_X4_37 dX4_readPermit_44 hf (fun x20 c21 hf => ?_)
        refine r_iconst (pc := 47) S0 dX4_readPermit_47 ?_
        refine r_icmp_ne (pc := 48) (tgt := 76) S0 dX4_readPermit_48 (by decide) c21 (cnz 2 rfl) hf (fun hf => ?_) (fun hf => ?_)
        · have hz := ok_some hf
          refine r_lv [0, 1] rfl ?_
          exact K10 (s14.1, s14.2.2) hz c15
        · refine r_iload_n (pc := 51) S0 1 dX4_readPermit_51 rfl rfl ?_
          refine r_iconst (pc := 52) S0 dX4_readPermit_52 ?_
          refine r_aload_n (pc := 53) S0 0 dX4_readPermit_53 rfl rfl ?_
          refine r_iconst (pc := 54) S0 dX4_readPermit_54 ?_
          refine r_aload_n (pc := 55) S0 0 dX4_readPermit_55 rfl rfl ?_
          refine r_getR (pc := 56) S0 hK fl_X4_12 dX4_readPermit_56 hf (fun x22 hf => ?_)
          refine r_getI (pc := 59) S0 hK fl_X4_111 dX4_readPermit_59 hf (fun x23 c24 hf => ?_)
          refine r_iconst (pc := 62) S0 dX4_readPermit_62 ?_
          refine r_isub (pc := 63) S0 dX4_readPermit_63 ?_
          obtain ⟨e25, h26, hf⟩ := ok_bind hf
          refine r_cV_I (pc := 64) [iv 0, iv (isb x23 1)] S0 hK hX mv_X4_140 (k_X4_takeNumber h26) (c_X4_takeNumber l cA D N sx ad T A nx s14.2.2 w0 0 (isb x23 1) (cnz 0 rfl) (cn_wrap _) e25 h26) rfl rfl ⟨by decide, by decide⟩ (Nat.le_of_ble_eq_true rfl) ⟨Nat.le_refl _, Nat.le_refl _⟩ dX4_readPermit_64 (fun c27 => ?_)
          refine r_ishl (pc := 67) S0 dX4_readPermit_67 ?_
          refine r_ior (pc := 68) S0 dX4_readPermit_68 ?_
          refine r_istore_n (pc := 69) (lv' := [(1, iv (ior s14.1 (ishl 1 e25.1))), (0, rv ad w0), (2, iv s14.2.1)]) S0 dX4_readPermit_69 rfl (by decide) rfl ?_
          refine r_iinc (pc := 70) (lv' := [(2, iv (ia s14.2.1 1)), (1, iv (ior s14.1 (ishl 1 e25.1))), (0, rv ad w0)]) S0 2 dX4_readPermit_70 rfl (by decide) rfl ?_
          refine r_goto (pc := 73) (tgt := 26) S0 dX4_readPermit_73 (by decide) ?_
          have hz := ok_some hf
          refine r_lv [2, 1, 0] rfl ?_
          exact ih13 (ior s14.1 (ishl 1 e25.1), ia s14.2.1 1, e25.2) hz (cn_toInt _) (cn_wrap _)
