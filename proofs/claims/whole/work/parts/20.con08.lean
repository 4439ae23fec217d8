/-! Contracts, laid by wip/gen/gen.py. -/
set_option maxHeartbeats 4000000 in
set_option maxRecDepth 100000 in
theorem c_X3_goBy (l : Launch) (cA : Nat → ClassId) (D : va_G) (N : Nat) (sx : Sx) (ad : Nat → Nat) (T : Knd) (A : Rfs) (nx : Nat) (I : Mem) (w0 : Nat) (w1 : Nat) (a2 : Int) (ca2 : cn a2) (e : (Int × Mem)) (h : f_X3_goBy T A w0 w1 a2 I = some e) : CtI l yX3_goBy cX3_goBy 4 (some .int) 5 145 cA D N sx ad T A nx [rv ad w0, rv ad w1, iv a2] I e.2 e.1 := by
  refine met_of (lv0 := [(0, rv ad w0), (1, rv ad w1), (2, iv a2)]) (by decide) (Nat.le_of_ble_eq_true rfl) rfl (fun p e0 s m args below meth c S0 hK hX hr hlk Q hQ => ?_)
  have hf : OK (f_X3_goBy T A w0 w1 a2 I) (fun z => z = e) := ⟨e, h, rfl⟩
  unfold f_X3_goBy at hf
  obtain ⟨hw0, hf⟩ := ok_grd hf
  refine r_aload_n (pc := 0) S0 0 dX3_goBy_0 rfl rfl ?_
  refine r_getR (pc := 1) S0 hK fl_X3_21 dX3_goBy_1 hf (fun x1 hf => ?_)
  refine r_aload_n (pc := 4) S0 0 dX3_goBy_4 rfl rfl ?_
  refine r_getR (pc := 5) S0 hK fl_X3_21 dX3_goBy_5 hf (fun x2 hf => ?_)
  refine r_getR (pc := 8) S0 hK fl_X3_39 dX3_goBy_8 hf (fun x3 hf => ?_)
  refine r_getI (pc := 11) S0 hK fl_X3_45 dX3_goBy_11 hf (fun x4 c5 hf => ?_)
  obtain ⟨e6, h7, hf⟩ := ok_bind hf
  refine r_cV_V (pc := 14) [iv x4] S0 hK hX mv_X3_50 (k_X10_beginAt h7) (c_X10_beginAt l cA D N sx ad T A nx I x1 x4 c5 e6 h7) rfl rfl ⟨by decide, by decide⟩ (Nat.le_of_ble_eq_true rfl) ⟨Nat.le_refl _, Nat.le_refl _⟩ dX3_goBy_14 ?_
  refine r_iconst (pc := 17) S0 dX3_goBy_17 ?_
  refine r_istore_n (pc := 18) (lv' := [(3, iv 0), (0, rv ad w0), (1, rv ad w1), (2, iv a2)]) S0 dX3_goBy_18 rfl (by decide) rfl ?_
  refine thn_rule (P := fun v9 => G p l e0 (rmx 5 145) s m args below meth c 0 0 Q cA D N 4 ad T A nx 49 [(0, rv ad w0)] [] v9) hf (fun v9 hf => ?_) (fun K8 hf => ?_)
  · refine r_aload_n (pc := 49) S0 0 dX3_goBy_49 rfl rfl ?_
    refine r_getR (pc := 50) S0 hK fl_X3_21 dX3_goBy_50 hf (fun x22 hf => ?_)
    refine r_getI (pc := 53) S0 hK fl_X3_68 dX3_goBy_53 hf (fun x23 c24 hf => ?_)
    have hz := ok_some hf
    have hz : (x23, v9) = e := hz
    subst hQ
    subst hz
    exact r_iret (pc := 56) S0 hr hlk c24 dX3_goBy_56
  · refine r_lv [1, 2, 3, 0] rfl ?_
    refine it_ind (P := fun s11 => cn s11.1 → G p l e0 (rmx 5 145) s m args below meth c 0 0 Q cA D N 4 ad T A nx 19 [(0, rv ad w0), (1, rv ad w1), (2, iv a2), (3, iv s11.1)] [] s11.2) (fun n0 s11 ih10 hf c12 => ?_) FU (0, e6) hf (cnz 0 rfl)
    refine r_iload_n (pc := 19) S0 3 dX3_goBy_19 rfl rfl ?_
    refine r_aload_n (pc := 20) S0 1 dX3_goBy_20 rfl rfl ?_
    refine r_iload_n (pc := 21) S0 2 dX3_goBy_21 rfl rfl ?_
    obtain ⟨e13, h14, hf⟩ := ok_bind hf
    refine r_cV_I (pc := 22) [iv a2] S0 hK hX mv_X3_54 (k_X7_lengthOf h14) (c_X7_lengthOf l cA D N sx ad T A nx s11.2 w1 a2 ca2 e13 h14) rfl rfl ⟨by decide, by decide⟩ (Nat.le_of_ble_eq_true rfl) ⟨Nat.le_refl _, Nat.le_refl _⟩ dX3_goBy_22 (fun c15 => ?_)
    refine r_icmp_ge (pc := 25) (tgt := 49) S0 dX3_goBy_25 (by decide) c12 c15 hf (fun hf => ?_) (fun hf => ?_)
    · have hz := ok_some hf
      refine r_lv [0] rfl ?_
      exact K8 s11.2 hz
    · refine r_aload_n (pc := 28) S0 0 dX3_goBy_28 rfl rfl ?_
      refine r_aload_n (pc := 29) S0 1 dX3_goBy_29 rfl rfl ?_
      refine r_iload_n (pc := 30) S0 2 dX3_goBy_30 rfl rfl ?_
      refine r_iload_n (pc := 31) S0 3 dX3_goBy_31 rfl rfl ?_
      obtain ⟨e16, h17, hf⟩ := ok_bind hf
      refine r_cV_I (pc := 32) [iv a2, iv s11.1] S0 hK hX mv_X3_60 (k_X7_officialAt h17) (c_X7_officialAt l cA D N sx ad T A nx s11.2 w1 a2 s11.1 ca2 c12 e16 h17) rfl rfl ⟨by decide, by decide⟩ (Nat.le_of_ble_eq_true rfl) ⟨Nat.le_refl _, Nat.le_refl _⟩ dX3_goBy_32 (fun c18 => ?_)
      obtain ⟨e19, h20, hf⟩ := ok_bind hf
      refine r_cV_I (pc := 35) [iv e16] S0 hK hX mv_X3_64 (k_X3_goTo h20) (c_X3_goTo l cA D N sx ad T A nx s11.2 w0 e16 c18 e19 h20) rfl rfl ⟨by decide, by decide⟩ (Nat.le_of_ble_eq_true rfl) ⟨Nat.le_refl _, Nat.le_refl _⟩ dX3_goBy_35 (fun c21 => ?_)
      refine r_if_ne (pc := 38) (tgt := 43) S0 dX3_goBy_38 (by decide) c21 hf (fun hf => ?_) (fun hf => ?_)
      · refine r_iinc (pc := 43) (lv' := [(3, iv (ia s11.1 1)), (0, rv ad w0), (1, rv ad w1), (2, iv a2)]) S0 3 dX3_goBy_43 rfl (by decide) rfl ?_
        refine r_goto (pc := 46) (tgt := 19) S0 dX3_goBy_46 (by decide) ?_
        have hz := ok_some hf
        refine r_lv [1, 2, 3, 0] rfl ?_
        exact ih10 (ia s11.1 1, e19.2) hz (cn_wrap _)
      · refine r_iconst (pc := 41) S0 dX3_goBy_41 ?_
        have hz := ok_some hf
        have hz : ((-1), e19.2) = e := hz
        subst hQ
        subst hz
        exact r_iret (pc := 42) S0 hr hlk (cnz (-1) rfl) dX3_goBy_42

set_option maxHeartbeats 4000000 in
set_option maxRecDepth 100000 in
theorem c_X3_serve (l : Launch) (cA : Nat → ClassId) (D : va_G) (N : Nat) (sx : Sx) (ad : Nat → Nat) (T : Knd) (A : Rfs) (nx : Nat) (I : Mem) (w0 : Nat) (w1 : Nat) (a2 : Int) (a3 : Int) (ca2 : cn a2) (ca3 : cn a3) (e : Mem) (h : f_X3_serve T A w0 w1 a2 a3 I = some e) : CtV l yX3_serve cX3_serve 5 none 6 168 cA D N sx ad T A nx [rv ad w0, rv ad w1, iv a2, iv a3] I e := by
  refine met_of (lv0 := [(0, rv ad w0), (1, rv ad w1), (2, iv a2), (3, iv a3)]) (by decide) (Nat.le_of_ble_eq_true rfl) rfl (fun p e0 s m args below meth c S0 hK hX hr hlk Q hQ => ?_)
  have hf : OK (f_X3_serve T A w0 w1 a2 a3 I) (fun z => z = e) := ⟨e, h, rfl⟩
  unfold f_X3_serve at hf
  obtain ⟨hw0, hf⟩ := ok_grd hf
  refine r_aload_n (pc := 0) S0 0 dX3_serve_0 rfl rfl ?_
  refine r_getR (pc := 1) S0 hK fl_X3_9 dX3_serve_1 hf (fun x1 hf => ?_)
  refine r_iconst (pc := 4) S0 dX3_serve_4 ?_
  obtain ⟨e2, h3, hf⟩ := ok_bind hf
  refine r_cS_V (pc := 5) [rv ad x1, iv 0] S0 hK hX ms_X3_25 (c_J7_fill_53178 l cA D N sx ad T A nx I x1 0 (cnz 0 rfl) e2 h3) rfl rfl ⟨by decide, by decide⟩ (Nat.le_of_ble_eq_true rfl) ⟨Nat.le_refl _, Nat.le_refl _⟩ dX3_serve_5 ?_
  refine r_aload_n (pc := 8) S0 0 dX3_serve_8 rfl rfl ?_
  refine r_getR (pc := 9) S0 hK fl_X3_18 dX3_serve_9 hf (fun x4 hf => ?_)
  refine r_iconst (pc := 12) S0 dX3_serve_12 ?_
  obtain ⟨e5, h6, hf⟩ := ok_bind hf
  refine r_cS_V (pc := 13) [rv ad x4, iv 0] S0 hK hX ms_X3_25 (c_J7_fill_53178 l cA D N sx ad T A nx e2 x4 0 (cnz 0 rfl) e5 h6) rfl rfl ⟨by decide, by decide⟩ (Nat.le_of_ble_eq_true rfl) ⟨Nat.le_refl _, Nat.le_refl _⟩ dX3_serve_13 ?_
  refine r_aload_n (pc := 16) S0 0 dX3_serve_16 rfl rfl ?_
  refine r_getR (pc := 17) S0 hK fl_X3_15 dX3_serve_17 hf (fun x7 hf => ?_)
  refine r_iconst (pc := 20) S0 dX3_serve_20 ?_
  obtain ⟨e8, h9, hf⟩ := ok_bind hf
  refine r_cS_V (pc := 21) [rv ad x7, iv (-1)] S0 hK hX ms_X3_25 (c_J7_fill_53178 l cA D N sx ad T A nx e5 x7 (-1) (cnz (-1) rfl) e8 h9) rfl rfl ⟨by decide, by decide⟩ (Nat.le_of_ble_eq_true rfl) ⟨Nat.le_refl _, Nat.le_refl _⟩ dX3_serve_21 ?_
  refine r_aload_n (pc := 24) S0 0 dX3_serve_24 rfl rfl ?_
  refine r_iconst (pc := 25) S0 dX3_serve_25 ?_
  refine r_putI (pc := 26) S0 hK fl_X3_31 rfl rfl (cnz 0 rfl) dX3_serve_26 hf (fun I10 hf => ?_)
  refine r_iconst (pc := 29) S0 dX3_serve_29 ?_
  refine r_istore (pc := 30) (lv' := [(4, iv 0), (0, rv ad w0), (1, rv ad w1), (2, iv a2), (3, iv a3)]) S0 dX3_serve_30 (by decide) rfl ?_
  refine r_lv [1, 2, 3, 4, 0] rfl ?_
  refine it_ind (P := fun s12 => cn s12.1 → G p l e0 (rmx 6 168) s m args below meth c 0 0 Q cA D N 5 ad T A nx 32 [(0, rv ad w0), (1, rv ad w1), (2, iv a2), (3, iv a3), (4, iv s12.1)] [] s12.2) (fun n0 s12 ih11 hf c13 => ?_) FU (0, I10) hf (cnz 0 rfl)
  refine r_iload (pc := 32) S0 4 dX3_serve_32 rfl ?_
  refine r_iload_n (pc := 34) S0 3 dX3_serve_34 rfl rfl ?_
  refine r_icmp_ge (pc := 35) (tgt := 64) S0 dX3_serve_35 (by decide) c13 ca3 hf (fun hf => ?_) (fun hf => ?_)
  · have hz := ok_some hf
    have hz : s12.2 = e := hz
    subst hQ
    subst hz
    exact r_vret (pc := 64) S0 hr hlk dX3_serve_64
  · refine r_iload (pc := 38) S0 4 dX3_serve_38 rfl ?_
    refine r_bipush (pc := 40) S0 dX3_serve_40 (by decide) ?_
    refine r_icmp_ge (pc := 42) (tgt := 64) S0 dX3_serve_42 (by decide) c13 (cnz 9 rfl) hf (fun hf => ?_) (fun hf => ?_)
    · have hz := ok_some hf
      have hz : s12.2 = e := hz
      subst hQ
      subst hz
      exact r_vret (pc := 64) S0 hr hlk dX3_serve_64
    · refine r_aload_n (pc := 45) S0 0 dX3_serve_45 rfl rfl ?_
      refine r_getR (pc := 46) S0 hK fl_X3_15 dX3_serve_46 hf (fun x14 hf => ?_)
      refine r_iload (pc := 49) S0 4 dX3_serve_49 rfl ?_
      refine r_aload_n (pc := 51) S0 0 dX3_serve_51 rfl rfl ?_
      refine r_aload_n (pc := 52) S0 1 dX3_serve_52 rfl rfl ?_
      refine r_iload_n (pc := 53) S0 2 dX3_serve_53 rfl rfl ?_
      obtain ⟨e15, h16, hf⟩ := ok_bind hf
      refine r_cV_I (pc := 54) [rv ad w1, iv a2] S0 hK hX mv_X3_35 (k_X3_goBy h16) (c_X3_goBy l cA D N sx ad T A nx s12.2 w0 w1 a2 ca2 e15 h16) rfl rfl ⟨by decide, by decide⟩ (Nat.le_of_ble_eq_true rfl) ⟨Nat.le_refl _, Nat.le_refl _⟩ dX3_serve_54 (fun c17 => ?_)
      refine r_iast (pc := 57) S0 hK dX3_serve_57 c13 c17 hf (fun I18 hf => ?_)
      refine r_iinc (pc := 58) (lv' := [(4, iv (ia s12.1 1)), (0, rv ad w0), (1, rv ad w1), (2, iv a2), (3, iv a3)]) S0 4 dX3_serve_58 rfl (by decide) rfl ?_
      refine r_goto (pc := 61) (tgt := 32) S0 dX3_serve_61 (by decide) ?_
      have hz := ok_some hf
      refine r_lv [1, 2, 3, 4, 0] rfl ?_
      exact ih11 (ia s12.1 1, I18) hz (cn_wrap _)

set_option maxHeartbeats 4000000 in
set_option maxRecDepth 100000 in
theorem c_X3_lastThrough (l : Launch) (cA : Nat → ClassId) (D : va_G) (N : Nat) (sx : Sx) (ad : Nat → Nat) (T : Knd) (A : Rfs) (nx : Nat) (I : Mem) (w0 : Nat) (a1 : Int) (ca1 : cn a1) (e : Int) (h : f_X3_lastThrough T A w0 a1 I = some e) : CtI l yX3_lastThrough cX3_lastThrough 4 (some .int) 2 81 cA D N sx ad T A nx [rv ad w0, iv a1] I I e := by
  refine met_of (lv0 := [(0, rv ad w0), (1, iv a1)]) (by decide) (Nat.le_of_ble_eq_true rfl) rfl (fun p e0 s m args below meth c S0 hK hX hr hlk Q hQ => ?_)
  have hf : OK (f_X3_lastThrough T A w0 a1 I) (fun z => z = e) := ⟨e, h, rfl⟩
  unfold f_X3_lastThrough at hf
  obtain ⟨hw0, hf⟩ := ok_grd hf
  refine r_iconst (pc := 0) S0 dX3_lastThrough_0 ?_
  refine r_istore_n (pc := 1) (lv' := [(2, iv 0), (0, rv ad w0), (1, iv a1)]) S0 dX3_lastThrough_1 rfl (by decide) rfl ?_
  refine r_iconst (pc := 2) S0 dX3_lastThrough_2 ?_
  refine r_istore_n (pc := 3) (lv' := [(3, iv 0), (2, iv 0), (0, rv ad w0), (1, iv a1)]) S0 dX3_lastThrough_3 rfl (by decide) rfl ?_
  refine r_lv [2, 3, 1, 0] rfl ?_
  refine it_ind (P := fun s2 => cn s2.1 → cn s2.2 → G p l e0 (rmx 2 81) s m args below meth c 0 0 Q cA D N 4 ad T A nx 4 [(0, rv ad w0), (1, iv a1), (2, iv s2.1), (3, iv s2.2)] [] I) (fun n0 s2 ih1 hf c3 c4 => ?_) FU (0, 0) hf (cnz 0 rfl) (cnz 0 rfl)
  refine r_iload_n (pc := 4) S0 3 dX3_lastThrough_4 rfl rfl ?_
  refine r_iload_n (pc := 5) S0 1 dX3_lastThrough_5 rfl rfl ?_
  refine r_icmp_ge (pc := 6) (tgt := 44) S0 dX3_lastThrough_6 (by decide) c4 ca1 hf (fun hf => ?_) (fun hf => ?_)
  · refine r_iload_n (pc := 44) S0 2 dX3_lastThrough_44 rfl rfl ?_
    have hz := ok_some hf
    have hz : s2.1 = e := hz
    subst hQ
    subst hz
    exact r_iret (pc := 45) S0 hr hlk c3 dX3_lastThrough_45
  · refine r_iload_n (pc := 9) S0 3 dX3_lastThrough_9 rfl rfl ?_
    refine r_bipush (pc := 10) S0 dX3_lastThrough_10 (by decide) ?_
    refine r_icmp_ge (pc := 12) (tgt := 44) S0 dX3_lastThrough_12 (by decide) c4 (cnz 9 rfl) hf (fun hf => ?_) (fun hf => ?_)
    · refine r_iload_n (pc := 44) S0 2 dX3_lastThrough_44 rfl rfl ?_
      have hz := ok_some hf
      have hz : s2.1 = e := hz
      subst hQ
      subst hz
      exact r_iret (pc := 45) S0 hr hlk c3 dX3_lastThrough_45
    · refine r_aload_n (pc := 15) S0 0 dX3_lastThrough_15 rfl rfl ?_
      refine r_getR (pc := 16) S0 hK fl_X3_15 dX3_lastThrough_16 hf (fun x5 hf => ?_)
      refine r_iload_n (pc := 19) S0 3 dX3_lastThrough_19 rfl rfl ?_
      refine r_iald (pc := 20) S0 hK dX3_lastThrough_20 c4 hf (fun x6 c7 hf => ?_)
      refine r_iconst (pc := 21) S0 dX3_lastThrough_21 ?_
      refine r_icmp_ne (pc := 22) (tgt := 27) S0 dX3_lastThrough_22 (by decide) c7 (cnz (-1) rfl) hf (fun hf => ?_) (fun hf => ?_)
      · refine r_iload_n (pc := 27) S0 2 dX3_lastThrough_27 rfl rfl ?_
        refine r_aload_n (pc := 28) S0 0 dX3_lastThrough_28 rfl rfl ?_
        refine r_getR (pc := 29) S0 hK fl_X3_15 dX3_lastThrough_29 hf (fun x8 hf => ?_)
        refine r_iload_n (pc := 32) S0 3 dX3_lastThrough_32 rfl rfl ?_
        refine r_iald (pc := 33) S0 hK dX3_lastThrough_33 c4 hf (fun x9 c10 hf => ?_)
        refine r_mmax (pc := 34) S0 mmmax_X3_106 ⟨by decide, Nat.le_of_ble_eq_true rfl⟩ ⟨Nat.le_refl _, Nat.le_refl _⟩ dX3_lastThrough_34 c3 c10 ?_
        refine r_istore_n (pc := 37) (lv' := [(2, iv (imax s2.1 x9)), (0, rv ad w0), (1, iv a1), (3, iv s2.2)]) S0 dX3_lastThrough_37 rfl (by decide) rfl ?_
        refine r_iinc (pc := 38) (lv' := [(3, iv (ia s2.2 1)), (2, iv (imax s2.1 x9)), (0, rv ad w0), (1, iv a1)]) S0 3 dX3_lastThrough_38 rfl (by decide) rfl ?_
        refine r_goto (pc := 41) (tgt := 4) S0 dX3_lastThrough_41 (by decide) ?_
        have hz := ok_some hf
        refine r_lv [2, 3, 1, 0] rfl ?_
        exact ih1 (imax s2.1 x9, ia s2.2 1) hz (cn_imax c3 c10) (cn_wrap _)
      · refine r_iconst (pc := 25) S0 dX3_lastThrough_25 ?_
        have hz := ok_some hf
        have hz : (-1) = e := hz
        subst hQ
        subst hz
        exact r_iret (pc := 26) S0 hr hlk (cnz (-1) rfl) dX3_lastThrough_26

set_option maxHeartbeats 4000000 in
set_option maxRecDepth 100000 in
theorem c_X11_run (l : Launch) (cA : Nat → ClassId) (D : va_G) (N : Nat) (sx : Sx) (ad : Nat → Nat) (T : Knd) (A : Rfs) (nx : Nat) (I : Mem) (w0 : Nat) (a1 : Int) (ca1 : cn a1) (e : (Int × Mem)) (h : f_X11_run T A w0 a1 I = some e) : CtI l yX11_run cX11_run 3 (some .int) 7 192 cA D N sx ad T A nx [rv ad w0, iv a1] I e.2 e.1 := by
  refine met_of (lv0 := [(0, rv ad w0), (1, iv a1)]) (by decide) (Nat.le_of_ble_eq_true rfl) rfl (fun p e0 s m args below meth c S0 hK hX hr hlk Q hQ => ?_)
  have hf : OK (f_X11_run T A w0 a1 I) (fun z => z = e) := ⟨e, h, rfl⟩
  unfold f_X11_run at hf
  obtain ⟨hw0, hf⟩ := ok_grd hf
  refine r_aload_n (pc := 0) S0 0 dX11_run_0 rfl rfl ?_
  refine r_iload_n (pc := 1) S0 1 dX11_run_1 rfl rfl ?_
  obtain ⟨e1, h2, hf⟩ := ok_bind hf
  refine r_cV_I (pc := 2) [iv a1] S0 hK hX mv_X11_316 (k_X11_refusal h2) (c_X11_refusal l cA D N sx ad T A nx I w0 a1 ca1 e1 h2) rfl rfl ⟨by decide, by decide⟩ (Nat.le_of_ble_eq_true rfl) ⟨Nat.le_refl _, Nat.le_refl _⟩ dX11_run_2 (fun c3 => ?_)
  refine r_istore_n (pc := 5) (lv' := [(2, iv e1), (0, rv ad w0), (1, iv a1)]) S0 dX11_run_5 rfl (by decide) rfl ?_
  refine r_iload_n (pc := 6) S0 0 dX11_run_6 rfl rfl ?_
  refine r_if_eq (pc := 7) (tgt := 12) S0 dX11_run_7 (by decide) c3 hf (fun hf => ?_) (fun hf => ?_)
  · refine r_aload_n (pc := 12) S0 1 dX11_run_12 rfl rfl ?_
    refine r_getR (pc := 13) S0 hK fl_X11_90 dX11_run_13 hf (fun x4 hf => ?_)
    refine r_aload_n (pc := 16) S0 1 dX11_run_16 rfl rfl ?_
    refine r_getR (pc := 17) S0 hK fl_X11_83 dX11_run_17 hf (fun x5 hf => ?_)
    refine r_iload_n (pc := 20) S0 2 dX11_run_20 rfl rfl ?_
    refine r_iconst (pc := 21) S0 dX11_run_21 ?_
    obtain ⟨e6, h7, hf⟩ := ok_bind hf
    refine r_cV_V (pc := 22) [rv ad x5, iv a1, iv 1] S0 hK hX mv_X11_326 (k_X3_serve h7) (c_X3_serve l cA D N sx ad T A nx I x4 x5 a1 1 ca1 (cnz 1 rfl) e6 h7) rfl rfl ⟨by decide, by decide⟩ (Nat.le_of_ble_eq_true rfl) ⟨Nat.le_refl _, Nat.le_refl _⟩ dX11_run_22 ?_
    refine r_aload_n (pc := 25) S0 1 dX11_run_25 rfl rfl ?_
    refine r_getR (pc := 26) S0 hK fl_X11_90 dX11_run_26 hf (fun x8 hf => ?_)
    refine r_iconst (pc := 29) S0 dX11_run_29 ?_
    obtain ⟨e9, h10, hf⟩ := ok_bind hf
    refine r_cV_I (pc := 30) [iv 1] S0 hK hX mv_X11_330 (k_X3_lastThrough h10) (c_X3_lastThrough l cA D N sx ad T A nx e6 x8 1 (cnz 1 rfl) e9 h10) rfl rfl ⟨by decide, by decide⟩ (Nat.le_of_ble_eq_true rfl) ⟨Nat.le_refl _, Nat.le_refl _⟩ dX11_run_30 (fun c11 => ?_)
    have hz := ok_some hf
    have hz : (e9, e6) = e := hz
    subst hQ
    subst hz
    exact r_iret (pc := 33) S0 hr hlk c11 dX11_run_33
  · refine r_iload_n (pc := 10) S0 0 dX11_run_10 rfl rfl ?_
    have hz := ok_some hf
    have hz : (e1, I) = e := hz
    subst hQ
    subst hz
    exact r_iret (pc := 11) S0 hr hlk c3 dX11_run_11

set_option maxHeartbeats 4000000 in
set_option maxRecDepth 100000 in
theorem c_X11_queue (l : Launch) (cA : Nat → ClassId) (D : va_G) (N : Nat) (sx : Sx) (ad : Nat → Nat) (T : Knd) (A : Rfs) (nx : Nat) (I : Mem) (w0 : Nat) (a1 : Int) (a2 : Int) (ca1 : cn a1) (ca2 : cn a2) (e : (Int × Mem)) (h : f_X11_queue T A w0 a1 a2 I = some e) : CtI l yX11_queue cX11_queue 4 (some .int) 7 192 cA D N sx ad T A nx [rv ad w0, iv a1, iv a2] I e.2 e.1 := by
  refine met_of (lv0 := [(0, rv ad w0), (1, iv a1), (2, iv a2)]) (by decide) (Nat.le_of_ble_eq_true rfl) rfl (fun p e0 s m args below meth c S0 hK hX hr hlk Q hQ => ?_)
  have hf : OK (f_X11_queue T A w0 a1 a2 I) (fun z => z = e) := ⟨e, h, rfl⟩
  unfold f_X11_queue at hf
  obtain ⟨hw0, hf⟩ := ok_grd hf
  refine r_iload_n (pc := 0) S0 2 dX11_queue_0 rfl rfl ?_
  refine r_iconst (pc := 1) S0 dX11_queue_1 ?_
  refine r_icmp_lt (pc := 2) (tgt := 11) S0 dX11_queue_2 (by decide) ca2 (cnz 1 rfl) hf (fun hf => ?_) (fun hf => ?_)
  · refine r_bipush (pc := 11) S0 dX11_queue_11 (by decide) ?_
    have hz := ok_some hf
    have hz : ((-2), I) = e := hz
    subst hQ
    subst hz
    exact r_iret (pc := 13) S0 hr hlk (cnz (-2) rfl) dX11_queue_13
  · refine r_iload_n (pc := 5) S0 2 dX11_queue_5 rfl rfl ?_
    refine r_bipush (pc := 6) S0 dX11_queue_6 (by decide) ?_
    refine r_icmp_le (pc := 8) (tgt := 14) S0 dX11_queue_8 (by decide) ca2 (cnz 9 rfl) hf (fun hf => ?_) (fun hf => ?_)
    · refine r_aload_n (pc := 14) S0 0 dX11_queue_14 rfl rfl ?_
      refine r_iload_n (pc := 15) S0 1 dX11_queue_15 rfl rfl ?_
      obtain ⟨e1, h2, hf⟩ := ok_bind hf
      refine r_cV_I (pc := 16) [iv a1] S0 hK hX mv_X11_316 (k_X11_refusal h2) (c_X11_refusal l cA D N sx ad T A nx I w0 a1 ca1 e1 h2) rfl rfl ⟨by decide, by decide⟩ (Nat.le_of_ble_eq_true rfl) ⟨Nat.le_refl _, Nat.le_refl _⟩ dX11_queue_16 (fun c3 => ?_)
      refine r_istore_n (pc := 19) (lv' := [(3, iv e1), (0, rv ad w0), (1, iv a1), (2, iv a2)]) S0 dX11_queue_19 rfl (by decide) rfl ?_
      refine r_iload_n (pc := 20) S0 0 dX11_queue_20 rfl rfl ?_
      refine r_if_eq (pc := 21) (tgt := 26) S0 dX11_queue_21 (by decide) c3 hf (fun hf => ?_) (fun hf => ?_)
      · refine r_aload_n (pc := 26) S0 1 dX11_queue_26 rfl rfl ?_
        refine r_getR (pc := 27) S0 hK fl_X11_90 dX11_queue_27 hf (fun x4 hf => ?_)
        refine r_aload_n (pc := 30) S0 1 dX11_queue_30 rfl rfl ?_
        refine r_getR (pc := 31) S0 hK fl_X11_83 dX11_queue_31 hf (fun x5 hf => ?_)
        refine r_iload_n (pc := 34) S0 2 dX11_queue_34 rfl rfl ?_
        refine r_iload_n (pc := 35) S0 3 dX11_queue_35 rfl rfl ?_
        obtain ⟨e6, h7, hf⟩ := ok_bind hf
        refine r_cV_V (pc := 36) [rv ad x5, iv a1, iv a2] S0 hK hX mv_X11_326 (k_X3_serve h7) (c_X3_serve l cA D N sx ad T A nx I x4 x5 a1 a2 ca1 ca2 e6 h7) rfl rfl ⟨by decide, by decide⟩ (Nat.le_of_ble_eq_true rfl) ⟨Nat.le_refl _, Nat.le_refl _⟩ dX11_queue_36 ?_
        refine r_aload_n (pc := 39) S0 1 dX11_queue_39 rfl rfl ?_
        refine r_getR (pc := 40) S0 hK fl_X11_90 dX11_queue_40 hf (fun x8 hf => ?_)
        refine r_iload_n (pc := 43) S0 3 dX11_queue_43 rfl rfl ?_
        obtain ⟨e9, h10, hf⟩ := ok_bind hf
        refine r_cV_I (pc := 44) [iv a2] S0 hK hX mv_X11_330 (k_X3_lastThrough h10) (c_X3_lastThrough l cA D N sx ad T A nx e6 x8 a2 ca2 e9 h10) rfl rfl ⟨by decide, by decide⟩ (Nat.le_of_ble_eq_true rfl) ⟨Nat.le_refl _, Nat.le_refl _⟩ dX11_queue_44 (fun c11 => ?_)
        have hz := ok_some hf
        have hz : (e9, e6) = e := hz
        subst hQ
        subst hz
        exact r_iret (pc := 47) S0 hr hlk c11 dX11_queue_47
      · refine r_iload_n (pc := 24) S0 0 dX11_queue_24 rfl rfl ?_
        have hz := ok_some hf
        have hz : (e1, I) = e := hz
        subst hQ
        subst hz
        exact r_iret (pc := 25) S0 hr hlk c3 dX11_queue_25
    · refine r_bipush (pc := 11) S0 dX11_queue_11 (by decide) ?_
      have hz := ok_some hf
      have hz : ((-2), I) = e := hz
      subst hQ
      subst hz
      exact r_iret (pc := 13) S0 hr hlk (cnz (-2) rfl) dX11_queue_13

set_option maxHeartbeats 4000000 in
set_option maxRecDepth 100000 in
theorem c_X3_throughBy (l : Launch) (cA : Nat → ClassId) (D : va_G) (N : Nat) (sx : Sx) (ad : Nat → Nat) (T : Knd) (A : Rfs) (nx : Nat) (I : Mem) (w0 : Nat) (a1 : Int) (ca1 : cn a1) (e : Int) (h : f_X3_throughBy T A w0 a1 I = some e) : CtI l yX3_throughBy cX3_throughBy 4 (some .int) 1 60 cA D N sx ad T A nx [rv ad w0, iv a1] I I e := by
  refine met_of (lv0 := [(0, rv ad w0), (1, iv a1)]) (by decide) (Nat.le_of_ble_eq_true rfl) rfl (fun p e0 s m args below meth c S0 hK hX hr hlk Q hQ => ?_)
  have hf : OK (f_X3_throughBy T A w0 a1 I) (fun z => z = e) := ⟨e, h, rfl⟩
  unfold f_X3_throughBy at hf
  obtain ⟨hw0, hf⟩ := ok_grd hf
  refine r_iconst (pc := 0) S0 dX3_throughBy_0 ?_
  refine r_istore_n (pc := 1) (lv' := [(2, iv 0), (0, rv ad w0), (1, iv a1)]) S0 dX3_throughBy_1 rfl (by decide) rfl ?_
  refine r_iconst (pc := 2) S0 dX3_throughBy_2 ?_
  refine r_istore_n (pc := 3) (lv' := [(3, iv 0), (2, iv 0), (0, rv ad w0), (1, iv a1)]) S0 dX3_throughBy_3 rfl (by decide) rfl ?_
  refine r_lv [2, 3, 1, 0] rfl ?_
  refine it_ind (P := fun s2 => cn s2.1 → cn s2.2 → G p l e0 (rmx 1 60) s m args below meth c 0 0 Q cA D N 4 ad T A nx 4 [(0, rv ad w0), (1, iv a1), (2, iv s2.1), (3, iv s2.2)] [] I) (fun n0 s2 ih1 hf c3 c4 => ?_) FU (0, 0) hf (cnz 0 rfl) (cnz 0 rfl)
  refine r_iload_n (pc := 4) S0 3 dX3_throughBy_4 rfl rfl ?_
  refine r_bipush (pc := 5) S0 dX3_throughBy_5 (by decide) ?_
  refine r_icmp_ge (pc := 7) (tgt := 39) S0 dX3_throughBy_7 (by decide) c4 (cnz 9 rfl) hf (fun hf => ?_) (fun hf => ?_)
  · refine r_iload_n (pc := 39) S0 2 dX3_throughBy_39 rfl rfl ?_
    have hz := ok_some hf
    have hz : s2.1 = e := hz
    subst hQ
    subst hz
    exact r_iret (pc := 40) S0 hr hlk c3 dX3_throughBy_40
  · refine r_aload_n (pc := 10) S0 0 dX3_throughBy_10 rfl rfl ?_
    refine r_getR (pc := 11) S0 hK fl_X3_15 dX3_throughBy_11 hf (fun x5 hf => ?_)
    refine r_iload_n (pc := 14) S0 3 dX3_throughBy_14 rfl rfl ?_
    refine r_iald (pc := 15) S0 hK dX3_throughBy_15 c4 hf (fun x6 c7 hf => ?_)
    refine r_iconst (pc := 16) S0 dX3_throughBy_16 ?_
    refine r_icmp_eq (pc := 17) (tgt := 33) S0 dX3_throughBy_17 (by decide) c7 (cnz (-1) rfl) hf (fun hf => ?_) (fun hf => ?_)
    · refine r_iinc (pc := 33) (lv' := [(3, iv (ia s2.2 1)), (0, rv ad w0), (1, iv a1), (2, iv s2.1)]) S0 3 dX3_throughBy_33 rfl (by decide) rfl ?_
      refine r_goto (pc := 36) (tgt := 4) S0 dX3_throughBy_36 (by decide) ?_
      have hz := ok_some hf
      refine r_lv [1, 2, 3, 0] rfl ?_
      exact ih1 (s2.1, ia s2.2 1) hz c3 (cn_wrap _)
    · refine r_aload_n (pc := 20) S0 0 dX3_throughBy_20 rfl rfl ?_
      refine r_getR (pc := 21) S0 hK fl_X3_15 dX3_throughBy_21 hf (fun x8 hf => ?_)
      refine r_iload_n (pc := 24) S0 3 dX3_throughBy_24 rfl rfl ?_
      refine r_iald (pc := 25) S0 hK dX3_throughBy_25 c4 hf (fun x9 c10 hf => ?_)
      refine r_iload_n (pc := 26) S0 1 dX3_throughBy_26 rfl rfl ?_
      refine r_icmp_gt (pc := 27) (tgt := 33) S0 dX3_throughBy_27 (by decide) c10 ca1 hf (fun hf => ?_) (fun hf => ?_)
      · refine r_iinc (pc := 33) (lv' := [(3, iv (ia s2.2 1)), (0, rv ad w0), (1, iv a1), (2, iv s2.1)]) S0 3 dX3_throughBy_33 rfl (by decide) rfl ?_
        refine r_goto (pc := 36) (tgt := 4) S0 dX3_throughBy_36 (by decide) ?_
        have hz := ok_some hf
        refine r_lv [1, 2, 3, 0] rfl ?_
        exact ih1 (s2.1, ia s2.2 1) hz c3 (cn_wrap _)
      · refine r_iinc (pc := 30) (lv' := [(2, iv (ia s2.1 1)), (0, rv ad w0), (1, iv a1), (3, iv s2.2)]) S0 2 dX3_throughBy_30 rfl (by decide) rfl ?_
        refine r_iinc (pc := 33) (lv' := [(3, iv (ia s2.2 1)), (2, iv (ia s2.1 1)), (0, rv ad w0), (1, iv a1)]) S0 3 dX3_throughBy_33 rfl (by decide) rfl ?_
        refine r_goto (pc := 36) (tgt := 4) S0 dX3_throughBy_36 (by decide) ?_
        have hz := ok_some hf
        refine r_lv [2, 3, 1, 0] rfl ?_
        exact ih1 (ia s2.1 1, ia s2.2 1) hz (cn_wrap _) (cn_wrap _)

set_option maxHeartbeats 4000000 in
set_option maxRecDepth 100000 in
theorem c_X11_served (l : Launch) (cA : Nat → ClassId) (D : va_G) (N : Nat) (sx : Sx) (ad : Nat → Nat) (T : Knd) (A : Rfs) (nx : Nat) (I : Mem) (w0 : Nat) (a1 : Int) (a2 : Int) (ca1 : cn a1) (ca2 : cn a2) (e : (Int × Mem)) (h : f_X11_served T A w0 a1 a2 I = some e) : CtI l yX11_served cX11_served 4 (some .int) 7 192 cA D N sx ad T A nx [rv ad w0, iv a1, iv a2] I e.2 e.1 := by
  refine met_of (lv0 := [(0, rv ad w0), (1, iv a1), (2, iv a2)]) (by decide) (Nat.le_of_ble_eq_true rfl) rfl (fun p e0 s m args below meth c S0 hK hX hr hlk Q hQ => ?_)
  have hf : OK (f_X11_served T A w0 a1 a2 I) (fun z => z = e) := ⟨e, h, rfl⟩
  unfold f_X11_served at hf
  obtain ⟨hw0, hf⟩ := ok_grd hf
  refine r_iload_n (pc := 0) S0 2 dX11_served_0 rfl rfl ?_
  refine r_if_lt (pc := 1) (tgt := 11) S0 dX11_served_1 (by decide) ca2 hf (fun hf => ?_) (fun hf => ?_)
  · refine r_bipush (pc := 11) S0 dX11_served_11 (by decide) ?_
    have hz := ok_some hf
    have hz : ((-2), I) = e := hz
    subst hQ
    subst hz
    exact r_iret (pc := 13) S0 hr hlk (cnz (-2) rfl) dX11_served_13
  · refine r_iload_n (pc := 4) S0 2 dX11_served_4 rfl rfl ?_
    refine r_sipush (pc := 5) S0 dX11_served_5 (by decide) ?_
    refine r_icmp_le (pc := 8) (tgt := 14) S0 dX11_served_8 (by decide) ca2 (cnz 400 rfl) hf (fun hf => ?_) (fun hf => ?_)
    · refine r_aload_n (pc := 14) S0 0 dX11_served_14 rfl rfl ?_
      refine r_iload_n (pc := 15) S0 1 dX11_served_15 rfl rfl ?_
      obtain ⟨e1, h2, hf⟩ := ok_bind hf
      refine r_cV_I (pc := 16) [iv a1] S0 hK hX mv_X11_316 (k_X11_refusal h2) (c_X11_refusal l cA D N sx ad T A nx I w0 a1 ca1 e1 h2) rfl rfl ⟨by decide, by decide⟩ (Nat.le_of_ble_eq_true rfl) ⟨Nat.le_refl _, Nat.le_refl _⟩ dX11_served_16 (fun c3 => ?_)
      refine r_istore_n (pc := 19) (lv' := [(3, iv e1), (0, rv ad w0), (1, iv a1), (2, iv a2)]) S0 dX11_served_19 rfl (by decide) rfl ?_
      refine r_iload_n (pc := 20) S0 0 dX11_served_20 rfl rfl ?_
      refine r_if_eq (pc := 21) (tgt := 26) S0 dX11_served_21 (by decide) c3 hf (fun hf => ?_) (fun hf => ?_)
      · refine r_aload_n (pc := 26) S0 1 dX11_served_26 rfl rfl ?_
        refine r_getR (pc := 27) S0 hK fl_X11_90 dX11_served_27 hf (fun x4 hf => ?_)
        refine r_aload_n (pc := 30) S0 1 dX11_served_30 rfl rfl ?_
        refine r_getR (pc := 31) S0 hK fl_X11_83 dX11_served_31 hf (fun x5 hf => ?_)
        refine r_iload_n (pc := 34) S0 2 dX11_served_34 rfl rfl ?_
        refine r_bipush (pc := 35) S0 dX11_served_35 (by decide) ?_
        obtain ⟨e6, h7, hf⟩ := ok_bind hf
        refine r_cV_V (pc := 37) [rv ad x5, iv a1, iv 9] S0 hK hX mv_X11_326 (k_X3_serve h7) (c_X3_serve l cA D N sx ad T A nx I x4 x5 a1 9 ca1 (cnz 9 rfl) e6 h7) rfl rfl ⟨by decide, by decide⟩ (Nat.le_of_ble_eq_true rfl) ⟨Nat.le_refl _, Nat.le_refl _⟩ dX11_served_37 ?_
        refine r_aload_n (pc := 40) S0 1 dX11_served_40 rfl rfl ?_
        refine r_getR (pc := 41) S0 hK fl_X11_90 dX11_served_41 hf (fun x8 hf => ?_)
        refine r_iload_n (pc := 44) S0 3 dX11_served_44 rfl rfl ?_
        obtain ⟨e9, h10, hf⟩ := ok_bind hf
        refine r_cV_I (pc := 45) [iv a2] S0 hK hX mv_X11_333 (k_X3_throughBy h10) (c_X3_throughBy l cA D N sx ad T A nx e6 x8 a2 ca2 e9 h10) rfl rfl ⟨by decide, by decide⟩ (Nat.le_of_ble_eq_true rfl) ⟨Nat.le_refl _, Nat.le_refl _⟩ dX11_served_45 (fun c11 => ?_)
        have hz := ok_some hf
        have hz : (e9, e6) = e := hz
        subst hQ
        subst hz
        exact r_iret (pc := 48) S0 hr hlk c11 dX11_served_48
      · refine r_iload_n (pc := 24) S0 0 dX11_served_24 rfl rfl ?_
        have hz := ok_some hf
        have hz : (e1, I) = e := hz
        subst hQ
        subst hz
        exact r_iret (pc := 25) S0 hr hlk c3 dX11_served_25
    · refine r_bipush (pc := 11) S0 dX11_served_11 (by decide) ?_
      have hz := ok_some hf
      have hz : ((-2), I) = e := hz
      subst hQ
      subst hz
      exact r_iret (pc := 13) S0 hr hlk (cnz (-2) rfl) dX11_served_13

set_option maxHeartbeats 4000000 in
set_option maxRecDepth 100000 in
theorem c_X3_longestWaitedAt (l : Launch) (cA : Nat → ClassId) (D : va_G) (N : Nat) (sx : Sx) (ad : Nat → Nat) (T : Knd) (A : Rfs) (nx : Nat) (I : Mem) (w0 : Nat)  (e : Int) (h : f_X3_longestWaitedAt T A w0 I = some e) : CtI l yX3_longestWaitedAt cX3_longestWaitedAt 3 (some .int) 2 81 cA D N sx ad T A nx [rv ad w0] I I e := by
  refine met_of (lv0 := [(0, rv ad w0)]) (by decide) (Nat.le_of_ble_eq_true rfl) rfl (fun p e0 s m args below meth c S0 hK hX hr hlk Q hQ => ?_)
  have hf : OK (f_X3_longestWaitedAt T A w0 I) (fun z => z = e) := ⟨e, h, rfl⟩
  unfold f_X3_longestWaitedAt at hf
  obtain ⟨hw0, hf⟩ := ok_grd hf
  refine r_iconst (pc := 0) S0 dX3_longestWaitedAt_0 ?_
  refine r_istore_n (pc := 1) (lv' := [(1, iv (-1)), (0, rv ad w0)]) S0 dX3_longestWaitedAt_1 rfl (by decide) rfl ?_
  refine r_iconst (pc := 2) S0 dX3_longestWaitedAt_2 ?_
  refine r_istore_n (pc := 3) (lv' := [(2, iv 0), (1, iv (-1)), (0, rv ad w0)]) S0 dX3_longestWaitedAt_3 rfl (by decide) rfl ?_
  refine r_lv [2, 1, 0] rfl ?_
  refine it_ind (P := fun s2 => cn s2.1 → cn s2.2 → G p l e0 (rmx 2 81) s m args below meth c 0 0 Q cA D N 3 ad T A nx 4 [(0, rv ad w0), (1, iv s2.1), (2, iv s2.2)] [] I) (fun n0 s2 ih1 hf c3 c4 => ?_) FU ((-1), 0) hf (cnz (-1) rfl) (cnz 0 rfl)
  refine r_iload_n (pc := 4) S0 2 dX3_longestWaitedAt_4 rfl rfl ?_
  refine r_bipush (pc := 5) S0 dX3_longestWaitedAt_5 (by decide) ?_
  refine r_icmp_ge (pc := 7) (tgt := 49) S0 dX3_longestWaitedAt_7 (by decide) c4 (cnz 8 rfl) hf (fun hf => ?_) (fun hf => ?_)
  · refine r_iload_n (pc := 49) S0 1 dX3_longestWaitedAt_49 rfl rfl ?_
    have hz := ok_some hf
    have hz : s2.1 = e := hz
    subst hQ
    subst hz
    exact r_iret (pc := 50) S0 hr hlk c3 dX3_longestWaitedAt_50
  · refine r_aload_n (pc := 10) S0 0 dX3_longestWaitedAt_10 rfl rfl ?_
    refine r_getI (pc := 11) S0 hK fl_X3_31 dX3_longestWaitedAt_11 hf (fun x5 c6 hf => ?_)
    refine r_iload_n (pc := 14) S0 2 dX3_longestWaitedAt_14 rfl rfl ?_
    obtain ⟨e7, h8, hf⟩ := ok_bind hf
    refine r_cN_I (pc := 15) [iv x5, iv s2.2] S0 hK hX mn_X3_102 (c_X11_hasBit l cA D N sx ad T A nx I x5 s2.2 c6 c4 e7 h8) rfl rfl ⟨by decide, by decide⟩ (Nat.le_of_ble_eq_true rfl) ⟨Nat.le_refl _, Nat.le_refl _⟩ dX3_longestWaitedAt_15 (fun c9 => ?_)
    refine r_if_eq (pc := 18) (tgt := 43) S0 dX3_longestWaitedAt_18 (by decide) c9 hf (fun hf => ?_) (fun hf => ?_)
    · refine r_iinc (pc := 43) (lv' := [(2, iv (ia s2.2 1)), (0, rv ad w0), (1, iv s2.1)]) S0 2 dX3_longestWaitedAt_43 rfl (by decide) rfl ?_
      refine r_goto (pc := 46) (tgt := 4) S0 dX3_longestWaitedAt_46 (by decide) ?_
      have hz := ok_some hf
      refine r_lv [1, 2, 0] rfl ?_
      exact ih1 (s2.1, ia s2.2 1) hz c3 (cn_wrap _)
    · refine r_iload_n (pc := 21) S0 1 dX3_longestWaitedAt_21 rfl rfl ?_
      refine r_iconst (pc := 22) S0 dX3_longestWaitedAt_22 ?_
      refine r_icmp_eq (pc := 23) (tgt := 41) S0 dX3_longestWaitedAt_23 (by decide) c3 (cnz (-1) rfl) hf (fun hf => ?_) (fun hf => ?_)
      · refine r_iload_n (pc := 41) S0 2 dX3_longestWaitedAt_41 rfl rfl ?_
        refine r_istore_n (pc := 42) (lv' := [(1, iv s2.2), (0, rv ad w0), (2, iv s2.2)]) S0 dX3_longestWaitedAt_42 rfl (by decide) rfl ?_
        refine r_iinc (pc := 43) (lv' := [(2, iv (ia s2.2 1)), (1, iv s2.2), (0, rv ad w0)]) S0 2 dX3_longestWaitedAt_43 rfl (by decide) rfl ?_
        refine r_goto (pc := 46) (tgt := 4) S0 dX3_longestWaitedAt_46 (by decide) ?_
        have hz := ok_some hf
        refine r_lv [2, 1, 0] rfl ?_
        exact ih1 (s2.2, ia s2.2 1) hz c4 (cn_wrap _)
      · refine r_aload_n (pc := 26) S0 0 dX3_longestWaitedAt_26 rfl rfl ?_
        refine r_getR (pc := 27) S0 hK fl_X3_18 dX3_longestWaitedAt_27 hf (fun x10 hf => ?_)
        refine r_iload_n (pc := 30) S0 2 dX3_longestWaitedAt_30 rfl rfl ?_
        refine r_iald (pc := 31) S0 hK dX3_longestWaitedAt_31 c4 hf (fun x11 c12 hf => ?_)
        refine r_aload_n (pc := 32) S0 0 dX3_longestWaitedAt_32 rfl rfl ?_
        refine r_getR (pc := 33) S0 hK fl_X3_18 dX3_longestWaitedAt_33 hf (fun x13 hf => ?_)
        refine r_iload_n (pc := 36) S0 1 dX3_longestWaitedAt_36 rfl rfl ?_
        refine r_iald (pc := 37) S0 hK dX3_longestWaitedAt_37 c3 hf (fun x14 c15 hf => ?_)
        refine r_icmp_le (pc := 38) (tgt := 43) S0 dX3_longestWaitedAt_38 (by decide) c12 c15 hf (fun hf => ?_) (fun hf => ?_)
        · refine r_iinc (pc := 43) (lv' := [(2, iv (ia s2.2 1)), (0, rv ad w0), (1, iv s2.1)]) S0 2 dX3_longestWaitedAt_43 rfl (by decide) rfl ?_
          refine r_goto (pc := 46) (tgt := 4) S0 dX3_longestWaitedAt_46 (by decide) ?_
          have hz := ok_some hf
          refine r_lv [1, 2, 0] rfl ?_
          exact ih1 (s2.1, ia s2.2 1) hz c3 (cn_wrap _)
        · refine r_iload_n (pc := 41) S0 2 dX3_longestWaitedAt_41 rfl rfl ?_
          refine r_istore_n (pc := 42) (lv' := [(1, iv s2.2), (0, rv ad w0), (2, iv s2.2)]) S0 dX3_longestWaitedAt_42 rfl (by decide) rfl ?_
          refine r_iinc (pc := 43) (lv' := [(2, iv (ia s2.2 1)), (1, iv s2.2), (0, rv ad w0)]) S0 2 dX3_longestWaitedAt_43 rfl (by decide) rfl ?_
          refine r_goto (pc := 46) (tgt := 4) S0 dX3_longestWaitedAt_46 (by decide) ?_
          have hz := ok_some hf
          refine r_lv [2, 1, 0] rfl ?_
          exact ih1 (s2.2, ia s2.2 1) hz c4 (cn_wrap _)

set_option maxHeartbeats 4000000 in
set_option maxRecDepth 100000 in
theorem c_X11_chair (l : Launch) (cA : Nat → ClassId) (D : va_G) (N : Nat) (sx : Sx) (ad : Nat → Nat) (T : Knd) (A : Rfs) (nx : Nat) (I : Mem) (w0 : Nat) (a1 : Int) (ca1 : cn a1) (e : (Int × Mem)) (h : f_X11_chair T A w0 a1 I = some e) : CtI l yX11_chair cX11_chair 3 (some .int) 7 192 cA D N sx ad T A nx [rv ad w0, iv a1] I e.2 e.1 := by
  refine met_of (lv0 := [(0, rv ad w0), (1, iv a1)]) (by decide) (Nat.le_of_ble_eq_true rfl) rfl (fun p e0 s m args below meth c S0 hK hX hr hlk Q hQ => ?_)
  have hf : OK (f_X11_chair T A w0 a1 I) (fun z => z = e) := ⟨e, h, rfl⟩
  unfold f_X11_chair at hf
  obtain ⟨hw0, hf⟩ := ok_grd hf
  refine r_aload_n (pc := 0) S0 0 dX11_chair_0 rfl rfl ?_
  refine r_iload_n (pc := 1) S0 1 dX11_chair_1 rfl rfl ?_
  obtain ⟨e1, h2, hf⟩ := ok_bind hf
  refine r_cV_I (pc := 2) [iv a1] S0 hK hX mv_X11_316 (k_X11_refusal h2) (c_X11_refusal l cA D N sx ad T A nx I w0 a1 ca1 e1 h2) rfl rfl ⟨by decide, by decide⟩ (Nat.le_of_ble_eq_true rfl) ⟨Nat.le_refl _, Nat.le_refl _⟩ dX11_chair_2 (fun c3 => ?_)
  refine r_istore_n (pc := 5) (lv' := [(2, iv e1), (0, rv ad w0), (1, iv a1)]) S0 dX11_chair_5 rfl (by decide) rfl ?_
  refine r_iload_n (pc := 6) S0 0 dX11_chair_6 rfl rfl ?_
  refine r_if_eq (pc := 7) (tgt := 12) S0 dX11_chair_7 (by decide) c3 hf (fun hf => ?_) (fun hf => ?_)
  · refine r_aload_n (pc := 12) S0 1 dX11_chair_12 rfl rfl ?_
    refine r_getR (pc := 13) S0 hK fl_X11_90 dX11_chair_13 hf (fun x4 hf => ?_)
    refine r_aload_n (pc := 16) S0 1 dX11_chair_16 rfl rfl ?_
    refine r_getR (pc := 17) S0 hK fl_X11_83 dX11_chair_17 hf (fun x5 hf => ?_)
    refine r_iload_n (pc := 20) S0 2 dX11_chair_20 rfl rfl ?_
    refine r_bipush (pc := 21) S0 dX11_chair_21 (by decide) ?_
    obtain ⟨e6, h7, hf⟩ := ok_bind hf
    refine r_cV_V (pc := 23) [rv ad x5, iv a1, iv 9] S0 hK hX mv_X11_326 (k_X3_serve h7) (c_X3_serve l cA D N sx ad T A nx I x4 x5 a1 9 ca1 (cnz 9 rfl) e6 h7) rfl rfl ⟨by decide, by decide⟩ (Nat.le_of_ble_eq_true rfl) ⟨Nat.le_refl _, Nat.le_refl _⟩ dX11_chair_23 ?_
    refine r_aload_n (pc := 26) S0 1 dX11_chair_26 rfl rfl ?_
    refine r_getR (pc := 27) S0 hK fl_X11_90 dX11_chair_27 hf (fun x8 hf => ?_)
    refine r_bipush (pc := 30) S0 dX11_chair_30 (by decide) ?_
    obtain ⟨e9, h10, hf⟩ := ok_bind hf
    refine r_cV_I (pc := 32) [iv 9] S0 hK hX mv_X11_330 (k_X3_lastThrough h10) (c_X3_lastThrough l cA D N sx ad T A nx e6 x8 9 (cnz 9 rfl) e9 h10) rfl rfl ⟨by decide, by decide⟩ (Nat.le_of_ble_eq_true rfl) ⟨Nat.le_refl _, Nat.le_refl _⟩ dX11_chair_32 (fun c11 => ?_)
    refine r_iconst (pc := 35) S0 dX11_chair_35 ?_
    refine r_icmp_ne (pc := 36) (tgt := 43) S0 dX11_chair_36 (by decide) c11 (cnz (-1) rfl) hf (fun hf => ?_) (fun hf => ?_)
    · refine r_aload_n (pc := 43) S0 1 dX11_chair_43 rfl rfl ?_
      refine r_getR (pc := 44) S0 hK fl_X11_90 dX11_chair_44 hf (fun x12 hf => ?_)
      obtain ⟨e13, h14, hf⟩ := ok_bind hf
      refine r_cV_I (pc := 47) [] S0 hK hX mv_X11_336 (k_X3_longestWaitedAt h14) (c_X3_longestWaitedAt l cA D N sx ad T A nx e6 x12 e13 h14) rfl rfl ⟨by decide, by decide⟩ (Nat.le_of_ble_eq_true rfl) ⟨Nat.le_refl _, Nat.le_refl _⟩ dX11_chair_47 (fun c15 => ?_)
      have hz := ok_some hf
      have hz : (e13, e6) = e := hz
      subst hQ
      subst hz
      exact r_iret (pc := 50) S0 hr hlk c15 dX11_chair_50
    · refine r_iconst (pc := 39) S0 dX11_chair_39 ?_
      refine r_goto (pc := 40) (tgt := 50) S0 dX11_chair_40 (by decide) ?_
      have hz := ok_some hf
      have hz : ((-1), e6) = e := hz
      subst hQ
      subst hz
      exact r_iret (pc := 50) S0 hr hlk (cnz (-1) rfl) dX11_chair_50
  · refine r_iload_n (pc := 10) S0 0 dX11_chair_10 rfl rfl ?_
    have hz := ok_some hf
    have hz : (e1, I) = e := hz
    subst hQ
    subst hz
    exact r_iret (pc := 11) S0 hr hlk c3 dX11_chair_11

set_option maxHeartbeats 4000000 in
set_option maxRecDepth 100000 in
theorem c_X11_isSeed (l : Launch) (cA : Nat → ClassId) (D : va_G) (N : Nat) (sx : Sx) (ad : Nat → Nat) (T : Knd) (A : Rfs) (nx : Nat) (I : Mem) (a0 : Int) (ca0 : cn a0) (e : Int) (h : f_X11_isSeed T A a0 I = some e) : CtI l yX11_isSeed cX11_isSeed 1 (some .boolean) 1 60 cA D N sx ad T A nx [iv a0] I I e := by
  refine met_of (lv0 := [(0, iv a0)]) (by decide) (Nat.le_of_ble_eq_true rfl) rfl (fun p e0 s m args below meth c S0 hK hX hr hlk Q hQ => ?_)
  have hf : OK (f_X11_isSeed T A a0 I) (fun z => z = e) := ⟨e, h, rfl⟩
  unfold f_X11_isSeed at hf
  refine r_iload_n (pc := 0) S0 0 dX11_isSeed_0 rfl rfl ?_
  refine r_if_lt (pc := 1) (tgt := 15) S0 dX11_isSeed_1 (by decide) ca0 hf (fun hf => ?_) (fun hf => ?_)
  · refine r_iconst (pc := 15) S0 dX11_isSeed_15 ?_
    have hz := ok_some hf
    have hz : 0 = e := hz
    subst hQ
    subst hz
    exact r_zret (pc := 16) S0 hr hlk (Or.inl rfl) dX11_isSeed_16
  · refine r_iload_n (pc := 4) S0 0 dX11_isSeed_4 rfl rfl ?_
    refine r_ldcw (pc := 5) (z := 2000000000) S0 k_X11_391 dX11_isSeed_5 (by decide) ?_
    refine r_icmp_gt (pc := 8) (tgt := 15) S0 dX11_isSeed_8 (by decide) ca0 (cnz 2000000000 rfl) hf (fun hf => ?_) (fun hf => ?_)
    · refine r_iconst (pc := 15) S0 dX11_isSeed_15 ?_
      have hz := ok_some hf
      have hz : 0 = e := hz
      subst hQ
      subst hz
      exact r_zret (pc := 16) S0 hr hlk (Or.inl rfl) dX11_isSeed_16
    · refine r_iconst (pc := 11) S0 dX11_isSeed_11 ?_
      refine r_goto (pc := 12) (tgt := 16) S0 dX11_isSeed_12 (by decide) ?_
      have hz := ok_some hf
      have hz : 1 = e := hz
      subst hQ
      subst hz
      exact r_zret (pc := 16) S0 hr hlk (Or.inr rfl) dX11_isSeed_16

set_option maxHeartbeats 4000000 in
set_option maxRecDepth 100000 in
theorem c_X0_draw (l : Launch) (cA : Nat → ClassId) (D : va_G) (N : Nat) (sx : Sx) (ad : Nat → Nat) (T : Knd) (A : Rfs) (nx : Nat) (I : Mem) (w0 : Nat) (a1 : Int) (ca1 : cn a1) (e : (Int × Mem)) (h : f_X0_draw T A w0 a1 I = some e) : CtI l yX0_draw cX0_draw 2 (some .int) 1 60 cA D N sx ad T A nx [rv ad w0, iv a1] I e.2 e.1 := by
  refine met_of (lv0 := [(0, rv ad w0), (1, iv a1)]) (by decide) (Nat.le_of_ble_eq_true rfl) rfl (fun p e0 s m args below meth c S0 hK hX hr hlk Q hQ => ?_)
  have hf : OK (f_X0_draw T A w0 a1 I) (fun z => z = e) := ⟨e, h, rfl⟩
  unfold f_X0_draw at hf
  obtain ⟨hw0, hf⟩ := ok_grd hf
  refine r_aload_n (pc := 0) S0 0 dX0_draw_0 rfl rfl ?_
  refine r_ldc2 (pc := 1) (z := 1103515245) S0 kl_X0_63 dX0_draw_1 (by decide) ?_
  refine r_aload_n (pc := 4) S0 0 dX0_draw_4 rfl rfl ?_
  refine r_getJ (pc := 5) S0 hK fl_X0_21 dX0_draw_5 hf (fun x1 c2 hf => ?_)
  refine r_lmul (pc := 8) S0 dX0_draw_8 ?_
  refine r_ldc2 (pc := 9) (z := 12345) S0 kl_X0_65 dX0_draw_9 (by decide) ?_
  refine r_ladd (pc := 12) S0 dX0_draw_12 ?_
  refine r_ldc2 (pc := 13) (z := 2147483648) S0 kl_X0_67 dX0_draw_13 (by decide) ?_
  refine r_lrem (pc := 16) S0 dX0_draw_16 (clz 2147483648 rfl) hf (fun hf => ?_)
  refine r_putJ (pc := 17) S0 hK fl_X0_21 rfl rfl (cl_toInt _) dX0_draw_17 hf (fun I3 hf => ?_)
  refine r_iload_n (pc := 20) S0 1 dX0_draw_20 rfl rfl ?_
  refine r_if_le (pc := 21) (tgt := 39) S0 dX0_draw_21 (by decide) ca1 hf (fun hf => ?_) (fun hf => ?_)
  · refine r_iconst (pc := 39) S0 dX0_draw_39 ?_
    have hz := ok_some hf
    have hz : (0, I3) = e := hz
    subst hQ
    subst hz
    exact r_iret (pc := 40) S0 hr hlk (cnz 0 rfl) dX0_draw_40
  · refine r_aload_n (pc := 24) S0 0 dX0_draw_24 rfl rfl ?_
    refine r_getJ (pc := 25) S0 hK fl_X0_21 dX0_draw_25 hf (fun x4 c5 hf => ?_)
    refine r_ldc2 (pc := 28) (z := 65536) S0 kl_X0_69 dX0_draw_28 (by decide) ?_
    refine r_ldiv (pc := 31) S0 dX0_draw_31 (clz 65536 rfl) hf (fun hf => ?_)
    refine r_iload_n (pc := 32) S0 1 dX0_draw_32 rfl rfl ?_
    refine r_i2l (pc := 33) S0 dX0_draw_33 ca1 ?_
    refine r_lrem (pc := 34) S0 dX0_draw_34 (cl_cn ca1) hf (fun hf => ?_)
    refine r_l2i (pc := 35) S0 dX0_draw_35 (cl_toInt _) ?_
    refine r_goto (pc := 36) (tgt := 40) S0 dX0_draw_36 (by decide) ?_
    have hz := ok_some hf
    have hz : (wrap (ilrm (ildv x4 65536) a1), I3) = e := hz
    subst hQ
    subst hz
    exact r_iret (pc := 40) S0 hr hlk (cn_wrap _) dX0_draw_40

set_option maxHeartbeats 4000000 in
set_option maxRecDepth 100000 in
theorem c_X0_memberAt (l : Launch) (cA : Nat → ClassId) (D : va_G) (N : Nat) (sx : Sx) (ad : Nat → Nat) (T : Knd) (A : Rfs) (nx : Nat) (I : Mem) (a0 : Int) (a1 : Int) (ca0 : cn a0) (ca1 : cn a1) (e : Int) (h : f_X0_memberAt T A a0 a1 I = some e) : CtI l yX0_memberAt cX0_memberAt 4 (some .int) 2 81 cA D N sx ad T A nx [iv a0, iv a1] I I e := by
  refine met_of (lv0 := [(0, iv a0), (1, iv a1)]) (by decide) (Nat.le_of_ble_eq_true rfl) rfl (fun p e0 s m args below meth c S0 hK hX hr hlk Q hQ => ?_)
  have hf : OK (f_X0_memberAt T A a0 a1 I) (fun z => z = e) := ⟨e, h, rfl⟩
  unfold f_X0_memberAt at hf
  refine r_iload_n (pc := 0) S0 1 dX0_memberAt_0 rfl rfl ?_
  refine r_istore_n (pc := 1) (lv' := [(2, iv a1), (0, iv a0), (1, iv a1)]) S0 dX0_memberAt_1 rfl (by decide) rfl ?_
  refine r_iconst (pc := 2) S0 dX0_memberAt_2 ?_
  refine r_istore_n (pc := 3) (lv' := [(3, iv 0), (2, iv a1), (0, iv a0), (1, iv a1)]) S0 dX0_memberAt_3 rfl (by decide) rfl ?_
  refine r_lv [2, 1, 0] rfl ?_
  refine it_ind (P := fun s2 => cn s2.1 → cn s2.2 → G p l e0 (rmx 2 81) s m args below meth c 0 0 Q cA D N 4 ad T A nx 4 [(0, iv a0), (2, iv s2.1), (3, iv s2.2)] [] I) (fun n0 s2 ih1 hf c3 c4 => ?_) FU (a1, 0) hf ca1 (cnz 0 rfl)
  refine r_iload_n (pc := 4) S0 2 dX0_memberAt_4 rfl rfl ?_
  refine r_bipush (pc := 5) S0 dX0_memberAt_5 (by decide) ?_
  refine r_icmp_ge (pc := 7) (tgt := 33) S0 dX0_memberAt_7 (by decide) c4 (cnz 8 rfl) hf (fun hf => ?_) (fun hf => ?_)
  · refine r_iconst (pc := 33) S0 dX0_memberAt_33 ?_
    have hz := ok_some hf
    have hz : (-1) = e := hz
    subst hQ
    subst hz
    exact r_iret (pc := 34) S0 hr hlk (cnz (-1) rfl) dX0_memberAt_34
  · refine r_iload_n (pc := 10) S0 0 dX0_memberAt_10 rfl rfl ?_
    refine r_iload_n (pc := 11) S0 2 dX0_memberAt_11 rfl rfl ?_
    obtain ⟨e5, h6, hf⟩ := ok_bind hf
    refine r_cN_I (pc := 12) [iv a0, iv s2.2] S0 hK hX mn_X0_71 (c_X11_hasBit l cA D N sx ad T A nx I a0 s2.2 ca0 c4 e5 h6) rfl rfl ⟨by decide, by decide⟩ (Nat.le_of_ble_eq_true rfl) ⟨Nat.le_refl _, Nat.le_refl _⟩ dX0_memberAt_12 (fun c7 => ?_)
    refine r_if_eq (pc := 15) (tgt := 27) S0 dX0_memberAt_15 (by decide) c7 hf (fun hf => ?_) (fun hf => ?_)
    · refine r_iinc (pc := 27) (lv' := [(3, iv (ia s2.2 1)), (0, iv a0), (2, iv s2.1)]) S0 2 dX0_memberAt_27 rfl (by decide) rfl ?_
      refine r_goto (pc := 30) (tgt := 4) S0 dX0_memberAt_30 (by decide) ?_
      have hz := ok_some hf
      refine r_lv [1, 2, 0] rfl ?_
      exact ih1 (s2.1, ia s2.2 1) hz c3 (cn_wrap _)
    · refine r_iload_n (pc := 18) S0 1 dX0_memberAt_18 rfl rfl ?_
      refine r_if_ne (pc := 19) (tgt := 24) S0 dX0_memberAt_19 (by decide) c3 hf (fun hf => ?_) (fun hf => ?_)
      · refine r_iinc (pc := 24) (lv' := [(2, iv (ia s2.1 (-1))), (0, iv a0), (3, iv s2.2)]) S0 1 dX0_memberAt_24 rfl (by decide) rfl ?_
        refine r_iinc (pc := 27) (lv' := [(3, iv (ia s2.2 1)), (2, iv (ia s2.1 (-1))), (0, iv a0)]) S0 2 dX0_memberAt_27 rfl (by decide) rfl ?_
        refine r_goto (pc := 30) (tgt := 4) S0 dX0_memberAt_30 (by decide) ?_
        have hz := ok_some hf
        refine r_lv [2, 1, 0] rfl ?_
        exact ih1 (ia s2.1 (-1), ia s2.2 1) hz (cn_wrap _) (cn_wrap _)
      · refine r_iload_n (pc := 22) S0 2 dX0_memberAt_22 rfl rfl ?_
        have hz := ok_some hf
        have hz : s2.2 = e := hz
        subst hQ
        subst hz
        exact r_iret (pc := 23) S0 hr hlk c4 dX0_memberAt_23

set_option maxHeartbeats 4000000 in
set_option maxRecDepth 100000 in
theorem c_X0_goFrom (l : Launch) (cA : Nat → ClassId) (D : va_G) (N : Nat) (sx : Sx) (ad : Nat → Nat) (T : Knd) (A : Rfs) (nx : Nat) (I : Mem) (w0 : Nat) (w1 : Nat) (a2 : Int) (ca2 : cn a2) (e : Mem) (h : f_X0_goFrom T A w0 w1 a2 I = some e) : CtV l yX0_goFrom cX0_goFrom 7 none 5 151 cA D N sx ad T A nx [rv ad w0, rv ad w1, iv a2] I e := by
  refine met_of (lv0 := [(0, rv ad w0), (1, rv ad w1), (2, iv a2)]) (by decide) (Nat.le_of_ble_eq_true rfl) rfl (fun p e0 s m args below meth c S0 hK hX hr hlk Q hQ => ?_)
  have hf : OK (f_X0_goFrom T A w0 w1 a2 I) (fun z => z = e) := ⟨e, h, rfl⟩
  unfold f_X0_goFrom at hf
  obtain ⟨hw0, hf⟩ := ok_grd hf
  refine r_aload_n (pc := 0) S0 0 dX0_goFrom_0 rfl rfl ?_
  refine r_getR (pc := 1) S0 hK fl_X0_9 dX0_goFrom_1 hf (fun x1 hf => ?_)
  refine r_aload_n (pc := 4) S0 1 dX0_goFrom_4 rfl rfl ?_
  obtain ⟨e2, h3, hf⟩ := ok_bind hf
  refine r_cV_V (pc := 5) [rv ad w1] S0 hK hX mv_X0_15 (k_X10_joins h3) (c_X10_joins l cA D N sx ad T A nx I x1 w1 e2 h3) rfl rfl ⟨by decide, by decide⟩ (Nat.le_of_ble_eq_true rfl) ⟨Nat.le_refl _, Nat.le_refl _⟩ dX0_goFrom_5 ?_
  refine r_aload_n (pc := 8) S0 0 dX0_goFrom_8 rfl rfl ?_
  refine r_iload_n (pc := 9) S0 2 dX0_goFrom_9 rfl rfl ?_
  refine r_i2l (pc := 10) S0 dX0_goFrom_10 ca2 ?_
  refine r_putJ (pc := 11) S0 hK fl_X0_21 rfl rfl (cl_cn ca2) dX0_goFrom_11 hf (fun I4 hf => ?_)
  refine r_aload_n (pc := 14) S0 0 dX0_goFrom_14 rfl rfl ?_
  refine r_iconst (pc := 15) S0 dX0_goFrom_15 ?_
  refine r_putI (pc := 16) S0 hK fl_X0_25 rfl rfl (cnz 0 rfl) dX0_goFrom_16 hf (fun I5 hf => ?_)
  refine r_aload_n (pc := 19) S0 0 dX0_goFrom_19 rfl rfl ?_
  refine r_getR (pc := 20) S0 hK fl_X0_9 dX0_goFrom_20 hf (fun x6 hf => ?_)
  obtain ⟨e7, h8, hf⟩ := ok_bind hf
  refine r_cV_I (pc := 23) [] S0 hK hX mv_X0_29 (k_X10_holding h8) (c_X10_holding l cA D N sx ad T A nx I5 x6 e7 h8) rfl rfl ⟨by decide, by decide⟩ (Nat.le_of_ble_eq_true rfl) ⟨Nat.le_refl _, Nat.le_refl _⟩ dX0_goFrom_23 (fun c9 => ?_)
  refine r_istore_n (pc := 26) (lv' := [(3, iv e7), (0, rv ad w0), (1, rv ad w1), (2, iv a2)]) S0 dX0_goFrom_26 rfl (by decide) rfl ?_
  refine r_iconst (pc := 27) S0 dX0_goFrom_27 ?_
  refine r_istore (pc := 28) (lv' := [(4, iv 0), (3, iv e7), (0, rv ad w0), (1, rv ad w1), (2, iv a2)]) S0 dX0_goFrom_28 (by decide) rfl ?_
  refine thn_rule (P := fun v11 => G p l e0 (rmx 5 151) s m args below meth c 0 0 Q cA D N 7 ad T A nx 134 [(0, rv ad w0)] [] v11) hf (fun v11 hf => ?_) (fun K10 hf => ?_)
  · refine r_aload_n (pc := 134) S0 0 dX0_goFrom_134 rfl rfl ?_
    refine r_aload_n (pc := 135) S0 0 dX0_goFrom_135 rfl rfl ?_
    refine r_getR (pc := 136) S0 hK fl_X0_9 dX0_goFrom_136 hf (fun x47 hf => ?_)
    obtain ⟨e48, h49, hf⟩ := ok_bind hf
    refine r_cV_I (pc := 139) [] S0 hK hX mv_X0_33 (k_X10_missing h49) (c_X10_missing l cA D N sx ad T A nx v11 x47 e48 h49) rfl rfl ⟨by decide, by decide⟩ (Nat.le_of_ble_eq_true rfl) ⟨Nat.le_refl _, Nat.le_refl _⟩ dX0_goFrom_139 (fun c50 => ?_)
    refine thn_rule (P := fun v52 => cn v52 → G p l e0 (rmx 5 151) s m args below meth c 0 0 Q cA D N 7 ad T A nx 156 [] [iv v52, rv ad w0] v11) hf (fun v52 hf c53 => ?_) (fun K51 hf => ?_)
    · refine r_putI (pc := 156) S0 hK fl_X0_62 rfl rfl c53 dX0_goFrom_156 hf (fun I57 hf => ?_)
      have hz := ok_some hf
      have hz : I57 = e := hz
      subst hQ
      subst hz
      exact r_vret (pc := 159) S0 hr hlk dX0_goFrom_159
    · refine r_if_ne (pc := 142) (tgt := 155) S0 dX0_goFrom_142 (by decide) c50 hf (fun hf => ?_) (fun hf => ?_)
      · refine r_iconst (pc := 155) S0 dX0_goFrom_155 ?_
        have hz := ok_some hf
        refine r_lv [] rfl ?_
        exact K51 (-1) hz (cnz (-1) rfl)
      · refine r_aload_n (pc := 145) S0 0 dX0_goFrom_145 rfl rfl ?_
        refine r_getR (pc := 146) S0 hK fl_X0_9 dX0_goFrom_146 hf (fun x54 hf => ?_)
        refine r_getI (pc := 149) S0 hK fl_X0_59 dX0_goFrom_149 hf (fun x55 c56 hf => ?_)
        refine r_goto (pc := 152) (tgt := 156) S0 dX0_goFrom_152 (by decide) ?_
        have hz := ok_some hf
        refine r_lv [] rfl ?_
        exact K51 x55 hz c56
  · refine thn_rule (P := fun v13 => G p l e0 (rmx 5 151) s m args below meth c 0 0 Q cA D N 7 ad T A nx 65 [(0, rv ad w0)] [] v13) hf (fun v13 hf => ?_) (fun K12 hf => ?_)
    · refine r_goto (pc := 65) (tgt := 134) S0 dX0_goFrom_65 (by decide) ?_
      have hz := ok_some hf
      refine r_lv [0] rfl ?_
      exact K10 v13 hz
    · refine thn_rule (P := fun v15 => G p l e0 (rmx 5 151) s m args below meth c 0 0 Q cA D N 7 ad T A nx 90 [(0, rv ad w0)] [] v15) hf (fun v15 hf => ?_) (fun K14 hf => ?_)
      · refine r_goto (pc := 90) (tgt := 134) S0 dX0_goFrom_90 (by decide) ?_
        have hz := ok_some hf
        refine r_lv [0] rfl ?_
        exact K10 v15 hz
      · refine r_lv [2, 1, 0] rfl ?_
        refine it_ind (P := fun s17 => cn s17.1 → cn s17.2.1 → G p l e0 (rmx 5 151) s m args below meth c 0 0 Q cA D N 7 ad T A nx 30 [(0, rv ad w0), (3, iv s17.1), (4, iv s17.2.1)] [] s17.2.2) (fun n0 s17 ih16 hf c18 c19 => ?_) FU (e7, 0, I5) hf c9 (cnz 0 rfl)
        refine r_iload (pc := 30) S0 2 dX0_goFrom_30 rfl ?_
        refine r_bipush (pc := 32) S0 dX0_goFrom_32 (by decide) ?_
        refine r_icmp_ge (pc := 34) (tgt := 134) S0 dX0_goFrom_34 (by decide) c19 (cnz 8 rfl) hf (fun hf => ?_) (fun hf => ?_)
        · have hz := ok_some hf
          refine r_lv [0] rfl ?_
          exact K10 s17.2.2 hz
        · refine r_aload_n (pc := 37) S0 0 dX0_goFrom_37 rfl rfl ?_
          refine r_getR (pc := 38) S0 hK fl_X0_9 dX0_goFrom_38 hf (fun x20 hf => ?_)
          obtain ⟨e21, h22, hf⟩ := ok_bind hf
          refine r_cV_I (pc := 41) [] S0 hK hX mv_X0_33 (k_X10_missing h22) (c_X10_missing l cA D N sx ad T A nx s17.2.2 x20 e21 h22) rfl rfl ⟨by decide, by decide⟩ (Nat.le_of_ble_eq_true rfl) ⟨Nat.le_refl _, Nat.le_refl _⟩ dX0_goFrom_41 (fun c23 => ?_)
          refine r_if_eq (pc := 44) (tgt := 134) S0 dX0_goFrom_44 (by decide) c23 hf (fun hf => ?_) (fun hf => ?_)
          · have hz := ok_some hf
            refine r_lv [0] rfl ?_
            exact K10 s17.2.2 hz
          · refine r_aload_n (pc := 47) S0 0 dX0_goFrom_47 rfl rfl ?_
            refine r_getR (pc := 48) S0 hK fl_X0_9 dX0_goFrom_48 hf (fun x24 hf => ?_)
            obtain ⟨e25, h26, hf⟩ := ok_bind hf
            refine r_cV_I (pc := 51) [] S0 hK hX mv_X0_36 (k_X10_willing h26) (c_X10_willing l cA D N sx ad T A nx s17.2.2 x24 e25 h26) rfl rfl ⟨by decide, by decide⟩ (Nat.le_of_ble_eq_true rfl) ⟨Nat.le_refl _, Nat.le_refl _⟩ dX0_goFrom_51 (fun c27 => ?_)
            refine r_iload_n (pc := 54) S0 1 dX0_goFrom_54 rfl rfl ?_
            refine r_iconst (pc := 55) S0 dX0_goFrom_55 ?_
            refine r_ixor (pc := 56) S0 dX0_goFrom_56 ?_
            refine r_iand (pc := 57) S0 dX0_goFrom_57 ?_
            refine r_istore (pc := 58) (lv' := [(5, iv (iand e25 (ixor s17.1 (-1)))), (0, rv ad w0), (3, iv s17.1), (4, iv s17.2.1)]) S0 dX0_goFrom_58 (by decide) rfl ?_
            refine r_iload (pc := 60) S0 0 dX0_goFrom_60 rfl ?_
            refine r_if_ne (pc := 62) (tgt := 68) S0 dX0_goFrom_62 (by decide) (cn_toInt _) hf (fun hf => ?_) (fun hf => ?_)
            · refine r_iload (pc := 68) S0 0 dX0_goFrom_68 rfl ?_
              refine r_aload_n (pc := 70) S0 1 dX0_goFrom_70 rfl rfl ?_
              refine r_iload (pc := 71) S0 0 dX0_goFrom_71 rfl ?_
              obtain ⟨e28, h29, hf⟩ := ok_bind hf
              refine r_cS_I (pc := 73) [iv (iand e25 (ixor s17.1 (-1)))] S0 hK hX ms_X0_39 (c_J6_bitCount_0f7a4 l cA D N sx ad T A nx s17.2.2 (iand e25 (ixor s17.1 (-1))) (cn_toInt _) e28 h29) rfl rfl ⟨by decide, by decide⟩ (Nat.le_of_ble_eq_true rfl) ⟨Nat.le_refl _, Nat.le_refl _⟩ dX0_goFrom_73 (fun c30 => ?_)
              obtain ⟨e31, h32, hf⟩ := ok_bind hf
              refine r_cV_I (pc := 76) [iv e28] S0 hK hX mv_X0_45 (k_X0_draw h32) (c_X0_draw l cA D N sx ad T A nx s17.2.2 w0 e28 c30 e31 h32) rfl rfl ⟨by decide, by decide⟩ (Nat.le_of_ble_eq_true rfl) ⟨Nat.le_refl _, Nat.le_refl _⟩ dX0_goFrom_76 (fun c33 => ?_)
              obtain ⟨e34, h35, hf⟩ := ok_bind hf
              refine r_cS_I (pc := 79) [iv (iand e25 (ixor s17.1 (-1))), iv e31.1] S0 hK hX ms_X0_48 (c_X0_memberAt l cA D N sx ad T A nx e31.2 (iand e25 (ixor s17.1 (-1))) e31.1 (cn_toInt _) c33 e34 h35) rfl rfl ⟨by decide, by decide⟩ (Nat.le_of_ble_eq_true rfl) ⟨Nat.le_refl _, Nat.le_refl _⟩ dX0_goFrom_79 (fun c36 => ?_)
              refine r_istore (pc := 82) (lv' := [(6, iv e34), (5, iv (iand e25 (ixor s17.1 (-1)))), (0, rv ad w0), (3, iv s17.1), (4, iv s17.2.1)]) S0 dX0_goFrom_82 (by decide) rfl ?_
              refine r_iload (pc := 84) S0 0 dX0_goFrom_84 rfl ?_
              refine r_iconst (pc := 86) S0 dX0_goFrom_86 ?_
              refine r_icmp_ne (pc := 87) (tgt := 93) S0 dX0_goFrom_87 (by decide) c36 (cnz (-1) rfl) hf (fun hf => ?_) (fun hf => ?_)
              · refine r_iload_n (pc := 93) S0 3 dX0_goFrom_93 rfl rfl ?_
                refine r_iconst (pc := 94) S0 dX0_goFrom_94 ?_
                refine r_iload (pc := 95) S0 0 dX0_goFrom_95 rfl ?_
                refine r_ishl (pc := 97) S0 dX0_goFrom_97 ?_
                refine r_ior (pc := 98) S0 dX0_goFrom_98 ?_
                refine r_istore_n (pc := 99) (lv' := [(3, iv (ior s17.1 (ishl 1 e34))), (6, iv e34), (5, iv (iand e25 (ixor s17.1 (-1)))), (0, rv ad w0), (4, iv s17.2.1)]) S0 dX0_goFrom_99 rfl (by decide) rfl ?_
                refine r_aload_n (pc := 100) S0 3 dX0_goFrom_100 rfl rfl ?_
                refine r_dup (pc := 101) S0 dX0_goFrom_101 rfl ?_
                refine r_getI (pc := 102) S0 hK fl_X0_25 dX0_goFrom_102 hf (fun x37 c38 hf => ?_)
                refine r_iconst (pc := 105) S0 dX0_goFrom_105 ?_
                refine r_iadd (pc := 106) S0 dX0_goFrom_106 ?_
                refine r_putI (pc := 107) S0 hK fl_X0_25 rfl rfl (cn_wrap _) dX0_goFrom_107 hf (fun I39 hf => ?_)
                refine r_aload_n (pc := 110) S0 3 dX0_goFrom_110 rfl rfl ?_
                refine r_getR (pc := 111) S0 hK fl_X0_9 dX0_goFrom_111 hf (fun x40 hf => ?_)
                refine r_iload (pc := 114) S0 1 dX0_goFrom_114 rfl ?_
                refine r_aload_n (pc := 116) S0 3 dX0_goFrom_116 rfl rfl ?_
                refine r_getR (pc := 117) S0 hK fl_X0_9 dX0_goFrom_117 hf (fun x41 hf => ?_)
                refine r_iload (pc := 120) S0 1 dX0_goFrom_120 rfl ?_
                obtain ⟨e42, h43, hf⟩ := ok_bind hf
                refine r_cV_I (pc := 122) [iv e34] S0 hK hX mv_X0_52 (k_X10_stampHour h43) (c_X10_stampHour l cA D N sx ad T A nx I39 x41 e34 c36 e42 h43) rfl rfl ⟨by decide, by decide⟩ (Nat.le_of_ble_eq_true rfl) ⟨Nat.le_refl _, Nat.le_refl _⟩ dX0_goFrom_122 (fun c44 => ?_)
                obtain ⟨e45, h46, hf⟩ := ok_bind hf
                refine r_cV_V (pc := 125) [iv e34, iv e42] S0 hK hX mv_X0_55 (k_X10_stampIn h46) (c_X10_stampIn l cA D N sx ad T A nx I39 x40 e34 e42 c36 c44 e45 h46) rfl rfl ⟨by decide, by decide⟩ (Nat.le_of_ble_eq_true rfl) ⟨Nat.le_refl _, Nat.le_refl _⟩ dX0_goFrom_125 ?_
                refine r_iinc (pc := 128) (lv' := [(4, iv (ia s17.2.1 1)), (3, iv (ior s17.1 (ishl 1 e34))), (6, iv e34), (5, iv (iand e25 (ixor s17.1 (-1)))), (0, rv ad w0)]) S0 4 dX0_goFrom_128 rfl (by decide) rfl ?_
                refine r_goto (pc := 131) (tgt := 30) S0 dX0_goFrom_131 (by decide) ?_
                have hz := ok_some hf
                refine r_lv [4, 1, 0] rfl ?_
                exact ih16 (ior s17.1 (ishl 1 e34), ia s17.2.1 1, e45) hz (cn_toInt _) (cn_wrap _)
              · have hz := ok_some hf
                refine r_lv [2] rfl ?_
                exact K14 e31.2 hz
            · have hz := ok_some hf
              refine r_lv [1] rfl ?_
              exact K12 s17.2.2 hz

set_option maxHeartbeats 4000000 in
set_option maxRecDepth 100000 in
theorem c_X11_blind (l : Launch) (cA : Nat → ClassId) (D : va_G) (N : Nat) (sx : Sx) (ad : Nat → Nat) (T : Knd) (A : Rfs) (nx : Nat) (I : Mem) (w0 : Nat) (a1 : Int) (ca1 : cn a1) (e : (Int × Mem)) (h : f_X11_blind T A w0 a1 I = some e) : CtI l yX11_blind cX11_blind 2 (some .int) 6 177 cA D N sx ad T A nx [rv ad w0, iv a1] I e.2 e.1 := by
  refine met_of (lv0 := [(0, rv ad w0), (1, iv a1)]) (by decide) (Nat.le_of_ble_eq_true rfl) rfl (fun p e0 s m args below meth c S0 hK hX hr hlk Q hQ => ?_)
  have hf : OK (f_X11_blind T A w0 a1 I) (fun z => z = e) := ⟨e, h, rfl⟩
  unfold f_X11_blind at hf
  obtain ⟨hw0, hf⟩ := ok_grd hf
  refine r_aload_n (pc := 0) S0 0 dX11_blind_0 rfl rfl ?_
  refine r_getR (pc := 1) S0 hK fl_X11_28 dX11_blind_1 hf (fun x1 hf => ?_)
  obtain ⟨e2, h3, hf⟩ := ok_bind hf
  refine r_cV_I (pc := 4) [] S0 hK hX mv_X11_170 (k_X2_isThere h3) (c_X2_isThere l cA D N sx ad T A nx I x1 e2 h3) rfl rfl ⟨by decide, by decide⟩ (Nat.le_of_ble_eq_true rfl) ⟨Nat.le_refl _, Nat.le_refl _⟩ dX11_blind_4 (fun c4 => ?_)
  refine r_if_eq (pc := 7) (tgt := 17) S0 dX11_blind_7 (by decide) c4 hf (fun hf => ?_) (fun hf => ?_)
  · refine r_bipush (pc := 17) S0 dX11_blind_17 (by decide) ?_
    have hz := ok_some hf
    have hz : ((-2), I) = e := hz
    subst hQ
    subst hz
    exact r_iret (pc := 19) S0 hr hlk (cnz (-2) rfl) dX11_blind_19
  · refine r_iload_n (pc := 10) S0 1 dX11_blind_10 rfl rfl ?_
    obtain ⟨e5, h6, hf⟩ := ok_bind hf
    refine r_cS_I (pc := 11) [iv a1] S0 hK hX ms_X11_339 (c_X11_isSeed l cA D N sx ad T A nx I a1 ca1 e5 h6) rfl rfl ⟨by decide, by decide⟩ (Nat.le_of_ble_eq_true rfl) ⟨Nat.le_refl _, Nat.le_refl _⟩ dX11_blind_11 (fun c7 => ?_)
    refine r_if_ne (pc := 14) (tgt := 20) S0 dX11_blind_14 (by decide) c7 hf (fun hf => ?_) (fun hf => ?_)
    · refine r_aload_n (pc := 20) S0 0 dX11_blind_20 rfl rfl ?_
      refine r_getR (pc := 21) S0 hK fl_X11_97 dX11_blind_21 hf (fun x8 hf => ?_)
      refine r_aload_n (pc := 24) S0 0 dX11_blind_24 rfl rfl ?_
      refine r_getR (pc := 25) S0 hK fl_X11_44 dX11_blind_25 hf (fun x9 hf => ?_)
      refine r_iload_n (pc := 28) S0 1 dX11_blind_28 rfl rfl ?_
      obtain ⟨e10, h11, hf⟩ := ok_bind hf
      refine r_cV_V (pc := 29) [rv ad x9, iv a1] S0 hK hX mv_X11_342 (k_X0_goFrom h11) (c_X0_goFrom l cA D N sx ad T A nx I x8 x9 a1 ca1 e10 h11) rfl rfl ⟨by decide, by decide⟩ (Nat.le_of_ble_eq_true rfl) ⟨Nat.le_refl _, Nat.le_refl _⟩ dX11_blind_29 ?_
      refine r_aload_n (pc := 32) S0 0 dX11_blind_32 rfl rfl ?_
      refine r_getR (pc := 33) S0 hK fl_X11_97 dX11_blind_33 hf (fun x12 hf => ?_)
      refine r_getI (pc := 36) S0 hK fl_X11_346 dX11_blind_36 hf (fun x13 c14 hf => ?_)
      have hz := ok_some hf
      have hz : (x13, e10) = e := hz
      subst hQ
      subst hz
      exact r_iret (pc := 39) S0 hr hlk c14 dX11_blind_39
    · refine r_bipush (pc := 17) S0 dX11_blind_17 (by decide) ?_
      have hz := ok_some hf
      have hz : ((-2), I) = e := hz
      subst hQ
      subst hz
      exact r_iret (pc := 19) S0 hr hlk (cnz (-2) rfl) dX11_blind_19

set_option maxHeartbeats 4000000 in
set_option maxRecDepth 100000 in
theorem c_X11_tries (l : Launch) (cA : Nat → ClassId) (D : va_G) (N : Nat) (sx : Sx) (ad : Nat → Nat) (T : Knd) (A : Rfs) (nx : Nat) (I : Mem) (w0 : Nat) (a1 : Int) (ca1 : cn a1) (e : (Int × Mem)) (h : f_X11_tries T A w0 a1 I = some e) : CtI l yX11_tries cX11_tries 2 (some .int) 6 177 cA D N sx ad T A nx [rv ad w0, iv a1] I e.2 e.1 := by
  refine met_of (lv0 := [(0, rv ad w0), (1, iv a1)]) (by decide) (Nat.le_of_ble_eq_true rfl) rfl (fun p e0 s m args below meth c S0 hK hX hr hlk Q hQ => ?_)
  have hf : OK (f_X11_tries T A w0 a1 I) (fun z => z = e) := ⟨e, h, rfl⟩
  unfold f_X11_tries at hf
  obtain ⟨hw0, hf⟩ := ok_grd hf
  refine r_aload_n (pc := 0) S0 0 dX11_tries_0 rfl rfl ?_
  refine r_getR (pc := 1) S0 hK fl_X11_28 dX11_tries_1 hf (fun x1 hf => ?_)
  obtain ⟨e2, h3, hf⟩ := ok_bind hf
  refine r_cV_I (pc := 4) [] S0 hK hX mv_X11_170 (k_X2_isThere h3) (c_X2_isThere l cA D N sx ad T A nx I x1 e2 h3) rfl rfl ⟨by decide, by decide⟩ (Nat.le_of_ble_eq_true rfl) ⟨Nat.le_refl _, Nat.le_refl _⟩ dX11_tries_4 (fun c4 => ?_)
  refine r_if_eq (pc := 7) (tgt := 17) S0 dX11_tries_7 (by decide) c4 hf (fun hf => ?_) (fun hf => ?_)
  · refine r_bipush (pc := 17) S0 dX11_tries_17 (by decide) ?_
    have hz := ok_some hf
    have hz : ((-2), I) = e := hz
    subst hQ
    subst hz
    exact r_iret (pc := 19) S0 hr hlk (cnz (-2) rfl) dX11_tries_19
  · refine r_iload_n (pc := 10) S0 1 dX11_tries_10 rfl rfl ?_
    obtain ⟨e5, h6, hf⟩ := ok_bind hf
    refine r_cS_I (pc := 11) [iv a1] S0 hK hX ms_X11_339 (c_X11_isSeed l cA D N sx ad T A nx I a1 ca1 e5 h6) rfl rfl ⟨by decide, by decide⟩ (Nat.le_of_ble_eq_true rfl) ⟨Nat.le_refl _, Nat.le_refl _⟩ dX11_tries_11 (fun c7 => ?_)
    refine r_if_ne (pc := 14) (tgt := 20) S0 dX11_tries_14 (by decide) c7 hf (fun hf => ?_) (fun hf => ?_)
    · refine r_aload_n (pc := 20) S0 0 dX11_tries_20 rfl rfl ?_
      refine r_getR (pc := 21) S0 hK fl_X11_97 dX11_tries_21 hf (fun x8 hf => ?_)
      refine r_aload_n (pc := 24) S0 0 dX11_tries_24 rfl rfl ?_
      refine r_getR (pc := 25) S0 hK fl_X11_44 dX11_tries_25 hf (fun x9 hf => ?_)
      refine r_iload_n (pc := 28) S0 1 dX11_tries_28 rfl rfl ?_
      obtain ⟨e10, h11, hf⟩ := ok_bind hf
      refine r_cV_V (pc := 29) [rv ad x9, iv a1] S0 hK hX mv_X11_342 (k_X0_goFrom h11) (c_X0_goFrom l cA D N sx ad T A nx I x8 x9 a1 ca1 e10 h11) rfl rfl ⟨by decide, by decide⟩ (Nat.le_of_ble_eq_true rfl) ⟨Nat.le_refl _, Nat.le_refl _⟩ dX11_tries_29 ?_
      refine r_aload_n (pc := 32) S0 0 dX11_tries_32 rfl rfl ?_
      refine r_getR (pc := 33) S0 hK fl_X11_97 dX11_tries_33 hf (fun x12 hf => ?_)
      refine r_getI (pc := 36) S0 hK fl_X11_347 dX11_tries_36 hf (fun x13 c14 hf => ?_)
      have hz := ok_some hf
      have hz : (x13, e10) = e := hz
      subst hQ
      subst hz
      exact r_iret (pc := 39) S0 hr hlk c14 dX11_tries_39
    · refine r_bipush (pc := 17) S0 dX11_tries_17 (by decide) ?_
      have hz := ok_some hf
      have hz : ((-2), I) = e := hz
      subst hQ
      subst hz
      exact r_iret (pc := 19) S0 hr hlk (cnz (-2) rfl) dX11_tries_19

set_option maxHeartbeats 4000000 in
set_option maxRecDepth 100000 in
theorem c_X11_luck (l : Launch) (cA : Nat → ClassId) (D : va_G) (N : Nat) (sx : Sx) (ad : Nat → Nat) (T : Knd) (A : Rfs) (nx : Nat) (I : Mem) (w0 : Nat) (a1 : Int) (a2 : Int) (ca1 : cn a1) (ca2 : cn a2) (e : (Int × Mem)) (h : f_X11_luck T A w0 a1 a2 I = some e) : CtI l yX11_luck cX11_luck 5 (some .int) 6 177 cA D N sx ad T A nx [rv ad w0, iv a1, iv a2] I e.2 e.1 := by
  refine met_of (lv0 := [(0, rv ad w0), (1, iv a1), (2, iv a2)]) (by decide) (Nat.le_of_ble_eq_true rfl) rfl (fun p e0 s m args below meth c S0 hK hX hr hlk Q hQ => ?_)
  have hf : OK (f_X11_luck T A w0 a1 a2 I) (fun z => z = e) := ⟨e, h, rfl⟩
  unfold f_X11_luck at hf
  obtain ⟨hw0, hf⟩ := ok_grd hf
  refine r_aload_n (pc := 0) S0 0 dX11_luck_0 rfl rfl ?_
  refine r_getR (pc := 1) S0 hK fl_X11_28 dX11_luck_1 hf (fun x1 hf => ?_)
  obtain ⟨e2, h3, hf⟩ := ok_bind hf
  refine r_cV_I (pc := 4) [] S0 hK hX mv_X11_170 (k_X2_isThere h3) (c_X2_isThere l cA D N sx ad T A nx I x1 e2 h3) rfl rfl ⟨by decide, by decide⟩ (Nat.le_of_ble_eq_true rfl) ⟨Nat.le_refl _, Nat.le_refl _⟩ dX11_luck_4 (fun c4 => ?_)
  refine r_if_eq (pc := 7) (tgt := 28) S0 dX11_luck_7 (by decide) c4 hf (fun hf => ?_) (fun hf => ?_)
  · refine r_bipush (pc := 28) S0 dX11_luck_28 (by decide) ?_
    have hz := ok_some hf
    have hz : ((-2), I) = e := hz
    subst hQ
    subst hz
    exact r_iret (pc := 30) S0 hr hlk (cnz (-2) rfl) dX11_luck_30
  · refine r_iload_n (pc := 10) S0 1 dX11_luck_10 rfl rfl ?_
    obtain ⟨e5, h6, hf⟩ := ok_bind hf
    refine r_cS_I (pc := 11) [iv a1] S0 hK hX ms_X11_339 (c_X11_isSeed l cA D N sx ad T A nx I a1 ca1 e5 h6) rfl rfl ⟨by decide, by decide⟩ (Nat.le_of_ble_eq_true rfl) ⟨Nat.le_refl _, Nat.le_refl _⟩ dX11_luck_11 (fun c7 => ?_)
    refine r_if_eq (pc := 14) (tgt := 28) S0 dX11_luck_14 (by decide) c7 hf (fun hf => ?_) (fun hf => ?_)
    · refine r_bipush (pc := 28) S0 dX11_luck_28 (by decide) ?_
      have hz := ok_some hf
      have hz : ((-2), I) = e := hz
      subst hQ
      subst hz
      exact r_iret (pc := 30) S0 hr hlk (cnz (-2) rfl) dX11_luck_30
    · refine r_iload_n (pc := 17) S0 2 dX11_luck_17 rfl rfl ?_
      refine r_iconst (pc := 18) S0 dX11_luck_18 ?_
      refine r_icmp_lt (pc := 19) (tgt := 28) S0 dX11_luck_19 (by decide) ca2 (cnz 1 rfl) hf (fun hf => ?_) (fun hf => ?_)
      · refine r_bipush (pc := 28) S0 dX11_luck_28 (by decide) ?_
        have hz := ok_some hf
        have hz : ((-2), I) = e := hz
        subst hQ
        subst hz
        exact r_iret (pc := 30) S0 hr hlk (cnz (-2) rfl) dX11_luck_30
      · refine r_iload_n (pc := 22) S0 2 dX11_luck_22 rfl rfl ?_
        refine r_bipush (pc := 23) S0 dX11_luck_23 (by decide) ?_
        refine r_icmp_le (pc := 25) (tgt := 31) S0 dX11_luck_25 (by decide) ca2 (cnz 20 rfl) hf (fun hf => ?_) (fun hf => ?_)
        · refine r_iconst (pc := 31) S0 dX11_luck_31 ?_
          refine r_istore_n (pc := 32) (lv' := [(3, iv 0), (0, rv ad w0), (1, iv a1), (2, iv a2)]) S0 dX11_luck_32 rfl (by decide) rfl ?_
          refine r_iconst (pc := 33) S0 dX11_luck_33 ?_
          refine r_istore (pc := 34) (lv' := [(4, iv 0), (3, iv 0), (0, rv ad w0), (1, iv a1), (2, iv a2)]) S0 dX11_luck_34 (by decide) rfl ?_
          refine r_lv [2, 3, 4, 1, 0] rfl ?_
          refine it_ind (P := fun s9 => cn s9.1 → cn s9.2.1 → G p l e0 (rmx 6 177) s m args below meth c 0 0 Q cA D N 5 ad T A nx 36 [(0, rv ad w0), (1, iv a1), (2, iv a2), (3, iv s9.1), (4, iv s9.2.1)] [] s9.2.2) (fun n0 s9 ih8 hf c10 c11 => ?_) FU (0, 0, I) hf (cnz 0 rfl) (cnz 0 rfl)
          refine r_iload (pc := 36) S0 4 dX11_luck_36 rfl ?_
          refine r_iload_n (pc := 38) S0 2 dX11_luck_38 rfl rfl ?_
          refine r_icmp_ge (pc := 39) (tgt := 77) S0 dX11_luck_39 (by decide) c11 ca2 hf (fun hf => ?_) (fun hf => ?_)
          · refine r_iload_n (pc := 77) S0 3 dX11_luck_77 rfl rfl ?_
            have hz := ok_some hf
            have hz : (s9.1, s9.2.2) = e := hz
            subst hQ
            subst hz
            exact r_iret (pc := 78) S0 hr hlk c10 dX11_luck_78
          · refine r_aload_n (pc := 42) S0 0 dX11_luck_42 rfl rfl ?_
            refine r_getR (pc := 43) S0 hK fl_X11_97 dX11_luck_43 hf (fun x12 hf => ?_)
            refine r_aload_n (pc := 46) S0 0 dX11_luck_46 rfl rfl ?_
            refine r_getR (pc := 47) S0 hK fl_X11_44 dX11_luck_47 hf (fun x13 hf => ?_)
            refine r_iload_n (pc := 50) S0 1 dX11_luck_50 rfl rfl ?_
            refine r_iload (pc := 51) S0 4 dX11_luck_51 rfl ?_
            refine r_iadd (pc := 53) S0 dX11_luck_53 ?_
            obtain ⟨e14, h15, hf⟩ := ok_bind hf
            refine r_cV_V (pc := 54) [rv ad x13, iv (ia a1 s9.2.1)] S0 hK hX mv_X11_342 (k_X0_goFrom h15) (c_X0_goFrom l cA D N sx ad T A nx s9.2.2 x12 x13 (ia a1 s9.2.1) (cn_wrap _) e14 h15) rfl rfl ⟨by decide, by decide⟩ (Nat.le_of_ble_eq_true rfl) ⟨Nat.le_refl _, Nat.le_refl _⟩ dX11_luck_54 ?_
            refine r_aload_n (pc := 57) S0 0 dX11_luck_57 rfl rfl ?_
            refine r_getR (pc := 58) S0 hK fl_X11_97 dX11_luck_58 hf (fun x16 hf => ?_)
            refine r_getI (pc := 61) S0 hK fl_X11_346 dX11_luck_61 hf (fun x17 c18 hf => ?_)
            refine r_iconst (pc := 64) S0 dX11_luck_64 ?_
            refine r_icmp_eq (pc := 65) (tgt := 71) S0 dX11_luck_65 (by decide) c18 (cnz (-1) rfl) hf (fun hf => ?_) (fun hf => ?_)
            · refine r_iinc (pc := 71) (lv' := [(4, iv (ia s9.2.1 1)), (0, rv ad w0), (1, iv a1), (2, iv a2), (3, iv s9.1)]) S0 4 dX11_luck_71 rfl (by decide) rfl ?_
              refine r_goto (pc := 74) (tgt := 36) S0 dX11_luck_74 (by decide) ?_
              have hz := ok_some hf
              refine r_lv [1, 2, 3, 4, 0] rfl ?_
              exact ih8 (s9.1, ia s9.2.1 1, e14) hz c10 (cn_wrap _)
            · refine r_iinc (pc := 68) (lv' := [(3, iv (ia s9.1 1)), (0, rv ad w0), (1, iv a1), (2, iv a2), (4, iv s9.2.1)]) S0 3 dX11_luck_68 rfl (by decide) rfl ?_
              refine r_iinc (pc := 71) (lv' := [(4, iv (ia s9.2.1 1)), (3, iv (ia s9.1 1)), (0, rv ad w0), (1, iv a1), (2, iv a2)]) S0 4 dX11_luck_71 rfl (by decide) rfl ?_
              refine r_goto (pc := 74) (tgt := 36) S0 dX11_luck_74 (by decide) ?_
              have hz := ok_some hf
              refine r_lv [2, 3, 4, 1, 0] rfl ?_
              exact ih8 (ia s9.1 1, ia s9.2.1 1, e14) hz (cn_wrap _) (cn_wrap _)
        · refine r_bipush (pc := 28) S0 dX11_luck_28 (by decide) ?_
          have hz := ok_some hf
          have hz : ((-2), I) = e := hz
          subst hQ
          subst hz
          exact r_iret (pc := 30) S0 hr hlk (cnz (-2) rfl) dX11_luck_30
