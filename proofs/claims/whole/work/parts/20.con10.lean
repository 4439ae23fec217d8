/-! Contracts, laid by wip/gen/gen.py. -/
set_option maxHeartbeats 4000000 in
set_option maxRecDepth 100000 in
theorem c_X7_set (l : Launch) (cA : Nat → ClassId) (D : va_G) (N : Nat) (sx : Sx) (ad : Nat → Nat) (T : Knd) (A : Rfs) (nx : Nat) (I : Mem) (w0 : Nat) (a1 : Int) (a2 : Int) (a3 : Int) (ca1 : cn a1) (ca2 : cn a2) (ca3 : cl a3) (e : (Int × Mem)) (h : f_X7_set T A w0 a1 a2 a3 I = some e) : CtI l yX7_set cX7_set 5 (some .boolean) 4 123 cA D N sx ad T A nx [rv ad w0, iv a1, iv a2, jv a3] I e.2 e.1 := by
  refine met_of (lv0 := [(0, rv ad w0), (1, iv a1), (2, iv a2), (3, jv a3)]) (by decide) (Nat.le_of_ble_eq_true rfl) rfl (fun p e0 s m args below meth c S0 hK hX hr hlk Q hQ => ?_)
  have hf : OK (f_X7_set T A w0 a1 a2 a3 I) (fun z => z = e) := ⟨e, h, rfl⟩
  unfold f_X7_set at hf
  obtain ⟨hw0, hf⟩ := ok_grd hf
  refine r_iload_n (pc := 0) S0 2 dX7_set_0 rfl rfl ?_
  refine r_if_lt (pc := 1) (tgt := 13) S0 dX7_set_1 (by decide) ca2 hf (fun hf => ?_) (fun hf => ?_)
  · refine r_iconst (pc := 13) S0 dX7_set_13 ?_
    have hz := ok_some hf
    have hz : (0, I) = e := hz
    subst hQ
    subst hz
    exact r_zret (pc := 14) S0 hr hlk (Or.inl rfl) dX7_set_14
  · refine r_iload_n (pc := 4) S0 2 dX7_set_4 rfl rfl ?_
    refine r_aload_n (pc := 5) S0 0 dX7_set_5 rfl rfl ?_
    refine r_iload_n (pc := 6) S0 1 dX7_set_6 rfl rfl ?_
    obtain ⟨e1, h2, hf⟩ := ok_bind hf
    refine r_cV_I (pc := 7) [iv a1] S0 hK hX mv_X7_39 (k_X7_lengthOf h2) (c_X7_lengthOf l cA D N sx ad T A nx I w0 a1 ca1 e1 h2) rfl rfl ⟨by decide, by decide⟩ (Nat.le_of_ble_eq_true rfl) ⟨Nat.le_refl _, Nat.le_refl _⟩ dX7_set_7 (fun c3 => ?_)
    refine r_icmp_lt (pc := 10) (tgt := 15) S0 dX7_set_10 (by decide) ca2 c3 hf (fun hf => ?_) (fun hf => ?_)
    · refine r_aload_n (pc := 15) S0 0 dX7_set_15 rfl rfl ?_
      refine r_getR (pc := 16) S0 hK fl_X7_13 dX7_set_16 hf (fun x4 hf => ?_)
      refine r_iload_n (pc := 19) S0 1 dX7_set_19 rfl rfl ?_
      refine r_aald 25 5 (pc := 20) S0 hK (by decide) rfl rfl dX7_set_20 ca1 hf (fun x5 hf => ?_)
      refine r_iload_n (pc := 21) S0 2 dX7_set_21 rfl rfl ?_
      refine r_lload_n (pc := 22) S0 3 dX7_set_22 rfl rfl ?_
      refine r_aload_n (pc := 23) S0 0 dX7_set_23 rfl rfl ?_
      refine r_getR (pc := 24) S0 hK fl_X7_16 dX7_set_24 hf (fun x6 hf => ?_)
      refine r_iload_n (pc := 27) S0 1 dX7_set_27 rfl rfl ?_
      refine r_iald (pc := 28) S0 hK dX7_set_28 ca1 hf (fun x7 c8 hf => ?_)
      obtain ⟨e9, h10, hf⟩ := ok_bind hf
      refine r_cS_J (pc := 29) [jv a3, iv x7] S0 hK hX ms_X7_43 (c_X7_cut l cA D N sx ad T A nx I a3 x7 ca3 c8 e9 h10) rfl rfl ⟨by decide, by decide⟩ (Nat.le_of_ble_eq_true rfl) ⟨Nat.le_refl _, Nat.le_refl _⟩ dX7_set_29 (fun c11 => ?_)
      refine r_last (pc := 32) S0 hK dX7_set_32 ca2 c11 hf (fun I12 hf => ?_)
      refine r_iconst (pc := 33) S0 dX7_set_33 ?_
      have hz := ok_some hf
      have hz : (1, I12) = e := hz
      subst hQ
      subst hz
      exact r_zret (pc := 34) S0 hr hlk (Or.inr rfl) dX7_set_34
    · refine r_iconst (pc := 13) S0 dX7_set_13 ?_
      have hz := ok_some hf
      have hz : (0, I) = e := hz
      subst hQ
      subst hz
      exact r_zret (pc := 14) S0 hr hlk (Or.inl rfl) dX7_set_14

set_option maxHeartbeats 4000000 in
set_option maxRecDepth 100000 in
theorem c_X11_write (l : Launch) (cA : Nat → ClassId) (D : va_G) (N : Nat) (sx : Sx) (ad : Nat → Nat) (T : Knd) (A : Rfs) (nx : Nat) (I : Mem) (w0 : Nat) (a1 : Int) (a2 : Int) (a3 : Int) (ca1 : cn a1) (ca2 : cn a2) (ca3 : cl a3) (e : (Int × Mem)) (h : f_X11_write T A w0 a1 a2 a3 I = some e) : CtI l yX11_write cX11_write 5 (some .int) 5 147 cA D N sx ad T A nx [rv ad w0, iv a1, iv a2, jv a3] I e.2 e.1 := by
  refine met_of (lv0 := [(0, rv ad w0), (1, iv a1), (2, iv a2), (3, jv a3)]) (by decide) (Nat.le_of_ble_eq_true rfl) rfl (fun p e0 s m args below meth c S0 hK hX hr hlk Q hQ => ?_)
  have hf : OK (f_X11_write T A w0 a1 a2 a3 I) (fun z => z = e) := ⟨e, h, rfl⟩
  unfold f_X11_write at hf
  obtain ⟨hw0, hf⟩ := ok_grd hf
  refine r_aload_n (pc := 0) S0 0 dX11_write_0 rfl rfl ?_
  refine r_getR (pc := 1) S0 hK fl_X11_83 dX11_write_1 hf (fun x1 hf => ?_)
  refine r_iload_n (pc := 4) S0 1 dX11_write_4 rfl rfl ?_
  obtain ⟨e2, h3, hf⟩ := ok_bind hf
  refine r_cV_I (pc := 5) [iv a1] S0 hK hX mv_X11_366 (k_X7_isSlot h3) (c_X7_isSlot l cA D N sx ad T A nx I x1 a1 ca1 e2 h3) rfl rfl ⟨by decide, by decide⟩ (Nat.le_of_ble_eq_true rfl) ⟨Nat.le_refl _, Nat.le_refl _⟩ dX11_write_5 (fun c4 => ?_)
  refine r_if_ne (pc := 8) (tgt := 14) S0 dX11_write_8 (by decide) c4 hf (fun hf => ?_) (fun hf => ?_)
  · refine r_aload_n (pc := 14) S0 0 dX11_write_14 rfl rfl ?_
    refine r_getR (pc := 15) S0 hK fl_X11_83 dX11_write_15 hf (fun x5 hf => ?_)
    refine r_iload_n (pc := 18) S0 1 dX11_write_18 rfl rfl ?_
    obtain ⟨e6, h7, hf⟩ := ok_bind hf
    refine r_cV_I (pc := 19) [iv a1] S0 hK hX mv_X11_373 (k_X7_hasRow h7) (c_X7_hasRow l cA D N sx ad T A nx I x5 a1 ca1 e6 h7) rfl rfl ⟨by decide, by decide⟩ (Nat.le_of_ble_eq_true rfl) ⟨Nat.le_refl _, Nat.le_refl _⟩ dX11_write_19 (fun c8 => ?_)
    refine r_if_ne (pc := 22) (tgt := 28) S0 dX11_write_22 (by decide) c8 hf (fun hf => ?_) (fun hf => ?_)
    · refine r_aload_n (pc := 28) S0 0 dX11_write_28 rfl rfl ?_
      refine r_getR (pc := 29) S0 hK fl_X11_83 dX11_write_29 hf (fun x9 hf => ?_)
      refine r_iload_n (pc := 32) S0 1 dX11_write_32 rfl rfl ?_
      refine r_iload_n (pc := 33) S0 2 dX11_write_33 rfl rfl ?_
      refine r_lload_n (pc := 34) S0 3 dX11_write_34 rfl rfl ?_
      obtain ⟨e10, h11, hf⟩ := ok_bind hf
      refine r_cV_I (pc := 35) [iv a1, iv a2, jv a3] S0 hK hX mv_X11_376 (k_X7_set h11) (c_X7_set l cA D N sx ad T A nx I x9 a1 a2 a3 ca1 ca2 ca3 e10 h11) rfl rfl ⟨by decide, by decide⟩ (Nat.le_of_ble_eq_true rfl) ⟨Nat.le_refl _, Nat.le_refl _⟩ dX11_write_35 (fun c12 => ?_)
      refine r_if_eq (pc := 38) (tgt := 45) S0 dX11_write_38 (by decide) c12 hf (fun hf => ?_) (fun hf => ?_)
      · refine r_bipush (pc := 45) S0 dX11_write_45 (by decide) ?_
        have hz := ok_some hf
        have hz : ((-7), e10.2) = e := hz
        subst hQ
        subst hz
        exact r_iret (pc := 47) S0 hr hlk (cnz (-7) rfl) dX11_write_47
      · refine r_iconst (pc := 41) S0 dX11_write_41 ?_
        refine r_goto (pc := 42) (tgt := 47) S0 dX11_write_42 (by decide) ?_
        have hz := ok_some hf
        have hz : (0, e10.2) = e := hz
        subst hQ
        subst hz
        exact r_iret (pc := 47) S0 hr hlk (cnz 0 rfl) dX11_write_47
    · refine r_bipush (pc := 25) S0 dX11_write_25 (by decide) ?_
      have hz := ok_some hf
      have hz : ((-6), I) = e := hz
      subst hQ
      subst hz
      exact r_iret (pc := 27) S0 hr hlk (cnz (-6) rfl) dX11_write_27
  · refine r_bipush (pc := 11) S0 dX11_write_11 (by decide) ?_
    have hz := ok_some hf
    have hz : ((-2), I) = e := hz
    subst hQ
    subst hz
    exact r_iret (pc := 13) S0 hr hlk (cnz (-2) rfl) dX11_write_13

set_option maxHeartbeats 4000000 in
set_option maxRecDepth 100000 in
theorem c_X7_widthOf (l : Launch) (cA : Nat → ClassId) (D : va_G) (N : Nat) (sx : Sx) (ad : Nat → Nat) (T : Knd) (A : Rfs) (nx : Nat) (I : Mem) (w0 : Nat) (a1 : Int) (ca1 : cn a1) (e : Int) (h : f_X7_widthOf T A w0 a1 I = some e) : CtI l yX7_widthOf cX7_widthOf 2 (some .int) 2 81 cA D N sx ad T A nx [rv ad w0, iv a1] I I e := by
  refine met_of (lv0 := [(0, rv ad w0), (1, iv a1)]) (by decide) (Nat.le_of_ble_eq_true rfl) rfl (fun p e0 s m args below meth c S0 hK hX hr hlk Q hQ => ?_)
  have hf : OK (f_X7_widthOf T A w0 a1 I) (fun z => z = e) := ⟨e, h, rfl⟩
  unfold f_X7_widthOf at hf
  obtain ⟨hw0, hf⟩ := ok_grd hf
  refine r_aload_n (pc := 0) S0 0 dX7_widthOf_0 rfl rfl ?_
  refine r_iload_n (pc := 1) S0 1 dX7_widthOf_1 rfl rfl ?_
  obtain ⟨e1, h2, hf⟩ := ok_bind hf
  refine r_cV_I (pc := 2) [iv a1] S0 hK hX mv_X7_29 (k_X7_isSlot h2) (c_X7_isSlot l cA D N sx ad T A nx I w0 a1 ca1 e1 h2) rfl rfl ⟨by decide, by decide⟩ (Nat.le_of_ble_eq_true rfl) ⟨Nat.le_refl _, Nat.le_refl _⟩ dX7_widthOf_2 (fun c3 => ?_)
  refine r_if_eq (pc := 5) (tgt := 17) S0 dX7_widthOf_5 (by decide) c3 hf (fun hf => ?_) (fun hf => ?_)
  · refine r_iconst (pc := 17) S0 dX7_widthOf_17 ?_
    have hz := ok_some hf
    have hz : (-1) = e := hz
    subst hQ
    subst hz
    exact r_iret (pc := 18) S0 hr hlk (cnz (-1) rfl) dX7_widthOf_18
  · refine r_aload_n (pc := 8) S0 0 dX7_widthOf_8 rfl rfl ?_
    refine r_getR (pc := 9) S0 hK fl_X7_16 dX7_widthOf_9 hf (fun x4 hf => ?_)
    refine r_iload_n (pc := 12) S0 1 dX7_widthOf_12 rfl rfl ?_
    refine r_iald (pc := 13) S0 hK dX7_widthOf_13 ca1 hf (fun x5 c6 hf => ?_)
    refine r_goto (pc := 14) (tgt := 18) S0 dX7_widthOf_14 (by decide) ?_
    have hz := ok_some hf
    have hz : x5 = e := hz
    subst hQ
    subst hz
    exact r_iret (pc := 18) S0 hr hlk c6 dX7_widthOf_18

set_option maxHeartbeats 4000000 in
set_option maxRecDepth 100000 in
theorem c_X7_reaches (l : Launch) (cA : Nat → ClassId) (D : va_G) (N : Nat) (sx : Sx) (ad : Nat → Nat) (T : Knd) (A : Rfs) (nx : Nat) (I : Mem) (w0 : Nat) (a1 : Int) (a2 : Int) (a3 : Int) (ca1 : cn a1) (ca2 : cn a2) (ca3 : cn a3) (e : Int) (h : f_X7_reaches T A w0 a1 a2 a3 I = some e) : CtI l yX7_reaches cX7_reaches 5 (some .boolean) 4 123 cA D N sx ad T A nx [rv ad w0, iv a1, iv a2, iv a3] I I e := by
  refine met_of (lv0 := [(0, rv ad w0), (1, iv a1), (2, iv a2), (3, iv a3)]) (by decide) (Nat.le_of_ble_eq_true rfl) rfl (fun p e0 s m args below meth c S0 hK hX hr hlk Q hQ => ?_)
  have hf : OK (f_X7_reaches T A w0 a1 a2 a3 I) (fun z => z = e) := ⟨e, h, rfl⟩
  unfold f_X7_reaches at hf
  obtain ⟨hw0, hf⟩ := ok_grd hf
  refine r_aload_n (pc := 0) S0 0 dX7_reaches_0 rfl rfl ?_
  refine r_iload_n (pc := 1) S0 1 dX7_reaches_1 rfl rfl ?_
  obtain ⟨e1, h2, hf⟩ := ok_bind hf
  refine r_cV_I (pc := 2) [iv a1] S0 hK hX mv_X7_39 (k_X7_lengthOf h2) (c_X7_lengthOf l cA D N sx ad T A nx I w0 a1 ca1 e1 h2) rfl rfl ⟨by decide, by decide⟩ (Nat.le_of_ble_eq_true rfl) ⟨Nat.le_refl _, Nat.le_refl _⟩ dX7_reaches_2 (fun c3 => ?_)
  refine r_istore (pc := 5) (lv' := [(4, iv e1), (0, rv ad w0), (1, iv a1), (2, iv a2), (3, iv a3)]) S0 dX7_reaches_5 (by decide) rfl ?_
  refine r_iload_n (pc := 7) S0 3 dX7_reaches_7 rfl rfl ?_
  refine r_if_lt (pc := 8) (tgt := 33) S0 dX7_reaches_8 (by decide) ca2 hf (fun hf => ?_) (fun hf => ?_)
  · refine r_iconst (pc := 33) S0 dX7_reaches_33 ?_
    have hz := ok_some hf
    have hz : 0 = e := hz
    subst hQ
    subst hz
    exact r_zret (pc := 34) S0 hr hlk (Or.inl rfl) dX7_reaches_34
  · refine r_iload_n (pc := 11) S0 4 dX7_reaches_11 rfl rfl ?_
    refine r_if_lt (pc := 12) (tgt := 33) S0 dX7_reaches_12 (by decide) ca3 hf (fun hf => ?_) (fun hf => ?_)
    · refine r_iconst (pc := 33) S0 dX7_reaches_33 ?_
      have hz := ok_some hf
      have hz : 0 = e := hz
      subst hQ
      subst hz
      exact r_zret (pc := 34) S0 hr hlk (Or.inl rfl) dX7_reaches_34
    · refine r_iload_n (pc := 15) S0 3 dX7_reaches_15 rfl rfl ?_
      refine r_iload (pc := 16) S0 0 dX7_reaches_16 rfl ?_
      refine r_icmp_gt (pc := 18) (tgt := 33) S0 dX7_reaches_18 (by decide) ca2 c3 hf (fun hf => ?_) (fun hf => ?_)
      · refine r_iconst (pc := 33) S0 dX7_reaches_33 ?_
        have hz := ok_some hf
        have hz : 0 = e := hz
        subst hQ
        subst hz
        exact r_zret (pc := 34) S0 hr hlk (Or.inl rfl) dX7_reaches_34
      · refine r_iload_n (pc := 21) S0 4 dX7_reaches_21 rfl rfl ?_
        refine r_iload (pc := 22) S0 0 dX7_reaches_22 rfl ?_
        refine r_iload_n (pc := 24) S0 3 dX7_reaches_24 rfl rfl ?_
        refine r_isub (pc := 25) S0 dX7_reaches_25 ?_
        refine r_icmp_gt (pc := 26) (tgt := 33) S0 dX7_reaches_26 (by decide) ca3 (cn_wrap _) hf (fun hf => ?_) (fun hf => ?_)
        · refine r_iconst (pc := 33) S0 dX7_reaches_33 ?_
          have hz := ok_some hf
          have hz : 0 = e := hz
          subst hQ
          subst hz
          exact r_zret (pc := 34) S0 hr hlk (Or.inl rfl) dX7_reaches_34
        · refine r_iconst (pc := 29) S0 dX7_reaches_29 ?_
          refine r_goto (pc := 30) (tgt := 34) S0 dX7_reaches_30 (by decide) ?_
          have hz := ok_some hf
          have hz : 1 = e := hz
          subst hQ
          subst hz
          exact r_zret (pc := 34) S0 hr hlk (Or.inr rfl) dX7_reaches_34

set_option maxHeartbeats 4000000 in
set_option maxRecDepth 100000 in
theorem c_X7_copy (l : Launch) (cA : Nat → ClassId) (D : va_G) (N : Nat) (sx : Sx) (ad : Nat → Nat) (T : Knd) (A : Rfs) (nx : Nat) (I : Mem) (w0 : Nat) (a1 : Int) (a2 : Int) (a3 : Int) (a4 : Int) (a5 : Int) (ca1 : cn a1) (ca2 : cn a2) (ca3 : cn a3) (ca4 : cn a4) (ca5 : cn a5) (e : Mem) (h : f_X7_copy T A w0 a1 a2 a3 a4 a5 I = some e) : CtV l yX7_copy cX7_copy 6 none 5 147 cA D N sx ad T A nx [rv ad w0, iv a1, iv a2, iv a3, iv a4, iv a5] I e := by
  refine met_of (lv0 := [(0, rv ad w0), (1, iv a1), (2, iv a2), (3, iv a3), (4, iv a4), (5, iv a5)]) (by decide) (Nat.le_of_ble_eq_true rfl) rfl (fun p e0 s m args below meth c S0 hK hX hr hlk Q hQ => ?_)
  have hf : OK (f_X7_copy T A w0 a1 a2 a3 a4 a5 I) (fun z => z = e) := ⟨e, h, rfl⟩
  unfold f_X7_copy at hf
  obtain ⟨hw0, hf⟩ := ok_grd hf
  refine r_aload_n (pc := 0) S0 0 dX7_copy_0 rfl rfl ?_
  refine r_iload_n (pc := 1) S0 1 dX7_copy_1 rfl rfl ?_
  refine r_iload_n (pc := 2) S0 2 dX7_copy_2 rfl rfl ?_
  refine r_iload (pc := 3) S0 5 dX7_copy_3 rfl ?_
  obtain ⟨e1, h2, hf⟩ := ok_bind hf
  refine r_cV_I (pc := 5) [iv a1, iv a2, iv a5] S0 hK hX mv_X7_47 (k_X7_reaches h2) (c_X7_reaches l cA D N sx ad T A nx I w0 a1 a2 a5 ca1 ca2 ca5 e1 h2) rfl rfl ⟨by decide, by decide⟩ (Nat.le_of_ble_eq_true rfl) ⟨Nat.le_refl _, Nat.le_refl _⟩ dX7_copy_5 (fun c3 => ?_)
  refine r_if_eq (pc := 8) (tgt := 59) S0 dX7_copy_8 (by decide) c3 hf (fun hf => ?_) (fun hf => ?_)
  · have hz := ok_some hf
    have hz : I = e := hz
    subst hQ
    subst hz
    exact r_vret (pc := 59) S0 hr hlk dX7_copy_59
  · refine r_aload_n (pc := 11) S0 0 dX7_copy_11 rfl rfl ?_
    refine r_iload_n (pc := 12) S0 3 dX7_copy_12 rfl rfl ?_
    refine r_iload (pc := 13) S0 4 dX7_copy_13 rfl ?_
    refine r_iload (pc := 15) S0 5 dX7_copy_15 rfl ?_
    obtain ⟨e4, h5, hf⟩ := ok_bind hf
    refine r_cV_I (pc := 17) [iv a3, iv a4, iv a5] S0 hK hX mv_X7_47 (k_X7_reaches h5) (c_X7_reaches l cA D N sx ad T A nx I w0 a3 a4 a5 ca3 ca4 ca5 e4 h5) rfl rfl ⟨by decide, by decide⟩ (Nat.le_of_ble_eq_true rfl) ⟨Nat.le_refl _, Nat.le_refl _⟩ dX7_copy_17 (fun c6 => ?_)
    refine r_if_eq (pc := 20) (tgt := 59) S0 dX7_copy_20 (by decide) c6 hf (fun hf => ?_) (fun hf => ?_)
    · have hz := ok_some hf
      have hz : I = e := hz
      subst hQ
      subst hz
      exact r_vret (pc := 59) S0 hr hlk dX7_copy_59
    · refine r_aload_n (pc := 23) S0 0 dX7_copy_23 rfl rfl ?_
      refine r_iload_n (pc := 24) S0 1 dX7_copy_24 rfl rfl ?_
      obtain ⟨e7, h8, hf⟩ := ok_bind hf
      refine r_cV_I (pc := 25) [iv a1] S0 hK hX mv_X7_33 (k_X7_hasRow h8) (c_X7_hasRow l cA D N sx ad T A nx I w0 a1 ca1 e7 h8) rfl rfl ⟨by decide, by decide⟩ (Nat.le_of_ble_eq_true rfl) ⟨Nat.le_refl _, Nat.le_refl _⟩ dX7_copy_25 (fun c9 => ?_)
      refine r_if_eq (pc := 28) (tgt := 59) S0 dX7_copy_28 (by decide) c9 hf (fun hf => ?_) (fun hf => ?_)
      · have hz := ok_some hf
        have hz : I = e := hz
        subst hQ
        subst hz
        exact r_vret (pc := 59) S0 hr hlk dX7_copy_59
      · refine r_aload_n (pc := 31) S0 0 dX7_copy_31 rfl rfl ?_
        refine r_iload_n (pc := 32) S0 3 dX7_copy_32 rfl rfl ?_
        obtain ⟨e10, h11, hf⟩ := ok_bind hf
        refine r_cV_I (pc := 33) [iv a3] S0 hK hX mv_X7_33 (k_X7_hasRow h11) (c_X7_hasRow l cA D N sx ad T A nx I w0 a3 ca3 e10 h11) rfl rfl ⟨by decide, by decide⟩ (Nat.le_of_ble_eq_true rfl) ⟨Nat.le_refl _, Nat.le_refl _⟩ dX7_copy_33 (fun c12 => ?_)
        refine r_if_eq (pc := 36) (tgt := 59) S0 dX7_copy_36 (by decide) c12 hf (fun hf => ?_) (fun hf => ?_)
        · have hz := ok_some hf
          have hz : I = e := hz
          subst hQ
          subst hz
          exact r_vret (pc := 59) S0 hr hlk dX7_copy_59
        · refine r_aload_n (pc := 39) S0 0 dX7_copy_39 rfl rfl ?_
          refine r_getR (pc := 40) S0 hK fl_X7_13 dX7_copy_40 hf (fun x13 hf => ?_)
          refine r_iload_n (pc := 43) S0 1 dX7_copy_43 rfl rfl ?_
          refine r_aald 25 5 (pc := 44) S0 hK (by decide) rfl rfl dX7_copy_44 ca1 hf (fun x14 hf => ?_)
          refine r_iload_n (pc := 45) S0 2 dX7_copy_45 rfl rfl ?_
          refine r_aload_n (pc := 46) S0 0 dX7_copy_46 rfl rfl ?_
          refine r_getR (pc := 47) S0 hK fl_X7_13 dX7_copy_47 hf (fun x15 hf => ?_)
          refine r_iload_n (pc := 50) S0 3 dX7_copy_50 rfl rfl ?_
          refine r_aald 25 5 (pc := 51) S0 hK (by decide) rfl rfl dX7_copy_51 ca3 hf (fun x16 hf => ?_)
          refine r_iload (pc := 52) S0 4 dX7_copy_52 rfl ?_
          refine r_iload (pc := 54) S0 5 dX7_copy_54 rfl ?_
          refine r_acpl (pc := 56) S0 hK ma_X7_51 dX7_copy_56 ca2 ca4 ca5 ⟨Nat.le_of_ble_eq_true rfl, Nat.le_of_ble_eq_true rfl⟩ hf (fun I17 hf => ?_)
          have hz := ok_some hf
          have hz : I17 = e := hz
          subst hQ
          subst hz
          exact r_vret (pc := 59) S0 hr hlk dX7_copy_59

set_option maxHeartbeats 4000000 in
set_option maxRecDepth 100000 in
theorem c_X11_paste (l : Launch) (cA : Nat → ClassId) (D : va_G) (N : Nat) (sx : Sx) (ad : Nat → Nat) (T : Knd) (A : Rfs) (nx : Nat) (I : Mem) (w0 : Nat) (a1 : Int) (a2 : Int) (a3 : Int) (a4 : Int) (a5 : Int) (ca1 : cn a1) (ca2 : cn a2) (ca3 : cn a3) (ca4 : cn a4) (ca5 : cn a5) (e : (Int × Mem)) (h : f_X11_paste T A w0 a1 a2 a3 a4 a5 I = some e) : CtI l yX11_paste cX11_paste 6 (some .int) 6 172 cA D N sx ad T A nx [rv ad w0, iv a1, iv a2, iv a3, iv a4, iv a5] I e.2 e.1 := by
  refine met_of (lv0 := [(0, rv ad w0), (1, iv a1), (2, iv a2), (3, iv a3), (4, iv a4), (5, iv a5)]) (by decide) (Nat.le_of_ble_eq_true rfl) rfl (fun p e0 s m args below meth c S0 hK hX hr hlk Q hQ => ?_)
  have hf : OK (f_X11_paste T A w0 a1 a2 a3 a4 a5 I) (fun z => z = e) := ⟨e, h, rfl⟩
  unfold f_X11_paste at hf
  obtain ⟨hw0, hf⟩ := ok_grd hf
  refine r_aload_n (pc := 0) S0 0 dX11_paste_0 rfl rfl ?_
  refine r_getR (pc := 1) S0 hK fl_X11_83 dX11_paste_1 hf (fun x1 hf => ?_)
  refine r_iload_n (pc := 4) S0 1 dX11_paste_4 rfl rfl ?_
  obtain ⟨e2, h3, hf⟩ := ok_bind hf
  refine r_cV_I (pc := 5) [iv a1] S0 hK hX mv_X11_366 (k_X7_isSlot h3) (c_X7_isSlot l cA D N sx ad T A nx I x1 a1 ca1 e2 h3) rfl rfl ⟨by decide, by decide⟩ (Nat.le_of_ble_eq_true rfl) ⟨Nat.le_refl _, Nat.le_refl _⟩ dX11_paste_5 (fun c4 => ?_)
  refine r_if_eq (pc := 8) (tgt := 22) S0 dX11_paste_8 (by decide) c4 hf (fun hf => ?_) (fun hf => ?_)
  · refine r_bipush (pc := 22) S0 dX11_paste_22 (by decide) ?_
    have hz := ok_some hf
    have hz : ((-2), I) = e := hz
    subst hQ
    subst hz
    exact r_iret (pc := 24) S0 hr hlk (cnz (-2) rfl) dX11_paste_24
  · refine r_aload_n (pc := 11) S0 0 dX11_paste_11 rfl rfl ?_
    refine r_getR (pc := 12) S0 hK fl_X11_83 dX11_paste_12 hf (fun x5 hf => ?_)
    refine r_iload_n (pc := 15) S0 3 dX11_paste_15 rfl rfl ?_
    obtain ⟨e6, h7, hf⟩ := ok_bind hf
    refine r_cV_I (pc := 16) [iv a3] S0 hK hX mv_X11_366 (k_X7_isSlot h7) (c_X7_isSlot l cA D N sx ad T A nx I x5 a3 ca3 e6 h7) rfl rfl ⟨by decide, by decide⟩ (Nat.le_of_ble_eq_true rfl) ⟨Nat.le_refl _, Nat.le_refl _⟩ dX11_paste_16 (fun c8 => ?_)
    refine r_if_ne (pc := 19) (tgt := 25) S0 dX11_paste_19 (by decide) c8 hf (fun hf => ?_) (fun hf => ?_)
    · refine r_aload_n (pc := 25) S0 0 dX11_paste_25 rfl rfl ?_
      refine r_getR (pc := 26) S0 hK fl_X11_83 dX11_paste_26 hf (fun x9 hf => ?_)
      refine r_iload_n (pc := 29) S0 1 dX11_paste_29 rfl rfl ?_
      obtain ⟨e10, h11, hf⟩ := ok_bind hf
      refine r_cV_I (pc := 30) [iv a1] S0 hK hX mv_X11_373 (k_X7_hasRow h11) (c_X7_hasRow l cA D N sx ad T A nx I x9 a1 ca1 e10 h11) rfl rfl ⟨by decide, by decide⟩ (Nat.le_of_ble_eq_true rfl) ⟨Nat.le_refl _, Nat.le_refl _⟩ dX11_paste_30 (fun c12 => ?_)
      refine r_if_eq (pc := 33) (tgt := 47) S0 dX11_paste_33 (by decide) c12 hf (fun hf => ?_) (fun hf => ?_)
      · refine r_bipush (pc := 47) S0 dX11_paste_47 (by decide) ?_
        have hz := ok_some hf
        have hz : ((-6), I) = e := hz
        subst hQ
        subst hz
        exact r_iret (pc := 49) S0 hr hlk (cnz (-6) rfl) dX11_paste_49
      · refine r_aload_n (pc := 36) S0 0 dX11_paste_36 rfl rfl ?_
        refine r_getR (pc := 37) S0 hK fl_X11_83 dX11_paste_37 hf (fun x13 hf => ?_)
        refine r_iload_n (pc := 40) S0 3 dX11_paste_40 rfl rfl ?_
        obtain ⟨e14, h15, hf⟩ := ok_bind hf
        refine r_cV_I (pc := 41) [iv a3] S0 hK hX mv_X11_373 (k_X7_hasRow h15) (c_X7_hasRow l cA D N sx ad T A nx I x13 a3 ca3 e14 h15) rfl rfl ⟨by decide, by decide⟩ (Nat.le_of_ble_eq_true rfl) ⟨Nat.le_refl _, Nat.le_refl _⟩ dX11_paste_41 (fun c16 => ?_)
        refine r_if_ne (pc := 44) (tgt := 50) S0 dX11_paste_44 (by decide) c16 hf (fun hf => ?_) (fun hf => ?_)
        · refine r_aload_n (pc := 50) S0 0 dX11_paste_50 rfl rfl ?_
          refine r_getR (pc := 51) S0 hK fl_X11_83 dX11_paste_51 hf (fun x17 hf => ?_)
          refine r_iload_n (pc := 54) S0 1 dX11_paste_54 rfl rfl ?_
          obtain ⟨e18, h19, hf⟩ := ok_bind hf
          refine r_cV_I (pc := 55) [iv a1] S0 hK hX mv_X11_380 (k_X7_widthOf h19) (c_X7_widthOf l cA D N sx ad T A nx I x17 a1 ca1 e18 h19) rfl rfl ⟨by decide, by decide⟩ (Nat.le_of_ble_eq_true rfl) ⟨Nat.le_refl _, Nat.le_refl _⟩ dX11_paste_55 (fun c20 => ?_)
          refine r_aload_n (pc := 58) S0 0 dX11_paste_58 rfl rfl ?_
          refine r_getR (pc := 59) S0 hK fl_X11_83 dX11_paste_59 hf (fun x21 hf => ?_)
          refine r_iload_n (pc := 62) S0 3 dX11_paste_62 rfl rfl ?_
          obtain ⟨e22, h23, hf⟩ := ok_bind hf
          refine r_cV_I (pc := 63) [iv a3] S0 hK hX mv_X11_380 (k_X7_widthOf h23) (c_X7_widthOf l cA D N sx ad T A nx I x21 a3 ca3 e22 h23) rfl rfl ⟨by decide, by decide⟩ (Nat.le_of_ble_eq_true rfl) ⟨Nat.le_refl _, Nat.le_refl _⟩ dX11_paste_63 (fun c24 => ?_)
          refine r_icmp_eq (pc := 66) (tgt := 72) S0 dX11_paste_66 (by decide) c20 c24 hf (fun hf => ?_) (fun hf => ?_)
          · refine r_aload_n (pc := 72) S0 0 dX11_paste_72 rfl rfl ?_
            refine r_getR (pc := 73) S0 hK fl_X11_83 dX11_paste_73 hf (fun x25 hf => ?_)
            refine r_iload_n (pc := 76) S0 1 dX11_paste_76 rfl rfl ?_
            refine r_iload_n (pc := 77) S0 2 dX11_paste_77 rfl rfl ?_
            refine r_iload (pc := 78) S0 5 dX11_paste_78 rfl ?_
            obtain ⟨e26, h27, hf⟩ := ok_bind hf
            refine r_cV_I (pc := 80) [iv a1, iv a2, iv a5] S0 hK hX mv_X11_383 (k_X7_reaches h27) (c_X7_reaches l cA D N sx ad T A nx I x25 a1 a2 a5 ca1 ca2 ca5 e26 h27) rfl rfl ⟨by decide, by decide⟩ (Nat.le_of_ble_eq_true rfl) ⟨Nat.le_refl _, Nat.le_refl _⟩ dX11_paste_80 (fun c28 => ?_)
            refine r_if_eq (pc := 83) (tgt := 101) S0 dX11_paste_83 (by decide) c28 hf (fun hf => ?_) (fun hf => ?_)
            · refine r_bipush (pc := 101) S0 dX11_paste_101 (by decide) ?_
              have hz := ok_some hf
              have hz : ((-7), I) = e := hz
              subst hQ
              subst hz
              exact r_iret (pc := 103) S0 hr hlk (cnz (-7) rfl) dX11_paste_103
            · refine r_aload_n (pc := 86) S0 0 dX11_paste_86 rfl rfl ?_
              refine r_getR (pc := 87) S0 hK fl_X11_83 dX11_paste_87 hf (fun x29 hf => ?_)
              refine r_iload_n (pc := 90) S0 3 dX11_paste_90 rfl rfl ?_
              refine r_iload (pc := 91) S0 4 dX11_paste_91 rfl ?_
              refine r_iload (pc := 93) S0 5 dX11_paste_93 rfl ?_
              obtain ⟨e30, h31, hf⟩ := ok_bind hf
              refine r_cV_I (pc := 95) [iv a3, iv a4, iv a5] S0 hK hX mv_X11_383 (k_X7_reaches h31) (c_X7_reaches l cA D N sx ad T A nx I x29 a3 a4 a5 ca3 ca4 ca5 e30 h31) rfl rfl ⟨by decide, by decide⟩ (Nat.le_of_ble_eq_true rfl) ⟨Nat.le_refl _, Nat.le_refl _⟩ dX11_paste_95 (fun c32 => ?_)
              refine r_if_ne (pc := 98) (tgt := 104) S0 dX11_paste_98 (by decide) c32 hf (fun hf => ?_) (fun hf => ?_)
              · refine r_aload_n (pc := 104) S0 0 dX11_paste_104 rfl rfl ?_
                refine r_getR (pc := 105) S0 hK fl_X11_83 dX11_paste_105 hf (fun x33 hf => ?_)
                refine r_iload_n (pc := 108) S0 1 dX11_paste_108 rfl rfl ?_
                refine r_iload_n (pc := 109) S0 2 dX11_paste_109 rfl rfl ?_
                refine r_iload_n (pc := 110) S0 3 dX11_paste_110 rfl rfl ?_
                refine r_iload (pc := 111) S0 4 dX11_paste_111 rfl ?_
                refine r_iload (pc := 113) S0 5 dX11_paste_113 rfl ?_
                obtain ⟨e34, h35, hf⟩ := ok_bind hf
                refine r_cV_V (pc := 115) [iv a1, iv a2, iv a3, iv a4, iv a5] S0 hK hX mv_X11_387 (k_X7_copy h35) (c_X7_copy l cA D N sx ad T A nx I x33 a1 a2 a3 a4 a5 ca1 ca2 ca3 ca4 ca5 e34 h35) rfl rfl ⟨by decide, by decide⟩ (Nat.le_of_ble_eq_true rfl) ⟨Nat.le_refl _, Nat.le_refl _⟩ dX11_paste_115 ?_
                refine r_iconst (pc := 118) S0 dX11_paste_118 ?_
                have hz := ok_some hf
                have hz : (0, e34) = e := hz
                subst hQ
                subst hz
                exact r_iret (pc := 119) S0 hr hlk (cnz 0 rfl) dX11_paste_119
              · refine r_bipush (pc := 101) S0 dX11_paste_101 (by decide) ?_
                have hz := ok_some hf
                have hz : ((-7), I) = e := hz
                subst hQ
                subst hz
                exact r_iret (pc := 103) S0 hr hlk (cnz (-7) rfl) dX11_paste_103
          · refine r_bipush (pc := 69) S0 dX11_paste_69 (by decide) ?_
            have hz := ok_some hf
            have hz : ((-8), I) = e := hz
            subst hQ
            subst hz
            exact r_iret (pc := 71) S0 hr hlk (cnz (-8) rfl) dX11_paste_71
        · refine r_bipush (pc := 47) S0 dX11_paste_47 (by decide) ?_
          have hz := ok_some hf
          have hz : ((-6), I) = e := hz
          subst hQ
          subst hz
          exact r_iret (pc := 49) S0 hr hlk (cnz (-6) rfl) dX11_paste_49
    · refine r_bipush (pc := 22) S0 dX11_paste_22 (by decide) ?_
      have hz := ok_some hf
      have hz : ((-2), I) = e := hz
      subst hQ
      subst hz
      exact r_iret (pc := 24) S0 hr hlk (cnz (-2) rfl) dX11_paste_24

set_option maxHeartbeats 4000000 in
set_option maxRecDepth 100000 in
theorem c_X12_in (l : Launch) (cA : Nat → ClassId) (D : va_G) (N : Nat) (sx : Sx) (ad : Nat → Nat) (T : Knd) (A : Rfs) (nx : Nat) (I : Mem) (a0 : Int) (a2 : Int) (a4 : Int) (ca0 : cl a0) (ca2 : cl a2) (ca4 : cl a4) (e : Int) (h : f_X12_in T A a0 a2 a4 I = some e) : CtI l yX12_in cX12_in 6 (some .boolean) 1 60 cA D N sx ad T A nx [jv a0, jv a2, jv a4] I I e := by
  refine met_of (lv0 := [(0, jv a0), (2, jv a2), (4, jv a4)]) (by decide) (Nat.le_of_ble_eq_true rfl) rfl (fun p e0 s m args below meth c S0 hK hX hr hlk Q hQ => ?_)
  have hf : OK (f_X12_in T A a0 a2 a4 I) (fun z => z = e) := ⟨e, h, rfl⟩
  unfold f_X12_in at hf
  refine r_lload_n (pc := 0) S0 0 dX12_in_0 rfl rfl ?_
  refine r_lload_n (pc := 1) S0 1 dX12_in_1 rfl rfl ?_
  refine r_lcmp (pc := 2) S0 dX12_in_2 ca0 ca2 ?_
  refine r_if_lt (pc := 3) (tgt := 17) S0 dX12_in_3 (by decide) (cn_lcmp _ _) hf (fun hf => ?_) (fun hf => ?_)
  · refine r_iconst (pc := 17) S0 dX12_in_17 ?_
    have hz := ok_some hf
    have hz : 0 = e := hz
    subst hQ
    subst hz
    exact r_zret (pc := 18) S0 hr hlk (Or.inl rfl) dX12_in_18
  · refine r_lload_n (pc := 6) S0 0 dX12_in_6 rfl rfl ?_
    refine r_lload (pc := 7) S0 2 dX12_in_7 rfl ?_
    refine r_lcmp (pc := 9) S0 dX12_in_9 ca0 ca4 ?_
    refine r_if_gt (pc := 10) (tgt := 17) S0 dX12_in_10 (by decide) (cn_lcmp _ _) hf (fun hf => ?_) (fun hf => ?_)
    · refine r_iconst (pc := 17) S0 dX12_in_17 ?_
      have hz := ok_some hf
      have hz : 0 = e := hz
      subst hQ
      subst hz
      exact r_zret (pc := 18) S0 hr hlk (Or.inl rfl) dX12_in_18
    · refine r_iconst (pc := 13) S0 dX12_in_13 ?_
      refine r_goto (pc := 14) (tgt := 18) S0 dX12_in_14 (by decide) ?_
      have hz := ok_some hf
      have hz : 1 = e := hz
      subst hQ
      subst hz
      exact r_zret (pc := 18) S0 hr hlk (Or.inr rfl) dX12_in_18

set_option maxHeartbeats 4000000 in
set_option maxRecDepth 100000 in
theorem c_X12_isSlot (l : Launch) (cA : Nat → ClassId) (D : va_G) (N : Nat) (sx : Sx) (ad : Nat → Nat) (T : Knd) (A : Rfs) (nx : Nat) (I : Mem) (a0 : Int) (ca0 : cn a0) (e : Int) (h : f_X12_isSlot T A a0 I = some e) : CtI l yX12_isSlot cX12_isSlot 1 (some .boolean) 2 85 cA D N sx ad T A nx [iv a0] I I e := by
  refine met_of (lv0 := [(0, iv a0)]) (by decide) (Nat.le_of_ble_eq_true rfl) rfl (fun p e0 s m args below meth c S0 hK hX hr hlk Q hQ => ?_)
  have hf : OK (f_X12_isSlot T A a0 I) (fun z => z = e) := ⟨e, h, rfl⟩
  unfold f_X12_isSlot at hf
  refine r_iload_n (pc := 0) S0 0 dX12_isSlot_0 rfl rfl ?_
  refine r_i2l (pc := 1) S0 dX12_isSlot_1 ca0 ?_
  refine r_lconst (pc := 2) (v := 0) S0 dX12_isSlot_2 rfl ?_
  refine r_ldc2 (pc := 3) (z := 3) S0 kl_X12_92 dX12_isSlot_3 (by decide) ?_
  obtain ⟨e1, h2, hf⟩ := ok_bind hf
  refine r_cS_I (pc := 6) [jv a0, jv 0, jv 3] S0 hK hX ms_X12_94 (c_X12_in l cA D N sx ad T A nx I a0 0 3 (cl_cn ca0) (clz 0 rfl) (clz 3 rfl) e1 h2) rfl rfl ⟨by decide, by decide⟩ (Nat.le_of_ble_eq_true rfl) ⟨Nat.le_refl _, Nat.le_refl _⟩ dX12_isSlot_6 (fun c3 => ?_)
  obtain ⟨_, z4, hf⟩ := ok_bind hf
  have hz := ok_some hf
  have hz : e1 = e := hz
  subst hQ
  subst hz
  exact r_zret (pc := 9) S0 hr hlk (zck_some z4) dX12_isSlot_9

set_option maxHeartbeats 4000000 in
set_option maxRecDepth 100000 in
theorem c_X12_row (l : Launch) (cA : Nat → ClassId) (D : va_G) (N : Nat) (sx : Sx) (ad : Nat → Nat) (T : Knd) (A : Rfs) (nx : Nat) (I : Mem) (w0 : Nat) (a1 : Int) (a2 : Int) (a3 : Int) (ca1 : cn a1) (ca2 : cn a2) (ca3 : cn a3) (e : (Int × Mem)) (h : f_X12_row T A w0 a1 a2 a3 I = some e) : CtI l yX12_row cX12_row 5 (some .int) 3 105 cA D N sx ad T A nx [rv ad w0, iv a1, iv a2, iv a3] I e.2 e.1 := by
  refine met_of (lv0 := [(0, rv ad w0), (1, iv a1), (2, iv a2), (3, iv a3)]) (by decide) (Nat.le_of_ble_eq_true rfl) rfl (fun p e0 s m args below meth c S0 hK hX hr hlk Q hQ => ?_)
  have hf : OK (f_X12_row T A w0 a1 a2 a3 I) (fun z => z = e) := ⟨e, h, rfl⟩
  unfold f_X12_row at hf
  obtain ⟨hw0, hf⟩ := ok_grd hf
  refine r_aload_n (pc := 0) S0 0 dX12_row_0 rfl rfl ?_
  refine r_iconst (pc := 1) S0 dX12_row_1 ?_
  refine r_putI (pc := 2) S0 hK fl_X12_89 rfl rfl (cnz 0 rfl) dX12_row_2 hf (fun I1 hf => ?_)
  refine r_iload_n (pc := 5) S0 1 dX12_row_5 rfl rfl ?_
  obtain ⟨e2, h3, hf⟩ := ok_bind hf
  refine r_cS_I (pc := 6) [iv a1] S0 hK hX ms_X12_98 (c_X12_isSlot l cA D N sx ad T A nx I1 a1 ca1 e2 h3) rfl rfl ⟨by decide, by decide⟩ (Nat.le_of_ble_eq_true rfl) ⟨Nat.le_refl _, Nat.le_refl _⟩ dX12_row_6 (fun c4 => ?_)
  refine r_if_eq (pc := 9) (tgt := 30) S0 dX12_row_9 (by decide) c4 hf (fun hf => ?_) (fun hf => ?_)
  · refine r_bipush (pc := 30) S0 dX12_row_30 (by decide) ?_
    have hz := ok_some hf
    have hz : ((-2), I1) = e := hz
    subst hQ
    subst hz
    exact r_iret (pc := 32) S0 hr hlk (cnz (-2) rfl) dX12_row_32
  · refine r_iload_n (pc := 12) S0 2 dX12_row_12 rfl rfl ?_
    refine r_i2l (pc := 13) S0 dX12_row_13 ca2 ?_
    refine r_lconst (pc := 14) (v := 0) S0 dX12_row_14 rfl ?_
    refine r_ldc2 (pc := 15) (z := 3) S0 kl_X12_92 dX12_row_15 (by decide) ?_
    obtain ⟨e5, h6, hf⟩ := ok_bind hf
    refine r_cS_I (pc := 18) [jv a2, jv 0, jv 3] S0 hK hX ms_X12_94 (c_X12_in l cA D N sx ad T A nx I1 a2 0 3 (cl_cn ca2) (clz 0 rfl) (clz 3 rfl) e5 h6) rfl rfl ⟨by decide, by decide⟩ (Nat.le_of_ble_eq_true rfl) ⟨Nat.le_refl _, Nat.le_refl _⟩ dX12_row_18 (fun c7 => ?_)
    refine r_if_eq (pc := 21) (tgt := 30) S0 dX12_row_21 (by decide) c7 hf (fun hf => ?_) (fun hf => ?_)
    · refine r_bipush (pc := 30) S0 dX12_row_30 (by decide) ?_
      have hz := ok_some hf
      have hz : ((-2), I1) = e := hz
      subst hQ
      subst hz
      exact r_iret (pc := 32) S0 hr hlk (cnz (-2) rfl) dX12_row_32
    · refine r_iload_n (pc := 24) S0 3 dX12_row_24 rfl rfl ?_
      refine r_bipush (pc := 25) S0 dX12_row_25 (by decide) ?_
      refine r_icmp_le (pc := 27) (tgt := 33) S0 dX12_row_27 (by decide) ca3 (cnz 60 rfl) hf (fun hf => ?_) (fun hf => ?_)
      · refine r_iload_n (pc := 33) S0 3 dX12_row_33 rfl rfl ?_
        refine r_if_ge (pc := 34) (tgt := 40) S0 dX12_row_34 (by decide) ca3 hf (fun hf => ?_) (fun hf => ?_)
        · refine r_aload_n (pc := 40) S0 0 dX12_row_40 rfl rfl ?_
          refine r_getR (pc := 41) S0 hK fl_X12_7 dX12_row_41 hf (fun x8 hf => ?_)
          refine r_iload_n (pc := 44) S0 1 dX12_row_44 rfl rfl ?_
          refine r_iload_n (pc := 45) S0 2 dX12_row_45 rfl rfl ?_
          refine r_iast (pc := 46) S0 hK dX12_row_46 ca1 ca2 hf (fun I9 hf => ?_)
          refine r_aload_n (pc := 47) S0 0 dX12_row_47 rfl rfl ?_
          refine r_getR (pc := 48) S0 hK fl_X12_13 dX12_row_48 hf (fun x10 hf => ?_)
          refine r_iload_n (pc := 51) S0 1 dX12_row_51 rfl rfl ?_
          refine r_iload_n (pc := 52) S0 3 dX12_row_52 rfl rfl ?_
          refine r_iast (pc := 53) S0 hK dX12_row_53 ca1 ca3 hf (fun I11 hf => ?_)
          refine r_iconst (pc := 54) S0 dX12_row_54 ?_
          refine r_istore (pc := 55) (lv' := [(4, iv 0), (0, rv ad w0), (1, iv a1), (2, iv a2), (3, iv a3)]) S0 dX12_row_55 (by decide) rfl ?_
          refine r_lv [1, 2, 4, 0] rfl ?_
          refine it_ind (P := fun s13 => cn s13.1 → G p l e0 (rmx 3 105) s m args below meth c 0 0 Q cA D N 5 ad T A nx 57 [(0, rv ad w0), (1, iv a1), (3, iv a3), (4, iv s13.1)] [] s13.2) (fun n0 s13 ih12 hf c14 => ?_) FU (0, I11) hf (cnz 0 rfl)
          refine r_iload (pc := 57) S0 3 dX12_row_57 rfl ?_
          refine r_iload_n (pc := 59) S0 2 dX12_row_59 rfl rfl ?_
          refine r_icmp_ge (pc := 60) (tgt := 82) S0 dX12_row_60 (by decide) c14 ca3 hf (fun hf => ?_) (fun hf => ?_)
          · refine r_iconst (pc := 82) S0 dX12_row_82 ?_
            have hz := ok_some hf
            have hz : (0, s13.2) = e := hz
            subst hQ
            subst hz
            exact r_iret (pc := 83) S0 hr hlk (cnz 0 rfl) dX12_row_83
          · refine r_aload_n (pc := 63) S0 0 dX12_row_63 rfl rfl ?_
            refine r_getR (pc := 64) S0 hK fl_X12_16 dX12_row_64 hf (fun x15 hf => ?_)
            refine r_bipush (pc := 67) S0 dX12_row_67 (by decide) ?_
            refine r_iload_n (pc := 69) S0 1 dX12_row_69 rfl rfl ?_
            refine r_imul (pc := 70) S0 dX12_row_70 ?_
            refine r_iload (pc := 71) S0 3 dX12_row_71 rfl ?_
            refine r_iadd (pc := 73) S0 dX12_row_73 ?_
            refine r_lconst (pc := 74) (v := 0) S0 dX12_row_74 rfl ?_
            refine r_last (pc := 75) S0 hK dX12_row_75 (cn_wrap _) (clz 0 rfl) hf (fun I16 hf => ?_)
            refine r_iinc (pc := 76) (lv' := [(4, iv (ia s13.1 1)), (0, rv ad w0), (1, iv a1), (3, iv a3)]) S0 3 dX12_row_76 rfl (by decide) rfl ?_
            refine r_goto (pc := 79) (tgt := 57) S0 dX12_row_79 (by decide) ?_
            have hz := ok_some hf
            refine r_lv [1, 2, 3, 0] rfl ?_
            exact ih12 (ia s13.1 1, I16) hz (cn_wrap _)
        · refine r_bipush (pc := 37) S0 dX12_row_37 (by decide) ?_
          have hz := ok_some hf
          have hz : ((-3), I1) = e := hz
          subst hQ
          subst hz
          exact r_iret (pc := 39) S0 hr hlk (cnz (-3) rfl) dX12_row_39
      · refine r_bipush (pc := 30) S0 dX12_row_30 (by decide) ?_
        have hz := ok_some hf
        have hz : ((-2), I1) = e := hz
        subst hQ
        subst hz
        exact r_iret (pc := 32) S0 hr hlk (cnz (-2) rfl) dX12_row_32

set_option maxHeartbeats 4000000 in
set_option maxRecDepth 100000 in
theorem c_X12_cut (l : Launch) (cA : Nat → ClassId) (D : va_G) (N : Nat) (sx : Sx) (ad : Nat → Nat) (T : Knd) (A : Rfs) (nx : Nat) (I : Mem) (a0 : Int) (a2 : Int) (ca0 : cl a0) (ca2 : cn a2) (e : Int) (h : f_X12_cut T A a0 a2 I = some e) : CtJ l yX12_cut cX12_cut 3 (some .long) 1 60 cA D N sx ad T A nx [jv a0, iv a2] I I e := by
  refine met_of (lv0 := [(0, jv a0), (2, iv a2)]) (by decide) (Nat.le_of_ble_eq_true rfl) rfl (fun p e0 s m args below meth c S0 hK hX hr hlk Q hQ => ?_)
  have hf : OK (f_X12_cut T A a0 a2 I) (fun z => z = e) := ⟨e, h, rfl⟩
  unfold f_X12_cut at hf
  refine r_iload_n (pc := 0) S0 1 dX12_cut_0 rfl rfl ?_
  refine r_if_ne (pc := 1) (tgt := 11) S0 dX12_cut_1 (by decide) ca2 hf (fun hf => ?_) (fun hf => ?_)
  · refine r_iload_n (pc := 11) S0 1 dX12_cut_11 rfl rfl ?_
    refine r_iconst (pc := 12) S0 dX12_cut_12 ?_
    refine r_icmp_ne (pc := 13) (tgt := 23) S0 dX12_cut_13 (by decide) ca2 (cnz 1 rfl) hf (fun hf => ?_) (fun hf => ?_)
    · refine r_iload_n (pc := 23) S0 1 dX12_cut_23 rfl rfl ?_
      refine r_iconst (pc := 24) S0 dX12_cut_24 ?_
      refine r_icmp_ne (pc := 25) (tgt := 34) S0 dX12_cut_25 (by decide) ca2 (cnz 2 rfl) hf (fun hf => ?_) (fun hf => ?_)
      · refine r_lload_n (pc := 34) S0 0 dX12_cut_34 rfl rfl ?_
        have hz := ok_some hf
        have hz : a0 = e := hz
        subst hQ
        subst hz
        exact r_lret (pc := 35) S0 hr hlk ca0 dX12_cut_35
      · refine r_lload_n (pc := 28) S0 0 dX12_cut_28 rfl rfl ?_
        refine r_l2i (pc := 29) S0 dX12_cut_29 ca0 ?_
        refine r_i2l (pc := 30) S0 dX12_cut_30 (cn_wrap _) ?_
        refine r_goto (pc := 31) (tgt := 35) S0 dX12_cut_31 (by decide) ?_
        have hz := ok_some hf
        have hz : (wrap a0) = e := hz
        subst hQ
        subst hz
        exact r_lret (pc := 35) S0 hr hlk (cl_cn (cn_wrap _)) dX12_cut_35
    · refine r_lload_n (pc := 16) S0 0 dX12_cut_16 rfl rfl ?_
      refine r_l2i (pc := 17) S0 dX12_cut_17 ca0 ?_
      refine r_i2s (pc := 18) S0 dX12_cut_18 ?_
      refine r_i2l (pc := 19) S0 dX12_cut_19 (cn_toInt _) ?_
      refine r_goto (pc := 20) (tgt := 35) S0 dX12_cut_20 (by decide) ?_
      have hz := ok_some hf
      have hz : (i2s (wrap a0)) = e := hz
      subst hQ
      subst hz
      exact r_lret (pc := 35) S0 hr hlk (cl_cn (cn_toInt _)) dX12_cut_35
  · refine r_lload_n (pc := 4) S0 0 dX12_cut_4 rfl rfl ?_
    refine r_l2i (pc := 5) S0 dX12_cut_5 ca0 ?_
    refine r_i2b (pc := 6) S0 dX12_cut_6 ?_
    refine r_i2l (pc := 7) S0 dX12_cut_7 (cn_toInt _) ?_
    refine r_goto (pc := 8) (tgt := 35) S0 dX12_cut_8 (by decide) ?_
    have hz := ok_some hf
    have hz : (i2b (wrap a0)) = e := hz
    subst hQ
    subst hz
    exact r_lret (pc := 35) S0 hr hlk (cl_cn (cn_toInt _)) dX12_cut_35

set_option maxHeartbeats 4000000 in
set_option maxRecDepth 100000 in
theorem c_X12_write (l : Launch) (cA : Nat → ClassId) (D : va_G) (N : Nat) (sx : Sx) (ad : Nat → Nat) (T : Knd) (A : Rfs) (nx : Nat) (I : Mem) (w0 : Nat) (a1 : Int) (a2 : Int) (a3 : Int) (ca1 : cn a1) (ca2 : cn a2) (ca3 : cl a3) (e : (Int × Mem)) (h : f_X12_write T A w0 a1 a2 a3 I = some e) : CtI l yX12_write cX12_write 5 (some .int) 3 105 cA D N sx ad T A nx [rv ad w0, iv a1, iv a2, jv a3] I e.2 e.1 := by
  refine met_of (lv0 := [(0, rv ad w0), (1, iv a1), (2, iv a2), (3, jv a3)]) (by decide) (Nat.le_of_ble_eq_true rfl) rfl (fun p e0 s m args below meth c S0 hK hX hr hlk Q hQ => ?_)
  have hf : OK (f_X12_write T A w0 a1 a2 a3 I) (fun z => z = e) := ⟨e, h, rfl⟩
  unfold f_X12_write at hf
  obtain ⟨hw0, hf⟩ := ok_grd hf
  refine r_aload_n (pc := 0) S0 0 dX12_write_0 rfl rfl ?_
  refine r_iconst (pc := 1) S0 dX12_write_1 ?_
  refine r_putI (pc := 2) S0 hK fl_X12_89 rfl rfl (cnz 0 rfl) dX12_write_2 hf (fun I1 hf => ?_)
  refine r_iload_n (pc := 5) S0 1 dX12_write_5 rfl rfl ?_
  obtain ⟨e2, h3, hf⟩ := ok_bind hf
  refine r_cS_I (pc := 6) [iv a1] S0 hK hX ms_X12_98 (c_X12_isSlot l cA D N sx ad T A nx I1 a1 ca1 e2 h3) rfl rfl ⟨by decide, by decide⟩ (Nat.le_of_ble_eq_true rfl) ⟨Nat.le_refl _, Nat.le_refl _⟩ dX12_write_6 (fun c4 => ?_)
  refine r_if_ne (pc := 9) (tgt := 15) S0 dX12_write_9 (by decide) c4 hf (fun hf => ?_) (fun hf => ?_)
  · refine r_aload_n (pc := 15) S0 0 dX12_write_15 rfl rfl ?_
    refine r_getR (pc := 16) S0 hK fl_X12_7 dX12_write_16 hf (fun x5 hf => ?_)
    refine r_iload_n (pc := 19) S0 1 dX12_write_19 rfl rfl ?_
    refine r_iald (pc := 20) S0 hK dX12_write_20 ca1 hf (fun x6 c7 hf => ?_)
    refine r_iconst (pc := 21) S0 dX12_write_21 ?_
    refine r_icmp_ne (pc := 22) (tgt := 28) S0 dX12_write_22 (by decide) c7 (cnz (-1) rfl) hf (fun hf => ?_) (fun hf => ?_)
    · refine r_iload_n (pc := 28) S0 2 dX12_write_28 rfl rfl ?_
      refine r_i2l (pc := 29) S0 dX12_write_29 ca2 ?_
      refine r_lconst (pc := 30) (v := 0) S0 dX12_write_30 rfl ?_
      refine r_aload_n (pc := 31) S0 0 dX12_write_31 rfl rfl ?_
      refine r_getR (pc := 32) S0 hK fl_X12_13 dX12_write_32 hf (fun x8 hf => ?_)
      refine r_iload_n (pc := 35) S0 1 dX12_write_35 rfl rfl ?_
      refine r_iald (pc := 36) S0 hK dX12_write_36 ca1 hf (fun x9 c10 hf => ?_)
      refine r_iconst (pc := 37) S0 dX12_write_37 ?_
      refine r_isub (pc := 38) S0 dX12_write_38 ?_
      refine r_i2l (pc := 39) S0 dX12_write_39 (cn_wrap _) ?_
      obtain ⟨e11, h12, hf⟩ := ok_bind hf
      refine r_cS_I (pc := 40) [jv a2, jv 0, jv (isb x9 1)] S0 hK hX ms_X12_94 (c_X12_in l cA D N sx ad T A nx I1 a2 0 (isb x9 1) (cl_cn ca2) (clz 0 rfl) (cl_cn (cn_wrap _)) e11 h12) rfl rfl ⟨by decide, by decide⟩ (Nat.le_of_ble_eq_true rfl) ⟨Nat.le_refl _, Nat.le_refl _⟩ dX12_write_40 (fun c13 => ?_)
      refine r_if_ne (pc := 43) (tgt := 49) S0 dX12_write_43 (by decide) c13 hf (fun hf => ?_) (fun hf => ?_)
      · refine r_aload_n (pc := 49) S0 0 dX12_write_49 rfl rfl ?_
        refine r_getR (pc := 50) S0 hK fl_X12_16 dX12_write_50 hf (fun x14 hf => ?_)
        refine r_bipush (pc := 53) S0 dX12_write_53 (by decide) ?_
        refine r_iload_n (pc := 55) S0 1 dX12_write_55 rfl rfl ?_
        refine r_imul (pc := 56) S0 dX12_write_56 ?_
        refine r_iload_n (pc := 57) S0 2 dX12_write_57 rfl rfl ?_
        refine r_iadd (pc := 58) S0 dX12_write_58 ?_
        refine r_lload_n (pc := 59) S0 3 dX12_write_59 rfl rfl ?_
        refine r_aload_n (pc := 60) S0 0 dX12_write_60 rfl rfl ?_
        refine r_getR (pc := 61) S0 hK fl_X12_7 dX12_write_61 hf (fun x15 hf => ?_)
        refine r_iload_n (pc := 64) S0 1 dX12_write_64 rfl rfl ?_
        refine r_iald (pc := 65) S0 hK dX12_write_65 ca1 hf (fun x16 c17 hf => ?_)
        obtain ⟨e18, h19, hf⟩ := ok_bind hf
        refine r_cS_J (pc := 66) [jv a3, iv x16] S0 hK hX ms_X12_102 (c_X12_cut l cA D N sx ad T A nx I1 a3 x16 ca3 c17 e18 h19) rfl rfl ⟨by decide, by decide⟩ (Nat.le_of_ble_eq_true rfl) ⟨Nat.le_refl _, Nat.le_refl _⟩ dX12_write_66 (fun c20 => ?_)
        refine r_last (pc := 69) S0 hK dX12_write_69 (cn_wrap _) c20 hf (fun I21 hf => ?_)
        refine r_iconst (pc := 70) S0 dX12_write_70 ?_
        have hz := ok_some hf
        have hz : (0, I21) = e := hz
        subst hQ
        subst hz
        exact r_iret (pc := 71) S0 hr hlk (cnz 0 rfl) dX12_write_71
      · refine r_bipush (pc := 46) S0 dX12_write_46 (by decide) ?_
        have hz := ok_some hf
        have hz : ((-7), I1) = e := hz
        subst hQ
        subst hz
        exact r_iret (pc := 48) S0 hr hlk (cnz (-7) rfl) dX12_write_48
    · refine r_bipush (pc := 25) S0 dX12_write_25 (by decide) ?_
      have hz := ok_some hf
      have hz : ((-6), I1) = e := hz
      subst hQ
      subst hz
      exact r_iret (pc := 27) S0 hr hlk (cnz (-6) rfl) dX12_write_27
  · refine r_bipush (pc := 12) S0 dX12_write_12 (by decide) ?_
    have hz := ok_some hf
    have hz : ((-2), I1) = e := hz
    subst hQ
    subst hz
    exact r_iret (pc := 14) S0 hr hlk (cnz (-2) rfl) dX12_write_14

set_option maxHeartbeats 4000000 in
set_option maxRecDepth 100000 in
theorem c_X12_paste (l : Launch) (cA : Nat → ClassId) (D : va_G) (N : Nat) (sx : Sx) (ad : Nat → Nat) (T : Knd) (A : Rfs) (nx : Nat) (I : Mem) (w0 : Nat) (a1 : Int) (a2 : Int) (a3 : Int) (a4 : Int) (a5 : Int) (ca1 : cn a1) (ca2 : cn a2) (ca3 : cn a3) (ca4 : cn a4) (ca5 : cn a5) (e : (Int × Mem)) (h : f_X12_paste T A w0 a1 a2 a3 a4 a5 I = some e) : CtI l yX12_paste cX12_paste 7 (some .int) 3 105 cA D N sx ad T A nx [rv ad w0, iv a1, iv a2, iv a3, iv a4, iv a5] I e.2 e.1 := by
  refine met_of (lv0 := [(0, rv ad w0), (1, iv a1), (2, iv a2), (3, iv a3), (4, iv a4), (5, iv a5)]) (by decide) (Nat.le_of_ble_eq_true rfl) rfl (fun p e0 s m args below meth c S0 hK hX hr hlk Q hQ => ?_)
  have hf : OK (f_X12_paste T A w0 a1 a2 a3 a4 a5 I) (fun z => z = e) := ⟨e, h, rfl⟩
  unfold f_X12_paste at hf
  obtain ⟨hw0, hf⟩ := ok_grd hf
  refine r_aload_n (pc := 0) S0 0 dX12_paste_0 rfl rfl ?_
  refine r_iconst (pc := 1) S0 dX12_paste_1 ?_
  refine r_putI (pc := 2) S0 hK fl_X12_89 rfl rfl (cnz 0 rfl) dX12_paste_2 hf (fun I1 hf => ?_)
  refine r_iload_n (pc := 5) S0 1 dX12_paste_5 rfl rfl ?_
  obtain ⟨e2, h3, hf⟩ := ok_bind hf
  refine r_cS_I (pc := 6) [iv a1] S0 hK hX ms_X12_98 (c_X12_isSlot l cA D N sx ad T A nx I1 a1 ca1 e2 h3) rfl rfl ⟨by decide, by decide⟩ (Nat.le_of_ble_eq_true rfl) ⟨Nat.le_refl _, Nat.le_refl _⟩ dX12_paste_6 (fun c4 => ?_)
  refine r_if_eq (pc := 9) (tgt := 19) S0 dX12_paste_9 (by decide) c4 hf (fun hf => ?_) (fun hf => ?_)
  · refine r_bipush (pc := 19) S0 dX12_paste_19 (by decide) ?_
    have hz := ok_some hf
    have hz : ((-2), I1) = e := hz
    subst hQ
    subst hz
    exact r_iret (pc := 21) S0 hr hlk (cnz (-2) rfl) dX12_paste_21
  · refine r_iload_n (pc := 12) S0 3 dX12_paste_12 rfl rfl ?_
    obtain ⟨e5, h6, hf⟩ := ok_bind hf
    refine r_cS_I (pc := 13) [iv a3] S0 hK hX ms_X12_98 (c_X12_isSlot l cA D N sx ad T A nx I1 a3 ca3 e5 h6) rfl rfl ⟨by decide, by decide⟩ (Nat.le_of_ble_eq_true rfl) ⟨Nat.le_refl _, Nat.le_refl _⟩ dX12_paste_13 (fun c7 => ?_)
    refine r_if_ne (pc := 16) (tgt := 22) S0 dX12_paste_16 (by decide) c7 hf (fun hf => ?_) (fun hf => ?_)
    · refine r_aload_n (pc := 22) S0 0 dX12_paste_22 rfl rfl ?_
      refine r_getR (pc := 23) S0 hK fl_X12_7 dX12_paste_23 hf (fun x8 hf => ?_)
      refine r_iload_n (pc := 26) S0 1 dX12_paste_26 rfl rfl ?_
      refine r_iald (pc := 27) S0 hK dX12_paste_27 ca1 hf (fun x9 c10 hf => ?_)
      refine r_iconst (pc := 28) S0 dX12_paste_28 ?_
      refine r_icmp_eq (pc := 29) (tgt := 42) S0 dX12_paste_29 (by decide) c10 (cnz (-1) rfl) hf (fun hf => ?_) (fun hf => ?_)
      · refine r_bipush (pc := 42) S0 dX12_paste_42 (by decide) ?_
        have hz := ok_some hf
        have hz : ((-6), I1) = e := hz
        subst hQ
        subst hz
        exact r_iret (pc := 44) S0 hr hlk (cnz (-6) rfl) dX12_paste_44
      · refine r_aload_n (pc := 32) S0 0 dX12_paste_32 rfl rfl ?_
        refine r_getR (pc := 33) S0 hK fl_X12_7 dX12_paste_33 hf (fun x11 hf => ?_)
        refine r_iload_n (pc := 36) S0 3 dX12_paste_36 rfl rfl ?_
        refine r_iald (pc := 37) S0 hK dX12_paste_37 ca3 hf (fun x12 c13 hf => ?_)
        refine r_iconst (pc := 38) S0 dX12_paste_38 ?_
        refine r_icmp_ne (pc := 39) (tgt := 45) S0 dX12_paste_39 (by decide) c13 (cnz (-1) rfl) hf (fun hf => ?_) (fun hf => ?_)
        · refine r_aload_n (pc := 45) S0 0 dX12_paste_45 rfl rfl ?_
          refine r_getR (pc := 46) S0 hK fl_X12_7 dX12_paste_46 hf (fun x14 hf => ?_)
          refine r_iload_n (pc := 49) S0 1 dX12_paste_49 rfl rfl ?_
          refine r_iald (pc := 50) S0 hK dX12_paste_50 ca1 hf (fun x15 c16 hf => ?_)
          refine r_aload_n (pc := 51) S0 0 dX12_paste_51 rfl rfl ?_
          refine r_getR (pc := 52) S0 hK fl_X12_7 dX12_paste_52 hf (fun x17 hf => ?_)
          refine r_iload_n (pc := 55) S0 3 dX12_paste_55 rfl rfl ?_
          refine r_iald (pc := 56) S0 hK dX12_paste_56 ca3 hf (fun x18 c19 hf => ?_)
          refine r_icmp_eq (pc := 57) (tgt := 63) S0 dX12_paste_57 (by decide) c16 c19 hf (fun hf => ?_) (fun hf => ?_)
          · refine r_iload_n (pc := 63) S0 2 dX12_paste_63 rfl rfl ?_
            refine r_if_lt (pc := 64) (tgt := 112) S0 dX12_paste_64 (by decide) ca2 hf (fun hf => ?_) (fun hf => ?_)
            · refine r_bipush (pc := 112) S0 dX12_paste_112 (by decide) ?_
              have hz := ok_some hf
              have hz : ((-7), I1) = e := hz
              subst hQ
              subst hz
              exact r_iret (pc := 114) S0 hr hlk (cnz (-7) rfl) dX12_paste_114
            · refine r_iload (pc := 67) S0 4 dX12_paste_67 rfl ?_
              refine r_if_lt (pc := 69) (tgt := 112) S0 dX12_paste_69 (by decide) ca4 hf (fun hf => ?_) (fun hf => ?_)
              · refine r_bipush (pc := 112) S0 dX12_paste_112 (by decide) ?_
                have hz := ok_some hf
                have hz : ((-7), I1) = e := hz
                subst hQ
                subst hz
                exact r_iret (pc := 114) S0 hr hlk (cnz (-7) rfl) dX12_paste_114
              · refine r_iload (pc := 72) S0 5 dX12_paste_72 rfl ?_
                refine r_if_lt (pc := 74) (tgt := 112) S0 dX12_paste_74 (by decide) ca5 hf (fun hf => ?_) (fun hf => ?_)
                · refine r_bipush (pc := 112) S0 dX12_paste_112 (by decide) ?_
                  have hz := ok_some hf
                  have hz : ((-7), I1) = e := hz
                  subst hQ
                  subst hz
                  exact r_iret (pc := 114) S0 hr hlk (cnz (-7) rfl) dX12_paste_114
                · refine r_iload_n (pc := 77) S0 2 dX12_paste_77 rfl rfl ?_
                  refine r_i2l (pc := 78) S0 dX12_paste_78 ca2 ?_
                  refine r_iload (pc := 79) S0 5 dX12_paste_79 rfl ?_
                  refine r_i2l (pc := 81) S0 dX12_paste_81 ca5 ?_
                  refine r_ladd (pc := 82) S0 dX12_paste_82 ?_
                  refine r_aload_n (pc := 83) S0 0 dX12_paste_83 rfl rfl ?_
                  refine r_getR (pc := 84) S0 hK fl_X12_13 dX12_paste_84 hf (fun x20 hf => ?_)
                  refine r_iload_n (pc := 87) S0 1 dX12_paste_87 rfl rfl ?_
                  refine r_iald (pc := 88) S0 hK dX12_paste_88 ca1 hf (fun x21 c22 hf => ?_)
                  refine r_i2l (pc := 89) S0 dX12_paste_89 c22 ?_
                  refine r_lcmp (pc := 90) S0 dX12_paste_90 (cl_wrapl _) (cl_cn c22) ?_
                  refine r_if_gt (pc := 91) (tgt := 112) S0 dX12_paste_91 (by decide) (cn_lcmp _ _) hf (fun hf => ?_) (fun hf => ?_)
                  · refine r_bipush (pc := 112) S0 dX12_paste_112 (by decide) ?_
                    have hz := ok_some hf
                    have hz : ((-7), I1) = e := hz
                    subst hQ
                    subst hz
                    exact r_iret (pc := 114) S0 hr hlk (cnz (-7) rfl) dX12_paste_114
                  · refine r_iload (pc := 94) S0 4 dX12_paste_94 rfl ?_
                    refine r_i2l (pc := 96) S0 dX12_paste_96 ca4 ?_
                    refine r_iload (pc := 97) S0 5 dX12_paste_97 rfl ?_
                    refine r_i2l (pc := 99) S0 dX12_paste_99 ca5 ?_
                    refine r_ladd (pc := 100) S0 dX12_paste_100 ?_
                    refine r_aload_n (pc := 101) S0 0 dX12_paste_101 rfl rfl ?_
                    refine r_getR (pc := 102) S0 hK fl_X12_13 dX12_paste_102 hf (fun x23 hf => ?_)
                    refine r_iload_n (pc := 105) S0 3 dX12_paste_105 rfl rfl ?_
                    refine r_iald (pc := 106) S0 hK dX12_paste_106 ca3 hf (fun x24 c25 hf => ?_)
                    refine r_i2l (pc := 107) S0 dX12_paste_107 c25 ?_
                    refine r_lcmp (pc := 108) S0 dX12_paste_108 (cl_wrapl _) (cl_cn c25) ?_
                    refine r_if_le (pc := 109) (tgt := 115) S0 dX12_paste_109 (by decide) (cn_lcmp _ _) hf (fun hf => ?_) (fun hf => ?_)
                    · refine r_iconst (pc := 115) S0 dX12_paste_115 ?_
                      refine r_istore (pc := 116) (lv' := [(6, iv 0), (0, rv ad w0), (1, iv a1), (2, iv a2), (3, iv a3), (4, iv a4), (5, iv a5)]) S0 dX12_paste_116 (by decide) rfl ?_
                      refine thn_rule (P := fun v27 => G p l e0 (rmx 3 105) s m args below meth c 0 0 Q cA D N 7 ad T A nx 152 [(0, rv ad w0), (3, iv a3), (4, iv a4), (5, iv a5)] [] v27) hf (fun v27 hf => ?_) (fun K26 hf => ?_)
                      · refine r_iconst (pc := 152) S0 dX12_paste_152 ?_
                        refine r_istore (pc := 153) (lv' := [(6, iv 0), (0, rv ad w0), (3, iv a3), (4, iv a4), (5, iv a5)]) S0 dX12_paste_153 (by decide) rfl ?_
                        refine r_lv [1, 2, 3, 4, 0] rfl ?_
                        refine it_ind (P := fun s37 => cn s37.1 → G p l e0 (rmx 3 105) s m args below meth c 0 0 Q cA D N 7 ad T A nx 155 [(0, rv ad w0), (3, iv a3), (4, iv a4), (5, iv a5), (6, iv s37.1)] [] s37.2) (fun n0 s37 ih36 hf c38 => ?_) FU (0, v27) hf (cnz 0 rfl)
                        refine r_iload (pc := 155) S0 4 dX12_paste_155 rfl ?_
                        refine r_iload (pc := 157) S0 3 dX12_paste_157 rfl ?_
                        refine r_icmp_ge (pc := 159) (tgt := 190) S0 dX12_paste_159 (by decide) c38 ca5 hf (fun hf => ?_) (fun hf => ?_)
                        · refine r_iconst (pc := 190) S0 dX12_paste_190 ?_
                          have hz := ok_some hf
                          have hz : (0, s37.2) = e := hz
                          subst hQ
                          subst hz
                          exact r_iret (pc := 191) S0 hr hlk (cnz 0 rfl) dX12_paste_191
                        · refine r_aload_n (pc := 162) S0 0 dX12_paste_162 rfl rfl ?_
                          refine r_getR (pc := 163) S0 hK fl_X12_16 dX12_paste_163 hf (fun x39 hf => ?_)
                          refine r_bipush (pc := 166) S0 dX12_paste_166 (by decide) ?_
                          refine r_iload_n (pc := 168) S0 1 dX12_paste_168 rfl rfl ?_
                          refine r_imul (pc := 169) S0 dX12_paste_169 ?_
                          refine r_iload (pc := 170) S0 2 dX12_paste_170 rfl ?_
                          refine r_iadd (pc := 172) S0 dX12_paste_172 ?_
                          refine r_iload (pc := 173) S0 4 dX12_paste_173 rfl ?_
                          refine r_iadd (pc := 175) S0 dX12_paste_175 ?_
                          refine r_aload_n (pc := 176) S0 0 dX12_paste_176 rfl rfl ?_
                          refine r_getR (pc := 177) S0 hK fl_X12_20 dX12_paste_177 hf (fun x40 hf => ?_)
                          refine r_iload (pc := 180) S0 4 dX12_paste_180 rfl ?_
                          refine r_lald (pc := 182) S0 hK dX12_paste_182 c38 hf (fun x41 c42 hf => ?_)
                          refine r_last (pc := 183) S0 hK dX12_paste_183 (cn_wrap _) c42 hf (fun I43 hf => ?_)
                          refine r_iinc (pc := 184) (lv' := [(6, iv (ia s37.1 1)), (0, rv ad w0), (3, iv a3), (4, iv a4), (5, iv a5)]) S0 4 dX12_paste_184 rfl (by decide) rfl ?_
                          refine r_goto (pc := 187) (tgt := 155) S0 dX12_paste_187 (by decide) ?_
                          have hz := ok_some hf
                          refine r_lv [1, 2, 3, 4, 0] rfl ?_
                          exact ih36 (ia s37.1 1, I43) hz (cn_wrap _)
                      · refine r_lv [1, 2, 3, 4, 5, 6, 0] rfl ?_
                        refine it_ind (P := fun s29 => cn s29.1 → G p l e0 (rmx 3 105) s m args below meth c 0 0 Q cA D N 7 ad T A nx 118 [(0, rv ad w0), (1, iv a1), (2, iv a2), (3, iv a3), (4, iv a4), (5, iv a5), (6, iv s29.1)] [] s29.2) (fun n0 s29 ih28 hf c30 => ?_) FU (0, I1) hf (cnz 0 rfl)
                        refine r_iload (pc := 118) S0 6 dX12_paste_118 rfl ?_
                        refine r_iload (pc := 120) S0 5 dX12_paste_120 rfl ?_
                        refine r_icmp_ge (pc := 122) (tgt := 152) S0 dX12_paste_122 (by decide) c30 ca5 hf (fun hf => ?_) (fun hf => ?_)
                        · have hz := ok_some hf
                          refine r_lv [0, 3, 4, 5] rfl ?_
                          exact K26 s29.2 hz
                        · refine r_aload_n (pc := 125) S0 0 dX12_paste_125 rfl rfl ?_
                          refine r_getR (pc := 126) S0 hK fl_X12_20 dX12_paste_126 hf (fun x31 hf => ?_)
                          refine r_iload (pc := 129) S0 6 dX12_paste_129 rfl ?_
                          refine r_aload_n (pc := 131) S0 0 dX12_paste_131 rfl rfl ?_
                          refine r_getR (pc := 132) S0 hK fl_X12_16 dX12_paste_132 hf (fun x32 hf => ?_)
                          refine r_bipush (pc := 135) S0 dX12_paste_135 (by decide) ?_
                          refine r_iload_n (pc := 137) S0 1 dX12_paste_137 rfl rfl ?_
                          refine r_imul (pc := 138) S0 dX12_paste_138 ?_
                          refine r_iload_n (pc := 139) S0 2 dX12_paste_139 rfl rfl ?_
                          refine r_iadd (pc := 140) S0 dX12_paste_140 ?_
                          refine r_iload (pc := 141) S0 6 dX12_paste_141 rfl ?_
                          refine r_iadd (pc := 143) S0 dX12_paste_143 ?_
                          refine r_lald (pc := 144) S0 hK dX12_paste_144 (cn_wrap _) hf (fun x33 c34 hf => ?_)
                          refine r_last (pc := 145) S0 hK dX12_paste_145 c30 c34 hf (fun I35 hf => ?_)
                          refine r_iinc (pc := 146) (lv' := [(6, iv (ia s29.1 1)), (0, rv ad w0), (1, iv a1), (2, iv a2), (3, iv a3), (4, iv a4), (5, iv a5)]) S0 6 dX12_paste_146 rfl (by decide) rfl ?_
                          refine r_goto (pc := 149) (tgt := 118) S0 dX12_paste_149 (by decide) ?_
                          have hz := ok_some hf
                          refine r_lv [1, 2, 3, 4, 5, 6, 0] rfl ?_
                          exact ih28 (ia s29.1 1, I35) hz (cn_wrap _)
                    · refine r_bipush (pc := 112) S0 dX12_paste_112 (by decide) ?_
                      have hz := ok_some hf
                      have hz : ((-7), I1) = e := hz
                      subst hQ
                      subst hz
                      exact r_iret (pc := 114) S0 hr hlk (cnz (-7) rfl) dX12_paste_114
          · refine r_bipush (pc := 60) S0 dX12_paste_60 (by decide) ?_
            have hz := ok_some hf
            have hz : ((-8), I1) = e := hz
            subst hQ
            subst hz
            exact r_iret (pc := 62) S0 hr hlk (cnz (-8) rfl) dX12_paste_62
        · refine r_bipush (pc := 42) S0 dX12_paste_42 (by decide) ?_
          have hz := ok_some hf
          have hz : ((-6), I1) = e := hz
          subst hQ
          subst hz
          exact r_iret (pc := 44) S0 hr hlk (cnz (-6) rfl) dX12_paste_44
    · refine r_bipush (pc := 19) S0 dX12_paste_19 (by decide) ?_
      have hz := ok_some hf
      have hz : ((-2), I1) = e := hz
      subst hQ
      subst hz
      exact r_iret (pc := 21) S0 hr hlk (cnz (-2) rfl) dX12_paste_21

set_option maxHeartbeats 4000000 in
set_option maxRecDepth 100000 in
theorem c_X12_four (l : Launch) (cA : Nat → ClassId) (D : va_G) (N : Nat) (sx : Sx) (ad : Nat → Nat) (T : Knd) (A : Rfs) (nx : Nat) (I : Mem) (w0 : Nat) (a1 : Int) (ca1 : cn a1) (e : Mem) (h : f_X12_four T A w0 a1 I = some e) : CtV l yX12_four cX12_four 3 none 1 60 cA D N sx ad T A nx [rv ad w0, iv a1] I e := by
  refine met_of (lv0 := [(0, rv ad w0), (1, iv a1)]) (by decide) (Nat.le_of_ble_eq_true rfl) rfl (fun p e0 s m args below meth c S0 hK hX hr hlk Q hQ => ?_)
  have hf : OK (f_X12_four T A w0 a1 I) (fun z => z = e) := ⟨e, h, rfl⟩
  unfold f_X12_four at hf
  obtain ⟨hw0, hf⟩ := ok_grd hf
  refine r_bipush (pc := 0) S0 dX12_four_0 (by decide) ?_
  refine r_istore_n (pc := 2) (lv' := [(2, iv 24), (0, rv ad w0), (1, iv a1)]) S0 dX12_four_2 rfl (by decide) rfl ?_
  refine r_lv [1, 2, 0] rfl ?_
  refine it_ind (P := fun s2 => cn s2.1 → G p l e0 (rmx 1 60) s m args below meth c 0 0 Q cA D N 3 ad T A nx 3 [(0, rv ad w0), (1, iv a1), (2, iv s2.1)] [] s2.2) (fun n0 s2 ih1 hf c3 => ?_) FU (24, I) hf (cnz 24 rfl)
  refine r_iload_n (pc := 3) S0 2 dX12_four_3 rfl rfl ?_
  refine r_if_lt (pc := 4) (tgt := 36) S0 dX12_four_4 (by decide) c3 hf (fun hf => ?_) (fun hf => ?_)
  · have hz := ok_some hf
    have hz : s2.2 = e := hz
    subst hQ
    subst hz
    exact r_vret (pc := 36) S0 hr hlk dX12_four_36
  · refine r_aload_n (pc := 7) S0 0 dX12_four_7 rfl rfl ?_
    refine r_getR (pc := 8) S0 hK fl_X12_23 dX12_four_8 hf (fun x4 hf => ?_)
    refine r_aload_n (pc := 11) S0 0 dX12_four_11 rfl rfl ?_
    refine r_getI (pc := 12) S0 hK fl_X12_106 dX12_four_12 hf (fun x5 c6 hf => ?_)
    refine r_iload_n (pc := 15) S0 1 dX12_four_15 rfl rfl ?_
    refine r_iload_n (pc := 16) S0 2 dX12_four_16 rfl rfl ?_
    refine r_ishr (pc := 17) S0 dX12_four_17 ?_
    refine r_i2b (pc := 18) S0 dX12_four_18 ?_
    refine r_bast (pc := 19) S0 hK dX12_four_19 c6 (cn_toInt _) hf (fun I7 hf => ?_)
    refine r_aload_n (pc := 20) S0 0 dX12_four_20 rfl rfl ?_
    refine r_dup (pc := 21) S0 dX12_four_21 rfl ?_
    refine r_getI (pc := 22) S0 hK fl_X12_106 dX12_four_22 hf (fun x8 c9 hf => ?_)
    refine r_iconst (pc := 25) S0 dX12_four_25 ?_
    refine r_iadd (pc := 26) S0 dX12_four_26 ?_
    refine r_putI (pc := 27) S0 hK fl_X12_106 rfl rfl (cn_wrap _) dX12_four_27 hf (fun I10 hf => ?_)
    refine r_iinc (pc := 30) (lv' := [(2, iv (ia s2.1 (-8))), (0, rv ad w0), (1, iv a1)]) S0 2 dX12_four_30 rfl (by decide) rfl ?_
    refine r_goto (pc := 33) (tgt := 3) S0 dX12_four_33 (by decide) ?_
    have hz := ok_some hf
    refine r_lv [1, 2, 0] rfl ?_
    exact ih1 (ia s2.1 (-8), I10) hz (cn_wrap _)

set_option maxHeartbeats 4000000 in
set_option maxRecDepth 100000 in
theorem c_X12_feed (l : Launch) (cA : Nat → ClassId) (D : va_G) (N : Nat) (sx : Sx) (ad : Nat → Nat) (T : Knd) (A : Rfs) (nx : Nat) (I : Mem) (w0 : Nat) (a1 : Int) (a2 : Int) (a3 : Int) (a4 : Int) (a5 : Int) (ca1 : cn a1) (ca2 : cn a2) (ca3 : cn a3) (ca4 : cn a4) (ca5 : cn a5) (e : (Int × Mem)) (h : f_X12_feed T A w0 a1 a2 a3 a4 a5 I = some e) : CtI l yX12_feed cX12_feed 6 (some .int) 2 82 cA D N sx ad T A nx [rv ad w0, iv a1, iv a2, iv a3, iv a4, iv a5] I e.2 e.1 := by
  refine met_of (lv0 := [(0, rv ad w0), (1, iv a1), (2, iv a2), (3, iv a3), (4, iv a4), (5, iv a5)]) (by decide) (Nat.le_of_ble_eq_true rfl) rfl (fun p e0 s m args below meth c S0 hK hX hr hlk Q hQ => ?_)
  have hf : OK (f_X12_feed T A w0 a1 a2 a3 a4 a5 I) (fun z => z = e) := ⟨e, h, rfl⟩
  unfold f_X12_feed at hf
  obtain ⟨hw0, hf⟩ := ok_grd hf
  refine r_aload_n (pc := 0) S0 0 dX12_feed_0 rfl rfl ?_
  refine r_iconst (pc := 1) S0 dX12_feed_1 ?_
  refine r_putI (pc := 2) S0 hK fl_X12_89 rfl rfl (cnz 0 rfl) dX12_feed_2 hf (fun I1 hf => ?_)
  refine r_aload_n (pc := 5) S0 0 dX12_feed_5 rfl rfl ?_
  refine r_getI (pc := 6) S0 hK fl_X12_106 dX12_feed_6 hf (fun x2 c3 hf => ?_)
  refine r_bipush (pc := 9) S0 dX12_feed_9 (by decide) ?_
  refine r_iadd (pc := 11) S0 dX12_feed_11 ?_
  refine r_sipush (pc := 12) S0 dX12_feed_12 (by decide) ?_
  refine r_icmp_le (pc := 15) (tgt := 20) S0 dX12_feed_15 (by decide) (cn_wrap _) (cnz 1600 rfl) hf (fun hf => ?_) (fun hf => ?_)
  · refine r_aload_n (pc := 20) S0 0 dX12_feed_20 rfl rfl ?_
    refine r_iload_n (pc := 21) S0 1 dX12_feed_21 rfl rfl ?_
    obtain ⟨e4, h5, hf⟩ := ok_bind hf
    refine r_cV_V (pc := 22) [iv a1] S0 hK hX mv_X12_109 (k_X12_four h5) (c_X12_four l cA D N sx ad T A nx I1 w0 a1 ca1 e4 h5) rfl rfl ⟨by decide, by decide⟩ (Nat.le_of_ble_eq_true rfl) ⟨Nat.le_refl _, Nat.le_refl _⟩ dX12_feed_22 ?_
    refine r_aload_n (pc := 25) S0 0 dX12_feed_25 rfl rfl ?_
    refine r_iload_n (pc := 26) S0 2 dX12_feed_26 rfl rfl ?_
    obtain ⟨e6, h7, hf⟩ := ok_bind hf
    refine r_cV_V (pc := 27) [iv a2] S0 hK hX mv_X12_109 (k_X12_four h7) (c_X12_four l cA D N sx ad T A nx e4 w0 a2 ca2 e6 h7) rfl rfl ⟨by decide, by decide⟩ (Nat.le_of_ble_eq_true rfl) ⟨Nat.le_refl _, Nat.le_refl _⟩ dX12_feed_27 ?_
    refine r_aload_n (pc := 30) S0 0 dX12_feed_30 rfl rfl ?_
    refine r_iload_n (pc := 31) S0 3 dX12_feed_31 rfl rfl ?_
    obtain ⟨e8, h9, hf⟩ := ok_bind hf
    refine r_cV_V (pc := 32) [iv a3] S0 hK hX mv_X12_109 (k_X12_four h9) (c_X12_four l cA D N sx ad T A nx e6 w0 a3 ca3 e8 h9) rfl rfl ⟨by decide, by decide⟩ (Nat.le_of_ble_eq_true rfl) ⟨Nat.le_refl _, Nat.le_refl _⟩ dX12_feed_32 ?_
    refine r_aload_n (pc := 35) S0 0 dX12_feed_35 rfl rfl ?_
    refine r_iload (pc := 36) S0 4 dX12_feed_36 rfl ?_
    obtain ⟨e10, h11, hf⟩ := ok_bind hf
    refine r_cV_V (pc := 38) [iv a4] S0 hK hX mv_X12_109 (k_X12_four h11) (c_X12_four l cA D N sx ad T A nx e8 w0 a4 ca4 e10 h11) rfl rfl ⟨by decide, by decide⟩ (Nat.le_of_ble_eq_true rfl) ⟨Nat.le_refl _, Nat.le_refl _⟩ dX12_feed_38 ?_
    refine r_aload_n (pc := 41) S0 0 dX12_feed_41 rfl rfl ?_
    refine r_iload (pc := 42) S0 5 dX12_feed_42 rfl ?_
    obtain ⟨e12, h13, hf⟩ := ok_bind hf
    refine r_cV_V (pc := 44) [iv a5] S0 hK hX mv_X12_109 (k_X12_four h13) (c_X12_four l cA D N sx ad T A nx e10 w0 a5 ca5 e12 h13) rfl rfl ⟨by decide, by decide⟩ (Nat.le_of_ble_eq_true rfl) ⟨Nat.le_refl _, Nat.le_refl _⟩ dX12_feed_44 ?_
    refine r_aload_n (pc := 47) S0 0 dX12_feed_47 rfl rfl ?_
    refine r_getI (pc := 48) S0 hK fl_X12_106 dX12_feed_48 hf (fun x14 c15 hf => ?_)
    have hz := ok_some hf
    have hz : (x14, e12) = e := hz
    subst hQ
    subst hz
    exact r_iret (pc := 51) S0 hr hlk c15 dX12_feed_51
  · refine r_iconst (pc := 18) S0 dX12_feed_18 ?_
    have hz := ok_some hf
    have hz : ((-1), I1) = e := hz
    subst hQ
    subst hz
    exact r_iret (pc := 19) S0 hr hlk (cnz (-1) rfl) dX12_feed_19
