/-! Contracts, laid by wip/gen/gen.py. -/
set_option maxHeartbeats 4000000 in
set_option maxRecDepth 100000 in
theorem c_X11_permit (l : Launch) (cA : Nat → ClassId) (D : va_G) (N : Nat) (sx : Sx) (ad : Nat → Nat) (T : Knd) (A : Rfs) (nx : Nat) (I : Mem) (w0 : Nat)  (e : Int) (h : f_X11_permit T A w0 I = some e) : CtI l yX11_permit cX11_permit 1 (some .int) 2 80 cA D N sx ad T A nx [rv ad w0] I I e := by
  refine met_of (lv0 := [(0, rv ad w0)]) (by decide) (Nat.le_of_ble_eq_true rfl) rfl (fun p e0 s m args below meth c S0 hK hX hr hlk Q hQ => ?_)
  have hf : OK (f_X11_permit T A w0 I) (fun z => z = e) := ⟨e, h, rfl⟩
  unfold f_X11_permit at hf
  obtain ⟨hw0, hf⟩ := ok_grd hf
  refine r_aload_n (pc := 0) S0 0 dX11_permit_0 rfl rfl ?_
  refine r_getR (pc := 1) S0 hK fl_X11_28 dX11_permit_1 hf (fun x1 hf => ?_)
  obtain ⟨e2, h3, hf⟩ := ok_bind hf
  refine r_cV_I (pc := 4) [] S0 hK hX mv_X11_170 (k_X2_isThere h3) (c_X2_isThere l cA D N sx ad T A nx I x1 e2 h3) rfl rfl ⟨by decide, by decide⟩ (Nat.le_of_ble_eq_true rfl) ⟨Nat.le_refl _, Nat.le_refl _⟩ dX11_permit_4 (fun c4 => ?_)
  refine r_if_eq (pc := 7) (tgt := 20) S0 dX11_permit_7 (by decide) c4 hf (fun hf => ?_) (fun hf => ?_)
  · refine r_bipush (pc := 20) S0 dX11_permit_20 (by decide) ?_
    have hz := ok_some hf
    have hz : (-2) = e := hz
    subst hQ
    subst hz
    exact r_iret (pc := 22) S0 hr hlk (cnz (-2) rfl) dX11_permit_22
  · refine r_aload_n (pc := 10) S0 0 dX11_permit_10 rfl rfl ?_
    refine r_getR (pc := 11) S0 hK fl_X11_28 dX11_permit_11 hf (fun x5 hf => ?_)
    refine r_getI (pc := 14) S0 hK fl_X11_174 dX11_permit_14 hf (fun x6 c7 hf => ?_)
    refine r_goto (pc := 17) (tgt := 22) S0 dX11_permit_17 (by decide) ?_
    have hz := ok_some hf
    have hz : x6 = e := hz
    subst hQ
    subst hz
    exact r_iret (pc := 22) S0 hr hlk c7 dX11_permit_22

set_option maxHeartbeats 4000000 in
set_option maxRecDepth 100000 in
theorem c_X11_now (l : Launch) (cA : Nat → ClassId) (D : va_G) (N : Nat) (sx : Sx) (ad : Nat → Nat) (T : Knd) (A : Rfs) (nx : Nat) (I : Mem) (w0 : Nat)  (e : Int) (h : f_X11_now T A w0 I = some e) : CtI l yX11_now cX11_now 1 (some .int) 2 80 cA D N sx ad T A nx [rv ad w0] I I e := by
  refine met_of (lv0 := [(0, rv ad w0)]) (by decide) (Nat.le_of_ble_eq_true rfl) rfl (fun p e0 s m args below meth c S0 hK hX hr hlk Q hQ => ?_)
  have hf : OK (f_X11_now T A w0 I) (fun z => z = e) := ⟨e, h, rfl⟩
  unfold f_X11_now at hf
  obtain ⟨hw0, hf⟩ := ok_grd hf
  refine r_aload_n (pc := 0) S0 0 dX11_now_0 rfl rfl ?_
  refine r_getR (pc := 1) S0 hK fl_X11_28 dX11_now_1 hf (fun x1 hf => ?_)
  obtain ⟨e2, h3, hf⟩ := ok_bind hf
  refine r_cV_I (pc := 4) [] S0 hK hX mv_X11_170 (k_X2_isThere h3) (c_X2_isThere l cA D N sx ad T A nx I x1 e2 h3) rfl rfl ⟨by decide, by decide⟩ (Nat.le_of_ble_eq_true rfl) ⟨Nat.le_refl _, Nat.le_refl _⟩ dX11_now_4 (fun c4 => ?_)
  refine r_if_eq (pc := 7) (tgt := 20) S0 dX11_now_7 (by decide) c4 hf (fun hf => ?_) (fun hf => ?_)
  · refine r_bipush (pc := 20) S0 dX11_now_20 (by decide) ?_
    have hz := ok_some hf
    have hz : (-2) = e := hz
    subst hQ
    subst hz
    exact r_iret (pc := 22) S0 hr hlk (cnz (-2) rfl) dX11_now_22
  · refine r_aload_n (pc := 10) S0 0 dX11_now_10 rfl rfl ?_
    refine r_getR (pc := 11) S0 hK fl_X11_44 dX11_now_11 hf (fun x5 hf => ?_)
    refine r_getI (pc := 14) S0 hK fl_X11_177 dX11_now_14 hf (fun x6 c7 hf => ?_)
    refine r_goto (pc := 17) (tgt := 22) S0 dX11_now_17 (by decide) ?_
    have hz := ok_some hf
    have hz : x6 = e := hz
    subst hQ
    subst hz
    exact r_iret (pc := 22) S0 hr hlk c7 dX11_now_22

set_option maxHeartbeats 4000000 in
set_option maxRecDepth 100000 in
theorem c_X11_room (l : Launch) (cA : Nat → ClassId) (D : va_G) (N : Nat) (sx : Sx) (ad : Nat → Nat) (T : Knd) (A : Rfs) (nx : Nat) (I : Mem) (w0 : Nat)  (e : Int) (h : f_X11_room T A w0 I = some e) : CtI l yX11_room cX11_room 1 (some .int) 2 80 cA D N sx ad T A nx [rv ad w0] I I e := by
  refine met_of (lv0 := [(0, rv ad w0)]) (by decide) (Nat.le_of_ble_eq_true rfl) rfl (fun p e0 s m args below meth c S0 hK hX hr hlk Q hQ => ?_)
  have hf : OK (f_X11_room T A w0 I) (fun z => z = e) := ⟨e, h, rfl⟩
  unfold f_X11_room at hf
  obtain ⟨hw0, hf⟩ := ok_grd hf
  refine r_aload_n (pc := 0) S0 0 dX11_room_0 rfl rfl ?_
  refine r_getR (pc := 1) S0 hK fl_X11_28 dX11_room_1 hf (fun x1 hf => ?_)
  obtain ⟨e2, h3, hf⟩ := ok_bind hf
  refine r_cV_I (pc := 4) [] S0 hK hX mv_X11_170 (k_X2_isThere h3) (c_X2_isThere l cA D N sx ad T A nx I x1 e2 h3) rfl rfl ⟨by decide, by decide⟩ (Nat.le_of_ble_eq_true rfl) ⟨Nat.le_refl _, Nat.le_refl _⟩ dX11_room_4 (fun c4 => ?_)
  refine r_if_eq (pc := 7) (tgt := 20) S0 dX11_room_7 (by decide) c4 hf (fun hf => ?_) (fun hf => ?_)
  · refine r_bipush (pc := 20) S0 dX11_room_20 (by decide) ?_
    have hz := ok_some hf
    have hz : (-2) = e := hz
    subst hQ
    subst hz
    exact r_iret (pc := 22) S0 hr hlk (cnz (-2) rfl) dX11_room_22
  · refine r_aload_n (pc := 10) S0 0 dX11_room_10 rfl rfl ?_
    refine r_getR (pc := 11) S0 hK fl_X11_44 dX11_room_11 hf (fun x5 hf => ?_)
    refine r_getI (pc := 14) S0 hK fl_X11_180 dX11_room_14 hf (fun x6 c7 hf => ?_)
    refine r_goto (pc := 17) (tgt := 22) S0 dX11_room_17 (by decide) ?_
    have hz := ok_some hf
    have hz : x6 = e := hz
    subst hQ
    subst hz
    exact r_iret (pc := 22) S0 hr hlk c7 dX11_room_22

set_option maxHeartbeats 4000000 in
set_option maxRecDepth 100000 in
theorem c_X10_holding (l : Launch) (cA : Nat → ClassId) (D : va_G) (N : Nat) (sx : Sx) (ad : Nat → Nat) (T : Knd) (A : Rfs) (nx : Nat) (I : Mem) (w0 : Nat)  (e : Int) (h : f_X10_holding T A w0 I = some e) : CtI l yX10_holding cX10_holding 3 (some .int) 1 60 cA D N sx ad T A nx [rv ad w0] I I e := by
  refine met_of (lv0 := [(0, rv ad w0)]) (by decide) (Nat.le_of_ble_eq_true rfl) rfl (fun p e0 s m args below meth c S0 hK hX hr hlk Q hQ => ?_)
  have hf : OK (f_X10_holding T A w0 I) (fun z => z = e) := ⟨e, h, rfl⟩
  unfold f_X10_holding at hf
  obtain ⟨hw0, hf⟩ := ok_grd hf
  refine r_iconst (pc := 0) S0 dX10_holding_0 ?_
  refine r_istore_n (pc := 1) (lv' := [(1, iv 0), (0, rv ad w0)]) S0 dX10_holding_1 rfl (by decide) rfl ?_
  refine r_iconst (pc := 2) S0 dX10_holding_2 ?_
  refine r_istore_n (pc := 3) (lv' := [(2, iv 0), (1, iv 0), (0, rv ad w0)]) S0 dX10_holding_3 rfl (by decide) rfl ?_
  refine r_lv [2, 1, 0] rfl ?_
  refine it_ind (P := fun s2 => cn s2.1 → cn s2.2 → G p l e0 (rmx 1 60) s m args below meth c 0 0 Q cA D N 3 ad T A nx 4 [(0, rv ad w0), (1, iv s2.1), (2, iv s2.2)] [] I) (fun n0 s2 ih1 hf c3 c4 => ?_) FU (0, 0) hf (cnz 0 rfl) (cnz 0 rfl)
  refine r_iload_n (pc := 4) S0 2 dX10_holding_4 rfl rfl ?_
  refine r_bipush (pc := 5) S0 dX10_holding_5 (by decide) ?_
  refine r_icmp_ge (pc := 7) (tgt := 35) S0 dX10_holding_7 (by decide) c4 (cnz 8 rfl) hf (fun hf => ?_) (fun hf => ?_)
  · refine r_iload_n (pc := 35) S0 1 dX10_holding_35 rfl rfl ?_
    have hz := ok_some hf
    have hz : s2.1 = e := hz
    subst hQ
    subst hz
    exact r_iret (pc := 36) S0 hr hlk c3 dX10_holding_36
  · refine r_aload_n (pc := 10) S0 0 dX10_holding_10 rfl rfl ?_
    refine r_getR (pc := 11) S0 hK fl_X10_9 dX10_holding_11 hf (fun x5 hf => ?_)
    refine r_iload_n (pc := 14) S0 2 dX10_holding_14 rfl rfl ?_
    refine r_iald (pc := 15) S0 hK dX10_holding_15 c4 hf (fun x6 c7 hf => ?_)
    refine r_aload_n (pc := 16) S0 0 dX10_holding_16 rfl rfl ?_
    refine r_getI (pc := 17) S0 hK fl_X10_29 dX10_holding_17 hf (fun x8 c9 hf => ?_)
    refine r_icmp_lt (pc := 20) (tgt := 29) S0 dX10_holding_20 (by decide) c7 c9 hf (fun hf => ?_) (fun hf => ?_)
    · refine r_iinc (pc := 29) (lv' := [(2, iv (ia s2.2 1)), (0, rv ad w0), (1, iv s2.1)]) S0 2 dX10_holding_29 rfl (by decide) rfl ?_
      refine r_goto (pc := 32) (tgt := 4) S0 dX10_holding_32 (by decide) ?_
      have hz := ok_some hf
      refine r_lv [1, 2, 0] rfl ?_
      exact ih1 (s2.1, ia s2.2 1) hz c3 (cn_wrap _)
    · refine r_iload_n (pc := 23) S0 1 dX10_holding_23 rfl rfl ?_
      refine r_iconst (pc := 24) S0 dX10_holding_24 ?_
      refine r_iload_n (pc := 25) S0 2 dX10_holding_25 rfl rfl ?_
      refine r_ishl (pc := 26) S0 dX10_holding_26 ?_
      refine r_ior (pc := 27) S0 dX10_holding_27 ?_
      refine r_istore_n (pc := 28) (lv' := [(1, iv (ior s2.1 (ishl 1 s2.2))), (0, rv ad w0), (2, iv s2.2)]) S0 dX10_holding_28 rfl (by decide) rfl ?_
      refine r_iinc (pc := 29) (lv' := [(2, iv (ia s2.2 1)), (1, iv (ior s2.1 (ishl 1 s2.2))), (0, rv ad w0)]) S0 2 dX10_holding_29 rfl (by decide) rfl ?_
      refine r_goto (pc := 32) (tgt := 4) S0 dX10_holding_32 (by decide) ?_
      have hz := ok_some hf
      refine r_lv [2, 1, 0] rfl ?_
      exact ih1 (ior s2.1 (ishl 1 s2.2), ia s2.2 1) hz (cn_toInt _) (cn_wrap _)

set_option maxHeartbeats 4000000 in
set_option maxRecDepth 100000 in
theorem c_X11_held (l : Launch) (cA : Nat → ClassId) (D : va_G) (N : Nat) (sx : Sx) (ad : Nat → Nat) (T : Knd) (A : Rfs) (nx : Nat) (I : Mem) (w0 : Nat)  (e : Int) (h : f_X11_held T A w0 I = some e) : CtI l yX11_held cX11_held 1 (some .int) 2 82 cA D N sx ad T A nx [rv ad w0] I I e := by
  refine met_of (lv0 := [(0, rv ad w0)]) (by decide) (Nat.le_of_ble_eq_true rfl) rfl (fun p e0 s m args below meth c S0 hK hX hr hlk Q hQ => ?_)
  have hf : OK (f_X11_held T A w0 I) (fun z => z = e) := ⟨e, h, rfl⟩
  unfold f_X11_held at hf
  obtain ⟨hw0, hf⟩ := ok_grd hf
  refine r_aload_n (pc := 0) S0 0 dX11_held_0 rfl rfl ?_
  refine r_getR (pc := 1) S0 hK fl_X11_28 dX11_held_1 hf (fun x1 hf => ?_)
  obtain ⟨e2, h3, hf⟩ := ok_bind hf
  refine r_cV_I (pc := 4) [] S0 hK hX mv_X11_170 (k_X2_isThere h3) (c_X2_isThere l cA D N sx ad T A nx I x1 e2 h3) rfl rfl ⟨by decide, by decide⟩ (Nat.le_of_ble_eq_true rfl) ⟨Nat.le_refl _, Nat.le_refl _⟩ dX11_held_4 (fun c4 => ?_)
  refine r_if_eq (pc := 7) (tgt := 20) S0 dX11_held_7 (by decide) c4 hf (fun hf => ?_) (fun hf => ?_)
  · refine r_bipush (pc := 20) S0 dX11_held_20 (by decide) ?_
    have hz := ok_some hf
    have hz : (-2) = e := hz
    subst hQ
    subst hz
    exact r_iret (pc := 22) S0 hr hlk (cnz (-2) rfl) dX11_held_22
  · refine r_aload_n (pc := 10) S0 0 dX11_held_10 rfl rfl ?_
    refine r_getR (pc := 11) S0 hK fl_X11_44 dX11_held_11 hf (fun x5 hf => ?_)
    obtain ⟨e6, h7, hf⟩ := ok_bind hf
    refine r_cV_I (pc := 14) [] S0 hK hX mv_X11_183 (k_X10_holding h7) (c_X10_holding l cA D N sx ad T A nx I x5 e6 h7) rfl rfl ⟨by decide, by decide⟩ (Nat.le_of_ble_eq_true rfl) ⟨Nat.le_refl _, Nat.le_refl _⟩ dX11_held_14 (fun c8 => ?_)
    refine r_goto (pc := 17) (tgt := 22) S0 dX11_held_17 (by decide) ?_
    have hz := ok_some hf
    have hz : e6 = e := hz
    subst hQ
    subst hz
    exact r_iret (pc := 22) S0 hr hlk c8 dX11_held_22

set_option maxHeartbeats 4000000 in
set_option maxRecDepth 100000 in
theorem c_X11_until (l : Launch) (cA : Nat → ClassId) (D : va_G) (N : Nat) (sx : Sx) (ad : Nat → Nat) (T : Knd) (A : Rfs) (nx : Nat) (I : Mem) (w0 : Nat) (a1 : Int) (ca1 : cn a1) (e : Int) (h : f_X11_until T A w0 a1 I = some e) : CtI l yX11_until cX11_until 3 (some .int) 3 102 cA D N sx ad T A nx [rv ad w0, iv a1] I I e := by
  refine met_of (lv0 := [(0, rv ad w0), (1, iv a1)]) (by decide) (Nat.le_of_ble_eq_true rfl) rfl (fun p e0 s m args below meth c S0 hK hX hr hlk Q hQ => ?_)
  have hf : OK (f_X11_until T A w0 a1 I) (fun z => z = e) := ⟨e, h, rfl⟩
  unfold f_X11_until at hf
  obtain ⟨hw0, hf⟩ := ok_grd hf
  refine r_aload_n (pc := 0) S0 0 dX11_until_0 rfl rfl ?_
  refine r_getR (pc := 1) S0 hK fl_X11_28 dX11_until_1 hf (fun x1 hf => ?_)
  refine r_iload_n (pc := 4) S0 1 dX11_until_4 rfl rfl ?_
  obtain ⟨e2, h3, hf⟩ := ok_bind hf
  refine r_cV_I (pc := 5) [iv a1] S0 hK hX mv_X11_133 (k_X2_hasOfficial h3) (c_X2_hasOfficial l cA D N sx ad T A nx I x1 a1 ca1 e2 h3) rfl rfl ⟨by decide, by decide⟩ (Nat.le_of_ble_eq_true rfl) ⟨Nat.le_refl _, Nat.le_refl _⟩ dX11_until_5 (fun c4 => ?_)
  refine r_if_ne (pc := 8) (tgt := 14) S0 dX11_until_8 (by decide) c4 hf (fun hf => ?_) (fun hf => ?_)
  · refine r_aload_n (pc := 14) S0 0 dX11_until_14 rfl rfl ?_
    refine r_getR (pc := 15) S0 hK fl_X11_44 dX11_until_15 hf (fun x5 hf => ?_)
    refine r_iload_n (pc := 18) S0 1 dX11_until_18 rfl rfl ?_
    obtain ⟨e6, h7, hf⟩ := ok_bind hf
    refine r_cV_I (pc := 19) [iv a1] S0 hK hX mv_X11_187 (k_X10_lastHeld h7) (c_X10_lastHeld l cA D N sx ad T A nx I x5 a1 ca1 e6 h7) rfl rfl ⟨by decide, by decide⟩ (Nat.le_of_ble_eq_true rfl) ⟨Nat.le_refl _, Nat.le_refl _⟩ dX11_until_19 (fun c8 => ?_)
    refine r_istore_n (pc := 22) (lv' := [(2, iv e6), (0, rv ad w0), (1, iv a1)]) S0 dX11_until_22 rfl (by decide) rfl ?_
    refine r_aload_n (pc := 23) S0 1 dX11_until_23 rfl rfl ?_
    refine r_getR (pc := 24) S0 hK fl_X11_44 dX11_until_24 hf (fun x9 hf => ?_)
    refine r_iload_n (pc := 27) S0 2 dX11_until_27 rfl rfl ?_
    obtain ⟨e10, h11, hf⟩ := ok_bind hf
    refine r_cV_I (pc := 28) [iv a1] S0 hK hX mv_X11_191 (k_X10_holds h11) (c_X10_holds l cA D N sx ad T A nx I x9 a1 ca1 e10 h11) rfl rfl ⟨by decide, by decide⟩ (Nat.le_of_ble_eq_true rfl) ⟨Nat.le_refl _, Nat.le_refl _⟩ dX11_until_28 (fun c12 => ?_)
    refine r_if_eq (pc := 31) (tgt := 44) S0 dX11_until_31 (by decide) c12 hf (fun hf => ?_) (fun hf => ?_)
    · refine r_iconst (pc := 44) S0 dX11_until_44 ?_
      have hz := ok_some hf
      have hz : (-1) = e := hz
      subst hQ
      subst hz
      exact r_iret (pc := 45) S0 hr hlk (cnz (-1) rfl) dX11_until_45
    · refine r_iload_n (pc := 34) S0 0 dX11_until_34 rfl rfl ?_
      refine r_ldc (pc := 35) (z := 1000000) S0 k_X11_194 dX11_until_35 (by decide) ?_
      refine r_icmp_eq (pc := 37) (tgt := 44) S0 dX11_until_37 (by decide) c8 (cnz 1000000 rfl) hf (fun hf => ?_) (fun hf => ?_)
      · refine r_iconst (pc := 44) S0 dX11_until_44 ?_
        have hz := ok_some hf
        have hz : (-1) = e := hz
        subst hQ
        subst hz
        exact r_iret (pc := 45) S0 hr hlk (cnz (-1) rfl) dX11_until_45
      · refine r_iload_n (pc := 40) S0 0 dX11_until_40 rfl rfl ?_
        refine r_goto (pc := 41) (tgt := 45) S0 dX11_until_41 (by decide) ?_
        have hz := ok_some hf
        have hz : e6 = e := hz
        subst hQ
        subst hz
        exact r_iret (pc := 45) S0 hr hlk c8 dX11_until_45
  · refine r_bipush (pc := 11) S0 dX11_until_11 (by decide) ?_
    have hz := ok_some hf
    have hz : (-2) = e := hz
    subst hQ
    subst hz
    exact r_iret (pc := 13) S0 hr hlk (cnz (-2) rfl) dX11_until_13

set_option maxHeartbeats 4000000 in
set_option maxRecDepth 100000 in
theorem c_X11_when (l : Launch) (cA : Nat → ClassId) (D : va_G) (N : Nat) (sx : Sx) (ad : Nat → Nat) (T : Knd) (A : Rfs) (nx : Nat) (I : Mem) (w0 : Nat) (a1 : Int) (ca1 : cn a1) (e : Int) (h : f_X11_when T A w0 a1 I = some e) : CtI l yX11_when cX11_when 2 (some .int) 4 129 cA D N sx ad T A nx [rv ad w0, iv a1] I I e := by
  refine met_of (lv0 := [(0, rv ad w0), (1, iv a1)]) (by decide) (Nat.le_of_ble_eq_true rfl) rfl (fun p e0 s m args below meth c S0 hK hX hr hlk Q hQ => ?_)
  have hf : OK (f_X11_when T A w0 a1 I) (fun z => z = e) := ⟨e, h, rfl⟩
  unfold f_X11_when at hf
  obtain ⟨hw0, hf⟩ := ok_grd hf
  refine r_aload_n (pc := 0) S0 0 dX11_when_0 rfl rfl ?_
  refine r_getR (pc := 1) S0 hK fl_X11_28 dX11_when_1 hf (fun x1 hf => ?_)
  refine r_iload_n (pc := 4) S0 1 dX11_when_4 rfl rfl ?_
  obtain ⟨e2, h3, hf⟩ := ok_bind hf
  refine r_cV_I (pc := 5) [iv a1] S0 hK hX mv_X11_133 (k_X2_hasOfficial h3) (c_X2_hasOfficial l cA D N sx ad T A nx I x1 a1 ca1 e2 h3) rfl rfl ⟨by decide, by decide⟩ (Nat.le_of_ble_eq_true rfl) ⟨Nat.le_refl _, Nat.le_refl _⟩ dX11_when_5 (fun c4 => ?_)
  refine r_if_eq (pc := 8) (tgt := 22) S0 dX11_when_8 (by decide) c4 hf (fun hf => ?_) (fun hf => ?_)
  · refine r_bipush (pc := 22) S0 dX11_when_22 (by decide) ?_
    have hz := ok_some hf
    have hz : (-2) = e := hz
    subst hQ
    subst hz
    exact r_iret (pc := 24) S0 hr hlk (cnz (-2) rfl) dX11_when_24
  · refine r_aload_n (pc := 11) S0 0 dX11_when_11 rfl rfl ?_
    refine r_getR (pc := 12) S0 hK fl_X11_44 dX11_when_12 hf (fun x5 hf => ?_)
    refine r_iload_n (pc := 15) S0 1 dX11_when_15 rfl rfl ?_
    obtain ⟨e6, h7, hf⟩ := ok_bind hf
    refine r_cV_I (pc := 16) [iv a1] S0 hK hX mv_X11_195 (k_X10_stampHour h7) (c_X10_stampHour l cA D N sx ad T A nx I x5 a1 ca1 e6 h7) rfl rfl ⟨by decide, by decide⟩ (Nat.le_of_ble_eq_true rfl) ⟨Nat.le_refl _, Nat.le_refl _⟩ dX11_when_16 (fun c8 => ?_)
    refine r_goto (pc := 19) (tgt := 24) S0 dX11_when_19 (by decide) ?_
    have hz := ok_some hf
    have hz : e6 = e := hz
    subst hQ
    subst hz
    exact r_iret (pc := 24) S0 hr hlk c8 dX11_when_24

set_option maxHeartbeats 4000000 in
set_option maxRecDepth 100000 in
theorem c_X10_obstacle (l : Launch) (cA : Nat → ClassId) (D : va_G) (N : Nat) (sx : Sx) (ad : Nat → Nat) (T : Knd) (A : Rfs) (nx : Nat) (I : Mem) (w0 : Nat) (a1 : Int) (ca1 : cn a1) (e : Int) (h : f_X10_obstacle T A w0 a1 I = some e) : CtI l yX10_obstacle cX10_obstacle 4 (some .int) 4 129 cA D N sx ad T A nx [rv ad w0, iv a1] I I e := by
  refine met_of (lv0 := [(0, rv ad w0), (1, iv a1)]) (by decide) (Nat.le_of_ble_eq_true rfl) rfl (fun p e0 s m args below meth c S0 hK hX hr hlk Q hQ => ?_)
  have hf : OK (f_X10_obstacle T A w0 a1 I) (fun z => z = e) := ⟨e, h, rfl⟩
  unfold f_X10_obstacle at hf
  obtain ⟨hw0, hf⟩ := ok_grd hf
  refine r_aload_n (pc := 0) S0 0 dX10_obstacle_0 rfl rfl ?_
  refine r_iload_n (pc := 1) S0 1 dX10_obstacle_1 rfl rfl ?_
  obtain ⟨e1, h2, hf⟩ := ok_bind hf
  refine r_cV_I (pc := 2) [iv a1] S0 hK hX mv_X10_93 (k_X10_holds h2) (c_X10_holds l cA D N sx ad T A nx I w0 a1 ca1 e1 h2) rfl rfl ⟨by decide, by decide⟩ (Nat.le_of_ble_eq_true rfl) ⟨Nat.le_refl _, Nat.le_refl _⟩ dX10_obstacle_2 (fun c3 => ?_)
  refine r_if_eq (pc := 5) (tgt := 10) S0 dX10_obstacle_5 (by decide) c3 hf (fun hf => ?_) (fun hf => ?_)
  · refine r_aload_n (pc := 10) S0 0 dX10_obstacle_10 rfl rfl ?_
    refine r_iload_n (pc := 11) S0 1 dX10_obstacle_11 rfl rfl ?_
    obtain ⟨e4, h5, hf⟩ := ok_bind hf
    refine r_cV_I (pc := 12) [iv a1] S0 hK hX mv_X10_90 (k_X10_arrival h5) (c_X10_arrival l cA D N sx ad T A nx I w0 a1 ca1 e4 h5) rfl rfl ⟨by decide, by decide⟩ (Nat.le_of_ble_eq_true rfl) ⟨Nat.le_refl _, Nat.le_refl _⟩ dX10_obstacle_12 (fun c6 => ?_)
    refine r_istore_n (pc := 15) (lv' := [(2, iv e4), (0, rv ad w0), (1, iv a1)]) S0 dX10_obstacle_15 rfl (by decide) rfl ?_
    refine r_iload_n (pc := 16) S0 0 dX10_obstacle_16 rfl rfl ?_
    refine r_iconst (pc := 17) S0 dX10_obstacle_17 ?_
    refine r_icmp_ne (pc := 18) (tgt := 23) S0 dX10_obstacle_18 (by decide) c6 (cnz (-1) rfl) hf (fun hf => ?_) (fun hf => ?_)
    · refine r_aload_n (pc := 23) S0 1 dX10_obstacle_23 rfl rfl ?_
      refine r_getR (pc := 24) S0 hK fl_X10_19 dX10_obstacle_24 hf (fun x7 hf => ?_)
      refine r_iload_n (pc := 27) S0 2 dX10_obstacle_27 rfl rfl ?_
      refine r_iload_n (pc := 28) S0 0 dX10_obstacle_28 rfl rfl ?_
      obtain ⟨e8, h9, hf⟩ := ok_bind hf
      refine r_cV_I (pc := 29) [iv a1, iv e4] S0 hK hX mv_X10_99 (k_X9_firstOpen h9) (c_X9_firstOpen l cA D N sx ad T A nx I x7 a1 e4 ca1 c6 e8 h9) rfl rfl ⟨by decide, by decide⟩ (Nat.le_of_ble_eq_true rfl) ⟨Nat.le_refl _, Nat.le_refl _⟩ dX10_obstacle_29 (fun c10 => ?_)
      refine r_istore_n (pc := 32) (lv' := [(3, iv e8), (2, iv e4), (0, rv ad w0), (1, iv a1)]) S0 dX10_obstacle_32 rfl (by decide) rfl ?_
      refine r_iload_n (pc := 33) S0 0 dX10_obstacle_33 rfl rfl ?_
      refine r_iconst (pc := 34) S0 dX10_obstacle_34 ?_
      refine r_icmp_ne (pc := 35) (tgt := 40) S0 dX10_obstacle_35 (by decide) c10 (cnz (-1) rfl) hf (fun hf => ?_) (fun hf => ?_)
      · refine r_iload_n (pc := 40) S0 0 dX10_obstacle_40 rfl rfl ?_
        refine r_aload_n (pc := 41) S0 2 dX10_obstacle_41 rfl rfl ?_
        refine r_iload_n (pc := 42) S0 3 dX10_obstacle_42 rfl rfl ?_
        obtain ⟨e11, h12, hf⟩ := ok_bind hf
        refine r_cV_I (pc := 43) [iv a1] S0 hK hX mv_X10_102 (k_X10_supported h12) (c_X10_supported l cA D N sx ad T A nx I w0 a1 ca1 e11 h12) rfl rfl ⟨by decide, by decide⟩ (Nat.le_of_ble_eq_true rfl) ⟨Nat.le_refl _, Nat.le_refl _⟩ dX10_obstacle_43 (fun c13 => ?_)
        refine r_icmp_le (pc := 46) (tgt := 51) S0 dX10_obstacle_46 (by decide) c10 c13 hf (fun hf => ?_) (fun hf => ?_)
        · refine r_aload_n (pc := 51) S0 2 dX10_obstacle_51 rfl rfl ?_
          refine r_iload_n (pc := 52) S0 3 dX10_obstacle_52 rfl rfl ?_
          obtain ⟨e14, h15, hf⟩ := ok_bind hf
          refine r_cV_I (pc := 53) [iv a1] S0 hK hX mv_X10_105 (k_X10_stampHour h15) (c_X10_stampHour l cA D N sx ad T A nx I w0 a1 ca1 e14 h15) rfl rfl ⟨by decide, by decide⟩ (Nat.le_of_ble_eq_true rfl) ⟨Nat.le_refl _, Nat.le_refl _⟩ dX10_obstacle_53 (fun c16 => ?_)
          refine r_iconst (pc := 56) S0 dX10_obstacle_56 ?_
          refine r_icmp_ne (pc := 57) (tgt := 64) S0 dX10_obstacle_57 (by decide) c16 (cnz (-1) rfl) hf (fun hf => ?_) (fun hf => ?_)
          · refine r_iconst (pc := 64) S0 dX10_obstacle_64 ?_
            have hz := ok_some hf
            have hz : 0 = e := hz
            subst hQ
            subst hz
            exact r_iret (pc := 65) S0 hr hlk (cnz 0 rfl) dX10_obstacle_65
          · refine r_iconst (pc := 60) S0 dX10_obstacle_60 ?_
            refine r_goto (pc := 61) (tgt := 65) S0 dX10_obstacle_61 (by decide) ?_
            have hz := ok_some hf
            have hz : 5 = e := hz
            subst hQ
            subst hz
            exact r_iret (pc := 65) S0 hr hlk (cnz 5 rfl) dX10_obstacle_65
        · refine r_iconst (pc := 49) S0 dX10_obstacle_49 ?_
          have hz := ok_some hf
          have hz : 4 = e := hz
          subst hQ
          subst hz
          exact r_iret (pc := 50) S0 hr hlk (cnz 4 rfl) dX10_obstacle_50
      · refine r_iconst (pc := 38) S0 dX10_obstacle_38 ?_
        have hz := ok_some hf
        have hz : 3 = e := hz
        subst hQ
        subst hz
        exact r_iret (pc := 39) S0 hr hlk (cnz 3 rfl) dX10_obstacle_39
    · refine r_iconst (pc := 21) S0 dX10_obstacle_21 ?_
      have hz := ok_some hf
      have hz : 2 = e := hz
      subst hQ
      subst hz
      exact r_iret (pc := 22) S0 hr hlk (cnz 2 rfl) dX10_obstacle_22
  · refine r_iconst (pc := 8) S0 dX10_obstacle_8 ?_
    have hz := ok_some hf
    have hz : 1 = e := hz
    subst hQ
    subst hz
    exact r_iret (pc := 9) S0 hr hlk (cnz 1 rfl) dX10_obstacle_9

set_option maxHeartbeats 4000000 in
set_option maxRecDepth 100000 in
theorem c_X11_why (l : Launch) (cA : Nat → ClassId) (D : va_G) (N : Nat) (sx : Sx) (ad : Nat → Nat) (T : Knd) (A : Rfs) (nx : Nat) (I : Mem) (w0 : Nat) (a1 : Int) (ca1 : cn a1) (e : Int) (h : f_X11_why T A w0 a1 I = some e) : CtI l yX11_why cX11_why 2 (some .int) 5 152 cA D N sx ad T A nx [rv ad w0, iv a1] I I e := by
  refine met_of (lv0 := [(0, rv ad w0), (1, iv a1)]) (by decide) (Nat.le_of_ble_eq_true rfl) rfl (fun p e0 s m args below meth c S0 hK hX hr hlk Q hQ => ?_)
  have hf : OK (f_X11_why T A w0 a1 I) (fun z => z = e) := ⟨e, h, rfl⟩
  unfold f_X11_why at hf
  obtain ⟨hw0, hf⟩ := ok_grd hf
  refine r_aload_n (pc := 0) S0 0 dX11_why_0 rfl rfl ?_
  refine r_getR (pc := 1) S0 hK fl_X11_28 dX11_why_1 hf (fun x1 hf => ?_)
  refine r_iload_n (pc := 4) S0 1 dX11_why_4 rfl rfl ?_
  obtain ⟨e2, h3, hf⟩ := ok_bind hf
  refine r_cV_I (pc := 5) [iv a1] S0 hK hX mv_X11_133 (k_X2_hasOfficial h3) (c_X2_hasOfficial l cA D N sx ad T A nx I x1 a1 ca1 e2 h3) rfl rfl ⟨by decide, by decide⟩ (Nat.le_of_ble_eq_true rfl) ⟨Nat.le_refl _, Nat.le_refl _⟩ dX11_why_5 (fun c4 => ?_)
  refine r_if_eq (pc := 8) (tgt := 22) S0 dX11_why_8 (by decide) c4 hf (fun hf => ?_) (fun hf => ?_)
  · refine r_bipush (pc := 22) S0 dX11_why_22 (by decide) ?_
    have hz := ok_some hf
    have hz : (-2) = e := hz
    subst hQ
    subst hz
    exact r_iret (pc := 24) S0 hr hlk (cnz (-2) rfl) dX11_why_24
  · refine r_aload_n (pc := 11) S0 0 dX11_why_11 rfl rfl ?_
    refine r_getR (pc := 12) S0 hK fl_X11_44 dX11_why_12 hf (fun x5 hf => ?_)
    refine r_iload_n (pc := 15) S0 1 dX11_why_15 rfl rfl ?_
    obtain ⟨e6, h7, hf⟩ := ok_bind hf
    refine r_cV_I (pc := 16) [iv a1] S0 hK hX mv_X11_198 (k_X10_obstacle h7) (c_X10_obstacle l cA D N sx ad T A nx I x5 a1 ca1 e6 h7) rfl rfl ⟨by decide, by decide⟩ (Nat.le_of_ble_eq_true rfl) ⟨Nat.le_refl _, Nat.le_refl _⟩ dX11_why_16 (fun c8 => ?_)
    refine r_goto (pc := 19) (tgt := 24) S0 dX11_why_19 (by decide) ?_
    have hz := ok_some hf
    have hz : e6 = e := hz
    subst hQ
    subst hz
    exact r_iret (pc := 24) S0 hr hlk c8 dX11_why_24

set_option maxHeartbeats 4000000 in
set_option maxRecDepth 100000 in
theorem c_X10_willing (l : Launch) (cA : Nat → ClassId) (D : va_G) (N : Nat) (sx : Sx) (ad : Nat → Nat) (T : Knd) (A : Rfs) (nx : Nat) (I : Mem) (w0 : Nat)  (e : Int) (h : f_X10_willing T A w0 I = some e) : CtI l yX10_willing cX10_willing 3 (some .int) 4 129 cA D N sx ad T A nx [rv ad w0] I I e := by
  refine met_of (lv0 := [(0, rv ad w0)]) (by decide) (Nat.le_of_ble_eq_true rfl) rfl (fun p e0 s m args below meth c S0 hK hX hr hlk Q hQ => ?_)
  have hf : OK (f_X10_willing T A w0 I) (fun z => z = e) := ⟨e, h, rfl⟩
  unfold f_X10_willing at hf
  obtain ⟨hw0, hf⟩ := ok_grd hf
  refine r_iconst (pc := 0) S0 dX10_willing_0 ?_
  refine r_istore_n (pc := 1) (lv' := [(1, iv 0), (0, rv ad w0)]) S0 dX10_willing_1 rfl (by decide) rfl ?_
  refine r_iconst (pc := 2) S0 dX10_willing_2 ?_
  refine r_istore_n (pc := 3) (lv' := [(2, iv 0), (1, iv 0), (0, rv ad w0)]) S0 dX10_willing_3 rfl (by decide) rfl ?_
  refine r_lv [2, 1, 0] rfl ?_
  refine it_ind (P := fun s2 => cn s2.1 → cn s2.2 → G p l e0 (rmx 4 129) s m args below meth c 0 0 Q cA D N 3 ad T A nx 4 [(0, rv ad w0), (1, iv s2.1), (2, iv s2.2)] [] I) (fun n0 s2 ih1 hf c3 c4 => ?_) FU (0, 0) hf (cnz 0 rfl) (cnz 0 rfl)
  refine r_iload_n (pc := 4) S0 2 dX10_willing_4 rfl rfl ?_
  refine r_aload_n (pc := 5) S0 0 dX10_willing_5 rfl rfl ?_
  refine r_getR (pc := 6) S0 hK fl_X10_15 dX10_willing_6 hf (fun x5 hf => ?_)
  refine r_getI (pc := 9) S0 hK fl_X10_108 dX10_willing_9 hf (fun x6 c7 hf => ?_)
  refine r_icmp_ge (pc := 12) (tgt := 36) S0 dX10_willing_12 (by decide) c4 c7 hf (fun hf => ?_) (fun hf => ?_)
  · refine r_iload_n (pc := 36) S0 1 dX10_willing_36 rfl rfl ?_
    have hz := ok_some hf
    have hz : s2.1 = e := hz
    subst hQ
    subst hz
    exact r_iret (pc := 37) S0 hr hlk c3 dX10_willing_37
  · refine r_aload_n (pc := 15) S0 0 dX10_willing_15 rfl rfl ?_
    refine r_iload_n (pc := 16) S0 2 dX10_willing_16 rfl rfl ?_
    obtain ⟨e8, h9, hf⟩ := ok_bind hf
    refine r_cV_I (pc := 17) [iv s2.2] S0 hK hX mv_X10_105 (k_X10_stampHour h9) (c_X10_stampHour l cA D N sx ad T A nx I w0 s2.2 c4 e8 h9) rfl rfl ⟨by decide, by decide⟩ (Nat.le_of_ble_eq_true rfl) ⟨Nat.le_refl _, Nat.le_refl _⟩ dX10_willing_17 (fun c10 => ?_)
    refine r_iconst (pc := 20) S0 dX10_willing_20 ?_
    refine r_icmp_eq (pc := 21) (tgt := 30) S0 dX10_willing_21 (by decide) c10 (cnz (-1) rfl) hf (fun hf => ?_) (fun hf => ?_)
    · refine r_iinc (pc := 30) (lv' := [(2, iv (ia s2.2 1)), (0, rv ad w0), (1, iv s2.1)]) S0 2 dX10_willing_30 rfl (by decide) rfl ?_
      refine r_goto (pc := 33) (tgt := 4) S0 dX10_willing_33 (by decide) ?_
      have hz := ok_some hf
      refine r_lv [1, 2, 0] rfl ?_
      exact ih1 (s2.1, ia s2.2 1) hz c3 (cn_wrap _)
    · refine r_iload_n (pc := 24) S0 1 dX10_willing_24 rfl rfl ?_
      refine r_iconst (pc := 25) S0 dX10_willing_25 ?_
      refine r_iload_n (pc := 26) S0 2 dX10_willing_26 rfl rfl ?_
      refine r_ishl (pc := 27) S0 dX10_willing_27 ?_
      refine r_ior (pc := 28) S0 dX10_willing_28 ?_
      refine r_istore_n (pc := 29) (lv' := [(1, iv (ior s2.1 (ishl 1 s2.2))), (0, rv ad w0), (2, iv s2.2)]) S0 dX10_willing_29 rfl (by decide) rfl ?_
      refine r_iinc (pc := 30) (lv' := [(2, iv (ia s2.2 1)), (1, iv (ior s2.1 (ishl 1 s2.2))), (0, rv ad w0)]) S0 2 dX10_willing_30 rfl (by decide) rfl ?_
      refine r_goto (pc := 33) (tgt := 4) S0 dX10_willing_33 (by decide) ?_
      have hz := ok_some hf
      refine r_lv [2, 1, 0] rfl ?_
      exact ih1 (ior s2.1 (ishl 1 s2.2), ia s2.2 1) hz (cn_toInt _) (cn_wrap _)

set_option maxHeartbeats 4000000 in
set_option maxRecDepth 100000 in
theorem c_X11_can (l : Launch) (cA : Nat → ClassId) (D : va_G) (N : Nat) (sx : Sx) (ad : Nat → Nat) (T : Knd) (A : Rfs) (nx : Nat) (I : Mem) (w0 : Nat)  (e : Int) (h : f_X11_can T A w0 I = some e) : CtI l yX11_can cX11_can 1 (some .int) 5 151 cA D N sx ad T A nx [rv ad w0] I I e := by
  refine met_of (lv0 := [(0, rv ad w0)]) (by decide) (Nat.le_of_ble_eq_true rfl) rfl (fun p e0 s m args below meth c S0 hK hX hr hlk Q hQ => ?_)
  have hf : OK (f_X11_can T A w0 I) (fun z => z = e) := ⟨e, h, rfl⟩
  unfold f_X11_can at hf
  obtain ⟨hw0, hf⟩ := ok_grd hf
  refine r_aload_n (pc := 0) S0 0 dX11_can_0 rfl rfl ?_
  refine r_getR (pc := 1) S0 hK fl_X11_28 dX11_can_1 hf (fun x1 hf => ?_)
  obtain ⟨e2, h3, hf⟩ := ok_bind hf
  refine r_cV_I (pc := 4) [] S0 hK hX mv_X11_170 (k_X2_isThere h3) (c_X2_isThere l cA D N sx ad T A nx I x1 e2 h3) rfl rfl ⟨by decide, by decide⟩ (Nat.le_of_ble_eq_true rfl) ⟨Nat.le_refl _, Nat.le_refl _⟩ dX11_can_4 (fun c4 => ?_)
  refine r_if_eq (pc := 7) (tgt := 20) S0 dX11_can_7 (by decide) c4 hf (fun hf => ?_) (fun hf => ?_)
  · refine r_bipush (pc := 20) S0 dX11_can_20 (by decide) ?_
    have hz := ok_some hf
    have hz : (-2) = e := hz
    subst hQ
    subst hz
    exact r_iret (pc := 22) S0 hr hlk (cnz (-2) rfl) dX11_can_22
  · refine r_aload_n (pc := 10) S0 0 dX11_can_10 rfl rfl ?_
    refine r_getR (pc := 11) S0 hK fl_X11_44 dX11_can_11 hf (fun x5 hf => ?_)
    obtain ⟨e6, h7, hf⟩ := ok_bind hf
    refine r_cV_I (pc := 14) [] S0 hK hX mv_X11_201 (k_X10_willing h7) (c_X10_willing l cA D N sx ad T A nx I x5 e6 h7) rfl rfl ⟨by decide, by decide⟩ (Nat.le_of_ble_eq_true rfl) ⟨Nat.le_refl _, Nat.le_refl _⟩ dX11_can_14 (fun c8 => ?_)
    refine r_goto (pc := 17) (tgt := 22) S0 dX11_can_17 (by decide) ?_
    have hz := ok_some hf
    have hz : e6 = e := hz
    subst hQ
    subst hz
    exact r_iret (pc := 22) S0 hr hlk c8 dX11_can_22

set_option maxHeartbeats 4000000 in
set_option maxRecDepth 100000 in
theorem c_X2_noteMove (l : Launch) (cA : Nat → ClassId) (D : va_G) (N : Nat) (sx : Sx) (ad : Nat → Nat) (T : Knd) (A : Rfs) (nx : Nat) (I : Mem) (w0 : Nat) (a1 : Int) (ca1 : cn a1) (e : (Int × Mem)) (h : f_X2_noteMove T A w0 a1 I = some e) : CtI l yX2_noteMove cX2_noteMove 2 (some .boolean) 1 60 cA D N sx ad T A nx [rv ad w0, iv a1] I e.2 e.1 := by
  refine met_of (lv0 := [(0, rv ad w0), (1, iv a1)]) (by decide) (Nat.le_of_ble_eq_true rfl) rfl (fun p e0 s m args below meth c S0 hK hX hr hlk Q hQ => ?_)
  have hf : OK (f_X2_noteMove T A w0 a1 I) (fun z => z = e) := ⟨e, h, rfl⟩
  unfold f_X2_noteMove at hf
  obtain ⟨hw0, hf⟩ := ok_grd hf
  refine r_aload_n (pc := 0) S0 0 dX2_noteMove_0 rfl rfl ?_
  refine r_getI (pc := 1) S0 hK fl_X2_42 dX2_noteMove_1 hf (fun x1 c2 hf => ?_)
  refine r_if_lt (pc := 4) (tgt := 16) S0 dX2_noteMove_4 (by decide) c2 hf (fun hf => ?_) (fun hf => ?_)
  · refine r_iconst (pc := 16) S0 dX2_noteMove_16 ?_
    have hz := ok_some hf
    have hz : (0, I) = e := hz
    subst hQ
    subst hz
    exact r_zret (pc := 17) S0 hr hlk (Or.inl rfl) dX2_noteMove_17
  · refine r_aload_n (pc := 7) S0 0 dX2_noteMove_7 rfl rfl ?_
    refine r_getI (pc := 8) S0 hK fl_X2_42 dX2_noteMove_8 hf (fun x3 c4 hf => ?_)
    refine r_bipush (pc := 11) S0 dX2_noteMove_11 (by decide) ?_
    refine r_icmp_lt (pc := 13) (tgt := 18) S0 dX2_noteMove_13 (by decide) c4 (cnz 40 rfl) hf (fun hf => ?_) (fun hf => ?_)
    · refine r_aload_n (pc := 18) S0 0 dX2_noteMove_18 rfl rfl ?_
      refine r_getR (pc := 19) S0 hK fl_X2_9 dX2_noteMove_19 hf (fun x5 hf => ?_)
      refine r_aload_n (pc := 22) S0 0 dX2_noteMove_22 rfl rfl ?_
      refine r_getI (pc := 23) S0 hK fl_X2_42 dX2_noteMove_23 hf (fun x6 c7 hf => ?_)
      refine r_iload_n (pc := 26) S0 1 dX2_noteMove_26 rfl rfl ?_
      refine r_iast (pc := 27) S0 hK dX2_noteMove_27 c7 ca1 hf (fun I8 hf => ?_)
      refine r_aload_n (pc := 28) S0 0 dX2_noteMove_28 rfl rfl ?_
      refine r_dup (pc := 29) S0 dX2_noteMove_29 rfl ?_
      refine r_getI (pc := 30) S0 hK fl_X2_42 dX2_noteMove_30 hf (fun x9 c10 hf => ?_)
      refine r_iconst (pc := 33) S0 dX2_noteMove_33 ?_
      refine r_iadd (pc := 34) S0 dX2_noteMove_34 ?_
      refine r_putI (pc := 35) S0 hK fl_X2_42 rfl rfl (cn_wrap _) dX2_noteMove_35 hf (fun I11 hf => ?_)
      refine r_iconst (pc := 38) S0 dX2_noteMove_38 ?_
      have hz := ok_some hf
      have hz : (1, I11) = e := hz
      subst hQ
      subst hz
      exact r_zret (pc := 39) S0 hr hlk (Or.inr rfl) dX2_noteMove_39
    · refine r_iconst (pc := 16) S0 dX2_noteMove_16 ?_
      have hz := ok_some hf
      have hz : (0, I) = e := hz
      subst hQ
      subst hz
      exact r_zret (pc := 17) S0 hr hlk (Or.inl rfl) dX2_noteMove_17

set_option maxHeartbeats 4000000 in
set_option maxRecDepth 100000 in
theorem c_X11_go (l : Launch) (cA : Nat → ClassId) (D : va_G) (N : Nat) (sx : Sx) (ad : Nat → Nat) (T : Knd) (A : Rfs) (nx : Nat) (I : Mem) (w0 : Nat) (a1 : Int) (ca1 : cn a1) (e : (Int × Mem)) (h : f_X11_go T A w0 a1 I = some e) : CtI l yX11_go cX11_go 3 (some .int) 4 129 cA D N sx ad T A nx [rv ad w0, iv a1] I e.2 e.1 := by
  refine met_of (lv0 := [(0, rv ad w0), (1, iv a1)]) (by decide) (Nat.le_of_ble_eq_true rfl) rfl (fun p e0 s m args below meth c S0 hK hX hr hlk Q hQ => ?_)
  have hf : OK (f_X11_go T A w0 a1 I) (fun z => z = e) := ⟨e, h, rfl⟩
  unfold f_X11_go at hf
  obtain ⟨hw0, hf⟩ := ok_grd hf
  refine r_aload_n (pc := 0) S0 0 dX11_go_0 rfl rfl ?_
  refine r_getR (pc := 1) S0 hK fl_X11_28 dX11_go_1 hf (fun x1 hf => ?_)
  refine r_iload_n (pc := 4) S0 1 dX11_go_4 rfl rfl ?_
  obtain ⟨e2, h3, hf⟩ := ok_bind hf
  refine r_cV_I (pc := 5) [iv a1] S0 hK hX mv_X11_133 (k_X2_hasOfficial h3) (c_X2_hasOfficial l cA D N sx ad T A nx I x1 a1 ca1 e2 h3) rfl rfl ⟨by decide, by decide⟩ (Nat.le_of_ble_eq_true rfl) ⟨Nat.le_refl _, Nat.le_refl _⟩ dX11_go_5 (fun c4 => ?_)
  refine r_if_ne (pc := 8) (tgt := 14) S0 dX11_go_8 (by decide) c4 hf (fun hf => ?_) (fun hf => ?_)
  · refine r_aload_n (pc := 14) S0 0 dX11_go_14 rfl rfl ?_
    refine r_getR (pc := 15) S0 hK fl_X11_44 dX11_go_15 hf (fun x5 hf => ?_)
    refine r_iload_n (pc := 18) S0 1 dX11_go_18 rfl rfl ?_
    obtain ⟨e6, h7, hf⟩ := ok_bind hf
    refine r_cV_I (pc := 19) [iv a1] S0 hK hX mv_X11_195 (k_X10_stampHour h7) (c_X10_stampHour l cA D N sx ad T A nx I x5 a1 ca1 e6 h7) rfl rfl ⟨by decide, by decide⟩ (Nat.le_of_ble_eq_true rfl) ⟨Nat.le_refl _, Nat.le_refl _⟩ dX11_go_19 (fun c8 => ?_)
    refine r_istore_n (pc := 22) (lv' := [(2, iv e6), (0, rv ad w0), (1, iv a1)]) S0 dX11_go_22 rfl (by decide) rfl ?_
    refine r_iload_n (pc := 23) S0 0 dX11_go_23 rfl rfl ?_
    refine r_iconst (pc := 24) S0 dX11_go_24 ?_
    refine r_icmp_eq (pc := 25) (tgt := 39) S0 dX11_go_25 (by decide) c8 (cnz (-1) rfl) hf (fun hf => ?_) (fun hf => ?_)
    · refine r_bipush (pc := 39) S0 dX11_go_39 (by decide) ?_
      have hz := ok_some hf
      have hz : ((-5), I) = e := hz
      subst hQ
      subst hz
      exact r_iret (pc := 41) S0 hr hlk (cnz (-5) rfl) dX11_go_41
    · refine r_aload_n (pc := 28) S0 1 dX11_go_28 rfl rfl ?_
      refine r_getR (pc := 29) S0 hK fl_X11_28 dX11_go_29 hf (fun x9 hf => ?_)
      refine r_iload_n (pc := 32) S0 2 dX11_go_32 rfl rfl ?_
      obtain ⟨e10, h11, hf⟩ := ok_bind hf
      refine r_cV_I (pc := 33) [iv a1] S0 hK hX mv_X11_204 (k_X2_noteMove h11) (c_X2_noteMove l cA D N sx ad T A nx I x9 a1 ca1 e10 h11) rfl rfl ⟨by decide, by decide⟩ (Nat.le_of_ble_eq_true rfl) ⟨Nat.le_refl _, Nat.le_refl _⟩ dX11_go_33 (fun c12 => ?_)
      refine r_if_ne (pc := 36) (tgt := 42) S0 dX11_go_36 (by decide) c12 hf (fun hf => ?_) (fun hf => ?_)
      · refine r_aload_n (pc := 42) S0 1 dX11_go_42 rfl rfl ?_
        refine r_getR (pc := 43) S0 hK fl_X11_44 dX11_go_43 hf (fun x13 hf => ?_)
        refine r_iload_n (pc := 46) S0 2 dX11_go_46 rfl rfl ?_
        refine r_iload_n (pc := 47) S0 0 dX11_go_47 rfl rfl ?_
        obtain ⟨e14, h15, hf⟩ := ok_bind hf
        refine r_cV_V (pc := 48) [iv a1, iv e6] S0 hK hX mv_X11_207 (k_X10_stampIn h15) (c_X10_stampIn l cA D N sx ad T A nx e10.2 x13 a1 e6 ca1 c8 e14 h15) rfl rfl ⟨by decide, by decide⟩ (Nat.le_of_ble_eq_true rfl) ⟨Nat.le_refl _, Nat.le_refl _⟩ dX11_go_48 ?_
        refine r_aload_n (pc := 51) S0 1 dX11_go_51 rfl rfl ?_
        obtain ⟨e16, h17, hf⟩ := ok_bind hf
        refine r_cV_V (pc := 52) [] S0 hK hX mv_X11_211 (k_X11_forgetRows h17) (c_X11_forgetRows l cA D N sx ad T A nx e14 w0 e16 h17) rfl rfl ⟨by decide, by decide⟩ (Nat.le_of_ble_eq_true rfl) ⟨Nat.le_refl _, Nat.le_refl _⟩ dX11_go_52 ?_
        refine r_iload_n (pc := 55) S0 0 dX11_go_55 rfl rfl ?_
        have hz := ok_some hf
        have hz : (e6, e16) = e := hz
        subst hQ
        subst hz
        exact r_iret (pc := 56) S0 hr hlk c8 dX11_go_56
      · refine r_bipush (pc := 39) S0 dX11_go_39 (by decide) ?_
        have hz := ok_some hf
        have hz : ((-5), e10.2) = e := hz
        subst hQ
        subst hz
        exact r_iret (pc := 41) S0 hr hlk (cnz (-5) rfl) dX11_go_41
  · refine r_bipush (pc := 11) S0 dX11_go_11 (by decide) ?_
    have hz := ok_some hf
    have hz : ((-2), I) = e := hz
    subst hQ
    subst hz
    exact r_iret (pc := 13) S0 hr hlk (cnz (-2) rfl) dX11_go_13

set_option maxHeartbeats 4000000 in
set_option maxRecDepth 100000 in
theorem c_X11_waits (l : Launch) (cA : Nat → ClassId) (D : va_G) (N : Nat) (sx : Sx) (ad : Nat → Nat) (T : Knd) (A : Rfs) (nx : Nat) (I : Mem) (w0 : Nat) (a1 : Int) (ca1 : cn a1) (e : (Int × Mem)) (h : f_X11_waits T A w0 a1 I = some e) : CtI l yX11_waits cX11_waits 2 (some .int) 2 81 cA D N sx ad T A nx [rv ad w0, iv a1] I e.2 e.1 := by
  refine met_of (lv0 := [(0, rv ad w0), (1, iv a1)]) (by decide) (Nat.le_of_ble_eq_true rfl) rfl (fun p e0 s m args below meth c S0 hK hX hr hlk Q hQ => ?_)
  have hf : OK (f_X11_waits T A w0 a1 I) (fun z => z = e) := ⟨e, h, rfl⟩
  unfold f_X11_waits at hf
  obtain ⟨hw0, hf⟩ := ok_grd hf
  refine r_aload_n (pc := 0) S0 0 dX11_waits_0 rfl rfl ?_
  refine r_getR (pc := 1) S0 hK fl_X11_28 dX11_waits_1 hf (fun x1 hf => ?_)
  obtain ⟨e2, h3, hf⟩ := ok_bind hf
  refine r_cV_I (pc := 4) [] S0 hK hX mv_X11_170 (k_X2_isThere h3) (c_X2_isThere l cA D N sx ad T A nx I x1 e2 h3) rfl rfl ⟨by decide, by decide⟩ (Nat.le_of_ble_eq_true rfl) ⟨Nat.le_refl _, Nat.le_refl _⟩ dX11_waits_4 (fun c4 => ?_)
  refine r_if_eq (pc := 7) (tgt := 21) S0 dX11_waits_7 (by decide) c4 hf (fun hf => ?_) (fun hf => ?_)
  · refine r_bipush (pc := 21) S0 dX11_waits_21 (by decide) ?_
    have hz := ok_some hf
    have hz : ((-2), I) = e := hz
    subst hQ
    subst hz
    exact r_iret (pc := 23) S0 hr hlk (cnz (-2) rfl) dX11_waits_23
  · refine r_iload_n (pc := 10) S0 1 dX11_waits_10 rfl rfl ?_
    refine r_iconst (pc := 11) S0 dX11_waits_11 ?_
    refine r_icmp_lt (pc := 12) (tgt := 21) S0 dX11_waits_12 (by decide) ca1 (cnz 1 rfl) hf (fun hf => ?_) (fun hf => ?_)
    · refine r_bipush (pc := 21) S0 dX11_waits_21 (by decide) ?_
      have hz := ok_some hf
      have hz : ((-2), I) = e := hz
      subst hQ
      subst hz
      exact r_iret (pc := 23) S0 hr hlk (cnz (-2) rfl) dX11_waits_23
    · refine r_iload_n (pc := 15) S0 1 dX11_waits_15 rfl rfl ?_
      refine r_bipush (pc := 16) S0 dX11_waits_16 (by decide) ?_
      refine r_icmp_le (pc := 18) (tgt := 24) S0 dX11_waits_18 (by decide) ca1 (cnz 99 rfl) hf (fun hf => ?_) (fun hf => ?_)
      · refine r_aload_n (pc := 24) S0 0 dX11_waits_24 rfl rfl ?_
        refine r_getR (pc := 25) S0 hK fl_X11_44 dX11_waits_25 hf (fun x5 hf => ?_)
        refine r_getI (pc := 28) S0 hK fl_X11_177 dX11_waits_28 hf (fun x6 c7 hf => ?_)
        refine r_iload_n (pc := 31) S0 1 dX11_waits_31 rfl rfl ?_
        refine r_iadd (pc := 32) S0 dX11_waits_32 ?_
        refine r_sipush (pc := 33) S0 dX11_waits_33 (by decide) ?_
        refine r_icmp_gt (pc := 36) (tgt := 53) S0 dX11_waits_36 (by decide) (cn_wrap _) (cnz 400 rfl) hf (fun hf => ?_) (fun hf => ?_)
        · refine r_bipush (pc := 53) S0 dX11_waits_53 (by decide) ?_
          have hz := ok_some hf
          have hz : ((-5), I) = e := hz
          subst hQ
          subst hz
          exact r_iret (pc := 55) S0 hr hlk (cnz (-5) rfl) dX11_waits_55
        · refine r_aload_n (pc := 39) S0 0 dX11_waits_39 rfl rfl ?_
          refine r_getR (pc := 40) S0 hK fl_X11_28 dX11_waits_40 hf (fun x8 hf => ?_)
          refine r_bipush (pc := 43) S0 dX11_waits_43 (by decide) ?_
          refine r_iload_n (pc := 45) S0 1 dX11_waits_45 rfl rfl ?_
          refine r_iadd (pc := 46) S0 dX11_waits_46 ?_
          obtain ⟨e9, h10, hf⟩ := ok_bind hf
          refine r_cV_I (pc := 47) [iv (ia 10 a1)] S0 hK hX mv_X11_204 (k_X2_noteMove h10) (c_X2_noteMove l cA D N sx ad T A nx I x8 (ia 10 a1) (cn_wrap _) e9 h10) rfl rfl ⟨by decide, by decide⟩ (Nat.le_of_ble_eq_true rfl) ⟨Nat.le_refl _, Nat.le_refl _⟩ dX11_waits_47 (fun c11 => ?_)
          refine r_if_ne (pc := 50) (tgt := 56) S0 dX11_waits_50 (by decide) c11 hf (fun hf => ?_) (fun hf => ?_)
          · refine r_aload_n (pc := 56) S0 0 dX11_waits_56 rfl rfl ?_
            refine r_getR (pc := 57) S0 hK fl_X11_44 dX11_waits_57 hf (fun x12 hf => ?_)
            refine r_dup (pc := 60) S0 dX11_waits_60 rfl ?_
            refine r_getI (pc := 61) S0 hK fl_X11_177 dX11_waits_61 hf (fun x13 c14 hf => ?_)
            refine r_iload_n (pc := 64) S0 1 dX11_waits_64 rfl rfl ?_
            refine r_iadd (pc := 65) S0 dX11_waits_65 ?_
            refine r_putI (pc := 66) S0 hK fl_X11_177 rfl rfl (cn_wrap _) dX11_waits_66 hf (fun I15 hf => ?_)
            refine r_aload_n (pc := 69) S0 0 dX11_waits_69 rfl rfl ?_
            obtain ⟨e16, h17, hf⟩ := ok_bind hf
            refine r_cV_V (pc := 70) [] S0 hK hX mv_X11_211 (k_X11_forgetRows h17) (c_X11_forgetRows l cA D N sx ad T A nx I15 w0 e16 h17) rfl rfl ⟨by decide, by decide⟩ (Nat.le_of_ble_eq_true rfl) ⟨Nat.le_refl _, Nat.le_refl _⟩ dX11_waits_70 ?_
            refine r_aload_n (pc := 73) S0 0 dX11_waits_73 rfl rfl ?_
            refine r_getR (pc := 74) S0 hK fl_X11_44 dX11_waits_74 hf (fun x18 hf => ?_)
            refine r_getI (pc := 77) S0 hK fl_X11_177 dX11_waits_77 hf (fun x19 c20 hf => ?_)
            have hz := ok_some hf
            have hz : (x19, e16) = e := hz
            subst hQ
            subst hz
            exact r_iret (pc := 80) S0 hr hlk c20 dX11_waits_80
          · refine r_bipush (pc := 53) S0 dX11_waits_53 (by decide) ?_
            have hz := ok_some hf
            have hz : ((-5), e9.2) = e := hz
            subst hQ
            subst hz
            exact r_iret (pc := 55) S0 hr hlk (cnz (-5) rfl) dX11_waits_55
      · refine r_bipush (pc := 21) S0 dX11_waits_21 (by decide) ?_
        have hz := ok_some hf
        have hz : ((-2), I) = e := hz
        subst hQ
        subst hz
        exact r_iret (pc := 23) S0 hr hlk (cnz (-2) rfl) dX11_waits_23

set_option maxHeartbeats 4000000 in
set_option maxRecDepth 100000 in
theorem c_X11_undo (l : Launch) (cA : Nat → ClassId) (D : va_G) (N : Nat) (sx : Sx) (ad : Nat → Nat) (T : Knd) (A : Rfs) (nx : Nat) (I : Mem) (w0 : Nat)  (e : (Int × Mem)) (h : f_X11_undo T A w0 I = some e) : CtI l yX11_undo cX11_undo 1 (some .int) 5 151 cA D N sx ad T A nx [rv ad w0] I e.2 e.1 := by
  refine met_of (lv0 := [(0, rv ad w0)]) (by decide) (Nat.le_of_ble_eq_true rfl) rfl (fun p e0 s m args below meth c S0 hK hX hr hlk Q hQ => ?_)
  have hf : OK (f_X11_undo T A w0 I) (fun z => z = e) := ⟨e, h, rfl⟩
  unfold f_X11_undo at hf
  obtain ⟨hw0, hf⟩ := ok_grd hf
  refine r_aload_n (pc := 0) S0 0 dX11_undo_0 rfl rfl ?_
  refine r_getR (pc := 1) S0 hK fl_X11_28 dX11_undo_1 hf (fun x1 hf => ?_)
  obtain ⟨e2, h3, hf⟩ := ok_bind hf
  refine r_cV_I (pc := 4) [] S0 hK hX mv_X11_170 (k_X2_isThere h3) (c_X2_isThere l cA D N sx ad T A nx I x1 e2 h3) rfl rfl ⟨by decide, by decide⟩ (Nat.le_of_ble_eq_true rfl) ⟨Nat.le_refl _, Nat.le_refl _⟩ dX11_undo_4 (fun c4 => ?_)
  refine r_if_ne (pc := 7) (tgt := 13) S0 dX11_undo_7 (by decide) c4 hf (fun hf => ?_) (fun hf => ?_)
  · refine r_aload_n (pc := 13) S0 0 dX11_undo_13 rfl rfl ?_
    refine r_getR (pc := 14) S0 hK fl_X11_28 dX11_undo_14 hf (fun x5 hf => ?_)
    refine r_getI (pc := 17) S0 hK fl_X11_214 dX11_undo_17 hf (fun x6 c7 hf => ?_)
    refine r_if_ne (pc := 20) (tgt := 26) S0 dX11_undo_20 (by decide) c7 hf (fun hf => ?_) (fun hf => ?_)
    · refine r_aload_n (pc := 26) S0 0 dX11_undo_26 rfl rfl ?_
      refine r_getR (pc := 27) S0 hK fl_X11_28 dX11_undo_27 hf (fun x8 hf => ?_)
      refine r_dup (pc := 30) S0 dX11_undo_30 rfl ?_
      refine r_getI (pc := 31) S0 hK fl_X11_214 dX11_undo_31 hf (fun x9 c10 hf => ?_)
      refine r_iconst (pc := 34) S0 dX11_undo_34 ?_
      refine r_isub (pc := 35) S0 dX11_undo_35 ?_
      refine r_putI (pc := 36) S0 hK fl_X11_214 rfl rfl (cn_wrap _) dX11_undo_36 hf (fun I11 hf => ?_)
      refine r_aload_n (pc := 39) S0 0 dX11_undo_39 rfl rfl ?_
      obtain ⟨e12, h13, hf⟩ := ok_bind hf
      refine r_cV_V (pc := 40) [] S0 hK hX mv_X11_217 (k_X11_retrace h13) (c_X11_retrace l cA D N sx ad T A nx I11 w0 e12 h13) rfl rfl ⟨by decide, by decide⟩ (Nat.le_of_ble_eq_true rfl) ⟨Nat.le_refl _, Nat.le_refl _⟩ dX11_undo_40 ?_
      refine r_aload_n (pc := 43) S0 0 dX11_undo_43 rfl rfl ?_
      refine r_getR (pc := 44) S0 hK fl_X11_28 dX11_undo_44 hf (fun x14 hf => ?_)
      refine r_getI (pc := 47) S0 hK fl_X11_214 dX11_undo_47 hf (fun x15 c16 hf => ?_)
      have hz := ok_some hf
      have hz : (x15, e12) = e := hz
      subst hQ
      subst hz
      exact r_iret (pc := 50) S0 hr hlk c16 dX11_undo_50
    · refine r_bipush (pc := 23) S0 dX11_undo_23 (by decide) ?_
      have hz := ok_some hf
      have hz : ((-5), I) = e := hz
      subst hQ
      subst hz
      exact r_iret (pc := 25) S0 hr hlk (cnz (-5) rfl) dX11_undo_25
  · refine r_bipush (pc := 10) S0 dX11_undo_10 (by decide) ?_
    have hz := ok_some hf
    have hz : ((-2), I) = e := hz
    subst hQ
    subst hz
    exact r_iret (pc := 12) S0 hr hlk (cnz (-2) rfl) dX11_undo_12

set_option maxHeartbeats 4000000 in
set_option maxRecDepth 100000 in
theorem c_X11_anew (l : Launch) (cA : Nat → ClassId) (D : va_G) (N : Nat) (sx : Sx) (ad : Nat → Nat) (T : Knd) (A : Rfs) (nx : Nat) (I : Mem) (w0 : Nat)  (e : (Int × Mem)) (h : f_X11_anew T A w0 I = some e) : CtI l yX11_anew cX11_anew 2 (some .int) 5 151 cA D N sx ad T A nx [rv ad w0] I e.2 e.1 := by
  refine met_of (lv0 := [(0, rv ad w0)]) (by decide) (Nat.le_of_ble_eq_true rfl) rfl (fun p e0 s m args below meth c S0 hK hX hr hlk Q hQ => ?_)
  have hf : OK (f_X11_anew T A w0 I) (fun z => z = e) := ⟨e, h, rfl⟩
  unfold f_X11_anew at hf
  obtain ⟨hw0, hf⟩ := ok_grd hf
  refine r_aload_n (pc := 0) S0 0 dX11_anew_0 rfl rfl ?_
  refine r_getR (pc := 1) S0 hK fl_X11_28 dX11_anew_1 hf (fun x1 hf => ?_)
  obtain ⟨e2, h3, hf⟩ := ok_bind hf
  refine r_cV_I (pc := 4) [] S0 hK hX mv_X11_170 (k_X2_isThere h3) (c_X2_isThere l cA D N sx ad T A nx I x1 e2 h3) rfl rfl ⟨by decide, by decide⟩ (Nat.le_of_ble_eq_true rfl) ⟨Nat.le_refl _, Nat.le_refl _⟩ dX11_anew_4 (fun c4 => ?_)
  refine r_if_ne (pc := 7) (tgt := 13) S0 dX11_anew_7 (by decide) c4 hf (fun hf => ?_) (fun hf => ?_)
  · refine r_aload_n (pc := 13) S0 0 dX11_anew_13 rfl rfl ?_
    refine r_getR (pc := 14) S0 hK fl_X11_28 dX11_anew_14 hf (fun x5 hf => ?_)
    refine r_getI (pc := 17) S0 hK fl_X11_214 dX11_anew_17 hf (fun x6 c7 hf => ?_)
    refine r_istore_n (pc := 20) (lv' := [(1, iv x6), (0, rv ad w0)]) S0 dX11_anew_20 rfl (by decide) rfl ?_
    refine r_aload_n (pc := 21) S0 1 dX11_anew_21 rfl rfl ?_
    refine r_getR (pc := 22) S0 hK fl_X11_28 dX11_anew_22 hf (fun x8 hf => ?_)
    refine r_iconst (pc := 25) S0 dX11_anew_25 ?_
    refine r_putI (pc := 26) S0 hK fl_X11_214 rfl rfl (cnz 0 rfl) dX11_anew_26 hf (fun I9 hf => ?_)
    refine r_aload_n (pc := 29) S0 1 dX11_anew_29 rfl rfl ?_
    obtain ⟨e10, h11, hf⟩ := ok_bind hf
    refine r_cV_V (pc := 30) [] S0 hK hX mv_X11_217 (k_X11_retrace h11) (c_X11_retrace l cA D N sx ad T A nx I9 w0 e10 h11) rfl rfl ⟨by decide, by decide⟩ (Nat.le_of_ble_eq_true rfl) ⟨Nat.le_refl _, Nat.le_refl _⟩ dX11_anew_30 ?_
    refine r_iload_n (pc := 33) S0 0 dX11_anew_33 rfl rfl ?_
    have hz := ok_some hf
    have hz : (x6, e10) = e := hz
    subst hQ
    subst hz
    exact r_iret (pc := 34) S0 hr hlk c7 dX11_anew_34
  · refine r_bipush (pc := 10) S0 dX11_anew_10 (by decide) ?_
    have hz := ok_some hf
    have hz : ((-2), I) = e := hz
    subst hQ
    subst hz
    exact r_iret (pc := 12) S0 hr hlk (cnz (-2) rfl) dX11_anew_12

set_option maxHeartbeats 4000000 in
set_option maxRecDepth 100000 in
theorem c_X11_led (l : Launch) (cA : Nat → ClassId) (D : va_G) (N : Nat) (sx : Sx) (ad : Nat → Nat) (T : Knd) (A : Rfs) (nx : Nat) (I : Mem) (w0 : Nat) (a1 : Int) (ca1 : cn a1) (e : Int) (h : f_X11_led T A w0 a1 I = some e) : CtI l yX11_led cX11_led 2 (some .int) 2 80 cA D N sx ad T A nx [rv ad w0, iv a1] I I e := by
  refine met_of (lv0 := [(0, rv ad w0), (1, iv a1)]) (by decide) (Nat.le_of_ble_eq_true rfl) rfl (fun p e0 s m args below meth c S0 hK hX hr hlk Q hQ => ?_)
  have hf : OK (f_X11_led T A w0 a1 I) (fun z => z = e) := ⟨e, h, rfl⟩
  unfold f_X11_led at hf
  obtain ⟨hw0, hf⟩ := ok_grd hf
  refine r_aload_n (pc := 0) S0 0 dX11_led_0 rfl rfl ?_
  refine r_getR (pc := 1) S0 hK fl_X11_28 dX11_led_1 hf (fun x1 hf => ?_)
  obtain ⟨e2, h3, hf⟩ := ok_bind hf
  refine r_cV_I (pc := 4) [] S0 hK hX mv_X11_170 (k_X2_isThere h3) (c_X2_isThere l cA D N sx ad T A nx I x1 e2 h3) rfl rfl ⟨by decide, by decide⟩ (Nat.le_of_ble_eq_true rfl) ⟨Nat.le_refl _, Nat.le_refl _⟩ dX11_led_4 (fun c4 => ?_)
  refine r_if_ne (pc := 7) (tgt := 13) S0 dX11_led_7 (by decide) c4 hf (fun hf => ?_) (fun hf => ?_)
  · refine r_iload_n (pc := 13) S0 1 dX11_led_13 rfl rfl ?_
    refine r_if_lt (pc := 14) (tgt := 40) S0 dX11_led_14 (by decide) ca1 hf (fun hf => ?_) (fun hf => ?_)
    · refine r_iconst (pc := 40) S0 dX11_led_40 ?_
      have hz := ok_some hf
      have hz : (-1) = e := hz
      subst hQ
      subst hz
      exact r_iret (pc := 41) S0 hr hlk (cnz (-1) rfl) dX11_led_41
    · refine r_iload_n (pc := 17) S0 1 dX11_led_17 rfl rfl ?_
      refine r_aload_n (pc := 18) S0 0 dX11_led_18 rfl rfl ?_
      refine r_getR (pc := 19) S0 hK fl_X11_28 dX11_led_19 hf (fun x5 hf => ?_)
      refine r_getI (pc := 22) S0 hK fl_X11_214 dX11_led_22 hf (fun x6 c7 hf => ?_)
      refine r_icmp_ge (pc := 25) (tgt := 40) S0 dX11_led_25 (by decide) ca1 c7 hf (fun hf => ?_) (fun hf => ?_)
      · refine r_iconst (pc := 40) S0 dX11_led_40 ?_
        have hz := ok_some hf
        have hz : (-1) = e := hz
        subst hQ
        subst hz
        exact r_iret (pc := 41) S0 hr hlk (cnz (-1) rfl) dX11_led_41
      · refine r_aload_n (pc := 28) S0 0 dX11_led_28 rfl rfl ?_
        refine r_getR (pc := 29) S0 hK fl_X11_28 dX11_led_29 hf (fun x8 hf => ?_)
        refine r_getR (pc := 32) S0 hK fl_X11_220 dX11_led_32 hf (fun x9 hf => ?_)
        refine r_iload_n (pc := 35) S0 1 dX11_led_35 rfl rfl ?_
        refine r_iald (pc := 36) S0 hK dX11_led_36 ca1 hf (fun x10 c11 hf => ?_)
        refine r_goto (pc := 37) (tgt := 41) S0 dX11_led_37 (by decide) ?_
        have hz := ok_some hf
        have hz : x10 = e := hz
        subst hQ
        subst hz
        exact r_iret (pc := 41) S0 hr hlk c11 dX11_led_41
  · refine r_bipush (pc := 10) S0 dX11_led_10 (by decide) ?_
    have hz := ok_some hf
    have hz : (-2) = e := hz
    subst hQ
    subst hz
    exact r_iret (pc := 12) S0 hr hlk (cnz (-2) rfl) dX11_led_12

set_option maxHeartbeats 4000000 in
set_option maxRecDepth 100000 in
theorem c_X11_shoes (l : Launch) (cA : Nat → ClassId) (D : va_G) (N : Nat) (sx : Sx) (ad : Nat → Nat) (T : Knd) (A : Rfs) (nx : Nat) (I : Mem) (w0 : Nat)  (e : Int) (h : f_X11_shoes T A w0 I = some e) : CtI l yX11_shoes cX11_shoes 1 (some .int) 2 80 cA D N sx ad T A nx [rv ad w0] I I e := by
  refine met_of (lv0 := [(0, rv ad w0)]) (by decide) (Nat.le_of_ble_eq_true rfl) rfl (fun p e0 s m args below meth c S0 hK hX hr hlk Q hQ => ?_)
  have hf : OK (f_X11_shoes T A w0 I) (fun z => z = e) := ⟨e, h, rfl⟩
  unfold f_X11_shoes at hf
  obtain ⟨hw0, hf⟩ := ok_grd hf
  refine r_aload_n (pc := 0) S0 0 dX11_shoes_0 rfl rfl ?_
  refine r_getR (pc := 1) S0 hK fl_X11_28 dX11_shoes_1 hf (fun x1 hf => ?_)
  obtain ⟨e2, h3, hf⟩ := ok_bind hf
  refine r_cV_I (pc := 4) [] S0 hK hX mv_X11_170 (k_X2_isThere h3) (c_X2_isThere l cA D N sx ad T A nx I x1 e2 h3) rfl rfl ⟨by decide, by decide⟩ (Nat.le_of_ble_eq_true rfl) ⟨Nat.le_refl _, Nat.le_refl _⟩ dX11_shoes_4 (fun c4 => ?_)
  refine r_if_eq (pc := 7) (tgt := 20) S0 dX11_shoes_7 (by decide) c4 hf (fun hf => ?_) (fun hf => ?_)
  · refine r_bipush (pc := 20) S0 dX11_shoes_20 (by decide) ?_
    have hz := ok_some hf
    have hz : (-2) = e := hz
    subst hQ
    subst hz
    exact r_iret (pc := 22) S0 hr hlk (cnz (-2) rfl) dX11_shoes_22
  · refine r_aload_n (pc := 10) S0 0 dX11_shoes_10 rfl rfl ?_
    refine r_getR (pc := 11) S0 hK fl_X11_44 dX11_shoes_11 hf (fun x5 hf => ?_)
    refine r_getI (pc := 14) S0 hK fl_X11_224 dX11_shoes_14 hf (fun x6 c7 hf => ?_)
    refine r_goto (pc := 17) (tgt := 22) S0 dX11_shoes_17 (by decide) ?_
    have hz := ok_some hf
    have hz : x6 = e := hz
    subst hQ
    subst hz
    exact r_iret (pc := 22) S0 hr hlk c7 dX11_shoes_22

set_option maxHeartbeats 4000000 in
set_option maxRecDepth 100000 in
theorem c_X11_paid (l : Launch) (cA : Nat → ClassId) (D : va_G) (N : Nat) (sx : Sx) (ad : Nat → Nat) (T : Knd) (A : Rfs) (nx : Nat) (I : Mem) (w0 : Nat)  (e : Int) (h : f_X11_paid T A w0 I = some e) : CtI l yX11_paid cX11_paid 1 (some .int) 2 80 cA D N sx ad T A nx [rv ad w0] I I e := by
  refine met_of (lv0 := [(0, rv ad w0)]) (by decide) (Nat.le_of_ble_eq_true rfl) rfl (fun p e0 s m args below meth c S0 hK hX hr hlk Q hQ => ?_)
  have hf : OK (f_X11_paid T A w0 I) (fun z => z = e) := ⟨e, h, rfl⟩
  unfold f_X11_paid at hf
  obtain ⟨hw0, hf⟩ := ok_grd hf
  refine r_aload_n (pc := 0) S0 0 dX11_paid_0 rfl rfl ?_
  refine r_getR (pc := 1) S0 hK fl_X11_28 dX11_paid_1 hf (fun x1 hf => ?_)
  obtain ⟨e2, h3, hf⟩ := ok_bind hf
  refine r_cV_I (pc := 4) [] S0 hK hX mv_X11_170 (k_X2_isThere h3) (c_X2_isThere l cA D N sx ad T A nx I x1 e2 h3) rfl rfl ⟨by decide, by decide⟩ (Nat.le_of_ble_eq_true rfl) ⟨Nat.le_refl _, Nat.le_refl _⟩ dX11_paid_4 (fun c4 => ?_)
  refine r_if_eq (pc := 7) (tgt := 20) S0 dX11_paid_7 (by decide) c4 hf (fun hf => ?_) (fun hf => ?_)
  · refine r_bipush (pc := 20) S0 dX11_paid_20 (by decide) ?_
    have hz := ok_some hf
    have hz : (-2) = e := hz
    subst hQ
    subst hz
    exact r_iret (pc := 22) S0 hr hlk (cnz (-2) rfl) dX11_paid_22
  · refine r_aload_n (pc := 10) S0 0 dX11_paid_10 rfl rfl ?_
    refine r_getR (pc := 11) S0 hK fl_X11_44 dX11_paid_11 hf (fun x5 hf => ?_)
    refine r_getI (pc := 14) S0 hK fl_X11_227 dX11_paid_14 hf (fun x6 c7 hf => ?_)
    refine r_goto (pc := 17) (tgt := 22) S0 dX11_paid_17 (by decide) ?_
    have hz := ok_some hf
    have hz : x6 = e := hz
    subst hQ
    subst hz
    exact r_iret (pc := 22) S0 hr hlk c7 dX11_paid_22

set_option maxHeartbeats 4000000 in
set_option maxRecDepth 100000 in
theorem c_X10_missing (l : Launch) (cA : Nat → ClassId) (D : va_G) (N : Nat) (sx : Sx) (ad : Nat → Nat) (T : Knd) (A : Rfs) (nx : Nat) (I : Mem) (w0 : Nat)  (e : Int) (h : f_X10_missing T A w0 I = some e) : CtI l yX10_missing cX10_missing 1 (some .int) 2 82 cA D N sx ad T A nx [rv ad w0] I I e := by
  refine met_of (lv0 := [(0, rv ad w0)]) (by decide) (Nat.le_of_ble_eq_true rfl) rfl (fun p e0 s m args below meth c S0 hK hX hr hlk Q hQ => ?_)
  have hf : OK (f_X10_missing T A w0 I) (fun z => z = e) := ⟨e, h, rfl⟩
  unfold f_X10_missing at hf
  obtain ⟨hw0, hf⟩ := ok_grd hf
  refine r_aload_n (pc := 0) S0 0 dX10_missing_0 rfl rfl ?_
  refine r_getR (pc := 1) S0 hK fl_X10_15 dX10_missing_1 hf (fun x1 hf => ?_)
  refine r_getI (pc := 4) S0 hK fl_X10_57 dX10_missing_4 hf (fun x2 c3 hf => ?_)
  refine r_aload_n (pc := 7) S0 0 dX10_missing_7 rfl rfl ?_
  obtain ⟨e4, h5, hf⟩ := ok_bind hf
  refine r_cV_I (pc := 8) [] S0 hK hX mv_X10_60 (k_X10_holding h5) (c_X10_holding l cA D N sx ad T A nx I w0 e4 h5) rfl rfl ⟨by decide, by decide⟩ (Nat.le_of_ble_eq_true rfl) ⟨Nat.le_refl _, Nat.le_refl _⟩ dX10_missing_8 (fun c6 => ?_)
  refine r_iconst (pc := 11) S0 dX10_missing_11 ?_
  refine r_ixor (pc := 12) S0 dX10_missing_12 ?_
  refine r_iand (pc := 13) S0 dX10_missing_13 ?_
  have hz := ok_some hf
  have hz : (iand x2 (ixor e4 (-1))) = e := hz
  subst hQ
  subst hz
  exact r_iret (pc := 14) S0 hr hlk (cn_toInt _) dX10_missing_14

set_option maxHeartbeats 4000000 in
set_option maxRecDepth 100000 in
theorem c_X11_done (l : Launch) (cA : Nat → ClassId) (D : va_G) (N : Nat) (sx : Sx) (ad : Nat → Nat) (T : Knd) (A : Rfs) (nx : Nat) (I : Mem) (w0 : Nat)  (e : Int) (h : f_X11_done T A w0 I = some e) : CtI l yX11_done cX11_done 1 (some .int) 3 102 cA D N sx ad T A nx [rv ad w0] I I e := by
  refine met_of (lv0 := [(0, rv ad w0)]) (by decide) (Nat.le_of_ble_eq_true rfl) rfl (fun p e0 s m args below meth c S0 hK hX hr hlk Q hQ => ?_)
  have hf : OK (f_X11_done T A w0 I) (fun z => z = e) := ⟨e, h, rfl⟩
  unfold f_X11_done at hf
  obtain ⟨hw0, hf⟩ := ok_grd hf
  refine r_aload_n (pc := 0) S0 0 dX11_done_0 rfl rfl ?_
  refine r_getR (pc := 1) S0 hK fl_X11_28 dX11_done_1 hf (fun x1 hf => ?_)
  obtain ⟨e2, h3, hf⟩ := ok_bind hf
  refine r_cV_I (pc := 4) [] S0 hK hX mv_X11_170 (k_X2_isThere h3) (c_X2_isThere l cA D N sx ad T A nx I x1 e2 h3) rfl rfl ⟨by decide, by decide⟩ (Nat.le_of_ble_eq_true rfl) ⟨Nat.le_refl _, Nat.le_refl _⟩ dX11_done_4 (fun c4 => ?_)
  refine r_if_ne (pc := 7) (tgt := 13) S0 dX11_done_7 (by decide) c4 hf (fun hf => ?_) (fun hf => ?_)
  · refine r_aload_n (pc := 13) S0 0 dX11_done_13 rfl rfl ?_
    refine r_getR (pc := 14) S0 hK fl_X11_44 dX11_done_14 hf (fun x5 hf => ?_)
    obtain ⟨e6, h7, hf⟩ := ok_bind hf
    refine r_cV_I (pc := 17) [] S0 hK hX mv_X11_230 (k_X10_missing h7) (c_X10_missing l cA D N sx ad T A nx I x5 e6 h7) rfl rfl ⟨by decide, by decide⟩ (Nat.le_of_ble_eq_true rfl) ⟨Nat.le_refl _, Nat.le_refl _⟩ dX11_done_17 (fun c8 => ?_)
    refine r_if_ne (pc := 20) (tgt := 27) S0 dX11_done_20 (by decide) c8 hf (fun hf => ?_) (fun hf => ?_)
    · refine r_iconst (pc := 27) S0 dX11_done_27 ?_
      have hz := ok_some hf
      have hz : 0 = e := hz
      subst hQ
      subst hz
      exact r_iret (pc := 28) S0 hr hlk (cnz 0 rfl) dX11_done_28
    · refine r_iconst (pc := 23) S0 dX11_done_23 ?_
      refine r_goto (pc := 24) (tgt := 28) S0 dX11_done_24 (by decide) ?_
      have hz := ok_some hf
      have hz : 1 = e := hz
      subst hQ
      subst hz
      exact r_iret (pc := 28) S0 hr hlk (cnz 1 rfl) dX11_done_28
  · refine r_bipush (pc := 10) S0 dX11_done_10 (by decide) ?_
    have hz := ok_some hf
    have hz : (-2) = e := hz
    subst hQ
    subst hz
    exact r_iret (pc := 12) S0 hr hlk (cnz (-2) rfl) dX11_done_12

set_option maxHeartbeats 4000000 in
set_option maxRecDepth 100000 in
theorem c_X10_joins (l : Launch) (cA : Nat → ClassId) (D : va_G) (N : Nat) (sx : Sx) (ad : Nat → Nat) (T : Knd) (A : Rfs) (nx : Nat) (I : Mem) (w0 : Nat) (w1 : Nat)  (e : Mem) (h : f_X10_joins T A w0 w1 I = some e) : CtV l yX10_joins cX10_joins 2 none 1 60 cA D N sx ad T A nx [rv ad w0, rv ad w1] I e := by
  refine met_of (lv0 := [(0, rv ad w0), (1, rv ad w1)]) (by decide) (Nat.le_of_ble_eq_true rfl) rfl (fun p e0 s m args below meth c S0 hK hX hr hlk Q hQ => ?_)
  have hf : OK (f_X10_joins T A w0 w1 I) (fun z => z = e) := ⟨e, h, rfl⟩
  unfold f_X10_joins at hf
  obtain ⟨hw0, hf⟩ := ok_grd hf
  refine r_aload_n (pc := 0) S0 0 dX10_joins_0 rfl rfl ?_
  refine r_aload_n (pc := 1) S0 1 dX10_joins_1 rfl rfl ?_
  refine r_getI (pc := 2) S0 hK fl_X10_29 dX10_joins_2 hf (fun x1 c2 hf => ?_)
  refine r_putI (pc := 5) S0 hK fl_X10_29 rfl rfl c2 dX10_joins_5 hf (fun I3 hf => ?_)
  refine r_aload_n (pc := 8) S0 0 dX10_joins_8 rfl rfl ?_
  refine r_aload_n (pc := 9) S0 1 dX10_joins_9 rfl rfl ?_
  refine r_getI (pc := 10) S0 hK fl_X10_38 dX10_joins_10 hf (fun x4 c5 hf => ?_)
  refine r_putI (pc := 13) S0 hK fl_X10_38 rfl rfl c5 dX10_joins_13 hf (fun I6 hf => ?_)
  refine r_aload_n (pc := 16) S0 0 dX10_joins_16 rfl rfl ?_
  refine r_iconst (pc := 17) S0 dX10_joins_17 ?_
  refine r_putI (pc := 18) S0 hK fl_X10_41 rfl rfl (cnz 0 rfl) dX10_joins_18 hf (fun I7 hf => ?_)
  refine r_aload_n (pc := 21) S0 0 dX10_joins_21 rfl rfl ?_
  refine r_iconst (pc := 22) S0 dX10_joins_22 ?_
  refine r_putI (pc := 23) S0 hK fl_X10_44 rfl rfl (cnz 0 rfl) dX10_joins_23 hf (fun I8 hf => ?_)
  refine r_aload_n (pc := 26) S0 1 dX10_joins_26 rfl rfl ?_
  refine r_getR (pc := 27) S0 hK fl_X10_9 dX10_joins_27 hf (fun x9 hf => ?_)
  refine r_iconst (pc := 30) S0 dX10_joins_30 ?_
  refine r_aload_n (pc := 31) S0 0 dX10_joins_31 rfl rfl ?_
  refine r_getR (pc := 32) S0 hK fl_X10_9 dX10_joins_32 hf (fun x10 hf => ?_)
  refine r_iconst (pc := 35) S0 dX10_joins_35 ?_
  refine r_bipush (pc := 36) S0 dX10_joins_36 (by decide) ?_
  refine r_acpi (pc := 38) S0 hK ma_X10_47 dX10_joins_38 (cnz 0 rfl) (cnz 0 rfl) (cnz 8 rfl) ⟨Nat.le_of_ble_eq_true rfl, Nat.le_of_ble_eq_true rfl⟩ hf (fun I11 hf => ?_)
  have hz := ok_some hf
  have hz : I11 = e := hz
  subst hQ
  subst hz
  exact r_vret (pc := 41) S0 hr hlk dX10_joins_41

set_option maxHeartbeats 4000000 in
set_option maxRecDepth 100000 in
theorem c_X5_obtainable (l : Launch) (cA : Nat → ClassId) (D : va_G) (N : Nat) (sx : Sx) (ad : Nat → Nat) (T : Knd) (A : Rfs) (nx : Nat) (I : Mem) (w0 : Nat)  (e : Int) (h : f_X5_obtainable T A w0 I = some e) : CtI l yX5_obtainable cX5_obtainable 6 (some .int) 3 104 cA D N sx ad T A nx [rv ad w0] I I e := by
  refine met_of (lv0 := [(0, rv ad w0)]) (by decide) (Nat.le_of_ble_eq_true rfl) rfl (fun p e0 s m args below meth c S0 hK hX hr hlk Q hQ => ?_)
  have hf : OK (f_X5_obtainable T A w0 I) (fun z => z = e) := ⟨e, h, rfl⟩
  unfold f_X5_obtainable at hf
  obtain ⟨hw0, hf⟩ := ok_grd hf
  refine r_aload_n (pc := 0) S0 0 dX5_obtainable_0 rfl rfl ?_
  refine r_getI (pc := 1) S0 hK fl_X5_49 dX5_obtainable_1 hf (fun x1 c2 hf => ?_)
  refine r_istore_n (pc := 4) (lv' := [(1, iv x1), (0, rv ad w0)]) S0 dX5_obtainable_4 rfl (by decide) rfl ?_
  refine r_iconst (pc := 5) S0 dX5_obtainable_5 ?_
  refine r_istore_n (pc := 6) (lv' := [(2, iv 0), (1, iv x1), (0, rv ad w0)]) S0 dX5_obtainable_6 rfl (by decide) rfl ?_
  refine r_lv [2, 1, 0] rfl ?_
  refine it_ind (P := fun s4 => cn s4.1 → cn s4.2 → G p l e0 (rmx 3 104) s m args below meth c 0 0 Q cA D N 6 ad T A nx 7 [(0, rv ad w0), (1, iv s4.1), (2, iv s4.2)] [] I) (fun n0 s4 ih3 hf c5 c6 => ?_) FU (x1, 0) hf c2 (cnz 0 rfl)
  refine r_iload_n (pc := 7) S0 2 dX5_obtainable_7 rfl rfl ?_
  refine r_bipush (pc := 8) S0 dX5_obtainable_8 (by decide) ?_
  refine r_icmp_ge (pc := 10) (tgt := 114) S0 dX5_obtainable_10 (by decide) c6 (cnz 8 rfl) hf (fun hf => ?_) (fun hf => ?_)
  · refine r_iload_n (pc := 114) S0 1 dX5_obtainable_114 rfl rfl ?_
    have hz := ok_some hf
    have hz : s4.1 = e := hz
    subst hQ
    subst hz
    exact r_iret (pc := 115) S0 hr hlk c5 dX5_obtainable_115
  · refine r_iconst (pc := 13) S0 dX5_obtainable_13 ?_
    refine r_istore_n (pc := 14) (lv' := [(3, iv 0), (0, rv ad w0), (1, iv s4.1), (2, iv s4.2)]) S0 dX5_obtainable_14 rfl (by decide) rfl ?_
    refine r_lv [1, 2, 3, 0] rfl ?_
    refine it_ind (P := fun s8 => cn s8.1 → cn s8.2 → G p l e0 (rmx 3 104) s m args below meth c 0 0 Q cA D N 6 ad T A nx 15 [(0, rv ad w0), (1, iv s8.1), (2, iv s4.2), (3, iv s8.2)] [] I) (fun n0 s8 ih7 hf c9 c10 => ?_) FU (s4.1, 0) hf c5 (cnz 0 rfl)
    refine r_iload_n (pc := 15) S0 3 dX5_obtainable_15 rfl rfl ?_
    refine r_aload_n (pc := 16) S0 0 dX5_obtainable_16 rfl rfl ?_
    refine r_getR (pc := 17) S0 hK fl_X5_29 dX5_obtainable_17 hf (fun x11 hf => ?_)
    refine r_getR (pc := 20) S0 hK fl_X5_68 dX5_obtainable_20 hf (fun x12 hf => ?_)
    refine r_getI (pc := 23) S0 hK fl_X5_95 dX5_obtainable_23 hf (fun x13 c14 hf => ?_)
    refine r_icmp_ge (pc := 26) (tgt := 108) S0 dX5_obtainable_26 (by decide) c10 c14 hf (fun hf => ?_) (fun hf => ?_)
    · refine r_iinc (pc := 108) (lv' := [(2, iv (ia s4.2 1)), (0, rv ad w0), (1, iv s8.1), (3, iv s8.2)]) S0 2 dX5_obtainable_108 rfl (by decide) rfl ?_
      refine r_goto (pc := 111) (tgt := 7) S0 dX5_obtainable_111 (by decide) ?_
      have hz := ok_some hf
      refine r_lv [1, 2, 0] rfl ?_
      exact ih3 (s8.1, ia s4.2 1) hz c9 (cn_wrap _)
    · refine r_aload_n (pc := 29) S0 0 dX5_obtainable_29 rfl rfl ?_
      refine r_getR (pc := 30) S0 hK fl_X5_29 dX5_obtainable_30 hf (fun x15 hf => ?_)
      refine r_iload_n (pc := 33) S0 3 dX5_obtainable_33 rfl rfl ?_
      obtain ⟨e16, h17, hf⟩ := ok_bind hf
      refine r_cV_I (pc := 34) [iv s8.2] S0 hK hX mv_X5_98 (k_X10_arrival h17) (c_X10_arrival l cA D N sx ad T A nx I x15 s8.2 c10 e16 h17) rfl rfl ⟨by decide, by decide⟩ (Nat.le_of_ble_eq_true rfl) ⟨Nat.le_refl _, Nat.le_refl _⟩ dX5_obtainable_34 (fun c18 => ?_)
      refine r_istore (pc := 37) (lv' := [(4, iv e16), (0, rv ad w0), (1, iv s8.1), (2, iv s4.2), (3, iv s8.2)]) S0 dX5_obtainable_37 (by decide) rfl ?_
      refine r_iload (pc := 39) S0 0 dX5_obtainable_39 rfl ?_
      refine r_iconst (pc := 41) S0 dX5_obtainable_41 ?_
      refine thn_rule (P := fun v20 => cn v20 → G p l e0 (rmx 3 104) s m args below meth c 0 0 Q cA D N 6 ad T A nx 67 [(0, rv ad w0), (1, iv s8.1), (2, iv s4.2), (3, iv s8.2)] [iv v20] I) hf (fun v20 hf c21 => ?_) (fun K19 hf => ?_)
      · refine r_istore (pc := 67) (lv' := [(5, iv v20), (0, rv ad w0), (1, iv s8.1), (2, iv s4.2), (3, iv s8.2)]) S0 dX5_obtainable_67 (by decide) rfl ?_
        refine r_iload (pc := 69) S0 0 dX5_obtainable_69 rfl ?_
        refine r_if_eq (pc := 71) (tgt := 102) S0 dX5_obtainable_71 (by decide) c21 hf (fun hf => ?_) (fun hf => ?_)
        · refine r_iinc (pc := 102) (lv' := [(3, iv (ia s8.2 1)), (5, iv v20), (0, rv ad w0), (1, iv s8.1), (2, iv s4.2)]) S0 4 dX5_obtainable_102 rfl (by decide) rfl ?_
          refine r_goto (pc := 105) (tgt := 15) S0 dX5_obtainable_105 (by decide) ?_
          have hz := ok_some hf
          refine r_lv [2, 3, 4, 0] rfl ?_
          exact ih7 (s8.1, ia s8.2 1) hz c9 (cn_wrap _)
        · refine r_aload_n (pc := 74) S0 1 dX5_obtainable_74 rfl rfl ?_
          refine r_getR (pc := 75) S0 hK fl_X5_29 dX5_obtainable_75 hf (fun x29 hf => ?_)
          refine r_getR (pc := 78) S0 hK fl_X5_68 dX5_obtainable_78 hf (fun x30 hf => ?_)
          refine r_getR (pc := 81) S0 hK fl_X5_111 dX5_obtainable_81 hf (fun x31 hf => ?_)
          refine r_bipush (pc := 84) S0 dX5_obtainable_84 (by decide) ?_
          refine r_aald 24 4 (pc := 86) S0 hK (by decide) rfl rfl dX5_obtainable_86 (cnz 9 rfl) hf (fun x32 hf => ?_)
          refine r_iload_n (pc := 87) S0 4 dX5_obtainable_87 rfl rfl ?_
          refine r_iald (pc := 88) S0 hK dX5_obtainable_88 c10 hf (fun x33 c34 hf => ?_)
          refine r_iload_n (pc := 89) S0 2 dX5_obtainable_89 rfl rfl ?_
          refine r_iconst (pc := 90) S0 dX5_obtainable_90 ?_
          refine r_ixor (pc := 91) S0 dX5_obtainable_91 ?_
          refine r_iand (pc := 92) S0 dX5_obtainable_92 ?_
          refine r_if_ne (pc := 93) (tgt := 102) S0 dX5_obtainable_93 (by decide) (cn_toInt _) hf (fun hf => ?_) (fun hf => ?_)
          · refine r_iinc (pc := 102) (lv' := [(3, iv (ia s8.2 1)), (5, iv v20), (0, rv ad w0), (1, iv s8.1), (2, iv s4.2)]) S0 4 dX5_obtainable_102 rfl (by decide) rfl ?_
            refine r_goto (pc := 105) (tgt := 15) S0 dX5_obtainable_105 (by decide) ?_
            have hz := ok_some hf
            refine r_lv [2, 3, 4, 0] rfl ?_
            exact ih7 (s8.1, ia s8.2 1) hz c9 (cn_wrap _)
          · refine r_iload_n (pc := 96) S0 2 dX5_obtainable_96 rfl rfl ?_
            refine r_iconst (pc := 97) S0 dX5_obtainable_97 ?_
            refine r_iload_n (pc := 98) S0 4 dX5_obtainable_98 rfl rfl ?_
            refine r_ishl (pc := 99) S0 dX5_obtainable_99 ?_
            refine r_ior (pc := 100) S0 dX5_obtainable_100 ?_
            refine r_istore_n (pc := 101) (lv' := [(1, iv (ior s8.1 (ishl 1 s8.2))), (5, iv v20), (0, rv ad w0), (2, iv s4.2), (3, iv s8.2)]) S0 dX5_obtainable_101 rfl (by decide) rfl ?_
            refine r_iinc (pc := 102) (lv' := [(3, iv (ia s8.2 1)), (1, iv (ior s8.1 (ishl 1 s8.2))), (5, iv v20), (0, rv ad w0), (2, iv s4.2)]) S0 4 dX5_obtainable_102 rfl (by decide) rfl ?_
            refine r_goto (pc := 105) (tgt := 15) S0 dX5_obtainable_105 (by decide) ?_
            have hz := ok_some hf
            refine r_lv [3, 1, 4, 0] rfl ?_
            exact ih7 (ior s8.1 (ishl 1 s8.2), ia s8.2 1) hz (cn_toInt _) (cn_wrap _)
      · refine thn_rule (P := fun v23 => G p l e0 (rmx 3 104) s m args below meth c 0 0 Q cA D N 6 ad T A nx 66 [(0, rv ad w0), (1, iv s8.1), (2, iv s4.2), (3, iv s8.2)] [] I) hf (fun v23 hf => ?_) (fun K22 hf => ?_)
        · refine r_iconst (pc := 66) S0 dX5_obtainable_66 ?_
          have hz := ok_some hf
          refine r_lv [0, 1, 2, 3] rfl ?_
          exact K19 0 hz (cnz 0 rfl)
        · refine r_icmp_eq (pc := 42) (tgt := 66) S0 dX5_obtainable_42 (by decide) c18 (cnz (-1) rfl) hf (fun hf => ?_) (fun hf => ?_)
          · have hz := ok_some hf
            refine r_lv [1, 2, 3, 4] rfl ?_
            exact K22 () hz
          · refine r_aload_n (pc := 45) S0 1 dX5_obtainable_45 rfl rfl ?_
            refine r_getR (pc := 46) S0 hK fl_X5_29 dX5_obtainable_46 hf (fun x24 hf => ?_)
            refine r_getR (pc := 49) S0 hK fl_X5_101 dX5_obtainable_49 hf (fun x25 hf => ?_)
            refine r_iload_n (pc := 52) S0 4 dX5_obtainable_52 rfl rfl ?_
            refine r_iload (pc := 53) S0 0 dX5_obtainable_53 rfl ?_
            obtain ⟨e26, h27, hf⟩ := ok_bind hf
            refine r_cV_I (pc := 55) [iv s8.2, iv e16] S0 hK hX mv_X5_105 (k_X9_firstOpen h27) (c_X9_firstOpen l cA D N sx ad T A nx I x25 s8.2 e16 c10 c18 e26 h27) rfl rfl ⟨by decide, by decide⟩ (Nat.le_of_ble_eq_true rfl) ⟨Nat.le_refl _, Nat.le_refl _⟩ dX5_obtainable_55 (fun c28 => ?_)
            refine r_iconst (pc := 58) S0 dX5_obtainable_58 ?_
            refine r_icmp_eq (pc := 59) (tgt := 66) S0 dX5_obtainable_59 (by decide) c28 (cnz (-1) rfl) hf (fun hf => ?_) (fun hf => ?_)
            · have hz := ok_some hf
              refine r_lv [1, 2, 3, 4] rfl ?_
              exact K22 () hz
            · refine r_iconst (pc := 62) S0 dX5_obtainable_62 ?_
              refine r_goto (pc := 63) (tgt := 67) S0 dX5_obtainable_63 (by decide) ?_
              have hz := ok_some hf
              refine r_lv [1, 2, 3, 4] rfl ?_
              exact K19 1 hz (cnz 1 rfl)
