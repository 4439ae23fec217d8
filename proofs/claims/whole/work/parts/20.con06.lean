/-! Contracts, laid by wip/gen/gen.py. -/
set_option maxHeartbeats 4000000 in
set_option maxRecDepth 100000 in
theorem c_X6_howMany (l : Launch) (cA : Nat → ClassId) (D : va_G) (N : Nat) (sx : Sx) (ad : Nat → Nat) (T : Knd) (A : Rfs) (nx : Nat) (I : Mem) (w0 : Nat)  (e : Int) (h : f_X6_howMany T A w0 I = some e) : CtI l yX6_howMany cX6_howMany 3 (some .int) 1 60 cA D N sx ad T A nx [rv ad w0] I I e := by
  refine met_of (lv0 := [(0, rv ad w0)]) (by decide) (Nat.le_of_ble_eq_true rfl) rfl (fun p e0 s m args below meth c S0 hK hX hr hlk Q hQ => ?_)
  have hf : OK (f_X6_howMany T A w0 I) (fun z => z = e) := ⟨e, h, rfl⟩
  unfold f_X6_howMany at hf
  obtain ⟨hw0, hf⟩ := ok_grd hf
  refine r_iconst (pc := 0) S0 dX6_howMany_0 ?_
  refine r_istore_n (pc := 1) (lv' := [(1, iv 0), (0, rv ad w0)]) S0 dX6_howMany_1 rfl (by decide) rfl ?_
  refine r_iconst (pc := 2) S0 dX6_howMany_2 ?_
  refine r_istore_n (pc := 3) (lv' := [(2, iv 0), (1, iv 0), (0, rv ad w0)]) S0 dX6_howMany_3 rfl (by decide) rfl ?_
  refine r_lv [2, 1, 0] rfl ?_
  refine it_ind (P := fun s2 => cn s2.1 → cn s2.2 → G p l e0 (rmx 1 60) s m args below meth c 0 0 Q cA D N 3 ad T A nx 4 [(0, rv ad w0), (1, iv s2.1), (2, iv s2.2)] [] I) (fun n0 s2 ih1 hf c3 c4 => ?_) FU (0, 0) hf (cnz 0 rfl) (cnz 0 rfl)
  refine r_iload_n (pc := 4) S0 2 dX6_howMany_4 rfl rfl ?_
  refine r_aload_n (pc := 5) S0 0 dX6_howMany_5 rfl rfl ?_
  refine r_getI (pc := 6) S0 hK fl_X6_41 dX6_howMany_6 hf (fun x5 c6 hf => ?_)
  refine r_icmp_ge (pc := 9) (tgt := 32) S0 dX6_howMany_9 (by decide) c4 c6 hf (fun hf => ?_) (fun hf => ?_)
  · refine r_iload_n (pc := 32) S0 1 dX6_howMany_32 rfl rfl ?_
    have hz := ok_some hf
    have hz : s2.1 = e := hz
    subst hQ
    subst hz
    exact r_iret (pc := 33) S0 hr hlk c3 dX6_howMany_33
  · refine r_aload_n (pc := 12) S0 0 dX6_howMany_12 rfl rfl ?_
    refine r_getR (pc := 13) S0 hK fl_X6_18 dX6_howMany_13 hf (fun x7 hf => ?_)
    refine r_iload_n (pc := 16) S0 2 dX6_howMany_16 rfl rfl ?_
    refine r_lald (pc := 17) S0 hK dX6_howMany_17 c4 hf (fun x8 c9 hf => ?_)
    refine r_lconst (pc := 18) (v := 0) S0 dX6_howMany_18 rfl ?_
    refine r_lcmp (pc := 19) S0 dX6_howMany_19 c9 (clz 0 rfl) ?_
    refine r_if_le (pc := 20) (tgt := 26) S0 dX6_howMany_20 (by decide) (cn_lcmp _ _) hf (fun hf => ?_) (fun hf => ?_)
    · refine r_iinc (pc := 26) (lv' := [(2, iv (ia s2.2 1)), (0, rv ad w0), (1, iv s2.1)]) S0 2 dX6_howMany_26 rfl (by decide) rfl ?_
      refine r_goto (pc := 29) (tgt := 4) S0 dX6_howMany_29 (by decide) ?_
      have hz := ok_some hf
      refine r_lv [1, 2, 0] rfl ?_
      exact ih1 (s2.1, ia s2.2 1) hz c3 (cn_wrap _)
    · refine r_iinc (pc := 23) (lv' := [(1, iv (ia s2.1 1)), (0, rv ad w0), (2, iv s2.2)]) S0 1 dX6_howMany_23 rfl (by decide) rfl ?_
      refine r_iinc (pc := 26) (lv' := [(2, iv (ia s2.2 1)), (1, iv (ia s2.1 1)), (0, rv ad w0)]) S0 2 dX6_howMany_26 rfl (by decide) rfl ?_
      refine r_goto (pc := 29) (tgt := 4) S0 dX6_howMany_29 (by decide) ?_
      have hz := ok_some hf
      refine r_lv [2, 1, 0] rfl ?_
      exact ih1 (ia s2.1 1, ia s2.2 1) hz (cn_wrap _) (cn_wrap _)

set_option maxHeartbeats 4000000 in
set_option maxRecDepth 100000 in
theorem c_X11_sets (l : Launch) (cA : Nat → ClassId) (D : va_G) (N : Nat) (sx : Sx) (ad : Nat → Nat) (T : Knd) (A : Rfs) (nx : Nat) (I : Mem) (w0 : Nat)  (e : (Int × Mem)) (h : f_X11_sets T A w0 I = some e) : CtI l yX11_sets cX11_sets 1 (some .int) 4 126 cA D N sx ad T A nx [rv ad w0] I e.2 e.1 := by
  refine met_of (lv0 := [(0, rv ad w0)]) (by decide) (Nat.le_of_ble_eq_true rfl) rfl (fun p e0 s m args below meth c S0 hK hX hr hlk Q hQ => ?_)
  have hf : OK (f_X11_sets T A w0 I) (fun z => z = e) := ⟨e, h, rfl⟩
  unfold f_X11_sets at hf
  obtain ⟨hw0, hf⟩ := ok_grd hf
  refine r_aload_n (pc := 0) S0 0 dX11_sets_0 rfl rfl ?_
  refine r_getR (pc := 1) S0 hK fl_X11_28 dX11_sets_1 hf (fun x1 hf => ?_)
  obtain ⟨e2, h3, hf⟩ := ok_bind hf
  refine r_cV_I (pc := 4) [] S0 hK hX mv_X11_170 (k_X2_isThere h3) (c_X2_isThere l cA D N sx ad T A nx I x1 e2 h3) rfl rfl ⟨by decide, by decide⟩ (Nat.le_of_ble_eq_true rfl) ⟨Nat.le_refl _, Nat.le_refl _⟩ dX11_sets_4 (fun c4 => ?_)
  refine r_if_eq (pc := 7) (tgt := 20) S0 dX11_sets_7 (by decide) c4 hf (fun hf => ?_) (fun hf => ?_)
  · refine r_bipush (pc := 20) S0 dX11_sets_20 (by decide) ?_
    have hz := ok_some hf
    have hz : ((-2), I) = e := hz
    subst hQ
    subst hz
    exact r_iret (pc := 22) S0 hr hlk (cnz (-2) rfl) dX11_sets_22
  · refine r_aload_n (pc := 10) S0 0 dX11_sets_10 rfl rfl ?_
    obtain ⟨e5, h6, hf⟩ := ok_bind hf
    refine r_cV_R (pc := 11) [] S0 hK hX mv_X11_283 (k_X11_knownSets h6) (c_X11_knownSets l cA D N sx ad T A nx I w0 e5 h6) rfl rfl ⟨by decide, by decide⟩ (Nat.le_of_ble_eq_true rfl) ⟨Nat.le_refl _, Nat.le_refl _⟩ dX11_sets_11 ?_
    obtain ⟨e7, h8, hf⟩ := ok_bind hf
    refine r_cV_I (pc := 14) [] S0 hK hX mv_X11_291 (k_X6_howMany h8) (c_X6_howMany l cA D N sx ad T A nx e5.2 e5.1 e7 h8) rfl rfl ⟨by decide, by decide⟩ (Nat.le_of_ble_eq_true rfl) ⟨Nat.le_refl _, Nat.le_refl _⟩ dX11_sets_14 (fun c9 => ?_)
    refine r_goto (pc := 17) (tgt := 22) S0 dX11_sets_17 (by decide) ?_
    have hz := ok_some hf
    have hz : (e7, e5.2) = e := hz
    subst hQ
    subst hz
    exact r_iret (pc := 22) S0 hr hlk c9 dX11_sets_22

set_option maxHeartbeats 4000000 in
set_option maxRecDepth 100000 in
theorem c_X6_outsiders (l : Launch) (cA : Nat → ClassId) (D : va_G) (N : Nat) (sx : Sx) (ad : Nat → Nat) (T : Knd) (A : Rfs) (nx : Nat) (I : Mem) (w0 : Nat)  (e : Int) (h : f_X6_outsiders T A w0 I = some e) : CtI l yX6_outsiders cX6_outsiders 3 (some .int) 1 60 cA D N sx ad T A nx [rv ad w0] I I e := by
  refine met_of (lv0 := [(0, rv ad w0)]) (by decide) (Nat.le_of_ble_eq_true rfl) rfl (fun p e0 s m args below meth c S0 hK hX hr hlk Q hQ => ?_)
  have hf : OK (f_X6_outsiders T A w0 I) (fun z => z = e) := ⟨e, h, rfl⟩
  unfold f_X6_outsiders at hf
  obtain ⟨hw0, hf⟩ := ok_grd hf
  refine r_iconst (pc := 0) S0 dX6_outsiders_0 ?_
  refine r_istore_n (pc := 1) (lv' := [(1, iv 0), (0, rv ad w0)]) S0 dX6_outsiders_1 rfl (by decide) rfl ?_
  refine r_iconst (pc := 2) S0 dX6_outsiders_2 ?_
  refine r_istore_n (pc := 3) (lv' := [(2, iv 0), (1, iv 0), (0, rv ad w0)]) S0 dX6_outsiders_3 rfl (by decide) rfl ?_
  refine thn_rule (P := fun v2 => cn v2 → G p l e0 (rmx 1 60) s m args below meth c 0 0 Q cA D N 3 ad T A nx 33 [(0, rv ad w0), (1, iv v2)] [] I) hf (fun v2 hf c3 => ?_) (fun K1 hf => ?_)
  · refine r_aload_n (pc := 33) S0 0 dX6_outsiders_33 rfl rfl ?_
    refine r_getI (pc := 34) S0 hK fl_X6_41 dX6_outsiders_34 hf (fun x13 c14 hf => ?_)
    refine r_iconst (pc := 37) S0 dX6_outsiders_37 ?_
    refine r_isub (pc := 38) S0 dX6_outsiders_38 ?_
    refine r_iload_n (pc := 39) S0 1 dX6_outsiders_39 rfl rfl ?_
    refine r_iconst (pc := 40) S0 dX6_outsiders_40 ?_
    refine r_ixor (pc := 41) S0 dX6_outsiders_41 ?_
    refine r_iand (pc := 42) S0 dX6_outsiders_42 ?_
    have hz := ok_some hf
    have hz : (iand (isb x13 1) (ixor v2 (-1))) = e := hz
    subst hQ
    subst hz
    exact r_iret (pc := 43) S0 hr hlk (cn_toInt _) dX6_outsiders_43
  · refine r_lv [2, 1, 0] rfl ?_
    refine it_ind (P := fun s5 => cn s5.1 → cn s5.2 → G p l e0 (rmx 1 60) s m args below meth c 0 0 Q cA D N 3 ad T A nx 4 [(0, rv ad w0), (1, iv s5.1), (2, iv s5.2)] [] I) (fun n0 s5 ih4 hf c6 c7 => ?_) FU (0, 0) hf (cnz 0 rfl) (cnz 0 rfl)
    refine r_iload_n (pc := 4) S0 2 dX6_outsiders_4 rfl rfl ?_
    refine r_aload_n (pc := 5) S0 0 dX6_outsiders_5 rfl rfl ?_
    refine r_getI (pc := 6) S0 hK fl_X6_41 dX6_outsiders_6 hf (fun x8 c9 hf => ?_)
    refine r_icmp_ge (pc := 9) (tgt := 33) S0 dX6_outsiders_9 (by decide) c7 c9 hf (fun hf => ?_) (fun hf => ?_)
    · have hz := ok_some hf
      refine r_lv [0, 1] rfl ?_
      exact K1 s5.1 hz c6
    · refine r_aload_n (pc := 12) S0 0 dX6_outsiders_12 rfl rfl ?_
      refine r_getR (pc := 13) S0 hK fl_X6_18 dX6_outsiders_13 hf (fun x10 hf => ?_)
      refine r_iload_n (pc := 16) S0 2 dX6_outsiders_16 rfl rfl ?_
      refine r_lald (pc := 17) S0 hK dX6_outsiders_17 c7 hf (fun x11 c12 hf => ?_)
      refine r_lconst (pc := 18) (v := 0) S0 dX6_outsiders_18 rfl ?_
      refine r_lcmp (pc := 19) S0 dX6_outsiders_19 c12 (clz 0 rfl) ?_
      refine r_if_le (pc := 20) (tgt := 27) S0 dX6_outsiders_20 (by decide) (cn_lcmp _ _) hf (fun hf => ?_) (fun hf => ?_)
      · refine r_iinc (pc := 27) (lv' := [(2, iv (ia s5.2 1)), (0, rv ad w0), (1, iv s5.1)]) S0 2 dX6_outsiders_27 rfl (by decide) rfl ?_
        refine r_goto (pc := 30) (tgt := 4) S0 dX6_outsiders_30 (by decide) ?_
        have hz := ok_some hf
        refine r_lv [1, 2, 0] rfl ?_
        exact ih4 (s5.1, ia s5.2 1) hz c6 (cn_wrap _)
      · refine r_iload_n (pc := 23) S0 1 dX6_outsiders_23 rfl rfl ?_
        refine r_iload_n (pc := 24) S0 2 dX6_outsiders_24 rfl rfl ?_
        refine r_ior (pc := 25) S0 dX6_outsiders_25 ?_
        refine r_istore_n (pc := 26) (lv' := [(1, iv (ior s5.1 s5.2)), (0, rv ad w0), (2, iv s5.2)]) S0 dX6_outsiders_26 rfl (by decide) rfl ?_
        refine r_iinc (pc := 27) (lv' := [(2, iv (ia s5.2 1)), (1, iv (ior s5.1 s5.2)), (0, rv ad w0)]) S0 2 dX6_outsiders_27 rfl (by decide) rfl ?_
        refine r_goto (pc := 30) (tgt := 4) S0 dX6_outsiders_30 (by decide) ?_
        have hz := ok_some hf
        refine r_lv [2, 1, 0] rfl ?_
        exact ih4 (ior s5.1 s5.2, ia s5.2 1) hz (cn_toInt _) (cn_wrap _)

set_option maxHeartbeats 4000000 in
set_option maxRecDepth 100000 in
theorem c_X11_never (l : Launch) (cA : Nat → ClassId) (D : va_G) (N : Nat) (sx : Sx) (ad : Nat → Nat) (T : Knd) (A : Rfs) (nx : Nat) (I : Mem) (w0 : Nat)  (e : (Int × Mem)) (h : f_X11_never T A w0 I = some e) : CtI l yX11_never cX11_never 1 (some .int) 4 126 cA D N sx ad T A nx [rv ad w0] I e.2 e.1 := by
  refine met_of (lv0 := [(0, rv ad w0)]) (by decide) (Nat.le_of_ble_eq_true rfl) rfl (fun p e0 s m args below meth c S0 hK hX hr hlk Q hQ => ?_)
  have hf : OK (f_X11_never T A w0 I) (fun z => z = e) := ⟨e, h, rfl⟩
  unfold f_X11_never at hf
  obtain ⟨hw0, hf⟩ := ok_grd hf
  refine r_aload_n (pc := 0) S0 0 dX11_never_0 rfl rfl ?_
  refine r_getR (pc := 1) S0 hK fl_X11_28 dX11_never_1 hf (fun x1 hf => ?_)
  obtain ⟨e2, h3, hf⟩ := ok_bind hf
  refine r_cV_I (pc := 4) [] S0 hK hX mv_X11_170 (k_X2_isThere h3) (c_X2_isThere l cA D N sx ad T A nx I x1 e2 h3) rfl rfl ⟨by decide, by decide⟩ (Nat.le_of_ble_eq_true rfl) ⟨Nat.le_refl _, Nat.le_refl _⟩ dX11_never_4 (fun c4 => ?_)
  refine r_if_eq (pc := 7) (tgt := 20) S0 dX11_never_7 (by decide) c4 hf (fun hf => ?_) (fun hf => ?_)
  · refine r_bipush (pc := 20) S0 dX11_never_20 (by decide) ?_
    have hz := ok_some hf
    have hz : ((-2), I) = e := hz
    subst hQ
    subst hz
    exact r_iret (pc := 22) S0 hr hlk (cnz (-2) rfl) dX11_never_22
  · refine r_aload_n (pc := 10) S0 0 dX11_never_10 rfl rfl ?_
    obtain ⟨e5, h6, hf⟩ := ok_bind hf
    refine r_cV_R (pc := 11) [] S0 hK hX mv_X11_283 (k_X11_knownSets h6) (c_X11_knownSets l cA D N sx ad T A nx I w0 e5 h6) rfl rfl ⟨by decide, by decide⟩ (Nat.le_of_ble_eq_true rfl) ⟨Nat.le_refl _, Nat.le_refl _⟩ dX11_never_11 ?_
    obtain ⟨e7, h8, hf⟩ := ok_bind hf
    refine r_cV_I (pc := 14) [] S0 hK hX mv_X11_294 (k_X6_outsiders h8) (c_X6_outsiders l cA D N sx ad T A nx e5.2 e5.1 e7 h8) rfl rfl ⟨by decide, by decide⟩ (Nat.le_of_ble_eq_true rfl) ⟨Nat.le_refl _, Nat.le_refl _⟩ dX11_never_14 (fun c9 => ?_)
    refine r_goto (pc := 17) (tgt := 22) S0 dX11_never_17 (by decide) ?_
    have hz := ok_some hf
    have hz : (e7, e5.2) = e := hz
    subst hQ
    subst hz
    exact r_iret (pc := 22) S0 hr hlk c9 dX11_never_22

set_option maxHeartbeats 4000000 in
set_option maxRecDepth 100000 in
theorem c_X6_followNeeds (l : Launch) (cA : Nat → ClassId) (D : va_G) (N : Nat) (sx : Sx) (ad : Nat → Nat) (T : Knd) (A : Rfs) (nx : Nat) (I : Mem) (w0 : Nat)  (e : Mem) (h : f_X6_followNeeds T A w0 I = some e) : CtV l yX6_followNeeds cX6_followNeeds 3 none 2 81 cA D N sx ad T A nx [rv ad w0] I e := by
  refine met_of (lv0 := [(0, rv ad w0)]) (by decide) (Nat.le_of_ble_eq_true rfl) rfl (fun p e0 s m args below meth c S0 hK hX hr hlk Q hQ => ?_)
  have hf : OK (f_X6_followNeeds T A w0 I) (fun z => z = e) := ⟨e, h, rfl⟩
  unfold f_X6_followNeeds at hf
  obtain ⟨hw0, hf⟩ := ok_grd hf
  refine r_aload_n (pc := 0) S0 0 dX6_followNeeds_0 rfl rfl ?_
  refine r_getR (pc := 1) S0 hK fl_X6_9 dX6_followNeeds_1 hf (fun x1 hf => ?_)
  refine r_iconst (pc := 4) S0 dX6_followNeeds_4 ?_
  refine r_aload_n (pc := 5) S0 0 dX6_followNeeds_5 rfl rfl ?_
  refine r_getR (pc := 6) S0 hK fl_X6_22 dX6_followNeeds_6 hf (fun x2 hf => ?_)
  refine r_iconst (pc := 9) S0 dX6_followNeeds_9 ?_
  refine r_bipush (pc := 10) S0 dX6_followNeeds_10 (by decide) ?_
  refine r_acpi (pc := 12) S0 hK ma_X6_48 dX6_followNeeds_12 (cnz 0 rfl) (cnz 0 rfl) (cnz 8 rfl) ⟨Nat.le_of_ble_eq_true rfl, Nat.le_of_ble_eq_true rfl⟩ hf (fun I3 hf => ?_)
  refine r_iconst (pc := 15) S0 dX6_followNeeds_15 ?_
  refine r_istore_n (pc := 16) (lv' := [(1, iv 0), (0, rv ad w0)]) S0 dX6_followNeeds_16 rfl (by decide) rfl ?_
  refine r_lv [1, 0] rfl ?_
  refine it_ind (P := fun s5 => cn s5.1 → G p l e0 (rmx 2 81) s m args below meth c 0 0 Q cA D N 3 ad T A nx 17 [(0, rv ad w0), (1, iv s5.1)] [] s5.2) (fun n0 s5 ih4 hf c6 => ?_) FU (0, I3) hf (cnz 0 rfl)
  refine r_iload_n (pc := 17) S0 1 dX6_followNeeds_17 rfl rfl ?_
  refine r_aload_n (pc := 18) S0 0 dX6_followNeeds_18 rfl rfl ?_
  refine r_getI (pc := 19) S0 hK fl_X6_40 dX6_followNeeds_19 hf (fun x7 c8 hf => ?_)
  refine r_icmp_ge (pc := 22) (tgt := 75) S0 dX6_followNeeds_22 (by decide) c6 c8 hf (fun hf => ?_) (fun hf => ?_)
  · have hz := ok_some hf
    have hz : s5.2 = e := hz
    subst hQ
    subst hz
    exact r_vret (pc := 75) S0 hr hlk dX6_followNeeds_75
  · refine r_iconst (pc := 25) S0 dX6_followNeeds_25 ?_
    refine r_istore_n (pc := 26) (lv' := [(2, iv 0), (0, rv ad w0), (1, iv s5.1)]) S0 dX6_followNeeds_26 rfl (by decide) rfl ?_
    refine r_lv [1, 2, 0] rfl ?_
    refine it_ind (P := fun s10 => cn s10.1 → G p l e0 (rmx 2 81) s m args below meth c 0 0 Q cA D N 3 ad T A nx 27 [(0, rv ad w0), (1, iv s5.1), (2, iv s10.1)] [] s10.2) (fun n0 s10 ih9 hf c11 => ?_) FU (0, s5.2) hf (cnz 0 rfl)
    refine r_iload_n (pc := 27) S0 2 dX6_followNeeds_27 rfl rfl ?_
    refine r_aload_n (pc := 28) S0 0 dX6_followNeeds_28 rfl rfl ?_
    refine r_getI (pc := 29) S0 hK fl_X6_40 dX6_followNeeds_29 hf (fun x12 c13 hf => ?_)
    refine r_icmp_ge (pc := 32) (tgt := 69) S0 dX6_followNeeds_32 (by decide) c11 c13 hf (fun hf => ?_) (fun hf => ?_)
    · refine r_iinc (pc := 69) (lv' := [(1, iv (ia s5.1 1)), (0, rv ad w0), (2, iv s10.1)]) S0 1 dX6_followNeeds_69 rfl (by decide) rfl ?_
      refine r_goto (pc := 72) (tgt := 17) S0 dX6_followNeeds_72 (by decide) ?_
      have hz := ok_some hf
      refine r_lv [1, 0] rfl ?_
      exact ih4 (ia s5.1 1, s10.2) hz (cn_wrap _)
    · refine r_aload_n (pc := 35) S0 0 dX6_followNeeds_35 rfl rfl ?_
      refine r_getR (pc := 36) S0 hK fl_X6_22 dX6_followNeeds_36 hf (fun x14 hf => ?_)
      refine r_iload_n (pc := 39) S0 2 dX6_followNeeds_39 rfl rfl ?_
      refine r_iald (pc := 40) S0 hK dX6_followNeeds_40 c11 hf (fun x15 c16 hf => ?_)
      refine r_iload_n (pc := 41) S0 1 dX6_followNeeds_41 rfl rfl ?_
      obtain ⟨e17, h18, hf⟩ := ok_bind hf
      refine r_cN_I (pc := 42) [iv x15, iv s5.1] S0 hK hX mn_X6_57 (c_X11_hasBit l cA D N sx ad T A nx s10.2 x15 s5.1 c16 c6 e17 h18) rfl rfl ⟨by decide, by decide⟩ (Nat.le_of_ble_eq_true rfl) ⟨Nat.le_refl _, Nat.le_refl _⟩ dX6_followNeeds_42 (fun c19 => ?_)
      refine r_if_eq (pc := 45) (tgt := 63) S0 dX6_followNeeds_45 (by decide) c19 hf (fun hf => ?_) (fun hf => ?_)
      · refine r_iinc (pc := 63) (lv' := [(2, iv (ia s10.1 1)), (0, rv ad w0), (1, iv s5.1)]) S0 2 dX6_followNeeds_63 rfl (by decide) rfl ?_
        refine r_goto (pc := 66) (tgt := 27) S0 dX6_followNeeds_66 (by decide) ?_
        have hz := ok_some hf
        refine r_lv [1, 2, 0] rfl ?_
        exact ih9 (ia s10.1 1, s10.2) hz (cn_wrap _)
      · refine r_aload_n (pc := 48) S0 0 dX6_followNeeds_48 rfl rfl ?_
        refine r_getR (pc := 49) S0 hK fl_X6_22 dX6_followNeeds_49 hf (fun x20 hf => ?_)
        refine r_iload_n (pc := 52) S0 2 dX6_followNeeds_52 rfl rfl ?_
        refine r_dup2 (pc := 53) S0 dX6_followNeeds_53 rfl rfl ?_
        refine r_iald (pc := 54) S0 hK dX6_followNeeds_54 c11 hf (fun x21 c22 hf => ?_)
        refine r_aload_n (pc := 55) S0 0 dX6_followNeeds_55 rfl rfl ?_
        refine r_getR (pc := 56) S0 hK fl_X6_22 dX6_followNeeds_56 hf (fun x23 hf => ?_)
        refine r_iload_n (pc := 59) S0 1 dX6_followNeeds_59 rfl rfl ?_
        refine r_iald (pc := 60) S0 hK dX6_followNeeds_60 c6 hf (fun x24 c25 hf => ?_)
        refine r_ior (pc := 61) S0 dX6_followNeeds_61 ?_
        refine r_iast (pc := 62) S0 hK dX6_followNeeds_62 c11 (cn_toInt _) hf (fun I26 hf => ?_)
        refine r_iinc (pc := 63) (lv' := [(2, iv (ia s10.1 1)), (0, rv ad w0), (1, iv s5.1)]) S0 2 dX6_followNeeds_63 rfl (by decide) rfl ?_
        refine r_goto (pc := 66) (tgt := 27) S0 dX6_followNeeds_66 (by decide) ?_
        have hz := ok_some hf
        refine r_lv [1, 2, 0] rfl ?_
        exact ih9 (ia s10.1 1, I26) hz (cn_wrap _)

set_option maxHeartbeats 4000000 in
set_option maxRecDepth 100000 in
theorem c_X6_rounds (l : Launch) (cA : Nat → ClassId) (D : va_G) (N : Nat) (sx : Sx) (ad : Nat → Nat) (T : Knd) (A : Rfs) (nx : Nat) (I : Mem) (w0 : Nat)  (e : (Int × Mem)) (h : f_X6_rounds T A w0 I = some e) : CtI l yX6_rounds cX6_rounds 3 (some .int) 3 103 cA D N sx ad T A nx [rv ad w0] I e.2 e.1 := by
  refine met_of (lv0 := [(0, rv ad w0)]) (by decide) (Nat.le_of_ble_eq_true rfl) rfl (fun p e0 s m args below meth c S0 hK hX hr hlk Q hQ => ?_)
  have hf : OK (f_X6_rounds T A w0 I) (fun z => z = e) := ⟨e, h, rfl⟩
  unfold f_X6_rounds at hf
  obtain ⟨hw0, hf⟩ := ok_grd hf
  refine r_aload_n (pc := 0) S0 0 dX6_rounds_0 rfl rfl ?_
  obtain ⟨e1, h2, hf⟩ := ok_bind hf
  refine r_cV_V (pc := 1) [] S0 hK hX mv_X6_61 (k_X6_followNeeds h2) (c_X6_followNeeds l cA D N sx ad T A nx I w0 e1 h2) rfl rfl ⟨by decide, by decide⟩ (Nat.le_of_ble_eq_true rfl) ⟨Nat.le_refl _, Nat.le_refl _⟩ dX6_rounds_1 ?_
  refine r_iconst (pc := 4) S0 dX6_rounds_4 ?_
  refine r_istore_n (pc := 5) (lv' := [(1, iv 0), (0, rv ad w0)]) S0 dX6_rounds_5 rfl (by decide) rfl ?_
  refine r_iconst (pc := 6) S0 dX6_rounds_6 ?_
  refine r_istore_n (pc := 7) (lv' := [(2, iv 0), (1, iv 0), (0, rv ad w0)]) S0 dX6_rounds_7 rfl (by decide) rfl ?_
  refine r_lv [2, 1, 0] rfl ?_
  refine it_ind (P := fun s4 => cn s4.1 → cn s4.2 → G p l e0 (rmx 3 103) s m args below meth c 0 0 Q cA D N 3 ad T A nx 8 [(0, rv ad w0), (1, iv s4.1), (2, iv s4.2)] [] e1) (fun n0 s4 ih3 hf c5 c6 => ?_) FU (0, 0) hf (cnz 0 rfl) (cnz 0 rfl)
  refine r_iload_n (pc := 8) S0 2 dX6_rounds_8 rfl rfl ?_
  refine r_aload_n (pc := 9) S0 0 dX6_rounds_9 rfl rfl ?_
  refine r_getI (pc := 10) S0 hK fl_X6_40 dX6_rounds_10 hf (fun x7 c8 hf => ?_)
  refine r_icmp_ge (pc := 13) (tgt := 41) S0 dX6_rounds_13 (by decide) c6 c8 hf (fun hf => ?_) (fun hf => ?_)
  · refine r_iload_n (pc := 41) S0 1 dX6_rounds_41 rfl rfl ?_
    have hz := ok_some hf
    have hz : (s4.1, e1) = e := hz
    subst hQ
    subst hz
    exact r_iret (pc := 42) S0 hr hlk c5 dX6_rounds_42
  · refine r_aload_n (pc := 16) S0 0 dX6_rounds_16 rfl rfl ?_
    refine r_getR (pc := 17) S0 hK fl_X6_22 dX6_rounds_17 hf (fun x9 hf => ?_)
    refine r_iload_n (pc := 20) S0 2 dX6_rounds_20 rfl rfl ?_
    refine r_iald (pc := 21) S0 hK dX6_rounds_21 c6 hf (fun x10 c11 hf => ?_)
    refine r_iload_n (pc := 22) S0 2 dX6_rounds_22 rfl rfl ?_
    obtain ⟨e12, h13, hf⟩ := ok_bind hf
    refine r_cN_I (pc := 23) [iv x10, iv s4.2] S0 hK hX mn_X6_57 (c_X11_hasBit l cA D N sx ad T A nx e1 x10 s4.2 c11 c6 e12 h13) rfl rfl ⟨by decide, by decide⟩ (Nat.le_of_ble_eq_true rfl) ⟨Nat.le_refl _, Nat.le_refl _⟩ dX6_rounds_23 (fun c14 => ?_)
    refine r_if_eq (pc := 26) (tgt := 35) S0 dX6_rounds_26 (by decide) c14 hf (fun hf => ?_) (fun hf => ?_)
    · refine r_iinc (pc := 35) (lv' := [(2, iv (ia s4.2 1)), (0, rv ad w0), (1, iv s4.1)]) S0 2 dX6_rounds_35 rfl (by decide) rfl ?_
      refine r_goto (pc := 38) (tgt := 8) S0 dX6_rounds_38 (by decide) ?_
      have hz := ok_some hf
      refine r_lv [1, 2, 0] rfl ?_
      exact ih3 (s4.1, ia s4.2 1) hz c5 (cn_wrap _)
    · refine r_iload_n (pc := 29) S0 1 dX6_rounds_29 rfl rfl ?_
      refine r_iconst (pc := 30) S0 dX6_rounds_30 ?_
      refine r_iload_n (pc := 31) S0 2 dX6_rounds_31 rfl rfl ?_
      refine r_ishl (pc := 32) S0 dX6_rounds_32 ?_
      refine r_ior (pc := 33) S0 dX6_rounds_33 ?_
      refine r_istore_n (pc := 34) (lv' := [(1, iv (ior s4.1 (ishl 1 s4.2))), (0, rv ad w0), (2, iv s4.2)]) S0 dX6_rounds_34 rfl (by decide) rfl ?_
      refine r_iinc (pc := 35) (lv' := [(2, iv (ia s4.2 1)), (1, iv (ior s4.1 (ishl 1 s4.2))), (0, rv ad w0)]) S0 2 dX6_rounds_35 rfl (by decide) rfl ?_
      refine r_goto (pc := 38) (tgt := 8) S0 dX6_rounds_38 (by decide) ?_
      have hz := ok_some hf
      refine r_lv [2, 1, 0] rfl ?_
      exact ih3 (ior s4.1 (ishl 1 s4.2), ia s4.2 1) hz (cn_toInt _) (cn_wrap _)

set_option maxHeartbeats 4000000 in
set_option maxRecDepth 100000 in
theorem c_X11_ring (l : Launch) (cA : Nat → ClassId) (D : va_G) (N : Nat) (sx : Sx) (ad : Nat → Nat) (T : Knd) (A : Rfs) (nx : Nat) (I : Mem) (w0 : Nat)  (e : (Int × Mem)) (h : f_X11_ring T A w0 I = some e) : CtI l yX11_ring cX11_ring 1 (some .int) 4 126 cA D N sx ad T A nx [rv ad w0] I e.2 e.1 := by
  refine met_of (lv0 := [(0, rv ad w0)]) (by decide) (Nat.le_of_ble_eq_true rfl) rfl (fun p e0 s m args below meth c S0 hK hX hr hlk Q hQ => ?_)
  have hf : OK (f_X11_ring T A w0 I) (fun z => z = e) := ⟨e, h, rfl⟩
  unfold f_X11_ring at hf
  obtain ⟨hw0, hf⟩ := ok_grd hf
  refine r_aload_n (pc := 0) S0 0 dX11_ring_0 rfl rfl ?_
  refine r_getR (pc := 1) S0 hK fl_X11_28 dX11_ring_1 hf (fun x1 hf => ?_)
  obtain ⟨e2, h3, hf⟩ := ok_bind hf
  refine r_cV_I (pc := 4) [] S0 hK hX mv_X11_170 (k_X2_isThere h3) (c_X2_isThere l cA D N sx ad T A nx I x1 e2 h3) rfl rfl ⟨by decide, by decide⟩ (Nat.le_of_ble_eq_true rfl) ⟨Nat.le_refl _, Nat.le_refl _⟩ dX11_ring_4 (fun c4 => ?_)
  refine r_if_eq (pc := 7) (tgt := 20) S0 dX11_ring_7 (by decide) c4 hf (fun hf => ?_) (fun hf => ?_)
  · refine r_bipush (pc := 20) S0 dX11_ring_20 (by decide) ?_
    have hz := ok_some hf
    have hz : ((-2), I) = e := hz
    subst hQ
    subst hz
    exact r_iret (pc := 22) S0 hr hlk (cnz (-2) rfl) dX11_ring_22
  · refine r_aload_n (pc := 10) S0 0 dX11_ring_10 rfl rfl ?_
    obtain ⟨e5, h6, hf⟩ := ok_bind hf
    refine r_cV_R (pc := 11) [] S0 hK hX mv_X11_283 (k_X11_knownSets h6) (c_X11_knownSets l cA D N sx ad T A nx I w0 e5 h6) rfl rfl ⟨by decide, by decide⟩ (Nat.le_of_ble_eq_true rfl) ⟨Nat.le_refl _, Nat.le_refl _⟩ dX11_ring_11 ?_
    obtain ⟨e7, h8, hf⟩ := ok_bind hf
    refine r_cV_I (pc := 14) [] S0 hK hX mv_X11_297 (k_X6_rounds h8) (c_X6_rounds l cA D N sx ad T A nx e5.2 e5.1 e7 h8) rfl rfl ⟨by decide, by decide⟩ (Nat.le_of_ble_eq_true rfl) ⟨Nat.le_refl _, Nat.le_refl _⟩ dX11_ring_14 (fun c9 => ?_)
    refine r_goto (pc := 17) (tgt := 22) S0 dX11_ring_17 (by decide) ?_
    have hz := ok_some hf
    have hz : (e7.1, e7.2) = e := hz
    subst hQ
    subst hz
    exact r_iret (pc := 22) S0 hr hlk c9 dX11_ring_22

set_option maxHeartbeats 4000000 in
set_option maxRecDepth 100000 in
theorem c_X6_lengthenChains (l : Launch) (cA : Nat → ClassId) (D : va_G) (N : Nat) (sx : Sx) (ad : Nat → Nat) (T : Knd) (A : Rfs) (nx : Nat) (I : Mem) (w0 : Nat)  (e : Mem) (h : f_X6_lengthenChains T A w0 I = some e) : CtV l yX6_lengthenChains cX6_lengthenChains 3 none 2 81 cA D N sx ad T A nx [rv ad w0] I e := by
  refine met_of (lv0 := [(0, rv ad w0)]) (by decide) (Nat.le_of_ble_eq_true rfl) rfl (fun p e0 s m args below meth c S0 hK hX hr hlk Q hQ => ?_)
  have hf : OK (f_X6_lengthenChains T A w0 I) (fun z => z = e) := ⟨e, h, rfl⟩
  unfold f_X6_lengthenChains at hf
  obtain ⟨hw0, hf⟩ := ok_grd hf
  refine r_iconst (pc := 0) S0 dX6_lengthenChains_0 ?_
  refine r_istore_n (pc := 1) (lv' := [(1, iv 0), (0, rv ad w0)]) S0 dX6_lengthenChains_1 rfl (by decide) rfl ?_
  refine r_lv [1, 0] rfl ?_
  refine it_ind (P := fun s2 => cn s2.1 → G p l e0 (rmx 2 81) s m args below meth c 0 0 Q cA D N 3 ad T A nx 2 [(0, rv ad w0), (1, iv s2.1)] [] s2.2) (fun n0 s2 ih1 hf c3 => ?_) FU (0, I) hf (cnz 0 rfl)
  refine r_iload_n (pc := 2) S0 1 dX6_lengthenChains_2 rfl rfl ?_
  refine r_aload_n (pc := 3) S0 0 dX6_lengthenChains_3 rfl rfl ?_
  refine r_getI (pc := 4) S0 hK fl_X6_40 dX6_lengthenChains_4 hf (fun x4 c5 hf => ?_)
  refine r_icmp_ge (pc := 7) (tgt := 68) S0 dX6_lengthenChains_7 (by decide) c3 c5 hf (fun hf => ?_) (fun hf => ?_)
  · have hz := ok_some hf
    have hz : s2.2 = e := hz
    subst hQ
    subst hz
    exact r_vret (pc := 68) S0 hr hlk dX6_lengthenChains_68
  · refine r_iconst (pc := 10) S0 dX6_lengthenChains_10 ?_
    refine r_istore_n (pc := 11) (lv' := [(2, iv 0), (0, rv ad w0), (1, iv s2.1)]) S0 dX6_lengthenChains_11 rfl (by decide) rfl ?_
    refine r_lv [1, 2, 0] rfl ?_
    refine it_ind (P := fun s7 => cn s7.1 → G p l e0 (rmx 2 81) s m args below meth c 0 0 Q cA D N 3 ad T A nx 12 [(0, rv ad w0), (1, iv s2.1), (2, iv s7.1)] [] s7.2) (fun n0 s7 ih6 hf c8 => ?_) FU (0, s2.2) hf (cnz 0 rfl)
    refine r_iload_n (pc := 12) S0 2 dX6_lengthenChains_12 rfl rfl ?_
    refine r_aload_n (pc := 13) S0 0 dX6_lengthenChains_13 rfl rfl ?_
    refine r_getI (pc := 14) S0 hK fl_X6_40 dX6_lengthenChains_14 hf (fun x9 c10 hf => ?_)
    refine r_icmp_ge (pc := 17) (tgt := 62) S0 dX6_lengthenChains_17 (by decide) c8 c10 hf (fun hf => ?_) (fun hf => ?_)
    · refine r_iinc (pc := 62) (lv' := [(1, iv (ia s2.1 1)), (0, rv ad w0), (2, iv s7.1)]) S0 1 dX6_lengthenChains_62 rfl (by decide) rfl ?_
      refine r_goto (pc := 65) (tgt := 2) S0 dX6_lengthenChains_65 (by decide) ?_
      have hz := ok_some hf
      refine r_lv [1, 0] rfl ?_
      exact ih1 (ia s2.1 1, s7.2) hz (cn_wrap _)
    · refine r_aload_n (pc := 20) S0 0 dX6_lengthenChains_20 rfl rfl ?_
      refine r_getR (pc := 21) S0 hK fl_X6_9 dX6_lengthenChains_21 hf (fun x11 hf => ?_)
      refine r_iload_n (pc := 24) S0 1 dX6_lengthenChains_24 rfl rfl ?_
      refine r_iald (pc := 25) S0 hK dX6_lengthenChains_25 c3 hf (fun x12 c13 hf => ?_)
      refine r_iload_n (pc := 26) S0 2 dX6_lengthenChains_26 rfl rfl ?_
      obtain ⟨e14, h15, hf⟩ := ok_bind hf
      refine r_cN_I (pc := 27) [iv x12, iv s7.1] S0 hK hX mn_X6_57 (c_X11_hasBit l cA D N sx ad T A nx s7.2 x12 s7.1 c13 c8 e14 h15) rfl rfl ⟨by decide, by decide⟩ (Nat.le_of_ble_eq_true rfl) ⟨Nat.le_refl _, Nat.le_refl _⟩ dX6_lengthenChains_27 (fun c16 => ?_)
      refine r_if_eq (pc := 30) (tgt := 56) S0 dX6_lengthenChains_30 (by decide) c16 hf (fun hf => ?_) (fun hf => ?_)
      · refine r_iinc (pc := 56) (lv' := [(2, iv (ia s7.1 1)), (0, rv ad w0), (1, iv s2.1)]) S0 2 dX6_lengthenChains_56 rfl (by decide) rfl ?_
        refine r_goto (pc := 59) (tgt := 12) S0 dX6_lengthenChains_59 (by decide) ?_
        have hz := ok_some hf
        refine r_lv [1, 2, 0] rfl ?_
        exact ih6 (ia s7.1 1, s7.2) hz (cn_wrap _)
      · refine r_aload_n (pc := 33) S0 0 dX6_lengthenChains_33 rfl rfl ?_
        refine r_getR (pc := 34) S0 hK fl_X6_25 dX6_lengthenChains_34 hf (fun x17 hf => ?_)
        refine r_iload_n (pc := 37) S0 1 dX6_lengthenChains_37 rfl rfl ?_
        refine r_aload_n (pc := 38) S0 0 dX6_lengthenChains_38 rfl rfl ?_
        refine r_getR (pc := 39) S0 hK fl_X6_25 dX6_lengthenChains_39 hf (fun x18 hf => ?_)
        refine r_iload_n (pc := 42) S0 1 dX6_lengthenChains_42 rfl rfl ?_
        refine r_iald (pc := 43) S0 hK dX6_lengthenChains_43 c3 hf (fun x19 c20 hf => ?_)
        refine r_aload_n (pc := 44) S0 0 dX6_lengthenChains_44 rfl rfl ?_
        refine r_getR (pc := 45) S0 hK fl_X6_25 dX6_lengthenChains_45 hf (fun x21 hf => ?_)
        refine r_iload_n (pc := 48) S0 2 dX6_lengthenChains_48 rfl rfl ?_
        refine r_iald (pc := 49) S0 hK dX6_lengthenChains_49 c8 hf (fun x22 c23 hf => ?_)
        refine r_iconst (pc := 50) S0 dX6_lengthenChains_50 ?_
        refine r_iadd (pc := 51) S0 dX6_lengthenChains_51 ?_
        refine r_mmax (pc := 52) S0 mmmax_X6_77 ⟨by decide, Nat.le_of_ble_eq_true rfl⟩ ⟨Nat.le_refl _, Nat.le_refl _⟩ dX6_lengthenChains_52 c20 (cn_wrap _) ?_
        refine r_iast (pc := 55) S0 hK dX6_lengthenChains_55 c3 (cn_imax c20 (cn_wrap _)) hf (fun I24 hf => ?_)
        refine r_iinc (pc := 56) (lv' := [(2, iv (ia s7.1 1)), (0, rv ad w0), (1, iv s2.1)]) S0 2 dX6_lengthenChains_56 rfl (by decide) rfl ?_
        refine r_goto (pc := 59) (tgt := 12) S0 dX6_lengthenChains_59 (by decide) ?_
        have hz := ok_some hf
        refine r_lv [1, 2, 0] rfl ?_
        exact ih6 (ia s7.1 1, I24) hz (cn_wrap _)

set_option maxHeartbeats 4000000 in
set_option maxRecDepth 100000 in
theorem c_X6_longestChain (l : Launch) (cA : Nat → ClassId) (D : va_G) (N : Nat) (sx : Sx) (ad : Nat → Nat) (T : Knd) (A : Rfs) (nx : Nat) (I : Mem) (w0 : Nat) (a1 : Int) (ca1 : cn a1) (e : (Int × Mem)) (h : f_X6_longestChain T A w0 a1 I = some e) : CtI l yX6_longestChain cX6_longestChain 4 (some .int) 4 125 cA D N sx ad T A nx [rv ad w0, iv a1] I e.2 e.1 := by
  refine met_of (lv0 := [(0, rv ad w0), (1, iv a1)]) (by decide) (Nat.le_of_ble_eq_true rfl) rfl (fun p e0 s m args below meth c S0 hK hX hr hlk Q hQ => ?_)
  have hf : OK (f_X6_longestChain T A w0 a1 I) (fun z => z = e) := ⟨e, h, rfl⟩
  unfold f_X6_longestChain at hf
  obtain ⟨hw0, hf⟩ := ok_grd hf
  refine r_aload_n (pc := 0) S0 0 dX6_longestChain_0 rfl rfl ?_
  obtain ⟨e1, h2, hf⟩ := ok_bind hf
  refine r_cV_I (pc := 1) [] S0 hK hX mv_X6_64 (k_X6_rounds h2) (c_X6_rounds l cA D N sx ad T A nx I w0 e1 h2) rfl rfl ⟨by decide, by decide⟩ (Nat.le_of_ble_eq_true rfl) ⟨Nat.le_refl _, Nat.le_refl _⟩ dX6_longestChain_1 (fun c3 => ?_)
  refine r_istore_n (pc := 4) (lv' := [(2, iv e1.1), (0, rv ad w0), (1, iv a1)]) S0 dX6_longestChain_4 rfl (by decide) rfl ?_
  refine r_iload_n (pc := 5) S0 2 dX6_longestChain_5 rfl rfl ?_
  refine r_if_lt (pc := 6) (tgt := 32) S0 dX6_longestChain_6 (by decide) ca1 hf (fun hf => ?_) (fun hf => ?_)
  · refine r_iconst (pc := 32) S0 dX6_longestChain_32 ?_
    have hz := ok_some hf
    have hz : ((-1), e1.2) = e := hz
    subst hQ
    subst hz
    exact r_iret (pc := 33) S0 hr hlk (cnz (-1) rfl) dX6_longestChain_33
  · refine r_iload_n (pc := 9) S0 2 dX6_longestChain_9 rfl rfl ?_
    refine r_aload_n (pc := 10) S0 1 dX6_longestChain_10 rfl rfl ?_
    refine r_getI (pc := 11) S0 hK fl_X6_40 dX6_longestChain_11 hf (fun x4 c5 hf => ?_)
    refine r_icmp_ge (pc := 14) (tgt := 32) S0 dX6_longestChain_14 (by decide) ca1 c5 hf (fun hf => ?_) (fun hf => ?_)
    · refine r_iconst (pc := 32) S0 dX6_longestChain_32 ?_
      have hz := ok_some hf
      have hz : ((-1), e1.2) = e := hz
      subst hQ
      subst hz
      exact r_iret (pc := 33) S0 hr hlk (cnz (-1) rfl) dX6_longestChain_33
    · refine r_aload_n (pc := 17) S0 1 dX6_longestChain_17 rfl rfl ?_
      refine r_getR (pc := 18) S0 hK fl_X6_22 dX6_longestChain_18 hf (fun x6 hf => ?_)
      refine r_iload_n (pc := 21) S0 2 dX6_longestChain_21 rfl rfl ?_
      refine r_iald (pc := 22) S0 hK dX6_longestChain_22 ca1 hf (fun x7 c8 hf => ?_)
      refine r_iconst (pc := 23) S0 dX6_longestChain_23 ?_
      refine r_iload_n (pc := 24) S0 2 dX6_longestChain_24 rfl rfl ?_
      refine r_ishl (pc := 25) S0 dX6_longestChain_25 ?_
      refine r_ior (pc := 26) S0 dX6_longestChain_26 ?_
      refine r_iload_n (pc := 27) S0 0 dX6_longestChain_27 rfl rfl ?_
      refine r_iand (pc := 28) S0 dX6_longestChain_28 ?_
      refine r_if_eq (pc := 29) (tgt := 34) S0 dX6_longestChain_29 (by decide) (cn_toInt _) hf (fun hf => ?_) (fun hf => ?_)
      · refine r_aload_n (pc := 34) S0 1 dX6_longestChain_34 rfl rfl ?_
        refine r_getR (pc := 35) S0 hK fl_X6_25 dX6_longestChain_35 hf (fun x9 hf => ?_)
        refine r_iconst (pc := 38) S0 dX6_longestChain_38 ?_
        obtain ⟨e10, h11, hf⟩ := ok_bind hf
        refine r_cS_V (pc := 39) [rv ad x9, iv 1] S0 hK hX ms_X6_68 (c_J7_fill_53178 l cA D N sx ad T A nx e1.2 x9 1 (cnz 1 rfl) e10 h11) rfl rfl ⟨by decide, by decide⟩ (Nat.le_of_ble_eq_true rfl) ⟨Nat.le_refl _, Nat.le_refl _⟩ dX6_longestChain_39 ?_
        refine r_iconst (pc := 42) S0 dX6_longestChain_42 ?_
        refine r_istore_n (pc := 43) (lv' := [(3, iv 1), (2, iv e1.1), (0, rv ad w0), (1, iv a1)]) S0 dX6_longestChain_43 rfl (by decide) rfl ?_
        refine thn_rule (P := fun v13 => G p l e0 (rmx 4 125) s m args below meth c 0 0 Q cA D N 4 ad T A nx 62 [(0, rv ad w0), (1, iv a1)] [] v13) hf (fun v13 hf => ?_) (fun K12 hf => ?_)
        · refine r_aload_n (pc := 62) S0 0 dX6_longestChain_62 rfl rfl ?_
          refine r_getR (pc := 63) S0 hK fl_X6_25 dX6_longestChain_63 hf (fun x21 hf => ?_)
          refine r_iload_n (pc := 66) S0 1 dX6_longestChain_66 rfl rfl ?_
          refine r_iald (pc := 67) S0 hK dX6_longestChain_67 ca1 hf (fun x22 c23 hf => ?_)
          have hz := ok_some hf
          have hz : (x22, v13) = e := hz
          subst hQ
          subst hz
          exact r_iret (pc := 68) S0 hr hlk c23 dX6_longestChain_68
        · refine r_lv [2, 3, 0] rfl ?_
          refine it_ind (P := fun s15 => cn s15.1 → G p l e0 (rmx 4 125) s m args below meth c 0 0 Q cA D N 4 ad T A nx 44 [(0, rv ad w0), (1, iv a1), (3, iv s15.1)] [] s15.2) (fun n0 s15 ih14 hf c16 => ?_) FU (1, e10) hf (cnz 1 rfl)
          refine r_iload_n (pc := 44) S0 2 dX6_longestChain_44 rfl rfl ?_
          refine r_aload_n (pc := 45) S0 0 dX6_longestChain_45 rfl rfl ?_
          refine r_getI (pc := 46) S0 hK fl_X6_40 dX6_longestChain_46 hf (fun x17 c18 hf => ?_)
          refine r_icmp_ge (pc := 49) (tgt := 62) S0 dX6_longestChain_49 (by decide) c16 c18 hf (fun hf => ?_) (fun hf => ?_)
          · have hz := ok_some hf
            refine r_lv [0, 1] rfl ?_
            exact K12 s15.2 hz
          · refine r_aload_n (pc := 52) S0 0 dX6_longestChain_52 rfl rfl ?_
            obtain ⟨e19, h20, hf⟩ := ok_bind hf
            refine r_cV_V (pc := 53) [] S0 hK hX mv_X6_74 (k_X6_lengthenChains h20) (c_X6_lengthenChains l cA D N sx ad T A nx s15.2 w0 e19 h20) rfl rfl ⟨by decide, by decide⟩ (Nat.le_of_ble_eq_true rfl) ⟨Nat.le_refl _, Nat.le_refl _⟩ dX6_longestChain_53 ?_
            refine r_iinc (pc := 56) (lv' := [(3, iv (ia s15.1 1)), (0, rv ad w0), (1, iv a1)]) S0 2 dX6_longestChain_56 rfl (by decide) rfl ?_
            refine r_goto (pc := 59) (tgt := 44) S0 dX6_longestChain_59 (by decide) ?_
            have hz := ok_some hf
            refine r_lv [1, 2, 0] rfl ?_
            exact ih14 (ia s15.1 1, e19) hz (cn_wrap _)
      · refine r_iconst (pc := 32) S0 dX6_longestChain_32 ?_
        have hz := ok_some hf
        have hz : ((-1), e1.2) = e := hz
        subst hQ
        subst hz
        exact r_iret (pc := 33) S0 hr hlk (cnz (-1) rfl) dX6_longestChain_33

set_option maxHeartbeats 4000000 in
set_option maxRecDepth 100000 in
theorem c_X11_depth (l : Launch) (cA : Nat → ClassId) (D : va_G) (N : Nat) (sx : Sx) (ad : Nat → Nat) (T : Knd) (A : Rfs) (nx : Nat) (I : Mem) (w0 : Nat) (a1 : Int) (ca1 : cn a1) (e : (Int × Mem)) (h : f_X11_depth T A w0 a1 I = some e) : CtI l yX11_depth cX11_depth 2 (some .int) 5 148 cA D N sx ad T A nx [rv ad w0, iv a1] I e.2 e.1 := by
  refine met_of (lv0 := [(0, rv ad w0), (1, iv a1)]) (by decide) (Nat.le_of_ble_eq_true rfl) rfl (fun p e0 s m args below meth c S0 hK hX hr hlk Q hQ => ?_)
  have hf : OK (f_X11_depth T A w0 a1 I) (fun z => z = e) := ⟨e, h, rfl⟩
  unfold f_X11_depth at hf
  obtain ⟨hw0, hf⟩ := ok_grd hf
  refine r_aload_n (pc := 0) S0 0 dX11_depth_0 rfl rfl ?_
  refine r_getR (pc := 1) S0 hK fl_X11_28 dX11_depth_1 hf (fun x1 hf => ?_)
  refine r_iload_n (pc := 4) S0 1 dX11_depth_4 rfl rfl ?_
  obtain ⟨e2, h3, hf⟩ := ok_bind hf
  refine r_cV_I (pc := 5) [iv a1] S0 hK hX mv_X11_133 (k_X2_hasOfficial h3) (c_X2_hasOfficial l cA D N sx ad T A nx I x1 a1 ca1 e2 h3) rfl rfl ⟨by decide, by decide⟩ (Nat.le_of_ble_eq_true rfl) ⟨Nat.le_refl _, Nat.le_refl _⟩ dX11_depth_5 (fun c4 => ?_)
  refine r_if_eq (pc := 8) (tgt := 22) S0 dX11_depth_8 (by decide) c4 hf (fun hf => ?_) (fun hf => ?_)
  · refine r_bipush (pc := 22) S0 dX11_depth_22 (by decide) ?_
    have hz := ok_some hf
    have hz : ((-2), I) = e := hz
    subst hQ
    subst hz
    exact r_iret (pc := 24) S0 hr hlk (cnz (-2) rfl) dX11_depth_24
  · refine r_aload_n (pc := 11) S0 0 dX11_depth_11 rfl rfl ?_
    obtain ⟨e5, h6, hf⟩ := ok_bind hf
    refine r_cV_R (pc := 12) [] S0 hK hX mv_X11_283 (k_X11_knownSets h6) (c_X11_knownSets l cA D N sx ad T A nx I w0 e5 h6) rfl rfl ⟨by decide, by decide⟩ (Nat.le_of_ble_eq_true rfl) ⟨Nat.le_refl _, Nat.le_refl _⟩ dX11_depth_12 ?_
    refine r_iload_n (pc := 15) S0 1 dX11_depth_15 rfl rfl ?_
    obtain ⟨e7, h8, hf⟩ := ok_bind hf
    refine r_cV_I (pc := 16) [iv a1] S0 hK hX mv_X11_300 (k_X6_longestChain h8) (c_X6_longestChain l cA D N sx ad T A nx e5.2 e5.1 a1 ca1 e7 h8) rfl rfl ⟨by decide, by decide⟩ (Nat.le_of_ble_eq_true rfl) ⟨Nat.le_refl _, Nat.le_refl _⟩ dX11_depth_16 (fun c9 => ?_)
    refine r_goto (pc := 19) (tgt := 24) S0 dX11_depth_19 (by decide) ?_
    have hz := ok_some hf
    have hz : (e7.1, e7.2) = e := hz
    subst hQ
    subst hz
    exact r_iret (pc := 24) S0 hr hlk c9 dX11_depth_24

set_option maxHeartbeats 4000000 in
set_option maxRecDepth 100000 in
theorem c_X11_orders (l : Launch) (cA : Nat → ClassId) (D : va_G) (N : Nat) (sx : Sx) (ad : Nat → Nat) (T : Knd) (A : Rfs) (nx : Nat) (I : Mem) (w0 : Nat) (a1 : Int) (ca1 : cn a1) (e : (Int × Mem)) (h : f_X11_orders T A w0 a1 I = some e) : CtJ l yX11_orders cX11_orders 2 (some .long) 4 126 cA D N sx ad T A nx [rv ad w0, iv a1] I e.2 e.1 := by
  refine met_of (lv0 := [(0, rv ad w0), (1, iv a1)]) (by decide) (Nat.le_of_ble_eq_true rfl) rfl (fun p e0 s m args below meth c S0 hK hX hr hlk Q hQ => ?_)
  have hf : OK (f_X11_orders T A w0 a1 I) (fun z => z = e) := ⟨e, h, rfl⟩
  unfold f_X11_orders at hf
  obtain ⟨hw0, hf⟩ := ok_grd hf
  refine r_aload_n (pc := 0) S0 0 dX11_orders_0 rfl rfl ?_
  refine r_getR (pc := 1) S0 hK fl_X11_28 dX11_orders_1 hf (fun x1 hf => ?_)
  refine r_iload_n (pc := 4) S0 1 dX11_orders_4 rfl rfl ?_
  obtain ⟨e2, h3, hf⟩ := ok_bind hf
  refine r_cV_I (pc := 5) [iv a1] S0 hK hX mv_X11_280 (k_X2_hasSet h3) (c_X2_hasSet l cA D N sx ad T A nx I x1 a1 ca1 e2 h3) rfl rfl ⟨by decide, by decide⟩ (Nat.le_of_ble_eq_true rfl) ⟨Nat.le_refl _, Nat.le_refl _⟩ dX11_orders_5 (fun c4 => ?_)
  refine r_if_eq (pc := 8) (tgt := 22) S0 dX11_orders_8 (by decide) c4 hf (fun hf => ?_) (fun hf => ?_)
  · refine r_ldc2 (pc := 22) (z := (-2)) S0 kl_X11_303 dX11_orders_22 (by decide) ?_
    have hz := ok_some hf
    have hz : ((-2), I) = e := hz
    subst hQ
    subst hz
    exact r_lret (pc := 25) S0 hr hlk (clz (-2) rfl) dX11_orders_25
  · refine r_aload_n (pc := 11) S0 0 dX11_orders_11 rfl rfl ?_
    obtain ⟨e5, h6, hf⟩ := ok_bind hf
    refine r_cV_R (pc := 12) [] S0 hK hX mv_X11_283 (k_X11_knownSets h6) (c_X11_knownSets l cA D N sx ad T A nx I w0 e5 h6) rfl rfl ⟨by decide, by decide⟩ (Nat.le_of_ble_eq_true rfl) ⟨Nat.le_refl _, Nat.le_refl _⟩ dX11_orders_12 ?_
    refine r_iload_n (pc := 15) S0 1 dX11_orders_15 rfl rfl ?_
    obtain ⟨e7, h8, hf⟩ := ok_bind hf
    refine r_cV_J (pc := 16) [iv a1] S0 hK hX mv_X11_287 (k_X6_ordersOf h8) (c_X6_ordersOf l cA D N sx ad T A nx e5.2 e5.1 a1 ca1 e7 h8) rfl rfl ⟨by decide, by decide⟩ (Nat.le_of_ble_eq_true rfl) ⟨Nat.le_refl _, Nat.le_refl _⟩ dX11_orders_16 (fun c9 => ?_)
    refine r_goto (pc := 19) (tgt := 25) S0 dX11_orders_19 (by decide) ?_
    have hz := ok_some hf
    have hz : (e7, e5.2) = e := hz
    subst hQ
    subst hz
    exact r_lret (pc := 25) S0 hr hlk c9 dX11_orders_25

set_option maxHeartbeats 4000000 in
set_option maxRecDepth 100000 in
theorem c_X1_pick (l : Launch) (cA : Nat → ClassId) (D : va_G) (N : Nat) (sx : Sx) (ad : Nat → Nat) (T : Knd) (A : Rfs) (nx : Nat) (I : Mem) (w0 : Nat) (w1 : Nat) (a2 : Int) (ca2 : cn a2) (e : Mem) (h : f_X1_pick T A w0 w1 a2 I = some e) : CtV l yX1_pick cX1_pick 8 none 2 80 cA D N sx ad T A nx [rv ad w0, rv ad w1, iv a2] I e := by
  refine met_of (lv0 := [(0, rv ad w0), (1, rv ad w1), (2, iv a2)]) (by decide) (Nat.le_of_ble_eq_true rfl) rfl (fun p e0 s m args below meth c S0 hK hX hr hlk Q hQ => ?_)
  have hf : OK (f_X1_pick T A w0 w1 a2 I) (fun z => z = e) := ⟨e, h, rfl⟩
  unfold f_X1_pick at hf
  obtain ⟨hw0, hf⟩ := ok_grd hf
  refine r_iconst (pc := 0) S0 dX1_pick_0 ?_
  refine r_istore_n (pc := 1) (lv' := [(3, iv 0), (0, rv ad w0), (1, rv ad w1), (2, iv a2)]) S0 dX1_pick_1 rfl (by decide) rfl ?_
  refine r_lv [1, 2, 3, 0] rfl ?_
  refine it_ind (P := fun s2 => cn s2.1 → G p l e0 (rmx 2 80) s m args below meth c 0 0 Q cA D N 8 ad T A nx 2 [(0, rv ad w0), (1, rv ad w1), (2, iv a2), (3, iv s2.1)] [] s2.2) (fun n0 s2 ih1 hf c3 => ?_) FU (0, I) hf (cnz 0 rfl)
  refine r_iload_n (pc := 2) S0 3 dX1_pick_2 rfl rfl ?_
  refine r_aload_n (pc := 3) S0 1 dX1_pick_3 rfl rfl ?_
  refine r_getI (pc := 4) S0 hK fl_X1_21 dX1_pick_4 hf (fun x4 c5 hf => ?_)
  refine r_icmp_ge (pc := 7) (tgt := 167) S0 dX1_pick_7 (by decide) c3 c5 hf (fun hf => ?_) (fun hf => ?_)
  · have hz := ok_some hf
    have hz : s2.2 = e := hz
    subst hQ
    subst hz
    exact r_vret (pc := 167) S0 hr hlk dX1_pick_167
  · refine r_iload_n (pc := 10) S0 2 dX1_pick_10 rfl rfl ?_
    refine r_iconst (pc := 11) S0 dX1_pick_11 ?_
    refine r_iload_n (pc := 12) S0 3 dX1_pick_12 rfl rfl ?_
    refine r_ishl (pc := 13) S0 dX1_pick_13 ?_
    refine r_ior (pc := 14) S0 dX1_pick_14 ?_
    refine r_istore (pc := 15) (lv' := [(4, iv (ior a2 (ishl 1 s2.1))), (0, rv ad w0), (1, rv ad w1), (2, iv a2), (3, iv s2.1)]) S0 dX1_pick_15 (by decide) rfl ?_
    refine r_iload (pc := 17) S0 0 dX1_pick_17 rfl ?_
    refine r_iload_n (pc := 19) S0 3 dX1_pick_19 rfl rfl ?_
    refine r_icmp_eq (pc := 20) (tgt := 161) S0 dX1_pick_20 (by decide) (cn_toInt _) ca2 hf (fun hf => ?_) (fun hf => ?_)
    · refine r_iinc (pc := 161) (lv' := [(3, iv (ia s2.1 1)), (4, iv (ior a2 (ishl 1 s2.1))), (0, rv ad w0), (1, rv ad w1), (2, iv a2)]) S0 4 dX1_pick_161 rfl (by decide) rfl ?_
      refine r_goto (pc := 164) (tgt := 2) S0 dX1_pick_164 (by decide) ?_
      have hz := ok_some hf
      refine r_lv [2, 3, 4, 0] rfl ?_
      exact ih1 (ia s2.1 1, s2.2) hz (cn_wrap _)
    · refine r_iload (pc := 23) S0 0 dX1_pick_23 rfl ?_
      refine r_sipush (pc := 25) S0 dX1_pick_25 (by decide) ?_
      refine r_icmp_ge (pc := 28) (tgt := 161) S0 dX1_pick_28 (by decide) (cn_toInt _) (cnz 256 rfl) hf (fun hf => ?_) (fun hf => ?_)
      · refine r_iinc (pc := 161) (lv' := [(3, iv (ia s2.1 1)), (4, iv (ior a2 (ishl 1 s2.1))), (0, rv ad w0), (1, rv ad w1), (2, iv a2)]) S0 4 dX1_pick_161 rfl (by decide) rfl ?_
        refine r_goto (pc := 164) (tgt := 2) S0 dX1_pick_164 (by decide) ?_
        have hz := ok_some hf
        refine r_lv [2, 3, 4, 0] rfl ?_
        exact ih1 (ia s2.1 1, s2.2) hz (cn_wrap _)
      · refine r_aload_n (pc := 31) S0 1 dX1_pick_31 rfl rfl ?_
        refine r_getR (pc := 32) S0 hK fl_X1_9 dX1_pick_32 hf (fun x6 hf => ?_)
        refine r_iload (pc := 35) S0 0 dX1_pick_35 rfl ?_
        refine r_iald (pc := 37) S0 hK dX1_pick_37 (cn_toInt _) hf (fun x7 c8 hf => ?_)
        refine r_aload_n (pc := 38) S0 2 dX1_pick_38 rfl rfl ?_
        refine r_getR (pc := 39) S0 hK fl_X1_40 dX1_pick_39 hf (fun x9 hf => ?_)
        refine r_bipush (pc := 42) S0 dX1_pick_42 (by decide) ?_
        refine r_aald 24 4 (pc := 44) S0 hK (by decide) rfl rfl dX1_pick_44 (cnz 9 rfl) hf (fun x10 hf => ?_)
        refine r_iload_n (pc := 45) S0 4 dX1_pick_45 rfl rfl ?_
        refine r_iald (pc := 46) S0 hK dX1_pick_46 c3 hf (fun x11 c12 hf => ?_)
        refine r_iload_n (pc := 47) S0 3 dX1_pick_47 rfl rfl ?_
        refine r_iconst (pc := 48) S0 dX1_pick_48 ?_
        refine r_ixor (pc := 49) S0 dX1_pick_49 ?_
        refine r_iand (pc := 50) S0 dX1_pick_50 ?_
        obtain ⟨e13, h14, hf⟩ := ok_bind hf
        refine r_cS_I (pc := 51) [iv (iand x11 (ixor a2 (-1)))] S0 hK hX ms_X1_44 (c_J6_bitCount_0f7a4 l cA D N sx ad T A nx s2.2 (iand x11 (ixor a2 (-1))) (cn_toInt _) e13 h14) rfl rfl ⟨by decide, by decide⟩ (Nat.le_of_ble_eq_true rfl) ⟨Nat.le_refl _, Nat.le_refl _⟩ dX1_pick_51 (fun c15 => ?_)
        refine r_iadd (pc := 54) S0 dX1_pick_54 ?_
        refine r_aload_n (pc := 55) S0 2 dX1_pick_55 rfl rfl ?_
        refine r_getR (pc := 56) S0 hK fl_X1_40 dX1_pick_56 hf (fun x16 hf => ?_)
        refine r_bipush (pc := 59) S0 dX1_pick_59 (by decide) ?_
        refine r_aald 24 4 (pc := 61) S0 hK (by decide) rfl rfl dX1_pick_61 (cnz 10 rfl) hf (fun x17 hf => ?_)
        refine r_iload_n (pc := 62) S0 4 dX1_pick_62 rfl rfl ?_
        refine r_iald (pc := 63) S0 hK dX1_pick_63 c3 hf (fun x18 c19 hf => ?_)
        refine r_iload_n (pc := 64) S0 3 dX1_pick_64 rfl rfl ?_
        refine r_iand (pc := 65) S0 dX1_pick_65 ?_
        obtain ⟨e20, h21, hf⟩ := ok_bind hf
        refine r_cS_I (pc := 66) [iv (iand x18 a2)] S0 hK hX ms_X1_44 (c_J6_bitCount_0f7a4 l cA D N sx ad T A nx s2.2 (iand x18 a2) (cn_toInt _) e20 h21) rfl rfl ⟨by decide, by decide⟩ (Nat.le_of_ble_eq_true rfl) ⟨Nat.le_refl _, Nat.le_refl _⟩ dX1_pick_66 (fun c22 => ?_)
        refine r_iadd (pc := 69) S0 dX1_pick_69 ?_
        refine r_istore (pc := 70) (lv' := [(5, iv (ia (ia x7 e13) e20)), (4, iv (ior a2 (ishl 1 s2.1))), (0, rv ad w0), (1, rv ad w1), (2, iv a2), (3, iv s2.1)]) S0 dX1_pick_70 (by decide) rfl ?_
        refine r_aload_n (pc := 72) S0 2 dX1_pick_72 rfl rfl ?_
        refine r_getR (pc := 73) S0 hK fl_X1_15 dX1_pick_73 hf (fun x23 hf => ?_)
        refine r_iload (pc := 76) S0 1 dX1_pick_76 rfl ?_
        refine r_iald (pc := 78) S0 hK dX1_pick_78 (cn_toInt _) hf (fun x24 c25 hf => ?_)
        refine r_iconst (pc := 79) S0 dX1_pick_79 ?_
        refine r_iadd (pc := 80) S0 dX1_pick_80 ?_
        refine r_istore (pc := 81) (lv' := [(6, iv (ia x24 1)), (5, iv (ia (ia x7 e13) e20)), (4, iv (ior a2 (ishl 1 s2.1))), (0, rv ad w0), (1, rv ad w1), (2, iv a2), (3, iv s2.1)]) S0 dX1_pick_81 (by decide) rfl ?_
        refine r_iload (pc := 83) S0 1 dX1_pick_83 rfl ?_
        refine r_aload_n (pc := 85) S0 3 dX1_pick_85 rfl rfl ?_
        refine r_getR (pc := 86) S0 hK fl_X1_9 dX1_pick_86 hf (fun x26 hf => ?_)
        refine r_iload_n (pc := 89) S0 5 dX1_pick_89 rfl rfl ?_
        refine r_iald (pc := 90) S0 hK dX1_pick_90 ca2 hf (fun x27 c28 hf => ?_)
        refine thn_rule (P := fun v30 => cn v30 → G p l e0 (rmx 2 80) s m args below meth c 0 0 Q cA D N 8 ad T A nx 121 [(0, rv ad w0), (1, rv ad w1), (2, iv a2), (3, iv s2.1), (5, iv (ia (ia x7 e13) e20)), (6, iv (ia x24 1))] [iv v30] s2.2) hf (fun v30 hf c31 => ?_) (fun K29 hf => ?_)
        · refine r_istore (pc := 121) (lv' := [(7, iv v30), (0, rv ad w0), (1, rv ad w1), (2, iv a2), (3, iv s2.1), (5, iv (ia (ia x7 e13) e20)), (6, iv (ia x24 1))]) S0 dX1_pick_121 (by decide) rfl ?_
          refine r_aload_n (pc := 123) S0 1 dX1_pick_123 rfl rfl ?_
          refine r_getR (pc := 124) S0 hK fl_X1_18 dX1_pick_124 hf (fun x40 hf => ?_)
          refine r_iload_n (pc := 127) S0 3 dX1_pick_127 rfl rfl ?_
          refine r_iald (pc := 128) S0 hK dX1_pick_128 ca2 hf (fun x41 c42 hf => ?_)
          refine r_iconst (pc := 129) S0 dX1_pick_129 ?_
          refine thn_rule (P := fun v44 => G p l e0 (rmx 2 80) s m args below meth c 0 0 Q cA D N 8 ad T A nx 138 [(0, rv ad w0), (1, rv ad w1), (2, iv a2), (3, iv s2.1), (5, iv (ia (ia x7 e13) e20)), (6, iv (ia x24 1))] [] s2.2) hf (fun v44 hf => ?_) (fun K43 hf => ?_)
          · refine r_aload_n (pc := 138) S0 0 dX1_pick_138 rfl rfl ?_
            refine r_getR (pc := 139) S0 hK fl_X1_9 dX1_pick_139 hf (fun x45 hf => ?_)
            refine r_iload_n (pc := 142) S0 2 dX1_pick_142 rfl rfl ?_
            refine r_iload (pc := 143) S0 4 dX1_pick_143 rfl ?_
            refine r_iast (pc := 145) S0 hK dX1_pick_145 ca2 (cn_wrap _) hf (fun I46 hf => ?_)
            refine r_aload_n (pc := 146) S0 0 dX1_pick_146 rfl rfl ?_
            refine r_getR (pc := 147) S0 hK fl_X1_15 dX1_pick_147 hf (fun x47 hf => ?_)
            refine r_iload_n (pc := 150) S0 2 dX1_pick_150 rfl rfl ?_
            refine r_iload (pc := 151) S0 5 dX1_pick_151 rfl ?_
            refine r_iast (pc := 153) S0 hK dX1_pick_153 ca2 (cn_wrap _) hf (fun I48 hf => ?_)
            refine r_aload_n (pc := 154) S0 0 dX1_pick_154 rfl rfl ?_
            refine r_getR (pc := 155) S0 hK fl_X1_18 dX1_pick_155 hf (fun x49 hf => ?_)
            refine r_iload_n (pc := 158) S0 2 dX1_pick_158 rfl rfl ?_
            refine r_iload_n (pc := 159) S0 3 dX1_pick_159 rfl rfl ?_
            refine r_iast (pc := 160) S0 hK dX1_pick_160 ca2 c3 hf (fun I50 hf => ?_)
            refine r_iinc (pc := 161) (lv' := [(3, iv (ia s2.1 1)), (0, rv ad w0), (1, rv ad w1), (2, iv a2), (5, iv (ia (ia x7 e13) e20)), (6, iv (ia x24 1))]) S0 3 dX1_pick_161 rfl (by decide) rfl ?_
            refine r_goto (pc := 164) (tgt := 2) S0 dX1_pick_164 (by decide) ?_
            have hz := ok_some hf
            refine r_lv [1, 2, 3, 0] rfl ?_
            exact ih1 (ia s2.1 1, I50) hz (cn_wrap _)
          · refine r_icmp_eq (pc := 130) (tgt := 138) S0 dX1_pick_130 (by decide) c42 (cnz (-1) rfl) hf (fun hf => ?_) (fun hf => ?_)
            · have hz := ok_some hf
              refine r_lv [1, 2, 3, 4, 5, 6] rfl ?_
              exact K43 () hz
            · refine r_iload (pc := 133) S0 0 dX1_pick_133 rfl ?_
              refine r_if_eq (pc := 135) (tgt := 161) S0 dX1_pick_135 (by decide) c31 hf (fun hf => ?_) (fun hf => ?_)
              · refine r_iinc (pc := 161) (lv' := [(3, iv (ia s2.1 1)), (7, iv v30), (0, rv ad w0), (1, rv ad w1), (2, iv a2), (5, iv (ia (ia x7 e13) e20)), (6, iv (ia x24 1))]) S0 4 dX1_pick_161 rfl (by decide) rfl ?_
                refine r_goto (pc := 164) (tgt := 2) S0 dX1_pick_164 (by decide) ?_
                have hz := ok_some hf
                refine r_lv [2, 3, 4, 0] rfl ?_
                exact ih1 (ia s2.1 1, s2.2) hz (cn_wrap _)
              · have hz := ok_some hf
                refine r_lv [1, 2, 3, 4, 5, 6] rfl ?_
                exact K43 () hz
        · refine thn_rule (P := fun v33 => G p l e0 (rmx 2 80) s m args below meth c 0 0 Q cA D N 8 ad T A nx 116 [(0, rv ad w0), (1, rv ad w1), (2, iv a2), (3, iv s2.1), (5, iv (ia (ia x7 e13) e20)), (6, iv (ia x24 1))] [] s2.2) hf (fun v33 hf => ?_) (fun K32 hf => ?_)
          · refine r_iconst (pc := 116) S0 dX1_pick_116 ?_
            refine r_goto (pc := 117) (tgt := 121) S0 dX1_pick_117 (by decide) ?_
            have hz := ok_some hf
            refine r_lv [0, 1, 2, 3, 4, 5] rfl ?_
            exact K29 1 hz (cnz 1 rfl)
          · refine r_icmp_lt (pc := 91) (tgt := 116) S0 dX1_pick_91 (by decide) (cn_wrap _) c28 hf (fun hf => ?_) (fun hf => ?_)
            · have hz := ok_some hf
              refine r_lv [3, 4, 5, 6, 1, 0] rfl ?_
              exact K32 () hz
            · refine r_iload (pc := 94) S0 1 dX1_pick_94 rfl ?_
              refine r_aload_n (pc := 96) S0 3 dX1_pick_96 rfl rfl ?_
              refine r_getR (pc := 97) S0 hK fl_X1_9 dX1_pick_97 hf (fun x34 hf => ?_)
              refine r_iload_n (pc := 100) S0 5 dX1_pick_100 rfl rfl ?_
              refine r_iald (pc := 101) S0 hK dX1_pick_101 ca2 hf (fun x35 c36 hf => ?_)
              refine r_icmp_ne (pc := 102) (tgt := 120) S0 dX1_pick_102 (by decide) (cn_wrap _) c36 hf (fun hf => ?_) (fun hf => ?_)
              · refine r_iconst (pc := 120) S0 dX1_pick_120 ?_
                have hz := ok_some hf
                refine r_lv [3, 4, 5, 6, 1, 0] rfl ?_
                exact K29 0 hz (cnz 0 rfl)
              · refine r_iload (pc := 105) S0 0 dX1_pick_105 rfl ?_
                refine r_aload_n (pc := 107) S0 3 dX1_pick_107 rfl rfl ?_
                refine r_getR (pc := 108) S0 hK fl_X1_15 dX1_pick_108 hf (fun x37 hf => ?_)
                refine r_iload_n (pc := 111) S0 5 dX1_pick_111 rfl rfl ?_
                refine r_iald (pc := 112) S0 hK dX1_pick_112 ca2 hf (fun x38 c39 hf => ?_)
                refine r_icmp_ge (pc := 113) (tgt := 120) S0 dX1_pick_113 (by decide) (cn_wrap _) c39 hf (fun hf => ?_) (fun hf => ?_)
                · refine r_iconst (pc := 120) S0 dX1_pick_120 ?_
                  have hz := ok_some hf
                  refine r_lv [3, 4, 5, 6, 1, 0] rfl ?_
                  exact K29 0 hz (cnz 0 rfl)
                · have hz := ok_some hf
                  refine r_lv [3, 4, 5, 6, 1, 0] rfl ?_
                  exact K32 () hz

set_option maxHeartbeats 4000000 in
set_option maxRecDepth 100000 in
theorem c_X1_weigh (l : Launch) (cA : Nat → ClassId) (D : va_G) (N : Nat) (sx : Sx) (ad : Nat → Nat) (T : Knd) (A : Rfs) (nx : Nat) (I : Mem) (w0 : Nat) (w1 : Nat)  (e : Mem) (h : f_X1_weigh T A w0 w1 I = some e) : CtV l yX1_weigh cX1_weigh 3 none 3 107 cA D N sx ad T A nx [rv ad w0, rv ad w1] I e := by
  refine met_of (lv0 := [(0, rv ad w0), (1, rv ad w1)]) (by decide) (Nat.le_of_ble_eq_true rfl) rfl (fun p e0 s m args below meth c S0 hK hX hr hlk Q hQ => ?_)
  have hf : OK (f_X1_weigh T A w0 w1 I) (fun z => z = e) := ⟨e, h, rfl⟩
  unfold f_X1_weigh at hf
  obtain ⟨hw0, hf⟩ := ok_grd hf
  refine r_iconst (pc := 0) S0 dX1_weigh_0 ?_
  refine r_aload_n (pc := 1) S0 1 dX1_weigh_1 rfl rfl ?_
  refine r_getI (pc := 2) S0 hK fl_X1_21 dX1_weigh_2 hf (fun x1 c2 hf => ?_)
  refine r_ishl (pc := 5) S0 dX1_weigh_5 ?_
  refine r_sipush (pc := 6) S0 dX1_weigh_6 (by decide) ?_
  refine r_mmin (pc := 9) S0 mmmin_X1_27 ⟨by decide, Nat.le_of_ble_eq_true rfl⟩ ⟨Nat.le_refl _, Nat.le_refl _⟩ dX1_weigh_9 (cn_toInt _) (cnz 256 rfl) ?_
  refine r_iconst (pc := 12) S0 dX1_weigh_12 ?_
  refine r_isub (pc := 13) S0 dX1_weigh_13 ?_
  refine r_istore_n (pc := 14) (lv' := [(2, iv (isb (imin (ishl 1 x1) 256) 1)), (0, rv ad w0), (1, rv ad w1)]) S0 dX1_weigh_14 rfl (by decide) rfl ?_
  refine r_lv [1, 2, 0] rfl ?_
  refine it_ind (P := fun s4 => cn s4.1 → G p l e0 (rmx 3 107) s m args below meth c 0 0 Q cA D N 3 ad T A nx 15 [(0, rv ad w0), (1, rv ad w1), (2, iv s4.1)] [] s4.2) (fun n0 s4 ih3 hf c5 => ?_) FU (isb (imin (ishl 1 x1) 256) 1, I) hf (cn_wrap _)
  refine r_iload_n (pc := 15) S0 2 dX1_weigh_15 rfl rfl ?_
  refine r_if_lt (pc := 16) (tgt := 63) S0 dX1_weigh_16 (by decide) c5 hf (fun hf => ?_) (fun hf => ?_)
  · have hz := ok_some hf
    have hz : s4.2 = e := hz
    subst hQ
    subst hz
    exact r_vret (pc := 63) S0 hr hlk dX1_weigh_63
  · refine r_aload_n (pc := 19) S0 0 dX1_weigh_19 rfl rfl ?_
    refine r_getR (pc := 20) S0 hK fl_X1_9 dX1_weigh_20 hf (fun x6 hf => ?_)
    refine r_iload_n (pc := 23) S0 2 dX1_weigh_23 rfl rfl ?_
    refine r_iconst (pc := 24) S0 dX1_weigh_24 ?_
    refine r_iast (pc := 25) S0 hK dX1_weigh_25 c5 (cnz 0 rfl) hf (fun I7 hf => ?_)
    refine r_aload_n (pc := 26) S0 0 dX1_weigh_26 rfl rfl ?_
    refine r_getR (pc := 27) S0 hK fl_X1_15 dX1_weigh_27 hf (fun x8 hf => ?_)
    refine r_iload_n (pc := 30) S0 2 dX1_weigh_30 rfl rfl ?_
    refine r_iconst (pc := 31) S0 dX1_weigh_31 ?_
    refine r_iast (pc := 32) S0 hK dX1_weigh_32 c5 (cnz 0 rfl) hf (fun I9 hf => ?_)
    refine r_aload_n (pc := 33) S0 0 dX1_weigh_33 rfl rfl ?_
    refine r_getR (pc := 34) S0 hK fl_X1_18 dX1_weigh_34 hf (fun x10 hf => ?_)
    refine r_iload_n (pc := 37) S0 2 dX1_weigh_37 rfl rfl ?_
    refine r_iconst (pc := 38) S0 dX1_weigh_38 ?_
    refine r_iast (pc := 39) S0 hK dX1_weigh_39 c5 (cnz (-1) rfl) hf (fun I11 hf => ?_)
    refine r_aload_n (pc := 40) S0 1 dX1_weigh_40 rfl rfl ?_
    refine r_getI (pc := 41) S0 hK fl_X1_33 dX1_weigh_41 hf (fun x12 c13 hf => ?_)
    refine r_iload_n (pc := 44) S0 2 dX1_weigh_44 rfl rfl ?_
    refine r_iconst (pc := 45) S0 dX1_weigh_45 ?_
    refine r_ixor (pc := 46) S0 dX1_weigh_46 ?_
    refine r_iand (pc := 47) S0 dX1_weigh_47 ?_
    refine r_if_eq (pc := 48) (tgt := 57) S0 dX1_weigh_48 (by decide) (cn_toInt _) hf (fun hf => ?_) (fun hf => ?_)
    · refine r_iinc (pc := 57) (lv' := [(2, iv (ia s4.1 (-1))), (0, rv ad w0), (1, rv ad w1)]) S0 2 dX1_weigh_57 rfl (by decide) rfl ?_
      refine r_goto (pc := 60) (tgt := 15) S0 dX1_weigh_60 (by decide) ?_
      have hz := ok_some hf
      refine r_lv [1, 2, 0] rfl ?_
      exact ih3 (ia s4.1 (-1), I11) hz (cn_wrap _)
    · refine r_aload_n (pc := 51) S0 0 dX1_weigh_51 rfl rfl ?_
      refine r_aload_n (pc := 52) S0 1 dX1_weigh_52 rfl rfl ?_
      refine r_iload_n (pc := 53) S0 2 dX1_weigh_53 rfl rfl ?_
      obtain ⟨e14, h15, hf⟩ := ok_bind hf
      refine r_cV_V (pc := 54) [rv ad w1, iv s4.1] S0 hK hX mv_X1_36 (k_X1_pick h15) (c_X1_pick l cA D N sx ad T A nx I11 w0 w1 s4.1 c5 e14 h15) rfl rfl ⟨by decide, by decide⟩ (Nat.le_of_ble_eq_true rfl) ⟨Nat.le_refl _, Nat.le_refl _⟩ dX1_weigh_54 ?_
      refine r_iinc (pc := 57) (lv' := [(2, iv (ia s4.1 (-1))), (0, rv ad w0), (1, rv ad w1)]) S0 2 dX1_weigh_57 rfl (by decide) rfl ?_
      refine r_goto (pc := 60) (tgt := 15) S0 dX1_weigh_60 (by decide) ?_
      have hz := ok_some hf
      refine r_lv [1, 2, 0] rfl ?_
      exact ih3 (ia s4.1 (-1), e14) hz (cn_wrap _)

set_option maxHeartbeats 4000000 in
set_option maxRecDepth 100000 in
theorem c_X1_dropped (l : Launch) (cA : Nat → ClassId) (D : va_G) (N : Nat) (sx : Sx) (ad : Nat → Nat) (T : Knd) (A : Rfs) (nx : Nat) (I : Mem) (w0 : Nat)  (e : Int) (h : f_X1_dropped T A w0 I = some e) : CtI l yX1_dropped cX1_dropped 1 (some .int) 1 60 cA D N sx ad T A nx [rv ad w0] I I e := by
  refine met_of (lv0 := [(0, rv ad w0)]) (by decide) (Nat.le_of_ble_eq_true rfl) rfl (fun p e0 s m args below meth c S0 hK hX hr hlk Q hQ => ?_)
  have hf : OK (f_X1_dropped T A w0 I) (fun z => z = e) := ⟨e, h, rfl⟩
  unfold f_X1_dropped at hf
  obtain ⟨hw0, hf⟩ := ok_grd hf
  refine r_aload_n (pc := 0) S0 0 dX1_dropped_0 rfl rfl ?_
  refine r_getR (pc := 1) S0 hK fl_X1_9 dX1_dropped_1 hf (fun x1 hf => ?_)
  refine r_iconst (pc := 4) S0 dX1_dropped_4 ?_
  refine r_iald (pc := 5) S0 hK dX1_dropped_5 (cnz 0 rfl) hf (fun x2 c3 hf => ?_)
  have hz := ok_some hf
  have hz : x2 = e := hz
  subst hQ
  subst hz
  exact r_iret (pc := 6) S0 hr hlk c3 dX1_dropped_6

set_option maxHeartbeats 4000000 in
set_option maxRecDepth 100000 in
theorem c_X11_loose (l : Launch) (cA : Nat → ClassId) (D : va_G) (N : Nat) (sx : Sx) (ad : Nat → Nat) (T : Knd) (A : Rfs) (nx : Nat) (I : Mem) (w0 : Nat)  (e : (Int × Mem)) (h : f_X11_loose T A w0 I = some e) : CtI l yX11_loose cX11_loose 1 (some .int) 4 129 cA D N sx ad T A nx [rv ad w0] I e.2 e.1 := by
  refine met_of (lv0 := [(0, rv ad w0)]) (by decide) (Nat.le_of_ble_eq_true rfl) rfl (fun p e0 s m args below meth c S0 hK hX hr hlk Q hQ => ?_)
  have hf : OK (f_X11_loose T A w0 I) (fun z => z = e) := ⟨e, h, rfl⟩
  unfold f_X11_loose at hf
  obtain ⟨hw0, hf⟩ := ok_grd hf
  refine r_aload_n (pc := 0) S0 0 dX11_loose_0 rfl rfl ?_
  refine r_getR (pc := 1) S0 hK fl_X11_28 dX11_loose_1 hf (fun x1 hf => ?_)
  obtain ⟨e2, h3, hf⟩ := ok_bind hf
  refine r_cV_I (pc := 4) [] S0 hK hX mv_X11_170 (k_X2_isThere h3) (c_X2_isThere l cA D N sx ad T A nx I x1 e2 h3) rfl rfl ⟨by decide, by decide⟩ (Nat.le_of_ble_eq_true rfl) ⟨Nat.le_refl _, Nat.le_refl _⟩ dX11_loose_4 (fun c4 => ?_)
  refine r_if_ne (pc := 7) (tgt := 13) S0 dX11_loose_7 (by decide) c4 hf (fun hf => ?_) (fun hf => ?_)
  · refine r_aload_n (pc := 13) S0 0 dX11_loose_13 rfl rfl ?_
    refine r_getR (pc := 14) S0 hK fl_X11_76 dX11_loose_14 hf (fun x5 hf => ?_)
    refine r_aload_n (pc := 17) S0 0 dX11_loose_17 rfl rfl ?_
    refine r_getR (pc := 18) S0 hK fl_X11_28 dX11_loose_18 hf (fun x6 hf => ?_)
    obtain ⟨e7, h8, hf⟩ := ok_bind hf
    refine r_cV_V (pc := 21) [rv ad x6] S0 hK hX mv_X11_305 (k_X1_weigh h8) (c_X1_weigh l cA D N sx ad T A nx I x5 x6 e7 h8) rfl rfl ⟨by decide, by decide⟩ (Nat.le_of_ble_eq_true rfl) ⟨Nat.le_refl _, Nat.le_refl _⟩ dX11_loose_21 ?_
    refine r_aload_n (pc := 24) S0 0 dX11_loose_24 rfl rfl ?_
    refine r_getR (pc := 25) S0 hK fl_X11_76 dX11_loose_25 hf (fun x9 hf => ?_)
    obtain ⟨e10, h11, hf⟩ := ok_bind hf
    refine r_cV_I (pc := 28) [] S0 hK hX mv_X11_308 (k_X1_dropped h11) (c_X1_dropped l cA D N sx ad T A nx e7 x9 e10 h11) rfl rfl ⟨by decide, by decide⟩ (Nat.le_of_ble_eq_true rfl) ⟨Nat.le_refl _, Nat.le_refl _⟩ dX11_loose_28 (fun c12 => ?_)
    have hz := ok_some hf
    have hz : (e10, e7) = e := hz
    subst hQ
    subst hz
    exact r_iret (pc := 31) S0 hr hlk c12 dX11_loose_31
  · refine r_bipush (pc := 10) S0 dX11_loose_10 (by decide) ?_
    have hz := ok_some hf
    have hz : ((-2), I) = e := hz
    subst hQ
    subst hz
    exact r_iret (pc := 12) S0 hr hlk (cnz (-2) rfl) dX11_loose_12

set_option maxHeartbeats 4000000 in
set_option maxRecDepth 100000 in
theorem c_X1_officialAt (l : Launch) (cA : Nat → ClassId) (D : va_G) (N : Nat) (sx : Sx) (ad : Nat → Nat) (T : Knd) (A : Rfs) (nx : Nat) (I : Mem) (w0 : Nat) (a1 : Int) (ca1 : cn a1) (e : Int) (h : f_X1_officialAt T A w0 a1 I = some e) : CtI l yX1_officialAt cX1_officialAt 4 (some .int) 1 60 cA D N sx ad T A nx [rv ad w0, iv a1] I I e := by
  refine met_of (lv0 := [(0, rv ad w0), (1, iv a1)]) (by decide) (Nat.le_of_ble_eq_true rfl) rfl (fun p e0 s m args below meth c S0 hK hX hr hlk Q hQ => ?_)
  have hf : OK (f_X1_officialAt T A w0 a1 I) (fun z => z = e) := ⟨e, h, rfl⟩
  unfold f_X1_officialAt at hf
  obtain ⟨hw0, hf⟩ := ok_grd hf
  refine r_iload_n (pc := 0) S0 1 dX1_officialAt_0 rfl rfl ?_
  refine r_if_lt (pc := 1) (tgt := 14) S0 dX1_officialAt_1 (by decide) ca1 hf (fun hf => ?_) (fun hf => ?_)
  · refine r_iconst (pc := 14) S0 dX1_officialAt_14 ?_
    have hz := ok_some hf
    have hz : (-1) = e := hz
    subst hQ
    subst hz
    exact r_iret (pc := 15) S0 hr hlk (cnz (-1) rfl) dX1_officialAt_15
  · refine r_iload_n (pc := 4) S0 1 dX1_officialAt_4 rfl rfl ?_
    refine r_aload_n (pc := 5) S0 0 dX1_officialAt_5 rfl rfl ?_
    refine r_getR (pc := 6) S0 hK fl_X1_15 dX1_officialAt_6 hf (fun x1 hf => ?_)
    refine r_iconst (pc := 9) S0 dX1_officialAt_9 ?_
    refine r_iald (pc := 10) S0 hK dX1_officialAt_10 (cnz 0 rfl) hf (fun x2 c3 hf => ?_)
    refine r_icmp_lt (pc := 11) (tgt := 16) S0 dX1_officialAt_11 (by decide) ca1 c3 hf (fun hf => ?_) (fun hf => ?_)
    · refine r_iconst (pc := 16) S0 dX1_officialAt_16 ?_
      refine r_istore_n (pc := 17) (lv' := [(2, iv 0), (0, rv ad w0), (1, iv a1)]) S0 dX1_officialAt_17 rfl (by decide) rfl ?_
      refine r_iconst (pc := 18) S0 dX1_officialAt_18 ?_
      refine r_istore_n (pc := 19) (lv' := [(3, iv 0), (2, iv 0), (0, rv ad w0), (1, iv a1)]) S0 dX1_officialAt_19 rfl (by decide) rfl ?_
      refine thn_rule (P := fun v5 => cn v5 → G p l e0 (rmx 1 60) s m args below meth c 0 0 Q cA D N 4 ad T A nx 59 [(0, rv ad w0), (2, iv v5)] [] I) hf (fun v5 hf c6 => ?_) (fun K4 hf => ?_)
      · refine r_iload_n (pc := 59) S0 1 dX1_officialAt_59 rfl rfl ?_
        refine r_sipush (pc := 60) S0 dX1_officialAt_60 (by decide) ?_
        refine r_icmp_ge (pc := 63) (tgt := 75) S0 dX1_officialAt_63 (by decide) c6 (cnz 256 rfl) hf (fun hf => ?_) (fun hf => ?_)
        · refine r_iconst (pc := 75) S0 dX1_officialAt_75 ?_
          have hz := ok_some hf
          have hz : (-1) = e := hz
          subst hQ
          subst hz
          exact r_iret (pc := 76) S0 hr hlk (cnz (-1) rfl) dX1_officialAt_76
        · refine r_aload_n (pc := 66) S0 0 dX1_officialAt_66 rfl rfl ?_
          refine r_getR (pc := 67) S0 hK fl_X1_18 dX1_officialAt_67 hf (fun x17 hf => ?_)
          refine r_iload_n (pc := 70) S0 1 dX1_officialAt_70 rfl rfl ?_
          refine r_iald (pc := 71) S0 hK dX1_officialAt_71 c6 hf (fun x18 c19 hf => ?_)
          refine r_goto (pc := 72) (tgt := 76) S0 dX1_officialAt_72 (by decide) ?_
          have hz := ok_some hf
          have hz : x18 = e := hz
          subst hQ
          subst hz
          exact r_iret (pc := 76) S0 hr hlk c19 dX1_officialAt_76
      · refine r_lv [2, 3, 1, 0] rfl ?_
        refine it_ind (P := fun s8 => cn s8.1 → cn s8.2 → G p l e0 (rmx 1 60) s m args below meth c 0 0 Q cA D N 4 ad T A nx 20 [(0, rv ad w0), (1, iv a1), (2, iv s8.1), (3, iv s8.2)] [] I) (fun n0 s8 ih7 hf c9 c10 => ?_) FU (0, 0) hf (cnz 0 rfl) (cnz 0 rfl)
        refine r_iload_n (pc := 20) S0 3 dX1_officialAt_20 rfl rfl ?_
        refine r_iload_n (pc := 21) S0 1 dX1_officialAt_21 rfl rfl ?_
        refine r_icmp_ge (pc := 22) (tgt := 59) S0 dX1_officialAt_22 (by decide) c10 ca1 hf (fun hf => ?_) (fun hf => ?_)
        · have hz := ok_some hf
          refine r_lv [0, 2] rfl ?_
          exact K4 s8.1 hz c9
        · refine r_iload_n (pc := 25) S0 2 dX1_officialAt_25 rfl rfl ?_
          refine r_sipush (pc := 26) S0 dX1_officialAt_26 (by decide) ?_
          refine r_icmp_ge (pc := 29) (tgt := 59) S0 dX1_officialAt_29 (by decide) c9 (cnz 256 rfl) hf (fun hf => ?_) (fun hf => ?_)
          · have hz := ok_some hf
            refine r_lv [0, 2] rfl ?_
            exact K4 s8.1 hz c9
          · refine r_aload_n (pc := 32) S0 0 dX1_officialAt_32 rfl rfl ?_
            refine r_getR (pc := 33) S0 hK fl_X1_18 dX1_officialAt_33 hf (fun x11 hf => ?_)
            refine r_iload_n (pc := 36) S0 2 dX1_officialAt_36 rfl rfl ?_
            refine r_iald (pc := 37) S0 hK dX1_officialAt_37 c9 hf (fun x12 c13 hf => ?_)
            refine r_iconst (pc := 38) S0 dX1_officialAt_38 ?_
            refine r_icmp_eq (pc := 39) (tgt := 59) S0 dX1_officialAt_39 (by decide) c13 (cnz (-1) rfl) hf (fun hf => ?_) (fun hf => ?_)
            · have hz := ok_some hf
              refine r_lv [0, 2] rfl ?_
              exact K4 s8.1 hz c9
            · refine r_iload_n (pc := 42) S0 2 dX1_officialAt_42 rfl rfl ?_
              refine r_iconst (pc := 43) S0 dX1_officialAt_43 ?_
              refine r_aload_n (pc := 44) S0 0 dX1_officialAt_44 rfl rfl ?_
              refine r_getR (pc := 45) S0 hK fl_X1_18 dX1_officialAt_45 hf (fun x14 hf => ?_)
              refine r_iload_n (pc := 48) S0 2 dX1_officialAt_48 rfl rfl ?_
              refine r_iald (pc := 49) S0 hK dX1_officialAt_49 c9 hf (fun x15 c16 hf => ?_)
              refine r_ishl (pc := 50) S0 dX1_officialAt_50 ?_
              refine r_ior (pc := 51) S0 dX1_officialAt_51 ?_
              refine r_istore_n (pc := 52) (lv' := [(2, iv (ior s8.1 (ishl 1 x15))), (0, rv ad w0), (1, iv a1), (3, iv s8.2)]) S0 dX1_officialAt_52 rfl (by decide) rfl ?_
              refine r_iinc (pc := 53) (lv' := [(3, iv (ia s8.2 1)), (2, iv (ior s8.1 (ishl 1 x15))), (0, rv ad w0), (1, iv a1)]) S0 3 dX1_officialAt_53 rfl (by decide) rfl ?_
              refine r_goto (pc := 56) (tgt := 20) S0 dX1_officialAt_56 (by decide) ?_
              have hz := ok_some hf
              refine r_lv [2, 3, 1, 0] rfl ?_
              exact ih7 (ior s8.1 (ishl 1 x15), ia s8.2 1) hz (cn_toInt _) (cn_wrap _)
    · refine r_iconst (pc := 14) S0 dX1_officialAt_14 ?_
      have hz := ok_some hf
      have hz : (-1) = e := hz
      subst hQ
      subst hz
      exact r_iret (pc := 15) S0 hr hlk (cnz (-1) rfl) dX1_officialAt_15

set_option maxHeartbeats 4000000 in
set_option maxRecDepth 100000 in
theorem c_X11_loosely (l : Launch) (cA : Nat → ClassId) (D : va_G) (N : Nat) (sx : Sx) (ad : Nat → Nat) (T : Knd) (A : Rfs) (nx : Nat) (I : Mem) (w0 : Nat) (a1 : Int) (ca1 : cn a1) (e : (Int × Mem)) (h : f_X11_loosely T A w0 a1 I = some e) : CtI l yX11_loosely cX11_loosely 2 (some .int) 4 129 cA D N sx ad T A nx [rv ad w0, iv a1] I e.2 e.1 := by
  refine met_of (lv0 := [(0, rv ad w0), (1, iv a1)]) (by decide) (Nat.le_of_ble_eq_true rfl) rfl (fun p e0 s m args below meth c S0 hK hX hr hlk Q hQ => ?_)
  have hf : OK (f_X11_loosely T A w0 a1 I) (fun z => z = e) := ⟨e, h, rfl⟩
  unfold f_X11_loosely at hf
  obtain ⟨hw0, hf⟩ := ok_grd hf
  refine r_aload_n (pc := 0) S0 0 dX11_loosely_0 rfl rfl ?_
  refine r_getR (pc := 1) S0 hK fl_X11_28 dX11_loosely_1 hf (fun x1 hf => ?_)
  obtain ⟨e2, h3, hf⟩ := ok_bind hf
  refine r_cV_I (pc := 4) [] S0 hK hX mv_X11_170 (k_X2_isThere h3) (c_X2_isThere l cA D N sx ad T A nx I x1 e2 h3) rfl rfl ⟨by decide, by decide⟩ (Nat.le_of_ble_eq_true rfl) ⟨Nat.le_refl _, Nat.le_refl _⟩ dX11_loosely_4 (fun c4 => ?_)
  refine r_if_ne (pc := 7) (tgt := 13) S0 dX11_loosely_7 (by decide) c4 hf (fun hf => ?_) (fun hf => ?_)
  · refine r_aload_n (pc := 13) S0 0 dX11_loosely_13 rfl rfl ?_
    refine r_getR (pc := 14) S0 hK fl_X11_76 dX11_loosely_14 hf (fun x5 hf => ?_)
    refine r_aload_n (pc := 17) S0 0 dX11_loosely_17 rfl rfl ?_
    refine r_getR (pc := 18) S0 hK fl_X11_28 dX11_loosely_18 hf (fun x6 hf => ?_)
    obtain ⟨e7, h8, hf⟩ := ok_bind hf
    refine r_cV_V (pc := 21) [rv ad x6] S0 hK hX mv_X11_305 (k_X1_weigh h8) (c_X1_weigh l cA D N sx ad T A nx I x5 x6 e7 h8) rfl rfl ⟨by decide, by decide⟩ (Nat.le_of_ble_eq_true rfl) ⟨Nat.le_refl _, Nat.le_refl _⟩ dX11_loosely_21 ?_
    refine r_aload_n (pc := 24) S0 0 dX11_loosely_24 rfl rfl ?_
    refine r_getR (pc := 25) S0 hK fl_X11_76 dX11_loosely_25 hf (fun x9 hf => ?_)
    refine r_iload_n (pc := 28) S0 1 dX11_loosely_28 rfl rfl ?_
    obtain ⟨e10, h11, hf⟩ := ok_bind hf
    refine r_cV_I (pc := 29) [iv a1] S0 hK hX mv_X11_311 (k_X1_officialAt h11) (c_X1_officialAt l cA D N sx ad T A nx e7 x9 a1 ca1 e10 h11) rfl rfl ⟨by decide, by decide⟩ (Nat.le_of_ble_eq_true rfl) ⟨Nat.le_refl _, Nat.le_refl _⟩ dX11_loosely_29 (fun c12 => ?_)
    have hz := ok_some hf
    have hz : (e10, e7) = e := hz
    subst hQ
    subst hz
    exact r_iret (pc := 32) S0 hr hlk c12 dX11_loosely_32
  · refine r_bipush (pc := 10) S0 dX11_loosely_10 (by decide) ?_
    have hz := ok_some hf
    have hz : ((-2), I) = e := hz
    subst hQ
    subst hz
    exact r_iret (pc := 12) S0 hr hlk (cnz (-2) rfl) dX11_loosely_12
