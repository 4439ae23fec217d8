/-! Contracts, laid by wip/gen/gen.py. -/
set_option maxHeartbeats 4000000 in
set_option maxRecDepth 100000 in
theorem c_X4_takeSign (l : Launch) (cA : Nat → ClassId) (D : va_G) (N : Nat) (sx : Sx) (ad : Nat → Nat) (T : Knd) (A : Rfs) (nx : Nat) (I : Mem) (w0 : Nat)  (e : Mem) (h : f_X4_takeSign T A w0 I = some e) : CtV l yX4_takeSign cX4_takeSign 1 none 3 101 cA D N sx ad T A nx [rv ad w0] I e := by
  refine met_of (lv0 := [(0, rv ad w0)]) (by decide) (Nat.le_of_ble_eq_true rfl) rfl (fun p e0 s m args below meth c S0 hK hX hr hlk Q hQ => ?_)
  have hf : OK (f_X4_takeSign T A w0 I) (fun z => z = e) := ⟨e, h, rfl⟩
  unfold f_X4_takeSign at hf
  obtain ⟨hw0, hf⟩ := ok_grd hf
  refine r_aload_n (pc := 0) S0 0 dX4_takeSign_0 rfl rfl ?_
  refine r_getI (pc := 1) S0 hK fl_X4_29 dX4_takeSign_1 hf (fun x1 c2 hf => ?_)
  refine r_if_eq (pc := 4) (tgt := 8) S0 dX4_takeSign_4 (by decide) c2 hf (fun hf => ?_) (fun hf => ?_)
  · refine r_aload_n (pc := 8) S0 0 dX4_takeSign_8 rfl rfl ?_
    refine r_getR (pc := 9) S0 hK fl_X4_22 dX4_takeSign_9 hf (fun x3 hf => ?_)
    refine r_getI (pc := 12) S0 hK fl_X4_37 dX4_takeSign_12 hf (fun x4 c5 hf => ?_)
    refine r_iconst (pc := 15) S0 dX4_takeSign_15 ?_
    refine r_icmp_eq (pc := 16) (tgt := 26) S0 dX4_takeSign_16 (by decide) c5 (cnz 3 rfl) hf (fun hf => ?_) (fun hf => ?_)
    · refine r_aload_n (pc := 26) S0 0 dX4_takeSign_26 rfl rfl ?_
      refine r_getR (pc := 27) S0 hK fl_X4_22 dX4_takeSign_27 hf (fun x6 hf => ?_)
      obtain ⟨e7, h8, hf⟩ := ok_bind hf
      refine r_cV_V (pc := 30) [] S0 hK hX mv_X4_90 (k_X8_advance h8) (c_X8_advance l cA D N sx ad T A nx I x6 e7 h8) rfl rfl ⟨by decide, by decide⟩ (Nat.le_of_ble_eq_true rfl) ⟨Nat.le_refl _, Nat.le_refl _⟩ dX4_takeSign_30 ?_
      refine r_aload_n (pc := 33) S0 0 dX4_takeSign_33 rfl rfl ?_
      refine r_getR (pc := 34) S0 hK fl_X4_12 dX4_takeSign_34 hf (fun x9 hf => ?_)
      refine r_dup (pc := 37) S0 dX4_takeSign_37 rfl ?_
      refine r_getI (pc := 38) S0 hK fl_X4_49 dX4_takeSign_38 hf (fun x10 c11 hf => ?_)
      refine r_iconst (pc := 41) S0 dX4_takeSign_41 ?_
      refine r_iadd (pc := 42) S0 dX4_takeSign_42 ?_
      refine r_putI (pc := 43) S0 hK fl_X4_49 rfl rfl (cn_wrap _) dX4_takeSign_43 hf (fun I12 hf => ?_)
      have hz := ok_some hf
      have hz : I12 = e := hz
      subst hQ
      subst hz
      exact r_vret (pc := 46) S0 hr hlk dX4_takeSign_46
    · refine r_aload_n (pc := 19) S0 0 dX4_takeSign_19 rfl rfl ?_
      refine r_iconst (pc := 20) S0 dX4_takeSign_20 ?_
      obtain ⟨e13, h14, hf⟩ := ok_bind hf
      refine r_cV_I (pc := 21) [iv 1] S0 hK hX mv_X4_52 (k_X4_blame h14) (c_X4_blame l cA D N sx ad T A nx I w0 1 (cnz 1 rfl) e13 h14) rfl rfl ⟨by decide, by decide⟩ (Nat.le_of_ble_eq_true rfl) ⟨Nat.le_refl _, Nat.le_refl _⟩ dX4_takeSign_21 (fun c15 => ?_)
      refine r_pop (pc := 24) S0 dX4_takeSign_24 rfl ?_
      have hz := ok_some hf
      have hz : e13.2 = e := hz
      subst hQ
      subst hz
      exact r_vret (pc := 25) S0 hr hlk dX4_takeSign_25
  · have hz := ok_some hf
    have hz : I = e := hz
    subst hQ
    subst hz
    exact r_vret (pc := 7) S0 hr hlk dX4_takeSign_7

set_option maxHeartbeats 4000000 in
set_option maxRecDepth 100000 in
theorem c_X2_copyFrom (l : Launch) (cA : Nat → ClassId) (D : va_G) (N : Nat) (sx : Sx) (ad : Nat → Nat) (T : Knd) (A : Rfs) (nx : Nat) (I : Mem) (w0 : Nat) (w1 : Nat)  (e : Mem) (h : f_X2_copyFrom T A w0 w1 I = some e) : CtV l yX2_copyFrom cX2_copyFrom 3 none 1 60 cA D N sx ad T A nx [rv ad w0, rv ad w1] I e := by
  refine met_of (lv0 := [(0, rv ad w0), (1, rv ad w1)]) (by decide) (Nat.le_of_ble_eq_true rfl) rfl (fun p e0 s m args below meth c S0 hK hX hr hlk Q hQ => ?_)
  have hf : OK (f_X2_copyFrom T A w0 w1 I) (fun z => z = e) := ⟨e, h, rfl⟩
  unfold f_X2_copyFrom at hf
  obtain ⟨hw0, hf⟩ := ok_grd hf
  refine r_aload_n (pc := 0) S0 0 dX2_copyFrom_0 rfl rfl ?_
  refine r_aload_n (pc := 1) S0 1 dX2_copyFrom_1 rfl rfl ?_
  refine r_getI (pc := 2) S0 hK fl_X2_23 dX2_copyFrom_2 hf (fun x1 c2 hf => ?_)
  refine r_putI (pc := 5) S0 hK fl_X2_23 rfl rfl c2 dX2_copyFrom_5 hf (fun I3 hf => ?_)
  refine r_aload_n (pc := 8) S0 0 dX2_copyFrom_8 rfl rfl ?_
  refine r_aload_n (pc := 9) S0 1 dX2_copyFrom_9 rfl rfl ?_
  refine r_getI (pc := 10) S0 hK fl_X2_27 dX2_copyFrom_10 hf (fun x4 c5 hf => ?_)
  refine r_putI (pc := 13) S0 hK fl_X2_27 rfl rfl c5 dX2_copyFrom_13 hf (fun I6 hf => ?_)
  refine r_aload_n (pc := 16) S0 0 dX2_copyFrom_16 rfl rfl ?_
  refine r_aload_n (pc := 17) S0 1 dX2_copyFrom_17 rfl rfl ?_
  refine r_getI (pc := 18) S0 hK fl_X2_30 dX2_copyFrom_18 hf (fun x7 c8 hf => ?_)
  refine r_putI (pc := 21) S0 hK fl_X2_30 rfl rfl c8 dX2_copyFrom_21 hf (fun I9 hf => ?_)
  refine r_aload_n (pc := 24) S0 0 dX2_copyFrom_24 rfl rfl ?_
  refine r_aload_n (pc := 25) S0 1 dX2_copyFrom_25 rfl rfl ?_
  refine r_getI (pc := 26) S0 hK fl_X2_33 dX2_copyFrom_26 hf (fun x10 c11 hf => ?_)
  refine r_putI (pc := 29) S0 hK fl_X2_33 rfl rfl c11 dX2_copyFrom_29 hf (fun I12 hf => ?_)
  refine r_aload_n (pc := 32) S0 0 dX2_copyFrom_32 rfl rfl ?_
  refine r_aload_n (pc := 33) S0 1 dX2_copyFrom_33 rfl rfl ?_
  refine r_getI (pc := 34) S0 hK fl_X2_36 dX2_copyFrom_34 hf (fun x13 c14 hf => ?_)
  refine r_putI (pc := 37) S0 hK fl_X2_36 rfl rfl c14 dX2_copyFrom_37 hf (fun I15 hf => ?_)
  refine r_aload_n (pc := 40) S0 0 dX2_copyFrom_40 rfl rfl ?_
  refine r_aload_n (pc := 41) S0 1 dX2_copyFrom_41 rfl rfl ?_
  refine r_getI (pc := 42) S0 hK fl_X2_39 dX2_copyFrom_42 hf (fun x16 c17 hf => ?_)
  refine r_putI (pc := 45) S0 hK fl_X2_39 rfl rfl c17 dX2_copyFrom_45 hf (fun I18 hf => ?_)
  refine r_aload_n (pc := 48) S0 0 dX2_copyFrom_48 rfl rfl ?_
  refine r_aload_n (pc := 49) S0 1 dX2_copyFrom_49 rfl rfl ?_
  refine r_getI (pc := 50) S0 hK fl_X2_42 dX2_copyFrom_50 hf (fun x19 c20 hf => ?_)
  refine r_putI (pc := 53) S0 hK fl_X2_42 rfl rfl c20 dX2_copyFrom_53 hf (fun I21 hf => ?_)
  refine r_aload_n (pc := 56) S0 1 dX2_copyFrom_56 rfl rfl ?_
  refine r_getR (pc := 57) S0 hK fl_X2_9 dX2_copyFrom_57 hf (fun x22 hf => ?_)
  refine r_iconst (pc := 60) S0 dX2_copyFrom_60 ?_
  refine r_aload_n (pc := 61) S0 0 dX2_copyFrom_61 rfl rfl ?_
  refine r_getR (pc := 62) S0 hK fl_X2_9 dX2_copyFrom_62 hf (fun x23 hf => ?_)
  refine r_iconst (pc := 65) S0 dX2_copyFrom_65 ?_
  refine r_bipush (pc := 66) S0 dX2_copyFrom_66 (by decide) ?_
  refine r_acpi (pc := 68) S0 hK ma_X2_51 dX2_copyFrom_68 (cnz 0 rfl) (cnz 0 rfl) (cnz 40 rfl) ⟨Nat.le_of_ble_eq_true rfl, Nat.le_of_ble_eq_true rfl⟩ hf (fun I24 hf => ?_)
  refine r_iconst (pc := 71) S0 dX2_copyFrom_71 ?_
  refine r_istore_n (pc := 72) (lv' := [(2, iv 0), (0, rv ad w0), (1, rv ad w1)]) S0 dX2_copyFrom_72 rfl (by decide) rfl ?_
  refine thn_rule (P := fun v26 => G p l e0 (rmx 1 60) s m args below meth c 0 0 Q cA D N 3 ad T A nx 104 [(0, rv ad w0), (1, rv ad w1)] [] v26) hf (fun v26 hf => ?_) (fun K25 hf => ?_)
  · refine r_iconst (pc := 104) S0 dX2_copyFrom_104 ?_
    refine r_istore_n (pc := 105) (lv' := [(2, iv 0), (0, rv ad w0), (1, rv ad w1)]) S0 dX2_copyFrom_105 rfl (by decide) rfl ?_
    refine r_lv [1, 2, 0] rfl ?_
    refine it_ind (P := fun s36 => cn s36.1 → G p l e0 (rmx 1 60) s m args below meth c 0 0 Q cA D N 3 ad T A nx 106 [(0, rv ad w0), (1, rv ad w1), (2, iv s36.1)] [] s36.2) (fun n0 s36 ih35 hf c37 => ?_) FU (0, v26) hf (cnz 0 rfl)
    refine r_iload_n (pc := 106) S0 2 dX2_copyFrom_106 rfl rfl ?_
    refine r_bipush (pc := 107) S0 dX2_copyFrom_107 (by decide) ?_
    refine r_icmp_ge (pc := 109) (tgt := 137) S0 dX2_copyFrom_109 (by decide) c37 (cnz 6 rfl) hf (fun hf => ?_) (fun hf => ?_)
    · have hz := ok_some hf
      have hz : s36.2 = e := hz
      subst hQ
      subst hz
      exact r_vret (pc := 137) S0 hr hlk dX2_copyFrom_137
    · refine r_aload_n (pc := 112) S0 1 dX2_copyFrom_112 rfl rfl ?_
      refine r_getR (pc := 113) S0 hK fl_X2_20 dX2_copyFrom_113 hf (fun x38 hf => ?_)
      refine r_iload_n (pc := 116) S0 2 dX2_copyFrom_116 rfl rfl ?_
      refine r_aald 24 4 (pc := 117) S0 hK (by decide) rfl rfl dX2_copyFrom_117 c37 hf (fun x39 hf => ?_)
      refine r_iconst (pc := 118) S0 dX2_copyFrom_118 ?_
      refine r_aload_n (pc := 119) S0 0 dX2_copyFrom_119 rfl rfl ?_
      refine r_getR (pc := 120) S0 hK fl_X2_20 dX2_copyFrom_120 hf (fun x40 hf => ?_)
      refine r_iload_n (pc := 123) S0 2 dX2_copyFrom_123 rfl rfl ?_
      refine r_aald 24 4 (pc := 124) S0 hK (by decide) rfl rfl dX2_copyFrom_124 c37 hf (fun x41 hf => ?_)
      refine r_iconst (pc := 125) S0 dX2_copyFrom_125 ?_
      refine r_bipush (pc := 126) S0 dX2_copyFrom_126 (by decide) ?_
      refine r_acpi (pc := 128) S0 hK ma_X2_51 dX2_copyFrom_128 (cnz 0 rfl) (cnz 0 rfl) (cnz 6 rfl) ⟨Nat.le_of_ble_eq_true rfl, Nat.le_of_ble_eq_true rfl⟩ hf (fun I42 hf => ?_)
      refine r_iinc (pc := 131) (lv' := [(2, iv (ia s36.1 1)), (0, rv ad w0), (1, rv ad w1)]) S0 2 dX2_copyFrom_131 rfl (by decide) rfl ?_
      refine r_goto (pc := 134) (tgt := 106) S0 dX2_copyFrom_134 (by decide) ?_
      have hz := ok_some hf
      refine r_lv [1, 2, 0] rfl ?_
      exact ih35 (ia s36.1 1, I42) hz (cn_wrap _)
  · refine r_lv [1, 2, 0] rfl ?_
    refine it_ind (P := fun s28 => cn s28.1 → G p l e0 (rmx 1 60) s m args below meth c 0 0 Q cA D N 3 ad T A nx 73 [(0, rv ad w0), (1, rv ad w1), (2, iv s28.1)] [] s28.2) (fun n0 s28 ih27 hf c29 => ?_) FU (0, I24) hf (cnz 0 rfl)
    refine r_iload_n (pc := 73) S0 2 dX2_copyFrom_73 rfl rfl ?_
    refine r_bipush (pc := 74) S0 dX2_copyFrom_74 (by decide) ?_
    refine r_icmp_ge (pc := 76) (tgt := 104) S0 dX2_copyFrom_76 (by decide) c29 (cnz 11 rfl) hf (fun hf => ?_) (fun hf => ?_)
    · have hz := ok_some hf
      refine r_lv [0, 1] rfl ?_
      exact K25 s28.2 hz
    · refine r_aload_n (pc := 79) S0 1 dX2_copyFrom_79 rfl rfl ?_
      refine r_getR (pc := 80) S0 hK fl_X2_17 dX2_copyFrom_80 hf (fun x30 hf => ?_)
      refine r_iload_n (pc := 83) S0 2 dX2_copyFrom_83 rfl rfl ?_
      refine r_aald 24 4 (pc := 84) S0 hK (by decide) rfl rfl dX2_copyFrom_84 c29 hf (fun x31 hf => ?_)
      refine r_iconst (pc := 85) S0 dX2_copyFrom_85 ?_
      refine r_aload_n (pc := 86) S0 0 dX2_copyFrom_86 rfl rfl ?_
      refine r_getR (pc := 87) S0 hK fl_X2_17 dX2_copyFrom_87 hf (fun x32 hf => ?_)
      refine r_iload_n (pc := 90) S0 2 dX2_copyFrom_90 rfl rfl ?_
      refine r_aald 24 4 (pc := 91) S0 hK (by decide) rfl rfl dX2_copyFrom_91 c29 hf (fun x33 hf => ?_)
      refine r_iconst (pc := 92) S0 dX2_copyFrom_92 ?_
      refine r_bipush (pc := 93) S0 dX2_copyFrom_93 (by decide) ?_
      refine r_acpi (pc := 95) S0 hK ma_X2_51 dX2_copyFrom_95 (cnz 0 rfl) (cnz 0 rfl) (cnz 8 rfl) ⟨Nat.le_of_ble_eq_true rfl, Nat.le_of_ble_eq_true rfl⟩ hf (fun I34 hf => ?_)
      refine r_iinc (pc := 98) (lv' := [(2, iv (ia s28.1 1)), (0, rv ad w0), (1, rv ad w1)]) S0 2 dX2_copyFrom_98 rfl (by decide) rfl ?_
      refine r_goto (pc := 101) (tgt := 73) S0 dX2_copyFrom_101 (by decide) ?_
      have hz := ok_some hf
      refine r_lv [1, 2, 0] rfl ?_
      exact ih27 (ia s28.1 1, I34) hz (cn_wrap _)

set_option maxHeartbeats 4000000 in
set_option maxRecDepth 100000 in
theorem c_X9_layWays (l : Launch) (cA : Nat → ClassId) (D : va_G) (N : Nat) (sx : Sx) (ad : Nat → Nat) (T : Knd) (A : Rfs) (nx : Nat) (I : Mem) (w0 : Nat) (w1 : Nat)  (e : Mem) (h : f_X9_layWays T A w0 w1 I = some e) : CtV l yX9_layWays cX9_layWays 4 none 1 60 cA D N sx ad T A nx [rv ad w0, rv ad w1] I e := by
  refine met_of (lv0 := [(0, rv ad w0), (1, rv ad w1)]) (by decide) (Nat.le_of_ble_eq_true rfl) rfl (fun p e0 s m args below meth c S0 hK hX hr hlk Q hQ => ?_)
  have hf : OK (f_X9_layWays T A w0 w1 I) (fun z => z = e) := ⟨e, h, rfl⟩
  unfold f_X9_layWays at hf
  obtain ⟨hw0, hf⟩ := ok_grd hf
  refine r_iconst (pc := 0) S0 dX9_layWays_0 ?_
  refine r_istore_n (pc := 1) (lv' := [(2, iv 0), (0, rv ad w0), (1, rv ad w1)]) S0 dX9_layWays_1 rfl (by decide) rfl ?_
  refine r_lv [1, 2, 0] rfl ?_
  refine it_ind (P := fun s2 => cn s2.1 → G p l e0 (rmx 1 60) s m args below meth c 0 0 Q cA D N 4 ad T A nx 2 [(0, rv ad w0), (1, rv ad w1), (2, iv s2.1)] [] s2.2) (fun n0 s2 ih1 hf c3 => ?_) FU (0, I) hf (cnz 0 rfl)
  refine r_iload_n (pc := 2) S0 2 dX9_layWays_2 rfl rfl ?_
  refine r_aload_n (pc := 3) S0 1 dX9_layWays_3 rfl rfl ?_
  refine r_getI (pc := 4) S0 hK fl_X9_23 dX9_layWays_4 hf (fun x4 c5 hf => ?_)
  refine r_icmp_ge (pc := 7) (tgt := 72) S0 dX9_layWays_7 (by decide) c3 c5 hf (fun hf => ?_) (fun hf => ?_)
  · have hz := ok_some hf
    have hz : s2.2 = e := hz
    subst hQ
    subst hz
    exact r_vret (pc := 72) S0 hr hlk dX9_layWays_72
  · refine r_iconst (pc := 10) S0 dX9_layWays_10 ?_
    refine r_istore_n (pc := 11) (lv' := [(3, iv 0), (0, rv ad w0), (1, rv ad w1), (2, iv s2.1)]) S0 dX9_layWays_11 rfl (by decide) rfl ?_
    refine thn_rule (P := fun v7 => G p l e0 (rmx 1 60) s m args below meth c 0 0 Q cA D N 4 ad T A nx 57 [(0, rv ad w0), (1, rv ad w1), (2, iv s2.1)] [] v7) hf (fun v7 hf => ?_) (fun K6 hf => ?_)
    · refine r_aload_n (pc := 57) S0 0 dX9_layWays_57 rfl rfl ?_
      refine r_getR (pc := 58) S0 hK fl_X9_11 dX9_layWays_58 hf (fun x27 hf => ?_)
      refine r_iload_n (pc := 61) S0 2 dX9_layWays_61 rfl rfl ?_
      refine r_aald 24 4 (pc := 62) S0 hK (by decide) rfl rfl dX9_layWays_62 c3 hf (fun x28 hf => ?_)
      refine r_iload_n (pc := 63) S0 2 dX9_layWays_63 rfl rfl ?_
      refine r_iconst (pc := 64) S0 dX9_layWays_64 ?_
      refine r_iast (pc := 65) S0 hK dX9_layWays_65 c3 (cnz 0 rfl) hf (fun I29 hf => ?_)
      refine r_iinc (pc := 66) (lv' := [(2, iv (ia s2.1 1)), (0, rv ad w0), (1, rv ad w1)]) S0 2 dX9_layWays_66 rfl (by decide) rfl ?_
      refine r_goto (pc := 69) (tgt := 2) S0 dX9_layWays_69 (by decide) ?_
      have hz := ok_some hf
      refine r_lv [1, 2, 0] rfl ?_
      exact ih1 (ia s2.1 1, I29) hz (cn_wrap _)
    · refine r_lv [1, 2, 3, 0] rfl ?_
      refine it_ind (P := fun s9 => cn s9.1 → G p l e0 (rmx 1 60) s m args below meth c 0 0 Q cA D N 4 ad T A nx 12 [(0, rv ad w0), (1, rv ad w1), (2, iv s2.1), (3, iv s9.1)] [] s9.2) (fun n0 s9 ih8 hf c10 => ?_) FU (0, s2.2) hf (cnz 0 rfl)
      refine r_iload_n (pc := 12) S0 3 dX9_layWays_12 rfl rfl ?_
      refine r_aload_n (pc := 13) S0 1 dX9_layWays_13 rfl rfl ?_
      refine r_getI (pc := 14) S0 hK fl_X9_23 dX9_layWays_14 hf (fun x11 c12 hf => ?_)
      refine r_icmp_ge (pc := 17) (tgt := 57) S0 dX9_layWays_17 (by decide) c10 c12 hf (fun hf => ?_) (fun hf => ?_)
      · have hz := ok_some hf
        refine r_lv [0, 1, 2] rfl ?_
        exact K6 s9.2 hz
      · refine r_aload_n (pc := 20) S0 0 dX9_layWays_20 rfl rfl ?_
        refine r_getR (pc := 21) S0 hK fl_X9_11 dX9_layWays_21 hf (fun x13 hf => ?_)
        refine r_iload_n (pc := 24) S0 2 dX9_layWays_24 rfl rfl ?_
        refine r_aald 24 4 (pc := 25) S0 hK (by decide) rfl rfl dX9_layWays_25 c3 hf (fun x14 hf => ?_)
        refine r_iload_n (pc := 26) S0 3 dX9_layWays_26 rfl rfl ?_
        refine r_aload_n (pc := 27) S0 1 dX9_layWays_27 rfl rfl ?_
        refine r_getR (pc := 28) S0 hK fl_X9_40 dX9_layWays_28 hf (fun x15 hf => ?_)
        refine r_iload_n (pc := 31) S0 2 dX9_layWays_31 rfl rfl ?_
        refine r_aald 24 4 (pc := 32) S0 hK (by decide) rfl rfl dX9_layWays_32 c3 hf (fun x16 hf => ?_)
        refine r_iload_n (pc := 33) S0 3 dX9_layWays_33 rfl rfl ?_
        refine r_iald (pc := 34) S0 hK dX9_layWays_34 c10 hf (fun x17 c18 hf => ?_)
        refine thn_rule (P := fun v20 => cn v20 → G p l e0 (rmx 1 60) s m args below meth c 0 0 Q cA D N 4 ad T A nx 50 [(0, rv ad w0), (1, rv ad w1), (2, iv s2.1), (3, iv s9.1)] [iv v20, iv s9.1, rv ad x14] s9.2) hf (fun v20 hf c21 => ?_) (fun K19 hf => ?_)
        · refine r_iast (pc := 50) S0 hK dX9_layWays_50 c10 c21 hf (fun I26 hf => ?_)
          refine r_iinc (pc := 51) (lv' := [(3, iv (ia s9.1 1)), (0, rv ad w0), (1, rv ad w1), (2, iv s2.1)]) S0 3 dX9_layWays_51 rfl (by decide) rfl ?_
          refine r_goto (pc := 54) (tgt := 12) S0 dX9_layWays_54 (by decide) ?_
          have hz := ok_some hf
          refine r_lv [1, 2, 3, 0] rfl ?_
          exact ih8 (ia s9.1 1, I26) hz (cn_wrap _)
        · refine r_if_le (pc := 35) (tgt := 49) S0 dX9_layWays_35 (by decide) c18 hf (fun hf => ?_) (fun hf => ?_)
          · refine r_iconst (pc := 49) S0 dX9_layWays_49 ?_
            have hz := ok_some hf
            refine r_lv [0, 1, 2, 3] rfl ?_
            exact K19 (-1) hz (cnz (-1) rfl)
          · refine r_aload_n (pc := 38) S0 1 dX9_layWays_38 rfl rfl ?_
            refine r_getR (pc := 39) S0 hK fl_X9_40 dX9_layWays_39 hf (fun x22 hf => ?_)
            refine r_iload_n (pc := 42) S0 2 dX9_layWays_42 rfl rfl ?_
            refine r_aald 24 4 (pc := 43) S0 hK (by decide) rfl rfl dX9_layWays_43 c3 hf (fun x23 hf => ?_)
            refine r_iload_n (pc := 44) S0 3 dX9_layWays_44 rfl rfl ?_
            refine r_iald (pc := 45) S0 hK dX9_layWays_45 c10 hf (fun x24 c25 hf => ?_)
            refine r_goto (pc := 46) (tgt := 50) S0 dX9_layWays_46 (by decide) ?_
            have hz := ok_some hf
            refine r_lv [0, 1, 2, 3] rfl ?_
            exact K19 x24 hz c25

set_option maxHeartbeats 4000000 in
set_option maxRecDepth 100000 in
theorem c_X9_shorten (l : Launch) (cA : Nat → ClassId) (D : va_G) (N : Nat) (sx : Sx) (ad : Nat → Nat) (T : Knd) (A : Rfs) (nx : Nat) (I : Mem) (w0 : Nat) (a1 : Int) (a2 : Int) (a3 : Int) (ca1 : cn a1) (ca2 : cn a2) (ca3 : cn a3) (e : Mem) (h : f_X9_shorten T A w0 a1 a2 a3 I = some e) : CtV l yX9_shorten cX9_shorten 5 none 1 60 cA D N sx ad T A nx [rv ad w0, iv a1, iv a2, iv a3] I e := by
  refine met_of (lv0 := [(0, rv ad w0), (1, iv a1), (2, iv a2), (3, iv a3)]) (by decide) (Nat.le_of_ble_eq_true rfl) rfl (fun p e0 s m args below meth c S0 hK hX hr hlk Q hQ => ?_)
  have hf : OK (f_X9_shorten T A w0 a1 a2 a3 I) (fun z => z = e) := ⟨e, h, rfl⟩
  unfold f_X9_shorten at hf
  obtain ⟨hw0, hf⟩ := ok_grd hf
  refine r_aload_n (pc := 0) S0 0 dX9_shorten_0 rfl rfl ?_
  refine r_getR (pc := 1) S0 hK fl_X9_11 dX9_shorten_1 hf (fun x1 hf => ?_)
  refine r_iload_n (pc := 4) S0 1 dX9_shorten_4 rfl rfl ?_
  refine r_aald 24 4 (pc := 5) S0 hK (by decide) rfl rfl dX9_shorten_5 ca1 hf (fun x2 hf => ?_)
  refine r_iload_n (pc := 6) S0 2 dX9_shorten_6 rfl rfl ?_
  refine r_iald (pc := 7) S0 hK dX9_shorten_7 ca2 hf (fun x3 c4 hf => ?_)
  refine r_iconst (pc := 8) S0 dX9_shorten_8 ?_
  refine r_icmp_eq (pc := 9) (tgt := 24) S0 dX9_shorten_9 (by decide) c4 (cnz (-1) rfl) hf (fun hf => ?_) (fun hf => ?_)
  · have hz := ok_some hf
    have hz : I = e := hz
    subst hQ
    subst hz
    exact r_vret (pc := 24) S0 hr hlk dX9_shorten_24
  · refine r_aload_n (pc := 12) S0 0 dX9_shorten_12 rfl rfl ?_
    refine r_getR (pc := 13) S0 hK fl_X9_11 dX9_shorten_13 hf (fun x5 hf => ?_)
    refine r_iload_n (pc := 16) S0 2 dX9_shorten_16 rfl rfl ?_
    refine r_aald 24 4 (pc := 17) S0 hK (by decide) rfl rfl dX9_shorten_17 ca2 hf (fun x6 hf => ?_)
    refine r_iload_n (pc := 18) S0 3 dX9_shorten_18 rfl rfl ?_
    refine r_iald (pc := 19) S0 hK dX9_shorten_19 ca3 hf (fun x7 c8 hf => ?_)
    refine r_iconst (pc := 20) S0 dX9_shorten_20 ?_
    refine r_icmp_ne (pc := 21) (tgt := 25) S0 dX9_shorten_21 (by decide) c8 (cnz (-1) rfl) hf (fun hf => ?_) (fun hf => ?_)
    · refine r_aload_n (pc := 25) S0 0 dX9_shorten_25 rfl rfl ?_
      refine r_getR (pc := 26) S0 hK fl_X9_11 dX9_shorten_26 hf (fun x9 hf => ?_)
      refine r_iload_n (pc := 29) S0 1 dX9_shorten_29 rfl rfl ?_
      refine r_aald 24 4 (pc := 30) S0 hK (by decide) rfl rfl dX9_shorten_30 ca1 hf (fun x10 hf => ?_)
      refine r_iload_n (pc := 31) S0 2 dX9_shorten_31 rfl rfl ?_
      refine r_iald (pc := 32) S0 hK dX9_shorten_32 ca2 hf (fun x11 c12 hf => ?_)
      refine r_aload_n (pc := 33) S0 0 dX9_shorten_33 rfl rfl ?_
      refine r_getR (pc := 34) S0 hK fl_X9_11 dX9_shorten_34 hf (fun x13 hf => ?_)
      refine r_iload_n (pc := 37) S0 2 dX9_shorten_37 rfl rfl ?_
      refine r_aald 24 4 (pc := 38) S0 hK (by decide) rfl rfl dX9_shorten_38 ca2 hf (fun x14 hf => ?_)
      refine r_iload_n (pc := 39) S0 3 dX9_shorten_39 rfl rfl ?_
      refine r_iald (pc := 40) S0 hK dX9_shorten_40 ca3 hf (fun x15 c16 hf => ?_)
      refine r_iadd (pc := 41) S0 dX9_shorten_41 ?_
      refine r_istore (pc := 42) (lv' := [(4, iv (ia x11 x15)), (0, rv ad w0), (1, iv a1), (2, iv a2), (3, iv a3)]) S0 dX9_shorten_42 (by decide) rfl ?_
      refine r_aload_n (pc := 44) S0 1 dX9_shorten_44 rfl rfl ?_
      refine r_getR (pc := 45) S0 hK fl_X9_11 dX9_shorten_45 hf (fun x17 hf => ?_)
      refine r_iload_n (pc := 48) S0 2 dX9_shorten_48 rfl rfl ?_
      refine r_aald 24 4 (pc := 49) S0 hK (by decide) rfl rfl dX9_shorten_49 ca1 hf (fun x18 hf => ?_)
      refine r_iload_n (pc := 50) S0 4 dX9_shorten_50 rfl rfl ?_
      refine r_iald (pc := 51) S0 hK dX9_shorten_51 ca3 hf (fun x19 c20 hf => ?_)
      refine r_iconst (pc := 52) S0 dX9_shorten_52 ?_
      refine thn_rule (P := fun v22 => G p l e0 (rmx 1 60) s m args below meth c 0 0 Q cA D N 5 ad T A nx 69 [(0, rv ad w0), (1, iv a1), (3, iv a3), (4, iv (ia x11 x15))] [] I) hf (fun v22 hf => ?_) (fun K21 hf => ?_)
      · refine r_aload_n (pc := 69) S0 0 dX9_shorten_69 rfl rfl ?_
        refine r_getR (pc := 70) S0 hK fl_X9_11 dX9_shorten_70 hf (fun x27 hf => ?_)
        refine r_iload_n (pc := 73) S0 1 dX9_shorten_73 rfl rfl ?_
        refine r_aald 24 4 (pc := 74) S0 hK (by decide) rfl rfl dX9_shorten_74 ca1 hf (fun x28 hf => ?_)
        refine r_iload_n (pc := 75) S0 2 dX9_shorten_75 rfl rfl ?_
        refine r_iload (pc := 76) S0 3 dX9_shorten_76 rfl ?_
        refine r_iast (pc := 78) S0 hK dX9_shorten_78 ca3 (cn_wrap _) hf (fun I29 hf => ?_)
        have hz := ok_some hf
        have hz : I29 = e := hz
        subst hQ
        subst hz
        exact r_vret (pc := 79) S0 hr hlk dX9_shorten_79
      · refine r_icmp_eq (pc := 53) (tgt := 69) S0 dX9_shorten_53 (by decide) c20 (cnz (-1) rfl) hf (fun hf => ?_) (fun hf => ?_)
        · have hz := ok_some hf
          refine r_lv [1, 2, 4, 0] rfl ?_
          exact K21 () hz
        · refine r_aload_n (pc := 56) S0 1 dX9_shorten_56 rfl rfl ?_
          refine r_getR (pc := 57) S0 hK fl_X9_11 dX9_shorten_57 hf (fun x23 hf => ?_)
          refine r_iload_n (pc := 60) S0 2 dX9_shorten_60 rfl rfl ?_
          refine r_aald 24 4 (pc := 61) S0 hK (by decide) rfl rfl dX9_shorten_61 ca1 hf (fun x24 hf => ?_)
          refine r_iload_n (pc := 62) S0 4 dX9_shorten_62 rfl rfl ?_
          refine r_iald (pc := 63) S0 hK dX9_shorten_63 ca3 hf (fun x25 c26 hf => ?_)
          refine r_iload (pc := 64) S0 0 dX9_shorten_64 rfl ?_
          refine r_icmp_le (pc := 66) (tgt := 79) S0 dX9_shorten_66 (by decide) c26 (cn_wrap _) hf (fun hf => ?_) (fun hf => ?_)
          · have hz := ok_some hf
            have hz : I = e := hz
            subst hQ
            subst hz
            exact r_vret (pc := 79) S0 hr hlk dX9_shorten_79
          · have hz := ok_some hf
            refine r_lv [1, 2, 4, 0] rfl ?_
            exact K21 () hz
    · have hz := ok_some hf
      have hz : I = e := hz
      subst hQ
      subst hz
      exact r_vret (pc := 24) S0 hr hlk dX9_shorten_24

set_option maxHeartbeats 4000000 in
set_option maxRecDepth 100000 in
theorem c_X9_shortenWalks (l : Launch) (cA : Nat → ClassId) (D : va_G) (N : Nat) (sx : Sx) (ad : Nat → Nat) (T : Knd) (A : Rfs) (nx : Nat) (I : Mem) (w0 : Nat) (a1 : Int) (ca1 : cn a1) (e : Mem) (h : f_X9_shortenWalks T A w0 a1 I = some e) : CtV l yX9_shortenWalks cX9_shortenWalks 5 none 2 84 cA D N sx ad T A nx [rv ad w0, iv a1] I e := by
  refine met_of (lv0 := [(0, rv ad w0), (1, iv a1)]) (by decide) (Nat.le_of_ble_eq_true rfl) rfl (fun p e0 s m args below meth c S0 hK hX hr hlk Q hQ => ?_)
  have hf : OK (f_X9_shortenWalks T A w0 a1 I) (fun z => z = e) := ⟨e, h, rfl⟩
  unfold f_X9_shortenWalks at hf
  obtain ⟨hw0, hf⟩ := ok_grd hf
  refine r_iconst (pc := 0) S0 dX9_shortenWalks_0 ?_
  refine r_istore_n (pc := 1) (lv' := [(2, iv 0), (0, rv ad w0), (1, iv a1)]) S0 dX9_shortenWalks_1 rfl (by decide) rfl ?_
  refine r_lv [1, 2, 0] rfl ?_
  refine it_ind (P := fun s2 => cn s2.1 → G p l e0 (rmx 2 84) s m args below meth c 0 0 Q cA D N 5 ad T A nx 2 [(0, rv ad w0), (1, iv a1), (2, iv s2.1)] [] s2.2) (fun n0 s2 ih1 hf c3 => ?_) FU (0, I) hf (cnz 0 rfl)
  refine r_iload_n (pc := 2) S0 2 dX9_shortenWalks_2 rfl rfl ?_
  refine r_iload_n (pc := 3) S0 1 dX9_shortenWalks_3 rfl rfl ?_
  refine r_icmp_ge (pc := 4) (tgt := 49) S0 dX9_shortenWalks_4 (by decide) c3 ca1 hf (fun hf => ?_) (fun hf => ?_)
  · have hz := ok_some hf
    have hz : s2.2 = e := hz
    subst hQ
    subst hz
    exact r_vret (pc := 49) S0 hr hlk dX9_shortenWalks_49
  · refine r_iconst (pc := 7) S0 dX9_shortenWalks_7 ?_
    refine r_istore_n (pc := 8) (lv' := [(3, iv 0), (0, rv ad w0), (1, iv a1), (2, iv s2.1)]) S0 dX9_shortenWalks_8 rfl (by decide) rfl ?_
    refine r_lv [1, 2, 3, 0] rfl ?_
    refine it_ind (P := fun s5 => cn s5.1 → G p l e0 (rmx 2 84) s m args below meth c 0 0 Q cA D N 5 ad T A nx 9 [(0, rv ad w0), (1, iv a1), (2, iv s2.1), (3, iv s5.1)] [] s5.2) (fun n0 s5 ih4 hf c6 => ?_) FU (0, s2.2) hf (cnz 0 rfl)
    refine r_iload_n (pc := 9) S0 3 dX9_shortenWalks_9 rfl rfl ?_
    refine r_iload_n (pc := 10) S0 1 dX9_shortenWalks_10 rfl rfl ?_
    refine r_icmp_ge (pc := 11) (tgt := 43) S0 dX9_shortenWalks_11 (by decide) c6 ca1 hf (fun hf => ?_) (fun hf => ?_)
    · refine r_iinc (pc := 43) (lv' := [(2, iv (ia s2.1 1)), (0, rv ad w0), (1, iv a1), (3, iv s5.1)]) S0 2 dX9_shortenWalks_43 rfl (by decide) rfl ?_
      refine r_goto (pc := 46) (tgt := 2) S0 dX9_shortenWalks_46 (by decide) ?_
      have hz := ok_some hf
      refine r_lv [1, 2, 0] rfl ?_
      exact ih1 (ia s2.1 1, s5.2) hz (cn_wrap _)
    · refine r_iconst (pc := 14) S0 dX9_shortenWalks_14 ?_
      refine r_istore (pc := 15) (lv' := [(4, iv 0), (0, rv ad w0), (1, iv a1), (2, iv s2.1), (3, iv s5.1)]) S0 dX9_shortenWalks_15 (by decide) rfl ?_
      refine r_lv [1, 2, 3, 4, 0] rfl ?_
      refine it_ind (P := fun s8 => cn s8.1 → G p l e0 (rmx 2 84) s m args below meth c 0 0 Q cA D N 5 ad T A nx 17 [(0, rv ad w0), (1, iv a1), (2, iv s2.1), (3, iv s5.1), (4, iv s8.1)] [] s8.2) (fun n0 s8 ih7 hf c9 => ?_) FU (0, s5.2) hf (cnz 0 rfl)
      refine r_iload (pc := 17) S0 4 dX9_shortenWalks_17 rfl ?_
      refine r_iload_n (pc := 19) S0 1 dX9_shortenWalks_19 rfl rfl ?_
      refine r_icmp_ge (pc := 20) (tgt := 37) S0 dX9_shortenWalks_20 (by decide) c9 ca1 hf (fun hf => ?_) (fun hf => ?_)
      · refine r_iinc (pc := 37) (lv' := [(3, iv (ia s5.1 1)), (0, rv ad w0), (1, iv a1), (2, iv s2.1), (4, iv s8.1)]) S0 3 dX9_shortenWalks_37 rfl (by decide) rfl ?_
        refine r_goto (pc := 40) (tgt := 9) S0 dX9_shortenWalks_40 (by decide) ?_
        have hz := ok_some hf
        refine r_lv [1, 2, 3, 0] rfl ?_
        exact ih4 (ia s5.1 1, s8.2) hz (cn_wrap _)
      · refine r_aload_n (pc := 23) S0 0 dX9_shortenWalks_23 rfl rfl ?_
        refine r_iload_n (pc := 24) S0 3 dX9_shortenWalks_24 rfl rfl ?_
        refine r_iload_n (pc := 25) S0 2 dX9_shortenWalks_25 rfl rfl ?_
        refine r_iload (pc := 26) S0 4 dX9_shortenWalks_26 rfl ?_
        obtain ⟨e10, h11, hf⟩ := ok_bind hf
        refine r_cV_V (pc := 28) [iv s5.1, iv s2.1, iv s8.1] S0 hK hX mv_X9_43 (k_X9_shorten h11) (c_X9_shorten l cA D N sx ad T A nx s8.2 w0 s5.1 s2.1 s8.1 c6 c3 c9 e10 h11) rfl rfl ⟨by decide, by decide⟩ (Nat.le_of_ble_eq_true rfl) ⟨Nat.le_refl _, Nat.le_refl _⟩ dX9_shortenWalks_28 ?_
        refine r_iinc (pc := 31) (lv' := [(4, iv (ia s8.1 1)), (0, rv ad w0), (1, iv a1), (2, iv s2.1), (3, iv s5.1)]) S0 4 dX9_shortenWalks_31 rfl (by decide) rfl ?_
        refine r_goto (pc := 34) (tgt := 17) S0 dX9_shortenWalks_34 (by decide) ?_
        have hz := ok_some hf
        refine r_lv [1, 2, 3, 4, 0] rfl ?_
        exact ih7 (ia s8.1 1, e10) hz (cn_wrap _)

set_option maxHeartbeats 4000000 in
set_option maxRecDepth 100000 in
theorem c_X2_hasOfficial (l : Launch) (cA : Nat → ClassId) (D : va_G) (N : Nat) (sx : Sx) (ad : Nat → Nat) (T : Knd) (A : Rfs) (nx : Nat) (I : Mem) (w0 : Nat) (a1 : Int) (ca1 : cn a1) (e : Int) (h : f_X2_hasOfficial T A w0 a1 I = some e) : CtI l yX2_hasOfficial cX2_hasOfficial 2 (some .boolean) 1 60 cA D N sx ad T A nx [rv ad w0, iv a1] I I e := by
  refine met_of (lv0 := [(0, rv ad w0), (1, iv a1)]) (by decide) (Nat.le_of_ble_eq_true rfl) rfl (fun p e0 s m args below meth c S0 hK hX hr hlk Q hQ => ?_)
  have hf : OK (f_X2_hasOfficial T A w0 a1 I) (fun z => z = e) := ⟨e, h, rfl⟩
  unfold f_X2_hasOfficial at hf
  obtain ⟨hw0, hf⟩ := ok_grd hf
  refine r_iload_n (pc := 0) S0 1 dX2_hasOfficial_0 rfl rfl ?_
  refine r_if_lt (pc := 1) (tgt := 22) S0 dX2_hasOfficial_1 (by decide) ca1 hf (fun hf => ?_) (fun hf => ?_)
  · refine r_iconst (pc := 22) S0 dX2_hasOfficial_22 ?_
    have hz := ok_some hf
    have hz : 0 = e := hz
    subst hQ
    subst hz
    exact r_zret (pc := 23) S0 hr hlk (Or.inl rfl) dX2_hasOfficial_23
  · refine r_iload_n (pc := 4) S0 1 dX2_hasOfficial_4 rfl rfl ?_
    refine r_aload_n (pc := 5) S0 0 dX2_hasOfficial_5 rfl rfl ?_
    refine r_getI (pc := 6) S0 hK fl_X2_36 dX2_hasOfficial_6 hf (fun x1 c2 hf => ?_)
    refine r_icmp_ge (pc := 9) (tgt := 22) S0 dX2_hasOfficial_9 (by decide) ca1 c2 hf (fun hf => ?_) (fun hf => ?_)
    · refine r_iconst (pc := 22) S0 dX2_hasOfficial_22 ?_
      have hz := ok_some hf
      have hz : 0 = e := hz
      subst hQ
      subst hz
      exact r_zret (pc := 23) S0 hr hlk (Or.inl rfl) dX2_hasOfficial_23
    · refine r_iload_n (pc := 12) S0 1 dX2_hasOfficial_12 rfl rfl ?_
      refine r_bipush (pc := 13) S0 dX2_hasOfficial_13 (by decide) ?_
      refine r_icmp_ge (pc := 15) (tgt := 22) S0 dX2_hasOfficial_15 (by decide) ca1 (cnz 8 rfl) hf (fun hf => ?_) (fun hf => ?_)
      · refine r_iconst (pc := 22) S0 dX2_hasOfficial_22 ?_
        have hz := ok_some hf
        have hz : 0 = e := hz
        subst hQ
        subst hz
        exact r_zret (pc := 23) S0 hr hlk (Or.inl rfl) dX2_hasOfficial_23
      · refine r_iconst (pc := 18) S0 dX2_hasOfficial_18 ?_
        refine r_goto (pc := 19) (tgt := 23) S0 dX2_hasOfficial_19 (by decide) ?_
        have hz := ok_some hf
        have hz : 1 = e := hz
        subst hQ
        subst hz
        exact r_zret (pc := 23) S0 hr hlk (Or.inr rfl) dX2_hasOfficial_23

set_option maxHeartbeats 4000000 in
set_option maxRecDepth 100000 in
theorem c_X2_isOffered (l : Launch) (cA : Nat → ClassId) (D : va_G) (N : Nat) (sx : Sx) (ad : Nat → Nat) (T : Knd) (A : Rfs) (nx : Nat) (I : Mem) (w0 : Nat) (a1 : Int) (a2 : Int) (ca1 : cn a1) (ca2 : cn a2) (e : Int) (h : f_X2_isOffered T A w0 a1 a2 I = some e) : CtI l yX2_isOffered cX2_isOffered 4 (some .boolean) 2 81 cA D N sx ad T A nx [rv ad w0, iv a1, iv a2] I I e := by
  refine met_of (lv0 := [(0, rv ad w0), (1, iv a1), (2, iv a2)]) (by decide) (Nat.le_of_ble_eq_true rfl) rfl (fun p e0 s m args below meth c S0 hK hX hr hlk Q hQ => ?_)
  have hf : OK (f_X2_isOffered T A w0 a1 a2 I) (fun z => z = e) := ⟨e, h, rfl⟩
  unfold f_X2_isOffered at hf
  obtain ⟨hw0, hf⟩ := ok_grd hf
  refine r_aload_n (pc := 0) S0 0 dX2_isOffered_0 rfl rfl ?_
  refine r_iload_n (pc := 1) S0 1 dX2_isOffered_1 rfl rfl ?_
  obtain ⟨e1, h2, hf⟩ := ok_bind hf
  refine r_cV_I (pc := 2) [iv a1] S0 hK hX mv_X2_61 (k_X2_hasOfficial h2) (c_X2_hasOfficial l cA D N sx ad T A nx I w0 a1 ca1 e1 h2) rfl rfl ⟨by decide, by decide⟩ (Nat.le_of_ble_eq_true rfl) ⟨Nat.le_refl _, Nat.le_refl _⟩ dX2_isOffered_2 (fun c3 => ?_)
  refine r_if_eq (pc := 5) (tgt := 12) S0 dX2_isOffered_5 (by decide) c3 hf (fun hf => ?_) (fun hf => ?_)
  · refine r_iconst (pc := 12) S0 dX2_isOffered_12 ?_
    have hz := ok_some hf
    have hz : 0 = e := hz
    subst hQ
    subst hz
    exact r_zret (pc := 13) S0 hr hlk (Or.inl rfl) dX2_isOffered_13
  · refine r_iload_n (pc := 8) S0 2 dX2_isOffered_8 rfl rfl ?_
    refine r_if_ge (pc := 9) (tgt := 14) S0 dX2_isOffered_9 (by decide) ca2 hf (fun hf => ?_) (fun hf => ?_)
    · refine r_iload_n (pc := 14) S0 2 dX2_isOffered_14 rfl rfl ?_
      refine r_bipush (pc := 15) S0 dX2_isOffered_15 (by decide) ?_
      refine r_irem (pc := 17) S0 dX2_isOffered_17 (cnz 10 rfl) hf (fun hf => ?_)
      refine r_istore_n (pc := 18) (lv' := [(3, iv (irm a2 10)), (0, rv ad w0), (1, iv a1), (2, iv a2)]) S0 dX2_isOffered_18 rfl (by decide) rfl ?_
      refine r_aload_n (pc := 19) S0 1 dX2_isOffered_19 rfl rfl ?_
      refine r_getR (pc := 20) S0 hK fl_X2_17 dX2_isOffered_20 hf (fun x4 hf => ?_)
      refine r_iconst (pc := 23) S0 dX2_isOffered_23 ?_
      refine r_aald 24 4 (pc := 24) S0 hK (by decide) rfl rfl dX2_isOffered_24 (cnz 3 rfl) hf (fun x5 hf => ?_)
      refine r_iload_n (pc := 25) S0 2 dX2_isOffered_25 rfl rfl ?_
      refine r_iald (pc := 26) S0 hK dX2_isOffered_26 ca1 hf (fun x6 c7 hf => ?_)
      refine r_iload_n (pc := 27) S0 3 dX2_isOffered_27 rfl rfl ?_
      refine r_bipush (pc := 28) S0 dX2_isOffered_28 (by decide) ?_
      refine r_idiv (pc := 30) S0 dX2_isOffered_30 (cnz 10 rfl) hf (fun hf => ?_)
      refine r_iconst (pc := 31) S0 dX2_isOffered_31 ?_
      refine r_irem (pc := 32) S0 dX2_isOffered_32 (cnz 5 rfl) hf (fun hf => ?_)
      obtain ⟨e8, h9, hf⟩ := ok_bind hf
      refine r_cN_I (pc := 33) [iv x6, iv (irm (idv a2 10) 5)] S0 hK hX mn_X2_69 (c_X11_hasBit l cA D N sx ad T A nx I x6 (irm (idv a2 10) 5) c7 (cn_toInt _) e8 h9) rfl rfl ⟨by decide, by decide⟩ (Nat.le_of_ble_eq_true rfl) ⟨Nat.le_refl _, Nat.le_refl _⟩ dX2_isOffered_33 (fun c10 => ?_)
      refine r_if_eq (pc := 36) (tgt := 79) S0 dX2_isOffered_36 (by decide) c10 hf (fun hf => ?_) (fun hf => ?_)
      · refine r_iconst (pc := 79) S0 dX2_isOffered_79 ?_
        have hz := ok_some hf
        have hz : 0 = e := hz
        subst hQ
        subst hz
        exact r_zret (pc := 80) S0 hr hlk (Or.inl rfl) dX2_isOffered_80
      · refine r_iload_n (pc := 39) S0 0 dX2_isOffered_39 rfl rfl ?_
        refine r_aload_n (pc := 40) S0 1 dX2_isOffered_40 rfl rfl ?_
        refine r_getR (pc := 41) S0 hK fl_X2_17 dX2_isOffered_41 hf (fun x11 hf => ?_)
        refine r_iconst (pc := 44) S0 dX2_isOffered_44 ?_
        refine r_aald 24 4 (pc := 45) S0 hK (by decide) rfl rfl dX2_isOffered_45 (cnz 1 rfl) hf (fun x12 hf => ?_)
        refine r_iload_n (pc := 46) S0 2 dX2_isOffered_46 rfl rfl ?_
        refine r_iald (pc := 47) S0 hK dX2_isOffered_47 ca1 hf (fun x13 c14 hf => ?_)
        refine r_icmp_lt (pc := 48) (tgt := 79) S0 dX2_isOffered_48 (by decide) (cn_toInt _) c14 hf (fun hf => ?_) (fun hf => ?_)
        · refine r_iconst (pc := 79) S0 dX2_isOffered_79 ?_
          have hz := ok_some hf
          have hz : 0 = e := hz
          subst hQ
          subst hz
          exact r_zret (pc := 80) S0 hr hlk (Or.inl rfl) dX2_isOffered_80
        · refine r_iload_n (pc := 51) S0 0 dX2_isOffered_51 rfl rfl ?_
          refine r_aload_n (pc := 52) S0 1 dX2_isOffered_52 rfl rfl ?_
          refine r_getR (pc := 53) S0 hK fl_X2_17 dX2_isOffered_53 hf (fun x15 hf => ?_)
          refine r_iconst (pc := 56) S0 dX2_isOffered_56 ?_
          refine r_aald 24 4 (pc := 57) S0 hK (by decide) rfl rfl dX2_isOffered_57 (cnz 2 rfl) hf (fun x16 hf => ?_)
          refine r_iload_n (pc := 58) S0 2 dX2_isOffered_58 rfl rfl ?_
          refine r_iald (pc := 59) S0 hK dX2_isOffered_59 ca1 hf (fun x17 c18 hf => ?_)
          refine r_icmp_gt (pc := 60) (tgt := 79) S0 dX2_isOffered_60 (by decide) (cn_toInt _) c18 hf (fun hf => ?_) (fun hf => ?_)
          · refine r_iconst (pc := 79) S0 dX2_isOffered_79 ?_
            have hz := ok_some hf
            have hz : 0 = e := hz
            subst hQ
            subst hz
            exact r_zret (pc := 80) S0 hr hlk (Or.inl rfl) dX2_isOffered_80
          · refine r_iload_n (pc := 63) S0 0 dX2_isOffered_63 rfl rfl ?_
            refine r_aload_n (pc := 64) S0 1 dX2_isOffered_64 rfl rfl ?_
            refine r_getR (pc := 65) S0 hK fl_X2_17 dX2_isOffered_65 hf (fun x19 hf => ?_)
            refine r_iconst (pc := 68) S0 dX2_isOffered_68 ?_
            refine r_aald 24 4 (pc := 69) S0 hK (by decide) rfl rfl dX2_isOffered_69 (cnz 4 rfl) hf (fun x20 hf => ?_)
            refine r_iload_n (pc := 70) S0 2 dX2_isOffered_70 rfl rfl ?_
            refine r_iald (pc := 71) S0 hK dX2_isOffered_71 ca1 hf (fun x21 c22 hf => ?_)
            refine r_icmp_eq (pc := 72) (tgt := 79) S0 dX2_isOffered_72 (by decide) (cn_toInt _) c22 hf (fun hf => ?_) (fun hf => ?_)
            · refine r_iconst (pc := 79) S0 dX2_isOffered_79 ?_
              have hz := ok_some hf
              have hz : 0 = e := hz
              subst hQ
              subst hz
              exact r_zret (pc := 80) S0 hr hlk (Or.inl rfl) dX2_isOffered_80
            · refine r_iconst (pc := 75) S0 dX2_isOffered_75 ?_
              refine r_goto (pc := 76) (tgt := 80) S0 dX2_isOffered_76 (by decide) ?_
              have hz := ok_some hf
              have hz : 1 = e := hz
              subst hQ
              subst hz
              exact r_zret (pc := 80) S0 hr hlk (Or.inr rfl) dX2_isOffered_80
    · refine r_iconst (pc := 12) S0 dX2_isOffered_12 ?_
      have hz := ok_some hf
      have hz : 0 = e := hz
      subst hQ
      subst hz
      exact r_zret (pc := 13) S0 hr hlk (Or.inl rfl) dX2_isOffered_13

set_option maxHeartbeats 4000000 in
set_option maxRecDepth 100000 in
theorem c_X2_isOpen (l : Launch) (cA : Nat → ClassId) (D : va_G) (N : Nat) (sx : Sx) (ad : Nat → Nat) (T : Knd) (A : Rfs) (nx : Nat) (I : Mem) (w0 : Nat) (a1 : Int) (a2 : Int) (ca1 : cn a1) (ca2 : cn a2) (e : Int) (h : f_X2_isOpen T A w0 a1 a2 I = some e) : CtI l yX2_isOpen cX2_isOpen 5 (some .boolean) 3 104 cA D N sx ad T A nx [rv ad w0, iv a1, iv a2] I I e := by
  refine met_of (lv0 := [(0, rv ad w0), (1, iv a1), (2, iv a2)]) (by decide) (Nat.le_of_ble_eq_true rfl) rfl (fun p e0 s m args below meth c S0 hK hX hr hlk Q hQ => ?_)
  have hf : OK (f_X2_isOpen T A w0 a1 a2 I) (fun z => z = e) := ⟨e, h, rfl⟩
  unfold f_X2_isOpen at hf
  obtain ⟨hw0, hf⟩ := ok_grd hf
  refine r_aload_n (pc := 0) S0 0 dX2_isOpen_0 rfl rfl ?_
  refine r_iload_n (pc := 1) S0 1 dX2_isOpen_1 rfl rfl ?_
  obtain ⟨e1, h2, hf⟩ := ok_bind hf
  refine r_cV_I (pc := 2) [iv a1] S0 hK hX mv_X2_61 (k_X2_hasOfficial h2) (c_X2_hasOfficial l cA D N sx ad T A nx I w0 a1 ca1 e1 h2) rfl rfl ⟨by decide, by decide⟩ (Nat.le_of_ble_eq_true rfl) ⟨Nat.le_refl _, Nat.le_refl _⟩ dX2_isOpen_2 (fun c3 => ?_)
  refine r_if_ne (pc := 5) (tgt := 10) S0 dX2_isOpen_5 (by decide) c3 hf (fun hf => ?_) (fun hf => ?_)
  · refine r_iload_n (pc := 10) S0 2 dX2_isOpen_10 rfl rfl ?_
    refine r_bipush (pc := 11) S0 dX2_isOpen_11 (by decide) ?_
    refine r_idiv (pc := 13) S0 dX2_isOpen_13 (cnz 10 rfl) hf (fun hf => ?_)
    refine r_istore_n (pc := 14) (lv' := [(3, iv (idv a2 10)), (0, rv ad w0), (1, iv a1), (2, iv a2)]) S0 dX2_isOpen_14 rfl (by decide) rfl ?_
    refine r_iload_n (pc := 15) S0 0 dX2_isOpen_15 rfl rfl ?_
    refine r_aload_n (pc := 16) S0 1 dX2_isOpen_16 rfl rfl ?_
    refine r_getR (pc := 17) S0 hK fl_X2_17 dX2_isOpen_17 hf (fun x4 hf => ?_)
    refine r_bipush (pc := 20) S0 dX2_isOpen_20 (by decide) ?_
    refine r_aald 24 4 (pc := 22) S0 hK (by decide) rfl rfl dX2_isOpen_22 (cnz 7 rfl) hf (fun x5 hf => ?_)
    refine r_iload_n (pc := 23) S0 2 dX2_isOpen_23 rfl rfl ?_
    refine r_iald (pc := 24) S0 hK dX2_isOpen_24 ca1 hf (fun x6 c7 hf => ?_)
    refine thn_rule (P := fun v9 => cn v9 → G p l e0 (rmx 3 104) s m args below meth c 0 0 Q cA D N 5 ad T A nx 46 [(0, rv ad w0), (1, iv a1), (2, iv a2)] [iv v9] I) hf (fun v9 hf c10 => ?_) (fun K8 hf => ?_)
    · refine r_istore (pc := 46) (lv' := [(4, iv v9), (0, rv ad w0), (1, iv a1), (2, iv a2)]) S0 dX2_isOpen_46 (by decide) rfl ?_
      refine r_iload (pc := 48) S0 0 dX2_isOpen_48 rfl ?_
      refine r_if_ne (pc := 50) (tgt := 66) S0 dX2_isOpen_50 (by decide) c10 hf (fun hf => ?_) (fun hf => ?_)
      · refine r_iconst (pc := 66) S0 dX2_isOpen_66 ?_
        have hz := ok_some hf
        have hz : 0 = e := hz
        subst hQ
        subst hz
        exact r_zret (pc := 67) S0 hr hlk (Or.inl rfl) dX2_isOpen_67
      · refine r_aload_n (pc := 53) S0 1 dX2_isOpen_53 rfl rfl ?_
        refine r_iload_n (pc := 54) S0 2 dX2_isOpen_54 rfl rfl ?_
        refine r_iload_n (pc := 55) S0 3 dX2_isOpen_55 rfl rfl ?_
        obtain ⟨e17, h18, hf⟩ := ok_bind hf
        refine r_cV_I (pc := 56) [iv a1, iv a2] S0 hK hX mv_X2_65 (k_X2_isOffered h18) (c_X2_isOffered l cA D N sx ad T A nx I w0 a1 a2 ca1 ca2 e17 h18) rfl rfl ⟨by decide, by decide⟩ (Nat.le_of_ble_eq_true rfl) ⟨Nat.le_refl _, Nat.le_refl _⟩ dX2_isOpen_56 (fun c19 => ?_)
        refine r_if_eq (pc := 59) (tgt := 66) S0 dX2_isOpen_59 (by decide) c19 hf (fun hf => ?_) (fun hf => ?_)
        · refine r_iconst (pc := 66) S0 dX2_isOpen_66 ?_
          have hz := ok_some hf
          have hz : 0 = e := hz
          subst hQ
          subst hz
          exact r_zret (pc := 67) S0 hr hlk (Or.inl rfl) dX2_isOpen_67
        · refine r_iconst (pc := 62) S0 dX2_isOpen_62 ?_
          refine r_goto (pc := 63) (tgt := 67) S0 dX2_isOpen_63 (by decide) ?_
          have hz := ok_some hf
          have hz : 1 = e := hz
          subst hQ
          subst hz
          exact r_zret (pc := 67) S0 hr hlk (Or.inr rfl) dX2_isOpen_67
    · refine thn_rule (P := fun v12 => G p l e0 (rmx 3 104) s m args below meth c 0 0 Q cA D N 5 ad T A nx 45 [(0, rv ad w0), (1, iv a1), (2, iv a2)] [] I) hf (fun v12 hf => ?_) (fun K11 hf => ?_)
      · refine r_iconst (pc := 45) S0 dX2_isOpen_45 ?_
        have hz := ok_some hf
        refine r_lv [0, 1, 2] rfl ?_
        exact K8 0 hz (cnz 0 rfl)
      · refine r_icmp_lt (pc := 25) (tgt := 45) S0 dX2_isOpen_25 (by decide) (cn_toInt _) c7 hf (fun hf => ?_) (fun hf => ?_)
        · have hz := ok_some hf
          refine r_lv [1, 2, 3] rfl ?_
          exact K11 () hz
        · refine r_iload_n (pc := 28) S0 0 dX2_isOpen_28 rfl rfl ?_
          refine r_aload_n (pc := 29) S0 1 dX2_isOpen_29 rfl rfl ?_
          refine r_getR (pc := 30) S0 hK fl_X2_17 dX2_isOpen_30 hf (fun x13 hf => ?_)
          refine r_bipush (pc := 33) S0 dX2_isOpen_33 (by decide) ?_
          refine r_aald 24 4 (pc := 35) S0 hK (by decide) rfl rfl dX2_isOpen_35 (cnz 8 rfl) hf (fun x14 hf => ?_)
          refine r_iload_n (pc := 36) S0 2 dX2_isOpen_36 rfl rfl ?_
          refine r_iald (pc := 37) S0 hK dX2_isOpen_37 ca1 hf (fun x15 c16 hf => ?_)
          refine r_icmp_gt (pc := 38) (tgt := 45) S0 dX2_isOpen_38 (by decide) (cn_toInt _) c16 hf (fun hf => ?_) (fun hf => ?_)
          · have hz := ok_some hf
            refine r_lv [1, 2, 3] rfl ?_
            exact K11 () hz
          · refine r_iconst (pc := 41) S0 dX2_isOpen_41 ?_
            refine r_goto (pc := 42) (tgt := 46) S0 dX2_isOpen_42 (by decide) ?_
            have hz := ok_some hf
            refine r_lv [1, 2, 3] rfl ?_
            exact K8 1 hz (cnz 1 rfl)
  · refine r_iconst (pc := 8) S0 dX2_isOpen_8 ?_
    have hz := ok_some hf
    have hz : 0 = e := hz
    subst hQ
    subst hz
    exact r_zret (pc := 9) S0 hr hlk (Or.inl rfl) dX2_isOpen_9

set_option maxHeartbeats 4000000 in
set_option maxRecDepth 100000 in
theorem c_X9_drawUp (l : Launch) (cA : Nat → ClassId) (D : va_G) (N : Nat) (sx : Sx) (ad : Nat → Nat) (T : Knd) (A : Rfs) (nx : Nat) (I : Mem) (w0 : Nat) (w1 : Nat)  (e : Mem) (h : f_X9_drawUp T A w0 w1 I = some e) : CtV l yX9_drawUp cX9_drawUp 5 none 4 128 cA D N sx ad T A nx [rv ad w0, rv ad w1] I e := by
  refine met_of (lv0 := [(0, rv ad w0), (1, rv ad w1)]) (by decide) (Nat.le_of_ble_eq_true rfl) rfl (fun p e0 s m args below meth c S0 hK hX hr hlk Q hQ => ?_)
  have hf : OK (f_X9_drawUp T A w0 w1 I) (fun z => z = e) := ⟨e, h, rfl⟩
  unfold f_X9_drawUp at hf
  obtain ⟨hw0, hf⟩ := ok_grd hf
  refine r_aload_n (pc := 0) S0 0 dX9_drawUp_0 rfl rfl ?_
  refine r_aload_n (pc := 1) S0 1 dX9_drawUp_1 rfl rfl ?_
  obtain ⟨e1, h2, hf⟩ := ok_bind hf
  refine r_cV_V (pc := 2) [rv ad w1] S0 hK hX mv_X9_19 (k_X9_layWays h2) (c_X9_layWays l cA D N sx ad T A nx I w0 w1 e1 h2) rfl rfl ⟨by decide, by decide⟩ (Nat.le_of_ble_eq_true rfl) ⟨Nat.le_refl _, Nat.le_refl _⟩ dX9_drawUp_2 ?_
  refine r_aload_n (pc := 5) S0 0 dX9_drawUp_5 rfl rfl ?_
  refine r_aload_n (pc := 6) S0 1 dX9_drawUp_6 rfl rfl ?_
  refine r_getI (pc := 7) S0 hK fl_X9_23 dX9_drawUp_7 hf (fun x3 c4 hf => ?_)
  obtain ⟨e5, h6, hf⟩ := ok_bind hf
  refine r_cV_V (pc := 10) [iv x3] S0 hK hX mv_X9_29 (k_X9_shortenWalks h6) (c_X9_shortenWalks l cA D N sx ad T A nx e1 w0 x3 c4 e5 h6) rfl rfl ⟨by decide, by decide⟩ (Nat.le_of_ble_eq_true rfl) ⟨Nat.le_refl _, Nat.le_refl _⟩ dX9_drawUp_10 ?_
  refine r_iconst (pc := 13) S0 dX9_drawUp_13 ?_
  refine r_istore_n (pc := 14) (lv' := [(2, iv 0), (0, rv ad w0), (1, rv ad w1)]) S0 dX9_drawUp_14 rfl (by decide) rfl ?_
  refine r_lv [1, 2, 0] rfl ?_
  refine it_ind (P := fun s8 => cn s8.1 → G p l e0 (rmx 4 128) s m args below meth c 0 0 Q cA D N 5 ad T A nx 15 [(0, rv ad w0), (1, rv ad w1), (2, iv s8.1)] [] s8.2) (fun n0 s8 ih7 hf c9 => ?_) FU (0, e5) hf (cnz 0 rfl)
  refine r_iload_n (pc := 15) S0 2 dX9_drawUp_15 rfl rfl ?_
  refine r_aload_n (pc := 16) S0 1 dX9_drawUp_16 rfl rfl ?_
  refine r_getI (pc := 17) S0 hK fl_X9_33 dX9_drawUp_17 hf (fun x10 c11 hf => ?_)
  refine r_icmp_ge (pc := 20) (tgt := 70) S0 dX9_drawUp_20 (by decide) c9 c11 hf (fun hf => ?_) (fun hf => ?_)
  · have hz := ok_some hf
    have hz : s8.2 = e := hz
    subst hQ
    subst hz
    exact r_vret (pc := 70) S0 hr hlk dX9_drawUp_70
  · refine r_iconst (pc := 23) S0 dX9_drawUp_23 ?_
    refine r_istore_n (pc := 24) (lv' := [(3, iv (-1)), (0, rv ad w0), (1, rv ad w1), (2, iv s8.1)]) S0 dX9_drawUp_24 rfl (by decide) rfl ?_
    refine r_sipush (pc := 25) S0 dX9_drawUp_25 (by decide) ?_
    refine r_istore (pc := 28) (lv' := [(4, iv 399), (3, iv (-1)), (0, rv ad w0), (1, rv ad w1), (2, iv s8.1)]) S0 dX9_drawUp_28 (by decide) rfl ?_
    refine r_lv [2, 3, 4, 1, 0] rfl ?_
    refine it_ind (P := fun s13 => cn s13.1 → cn s13.2.1 → G p l e0 (rmx 4 128) s m args below meth c 0 0 Q cA D N 5 ad T A nx 30 [(0, rv ad w0), (1, rv ad w1), (2, iv s8.1), (3, iv s13.1), (4, iv s13.2.1)] [] s13.2.2) (fun n0 s13 ih12 hf c14 c15 => ?_) FU ((-1), 399, s8.2) hf (cnz (-1) rfl) (cnz 399 rfl)
    refine r_iload (pc := 30) S0 4 dX9_drawUp_30 rfl ?_
    refine r_if_lt (pc := 32) (tgt := 64) S0 dX9_drawUp_32 (by decide) c15 hf (fun hf => ?_) (fun hf => ?_)
    · refine r_iinc (pc := 64) (lv' := [(2, iv (ia s8.1 1)), (0, rv ad w0), (1, rv ad w1), (3, iv s13.1), (4, iv s13.2.1)]) S0 2 dX9_drawUp_64 rfl (by decide) rfl ?_
      refine r_goto (pc := 67) (tgt := 15) S0 dX9_drawUp_67 (by decide) ?_
      have hz := ok_some hf
      refine r_lv [1, 2, 0] rfl ?_
      exact ih7 (ia s8.1 1, s13.2.2) hz (cn_wrap _)
    · refine r_aload_n (pc := 35) S0 1 dX9_drawUp_35 rfl rfl ?_
      refine r_iload_n (pc := 36) S0 2 dX9_drawUp_36 rfl rfl ?_
      refine r_iload (pc := 37) S0 4 dX9_drawUp_37 rfl ?_
      obtain ⟨e16, h17, hf⟩ := ok_bind hf
      refine r_cV_I (pc := 39) [iv s8.1, iv s13.2.1] S0 hK hX mv_X9_36 (k_X2_isOpen h17) (c_X2_isOpen l cA D N sx ad T A nx s13.2.2 w1 s8.1 s13.2.1 c9 c15 e16 h17) rfl rfl ⟨by decide, by decide⟩ (Nat.le_of_ble_eq_true rfl) ⟨Nat.le_refl _, Nat.le_refl _⟩ dX9_drawUp_39 (fun c18 => ?_)
      refine thn_rule (P := fun v20 => cn v20 → G p l e0 (rmx 4 128) s m args below meth c 0 0 Q cA D N 5 ad T A nx 48 [(0, rv ad w0), (1, rv ad w1), (2, iv s8.1), (3, iv v20), (4, iv s13.2.1)] [] s13.2.2) hf (fun v20 hf c21 => ?_) (fun K19 hf => ?_)
      · refine r_aload_n (pc := 48) S0 0 dX9_drawUp_48 rfl rfl ?_
        refine r_getR (pc := 49) S0 hK fl_X9_16 dX9_drawUp_49 hf (fun x22 hf => ?_)
        refine r_iload_n (pc := 52) S0 2 dX9_drawUp_52 rfl rfl ?_
        refine r_aald 24 4 (pc := 53) S0 hK (by decide) rfl rfl dX9_drawUp_53 c9 hf (fun x23 hf => ?_)
        refine r_iload (pc := 54) S0 4 dX9_drawUp_54 rfl ?_
        refine r_iload_n (pc := 56) S0 3 dX9_drawUp_56 rfl rfl ?_
        refine r_iast (pc := 57) S0 hK dX9_drawUp_57 c15 c21 hf (fun I24 hf => ?_)
        refine r_iinc (pc := 58) (lv' := [(4, iv (ia s13.2.1 (-1))), (0, rv ad w0), (1, rv ad w1), (2, iv s8.1), (3, iv v20)]) S0 4 dX9_drawUp_58 rfl (by decide) rfl ?_
        refine r_goto (pc := 61) (tgt := 30) S0 dX9_drawUp_61 (by decide) ?_
        have hz := ok_some hf
        refine r_lv [1, 2, 3, 4, 0] rfl ?_
        exact ih12 (v20, ia s13.2.1 (-1), I24) hz c21 (cn_wrap _)
      · refine r_if_eq (pc := 42) (tgt := 48) S0 dX9_drawUp_42 (by decide) c18 hf (fun hf => ?_) (fun hf => ?_)
        · have hz := ok_some hf
          refine r_lv [0, 1, 2, 3, 4] rfl ?_
          exact K19 s13.1 hz c14
        · refine r_iload (pc := 45) S0 4 dX9_drawUp_45 rfl ?_
          refine r_istore_n (pc := 47) (lv' := [(3, iv s13.2.1), (0, rv ad w0), (1, rv ad w1), (2, iv s8.1), (4, iv s13.2.1)]) S0 dX9_drawUp_47 rfl (by decide) rfl ?_
          have hz := ok_some hf
          refine r_lv [1, 2, 3, 0, 4] rfl ?_
          exact K19 s13.2.1 hz c15

set_option maxHeartbeats 4000000 in
set_option maxRecDepth 100000 in
theorem c_X10_beginAt (l : Launch) (cA : Nat → ClassId) (D : va_G) (N : Nat) (sx : Sx) (ad : Nat → Nat) (T : Knd) (A : Rfs) (nx : Nat) (I : Mem) (w0 : Nat) (a1 : Int) (ca1 : cn a1) (e : Mem) (h : f_X10_beginAt T A w0 a1 I = some e) : CtV l yX10_beginAt cX10_beginAt 2 none 2 83 cA D N sx ad T A nx [rv ad w0, iv a1] I e := by
  refine met_of (lv0 := [(0, rv ad w0), (1, iv a1)]) (by decide) (Nat.le_of_ble_eq_true rfl) rfl (fun p e0 s m args below meth c S0 hK hX hr hlk Q hQ => ?_)
  have hf : OK (f_X10_beginAt T A w0 a1 I) (fun z => z = e) := ⟨e, h, rfl⟩
  unfold f_X10_beginAt at hf
  obtain ⟨hw0, hf⟩ := ok_grd hf
  refine r_aload_n (pc := 0) S0 0 dX10_beginAt_0 rfl rfl ?_
  refine r_iload_n (pc := 1) S0 1 dX10_beginAt_1 rfl rfl ?_
  refine r_putI (pc := 2) S0 hK fl_X10_29 rfl rfl ca1 dX10_beginAt_2 hf (fun I1 hf => ?_)
  refine r_aload_n (pc := 5) S0 0 dX10_beginAt_5 rfl rfl ?_
  refine r_aload_n (pc := 6) S0 0 dX10_beginAt_6 rfl rfl ?_
  refine r_getR (pc := 7) S0 hK fl_X10_15 dX10_beginAt_7 hf (fun x2 hf => ?_)
  refine r_getI (pc := 10) S0 hK fl_X10_33 dX10_beginAt_10 hf (fun x3 c4 hf => ?_)
  refine r_putI (pc := 13) S0 hK fl_X10_38 rfl rfl c4 dX10_beginAt_13 hf (fun I5 hf => ?_)
  refine r_aload_n (pc := 16) S0 0 dX10_beginAt_16 rfl rfl ?_
  refine r_iconst (pc := 17) S0 dX10_beginAt_17 ?_
  refine r_putI (pc := 18) S0 hK fl_X10_41 rfl rfl (cnz 0 rfl) dX10_beginAt_18 hf (fun I6 hf => ?_)
  refine r_aload_n (pc := 21) S0 0 dX10_beginAt_21 rfl rfl ?_
  refine r_iconst (pc := 22) S0 dX10_beginAt_22 ?_
  refine r_putI (pc := 23) S0 hK fl_X10_44 rfl rfl (cnz 0 rfl) dX10_beginAt_23 hf (fun I7 hf => ?_)
  refine r_aload_n (pc := 26) S0 0 dX10_beginAt_26 rfl rfl ?_
  refine r_getR (pc := 27) S0 hK fl_X10_9 dX10_beginAt_27 hf (fun x8 hf => ?_)
  refine r_iconst (pc := 30) S0 dX10_beginAt_30 ?_
  obtain ⟨e9, h10, hf⟩ := ok_bind hf
  refine r_cS_V (pc := 31) [rv ad x8, iv (-1)] S0 hK hX ms_X10_23 (c_J7_fill_53178 l cA D N sx ad T A nx I7 x8 (-1) (cnz (-1) rfl) e9 h10) rfl rfl ⟨by decide, by decide⟩ (Nat.le_of_ble_eq_true rfl) ⟨Nat.le_refl _, Nat.le_refl _⟩ dX10_beginAt_31 ?_
  have hz := ok_some hf
  have hz : e9 = e := hz
  subst hQ
  subst hz
  exact r_vret (pc := 34) S0 hr hlk dX10_beginAt_34

set_option maxHeartbeats 4000000 in
set_option maxRecDepth 100000 in
theorem c_X9_hoursBetween (l : Launch) (cA : Nat → ClassId) (D : va_G) (N : Nat) (sx : Sx) (ad : Nat → Nat) (T : Knd) (A : Rfs) (nx : Nat) (I : Mem) (w0 : Nat) (a1 : Int) (a2 : Int) (ca1 : cn a1) (ca2 : cn a2) (e : Int) (h : f_X9_hoursBetween T A w0 a1 a2 I = some e) : CtI l yX9_hoursBetween cX9_hoursBetween 3 (some .int) 1 60 cA D N sx ad T A nx [rv ad w0, iv a1, iv a2] I I e := by
  refine met_of (lv0 := [(0, rv ad w0), (1, iv a1), (2, iv a2)]) (by decide) (Nat.le_of_ble_eq_true rfl) rfl (fun p e0 s m args below meth c S0 hK hX hr hlk Q hQ => ?_)
  have hf : OK (f_X9_hoursBetween T A w0 a1 a2 I) (fun z => z = e) := ⟨e, h, rfl⟩
  unfold f_X9_hoursBetween at hf
  obtain ⟨hw0, hf⟩ := ok_grd hf
  refine r_iload_n (pc := 0) S0 1 dX9_hoursBetween_0 rfl rfl ?_
  refine r_if_lt (pc := 1) (tgt := 20) S0 dX9_hoursBetween_1 (by decide) ca1 hf (fun hf => ?_) (fun hf => ?_)
  · refine r_iconst (pc := 20) S0 dX9_hoursBetween_20 ?_
    have hz := ok_some hf
    have hz : (-1) = e := hz
    subst hQ
    subst hz
    exact r_iret (pc := 21) S0 hr hlk (cnz (-1) rfl) dX9_hoursBetween_21
  · refine r_iload_n (pc := 4) S0 1 dX9_hoursBetween_4 rfl rfl ?_
    refine r_bipush (pc := 5) S0 dX9_hoursBetween_5 (by decide) ?_
    refine r_icmp_ge (pc := 7) (tgt := 20) S0 dX9_hoursBetween_7 (by decide) ca1 (cnz 6 rfl) hf (fun hf => ?_) (fun hf => ?_)
    · refine r_iconst (pc := 20) S0 dX9_hoursBetween_20 ?_
      have hz := ok_some hf
      have hz : (-1) = e := hz
      subst hQ
      subst hz
      exact r_iret (pc := 21) S0 hr hlk (cnz (-1) rfl) dX9_hoursBetween_21
    · refine r_iload_n (pc := 10) S0 2 dX9_hoursBetween_10 rfl rfl ?_
      refine r_if_lt (pc := 11) (tgt := 20) S0 dX9_hoursBetween_11 (by decide) ca2 hf (fun hf => ?_) (fun hf => ?_)
      · refine r_iconst (pc := 20) S0 dX9_hoursBetween_20 ?_
        have hz := ok_some hf
        have hz : (-1) = e := hz
        subst hQ
        subst hz
        exact r_iret (pc := 21) S0 hr hlk (cnz (-1) rfl) dX9_hoursBetween_21
      · refine r_iload_n (pc := 14) S0 2 dX9_hoursBetween_14 rfl rfl ?_
        refine r_bipush (pc := 15) S0 dX9_hoursBetween_15 (by decide) ?_
        refine r_icmp_lt (pc := 17) (tgt := 22) S0 dX9_hoursBetween_17 (by decide) ca2 (cnz 6 rfl) hf (fun hf => ?_) (fun hf => ?_)
        · refine r_aload_n (pc := 22) S0 0 dX9_hoursBetween_22 rfl rfl ?_
          refine r_getR (pc := 23) S0 hK fl_X9_11 dX9_hoursBetween_23 hf (fun x1 hf => ?_)
          refine r_iload_n (pc := 26) S0 1 dX9_hoursBetween_26 rfl rfl ?_
          refine r_aald 24 4 (pc := 27) S0 hK (by decide) rfl rfl dX9_hoursBetween_27 ca1 hf (fun x2 hf => ?_)
          refine r_iload_n (pc := 28) S0 2 dX9_hoursBetween_28 rfl rfl ?_
          refine r_iald (pc := 29) S0 hK dX9_hoursBetween_29 ca2 hf (fun x3 c4 hf => ?_)
          have hz := ok_some hf
          have hz : x3 = e := hz
          subst hQ
          subst hz
          exact r_iret (pc := 30) S0 hr hlk c4 dX9_hoursBetween_30
        · refine r_iconst (pc := 20) S0 dX9_hoursBetween_20 ?_
          have hz := ok_some hf
          have hz : (-1) = e := hz
          subst hQ
          subst hz
          exact r_iret (pc := 21) S0 hr hlk (cnz (-1) rfl) dX9_hoursBetween_21

set_option maxHeartbeats 4000000 in
set_option maxRecDepth 100000 in
theorem c_X10_arrival (l : Launch) (cA : Nat → ClassId) (D : va_G) (N : Nat) (sx : Sx) (ad : Nat → Nat) (T : Knd) (A : Rfs) (nx : Nat) (I : Mem) (w0 : Nat) (a1 : Int) (ca1 : cn a1) (e : Int) (h : f_X10_arrival T A w0 a1 I = some e) : CtI l yX10_arrival cX10_arrival 3 (some .int) 2 82 cA D N sx ad T A nx [rv ad w0, iv a1] I I e := by
  refine met_of (lv0 := [(0, rv ad w0), (1, iv a1)]) (by decide) (Nat.le_of_ble_eq_true rfl) rfl (fun p e0 s m args below meth c S0 hK hX hr hlk Q hQ => ?_)
  have hf : OK (f_X10_arrival T A w0 a1 I) (fun z => z = e) := ⟨e, h, rfl⟩
  unfold f_X10_arrival at hf
  obtain ⟨hw0, hf⟩ := ok_grd hf
  refine r_aload_n (pc := 0) S0 0 dX10_arrival_0 rfl rfl ?_
  refine r_getR (pc := 1) S0 hK fl_X10_15 dX10_arrival_1 hf (fun x1 hf => ?_)
  refine r_iload_n (pc := 4) S0 1 dX10_arrival_4 rfl rfl ?_
  obtain ⟨e2, h3, hf⟩ := ok_bind hf
  refine r_cV_I (pc := 5) [iv a1] S0 hK hX mv_X10_64 (k_X2_hasOfficial h3) (c_X2_hasOfficial l cA D N sx ad T A nx I x1 a1 ca1 e2 h3) rfl rfl ⟨by decide, by decide⟩ (Nat.le_of_ble_eq_true rfl) ⟨Nat.le_refl _, Nat.le_refl _⟩ dX10_arrival_5 (fun c4 => ?_)
  refine r_if_ne (pc := 8) (tgt := 13) S0 dX10_arrival_8 (by decide) c4 hf (fun hf => ?_) (fun hf => ?_)
  · refine r_aload_n (pc := 13) S0 0 dX10_arrival_13 rfl rfl ?_
    refine r_getR (pc := 14) S0 hK fl_X10_19 dX10_arrival_14 hf (fun x5 hf => ?_)
    refine r_aload_n (pc := 17) S0 0 dX10_arrival_17 rfl rfl ?_
    refine r_getI (pc := 18) S0 hK fl_X10_38 dX10_arrival_18 hf (fun x6 c7 hf => ?_)
    refine r_aload_n (pc := 21) S0 0 dX10_arrival_21 rfl rfl ?_
    refine r_getR (pc := 22) S0 hK fl_X10_15 dX10_arrival_22 hf (fun x8 hf => ?_)
    refine r_getR (pc := 25) S0 hK fl_X10_68 dX10_arrival_25 hf (fun x9 hf => ?_)
    refine r_iconst (pc := 28) S0 dX10_arrival_28 ?_
    refine r_aald 24 4 (pc := 29) S0 hK (by decide) rfl rfl dX10_arrival_29 (cnz 0 rfl) hf (fun x10 hf => ?_)
    refine r_iload_n (pc := 30) S0 1 dX10_arrival_30 rfl rfl ?_
    refine r_iald (pc := 31) S0 hK dX10_arrival_31 ca1 hf (fun x11 c12 hf => ?_)
    obtain ⟨e13, h14, hf⟩ := ok_bind hf
    refine r_cV_I (pc := 32) [iv x6, iv x11] S0 hK hX mv_X10_72 (k_X9_hoursBetween h14) (c_X9_hoursBetween l cA D N sx ad T A nx I x5 x6 x11 c7 c12 e13 h14) rfl rfl ⟨by decide, by decide⟩ (Nat.le_of_ble_eq_true rfl) ⟨Nat.le_refl _, Nat.le_refl _⟩ dX10_arrival_32 (fun c15 => ?_)
    refine r_istore_n (pc := 35) (lv' := [(2, iv e13), (0, rv ad w0), (1, iv a1)]) S0 dX10_arrival_35 rfl (by decide) rfl ?_
    refine r_iload_n (pc := 36) S0 0 dX10_arrival_36 rfl rfl ?_
    refine r_iconst (pc := 37) S0 dX10_arrival_37 ?_
    refine r_icmp_ne (pc := 38) (tgt := 45) S0 dX10_arrival_38 (by decide) c15 (cnz (-1) rfl) hf (fun hf => ?_) (fun hf => ?_)
    · refine r_aload_n (pc := 45) S0 1 dX10_arrival_45 rfl rfl ?_
      refine r_getI (pc := 46) S0 hK fl_X10_29 dX10_arrival_46 hf (fun x16 c17 hf => ?_)
      refine r_iload_n (pc := 49) S0 0 dX10_arrival_49 rfl rfl ?_
      refine r_iadd (pc := 50) S0 dX10_arrival_50 ?_
      have hz := ok_some hf
      have hz : (ia x16 e13) = e := hz
      subst hQ
      subst hz
      exact r_iret (pc := 51) S0 hr hlk (cn_wrap _) dX10_arrival_51
    · refine r_iconst (pc := 41) S0 dX10_arrival_41 ?_
      refine r_goto (pc := 42) (tgt := 51) S0 dX10_arrival_42 (by decide) ?_
      have hz := ok_some hf
      have hz : (-1) = e := hz
      subst hQ
      subst hz
      exact r_iret (pc := 51) S0 hr hlk (cnz (-1) rfl) dX10_arrival_51
  · refine r_iconst (pc := 11) S0 dX10_arrival_11 ?_
    have hz := ok_some hf
    have hz : (-1) = e := hz
    subst hQ
    subst hz
    exact r_iret (pc := 12) S0 hr hlk (cnz (-1) rfl) dX10_arrival_12

set_option maxHeartbeats 4000000 in
set_option maxRecDepth 100000 in
theorem c_X10_lastHeld (l : Launch) (cA : Nat → ClassId) (D : va_G) (N : Nat) (sx : Sx) (ad : Nat → Nat) (T : Knd) (A : Rfs) (nx : Nat) (I : Mem) (w0 : Nat) (a1 : Int) (ca1 : cn a1) (e : Int) (h : f_X10_lastHeld T A w0 a1 I = some e) : CtI l yX10_lastHeld cX10_lastHeld 2 (some .int) 1 60 cA D N sx ad T A nx [rv ad w0, iv a1] I I e := by
  refine met_of (lv0 := [(0, rv ad w0), (1, iv a1)]) (by decide) (Nat.le_of_ble_eq_true rfl) rfl (fun p e0 s m args below meth c S0 hK hX hr hlk Q hQ => ?_)
  have hf : OK (f_X10_lastHeld T A w0 a1 I) (fun z => z = e) := ⟨e, h, rfl⟩
  unfold f_X10_lastHeld at hf
  obtain ⟨hw0, hf⟩ := ok_grd hf
  refine r_iload_n (pc := 0) S0 1 dX10_lastHeld_0 rfl rfl ?_
  refine r_if_lt (pc := 1) (tgt := 19) S0 dX10_lastHeld_1 (by decide) ca1 hf (fun hf => ?_) (fun hf => ?_)
  · refine r_iconst (pc := 19) S0 dX10_lastHeld_19 ?_
    have hz := ok_some hf
    have hz : (-1) = e := hz
    subst hQ
    subst hz
    exact r_iret (pc := 20) S0 hr hlk (cnz (-1) rfl) dX10_lastHeld_20
  · refine r_iload_n (pc := 4) S0 1 dX10_lastHeld_4 rfl rfl ?_
    refine r_bipush (pc := 5) S0 dX10_lastHeld_5 (by decide) ?_
    refine r_icmp_ge (pc := 7) (tgt := 19) S0 dX10_lastHeld_7 (by decide) ca1 (cnz 8 rfl) hf (fun hf => ?_) (fun hf => ?_)
    · refine r_iconst (pc := 19) S0 dX10_lastHeld_19 ?_
      have hz := ok_some hf
      have hz : (-1) = e := hz
      subst hQ
      subst hz
      exact r_iret (pc := 20) S0 hr hlk (cnz (-1) rfl) dX10_lastHeld_20
    · refine r_aload_n (pc := 10) S0 0 dX10_lastHeld_10 rfl rfl ?_
      refine r_getR (pc := 11) S0 hK fl_X10_9 dX10_lastHeld_11 hf (fun x1 hf => ?_)
      refine r_iload_n (pc := 14) S0 1 dX10_lastHeld_14 rfl rfl ?_
      refine r_iald (pc := 15) S0 hK dX10_lastHeld_15 ca1 hf (fun x2 c3 hf => ?_)
      refine r_goto (pc := 16) (tgt := 20) S0 dX10_lastHeld_16 (by decide) ?_
      have hz := ok_some hf
      have hz : x2 = e := hz
      subst hQ
      subst hz
      exact r_iret (pc := 20) S0 hr hlk c3 dX10_lastHeld_20

set_option maxHeartbeats 4000000 in
set_option maxRecDepth 100000 in
theorem c_X10_holds (l : Launch) (cA : Nat → ClassId) (D : va_G) (N : Nat) (sx : Sx) (ad : Nat → Nat) (T : Knd) (A : Rfs) (nx : Nat) (I : Mem) (w0 : Nat) (a1 : Int) (ca1 : cn a1) (e : Int) (h : f_X10_holds T A w0 a1 I = some e) : CtI l yX10_holds cX10_holds 2 (some .boolean) 2 81 cA D N sx ad T A nx [rv ad w0, iv a1] I I e := by
  refine met_of (lv0 := [(0, rv ad w0), (1, iv a1)]) (by decide) (Nat.le_of_ble_eq_true rfl) rfl (fun p e0 s m args below meth c S0 hK hX hr hlk Q hQ => ?_)
  have hf : OK (f_X10_holds T A w0 a1 I) (fun z => z = e) := ⟨e, h, rfl⟩
  unfold f_X10_holds at hf
  obtain ⟨hw0, hf⟩ := ok_grd hf
  refine r_aload_n (pc := 0) S0 0 dX10_holds_0 rfl rfl ?_
  refine r_iload_n (pc := 1) S0 1 dX10_holds_1 rfl rfl ?_
  obtain ⟨e1, h2, hf⟩ := ok_bind hf
  refine r_cV_I (pc := 2) [iv a1] S0 hK hX mv_X10_53 (k_X10_lastHeld h2) (c_X10_lastHeld l cA D N sx ad T A nx I w0 a1 ca1 e1 h2) rfl rfl ⟨by decide, by decide⟩ (Nat.le_of_ble_eq_true rfl) ⟨Nat.le_refl _, Nat.le_refl _⟩ dX10_holds_2 (fun c3 => ?_)
  refine r_aload_n (pc := 5) S0 0 dX10_holds_5 rfl rfl ?_
  refine r_getI (pc := 6) S0 hK fl_X10_29 dX10_holds_6 hf (fun x4 c5 hf => ?_)
  refine r_icmp_lt (pc := 9) (tgt := 16) S0 dX10_holds_9 (by decide) c3 c5 hf (fun hf => ?_) (fun hf => ?_)
  · refine r_iconst (pc := 16) S0 dX10_holds_16 ?_
    have hz := ok_some hf
    have hz : 0 = e := hz
    subst hQ
    subst hz
    exact r_zret (pc := 17) S0 hr hlk (Or.inl rfl) dX10_holds_17
  · refine r_iconst (pc := 12) S0 dX10_holds_12 ?_
    refine r_goto (pc := 13) (tgt := 17) S0 dX10_holds_13 (by decide) ?_
    have hz := ok_some hf
    have hz : 1 = e := hz
    subst hQ
    subst hz
    exact r_zret (pc := 17) S0 hr hlk (Or.inr rfl) dX10_holds_17

set_option maxHeartbeats 4000000 in
set_option maxRecDepth 100000 in
theorem c_X10_unbarred (l : Launch) (cA : Nat → ClassId) (D : va_G) (N : Nat) (sx : Sx) (ad : Nat → Nat) (T : Knd) (A : Rfs) (nx : Nat) (I : Mem) (w0 : Nat) (a1 : Int) (a2 : Int) (ca1 : cn a1) (ca2 : cn a2) (e : Int) (h : f_X10_unbarred T A w0 a1 a2 I = some e) : CtI l yX10_unbarred cX10_unbarred 6 (some .int) 2 81 cA D N sx ad T A nx [rv ad w0, iv a1, iv a2] I I e := by
  refine met_of (lv0 := [(0, rv ad w0), (1, iv a1), (2, iv a2)]) (by decide) (Nat.le_of_ble_eq_true rfl) rfl (fun p e0 s m args below meth c S0 hK hX hr hlk Q hQ => ?_)
  have hf : OK (f_X10_unbarred T A w0 a1 a2 I) (fun z => z = e) := ⟨e, h, rfl⟩
  unfold f_X10_unbarred at hf
  obtain ⟨hw0, hf⟩ := ok_grd hf
  refine r_iload_n (pc := 0) S0 2 dX10_unbarred_0 rfl rfl ?_
  refine r_istore_n (pc := 1) (lv' := [(3, iv a2), (0, rv ad w0), (1, iv a1), (2, iv a2)]) S0 dX10_unbarred_1 rfl (by decide) rfl ?_
  refine r_aload_n (pc := 2) S0 1 dX10_unbarred_2 rfl rfl ?_
  refine r_getR (pc := 3) S0 hK fl_X10_15 dX10_unbarred_3 hf (fun x1 hf => ?_)
  refine r_iload_n (pc := 6) S0 2 dX10_unbarred_6 rfl rfl ?_
  obtain ⟨e2, h3, hf⟩ := ok_bind hf
  refine r_cV_I (pc := 7) [iv a1] S0 hK hX mv_X10_64 (k_X2_hasOfficial h3) (c_X2_hasOfficial l cA D N sx ad T A nx I x1 a1 ca1 e2 h3) rfl rfl ⟨by decide, by decide⟩ (Nat.le_of_ble_eq_true rfl) ⟨Nat.le_refl _, Nat.le_refl _⟩ dX10_unbarred_7 (fun c4 => ?_)
  refine thn_rule (P := fun v6 => cn v6 → G p l e0 (rmx 2 81) s m args below meth c 0 0 Q cA D N 6 ad T A nx 29 [(0, rv ad w0), (3, iv a2)] [iv v6] I) hf (fun v6 hf c7 => ?_) (fun K5 hf => ?_)
  · refine r_istore (pc := 29) (lv' := [(4, iv v6), (0, rv ad w0), (3, iv a2)]) S0 dX10_unbarred_29 (by decide) rfl ?_
    refine r_iconst (pc := 31) S0 dX10_unbarred_31 ?_
    refine r_istore (pc := 32) (lv' := [(5, iv 0), (4, iv v6), (0, rv ad w0), (3, iv a2)]) S0 dX10_unbarred_32 (by decide) rfl ?_
    refine r_lv [2, 3, 1, 0] rfl ?_
    refine it_ind (P := fun s14 => cn s14.1 → cn s14.2 → G p l e0 (rmx 2 81) s m args below meth c 0 0 Q cA D N 6 ad T A nx 34 [(0, rv ad w0), (3, iv s14.1), (4, iv v6), (5, iv s14.2)] [] I) (fun n0 s14 ih13 hf c15 c16 => ?_) FU (a2, 0) hf ca2 (cnz 0 rfl)
    refine r_iload (pc := 34) S0 3 dX10_unbarred_34 rfl ?_
    refine r_bipush (pc := 36) S0 dX10_unbarred_36 (by decide) ?_
    refine r_icmp_ge (pc := 38) (tgt := 79) S0 dX10_unbarred_38 (by decide) c16 (cnz 8 rfl) hf (fun hf => ?_) (fun hf => ?_)
    · refine r_iload_n (pc := 79) S0 1 dX10_unbarred_79 rfl rfl ?_
      have hz := ok_some hf
      have hz : s14.1 = e := hz
      subst hQ
      subst hz
      exact r_iret (pc := 80) S0 hr hlk c15 dX10_unbarred_80
    · refine r_iload (pc := 41) S0 2 dX10_unbarred_41 rfl ?_
      refine r_iload (pc := 43) S0 3 dX10_unbarred_43 rfl ?_
      refine r_ishr (pc := 45) S0 dX10_unbarred_45 ?_
      refine r_if_eq (pc := 46) (tgt := 79) S0 dX10_unbarred_46 (by decide) (cn_toInt _) hf (fun hf => ?_) (fun hf => ?_)
      · refine r_iload_n (pc := 79) S0 1 dX10_unbarred_79 rfl rfl ?_
        have hz := ok_some hf
        have hz : s14.1 = e := hz
        subst hQ
        subst hz
        exact r_iret (pc := 80) S0 hr hlk c15 dX10_unbarred_80
      · refine r_iload (pc := 49) S0 2 dX10_unbarred_49 rfl ?_
        refine r_iload (pc := 51) S0 3 dX10_unbarred_51 rfl ?_
        obtain ⟨e17, h18, hf⟩ := ok_bind hf
        refine r_cN_I (pc := 53) [iv v6, iv s14.2] S0 hK hX mn_X10_78 (c_X11_hasBit l cA D N sx ad T A nx I v6 s14.2 c7 c16 e17 h18) rfl rfl ⟨by decide, by decide⟩ (Nat.le_of_ble_eq_true rfl) ⟨Nat.le_refl _, Nat.le_refl _⟩ dX10_unbarred_53 (fun c19 => ?_)
        refine r_if_eq (pc := 56) (tgt := 73) S0 dX10_unbarred_56 (by decide) c19 hf (fun hf => ?_) (fun hf => ?_)
        · refine r_iinc (pc := 73) (lv' := [(5, iv (ia s14.2 1)), (0, rv ad w0), (3, iv s14.1), (4, iv v6)]) S0 3 dX10_unbarred_73 rfl (by decide) rfl ?_
          refine r_goto (pc := 76) (tgt := 34) S0 dX10_unbarred_76 (by decide) ?_
          have hz := ok_some hf
          refine r_lv [1, 2, 3, 0] rfl ?_
          exact ih13 (s14.1, ia s14.2 1) hz c15 (cn_wrap _)
        · refine r_iload_n (pc := 59) S0 1 dX10_unbarred_59 rfl rfl ?_
          refine r_aload_n (pc := 60) S0 0 dX10_unbarred_60 rfl rfl ?_
          refine r_getR (pc := 61) S0 hK fl_X10_9 dX10_unbarred_61 hf (fun x20 hf => ?_)
          refine r_iload (pc := 64) S0 3 dX10_unbarred_64 rfl ?_
          refine r_iald (pc := 66) S0 hK dX10_unbarred_66 c16 hf (fun x21 c22 hf => ?_)
          refine r_iconst (pc := 67) S0 dX10_unbarred_67 ?_
          refine r_iadd (pc := 68) S0 dX10_unbarred_68 ?_
          refine r_mmax (pc := 69) S0 mmmax_X10_82 ⟨by decide, Nat.le_of_ble_eq_true rfl⟩ ⟨Nat.le_refl _, Nat.le_refl _⟩ dX10_unbarred_69 c15 (cn_wrap _) ?_
          refine r_istore_n (pc := 72) (lv' := [(3, iv (imax s14.1 (ia x21 1))), (0, rv ad w0), (4, iv v6), (5, iv s14.2)]) S0 dX10_unbarred_72 rfl (by decide) rfl ?_
          refine r_iinc (pc := 73) (lv' := [(5, iv (ia s14.2 1)), (3, iv (imax s14.1 (ia x21 1))), (0, rv ad w0), (4, iv v6)]) S0 3 dX10_unbarred_73 rfl (by decide) rfl ?_
          refine r_goto (pc := 76) (tgt := 34) S0 dX10_unbarred_76 (by decide) ?_
          have hz := ok_some hf
          refine r_lv [2, 1, 3, 0] rfl ?_
          exact ih13 (imax s14.1 (ia x21 1), ia s14.2 1) hz (cn_imax c15 (cn_wrap _)) (cn_wrap _)
  · refine r_if_eq (pc := 10) (tgt := 28) S0 dX10_unbarred_10 (by decide) c4 hf (fun hf => ?_) (fun hf => ?_)
    · refine r_iconst (pc := 28) S0 dX10_unbarred_28 ?_
      have hz := ok_some hf
      refine r_lv [1, 0] rfl ?_
      exact K5 0 hz (cnz 0 rfl)
    · refine r_aload_n (pc := 13) S0 1 dX10_unbarred_13 rfl rfl ?_
      refine r_getR (pc := 14) S0 hK fl_X10_15 dX10_unbarred_14 hf (fun x8 hf => ?_)
      refine r_getR (pc := 17) S0 hK fl_X10_68 dX10_unbarred_17 hf (fun x9 hf => ?_)
      refine r_bipush (pc := 20) S0 dX10_unbarred_20 (by decide) ?_
      refine r_aald 24 4 (pc := 22) S0 hK (by decide) rfl rfl dX10_unbarred_22 (cnz 10 rfl) hf (fun x10 hf => ?_)
      refine r_iload_n (pc := 23) S0 2 dX10_unbarred_23 rfl rfl ?_
      refine r_iald (pc := 24) S0 hK dX10_unbarred_24 ca1 hf (fun x11 c12 hf => ?_)
      refine r_goto (pc := 25) (tgt := 29) S0 dX10_unbarred_25 (by decide) ?_
      have hz := ok_some hf
      refine r_lv [1, 0] rfl ?_
      exact K5 x11 hz c12
