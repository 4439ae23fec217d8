/-! Contracts, laid by wip/gen/gen.py. -/
set_option maxHeartbeats 4000000 in
set_option maxRecDepth 100000 in
theorem c_X12_sets (l : Launch) (cA : Nat → ClassId) (D : va_G) (N : Nat) (sx : Sx) (ad : Nat → Nat) (T : Knd) (A : Rfs) (nx : Nat) (I : Mem) (w0 : Nat)  (e : (Int × Mem)) (h : f_X12_sets T A w0 I = some e) : CtI l yX12_sets cX12_sets 3 (some .int) 3 104 cA D N sx ad T A nx [rv ad w0] I e.2 e.1 := by
  refine met_of (lv0 := [(0, rv ad w0)]) (by decide) (Nat.le_of_ble_eq_true rfl) rfl (fun p e0 s m args below meth c S0 hK hX hr hlk Q hQ => ?_)
  have hf : OK (f_X12_sets T A w0 I) (fun z => z = e) := ⟨e, h, rfl⟩
  unfold f_X12_sets at hf
  obtain ⟨hw0, hf⟩ := ok_grd hf
  refine r_aload_n (pc := 0) S0 0 dX12_sets_0 rfl rfl ?_
  refine r_iconst (pc := 1) S0 dX12_sets_1 ?_
  refine r_putI (pc := 2) S0 hK fl_X12_89 rfl rfl (cnz 0 rfl) dX12_sets_2 hf (fun I1 hf => ?_)
  refine r_aload_n (pc := 5) S0 0 dX12_sets_5 rfl rfl ?_
  obtain ⟨e2, h3, hf⟩ := ok_bind hf
  refine r_cV_I (pc := 6) [] S0 hK hX mv_X12_267 (k_X12_isOffice h3) (c_X12_isOffice l cA D N sx ad T A nx I1 w0 e2 h3) rfl rfl ⟨by decide, by decide⟩ (Nat.le_of_ble_eq_true rfl) ⟨Nat.le_refl _, Nat.le_refl _⟩ dX12_sets_6 (fun c4 => ?_)
  refine r_if_ne (pc := 9) (tgt := 15) S0 dX12_sets_9 (by decide) c4 hf (fun hf => ?_) (fun hf => ?_)
  · refine r_aload_n (pc := 15) S0 0 dX12_sets_15 rfl rfl ?_
    obtain ⟨e5, h6, hf⟩ := ok_bind hf
    refine r_cV_V (pc := 16) [] S0 hK hX mv_X12_412 (k_X12_laysSets h6) (c_X12_laysSets l cA D N sx ad T A nx I1 w0 e5 h6) rfl rfl ⟨by decide, by decide⟩ (Nat.le_of_ble_eq_true rfl) ⟨Nat.le_refl _, Nat.le_refl _⟩ dX12_sets_16 ?_
    refine r_iconst (pc := 19) S0 dX12_sets_19 ?_
    refine r_istore_n (pc := 20) (lv' := [(1, iv 0), (0, rv ad w0)]) S0 dX12_sets_20 rfl (by decide) rfl ?_
    refine r_iconst (pc := 21) S0 dX12_sets_21 ?_
    refine r_istore_n (pc := 22) (lv' := [(2, iv 0), (1, iv 0), (0, rv ad w0)]) S0 dX12_sets_22 rfl (by decide) rfl ?_
    refine r_lv [2, 1, 0] rfl ?_
    refine it_ind (P := fun s8 => cn s8.1 → cn s8.2 → G p l e0 (rmx 3 104) s m args below meth c 0 0 Q cA D N 3 ad T A nx 23 [(0, rv ad w0), (1, iv s8.1), (2, iv s8.2)] [] e5) (fun n0 s8 ih7 hf c9 c10 => ?_) FU (0, 0) hf (cnz 0 rfl) (cnz 0 rfl)
    refine r_iload_n (pc := 23) S0 2 dX12_sets_23 rfl rfl ?_
    refine r_aload_n (pc := 24) S0 0 dX12_sets_24 rfl rfl ?_
    obtain ⟨e11, h12, hf⟩ := ok_bind hf
    refine r_cV_I (pc := 25) [] S0 hK hX mv_X12_403 (k_X12_sets0 h12) (c_X12_sets0 l cA D N sx ad T A nx e5 w0 e11 h12) rfl rfl ⟨by decide, by decide⟩ (Nat.le_of_ble_eq_true rfl) ⟨Nat.le_refl _, Nat.le_refl _⟩ dX12_sets_25 (fun c13 => ?_)
    refine r_icmp_ge (pc := 28) (tgt := 56) S0 dX12_sets_28 (by decide) c10 c13 hf (fun hf => ?_) (fun hf => ?_)
    · refine r_iload_n (pc := 56) S0 1 dX12_sets_56 rfl rfl ?_
      have hz := ok_some hf
      have hz : (s8.1, e5) = e := hz
      subst hQ
      subst hz
      exact r_iret (pc := 57) S0 hr hlk c9 dX12_sets_57
    · refine r_iload_n (pc := 31) S0 1 dX12_sets_31 rfl rfl ?_
      refine r_aload_n (pc := 32) S0 0 dX12_sets_32 rfl rfl ?_
      refine r_getR (pc := 33) S0 hK fl_X12_74 dX12_sets_33 hf (fun x14 hf => ?_)
      refine r_iload_n (pc := 36) S0 2 dX12_sets_36 rfl rfl ?_
      refine r_lald (pc := 37) S0 hK dX12_sets_37 c10 hf (fun x15 c16 hf => ?_)
      refine r_lconst (pc := 38) (v := 0) S0 dX12_sets_38 rfl ?_
      refine r_lcmp (pc := 39) S0 dX12_sets_39 c16 (clz 0 rfl) ?_
      refine r_if_le (pc := 40) (tgt := 47) S0 dX12_sets_40 (by decide) (cn_lcmp _ _) hf (fun hf => ?_) (fun hf => ?_)
      · refine r_iconst (pc := 47) S0 dX12_sets_47 ?_
        refine r_iadd (pc := 48) S0 dX12_sets_48 ?_
        refine r_istore_n (pc := 49) (lv' := [(1, iv (ia s8.1 0)), (0, rv ad w0), (2, iv s8.2)]) S0 dX12_sets_49 rfl (by decide) rfl ?_
        refine r_iinc (pc := 50) (lv' := [(2, iv (ia s8.2 1)), (1, iv (ia s8.1 0)), (0, rv ad w0)]) S0 2 dX12_sets_50 rfl (by decide) rfl ?_
        refine r_goto (pc := 53) (tgt := 23) S0 dX12_sets_53 (by decide) ?_
        have hz := ok_some hf
        refine r_lv [2, 1, 0] rfl ?_
        exact ih7 (ia s8.1 0, ia s8.2 1) hz (cn_wrap _) (cn_wrap _)
      · refine r_iconst (pc := 43) S0 dX12_sets_43 ?_
        refine r_goto (pc := 44) (tgt := 48) S0 dX12_sets_44 (by decide) ?_
        refine r_iadd (pc := 48) S0 dX12_sets_48 ?_
        refine r_istore_n (pc := 49) (lv' := [(1, iv (ia s8.1 1)), (0, rv ad w0), (2, iv s8.2)]) S0 dX12_sets_49 rfl (by decide) rfl ?_
        refine r_iinc (pc := 50) (lv' := [(2, iv (ia s8.2 1)), (1, iv (ia s8.1 1)), (0, rv ad w0)]) S0 2 dX12_sets_50 rfl (by decide) rfl ?_
        refine r_goto (pc := 53) (tgt := 23) S0 dX12_sets_53 (by decide) ?_
        have hz := ok_some hf
        refine r_lv [2, 1, 0] rfl ?_
        exact ih7 (ia s8.1 1, ia s8.2 1) hz (cn_wrap _) (cn_wrap _)
  · refine r_bipush (pc := 12) S0 dX12_sets_12 (by decide) ?_
    have hz := ok_some hf
    have hz : ((-2), I1) = e := hz
    subst hQ
    subst hz
    exact r_iret (pc := 14) S0 hr hlk (cnz (-2) rfl) dX12_sets_14

set_option maxHeartbeats 4000000 in
set_option maxRecDepth 100000 in
theorem c_X12_never (l : Launch) (cA : Nat → ClassId) (D : va_G) (N : Nat) (sx : Sx) (ad : Nat → Nat) (T : Knd) (A : Rfs) (nx : Nat) (I : Mem) (w0 : Nat)  (e : (Int × Mem)) (h : f_X12_never T A w0 I = some e) : CtI l yX12_never cX12_never 3 (some .int) 3 104 cA D N sx ad T A nx [rv ad w0] I e.2 e.1 := by
  refine met_of (lv0 := [(0, rv ad w0)]) (by decide) (Nat.le_of_ble_eq_true rfl) rfl (fun p e0 s m args below meth c S0 hK hX hr hlk Q hQ => ?_)
  have hf : OK (f_X12_never T A w0 I) (fun z => z = e) := ⟨e, h, rfl⟩
  unfold f_X12_never at hf
  obtain ⟨hw0, hf⟩ := ok_grd hf
  refine r_aload_n (pc := 0) S0 0 dX12_never_0 rfl rfl ?_
  refine r_iconst (pc := 1) S0 dX12_never_1 ?_
  refine r_putI (pc := 2) S0 hK fl_X12_89 rfl rfl (cnz 0 rfl) dX12_never_2 hf (fun I1 hf => ?_)
  refine r_aload_n (pc := 5) S0 0 dX12_never_5 rfl rfl ?_
  obtain ⟨e2, h3, hf⟩ := ok_bind hf
  refine r_cV_I (pc := 6) [] S0 hK hX mv_X12_267 (k_X12_isOffice h3) (c_X12_isOffice l cA D N sx ad T A nx I1 w0 e2 h3) rfl rfl ⟨by decide, by decide⟩ (Nat.le_of_ble_eq_true rfl) ⟨Nat.le_refl _, Nat.le_refl _⟩ dX12_never_6 (fun c4 => ?_)
  refine r_if_ne (pc := 9) (tgt := 15) S0 dX12_never_9 (by decide) c4 hf (fun hf => ?_) (fun hf => ?_)
  · refine r_aload_n (pc := 15) S0 0 dX12_never_15 rfl rfl ?_
    obtain ⟨e5, h6, hf⟩ := ok_bind hf
    refine r_cV_V (pc := 16) [] S0 hK hX mv_X12_412 (k_X12_laysSets h6) (c_X12_laysSets l cA D N sx ad T A nx I1 w0 e5 h6) rfl rfl ⟨by decide, by decide⟩ (Nat.le_of_ble_eq_true rfl) ⟨Nat.le_refl _, Nat.le_refl _⟩ dX12_never_16 ?_
    refine r_iconst (pc := 19) S0 dX12_never_19 ?_
    refine r_istore_n (pc := 20) (lv' := [(1, iv 0), (0, rv ad w0)]) S0 dX12_never_20 rfl (by decide) rfl ?_
    refine r_iconst (pc := 21) S0 dX12_never_21 ?_
    refine r_istore_n (pc := 22) (lv' := [(2, iv 0), (1, iv 0), (0, rv ad w0)]) S0 dX12_never_22 rfl (by decide) rfl ?_
    refine thn_rule (P := fun v8 => cn v8 → G p l e0 (rmx 3 104) s m args below meth c 0 0 Q cA D N 3 ad T A nx 56 [(0, rv ad w0), (1, iv v8)] [] e5) hf (fun v8 hf c9 => ?_) (fun K7 hf => ?_)
    · refine r_aload_n (pc := 56) S0 0 dX12_never_56 rfl rfl ?_
      obtain ⟨e23, h24, hf⟩ := ok_bind hf
      refine r_cV_I (pc := 57) [] S0 hK hX mv_X12_403 (k_X12_sets0 h24) (c_X12_sets0 l cA D N sx ad T A nx e5 w0 e23 h24) rfl rfl ⟨by decide, by decide⟩ (Nat.le_of_ble_eq_true rfl) ⟨Nat.le_refl _, Nat.le_refl _⟩ dX12_never_57 (fun c25 => ?_)
      refine r_iconst (pc := 60) S0 dX12_never_60 ?_
      refine r_isub (pc := 61) S0 dX12_never_61 ?_
      refine r_iload_n (pc := 62) S0 1 dX12_never_62 rfl rfl ?_
      refine r_iconst (pc := 63) S0 dX12_never_63 ?_
      refine r_ixor (pc := 64) S0 dX12_never_64 ?_
      refine r_iand (pc := 65) S0 dX12_never_65 ?_
      have hz := ok_some hf
      have hz : (iand (isb e23 1) (ixor v8 (-1)), e5) = e := hz
      subst hQ
      subst hz
      exact r_iret (pc := 66) S0 hr hlk (cn_toInt _) dX12_never_66
    · refine r_lv [2, 1, 0] rfl ?_
      refine it_ind (P := fun s11 => cn s11.1 → cn s11.2 → G p l e0 (rmx 3 104) s m args below meth c 0 0 Q cA D N 3 ad T A nx 23 [(0, rv ad w0), (1, iv s11.1), (2, iv s11.2)] [] e5) (fun n0 s11 ih10 hf c12 c13 => ?_) FU (0, 0) hf (cnz 0 rfl) (cnz 0 rfl)
      refine r_iload_n (pc := 23) S0 2 dX12_never_23 rfl rfl ?_
      refine r_aload_n (pc := 24) S0 0 dX12_never_24 rfl rfl ?_
      obtain ⟨e14, h15, hf⟩ := ok_bind hf
      refine r_cV_I (pc := 25) [] S0 hK hX mv_X12_403 (k_X12_sets0 h15) (c_X12_sets0 l cA D N sx ad T A nx e5 w0 e14 h15) rfl rfl ⟨by decide, by decide⟩ (Nat.le_of_ble_eq_true rfl) ⟨Nat.le_refl _, Nat.le_refl _⟩ dX12_never_25 (fun c16 => ?_)
      refine r_icmp_ge (pc := 28) (tgt := 56) S0 dX12_never_28 (by decide) c13 c16 hf (fun hf => ?_) (fun hf => ?_)
      · have hz := ok_some hf
        refine r_lv [0, 1] rfl ?_
        exact K7 s11.1 hz c12
      · refine r_iload_n (pc := 31) S0 1 dX12_never_31 rfl rfl ?_
        refine r_aload_n (pc := 32) S0 0 dX12_never_32 rfl rfl ?_
        refine r_getR (pc := 33) S0 hK fl_X12_74 dX12_never_33 hf (fun x17 hf => ?_)
        refine r_iload_n (pc := 36) S0 2 dX12_never_36 rfl rfl ?_
        refine r_lald (pc := 37) S0 hK dX12_never_37 c13 hf (fun x18 c19 hf => ?_)
        refine r_lconst (pc := 38) (v := 0) S0 dX12_never_38 rfl ?_
        refine r_lcmp (pc := 39) S0 dX12_never_39 c19 (clz 0 rfl) ?_
        refine thn_rule (P := fun v21 => cn v21 → G p l e0 (rmx 3 104) s m args below meth c 0 0 Q cA D N 3 ad T A nx 48 [(0, rv ad w0), (2, iv s11.2)] [iv v21, iv s11.1] e5) hf (fun v21 hf c22 => ?_) (fun K20 hf => ?_)
        · refine r_ior (pc := 48) S0 dX12_never_48 ?_
          refine r_istore_n (pc := 49) (lv' := [(1, iv (ior s11.1 v21)), (0, rv ad w0), (2, iv s11.2)]) S0 dX12_never_49 rfl (by decide) rfl ?_
          refine r_iinc (pc := 50) (lv' := [(2, iv (ia s11.2 1)), (1, iv (ior s11.1 v21)), (0, rv ad w0)]) S0 2 dX12_never_50 rfl (by decide) rfl ?_
          refine r_goto (pc := 53) (tgt := 23) S0 dX12_never_53 (by decide) ?_
          have hz := ok_some hf
          refine r_lv [2, 1, 0] rfl ?_
          exact ih10 (ior s11.1 v21, ia s11.2 1) hz (cn_toInt _) (cn_wrap _)
        · refine r_if_le (pc := 40) (tgt := 47) S0 dX12_never_40 (by decide) (cn_lcmp _ _) hf (fun hf => ?_) (fun hf => ?_)
          · refine r_iconst (pc := 47) S0 dX12_never_47 ?_
            have hz := ok_some hf
            refine r_lv [0, 2] rfl ?_
            exact K20 0 hz (cnz 0 rfl)
          · refine r_iload_n (pc := 43) S0 2 dX12_never_43 rfl rfl ?_
            refine r_goto (pc := 44) (tgt := 48) S0 dX12_never_44 (by decide) ?_
            have hz := ok_some hf
            refine r_lv [0, 2] rfl ?_
            exact K20 s11.2 hz c13
  · refine r_bipush (pc := 12) S0 dX12_never_12 (by decide) ?_
    have hz := ok_some hf
    have hz : ((-2), I1) = e := hz
    subst hQ
    subst hz
    exact r_iret (pc := 14) S0 hr hlk (cnz (-2) rfl) dX12_never_14

set_option maxHeartbeats 4000000 in
set_option maxRecDepth 100000 in
theorem c_X12_laysReach (l : Launch) (cA : Nat → ClassId) (D : va_G) (N : Nat) (sx : Sx) (ad : Nat → Nat) (T : Knd) (A : Rfs) (nx : Nat) (I : Mem) (w0 : Nat)  (e : Mem) (h : f_X12_laysReach T A w0 I = some e) : CtV l yX12_laysReach cX12_laysReach 3 none 2 81 cA D N sx ad T A nx [rv ad w0] I e := by
  refine met_of (lv0 := [(0, rv ad w0)]) (by decide) (Nat.le_of_ble_eq_true rfl) rfl (fun p e0 s m args below meth c S0 hK hX hr hlk Q hQ => ?_)
  have hf : OK (f_X12_laysReach T A w0 I) (fun z => z = e) := ⟨e, h, rfl⟩
  unfold f_X12_laysReach at hf
  obtain ⟨hw0, hf⟩ := ok_grd hf
  refine r_iconst (pc := 0) S0 dX12_laysReach_0 ?_
  refine r_istore_n (pc := 1) (lv' := [(1, iv 0), (0, rv ad w0)]) S0 dX12_laysReach_1 rfl (by decide) rfl ?_
  refine thn_rule (P := fun v2 => G p l e0 (rmx 2 81) s m args below meth c 0 0 Q cA D N 3 ad T A nx 40 [(0, rv ad w0)] [] v2) hf (fun v2 hf => ?_) (fun K1 hf => ?_)
  · refine r_iconst (pc := 40) S0 dX12_laysReach_40 ?_
    refine r_istore_n (pc := 41) (lv' := [(1, iv 0), (0, rv ad w0)]) S0 dX12_laysReach_41 rfl (by decide) rfl ?_
    refine r_lv [1, 0] rfl ?_
    refine it_ind (P := fun s18 => cn s18.1 → G p l e0 (rmx 2 81) s m args below meth c 0 0 Q cA D N 3 ad T A nx 42 [(0, rv ad w0), (1, iv s18.1)] [] s18.2) (fun n0 s18 ih17 hf c19 => ?_) FU (0, v2) hf (cnz 0 rfl)
    refine r_iload_n (pc := 42) S0 1 dX12_laysReach_42 rfl rfl ?_
    refine r_bipush (pc := 43) S0 dX12_laysReach_43 (by decide) ?_
    refine r_icmp_ge (pc := 45) (tgt := 96) S0 dX12_laysReach_45 (by decide) c19 (cnz 8 rfl) hf (fun hf => ?_) (fun hf => ?_)
    · have hz := ok_some hf
      have hz : s18.2 = e := hz
      subst hQ
      subst hz
      exact r_vret (pc := 96) S0 hr hlk dX12_laysReach_96
    · refine r_iconst (pc := 48) S0 dX12_laysReach_48 ?_
      refine r_istore_n (pc := 49) (lv' := [(2, iv 0), (0, rv ad w0), (1, iv s18.1)]) S0 dX12_laysReach_49 rfl (by decide) rfl ?_
      refine r_lv [1, 2, 0] rfl ?_
      refine it_ind (P := fun s21 => cn s21.1 → G p l e0 (rmx 2 81) s m args below meth c 0 0 Q cA D N 3 ad T A nx 50 [(0, rv ad w0), (1, iv s18.1), (2, iv s21.1)] [] s21.2) (fun n0 s21 ih20 hf c22 => ?_) FU (0, s18.2) hf (cnz 0 rfl)
      refine r_iload_n (pc := 50) S0 2 dX12_laysReach_50 rfl rfl ?_
      refine r_bipush (pc := 51) S0 dX12_laysReach_51 (by decide) ?_
      refine r_icmp_ge (pc := 53) (tgt := 90) S0 dX12_laysReach_53 (by decide) c22 (cnz 8 rfl) hf (fun hf => ?_) (fun hf => ?_)
      · refine r_iinc (pc := 90) (lv' := [(1, iv (ia s18.1 1)), (0, rv ad w0), (2, iv s21.1)]) S0 1 dX12_laysReach_90 rfl (by decide) rfl ?_
        refine r_goto (pc := 93) (tgt := 42) S0 dX12_laysReach_93 (by decide) ?_
        have hz := ok_some hf
        refine r_lv [1, 0] rfl ?_
        exact ih17 (ia s18.1 1, s21.2) hz (cn_wrap _)
      · refine r_aload_n (pc := 56) S0 0 dX12_laysReach_56 rfl rfl ?_
        refine r_getR (pc := 57) S0 hK fl_X12_77 dX12_laysReach_57 hf (fun x23 hf => ?_)
        refine r_iload_n (pc := 60) S0 2 dX12_laysReach_60 rfl rfl ?_
        refine r_iald (pc := 61) S0 hK dX12_laysReach_61 c22 hf (fun x24 c25 hf => ?_)
        refine r_iload_n (pc := 62) S0 1 dX12_laysReach_62 rfl rfl ?_
        obtain ⟨e26, h27, hf⟩ := ok_bind hf
        refine r_cS_I (pc := 63) [iv x24, iv s18.1] S0 hK hX ms_X12_278 (c_X12_isBit l cA D N sx ad T A nx s21.2 x24 s18.1 c25 c19 e26 h27) rfl rfl ⟨by decide, by decide⟩ (Nat.le_of_ble_eq_true rfl) ⟨Nat.le_refl _, Nat.le_refl _⟩ dX12_laysReach_63 (fun c28 => ?_)
        refine r_if_eq (pc := 66) (tgt := 84) S0 dX12_laysReach_66 (by decide) c28 hf (fun hf => ?_) (fun hf => ?_)
        · refine r_iinc (pc := 84) (lv' := [(2, iv (ia s21.1 1)), (0, rv ad w0), (1, iv s18.1)]) S0 2 dX12_laysReach_84 rfl (by decide) rfl ?_
          refine r_goto (pc := 87) (tgt := 50) S0 dX12_laysReach_87 (by decide) ?_
          have hz := ok_some hf
          refine r_lv [1, 2, 0] rfl ?_
          exact ih20 (ia s21.1 1, s21.2) hz (cn_wrap _)
        · refine r_aload_n (pc := 69) S0 0 dX12_laysReach_69 rfl rfl ?_
          refine r_getR (pc := 70) S0 hK fl_X12_77 dX12_laysReach_70 hf (fun x29 hf => ?_)
          refine r_iload_n (pc := 73) S0 2 dX12_laysReach_73 rfl rfl ?_
          refine r_dup2 (pc := 74) S0 dX12_laysReach_74 rfl rfl ?_
          refine r_iald (pc := 75) S0 hK dX12_laysReach_75 c22 hf (fun x30 c31 hf => ?_)
          refine r_aload_n (pc := 76) S0 0 dX12_laysReach_76 rfl rfl ?_
          refine r_getR (pc := 77) S0 hK fl_X12_77 dX12_laysReach_77 hf (fun x32 hf => ?_)
          refine r_iload_n (pc := 80) S0 1 dX12_laysReach_80 rfl rfl ?_
          refine r_iald (pc := 81) S0 hK dX12_laysReach_81 c19 hf (fun x33 c34 hf => ?_)
          refine r_ior (pc := 82) S0 dX12_laysReach_82 ?_
          refine r_iast (pc := 83) S0 hK dX12_laysReach_83 c22 (cn_toInt _) hf (fun I35 hf => ?_)
          refine r_iinc (pc := 84) (lv' := [(2, iv (ia s21.1 1)), (0, rv ad w0), (1, iv s18.1)]) S0 2 dX12_laysReach_84 rfl (by decide) rfl ?_
          refine r_goto (pc := 87) (tgt := 50) S0 dX12_laysReach_87 (by decide) ?_
          have hz := ok_some hf
          refine r_lv [1, 2, 0] rfl ?_
          exact ih20 (ia s21.1 1, I35) hz (cn_wrap _)
  · refine r_lv [1, 0] rfl ?_
    refine it_ind (P := fun s4 => cn s4.1 → G p l e0 (rmx 2 81) s m args below meth c 0 0 Q cA D N 3 ad T A nx 2 [(0, rv ad w0), (1, iv s4.1)] [] s4.2) (fun n0 s4 ih3 hf c5 => ?_) FU (0, I) hf (cnz 0 rfl)
    refine r_iload_n (pc := 2) S0 1 dX12_laysReach_2 rfl rfl ?_
    refine r_bipush (pc := 3) S0 dX12_laysReach_3 (by decide) ?_
    refine r_icmp_ge (pc := 5) (tgt := 40) S0 dX12_laysReach_5 (by decide) c5 (cnz 8 rfl) hf (fun hf => ?_) (fun hf => ?_)
    · have hz := ok_some hf
      refine r_lv [0] rfl ?_
      exact K1 s4.2 hz
    · refine r_aload_n (pc := 8) S0 0 dX12_laysReach_8 rfl rfl ?_
      refine r_getR (pc := 9) S0 hK fl_X12_77 dX12_laysReach_9 hf (fun x6 hf => ?_)
      refine r_iload_n (pc := 12) S0 1 dX12_laysReach_12 rfl rfl ?_
      refine r_iload_n (pc := 13) S0 1 dX12_laysReach_13 rfl rfl ?_
      refine r_aload_n (pc := 14) S0 0 dX12_laysReach_14 rfl rfl ?_
      refine r_getR (pc := 15) S0 hK fl_X12_34 dX12_laysReach_15 hf (fun x7 hf => ?_)
      refine r_iconst (pc := 18) S0 dX12_laysReach_18 ?_
      refine r_iald (pc := 19) S0 hK dX12_laysReach_19 (cnz 3 rfl) hf (fun x8 c9 hf => ?_)
      refine thn_rule (P := fun v11 => cn v11 → G p l e0 (rmx 2 81) s m args below meth c 0 0 Q cA D N 3 ad T A nx 33 [(0, rv ad w0), (1, iv s4.1)] [iv v11, iv s4.1, rv ad x6] s4.2) hf (fun v11 hf c12 => ?_) (fun K10 hf => ?_)
      · refine r_iast (pc := 33) S0 hK dX12_laysReach_33 c5 c12 hf (fun I16 hf => ?_)
        refine r_iinc (pc := 34) (lv' := [(1, iv (ia s4.1 1)), (0, rv ad w0)]) S0 1 dX12_laysReach_34 rfl (by decide) rfl ?_
        refine r_goto (pc := 37) (tgt := 2) S0 dX12_laysReach_37 (by decide) ?_
        have hz := ok_some hf
        refine r_lv [1, 0] rfl ?_
        exact ih3 (ia s4.1 1, I16) hz (cn_wrap _)
      · refine r_icmp_ge (pc := 20) (tgt := 32) S0 dX12_laysReach_20 (by decide) c5 c9 hf (fun hf => ?_) (fun hf => ?_)
        · refine r_iconst (pc := 32) S0 dX12_laysReach_32 ?_
          have hz := ok_some hf
          refine r_lv [0, 1] rfl ?_
          exact K10 0 hz (cnz 0 rfl)
        · refine r_aload_n (pc := 23) S0 0 dX12_laysReach_23 rfl rfl ?_
          refine r_getR (pc := 24) S0 hK fl_X12_40 dX12_laysReach_24 hf (fun x13 hf => ?_)
          refine r_iload_n (pc := 27) S0 1 dX12_laysReach_27 rfl rfl ?_
          refine r_iald (pc := 28) S0 hK dX12_laysReach_28 c5 hf (fun x14 c15 hf => ?_)
          refine r_goto (pc := 29) (tgt := 33) S0 dX12_laysReach_29 (by decide) ?_
          have hz := ok_some hf
          refine r_lv [0, 1] rfl ?_
          exact K10 x14 hz c15

set_option maxHeartbeats 4000000 in
set_option maxRecDepth 100000 in
theorem c_X12_ringNow (l : Launch) (cA : Nat → ClassId) (D : va_G) (N : Nat) (sx : Sx) (ad : Nat → Nat) (T : Knd) (A : Rfs) (nx : Nat) (I : Mem) (w0 : Nat)  (e : (Int × Mem)) (h : f_X12_ringNow T A w0 I = some e) : CtI l yX12_ringNow cX12_ringNow 3 (some .int) 3 103 cA D N sx ad T A nx [rv ad w0] I e.2 e.1 := by
  refine met_of (lv0 := [(0, rv ad w0)]) (by decide) (Nat.le_of_ble_eq_true rfl) rfl (fun p e0 s m args below meth c S0 hK hX hr hlk Q hQ => ?_)
  have hf : OK (f_X12_ringNow T A w0 I) (fun z => z = e) := ⟨e, h, rfl⟩
  unfold f_X12_ringNow at hf
  obtain ⟨hw0, hf⟩ := ok_grd hf
  refine r_aload_n (pc := 0) S0 0 dX12_ringNow_0 rfl rfl ?_
  obtain ⟨e1, h2, hf⟩ := ok_bind hf
  refine r_cV_V (pc := 1) [] S0 hK hX mv_X12_415 (k_X12_laysReach h2) (c_X12_laysReach l cA D N sx ad T A nx I w0 e1 h2) rfl rfl ⟨by decide, by decide⟩ (Nat.le_of_ble_eq_true rfl) ⟨Nat.le_refl _, Nat.le_refl _⟩ dX12_ringNow_1 ?_
  refine r_iconst (pc := 4) S0 dX12_ringNow_4 ?_
  refine r_istore_n (pc := 5) (lv' := [(1, iv 0), (0, rv ad w0)]) S0 dX12_ringNow_5 rfl (by decide) rfl ?_
  refine r_iconst (pc := 6) S0 dX12_ringNow_6 ?_
  refine r_istore_n (pc := 7) (lv' := [(2, iv 0), (1, iv 0), (0, rv ad w0)]) S0 dX12_ringNow_7 rfl (by decide) rfl ?_
  refine r_lv [2, 1, 0] rfl ?_
  refine it_ind (P := fun s4 => cn s4.1 → cn s4.2 → G p l e0 (rmx 3 103) s m args below meth c 0 0 Q cA D N 3 ad T A nx 8 [(0, rv ad w0), (1, iv s4.1), (2, iv s4.2)] [] e1) (fun n0 s4 ih3 hf c5 c6 => ?_) FU (0, 0) hf (cnz 0 rfl) (cnz 0 rfl)
  refine r_iload_n (pc := 8) S0 2 dX12_ringNow_8 rfl rfl ?_
  refine r_aload_n (pc := 9) S0 0 dX12_ringNow_9 rfl rfl ?_
  refine r_getR (pc := 10) S0 hK fl_X12_34 dX12_ringNow_10 hf (fun x7 hf => ?_)
  refine r_iconst (pc := 13) S0 dX12_ringNow_13 ?_
  refine r_iald (pc := 14) S0 hK dX12_ringNow_14 (cnz 3 rfl) hf (fun x8 c9 hf => ?_)
  refine r_icmp_ge (pc := 15) (tgt := 47) S0 dX12_ringNow_15 (by decide) c6 c9 hf (fun hf => ?_) (fun hf => ?_)
  · refine r_iload_n (pc := 47) S0 1 dX12_ringNow_47 rfl rfl ?_
    have hz := ok_some hf
    have hz : (s4.1, e1) = e := hz
    subst hQ
    subst hz
    exact r_iret (pc := 48) S0 hr hlk c5 dX12_ringNow_48
  · refine r_iload_n (pc := 18) S0 1 dX12_ringNow_18 rfl rfl ?_
    refine r_aload_n (pc := 19) S0 0 dX12_ringNow_19 rfl rfl ?_
    refine r_getR (pc := 20) S0 hK fl_X12_77 dX12_ringNow_20 hf (fun x10 hf => ?_)
    refine r_iload_n (pc := 23) S0 2 dX12_ringNow_23 rfl rfl ?_
    refine r_iald (pc := 24) S0 hK dX12_ringNow_24 c6 hf (fun x11 c12 hf => ?_)
    refine r_iload_n (pc := 25) S0 2 dX12_ringNow_25 rfl rfl ?_
    obtain ⟨e13, h14, hf⟩ := ok_bind hf
    refine r_cS_I (pc := 26) [iv x11, iv s4.2] S0 hK hX ms_X12_278 (c_X12_isBit l cA D N sx ad T A nx e1 x11 s4.2 c12 c6 e13 h14) rfl rfl ⟨by decide, by decide⟩ (Nat.le_of_ble_eq_true rfl) ⟨Nat.le_refl _, Nat.le_refl _⟩ dX12_ringNow_26 (fun c15 => ?_)
    refine thn_rule (P := fun v17 => cn v17 → G p l e0 (rmx 3 103) s m args below meth c 0 0 Q cA D N 3 ad T A nx 39 [(0, rv ad w0), (2, iv s4.2)] [iv v17, iv s4.1] e1) hf (fun v17 hf c18 => ?_) (fun K16 hf => ?_)
    · refine r_ior (pc := 39) S0 dX12_ringNow_39 ?_
      refine r_istore_n (pc := 40) (lv' := [(1, iv (ior s4.1 v17)), (0, rv ad w0), (2, iv s4.2)]) S0 dX12_ringNow_40 rfl (by decide) rfl ?_
      refine r_iinc (pc := 41) (lv' := [(2, iv (ia s4.2 1)), (1, iv (ior s4.1 v17)), (0, rv ad w0)]) S0 2 dX12_ringNow_41 rfl (by decide) rfl ?_
      refine r_goto (pc := 44) (tgt := 8) S0 dX12_ringNow_44 (by decide) ?_
      have hz := ok_some hf
      refine r_lv [2, 1, 0] rfl ?_
      exact ih3 (ior s4.1 v17, ia s4.2 1) hz (cn_toInt _) (cn_wrap _)
    · refine r_if_eq (pc := 29) (tgt := 38) S0 dX12_ringNow_29 (by decide) c15 hf (fun hf => ?_) (fun hf => ?_)
      · refine r_iconst (pc := 38) S0 dX12_ringNow_38 ?_
        have hz := ok_some hf
        refine r_lv [0, 2] rfl ?_
        exact K16 0 hz (cnz 0 rfl)
      · refine r_iconst (pc := 32) S0 dX12_ringNow_32 ?_
        refine r_iload_n (pc := 33) S0 2 dX12_ringNow_33 rfl rfl ?_
        refine r_ishl (pc := 34) S0 dX12_ringNow_34 ?_
        refine r_goto (pc := 35) (tgt := 39) S0 dX12_ringNow_35 (by decide) ?_
        have hz := ok_some hf
        refine r_lv [0, 2] rfl ?_
        exact K16 (ishl 1 s4.2) hz (cn_toInt _)

set_option maxHeartbeats 4000000 in
set_option maxRecDepth 100000 in
theorem c_X12_ring (l : Launch) (cA : Nat → ClassId) (D : va_G) (N : Nat) (sx : Sx) (ad : Nat → Nat) (T : Knd) (A : Rfs) (nx : Nat) (I : Mem) (w0 : Nat)  (e : (Int × Mem)) (h : f_X12_ring T A w0 I = some e) : CtI l yX12_ring cX12_ring 1 (some .int) 4 125 cA D N sx ad T A nx [rv ad w0] I e.2 e.1 := by
  refine met_of (lv0 := [(0, rv ad w0)]) (by decide) (Nat.le_of_ble_eq_true rfl) rfl (fun p e0 s m args below meth c S0 hK hX hr hlk Q hQ => ?_)
  have hf : OK (f_X12_ring T A w0 I) (fun z => z = e) := ⟨e, h, rfl⟩
  unfold f_X12_ring at hf
  obtain ⟨hw0, hf⟩ := ok_grd hf
  refine r_aload_n (pc := 0) S0 0 dX12_ring_0 rfl rfl ?_
  refine r_iconst (pc := 1) S0 dX12_ring_1 ?_
  refine r_putI (pc := 2) S0 hK fl_X12_89 rfl rfl (cnz 0 rfl) dX12_ring_2 hf (fun I1 hf => ?_)
  refine r_aload_n (pc := 5) S0 0 dX12_ring_5 rfl rfl ?_
  obtain ⟨e2, h3, hf⟩ := ok_bind hf
  refine r_cV_I (pc := 6) [] S0 hK hX mv_X12_267 (k_X12_isOffice h3) (c_X12_isOffice l cA D N sx ad T A nx I1 w0 e2 h3) rfl rfl ⟨by decide, by decide⟩ (Nat.le_of_ble_eq_true rfl) ⟨Nat.le_refl _, Nat.le_refl _⟩ dX12_ring_6 (fun c4 => ?_)
  refine r_if_eq (pc := 9) (tgt := 19) S0 dX12_ring_9 (by decide) c4 hf (fun hf => ?_) (fun hf => ?_)
  · refine r_bipush (pc := 19) S0 dX12_ring_19 (by decide) ?_
    have hz := ok_some hf
    have hz : ((-2), I1) = e := hz
    subst hQ
    subst hz
    exact r_iret (pc := 21) S0 hr hlk (cnz (-2) rfl) dX12_ring_21
  · refine r_aload_n (pc := 12) S0 0 dX12_ring_12 rfl rfl ?_
    obtain ⟨e5, h6, hf⟩ := ok_bind hf
    refine r_cV_I (pc := 13) [] S0 hK hX mv_X12_418 (k_X12_ringNow h6) (c_X12_ringNow l cA D N sx ad T A nx I1 w0 e5 h6) rfl rfl ⟨by decide, by decide⟩ (Nat.le_of_ble_eq_true rfl) ⟨Nat.le_refl _, Nat.le_refl _⟩ dX12_ring_13 (fun c7 => ?_)
    refine r_goto (pc := 16) (tgt := 21) S0 dX12_ring_16 (by decide) ?_
    have hz := ok_some hf
    have hz : (e5.1, e5.2) = e := hz
    subst hQ
    subst hz
    exact r_iret (pc := 21) S0 hr hlk c7 dX12_ring_21

set_option maxHeartbeats 4000000 in
set_option maxRecDepth 100000 in
theorem c_X12_depthOf (l : Launch) (cA : Nat → ClassId) (D : va_G) (N : Nat) (sx : Sx) (ad : Nat → Nat) (T : Knd) (A : Rfs) (nx : Nat) (dd : Nat) : ∀ (I : Mem) (w0 : Nat) (a1 : Int) (ca1 : cn a1) (e : Int) (h : f_X12_depthOf dd T A w0 a1 I = some e), CtI l yX12_depthOf cX12_depthOf 5 (some .int) (2 + dd) (81 + dd * 24) cA D N sx ad T A nx [rv ad w0, iv a1] I I e := by
  induction dd with
  | zero => intro I w0 a1 ca1 e h; unfold f_X12_depthOf at h; cases h
  | succ dd ihd =>
    intro I w0 a1 ca1 e h
    refine met_of (lv0 := [(0, rv ad w0), (1, iv a1)]) (by decide) (Nat.le_of_ble_eq_true rfl) rfl (fun p e0 s m args below meth c S0 hK hX hr hlk Q hQ => ?_)
    have hf : OK (f_X12_depthOf (dd + 1) T A w0 a1 I) (fun z => z = e) := ⟨e, h, rfl⟩
    unfold f_X12_depthOf at hf
    obtain ⟨hw0, hf⟩ := ok_grd hf
    refine r_iconst (pc := 0) S0 dX12_depthOf_0 ?_
    refine r_istore_n (pc := 1) (lv' := [(2, iv 0), (0, rv ad w0), (1, iv a1)]) S0 dX12_depthOf_1 rfl (by decide) rfl ?_
    refine r_iconst (pc := 2) S0 dX12_depthOf_2 ?_
    refine r_istore_n (pc := 3) (lv' := [(3, iv 0), (2, iv 0), (0, rv ad w0), (1, iv a1)]) S0 dX12_depthOf_3 rfl (by decide) rfl ?_
    refine r_lv [2, 3, 1, 0] rfl ?_
    refine it_ind (P := fun s2 => cn s2.1 → cn s2.2 → G p l e0 (rmx (2 + (dd + 1)) (81 + (dd + 1) * 24)) s m args below meth c 0 0 Q cA D N 5 ad T A nx 4 [(0, rv ad w0), (1, iv a1), (2, iv s2.1), (3, iv s2.2)] [] I) (fun n0 s2 ih1 hf c3 c4 => ?_) FU (0, 0) hf (cnz 0 rfl) (cnz 0 rfl)
    refine r_iload_n (pc := 4) S0 3 dX12_depthOf_4 rfl rfl ?_
    refine r_aload_n (pc := 5) S0 0 dX12_depthOf_5 rfl rfl ?_
    refine r_getR (pc := 6) S0 hK fl_X12_34 dX12_depthOf_6 hf (fun x5 hf => ?_)
    refine r_iconst (pc := 9) S0 dX12_depthOf_9 ?_
    refine r_iald (pc := 10) S0 hK dX12_depthOf_10 (cnz 3 rfl) hf (fun x6 c7 hf => ?_)
    refine r_icmp_ge (pc := 11) (tgt := 57) S0 dX12_depthOf_11 (by decide) c4 c7 hf (fun hf => ?_) (fun hf => ?_)
    · refine r_iload_n (pc := 57) S0 2 dX12_depthOf_57 rfl rfl ?_
      refine r_iconst (pc := 58) S0 dX12_depthOf_58 ?_
      refine r_iadd (pc := 59) S0 dX12_depthOf_59 ?_
      have hz := ok_some hf
      have hz : (ia s2.1 1) = e := hz
      subst hQ
      subst hz
      exact r_iret (pc := 60) S0 hr hlk (cn_wrap _) dX12_depthOf_60
    · refine r_aload_n (pc := 14) S0 0 dX12_depthOf_14 rfl rfl ?_
      refine r_getR (pc := 15) S0 hK fl_X12_40 dX12_depthOf_15 hf (fun x8 hf => ?_)
      refine r_iload_n (pc := 18) S0 1 dX12_depthOf_18 rfl rfl ?_
      refine r_iald (pc := 19) S0 hK dX12_depthOf_19 ca1 hf (fun x9 c10 hf => ?_)
      refine r_iload_n (pc := 20) S0 3 dX12_depthOf_20 rfl rfl ?_
      obtain ⟨e11, h12, hf⟩ := ok_bind hf
      refine r_cS_I (pc := 21) [iv x9, iv s2.2] S0 hK hX ms_X12_278 (c_X12_isBit l cA D N sx ad T A nx I x9 s2.2 c10 c4 e11 h12) rfl rfl ⟨by dsimp only [rmx]; omega, by dsimp only [rmx]; omega⟩ (Nat.le_of_ble_eq_true rfl) ⟨Nat.le_refl _, Nat.le_refl _⟩ dX12_depthOf_21 (fun c13 => ?_)
      refine thn_rule (P := fun v15 => cn v15 → G p l e0 (rmx (2 + (dd + 1)) (81 + (dd + 1) * 24)) s m args below meth c 0 0 Q cA D N 5 ad T A nx 36 [(0, rv ad w0), (1, iv a1), (2, iv s2.1), (3, iv s2.2)] [iv v15] I) hf (fun v15 hf c16 => ?_) (fun K14 hf => ?_)
      · refine r_istore (pc := 36) (lv' := [(4, iv v15), (0, rv ad w0), (1, iv a1), (2, iv s2.1), (3, iv s2.2)]) S0 dX12_depthOf_36 (by decide) rfl ?_
        refine r_iload (pc := 38) S0 0 dX12_depthOf_38 rfl ?_
        refine r_iload_n (pc := 40) S0 3 dX12_depthOf_40 rfl rfl ?_
        refine r_icmp_le (pc := 41) (tgt := 49) S0 dX12_depthOf_41 (by decide) c16 c3 hf (fun hf => ?_) (fun hf => ?_)
        · refine r_iload_n (pc := 49) S0 3 dX12_depthOf_49 rfl rfl ?_
          refine r_istore_n (pc := 50) (lv' := [(2, iv s2.1), (4, iv v15), (0, rv ad w0), (1, iv a1), (3, iv s2.2)]) S0 dX12_depthOf_50 rfl (by decide) rfl ?_
          refine r_iinc (pc := 51) (lv' := [(3, iv (ia s2.2 1)), (2, iv s2.1), (4, iv v15), (0, rv ad w0), (1, iv a1)]) S0 4 dX12_depthOf_51 rfl (by decide) rfl ?_
          refine r_goto (pc := 54) (tgt := 4) S0 dX12_depthOf_54 (by decide) ?_
          have hz := ok_some hf
          refine r_lv [3, 4, 1, 0] rfl ?_
          exact ih1 (s2.1, ia s2.2 1) hz c3 (cn_wrap _)
        · refine r_iload (pc := 44) S0 0 dX12_depthOf_44 rfl ?_
          refine r_goto (pc := 46) (tgt := 50) S0 dX12_depthOf_46 (by decide) ?_
          refine r_istore_n (pc := 50) (lv' := [(2, iv v15), (4, iv v15), (0, rv ad w0), (1, iv a1), (3, iv s2.2)]) S0 dX12_depthOf_50 rfl (by decide) rfl ?_
          refine r_iinc (pc := 51) (lv' := [(3, iv (ia s2.2 1)), (2, iv v15), (4, iv v15), (0, rv ad w0), (1, iv a1)]) S0 4 dX12_depthOf_51 rfl (by decide) rfl ?_
          refine r_goto (pc := 54) (tgt := 4) S0 dX12_depthOf_54 (by decide) ?_
          have hz := ok_some hf
          refine r_lv [3, 4, 1, 0] rfl ?_
          exact ih1 (v15, ia s2.2 1) hz c16 (cn_wrap _)
      · refine r_if_eq (pc := 24) (tgt := 35) S0 dX12_depthOf_24 (by decide) c13 hf (fun hf => ?_) (fun hf => ?_)
        · refine r_iconst (pc := 35) S0 dX12_depthOf_35 ?_
          have hz := ok_some hf
          refine r_lv [0, 1, 2, 3] rfl ?_
          exact K14 0 hz (cnz 0 rfl)
        · refine r_aload_n (pc := 27) S0 0 dX12_depthOf_27 rfl rfl ?_
          refine r_iload_n (pc := 28) S0 3 dX12_depthOf_28 rfl rfl ?_
          obtain ⟨e17, h18, hf⟩ := ok_bind hf
          refine r_cV_I (pc := 29) [iv s2.2] S0 hK hX mv_X12_421 (k_X12_depthOf h18) (ihd I w0 s2.2 c4 e17 h18) rfl rfl ⟨by dsimp only [rmx]; omega, by dsimp only [rmx]; omega⟩ (Nat.le_of_ble_eq_true rfl) ⟨Nat.le_refl _, Nat.le_refl _⟩ dX12_depthOf_29 (fun c19 => ?_)
          refine r_goto (pc := 32) (tgt := 36) S0 dX12_depthOf_32 (by decide) ?_
          have hz := ok_some hf
          refine r_lv [0, 1, 2, 3] rfl ?_
          exact K14 e17 hz c19

set_option maxHeartbeats 4000000 in
set_option maxRecDepth 100000 in
theorem c_X12_depth (l : Launch) (cA : Nat → ClassId) (D : va_G) (N : Nat) (sx : Sx) (ad : Nat → Nat) (T : Knd) (A : Rfs) (nx : Nat) (I : Mem) (w0 : Nat) (a1 : Int) (ca1 : cn a1) (e : (Int × Mem)) (h : f_X12_depth T A w0 a1 I = some e) : CtI l yX12_depth cX12_depth 3 (some .int) 15 393 cA D N sx ad T A nx [rv ad w0, iv a1] I e.2 e.1 := by
  refine met_of (lv0 := [(0, rv ad w0), (1, iv a1)]) (by decide) (Nat.le_of_ble_eq_true rfl) rfl (fun p e0 s m args below meth c S0 hK hX hr hlk Q hQ => ?_)
  have hf : OK (f_X12_depth T A w0 a1 I) (fun z => z = e) := ⟨e, h, rfl⟩
  unfold f_X12_depth at hf
  obtain ⟨hw0, hf⟩ := ok_grd hf
  refine r_aload_n (pc := 0) S0 0 dX12_depth_0 rfl rfl ?_
  refine r_iconst (pc := 1) S0 dX12_depth_1 ?_
  refine r_putI (pc := 2) S0 hK fl_X12_89 rfl rfl (cnz 0 rfl) dX12_depth_2 hf (fun I1 hf => ?_)
  refine r_aload_n (pc := 5) S0 0 dX12_depth_5 rfl rfl ?_
  refine r_iload_n (pc := 6) S0 1 dX12_depth_6 rfl rfl ?_
  refine r_i2l (pc := 7) S0 dX12_depth_7 ca1 ?_
  obtain ⟨e2, h3, hf⟩ := ok_bind hf
  refine r_cV_I (pc := 8) [jv a1] S0 hK hX mv_X12_270 (k_X12_isOfficial h3) (c_X12_isOfficial l cA D N sx ad T A nx I1 w0 a1 (cl_cn ca1) e2 h3) rfl rfl ⟨by decide, by decide⟩ (Nat.le_of_ble_eq_true rfl) ⟨Nat.le_refl _, Nat.le_refl _⟩ dX12_depth_8 (fun c4 => ?_)
  refine r_if_ne (pc := 11) (tgt := 17) S0 dX12_depth_11 (by decide) c4 hf (fun hf => ?_) (fun hf => ?_)
  · refine r_aload_n (pc := 17) S0 0 dX12_depth_17 rfl rfl ?_
    obtain ⟨e5, h6, hf⟩ := ok_bind hf
    refine r_cV_I (pc := 18) [] S0 hK hX mv_X12_418 (k_X12_ringNow h6) (c_X12_ringNow l cA D N sx ad T A nx I1 w0 e5 h6) rfl rfl ⟨by decide, by decide⟩ (Nat.le_of_ble_eq_true rfl) ⟨Nat.le_refl _, Nat.le_refl _⟩ dX12_depth_18 (fun c7 => ?_)
    refine r_istore_n (pc := 21) (lv' := [(2, iv e5.1), (0, rv ad w0), (1, iv a1)]) S0 dX12_depth_21 rfl (by decide) rfl ?_
    refine r_aload_n (pc := 22) S0 1 dX12_depth_22 rfl rfl ?_
    refine r_getR (pc := 23) S0 hK fl_X12_77 dX12_depth_23 hf (fun x8 hf => ?_)
    refine r_iload_n (pc := 26) S0 2 dX12_depth_26 rfl rfl ?_
    refine r_iald (pc := 27) S0 hK dX12_depth_27 ca1 hf (fun x9 c10 hf => ?_)
    refine r_iconst (pc := 28) S0 dX12_depth_28 ?_
    refine r_iload_n (pc := 29) S0 2 dX12_depth_29 rfl rfl ?_
    refine r_ishl (pc := 30) S0 dX12_depth_30 ?_
    refine r_ior (pc := 31) S0 dX12_depth_31 ?_
    refine r_iload_n (pc := 32) S0 0 dX12_depth_32 rfl rfl ?_
    refine r_iand (pc := 33) S0 dX12_depth_33 ?_
    refine r_if_eq (pc := 34) (tgt := 41) S0 dX12_depth_34 (by decide) (cn_toInt _) hf (fun hf => ?_) (fun hf => ?_)
    · refine r_aload_n (pc := 41) S0 1 dX12_depth_41 rfl rfl ?_
      refine r_iload_n (pc := 42) S0 2 dX12_depth_42 rfl rfl ?_
      obtain ⟨e11, h12, hf⟩ := ok_bind hf
      refine r_cV_I (pc := 43) [iv a1] S0 hK hX mv_X12_421 (k_X12_depthOf h12) (c_X12_depthOf l cA D N sx ad T A nx 12 e5.2 w0 a1 ca1 e11 h12) rfl rfl ⟨by dsimp only [rmx]; omega, by dsimp only [rmx]; omega⟩ (Nat.le_of_ble_eq_true rfl) ⟨Nat.le_refl _, Nat.le_refl _⟩ dX12_depth_43 (fun c13 => ?_)
      have hz := ok_some hf
      have hz : (e11, e5.2) = e := hz
      subst hQ
      subst hz
      exact r_iret (pc := 46) S0 hr hlk c13 dX12_depth_46
    · refine r_iconst (pc := 37) S0 dX12_depth_37 ?_
      refine r_goto (pc := 38) (tgt := 46) S0 dX12_depth_38 (by decide) ?_
      have hz := ok_some hf
      have hz : ((-1), e5.2) = e := hz
      subst hQ
      subst hz
      exact r_iret (pc := 46) S0 hr hlk (cnz (-1) rfl) dX12_depth_46
  · refine r_bipush (pc := 14) S0 dX12_depth_14 (by decide) ?_
    have hz := ok_some hf
    have hz : ((-2), I1) = e := hz
    subst hQ
    subst hz
    exact r_iret (pc := 16) S0 hr hlk (cnz (-2) rfl) dX12_depth_16

set_option maxHeartbeats 4000000 in
set_option maxRecDepth 100000 in
theorem c_X12_orders (l : Launch) (cA : Nat → ClassId) (D : va_G) (N : Nat) (sx : Sx) (ad : Nat → Nat) (T : Knd) (A : Rfs) (nx : Nat) (I : Mem) (w0 : Nat) (a1 : Int) (ca1 : cn a1) (e : (Int × Mem)) (h : f_X12_orders T A w0 a1 I = some e) : CtJ l yX12_orders cX12_orders 2 (some .long) 3 106 cA D N sx ad T A nx [rv ad w0, iv a1] I e.2 e.1 := by
  refine met_of (lv0 := [(0, rv ad w0), (1, iv a1)]) (by decide) (Nat.le_of_ble_eq_true rfl) rfl (fun p e0 s m args below meth c S0 hK hX hr hlk Q hQ => ?_)
  have hf : OK (f_X12_orders T A w0 a1 I) (fun z => z = e) := ⟨e, h, rfl⟩
  unfold f_X12_orders at hf
  obtain ⟨hw0, hf⟩ := ok_grd hf
  refine r_aload_n (pc := 0) S0 0 dX12_orders_0 rfl rfl ?_
  refine r_iconst (pc := 1) S0 dX12_orders_1 ?_
  refine r_putI (pc := 2) S0 hK fl_X12_89 rfl rfl (cnz 0 rfl) dX12_orders_2 hf (fun I1 hf => ?_)
  refine r_aload_n (pc := 5) S0 0 dX12_orders_5 rfl rfl ?_
  refine r_iload_n (pc := 6) S0 1 dX12_orders_6 rfl rfl ?_
  obtain ⟨e2, h3, hf⟩ := ok_bind hf
  refine r_cV_I (pc := 7) [iv a1] S0 hK hX mv_X12_409 (k_X12_isSet h3) (c_X12_isSet l cA D N sx ad T A nx I1 w0 a1 ca1 e2 h3) rfl rfl ⟨by decide, by decide⟩ (Nat.le_of_ble_eq_true rfl) ⟨Nat.le_refl _, Nat.le_refl _⟩ dX12_orders_7 (fun c4 => ?_)
  refine r_if_ne (pc := 10) (tgt := 17) S0 dX12_orders_10 (by decide) c4 hf (fun hf => ?_) (fun hf => ?_)
  · refine r_aload_n (pc := 17) S0 0 dX12_orders_17 rfl rfl ?_
    obtain ⟨e5, h6, hf⟩ := ok_bind hf
    refine r_cV_V (pc := 18) [] S0 hK hX mv_X12_412 (k_X12_laysSets h6) (c_X12_laysSets l cA D N sx ad T A nx I1 w0 e5 h6) rfl rfl ⟨by decide, by decide⟩ (Nat.le_of_ble_eq_true rfl) ⟨Nat.le_refl _, Nat.le_refl _⟩ dX12_orders_18 ?_
    refine r_aload_n (pc := 21) S0 0 dX12_orders_21 rfl rfl ?_
    refine r_getR (pc := 22) S0 hK fl_X12_74 dX12_orders_22 hf (fun x7 hf => ?_)
    refine r_iload_n (pc := 25) S0 1 dX12_orders_25 rfl rfl ?_
    refine r_lald (pc := 26) S0 hK dX12_orders_26 ca1 hf (fun x8 c9 hf => ?_)
    have hz := ok_some hf
    have hz : (x8, e5) = e := hz
    subst hQ
    subst hz
    exact r_lret (pc := 27) S0 hr hlk c9 dX12_orders_27
  · refine r_ldc2 (pc := 13) (z := (-2)) S0 kl_X12_424 dX12_orders_13 (by decide) ?_
    have hz := ok_some hf
    have hz : ((-2), I1) = e := hz
    subst hQ
    subst hz
    exact r_lret (pc := 16) S0 hr hlk (clz (-2) rfl) dX12_orders_16

set_option maxHeartbeats 4000000 in
set_option maxRecDepth 100000 in
theorem c_X12_dropsBy (l : Launch) (cA : Nat → ClassId) (D : va_G) (N : Nat) (sx : Sx) (ad : Nat → Nat) (T : Knd) (A : Rfs) (nx : Nat) (I : Mem) (w0 : Nat) (a1 : Int) (a2 : Int) (ca1 : cn a1) (ca2 : cn a2) (e : Int) (h : f_X12_dropsBy T A w0 a1 a2 I = some e) : CtI l yX12_dropsBy cX12_dropsBy 3 (some .int) 2 82 cA D N sx ad T A nx [rv ad w0, iv a1, iv a2] I I e := by
  refine met_of (lv0 := [(0, rv ad w0), (1, iv a1), (2, iv a2)]) (by decide) (Nat.le_of_ble_eq_true rfl) rfl (fun p e0 s m args below meth c S0 hK hX hr hlk Q hQ => ?_)
  have hf : OK (f_X12_dropsBy T A w0 a1 a2 I) (fun z => z = e) := ⟨e, h, rfl⟩
  unfold f_X12_dropsBy at hf
  obtain ⟨hw0, hf⟩ := ok_grd hf
  refine r_bipush (pc := 0) S0 dX12_dropsBy_0 (by decide) ?_
  refine r_aload_n (pc := 2) S0 0 dX12_dropsBy_2 rfl rfl ?_
  refine r_getR (pc := 3) S0 hK fl_X12_40 dX12_dropsBy_3 hf (fun x1 hf => ?_)
  refine r_iload_n (pc := 6) S0 1 dX12_dropsBy_6 rfl rfl ?_
  refine r_iald (pc := 7) S0 hK dX12_dropsBy_7 ca1 hf (fun x2 c3 hf => ?_)
  refine r_iload_n (pc := 8) S0 2 dX12_dropsBy_8 rfl rfl ?_
  refine r_iconst (pc := 9) S0 dX12_dropsBy_9 ?_
  refine r_ixor (pc := 10) S0 dX12_dropsBy_10 ?_
  refine r_iand (pc := 11) S0 dX12_dropsBy_11 ?_
  obtain ⟨e4, h5, hf⟩ := ok_bind hf
  refine r_cS_I (pc := 12) [iv (iand x2 (ixor a2 (-1)))] S0 hK hX ms_X12_426 (c_X12_sizeOf l cA D N sx ad T A nx I (iand x2 (ixor a2 (-1))) (cn_toInt _) e4 h5) rfl rfl ⟨by decide, by decide⟩ (Nat.le_of_ble_eq_true rfl) ⟨Nat.le_refl _, Nat.le_refl _⟩ dX12_dropsBy_12 (fun c6 => ?_)
  refine r_aload_n (pc := 15) S0 0 dX12_dropsBy_15 rfl rfl ?_
  refine r_getR (pc := 16) S0 hK fl_X12_43 dX12_dropsBy_16 hf (fun x7 hf => ?_)
  refine r_iload_n (pc := 19) S0 1 dX12_dropsBy_19 rfl rfl ?_
  refine r_iald (pc := 20) S0 hK dX12_dropsBy_20 ca1 hf (fun x8 c9 hf => ?_)
  refine r_iload_n (pc := 21) S0 2 dX12_dropsBy_21 rfl rfl ?_
  refine r_iand (pc := 22) S0 dX12_dropsBy_22 ?_
  obtain ⟨e10, h11, hf⟩ := ok_bind hf
  refine r_cS_I (pc := 23) [iv (iand x8 a2)] S0 hK hX ms_X12_426 (c_X12_sizeOf l cA D N sx ad T A nx I (iand x8 a2) (cn_toInt _) e10 h11) rfl rfl ⟨by decide, by decide⟩ (Nat.le_of_ble_eq_true rfl) ⟨Nat.le_refl _, Nat.le_refl _⟩ dX12_dropsBy_23 (fun c12 => ?_)
  refine r_iadd (pc := 26) S0 dX12_dropsBy_26 ?_
  refine r_imul (pc := 27) S0 dX12_dropsBy_27 ?_
  refine r_iconst (pc := 28) S0 dX12_dropsBy_28 ?_
  refine r_iadd (pc := 29) S0 dX12_dropsBy_29 ?_
  refine r_aload_n (pc := 30) S0 0 dX12_dropsBy_30 rfl rfl ?_
  refine r_getR (pc := 31) S0 hK fl_X12_80 dX12_dropsBy_31 hf (fun x13 hf => ?_)
  refine r_iload_n (pc := 34) S0 2 dX12_dropsBy_34 rfl rfl ?_
  refine r_iconst (pc := 35) S0 dX12_dropsBy_35 ?_
  refine r_iload_n (pc := 36) S0 1 dX12_dropsBy_36 rfl rfl ?_
  refine r_ishl (pc := 37) S0 dX12_dropsBy_37 ?_
  refine r_ior (pc := 38) S0 dX12_dropsBy_38 ?_
  refine r_iald (pc := 39) S0 hK dX12_dropsBy_39 (cn_toInt _) hf (fun x14 c15 hf => ?_)
  refine r_iadd (pc := 40) S0 dX12_dropsBy_40 ?_
  have hz := ok_some hf
  have hz : (ia (ia (im 16 (ia e4 e10)) 1) x14) = e := hz
  subst hQ
  subst hz
  exact r_iret (pc := 41) S0 hr hlk (cn_wrap _) dX12_dropsBy_41

set_option maxHeartbeats 4000000 in
set_option maxRecDepth 100000 in
theorem c_X12_laysDrops (l : Launch) (cA : Nat → ClassId) (D : va_G) (N : Nat) (sx : Sx) (ad : Nat → Nat) (T : Knd) (A : Rfs) (nx : Nat) (I : Mem) (w0 : Nat)  (e : Mem) (h : f_X12_laysDrops T A w0 I = some e) : CtV l yX12_laysDrops cX12_laysDrops 3 none 3 104 cA D N sx ad T A nx [rv ad w0] I e := by
  refine met_of (lv0 := [(0, rv ad w0)]) (by decide) (Nat.le_of_ble_eq_true rfl) rfl (fun p e0 s m args below meth c S0 hK hX hr hlk Q hQ => ?_)
  have hf : OK (f_X12_laysDrops T A w0 I) (fun z => z = e) := ⟨e, h, rfl⟩
  unfold f_X12_laysDrops at hf
  obtain ⟨hw0, hf⟩ := ok_grd hf
  refine r_aload_n (pc := 0) S0 0 dX12_laysDrops_0 rfl rfl ?_
  obtain ⟨e1, h2, hf⟩ := ok_bind hf
  refine r_cV_I (pc := 1) [] S0 hK hX mv_X12_403 (k_X12_sets0 h2) (c_X12_sets0 l cA D N sx ad T A nx I w0 e1 h2) rfl rfl ⟨by decide, by decide⟩ (Nat.le_of_ble_eq_true rfl) ⟨Nat.le_refl _, Nat.le_refl _⟩ dX12_laysDrops_1 (fun c3 => ?_)
  refine r_iconst (pc := 4) S0 dX12_laysDrops_4 ?_
  refine r_isub (pc := 5) S0 dX12_laysDrops_5 ?_
  refine r_istore_n (pc := 6) (lv' := [(1, iv (isb e1 1)), (0, rv ad w0)]) S0 dX12_laysDrops_6 rfl (by decide) rfl ?_
  refine r_lv [1, 0] rfl ?_
  refine it_ind (P := fun s5 => cn s5.1 → G p l e0 (rmx 3 104) s m args below meth c 0 0 Q cA D N 3 ad T A nx 7 [(0, rv ad w0), (1, iv s5.1)] [] s5.2) (fun n0 s5 ih4 hf c6 => ?_) FU (isb e1 1, I) hf (cn_wrap _)
  refine r_iload_n (pc := 7) S0 1 dX12_laysDrops_7 rfl rfl ?_
  refine r_if_lt (pc := 8) (tgt := 108) S0 dX12_laysDrops_8 (by decide) c6 hf (fun hf => ?_) (fun hf => ?_)
  · have hz := ok_some hf
    have hz : s5.2 = e := hz
    subst hQ
    subst hz
    exact r_vret (pc := 108) S0 hr hlk dX12_laysDrops_108
  · refine r_aload_n (pc := 11) S0 0 dX12_laysDrops_11 rfl rfl ?_
    refine r_getR (pc := 12) S0 hK fl_X12_80 dX12_laysDrops_12 hf (fun x7 hf => ?_)
    refine r_iload_n (pc := 15) S0 1 dX12_laysDrops_15 rfl rfl ?_
    refine r_aload_n (pc := 16) S0 0 dX12_laysDrops_16 rfl rfl ?_
    refine r_getR (pc := 17) S0 hK fl_X12_34 dX12_laysDrops_17 hf (fun x8 hf => ?_)
    refine r_iconst (pc := 20) S0 dX12_laysDrops_20 ?_
    refine r_iald (pc := 21) S0 hK dX12_laysDrops_21 (cnz 4 rfl) hf (fun x9 c10 hf => ?_)
    refine r_iload_n (pc := 22) S0 1 dX12_laysDrops_22 rfl rfl ?_
    refine r_iconst (pc := 23) S0 dX12_laysDrops_23 ?_
    refine r_ixor (pc := 24) S0 dX12_laysDrops_24 ?_
    refine r_iand (pc := 25) S0 dX12_laysDrops_25 ?_
    refine thn_rule (P := fun v12 => cn v12 → G p l e0 (rmx 3 104) s m args below meth c 0 0 Q cA D N 3 ad T A nx 35 [(0, rv ad w0), (1, iv s5.1)] [iv v12, iv s5.1, rv ad x7] s5.2) hf (fun v12 hf c13 => ?_) (fun K11 hf => ?_)
    · refine r_iast (pc := 35) S0 hK dX12_laysDrops_35 c6 c13 hf (fun I14 hf => ?_)
      refine r_iconst (pc := 36) S0 dX12_laysDrops_36 ?_
      refine r_istore_n (pc := 37) (lv' := [(2, iv 0), (0, rv ad w0), (1, iv s5.1)]) S0 dX12_laysDrops_37 rfl (by decide) rfl ?_
      refine r_lv [1, 2, 0] rfl ?_
      refine it_ind (P := fun s16 => cn s16.1 → G p l e0 (rmx 3 104) s m args below meth c 0 0 Q cA D N 3 ad T A nx 38 [(0, rv ad w0), (1, iv s5.1), (2, iv s16.1)] [] s16.2) (fun n0 s16 ih15 hf c17 => ?_) FU (0, I14) hf (cnz 0 rfl)
      refine r_iload_n (pc := 38) S0 2 dX12_laysDrops_38 rfl rfl ?_
      refine r_aload_n (pc := 39) S0 0 dX12_laysDrops_39 rfl rfl ?_
      refine r_getR (pc := 40) S0 hK fl_X12_34 dX12_laysDrops_40 hf (fun x18 hf => ?_)
      refine r_iconst (pc := 43) S0 dX12_laysDrops_43 ?_
      refine r_iald (pc := 44) S0 hK dX12_laysDrops_44 (cnz 3 rfl) hf (fun x19 c20 hf => ?_)
      refine r_icmp_ge (pc := 45) (tgt := 102) S0 dX12_laysDrops_45 (by decide) c17 c20 hf (fun hf => ?_) (fun hf => ?_)
      · refine r_iinc (pc := 102) (lv' := [(1, iv (ia s5.1 (-1))), (0, rv ad w0), (2, iv s16.1)]) S0 1 dX12_laysDrops_102 rfl (by decide) rfl ?_
        refine r_goto (pc := 105) (tgt := 7) S0 dX12_laysDrops_105 (by decide) ?_
        have hz := ok_some hf
        refine r_lv [1, 0] rfl ?_
        exact ih4 (ia s5.1 (-1), s16.2) hz (cn_wrap _)
      · refine r_aload_n (pc := 48) S0 0 dX12_laysDrops_48 rfl rfl ?_
        refine r_getR (pc := 49) S0 hK fl_X12_34 dX12_laysDrops_49 hf (fun x21 hf => ?_)
        refine r_iconst (pc := 52) S0 dX12_laysDrops_52 ?_
        refine r_iald (pc := 53) S0 hK dX12_laysDrops_53 (cnz 4 rfl) hf (fun x22 c23 hf => ?_)
        refine r_iload_n (pc := 54) S0 1 dX12_laysDrops_54 rfl rfl ?_
        refine r_iconst (pc := 55) S0 dX12_laysDrops_55 ?_
        refine r_ixor (pc := 56) S0 dX12_laysDrops_56 ?_
        refine r_iand (pc := 57) S0 dX12_laysDrops_57 ?_
        refine r_if_eq (pc := 58) (tgt := 102) S0 dX12_laysDrops_58 (by decide) (cn_toInt _) hf (fun hf => ?_) (fun hf => ?_)
        · refine r_iinc (pc := 102) (lv' := [(1, iv (ia s5.1 (-1))), (0, rv ad w0), (2, iv s16.1)]) S0 1 dX12_laysDrops_102 rfl (by decide) rfl ?_
          refine r_goto (pc := 105) (tgt := 7) S0 dX12_laysDrops_105 (by decide) ?_
          have hz := ok_some hf
          refine r_lv [1, 0] rfl ?_
          exact ih4 (ia s5.1 (-1), s16.2) hz (cn_wrap _)
        · refine r_iload_n (pc := 61) S0 1 dX12_laysDrops_61 rfl rfl ?_
          refine r_iload_n (pc := 62) S0 2 dX12_laysDrops_62 rfl rfl ?_
          obtain ⟨e24, h25, hf⟩ := ok_bind hf
          refine r_cS_I (pc := 63) [iv s5.1, iv s16.1] S0 hK hX ms_X12_278 (c_X12_isBit l cA D N sx ad T A nx s16.2 s5.1 s16.1 c6 c17 e24 h25) rfl rfl ⟨by decide, by decide⟩ (Nat.le_of_ble_eq_true rfl) ⟨Nat.le_refl _, Nat.le_refl _⟩ dX12_laysDrops_63 (fun c26 => ?_)
          refine r_if_ne (pc := 66) (tgt := 96) S0 dX12_laysDrops_66 (by decide) c26 hf (fun hf => ?_) (fun hf => ?_)
          · refine r_iinc (pc := 96) (lv' := [(2, iv (ia s16.1 1)), (0, rv ad w0), (1, iv s5.1)]) S0 2 dX12_laysDrops_96 rfl (by decide) rfl ?_
            refine r_goto (pc := 99) (tgt := 38) S0 dX12_laysDrops_99 (by decide) ?_
            have hz := ok_some hf
            refine r_lv [1, 2, 0] rfl ?_
            exact ih15 (ia s16.1 1, s16.2) hz (cn_wrap _)
          · refine r_aload_n (pc := 69) S0 0 dX12_laysDrops_69 rfl rfl ?_
            refine r_iload_n (pc := 70) S0 2 dX12_laysDrops_70 rfl rfl ?_
            refine r_iload_n (pc := 71) S0 1 dX12_laysDrops_71 rfl rfl ?_
            obtain ⟨e27, h28, hf⟩ := ok_bind hf
            refine r_cV_I (pc := 72) [iv s16.1, iv s5.1] S0 hK hX mv_X12_429 (k_X12_dropsBy h28) (c_X12_dropsBy l cA D N sx ad T A nx s16.2 w0 s16.1 s5.1 c17 c6 e27 h28) rfl rfl ⟨by decide, by decide⟩ (Nat.le_of_ble_eq_true rfl) ⟨Nat.le_refl _, Nat.le_refl _⟩ dX12_laysDrops_72 (fun c29 => ?_)
            refine r_aload_n (pc := 75) S0 0 dX12_laysDrops_75 rfl rfl ?_
            refine r_getR (pc := 76) S0 hK fl_X12_80 dX12_laysDrops_76 hf (fun x30 hf => ?_)
            refine r_iload_n (pc := 79) S0 1 dX12_laysDrops_79 rfl rfl ?_
            refine r_iald (pc := 80) S0 hK dX12_laysDrops_80 c6 hf (fun x31 c32 hf => ?_)
            refine r_icmp_ge (pc := 81) (tgt := 96) S0 dX12_laysDrops_81 (by decide) c29 c32 hf (fun hf => ?_) (fun hf => ?_)
            · refine r_iinc (pc := 96) (lv' := [(2, iv (ia s16.1 1)), (0, rv ad w0), (1, iv s5.1)]) S0 2 dX12_laysDrops_96 rfl (by decide) rfl ?_
              refine r_goto (pc := 99) (tgt := 38) S0 dX12_laysDrops_99 (by decide) ?_
              have hz := ok_some hf
              refine r_lv [1, 2, 0] rfl ?_
              exact ih15 (ia s16.1 1, s16.2) hz (cn_wrap _)
            · refine r_aload_n (pc := 84) S0 0 dX12_laysDrops_84 rfl rfl ?_
              refine r_getR (pc := 85) S0 hK fl_X12_80 dX12_laysDrops_85 hf (fun x33 hf => ?_)
              refine r_iload_n (pc := 88) S0 1 dX12_laysDrops_88 rfl rfl ?_
              refine r_aload_n (pc := 89) S0 0 dX12_laysDrops_89 rfl rfl ?_
              refine r_iload_n (pc := 90) S0 2 dX12_laysDrops_90 rfl rfl ?_
              refine r_iload_n (pc := 91) S0 1 dX12_laysDrops_91 rfl rfl ?_
              obtain ⟨e34, h35, hf⟩ := ok_bind hf
              refine r_cV_I (pc := 92) [iv s16.1, iv s5.1] S0 hK hX mv_X12_429 (k_X12_dropsBy h35) (c_X12_dropsBy l cA D N sx ad T A nx s16.2 w0 s16.1 s5.1 c17 c6 e34 h35) rfl rfl ⟨by decide, by decide⟩ (Nat.le_of_ble_eq_true rfl) ⟨Nat.le_refl _, Nat.le_refl _⟩ dX12_laysDrops_92 (fun c36 => ?_)
              refine r_iast (pc := 95) S0 hK dX12_laysDrops_95 c6 c36 hf (fun I37 hf => ?_)
              refine r_iinc (pc := 96) (lv' := [(2, iv (ia s16.1 1)), (0, rv ad w0), (1, iv s5.1)]) S0 2 dX12_laysDrops_96 rfl (by decide) rfl ?_
              refine r_goto (pc := 99) (tgt := 38) S0 dX12_laysDrops_99 (by decide) ?_
              have hz := ok_some hf
              refine r_lv [1, 2, 0] rfl ?_
              exact ih15 (ia s16.1 1, I37) hz (cn_wrap _)
    · refine r_if_ne (pc := 26) (tgt := 33) S0 dX12_laysDrops_26 (by decide) (cn_toInt _) hf (fun hf => ?_) (fun hf => ?_)
      · refine r_ldc (pc := 33) (z := 100000) S0 k_X12_139 dX12_laysDrops_33 (by decide) ?_
        have hz := ok_some hf
        refine r_lv [0, 1] rfl ?_
        exact K11 100000 hz (cnz 100000 rfl)
      · refine r_iconst (pc := 29) S0 dX12_laysDrops_29 ?_
        refine r_goto (pc := 30) (tgt := 35) S0 dX12_laysDrops_30 (by decide) ?_
        have hz := ok_some hf
        refine r_lv [0, 1] rfl ?_
        exact K11 0 hz (cnz 0 rfl)

set_option maxHeartbeats 4000000 in
set_option maxRecDepth 100000 in
theorem c_X12_loose (l : Launch) (cA : Nat → ClassId) (D : va_G) (N : Nat) (sx : Sx) (ad : Nat → Nat) (T : Knd) (A : Rfs) (nx : Nat) (I : Mem) (w0 : Nat)  (e : (Int × Mem)) (h : f_X12_loose T A w0 I = some e) : CtI l yX12_loose cX12_loose 1 (some .int) 4 126 cA D N sx ad T A nx [rv ad w0] I e.2 e.1 := by
  refine met_of (lv0 := [(0, rv ad w0)]) (by decide) (Nat.le_of_ble_eq_true rfl) rfl (fun p e0 s m args below meth c S0 hK hX hr hlk Q hQ => ?_)
  have hf : OK (f_X12_loose T A w0 I) (fun z => z = e) := ⟨e, h, rfl⟩
  unfold f_X12_loose at hf
  obtain ⟨hw0, hf⟩ := ok_grd hf
  refine r_aload_n (pc := 0) S0 0 dX12_loose_0 rfl rfl ?_
  refine r_iconst (pc := 1) S0 dX12_loose_1 ?_
  refine r_putI (pc := 2) S0 hK fl_X12_89 rfl rfl (cnz 0 rfl) dX12_loose_2 hf (fun I1 hf => ?_)
  refine r_aload_n (pc := 5) S0 0 dX12_loose_5 rfl rfl ?_
  obtain ⟨e2, h3, hf⟩ := ok_bind hf
  refine r_cV_I (pc := 6) [] S0 hK hX mv_X12_267 (k_X12_isOffice h3) (c_X12_isOffice l cA D N sx ad T A nx I1 w0 e2 h3) rfl rfl ⟨by decide, by decide⟩ (Nat.le_of_ble_eq_true rfl) ⟨Nat.le_refl _, Nat.le_refl _⟩ dX12_loose_6 (fun c4 => ?_)
  refine r_if_ne (pc := 9) (tgt := 15) S0 dX12_loose_9 (by decide) c4 hf (fun hf => ?_) (fun hf => ?_)
  · refine r_aload_n (pc := 15) S0 0 dX12_loose_15 rfl rfl ?_
    obtain ⟨e5, h6, hf⟩ := ok_bind hf
    refine r_cV_V (pc := 16) [] S0 hK hX mv_X12_432 (k_X12_laysDrops h6) (c_X12_laysDrops l cA D N sx ad T A nx I1 w0 e5 h6) rfl rfl ⟨by decide, by decide⟩ (Nat.le_of_ble_eq_true rfl) ⟨Nat.le_refl _, Nat.le_refl _⟩ dX12_loose_16 ?_
    refine r_aload_n (pc := 19) S0 0 dX12_loose_19 rfl rfl ?_
    refine r_getR (pc := 20) S0 hK fl_X12_80 dX12_loose_20 hf (fun x7 hf => ?_)
    refine r_iconst (pc := 23) S0 dX12_loose_23 ?_
    refine r_iald (pc := 24) S0 hK dX12_loose_24 (cnz 0 rfl) hf (fun x8 c9 hf => ?_)
    refine r_bipush (pc := 25) S0 dX12_loose_25 (by decide) ?_
    refine r_idiv (pc := 27) S0 dX12_loose_27 (cnz 16 rfl) hf (fun hf => ?_)
    have hz := ok_some hf
    have hz : (idv x8 16, e5) = e := hz
    subst hQ
    subst hz
    exact r_iret (pc := 28) S0 hr hlk (cn_toInt _) dX12_loose_28
  · refine r_bipush (pc := 12) S0 dX12_loose_12 (by decide) ?_
    have hz := ok_some hf
    have hz : ((-2), I1) = e := hz
    subst hQ
    subst hz
    exact r_iret (pc := 14) S0 hr hlk (cnz (-2) rfl) dX12_loose_14

set_option maxHeartbeats 4000000 in
set_option maxRecDepth 100000 in
theorem c_X12_loosely (l : Launch) (cA : Nat → ClassId) (D : va_G) (N : Nat) (sx : Sx) (ad : Nat → Nat) (T : Knd) (A : Rfs) (nx : Nat) (I : Mem) (w0 : Nat) (a1 : Int) (ca1 : cn a1) (e : (Int × Mem)) (h : f_X12_loosely T A w0 a1 I = some e) : CtI l yX12_loosely cX12_loosely 5 (some .int) 4 126 cA D N sx ad T A nx [rv ad w0, iv a1] I e.2 e.1 := by
  refine met_of (lv0 := [(0, rv ad w0), (1, iv a1)]) (by decide) (Nat.le_of_ble_eq_true rfl) rfl (fun p e0 s m args below meth c S0 hK hX hr hlk Q hQ => ?_)
  have hf : OK (f_X12_loosely T A w0 a1 I) (fun z => z = e) := ⟨e, h, rfl⟩
  unfold f_X12_loosely at hf
  obtain ⟨hw0, hf⟩ := ok_grd hf
  refine r_aload_n (pc := 0) S0 0 dX12_loosely_0 rfl rfl ?_
  refine r_iconst (pc := 1) S0 dX12_loosely_1 ?_
  refine r_putI (pc := 2) S0 hK fl_X12_89 rfl rfl (cnz 0 rfl) dX12_loosely_2 hf (fun I1 hf => ?_)
  refine r_aload_n (pc := 5) S0 0 dX12_loosely_5 rfl rfl ?_
  obtain ⟨e2, h3, hf⟩ := ok_bind hf
  refine r_cV_I (pc := 6) [] S0 hK hX mv_X12_267 (k_X12_isOffice h3) (c_X12_isOffice l cA D N sx ad T A nx I1 w0 e2 h3) rfl rfl ⟨by decide, by decide⟩ (Nat.le_of_ble_eq_true rfl) ⟨Nat.le_refl _, Nat.le_refl _⟩ dX12_loosely_6 (fun c4 => ?_)
  refine r_if_ne (pc := 9) (tgt := 15) S0 dX12_loosely_9 (by decide) c4 hf (fun hf => ?_) (fun hf => ?_)
  · refine r_aload_n (pc := 15) S0 0 dX12_loosely_15 rfl rfl ?_
    obtain ⟨e5, h6, hf⟩ := ok_bind hf
    refine r_cV_V (pc := 16) [] S0 hK hX mv_X12_432 (k_X12_laysDrops h6) (c_X12_laysDrops l cA D N sx ad T A nx I1 w0 e5 h6) rfl rfl ⟨by decide, by decide⟩ (Nat.le_of_ble_eq_true rfl) ⟨Nat.le_refl _, Nat.le_refl _⟩ dX12_loosely_16 ?_
    refine r_iconst (pc := 19) S0 dX12_loosely_19 ?_
    refine r_istore_n (pc := 20) (lv' := [(2, iv 0), (0, rv ad w0), (1, iv a1)]) S0 dX12_loosely_20 rfl (by decide) rfl ?_
    refine r_iconst (pc := 21) S0 dX12_loosely_21 ?_
    refine r_istore_n (pc := 22) (lv' := [(3, iv 0), (2, iv 0), (0, rv ad w0), (1, iv a1)]) S0 dX12_loosely_22 rfl (by decide) rfl ?_
    refine r_lv [2, 3, 1, 0] rfl ?_
    refine it_ind (P := fun s8 => cn s8.1 → cn s8.2 → G p l e0 (rmx 4 126) s m args below meth c 0 0 Q cA D N 5 ad T A nx 23 [(0, rv ad w0), (1, iv a1), (2, iv s8.1), (3, iv s8.2)] [] e5) (fun n0 s8 ih7 hf c9 c10 => ?_) FU (0, 0) hf (cnz 0 rfl) (cnz 0 rfl)
    refine r_aload_n (pc := 23) S0 0 dX12_loosely_23 rfl rfl ?_
    refine r_getR (pc := 24) S0 hK fl_X12_34 dX12_loosely_24 hf (fun x11 hf => ?_)
    refine r_iconst (pc := 27) S0 dX12_loosely_27 ?_
    refine r_iald (pc := 28) S0 hK dX12_loosely_28 (cnz 4 rfl) hf (fun x12 c13 hf => ?_)
    refine r_iload_n (pc := 29) S0 2 dX12_loosely_29 rfl rfl ?_
    refine r_iconst (pc := 30) S0 dX12_loosely_30 ?_
    refine r_ixor (pc := 31) S0 dX12_loosely_31 ?_
    refine r_iand (pc := 32) S0 dX12_loosely_32 ?_
    refine r_if_eq (pc := 33) (tgt := 91) S0 dX12_loosely_33 (by decide) (cn_toInt _) hf (fun hf => ?_) (fun hf => ?_)
    · refine r_iconst (pc := 91) S0 dX12_loosely_91 ?_
      have hz := ok_some hf
      have hz : ((-1), e5) = e := hz
      subst hQ
      subst hz
      exact r_iret (pc := 92) S0 hr hlk (cnz (-1) rfl) dX12_loosely_92
    · refine r_iconst (pc := 36) S0 dX12_loosely_36 ?_
      refine r_istore (pc := 37) (lv' := [(4, iv 0), (0, rv ad w0), (1, iv a1), (2, iv s8.1), (3, iv s8.2)]) S0 dX12_loosely_37 (by decide) rfl ?_
      refine thn_rule (P := fun v15 => cn v15 → G p l e0 (rmx 4 126) s m args below meth c 0 0 Q cA D N 5 ad T A nx 70 [(0, rv ad w0), (1, iv a1), (2, iv s8.1), (3, iv s8.2), (4, iv v15)] [] e5) hf (fun v15 hf c16 => ?_) (fun K14 hf => ?_)
      · refine r_iload_n (pc := 70) S0 3 dX12_loosely_70 rfl rfl ?_
        refine r_iload_n (pc := 71) S0 1 dX12_loosely_71 rfl rfl ?_
        refine r_icmp_ne (pc := 72) (tgt := 78) S0 dX12_loosely_72 (by decide) c10 ca1 hf (fun hf => ?_) (fun hf => ?_)
        · refine r_iload_n (pc := 78) S0 2 dX12_loosely_78 rfl rfl ?_
          refine r_iconst (pc := 79) S0 dX12_loosely_79 ?_
          refine r_iload (pc := 80) S0 4 dX12_loosely_80 rfl ?_
          refine r_ishl (pc := 82) S0 dX12_loosely_82 ?_
          refine r_ior (pc := 83) S0 dX12_loosely_83 ?_
          refine r_istore_n (pc := 84) (lv' := [(2, iv (ior s8.1 (ishl 1 v15))), (0, rv ad w0), (1, iv a1), (3, iv s8.2), (4, iv v15)]) S0 dX12_loosely_84 rfl (by decide) rfl ?_
          refine r_iinc (pc := 85) (lv' := [(3, iv (ia s8.2 1)), (2, iv (ior s8.1 (ishl 1 v15))), (0, rv ad w0), (1, iv a1), (4, iv v15)]) S0 3 dX12_loosely_85 rfl (by decide) rfl ?_
          refine r_goto (pc := 88) (tgt := 23) S0 dX12_loosely_88 (by decide) ?_
          have hz := ok_some hf
          refine r_lv [2, 3, 1, 0] rfl ?_
          exact ih7 (ior s8.1 (ishl 1 v15), ia s8.2 1) hz (cn_toInt _) (cn_wrap _)
        · refine r_iload (pc := 75) S0 4 dX12_loosely_75 rfl ?_
          have hz := ok_some hf
          have hz : (v15, e5) = e := hz
          subst hQ
          subst hz
          exact r_iret (pc := 77) S0 hr hlk c16 dX12_loosely_77
      · refine r_lv [1, 2, 3, 4, 0] rfl ?_
        refine it_ind (P := fun s18 => cn s18 → G p l e0 (rmx 4 126) s m args below meth c 0 0 Q cA D N 5 ad T A nx 39 [(0, rv ad w0), (1, iv a1), (2, iv s8.1), (3, iv s8.2), (4, iv s18)] [] e5) (fun n0 s18 ih17 hf c19 => ?_) FU 0 hf (cnz 0 rfl)
        refine r_iload_n (pc := 39) S0 2 dX12_loosely_39 rfl rfl ?_
        refine r_iload (pc := 40) S0 4 dX12_loosely_40 rfl ?_
        obtain ⟨e20, h21, hf⟩ := ok_bind hf
        refine r_cS_I (pc := 42) [iv s8.1, iv s18] S0 hK hX ms_X12_278 (c_X12_isBit l cA D N sx ad T A nx e5 s8.1 s18 c9 c19 e20 h21) rfl rfl ⟨by decide, by decide⟩ (Nat.le_of_ble_eq_true rfl) ⟨Nat.le_refl _, Nat.le_refl _⟩ dX12_loosely_42 (fun c22 => ?_)
        refine r_if_ne (pc := 45) (tgt := 64) S0 dX12_loosely_45 (by decide) c22 hf (fun hf => ?_) (fun hf => ?_)
        · refine r_iinc (pc := 64) (lv' := [(4, iv (ia s18 1)), (0, rv ad w0), (1, iv a1), (2, iv s8.1), (3, iv s8.2)]) S0 4 dX12_loosely_64 rfl (by decide) rfl ?_
          refine r_goto (pc := 67) (tgt := 39) S0 dX12_loosely_67 (by decide) ?_
          have hz := ok_some hf
          refine r_lv [1, 2, 3, 4, 0] rfl ?_
          exact ih17 (ia s18 1) hz (cn_wrap _)
        · refine r_aload_n (pc := 48) S0 0 dX12_loosely_48 rfl rfl ?_
          refine r_iload (pc := 49) S0 4 dX12_loosely_49 rfl ?_
          refine r_iload_n (pc := 51) S0 2 dX12_loosely_51 rfl rfl ?_
          obtain ⟨e23, h24, hf⟩ := ok_bind hf
          refine r_cV_I (pc := 52) [iv s18, iv s8.1] S0 hK hX mv_X12_429 (k_X12_dropsBy h24) (c_X12_dropsBy l cA D N sx ad T A nx e5 w0 s18 s8.1 c19 c9 e23 h24) rfl rfl ⟨by decide, by decide⟩ (Nat.le_of_ble_eq_true rfl) ⟨Nat.le_refl _, Nat.le_refl _⟩ dX12_loosely_52 (fun c25 => ?_)
          refine r_aload_n (pc := 55) S0 0 dX12_loosely_55 rfl rfl ?_
          refine r_getR (pc := 56) S0 hK fl_X12_80 dX12_loosely_56 hf (fun x26 hf => ?_)
          refine r_iload_n (pc := 59) S0 2 dX12_loosely_59 rfl rfl ?_
          refine r_iald (pc := 60) S0 hK dX12_loosely_60 c9 hf (fun x27 c28 hf => ?_)
          refine r_icmp_eq (pc := 61) (tgt := 70) S0 dX12_loosely_61 (by decide) c25 c28 hf (fun hf => ?_) (fun hf => ?_)
          · have hz := ok_some hf
            refine r_lv [0, 1, 2, 3, 4] rfl ?_
            exact K14 s18 hz c19
          · refine r_iinc (pc := 64) (lv' := [(4, iv (ia s18 1)), (0, rv ad w0), (1, iv a1), (2, iv s8.1), (3, iv s8.2)]) S0 4 dX12_loosely_64 rfl (by decide) rfl ?_
            refine r_goto (pc := 67) (tgt := 39) S0 dX12_loosely_67 (by decide) ?_
            have hz := ok_some hf
            refine r_lv [1, 2, 3, 4, 0] rfl ?_
            exact ih17 (ia s18 1) hz (cn_wrap _)
  · refine r_bipush (pc := 12) S0 dX12_loosely_12 (by decide) ?_
    have hz := ok_some hf
    have hz : ((-2), I1) = e := hz
    subst hQ
    subst hz
    exact r_iret (pc := 14) S0 hr hlk (cnz (-2) rfl) dX12_loosely_14

set_option maxHeartbeats 4000000 in
set_option maxRecDepth 100000 in
theorem c_X12_canBeHad (l : Launch) (cA : Nat → ClassId) (D : va_G) (N : Nat) (sx : Sx) (ad : Nat → Nat) (T : Knd) (A : Rfs) (nx : Nat) (I : Mem) (w0 : Nat)  (e : (Int × Mem)) (h : f_X12_canBeHad T A w0 I = some e) : CtI l yX12_canBeHad cX12_canBeHad 2 (some .boolean) 3 104 cA D N sx ad T A nx [rv ad w0] I e.2 e.1 := by
  refine met_of (lv0 := [(0, rv ad w0)]) (by decide) (Nat.le_of_ble_eq_true rfl) rfl (fun p e0 s m args below meth c S0 hK hX hr hlk Q hQ => ?_)
  have hf : OK (f_X12_canBeHad T A w0 I) (fun z => z = e) := ⟨e, h, rfl⟩
  unfold f_X12_canBeHad at hf
  obtain ⟨hw0, hf⟩ := ok_grd hf
  refine r_aload_n (pc := 0) S0 0 dX12_canBeHad_0 rfl rfl ?_
  obtain ⟨e1, h2, hf⟩ := ok_bind hf
  refine r_cV_V (pc := 1) [] S0 hK hX mv_X12_412 (k_X12_laysSets h2) (c_X12_laysSets l cA D N sx ad T A nx I w0 e1 h2) rfl rfl ⟨by decide, by decide⟩ (Nat.le_of_ble_eq_true rfl) ⟨Nat.le_refl _, Nat.le_refl _⟩ dX12_canBeHad_1 ?_
  refine r_iconst (pc := 4) S0 dX12_canBeHad_4 ?_
  refine r_istore_n (pc := 5) (lv' := [(1, iv 0), (0, rv ad w0)]) S0 dX12_canBeHad_5 rfl (by decide) rfl ?_
  refine r_lv [1, 0] rfl ?_
  refine it_ind (P := fun s4 => cn s4 → G p l e0 (rmx 3 104) s m args below meth c 0 0 Q cA D N 2 ad T A nx 6 [(0, rv ad w0), (1, iv s4)] [] e1) (fun n0 s4 ih3 hf c5 => ?_) FU 0 hf (cnz 0 rfl)
  refine r_iload_n (pc := 6) S0 1 dX12_canBeHad_6 rfl rfl ?_
  refine r_aload_n (pc := 7) S0 0 dX12_canBeHad_7 rfl rfl ?_
  obtain ⟨e6, h7, hf⟩ := ok_bind hf
  refine r_cV_I (pc := 8) [] S0 hK hX mv_X12_403 (k_X12_sets0 h7) (c_X12_sets0 l cA D N sx ad T A nx e1 w0 e6 h7) rfl rfl ⟨by decide, by decide⟩ (Nat.le_of_ble_eq_true rfl) ⟨Nat.le_refl _, Nat.le_refl _⟩ dX12_canBeHad_8 (fun c8 => ?_)
  refine r_icmp_ge (pc := 11) (tgt := 46) S0 dX12_canBeHad_11 (by decide) c5 c8 hf (fun hf => ?_) (fun hf => ?_)
  · refine r_iconst (pc := 46) S0 dX12_canBeHad_46 ?_
    have hz := ok_some hf
    have hz : (0, e1) = e := hz
    subst hQ
    subst hz
    exact r_zret (pc := 47) S0 hr hlk (Or.inl rfl) dX12_canBeHad_47
  · refine r_aload_n (pc := 14) S0 0 dX12_canBeHad_14 rfl rfl ?_
    refine r_getR (pc := 15) S0 hK fl_X12_74 dX12_canBeHad_15 hf (fun x9 hf => ?_)
    refine r_iload_n (pc := 18) S0 1 dX12_canBeHad_18 rfl rfl ?_
    refine r_lald (pc := 19) S0 hK dX12_canBeHad_19 c5 hf (fun x10 c11 hf => ?_)
    refine r_lconst (pc := 20) (v := 0) S0 dX12_canBeHad_20 rfl ?_
    refine r_lcmp (pc := 21) S0 dX12_canBeHad_21 c11 (clz 0 rfl) ?_
    refine r_if_le (pc := 22) (tgt := 40) S0 dX12_canBeHad_22 (by decide) (cn_lcmp _ _) hf (fun hf => ?_) (fun hf => ?_)
    · refine r_iinc (pc := 40) (lv' := [(1, iv (ia s4 1)), (0, rv ad w0)]) S0 1 dX12_canBeHad_40 rfl (by decide) rfl ?_
      refine r_goto (pc := 43) (tgt := 6) S0 dX12_canBeHad_43 (by decide) ?_
      have hz := ok_some hf
      refine r_lv [1, 0] rfl ?_
      exact ih3 (ia s4 1) hz (cn_wrap _)
    · refine r_aload_n (pc := 25) S0 0 dX12_canBeHad_25 rfl rfl ?_
      refine r_getR (pc := 26) S0 hK fl_X12_34 dX12_canBeHad_26 hf (fun x12 hf => ?_)
      refine r_iconst (pc := 29) S0 dX12_canBeHad_29 ?_
      refine r_iald (pc := 30) S0 hK dX12_canBeHad_30 (cnz 4 rfl) hf (fun x13 c14 hf => ?_)
      refine r_iload_n (pc := 31) S0 1 dX12_canBeHad_31 rfl rfl ?_
      refine r_iconst (pc := 32) S0 dX12_canBeHad_32 ?_
      refine r_ixor (pc := 33) S0 dX12_canBeHad_33 ?_
      refine r_iand (pc := 34) S0 dX12_canBeHad_34 ?_
      refine r_if_ne (pc := 35) (tgt := 40) S0 dX12_canBeHad_35 (by decide) (cn_toInt _) hf (fun hf => ?_) (fun hf => ?_)
      · refine r_iinc (pc := 40) (lv' := [(1, iv (ia s4 1)), (0, rv ad w0)]) S0 1 dX12_canBeHad_40 rfl (by decide) rfl ?_
        refine r_goto (pc := 43) (tgt := 6) S0 dX12_canBeHad_43 (by decide) ?_
        have hz := ok_some hf
        refine r_lv [1, 0] rfl ?_
        exact ih3 (ia s4 1) hz (cn_wrap _)
      · refine r_iconst (pc := 38) S0 dX12_canBeHad_38 ?_
        have hz := ok_some hf
        have hz : (1, e1) = e := hz
        subst hQ
        subst hz
        exact r_zret (pc := 39) S0 hr hlk (Or.inr rfl) dX12_canBeHad_39

set_option maxHeartbeats 4000000 in
set_option maxRecDepth 100000 in
theorem c_X12_isParted (l : Launch) (cA : Nat → ClassId) (D : va_G) (N : Nat) (sx : Sx) (ad : Nat → Nat) (T : Knd) (A : Rfs) (nx : Nat) (I : Mem) (w0 : Nat) (w1 : Nat) (a2 : Int) (a3 : Int) (ca2 : cn a2) (ca3 : cn a3) (e : (Int × Mem)) (h : f_X12_isParted T A w0 w1 a2 a3 I = some e) : CtI l yX12_isParted cX12_isParted 5 (some .boolean) 4 125 cA D N sx ad T A nx [rv ad w0, rv ad w1, iv a2, iv a3] I e.2 e.1 := by
  refine met_of (lv0 := [(0, rv ad w0), (1, rv ad w1), (2, iv a2), (3, iv a3)]) (by decide) (Nat.le_of_ble_eq_true rfl) rfl (fun p e0 s m args below meth c S0 hK hX hr hlk Q hQ => ?_)
  have hf : OK (f_X12_isParted T A w0 w1 a2 a3 I) (fun z => z = e) := ⟨e, h, rfl⟩
  unfold f_X12_isParted at hf
  obtain ⟨hw0, hf⟩ := ok_grd hf
  refine r_aload_n (pc := 0) S0 1 dX12_isParted_0 rfl rfl ?_
  refine r_iload_n (pc := 1) S0 2 dX12_isParted_1 rfl rfl ?_
  refine r_dup2 (pc := 2) S0 dX12_isParted_2 rfl rfl ?_
  refine r_iald (pc := 3) S0 hK dX12_isParted_3 ca2 hf (fun x1 c2 hf => ?_)
  refine r_iconst (pc := 4) S0 dX12_isParted_4 ?_
  refine r_iload_n (pc := 5) S0 3 dX12_isParted_5 rfl rfl ?_
  refine r_ishl (pc := 6) S0 dX12_isParted_6 ?_
  refine r_iconst (pc := 7) S0 dX12_isParted_7 ?_
  refine r_ixor (pc := 8) S0 dX12_isParted_8 ?_
  refine r_iand (pc := 9) S0 dX12_isParted_9 ?_
  refine r_iast (pc := 10) S0 hK dX12_isParted_10 ca2 (cn_toInt _) hf (fun I3 hf => ?_)
  refine r_aload_n (pc := 11) S0 0 dX12_isParted_11 rfl rfl ?_
  obtain ⟨e4, h5, hf⟩ := ok_bind hf
  refine r_cV_I (pc := 12) [] S0 hK hX mv_X12_435 (k_X12_canBeHad h5) (c_X12_canBeHad l cA D N sx ad T A nx I3 w0 e4 h5) rfl rfl ⟨by decide, by decide⟩ (Nat.le_of_ble_eq_true rfl) ⟨Nat.le_refl _, Nat.le_refl _⟩ dX12_isParted_12 (fun c6 => ?_)
  refine r_istore (pc := 15) (lv' := [(4, iv e4.1), (0, rv ad w0), (1, rv ad w1), (2, iv a2), (3, iv a3)]) S0 dX12_isParted_15 (by decide) rfl ?_
  refine r_aload_n (pc := 17) S0 2 dX12_isParted_17 rfl rfl ?_
  refine r_iload_n (pc := 18) S0 3 dX12_isParted_18 rfl rfl ?_
  refine r_dup2 (pc := 19) S0 dX12_isParted_19 rfl rfl ?_
  refine r_iald (pc := 20) S0 hK dX12_isParted_20 ca2 hf (fun x7 c8 hf => ?_)
  refine r_iconst (pc := 21) S0 dX12_isParted_21 ?_
  refine r_iload_n (pc := 22) S0 4 dX12_isParted_22 rfl rfl ?_
  refine r_ishl (pc := 23) S0 dX12_isParted_23 ?_
  refine r_ior (pc := 24) S0 dX12_isParted_24 ?_
  refine r_iast (pc := 25) S0 hK dX12_isParted_25 ca2 (cn_toInt _) hf (fun I9 hf => ?_)
  refine r_iload (pc := 26) S0 0 dX12_isParted_26 rfl ?_
  obtain ⟨_, z10, hf⟩ := ok_bind hf
  have hz := ok_some hf
  have hz : (e4.1, I9) = e := hz
  subst hQ
  subst hz
  exact r_zret (pc := 28) S0 hr hlk (zck_some z10) dX12_isParted_28

set_option maxHeartbeats 4000000 in
set_option maxRecDepth 100000 in
theorem c_X12_parted (l : Launch) (cA : Nat → ClassId) (D : va_G) (N : Nat) (sx : Sx) (ad : Nat → Nat) (T : Knd) (A : Rfs) (nx : Nat) (I : Mem) (w0 : Nat)  (e : (Int × Mem)) (h : f_X12_parted T A w0 I = some e) : CtI l yX12_parted cX12_parted 4 (some .int) 5 149 cA D N sx ad T A nx [rv ad w0] I e.2 e.1 := by
  refine met_of (lv0 := [(0, rv ad w0)]) (by decide) (Nat.le_of_ble_eq_true rfl) rfl (fun p e0 s m args below meth c S0 hK hX hr hlk Q hQ => ?_)
  have hf : OK (f_X12_parted T A w0 I) (fun z => z = e) := ⟨e, h, rfl⟩
  unfold f_X12_parted at hf
  obtain ⟨hw0, hf⟩ := ok_grd hf
  refine r_aload_n (pc := 0) S0 0 dX12_parted_0 rfl rfl ?_
  refine r_iconst (pc := 1) S0 dX12_parted_1 ?_
  refine r_putI (pc := 2) S0 hK fl_X12_89 rfl rfl (cnz 0 rfl) dX12_parted_2 hf (fun I1 hf => ?_)
  refine r_aload_n (pc := 5) S0 0 dX12_parted_5 rfl rfl ?_
  obtain ⟨e2, h3, hf⟩ := ok_bind hf
  refine r_cV_I (pc := 6) [] S0 hK hX mv_X12_267 (k_X12_isOffice h3) (c_X12_isOffice l cA D N sx ad T A nx I1 w0 e2 h3) rfl rfl ⟨by decide, by decide⟩ (Nat.le_of_ble_eq_true rfl) ⟨Nat.le_refl _, Nat.le_refl _⟩ dX12_parted_6 (fun c4 => ?_)
  refine r_if_ne (pc := 9) (tgt := 15) S0 dX12_parted_9 (by decide) c4 hf (fun hf => ?_) (fun hf => ?_)
  · refine r_aload_n (pc := 15) S0 0 dX12_parted_15 rfl rfl ?_
    obtain ⟨e5, h6, hf⟩ := ok_bind hf
    refine r_cV_I (pc := 16) [] S0 hK hX mv_X12_435 (k_X12_canBeHad h6) (c_X12_canBeHad l cA D N sx ad T A nx I1 w0 e5 h6) rfl rfl ⟨by decide, by decide⟩ (Nat.le_of_ble_eq_true rfl) ⟨Nat.le_refl _, Nat.le_refl _⟩ dX12_parted_16 (fun c7 => ?_)
    refine r_if_eq (pc := 19) (tgt := 24) S0 dX12_parted_19 (by decide) c7 hf (fun hf => ?_) (fun hf => ?_)
    · refine r_iconst (pc := 24) S0 dX12_parted_24 ?_
      refine r_istore_n (pc := 25) (lv' := [(1, iv 0), (0, rv ad w0)]) S0 dX12_parted_25 rfl (by decide) rfl ?_
      refine thn_rule (P := fun v9 => cn v9.1 → cn v9.2.1 → cn v9.2.2.1 → G p l e0 (rmx 5 149) s m args below meth c 0 0 Q cA D N 4 ad T A nx 108 [(1, iv v9.1), (2, iv v9.2.1), (3, iv v9.2.2.1)] [] v9.2.2.2) hf (fun v9 hf c10 c11 c12 => ?_) (fun K8 hf => ?_)
      · refine r_bipush (pc := 108) S0 dX12_parted_108 (by decide) ?_
        refine r_iload_n (pc := 110) S0 0 dX12_parted_110 rfl rfl ?_
        refine r_imul (pc := 111) S0 dX12_parted_111 ?_
        refine r_bipush (pc := 112) S0 dX12_parted_112 (by decide) ?_
        refine r_iload_n (pc := 114) S0 1 dX12_parted_114 rfl rfl ?_
        refine r_imul (pc := 115) S0 dX12_parted_115 ?_
        refine r_iadd (pc := 116) S0 dX12_parted_116 ?_
        refine r_iload_n (pc := 117) S0 2 dX12_parted_117 rfl rfl ?_
        refine r_iadd (pc := 118) S0 dX12_parted_118 ?_
        have hz := ok_some hf
        have hz : (ia (ia (im 100 v9.1) (im 10 v9.2.1)) v9.2.2.1, v9.2.2.2) = e := hz
        subst hQ
        subst hz
        exact r_iret (pc := 119) S0 hr hlk (cn_wrap _) dX12_parted_119
      · refine r_lv [1, 0] rfl ?_
        refine it_ind (P := fun s14 => cn s14.1 → G p l e0 (rmx 5 149) s m args below meth c 0 0 Q cA D N 4 ad T A nx 26 [(0, rv ad w0), (1, iv s14.1)] [] s14.2) (fun n0 s14 ih13 hf c15 => ?_) FU (0, e5.2) hf (cnz 0 rfl)
        refine r_iload_n (pc := 26) S0 1 dX12_parted_26 rfl rfl ?_
        refine r_iconst (pc := 27) S0 dX12_parted_27 ?_
        refine r_icmp_ge (pc := 28) (tgt := 138) S0 dX12_parted_28 (by decide) c15 (cnz 2 rfl) hf (fun hf => ?_) (fun hf => ?_)
        · refine r_iconst (pc := 138) S0 dX12_parted_138 ?_
          have hz := ok_some hf
          have hz : ((-1), s14.2) = e := hz
          subst hQ
          subst hz
          exact r_iret (pc := 139) S0 hr hlk (cnz (-1) rfl) dX12_parted_139
        · refine r_iconst (pc := 31) S0 dX12_parted_31 ?_
          refine r_istore_n (pc := 32) (lv' := [(2, iv 0), (0, rv ad w0), (1, iv s14.1)]) S0 dX12_parted_32 rfl (by decide) rfl ?_
          refine r_lv [1, 2, 0] rfl ?_
          refine it_ind (P := fun s17 => cn s17.1 → G p l e0 (rmx 5 149) s m args below meth c 0 0 Q cA D N 4 ad T A nx 33 [(0, rv ad w0), (1, iv s14.1), (2, iv s17.1)] [] s17.2) (fun n0 s17 ih16 hf c18 => ?_) FU (0, s14.2) hf (cnz 0 rfl)
          refine r_iload_n (pc := 33) S0 2 dX12_parted_33 rfl rfl ?_
          refine r_aload_n (pc := 34) S0 0 dX12_parted_34 rfl rfl ?_
          refine r_getR (pc := 35) S0 hK fl_X12_34 dX12_parted_35 hf (fun x19 hf => ?_)
          refine r_iconst (pc := 38) S0 dX12_parted_38 ?_
          refine r_iald (pc := 39) S0 hK dX12_parted_39 (cnz 3 rfl) hf (fun x20 c21 hf => ?_)
          refine r_icmp_ge (pc := 40) (tgt := 132) S0 dX12_parted_40 (by decide) c18 c21 hf (fun hf => ?_) (fun hf => ?_)
          · refine r_iinc (pc := 132) (lv' := [(1, iv (ia s14.1 1)), (0, rv ad w0), (2, iv s17.1)]) S0 1 dX12_parted_132 rfl (by decide) rfl ?_
            refine r_goto (pc := 135) (tgt := 26) S0 dX12_parted_135 (by decide) ?_
            have hz := ok_some hf
            refine r_lv [1, 0] rfl ?_
            exact ih13 (ia s14.1 1, s17.2) hz (cn_wrap _)
          · refine r_iconst (pc := 43) S0 dX12_parted_43 ?_
            refine r_istore_n (pc := 44) (lv' := [(3, iv 0), (0, rv ad w0), (1, iv s14.1), (2, iv s17.1)]) S0 dX12_parted_44 rfl (by decide) rfl ?_
            refine r_lv [1, 2, 3, 0] rfl ?_
            refine it_ind (P := fun s23 => cn s23.1 → G p l e0 (rmx 5 149) s m args below meth c 0 0 Q cA D N 4 ad T A nx 45 [(0, rv ad w0), (1, iv s14.1), (2, iv s17.1), (3, iv s23.1)] [] s23.2) (fun n0 s23 ih22 hf c24 => ?_) FU (0, s17.2) hf (cnz 0 rfl)
            refine r_iload_n (pc := 45) S0 3 dX12_parted_45 rfl rfl ?_
            refine r_aload_n (pc := 46) S0 0 dX12_parted_46 rfl rfl ?_
            refine r_getR (pc := 47) S0 hK fl_X12_34 dX12_parted_47 hf (fun x25 hf => ?_)
            refine r_iconst (pc := 50) S0 dX12_parted_50 ?_
            refine r_iald (pc := 51) S0 hK dX12_parted_51 (cnz 3 rfl) hf (fun x26 c27 hf => ?_)
            refine r_icmp_ge (pc := 52) (tgt := 126) S0 dX12_parted_52 (by decide) c24 c27 hf (fun hf => ?_) (fun hf => ?_)
            · refine r_iinc (pc := 126) (lv' := [(2, iv (ia s17.1 1)), (0, rv ad w0), (1, iv s14.1), (3, iv s23.1)]) S0 2 dX12_parted_126 rfl (by decide) rfl ?_
              refine r_goto (pc := 129) (tgt := 33) S0 dX12_parted_129 (by decide) ?_
              have hz := ok_some hf
              refine r_lv [1, 2, 0] rfl ?_
              exact ih16 (ia s17.1 1, s23.2) hz (cn_wrap _)
            · refine r_iload_n (pc := 55) S0 1 dX12_parted_55 rfl rfl ?_
              refine thn_rule (P := fun v29 => cn v29 → G p l e0 (rmx 5 149) s m args below meth c 0 0 Q cA D N 4 ad T A nx 74 [(0, rv ad w0), (1, iv s14.1), (2, iv s17.1), (3, iv s23.1)] [iv v29] s23.2) hf (fun v29 hf c30 => ?_) (fun K28 hf => ?_)
              · refine r_iload_n (pc := 74) S0 3 dX12_parted_74 rfl rfl ?_
                obtain ⟨e37, h38, hf⟩ := ok_bind hf
                refine r_cS_I (pc := 75) [iv v29, iv s23.1] S0 hK hX ms_X12_278 (c_X12_isBit l cA D N sx ad T A nx s23.2 v29 s23.1 c30 c24 e37 h38) rfl rfl ⟨by decide, by decide⟩ (Nat.le_of_ble_eq_true rfl) ⟨Nat.le_refl _, Nat.le_refl _⟩ dX12_parted_75 (fun c39 => ?_)
                refine r_if_ne (pc := 78) (tgt := 84) S0 dX12_parted_78 (by decide) c39 hf (fun hf => ?_) (fun hf => ?_)
                · refine r_aload_n (pc := 84) S0 0 dX12_parted_84 rfl rfl ?_
                  refine r_iload_n (pc := 85) S0 1 dX12_parted_85 rfl rfl ?_
                  refine thn_rule (P := fun v41 => G p l e0 (rmx 5 149) s m args below meth c 0 0 Q cA D N 4 ad T A nx 100 [(0, rv ad w0), (1, iv s14.1), (2, iv s17.1), (3, iv s23.1)] [rv ad v41, rv ad w0] s23.2) hf (fun v41 hf => ?_) (fun K40 hf => ?_)
                  · refine r_iload_n (pc := 100) S0 2 dX12_parted_100 rfl rfl ?_
                    refine r_iload_n (pc := 101) S0 3 dX12_parted_101 rfl rfl ?_
                    obtain ⟨e44, h45, hf⟩ := ok_bind hf
                    refine r_cV_I (pc := 102) [rv ad v41, iv s17.1, iv s23.1] S0 hK hX mv_X12_438 (k_X12_isParted h45) (c_X12_isParted l cA D N sx ad T A nx s23.2 w0 v41 s17.1 s23.1 c18 c24 e44 h45) rfl rfl ⟨by decide, by decide⟩ (Nat.le_of_ble_eq_true rfl) ⟨Nat.le_refl _, Nat.le_refl _⟩ dX12_parted_102 (fun c46 => ?_)
                    refine r_if_eq (pc := 105) (tgt := 120) S0 dX12_parted_105 (by decide) c46 hf (fun hf => ?_) (fun hf => ?_)
                    · refine r_iinc (pc := 120) (lv' := [(3, iv (ia s23.1 1)), (0, rv ad w0), (1, iv s14.1), (2, iv s17.1)]) S0 3 dX12_parted_120 rfl (by decide) rfl ?_
                      refine r_goto (pc := 123) (tgt := 45) S0 dX12_parted_123 (by decide) ?_
                      have hz := ok_some hf
                      refine r_lv [1, 2, 3, 0] rfl ?_
                      exact ih22 (ia s23.1 1, e44.2) hz (cn_wrap _)
                    · have hz := ok_some hf
                      refine r_lv [1, 2, 3] rfl ?_
                      exact K8 (s14.1, s17.1, s23.1, e44.2) hz c15 c18 c24
                  · refine r_if_ne (pc := 86) (tgt := 96) S0 dX12_parted_86 (by decide) c15 hf (fun hf => ?_) (fun hf => ?_)
                    · refine r_aload_n (pc := 96) S0 0 dX12_parted_96 rfl rfl ?_
                      refine r_getR (pc := 97) S0 hK fl_X12_43 dX12_parted_97 hf (fun x42 hf => ?_)
                      have hz := ok_some hf
                      refine r_lv [0, 1, 2, 3] rfl ?_
                      exact K40 x42 hz
                    · refine r_aload_n (pc := 89) S0 0 dX12_parted_89 rfl rfl ?_
                      refine r_getR (pc := 90) S0 hK fl_X12_40 dX12_parted_90 hf (fun x43 hf => ?_)
                      refine r_goto (pc := 93) (tgt := 100) S0 dX12_parted_93 (by decide) ?_
                      have hz := ok_some hf
                      refine r_lv [0, 1, 2, 3] rfl ?_
                      exact K40 x43 hz
                · refine r_goto (pc := 81) (tgt := 120) S0 dX12_parted_81 (by decide) ?_
                  refine r_iinc (pc := 120) (lv' := [(3, iv (ia s23.1 1)), (0, rv ad w0), (1, iv s14.1), (2, iv s17.1)]) S0 3 dX12_parted_120 rfl (by decide) rfl ?_
                  refine r_goto (pc := 123) (tgt := 45) S0 dX12_parted_123 (by decide) ?_
                  have hz := ok_some hf
                  refine r_lv [1, 2, 3, 0] rfl ?_
                  exact ih22 (ia s23.1 1, s23.2) hz (cn_wrap _)
              · refine r_if_ne (pc := 56) (tgt := 68) S0 dX12_parted_56 (by decide) c15 hf (fun hf => ?_) (fun hf => ?_)
                · refine r_aload_n (pc := 68) S0 0 dX12_parted_68 rfl rfl ?_
                  refine r_getR (pc := 69) S0 hK fl_X12_43 dX12_parted_69 hf (fun x31 hf => ?_)
                  refine r_iload_n (pc := 72) S0 2 dX12_parted_72 rfl rfl ?_
                  refine r_iald (pc := 73) S0 hK dX12_parted_73 c18 hf (fun x32 c33 hf => ?_)
                  have hz := ok_some hf
                  refine r_lv [0, 1, 2, 3] rfl ?_
                  exact K28 x32 hz c33
                · refine r_aload_n (pc := 59) S0 0 dX12_parted_59 rfl rfl ?_
                  refine r_getR (pc := 60) S0 hK fl_X12_40 dX12_parted_60 hf (fun x34 hf => ?_)
                  refine r_iload_n (pc := 63) S0 2 dX12_parted_63 rfl rfl ?_
                  refine r_iald (pc := 64) S0 hK dX12_parted_64 c18 hf (fun x35 c36 hf => ?_)
                  refine r_goto (pc := 65) (tgt := 74) S0 dX12_parted_65 (by decide) ?_
                  have hz := ok_some hf
                  refine r_lv [0, 1, 2, 3] rfl ?_
                  exact K28 x35 hz c36
    · refine r_iconst (pc := 22) S0 dX12_parted_22 ?_
      have hz := ok_some hf
      have hz : ((-1), e5.2) = e := hz
      subst hQ
      subst hz
      exact r_iret (pc := 23) S0 hr hlk (cnz (-1) rfl) dX12_parted_23
  · refine r_bipush (pc := 12) S0 dX12_parted_12 (by decide) ?_
    have hz := ok_some hf
    have hz : ((-2), I1) = e := hz
    subst hQ
    subst hz
    exact r_iret (pc := 14) S0 hr hlk (cnz (-2) rfl) dX12_parted_14
