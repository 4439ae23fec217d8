/-! Contracts, laid by wip/gen/gen.py. -/
set_option maxHeartbeats 4000000 in
set_option maxRecDepth 100000 in
theorem c_X11_commonDivisor (l : Launch) (cA : Nat → ClassId) (D : va_G) (N : Nat) (sx : Sx) (ad : Nat → Nat) (T : Knd) (A : Rfs) (nx : Nat) (I : Mem) (a0 : Int) (a1 : Int) (ca0 : cn a0) (ca1 : cn a1) (e : Int) (h : f_X11_commonDivisor T A a0 a1 I = some e) : CtI l yX11_commonDivisor cX11_commonDivisor 6 (some .int) 1 60 cA D N sx ad T A nx [iv a0, iv a1] I I e := by
  refine met_of (lv0 := [(0, iv a0), (1, iv a1)]) (by decide) (Nat.le_of_ble_eq_true rfl) rfl (fun p e0 s m args below meth c S0 hK hX hr hlk Q hQ => ?_)
  have hf : OK (f_X11_commonDivisor T A a0 a1 I) (fun z => z = e) := ⟨e, h, rfl⟩
  unfold f_X11_commonDivisor at hf
  refine r_iload_n (pc := 0) S0 0 dX11_commonDivisor_0 rfl rfl ?_
  refine r_istore_n (pc := 1) (lv' := [(2, iv a0), (0, iv a0), (1, iv a1)]) S0 dX11_commonDivisor_1 rfl (by decide) rfl ?_
  refine r_iload_n (pc := 2) S0 2 dX11_commonDivisor_2 rfl rfl ?_
  refine r_istore_n (pc := 3) (lv' := [(3, iv a1), (2, iv a0), (0, iv a0), (1, iv a1)]) S0 dX11_commonDivisor_3 rfl (by decide) rfl ?_
  refine r_iconst (pc := 4) S0 dX11_commonDivisor_4 ?_
  refine r_istore (pc := 5) (lv' := [(4, iv 0), (3, iv a1), (2, iv a0), (0, iv a0), (1, iv a1)]) S0 dX11_commonDivisor_5 (by decide) rfl ?_
  refine r_lv [2, 1, 0] rfl ?_
  refine it_ind (P := fun s2 => cn s2.1 → cn s2.2.1 → cn s2.2.2 → G p l e0 (rmx 1 60) s m args below meth c 0 0 Q cA D N 6 ad T A nx 7 [(2, iv s2.1), (3, iv s2.2.1), (4, iv s2.2.2)] [] I) (fun n0 s2 ih1 hf c3 c4 c5 => ?_) FU (a0, a1, 0) hf ca0 ca1 (cnz 0 rfl)
  refine r_iload (pc := 7) S0 2 dX11_commonDivisor_7 rfl ?_
  refine r_bipush (pc := 9) S0 dX11_commonDivisor_9 (by decide) ?_
  refine r_icmp_ge (pc := 11) (tgt := 34) S0 dX11_commonDivisor_11 (by decide) c5 (cnz 64 rfl) hf (fun hf => ?_) (fun hf => ?_)
  · refine r_iload_n (pc := 34) S0 0 dX11_commonDivisor_34 rfl rfl ?_
    have hz := ok_some hf
    have hz : s2.1 = e := hz
    subst hQ
    subst hz
    exact r_iret (pc := 35) S0 hr hlk c3 dX11_commonDivisor_35
  · refine r_iload_n (pc := 14) S0 1 dX11_commonDivisor_14 rfl rfl ?_
    refine r_if_eq (pc := 15) (tgt := 34) S0 dX11_commonDivisor_15 (by decide) c4 hf (fun hf => ?_) (fun hf => ?_)
    · refine r_iload_n (pc := 34) S0 0 dX11_commonDivisor_34 rfl rfl ?_
      have hz := ok_some hf
      have hz : s2.1 = e := hz
      subst hQ
      subst hz
      exact r_iret (pc := 35) S0 hr hlk c3 dX11_commonDivisor_35
    · refine r_iload_n (pc := 18) S0 0 dX11_commonDivisor_18 rfl rfl ?_
      refine r_iload_n (pc := 19) S0 1 dX11_commonDivisor_19 rfl rfl ?_
      refine r_irem (pc := 20) S0 dX11_commonDivisor_20 c4 hf (fun hf => ?_)
      refine r_istore (pc := 21) (lv' := [(5, iv (irm s2.1 s2.2.1)), (2, iv s2.1), (3, iv s2.2.1), (4, iv s2.2.2)]) S0 dX11_commonDivisor_21 (by decide) rfl ?_
      refine r_iload_n (pc := 23) S0 2 dX11_commonDivisor_23 rfl rfl ?_
      refine r_istore_n (pc := 24) (lv' := [(2, iv s2.2.1), (5, iv (irm s2.1 s2.2.1)), (3, iv s2.2.1), (4, iv s2.2.2)]) S0 dX11_commonDivisor_24 rfl (by decide) rfl ?_
      refine r_iload (pc := 25) S0 1 dX11_commonDivisor_25 rfl ?_
      refine r_istore_n (pc := 27) (lv' := [(3, iv (irm s2.1 s2.2.1)), (2, iv s2.2.1), (5, iv (irm s2.1 s2.2.1)), (4, iv s2.2.2)]) S0 dX11_commonDivisor_27 rfl (by decide) rfl ?_
      refine r_iinc (pc := 28) (lv' := [(4, iv (ia s2.2.2 1)), (3, iv (irm s2.1 s2.2.1)), (2, iv s2.2.1), (5, iv (irm s2.1 s2.2.1))]) S0 3 dX11_commonDivisor_28 rfl (by decide) rfl ?_
      refine r_goto (pc := 31) (tgt := 7) S0 dX11_commonDivisor_31 (by decide) ?_
      have hz := ok_some hf
      refine r_lv [2, 1, 0] rfl ?_
      exact ih1 (s2.2.1, irm s2.1 s2.2.1, ia s2.2.2 1) hz c4 (cn_toInt _) (cn_wrap _)

set_option maxHeartbeats 4000000 in
set_option maxRecDepth 100000 in
theorem c_X11_worth (l : Launch) (cA : Nat → ClassId) (D : va_G) (N : Nat) (sx : Sx) (ad : Nat → Nat) (T : Knd) (A : Rfs) (nx : Nat) (I : Mem) (w0 : Nat) (a1 : Int) (a2 : Int) (a3 : Int) (ca1 : cn a1) (ca2 : cn a2) (ca3 : cn a3) (e : (Int × Mem)) (h : f_X11_worth T A w0 a1 a2 a3 I = some e) : CtI l yX11_worth cX11_worth 8 (some .int) 19 562 cA D N sx ad T A nx [rv ad w0, iv a1, iv a2, iv a3] I e.2 e.1 := by
  refine met_of (lv0 := [(0, rv ad w0), (1, iv a1), (2, iv a2), (3, iv a3)]) (by decide) (Nat.le_of_ble_eq_true rfl) rfl (fun p e0 s m args below meth c S0 hK hX hr hlk Q hQ => ?_)
  have hf : OK (f_X11_worth T A w0 a1 a2 a3 I) (fun z => z = e) := ⟨e, h, rfl⟩
  unfold f_X11_worth at hf
  obtain ⟨hw0, hf⟩ := ok_grd hf
  refine r_aload_n (pc := 0) S0 0 dX11_worth_0 rfl rfl ?_
  refine r_getR (pc := 1) S0 hK fl_X11_28 dX11_worth_1 hf (fun x1 hf => ?_)
  obtain ⟨e2, h3, hf⟩ := ok_bind hf
  refine r_cV_I (pc := 4) [] S0 hK hX mv_X11_170 (k_X2_isThere h3) (c_X2_isThere l cA D N sx ad T A nx I x1 e2 h3) rfl rfl ⟨by decide, by decide⟩ (Nat.le_of_ble_eq_true rfl) ⟨Nat.le_refl _, Nat.le_refl _⟩ dX11_worth_4 (fun c4 => ?_)
  refine r_if_eq (pc := 7) (tgt := 35) S0 dX11_worth_7 (by decide) c4 hf (fun hf => ?_) (fun hf => ?_)
  · refine r_bipush (pc := 35) S0 dX11_worth_35 (by decide) ?_
    have hz := ok_some hf
    have hz : ((-2), I) = e := hz
    subst hQ
    subst hz
    exact r_iret (pc := 37) S0 hr hlk (cnz (-2) rfl) dX11_worth_37
  · refine r_iload_n (pc := 10) S0 1 dX11_worth_10 rfl rfl ?_
    obtain ⟨e5, h6, hf⟩ := ok_bind hf
    refine r_cS_I (pc := 11) [iv a1] S0 hK hX ms_X11_339 (c_X11_isSeed l cA D N sx ad T A nx I a1 ca1 e5 h6) rfl rfl ⟨by decide, by decide⟩ (Nat.le_of_ble_eq_true rfl) ⟨Nat.le_refl _, Nat.le_refl _⟩ dX11_worth_11 (fun c7 => ?_)
    refine r_if_eq (pc := 14) (tgt := 35) S0 dX11_worth_14 (by decide) c7 hf (fun hf => ?_) (fun hf => ?_)
    · refine r_bipush (pc := 35) S0 dX11_worth_35 (by decide) ?_
      have hz := ok_some hf
      have hz : ((-2), I) = e := hz
      subst hQ
      subst hz
      exact r_iret (pc := 37) S0 hr hlk (cnz (-2) rfl) dX11_worth_37
    · refine r_iload_n (pc := 17) S0 2 dX11_worth_17 rfl rfl ?_
      refine r_iconst (pc := 18) S0 dX11_worth_18 ?_
      refine r_icmp_lt (pc := 19) (tgt := 35) S0 dX11_worth_19 (by decide) ca2 (cnz 1 rfl) hf (fun hf => ?_) (fun hf => ?_)
      · refine r_bipush (pc := 35) S0 dX11_worth_35 (by decide) ?_
        have hz := ok_some hf
        have hz : ((-2), I) = e := hz
        subst hQ
        subst hz
        exact r_iret (pc := 37) S0 hr hlk (cnz (-2) rfl) dX11_worth_37
      · refine r_iload_n (pc := 22) S0 2 dX11_worth_22 rfl rfl ?_
        refine r_bipush (pc := 23) S0 dX11_worth_23 (by decide) ?_
        refine r_icmp_gt (pc := 25) (tgt := 35) S0 dX11_worth_25 (by decide) ca2 (cnz 20 rfl) hf (fun hf => ?_) (fun hf => ?_)
        · refine r_bipush (pc := 35) S0 dX11_worth_35 (by decide) ?_
          have hz := ok_some hf
          have hz : ((-2), I) = e := hz
          subst hQ
          subst hz
          exact r_iret (pc := 37) S0 hr hlk (cnz (-2) rfl) dX11_worth_37
        · refine r_iload_n (pc := 28) S0 3 dX11_worth_28 rfl rfl ?_
          obtain ⟨e8, h9, hf⟩ := ok_bind hf
          refine r_cS_I (pc := 29) [iv a3] S0 hK hX ms_X11_141 (c_X11_isBit l cA D N sx ad T A nx I a3 ca3 e8 h9) rfl rfl ⟨by decide, by decide⟩ (Nat.le_of_ble_eq_true rfl) ⟨Nat.le_refl _, Nat.le_refl _⟩ dX11_worth_29 (fun c10 => ?_)
          refine r_if_ne (pc := 32) (tgt := 38) S0 dX11_worth_32 (by decide) c10 hf (fun hf => ?_) (fun hf => ?_)
          · refine r_aload_n (pc := 38) S0 0 dX11_worth_38 rfl rfl ?_
            obtain ⟨e11, h12, hf⟩ := ok_bind hf
            refine r_cV_R (pc := 39) [] S0 hK hX mv_X11_233 (k_X11_soonRows h12) (c_X11_soonRows l cA D N sx ad T A nx I w0 e11 h12) rfl rfl ⟨by decide, by decide⟩ (Nat.le_of_ble_eq_true rfl) ⟨Nat.le_refl _, Nat.le_refl _⟩ dX11_worth_39 ?_
            refine r_iconst (pc := 42) S0 dX11_worth_42 ?_
            obtain ⟨e13, h14, hf⟩ := ok_bind hf
            refine r_cV_I (pc := 43) [iv 0] S0 hK hX mv_X11_237 (k_X5_best h14) (c_X5_best l cA D N sx ad T A nx e11.2 e11.1 0 (cnz 0 rfl) e13 h14) rfl rfl ⟨by decide, by decide⟩ (Nat.le_of_ble_eq_true rfl) ⟨Nat.le_refl _, Nat.le_refl _⟩ dX11_worth_43 (fun c15 => ?_)
            refine r_istore (pc := 46) (lv' := [(4, iv e13), (0, rv ad w0), (1, iv a1), (2, iv a2), (3, iv a3)]) S0 dX11_worth_46 (by decide) rfl ?_
            refine r_iconst (pc := 48) S0 dX11_worth_48 ?_
            refine r_istore (pc := 49) (lv' := [(5, iv 0), (4, iv e13), (0, rv ad w0), (1, iv a1), (2, iv a2), (3, iv a3)]) S0 dX11_worth_49 (by decide) rfl ?_
            refine r_iconst (pc := 51) S0 dX11_worth_51 ?_
            refine r_istore (pc := 52) (lv' := [(6, iv 0), (5, iv 0), (4, iv e13), (0, rv ad w0), (1, iv a1), (2, iv a2), (3, iv a3)]) S0 dX11_worth_52 (by decide) rfl ?_
            refine r_iconst (pc := 54) S0 dX11_worth_54 ?_
            refine r_istore (pc := 55) (lv' := [(7, iv 0), (6, iv 0), (5, iv 0), (4, iv e13), (0, rv ad w0), (1, iv a1), (2, iv a2), (3, iv a3)]) S0 dX11_worth_55 (by decide) rfl ?_
            refine thn_rule (P := fun v17 => cn v17.1 → cn v17.2.1 → G p l e0 (rmx 19 562) s m args below meth c 0 0 Q cA D N 8 ad T A nx 113 [(3, iv a3), (5, iv v17.1), (6, iv v17.2.1)] [] v17.2.2) hf (fun v17 hf c18 c19 => ?_) (fun K16 hf => ?_)
            · refine r_iload (pc := 113) S0 2 dX11_worth_113 rfl ?_
              refine r_if_ne (pc := 115) (tgt := 120) S0 dX11_worth_115 (by decide) c19 hf (fun hf => ?_) (fun hf => ?_)
              · refine r_iload (pc := 120) S0 1 dX11_worth_120 rfl ?_
                refine r_iload (pc := 122) S0 2 dX11_worth_122 rfl ?_
                obtain ⟨e35, h36, hf⟩ := ok_bind hf
                refine r_cS_I (pc := 124) [iv v17.1, iv v17.2.1] S0 hK hX ms_X11_350 (c_X11_commonDivisor l cA D N sx ad T A nx v17.2.2 v17.1 v17.2.1 c18 c19 e35 h36) rfl rfl ⟨by decide, by decide⟩ (Nat.le_of_ble_eq_true rfl) ⟨Nat.le_refl _, Nat.le_refl _⟩ dX11_worth_124 (fun c37 => ?_)
                refine r_istore (pc := 127) (lv' := [(7, iv e35), (3, iv a3), (5, iv v17.1), (6, iv v17.2.1)]) S0 dX11_worth_127 (by decide) rfl ?_
                refine r_iload (pc := 129) S0 0 dX11_worth_129 rfl ?_
                refine r_if_ne (pc := 131) (tgt := 136) S0 dX11_worth_131 (by decide) c37 hf (fun hf => ?_) (fun hf => ?_)
                · refine r_iload_n (pc := 136) S0 1 dX11_worth_136 rfl rfl ?_
                  refine r_if_ne (pc := 137) (tgt := 148) S0 dX11_worth_137 (by decide) ca3 hf (fun hf => ?_) (fun hf => ?_)
                  · refine r_iload (pc := 148) S0 3 dX11_worth_148 rfl ?_
                    refine r_iload (pc := 150) S0 0 dX11_worth_150 rfl ?_
                    refine r_idiv (pc := 152) S0 dX11_worth_152 c37 hf (fun hf => ?_)
                    have hz := ok_some hf
                    have hz : (idv v17.2.1 e35, v17.2.2) = e := hz
                    subst hQ
                    subst hz
                    exact r_iret (pc := 153) S0 hr hlk (cn_toInt _) dX11_worth_153
                  · refine r_iload (pc := 140) S0 2 dX11_worth_140 rfl ?_
                    refine r_iload (pc := 142) S0 0 dX11_worth_142 rfl ?_
                    refine r_idiv (pc := 144) S0 dX11_worth_144 c37 hf (fun hf => ?_)
                    refine r_goto (pc := 145) (tgt := 153) S0 dX11_worth_145 (by decide) ?_
                    have hz := ok_some hf
                    have hz : (idv v17.1 e35, v17.2.2) = e := hz
                    subst hQ
                    subst hz
                    exact r_iret (pc := 153) S0 hr hlk (cn_toInt _) dX11_worth_153
                · refine r_iconst (pc := 134) S0 dX11_worth_134 ?_
                  have hz := ok_some hf
                  have hz : ((-1), v17.2.2) = e := hz
                  subst hQ
                  subst hz
                  exact r_iret (pc := 135) S0 hr hlk (cnz (-1) rfl) dX11_worth_135
              · refine r_iconst (pc := 118) S0 dX11_worth_118 ?_
                have hz := ok_some hf
                have hz : ((-1), v17.2.2) = e := hz
                subst hQ
                subst hz
                exact r_iret (pc := 119) S0 hr hlk (cnz (-1) rfl) dX11_worth_119
            · refine r_lv [4, 5, 6, 7, 3, 2, 1, 0] rfl ?_
              refine it_ind (P := fun s21 => cn s21.1 → cn s21.2.1 → cn s21.2.2.1 → G p l e0 (rmx 19 562) s m args below meth c 0 0 Q cA D N 8 ad T A nx 57 [(0, rv ad w0), (1, iv a1), (2, iv a2), (3, iv a3), (4, iv e13), (5, iv s21.1), (6, iv s21.2.1), (7, iv s21.2.2.1)] [] s21.2.2.2) (fun n0 s21 ih20 hf c22 c23 c24 => ?_) FU (0, 0, 0, e11.2) hf (cnz 0 rfl) (cnz 0 rfl) (cnz 0 rfl)
              refine r_iload (pc := 57) S0 7 dX11_worth_57 rfl ?_
              refine r_iload_n (pc := 59) S0 2 dX11_worth_59 rfl rfl ?_
              refine r_icmp_ge (pc := 60) (tgt := 113) S0 dX11_worth_60 (by decide) c24 ca2 hf (fun hf => ?_) (fun hf => ?_)
              · have hz := ok_some hf
                refine r_lv [3, 5, 6] rfl ?_
                exact K16 (s21.1, s21.2.1, s21.2.2.2) hz c22 c23
              · refine r_aload_n (pc := 63) S0 0 dX11_worth_63 rfl rfl ?_
                refine r_getR (pc := 64) S0 hK fl_X11_97 dX11_worth_64 hf (fun x25 hf => ?_)
                refine r_aload_n (pc := 67) S0 0 dX11_worth_67 rfl rfl ?_
                refine r_getR (pc := 68) S0 hK fl_X11_44 dX11_worth_68 hf (fun x26 hf => ?_)
                refine r_iload_n (pc := 71) S0 1 dX11_worth_71 rfl rfl ?_
                refine r_iload (pc := 72) S0 7 dX11_worth_72 rfl ?_
                refine r_iadd (pc := 74) S0 dX11_worth_74 ?_
                obtain ⟨e27, h28, hf⟩ := ok_bind hf
                refine r_cV_V (pc := 75) [rv ad x26, iv (ia a1 s21.2.2.1)] S0 hK hX mv_X11_342 (k_X0_goFrom h28) (c_X0_goFrom l cA D N sx ad T A nx s21.2.2.2 x25 x26 (ia a1 s21.2.2.1) (cn_wrap _) e27 h28) rfl rfl ⟨by decide, by decide⟩ (Nat.le_of_ble_eq_true rfl) ⟨Nat.le_refl _, Nat.le_refl _⟩ dX11_worth_75 ?_
                refine r_aload_n (pc := 78) S0 0 dX11_worth_78 rfl rfl ?_
                refine r_getR (pc := 79) S0 hK fl_X11_97 dX11_worth_79 hf (fun x29 hf => ?_)
                refine r_getI (pc := 82) S0 hK fl_X11_346 dX11_worth_82 hf (fun x30 c31 hf => ?_)
                refine r_iconst (pc := 85) S0 dX11_worth_85 ?_
                refine r_icmp_eq (pc := 86) (tgt := 107) S0 dX11_worth_86 (by decide) c31 (cnz (-1) rfl) hf (fun hf => ?_) (fun hf => ?_)
                · refine r_iinc (pc := 107) (lv' := [(7, iv (ia s21.2.2.1 1)), (0, rv ad w0), (1, iv a1), (2, iv a2), (3, iv a3), (4, iv e13), (5, iv s21.1), (6, iv s21.2.1)]) S0 7 dX11_worth_107 rfl (by decide) rfl ?_
                  refine r_goto (pc := 110) (tgt := 57) S0 dX11_worth_110 (by decide) ?_
                  have hz := ok_some hf
                  refine r_lv [1, 2, 3, 4, 5, 6, 7, 0] rfl ?_
                  exact ih20 (s21.1, s21.2.1, ia s21.2.2.1 1, e27) hz c22 c23 (cn_wrap _)
                · refine r_iinc (pc := 89) (lv' := [(6, iv (ia s21.2.1 1)), (0, rv ad w0), (1, iv a1), (2, iv a2), (3, iv a3), (4, iv e13), (5, iv s21.1), (7, iv s21.2.2.1)]) S0 6 dX11_worth_89 rfl (by decide) rfl ?_
                  refine r_iload (pc := 92) S0 6 dX11_worth_92 rfl ?_
                  refine r_aload_n (pc := 94) S0 1 dX11_worth_94 rfl rfl ?_
                  refine r_getR (pc := 95) S0 hK fl_X11_97 dX11_worth_95 hf (fun x32 hf => ?_)
                  refine r_getI (pc := 98) S0 hK fl_X11_346 dX11_worth_98 hf (fun x33 c34 hf => ?_)
                  refine r_iload (pc := 101) S0 5 dX11_worth_101 rfl ?_
                  refine r_isub (pc := 103) S0 dX11_worth_103 ?_
                  refine r_iadd (pc := 104) S0 dX11_worth_104 ?_
                  refine r_istore (pc := 105) (lv' := [(5, iv (ia s21.1 (isb x33 e13))), (6, iv (ia s21.2.1 1)), (0, rv ad w0), (1, iv a1), (2, iv a2), (3, iv a3), (4, iv e13), (7, iv s21.2.2.1)]) S0 dX11_worth_105 (by decide) rfl ?_
                  refine r_iinc (pc := 107) (lv' := [(7, iv (ia s21.2.2.1 1)), (5, iv (ia s21.1 (isb x33 e13))), (6, iv (ia s21.2.1 1)), (0, rv ad w0), (1, iv a1), (2, iv a2), (3, iv a3), (4, iv e13)]) S0 7 dX11_worth_107 rfl (by decide) rfl ?_
                  refine r_goto (pc := 110) (tgt := 57) S0 dX11_worth_110 (by decide) ?_
                  have hz := ok_some hf
                  refine r_lv [3, 4, 5, 6, 7, 1, 2, 0] rfl ?_
                  exact ih20 (ia s21.1 (isb x33 e13), ia s21.2.1 1, ia s21.2.2.1 1, e27) hz (cn_wrap _) (cn_wrap _) (cn_wrap _)
          · refine r_bipush (pc := 35) S0 dX11_worth_35 (by decide) ?_
            have hz := ok_some hf
            have hz : ((-2), I) = e := hz
            subst hQ
            subst hz
            exact r_iret (pc := 37) S0 hr hlk (cnz (-2) rfl) dX11_worth_37

set_option maxHeartbeats 4000000 in
set_option maxRecDepth 100000 in
theorem c_X11_forgetAll (l : Launch) (cA : Nat → ClassId) (D : va_G) (N : Nat) (sx : Sx) (ad : Nat → Nat) (T : Knd) (A : Rfs) (nx : Nat) (I : Mem) (w0 : Nat)  (e : Mem) (h : f_X11_forgetAll T A w0 I = some e) : CtV l yX11_forgetAll cX11_forgetAll 1 none 2 80 cA D N sx ad T A nx [rv ad w0] I e := by
  refine met_of (lv0 := [(0, rv ad w0)]) (by decide) (Nat.le_of_ble_eq_true rfl) rfl (fun p e0 s m args below meth c S0 hK hX hr hlk Q hQ => ?_)
  have hf : OK (f_X11_forgetAll T A w0 I) (fun z => z = e) := ⟨e, h, rfl⟩
  unfold f_X11_forgetAll at hf
  obtain ⟨hw0, hf⟩ := ok_grd hf
  refine r_aload_n (pc := 0) S0 0 dX11_forgetAll_0 rfl rfl ?_
  refine r_iconst (pc := 1) S0 dX11_forgetAll_1 ?_
  refine r_putZ (pc := 2) S0 hK fl_X11_264 rfl rfl dX11_forgetAll_2 hf (fun I1 hf => ?_)
  refine r_aload_n (pc := 5) S0 0 dX11_forgetAll_5 rfl rfl ?_
  obtain ⟨e2, h3, hf⟩ := ok_bind hf
  refine r_cV_V (pc := 6) [] S0 hK hX mv_X11_211 (k_X11_forgetRows h3) (c_X11_forgetRows l cA D N sx ad T A nx I1 w0 e2 h3) rfl rfl ⟨by decide, by decide⟩ (Nat.le_of_ble_eq_true rfl) ⟨Nat.le_refl _, Nat.le_refl _⟩ dX11_forgetAll_6 ?_
  have hz := ok_some hf
  have hz : e2 = e := hz
  subst hQ
  subst hz
  exact r_vret (pc := 9) S0 hr hlk dX11_forgetAll_9

set_option maxHeartbeats 4000000 in
set_option maxRecDepth 100000 in
theorem c_X11_ask (l : Launch) (cA : Nat → ClassId) (D : va_G) (N : Nat) (sx : Sx) (ad : Nat → Nat) (T : Knd) (A : Rfs) (nx : Nat) (I : Mem) (w0 : Nat) (a1 : Int) (a2 : Int) (a3 : Int) (a4 : Int) (ca1 : cn a1) (ca2 : cn a2) (ca3 : cn a3) (ca4 : cn a4) (e : (Int × Mem)) (h : f_X11_ask T A w0 a1 a2 a3 a4 I = some e) : CtI l yX11_ask cX11_ask 7 (some .int) 3 100 cA D N sx ad T A nx [rv ad w0, iv a1, iv a2, iv a3, iv a4] I e.2 e.1 := by
  refine met_of (lv0 := [(0, rv ad w0), (1, iv a1), (2, iv a2), (3, iv a3), (4, iv a4)]) (by decide) (Nat.le_of_ble_eq_true rfl) rfl (fun p e0 s m args below meth c S0 hK hX hr hlk Q hQ => ?_)
  have hf : OK (f_X11_ask T A w0 a1 a2 a3 a4 I) (fun z => z = e) := ⟨e, h, rfl⟩
  unfold f_X11_ask at hf
  obtain ⟨hw0, hf⟩ := ok_grd hf
  refine r_aload_n (pc := 0) S0 0 dX11_ask_0 rfl rfl ?_
  refine r_getR (pc := 1) S0 hK fl_X11_28 dX11_ask_1 hf (fun x1 hf => ?_)
  refine r_iload_n (pc := 4) S0 1 dX11_ask_4 rfl rfl ?_
  obtain ⟨e2, h3, hf⟩ := ok_bind hf
  refine r_cV_I (pc := 5) [iv a1] S0 hK hX mv_X11_133 (k_X2_hasOfficial h3) (c_X2_hasOfficial l cA D N sx ad T A nx I x1 a1 ca1 e2 h3) rfl rfl ⟨by decide, by decide⟩ (Nat.le_of_ble_eq_true rfl) ⟨Nat.le_refl _, Nat.le_refl _⟩ dX11_ask_5 (fun c4 => ?_)
  refine r_if_eq (pc := 8) (tgt := 27) S0 dX11_ask_8 (by decide) c4 hf (fun hf => ?_) (fun hf => ?_)
  · refine r_bipush (pc := 27) S0 dX11_ask_27 (by decide) ?_
    have hz := ok_some hf
    have hz : ((-2), I) = e := hz
    subst hQ
    subst hz
    exact r_iret (pc := 29) S0 hr hlk (cnz (-2) rfl) dX11_ask_29
  · refine r_aload_n (pc := 11) S0 0 dX11_ask_11 rfl rfl ?_
    refine r_getR (pc := 12) S0 hK fl_X11_28 dX11_ask_12 hf (fun x5 hf => ?_)
    refine r_iload_n (pc := 15) S0 2 dX11_ask_15 rfl rfl ?_
    obtain ⟨e6, h7, hf⟩ := ok_bind hf
    refine r_cV_I (pc := 16) [iv a2] S0 hK hX mv_X11_133 (k_X2_hasOfficial h7) (c_X2_hasOfficial l cA D N sx ad T A nx I x5 a2 ca2 e6 h7) rfl rfl ⟨by decide, by decide⟩ (Nat.le_of_ble_eq_true rfl) ⟨Nat.le_refl _, Nat.le_refl _⟩ dX11_ask_16 (fun c8 => ?_)
    refine r_if_eq (pc := 19) (tgt := 27) S0 dX11_ask_19 (by decide) c8 hf (fun hf => ?_) (fun hf => ?_)
    · refine r_bipush (pc := 27) S0 dX11_ask_27 (by decide) ?_
      have hz := ok_some hf
      have hz : ((-2), I) = e := hz
      subst hQ
      subst hz
      exact r_iret (pc := 29) S0 hr hlk (cnz (-2) rfl) dX11_ask_29
    · refine r_iload_n (pc := 22) S0 1 dX11_ask_22 rfl rfl ?_
      refine r_iload_n (pc := 23) S0 2 dX11_ask_23 rfl rfl ?_
      refine r_icmp_ne (pc := 24) (tgt := 30) S0 dX11_ask_24 (by decide) ca1 ca2 hf (fun hf => ?_) (fun hf => ?_)
      · refine r_iload_n (pc := 30) S0 3 dX11_ask_30 rfl rfl ?_
        obtain ⟨e9, h10, hf⟩ := ok_bind hf
        refine r_cS_I (pc := 31) [iv a3] S0 hK hX ms_X11_141 (c_X11_isBit l cA D N sx ad T A nx I a3 ca3 e9 h10) rfl rfl ⟨by decide, by decide⟩ (Nat.le_of_ble_eq_true rfl) ⟨Nat.le_refl _, Nat.le_refl _⟩ dX11_ask_31 (fun c11 => ?_)
        refine r_if_eq (pc := 34) (tgt := 45) S0 dX11_ask_34 (by decide) c11 hf (fun hf => ?_) (fun hf => ?_)
        · refine r_bipush (pc := 45) S0 dX11_ask_45 (by decide) ?_
          have hz := ok_some hf
          have hz : ((-2), I) = e := hz
          subst hQ
          subst hz
          exact r_iret (pc := 47) S0 hr hlk (cnz (-2) rfl) dX11_ask_47
        · refine r_iload (pc := 37) S0 4 dX11_ask_37 rfl ?_
          obtain ⟨e12, h13, hf⟩ := ok_bind hf
          refine r_cS_I (pc := 39) [iv a4] S0 hK hX ms_X11_141 (c_X11_isBit l cA D N sx ad T A nx I a4 ca4 e12 h13) rfl rfl ⟨by decide, by decide⟩ (Nat.le_of_ble_eq_true rfl) ⟨Nat.le_refl _, Nat.le_refl _⟩ dX11_ask_39 (fun c14 => ?_)
          refine r_if_ne (pc := 42) (tgt := 48) S0 dX11_ask_42 (by decide) c14 hf (fun hf => ?_) (fun hf => ?_)
          · refine r_aload_n (pc := 48) S0 0 dX11_ask_48 rfl rfl ?_
            refine r_getR (pc := 49) S0 hK fl_X11_28 dX11_ask_49 hf (fun x15 hf => ?_)
            refine r_getI (pc := 52) S0 hK fl_X11_214 dX11_ask_52 hf (fun x16 c17 hf => ?_)
            refine r_if_le (pc := 55) (tgt := 61) S0 dX11_ask_55 (by decide) c17 hf (fun hf => ?_) (fun hf => ?_)
            · refine r_aload_n (pc := 61) S0 0 dX11_ask_61 rfl rfl ?_
              refine r_getR (pc := 62) S0 hK fl_X11_28 dX11_ask_62 hf (fun x18 hf => ?_)
              refine r_getR (pc := 65) S0 hK fl_X11_137 dX11_ask_65 hf (fun x19 hf => ?_)
              refine r_bipush (pc := 68) S0 dX11_ask_68 (by decide) ?_
              refine r_iload_n (pc := 70) S0 3 dX11_ask_70 rfl rfl ?_
              refine r_iadd (pc := 71) S0 dX11_ask_71 ?_
              refine r_aald 24 4 (pc := 72) S0 hK (by decide) rfl rfl dX11_ask_72 (cn_wrap _) hf (fun x20 hf => ?_)
              refine r_astore (pc := 73) (lv' := [(5, rv ad x20), (0, rv ad w0), (1, iv a1), (2, iv a2), (3, iv a3), (4, iv a4)]) S0 dX11_ask_73 (by decide) rfl ?_
              refine r_aload (pc := 75) S0 0 dX11_ask_75 rfl ?_
              refine r_iload_n (pc := 77) S0 2 dX11_ask_77 rfl rfl ?_
              refine r_iald (pc := 78) S0 hK dX11_ask_78 ca1 hf (fun x21 c22 hf => ?_)
              refine r_iload_n (pc := 79) S0 3 dX11_ask_79 rfl rfl ?_
              refine r_ishr (pc := 80) S0 dX11_ask_80 ?_
              refine r_iconst (pc := 81) S0 dX11_ask_81 ?_
              refine r_iand (pc := 82) S0 dX11_ask_82 ?_
              refine r_istore (pc := 83) (lv' := [(6, iv (iand (ishr x21 a2) 1)), (5, rv ad x20), (0, rv ad w0), (1, iv a1), (2, iv a2), (3, iv a3), (4, iv a4)]) S0 dX11_ask_83 (by decide) rfl ?_
              refine r_iload (pc := 85) S0 0 dX11_ask_85 rfl ?_
              refine r_iload (pc := 87) S0 6 dX11_ask_87 rfl ?_
              refine thn_rule (P := fun v24 => G p l e0 (rmx 3 100) s m args below meth c 0 0 Q cA D N 7 ad T A nx 102 [(0, rv ad w0), (6, iv (iand (ishr x21 a2) 1))] [] v24) hf (fun v24 hf => ?_) (fun K23 hf => ?_)
              · refine r_aload_n (pc := 102) S0 0 dX11_ask_102 rfl rfl ?_
                obtain ⟨e28, h29, hf⟩ := ok_bind hf
                refine r_cV_V (pc := 103) [] S0 hK hX mv_X11_353 (k_X11_forgetAll h29) (c_X11_forgetAll l cA D N sx ad T A nx v24 w0 e28 h29) rfl rfl ⟨by decide, by decide⟩ (Nat.le_of_ble_eq_true rfl) ⟨Nat.le_refl _, Nat.le_refl _⟩ dX11_ask_103 ?_
                refine r_iload (pc := 106) S0 1 dX11_ask_106 rfl ?_
                have hz := ok_some hf
                have hz : (iand (ishr x21 a2) 1, e28) = e := hz
                subst hQ
                subst hz
                exact r_iret (pc := 108) S0 hr hlk (cn_toInt _) dX11_ask_108
              · refine r_icmp_eq (pc := 89) (tgt := 102) S0 dX11_ask_89 (by decide) (cn_toInt _) ca4 hf (fun hf => ?_) (fun hf => ?_)
                · have hz := ok_some hf
                  refine r_lv [2, 0] rfl ?_
                  exact K23 I hz
                · refine r_aload (pc := 92) S0 1 dX11_ask_92 rfl ?_
                  refine r_iload_n (pc := 94) S0 3 dX11_ask_94 rfl rfl ?_
                  refine r_dup2 (pc := 95) S0 dX11_ask_95 rfl rfl ?_
                  refine r_iald (pc := 96) S0 hK dX11_ask_96 ca1 hf (fun x25 c26 hf => ?_)
                  refine r_iconst (pc := 97) S0 dX11_ask_97 ?_
                  refine r_iload_n (pc := 98) S0 4 dX11_ask_98 rfl rfl ?_
                  refine r_ishl (pc := 99) S0 dX11_ask_99 ?_
                  refine r_ixor (pc := 100) S0 dX11_ask_100 ?_
                  refine r_iast (pc := 101) S0 hK dX11_ask_101 ca1 (cn_toInt _) hf (fun I27 hf => ?_)
                  have hz := ok_some hf
                  refine r_lv [2, 0] rfl ?_
                  exact K23 I27 hz
            · refine r_bipush (pc := 58) S0 dX11_ask_58 (by decide) ?_
              have hz := ok_some hf
              have hz : ((-5), I) = e := hz
              subst hQ
              subst hz
              exact r_iret (pc := 60) S0 hr hlk (cnz (-5) rfl) dX11_ask_60
          · refine r_bipush (pc := 45) S0 dX11_ask_45 (by decide) ?_
            have hz := ok_some hf
            have hz : ((-2), I) = e := hz
            subst hQ
            subst hz
            exact r_iret (pc := 47) S0 hr hlk (cnz (-2) rfl) dX11_ask_47
      · refine r_bipush (pc := 27) S0 dX11_ask_27 (by decide) ?_
        have hz := ok_some hf
        have hz : ((-2), I) = e := hz
        subst hQ
        subst hz
        exact r_iret (pc := 29) S0 hr hlk (cnz (-2) rfl) dX11_ask_29

set_option maxHeartbeats 4000000 in
set_option maxRecDepth 100000 in
theorem c_X11_leave (l : Launch) (cA : Nat → ClassId) (D : va_G) (N : Nat) (sx : Sx) (ad : Nat → Nat) (T : Knd) (A : Rfs) (nx : Nat) (I : Mem) (w0 : Nat) (a1 : Int) (a2 : Int) (a3 : Int) (ca1 : cn a1) (ca2 : cn a2) (ca3 : cn a3) (e : (Int × Mem)) (h : f_X11_leave T A w0 a1 a2 a3 I = some e) : CtI l yX11_leave cX11_leave 6 (some .int) 6 172 cA D N sx ad T A nx [rv ad w0, iv a1, iv a2, iv a3] I e.2 e.1 := by
  refine met_of (lv0 := [(0, rv ad w0), (1, iv a1), (2, iv a2), (3, iv a3)]) (by decide) (Nat.le_of_ble_eq_true rfl) rfl (fun p e0 s m args below meth c S0 hK hX hr hlk Q hQ => ?_)
  have hf : OK (f_X11_leave T A w0 a1 a2 a3 I) (fun z => z = e) := ⟨e, h, rfl⟩
  unfold f_X11_leave at hf
  obtain ⟨hw0, hf⟩ := ok_grd hf
  refine r_iload_n (pc := 0) S0 2 dX11_leave_0 rfl rfl ?_
  refine r_iconst (pc := 1) S0 dX11_leave_1 ?_
  refine thn_rule (P := fun v2 => cn v2 → G p l e0 (rmx 6 172) s m args below meth c 0 0 Q cA D N 6 ad T A nx 15 [(0, rv ad w0), (1, iv a1), (2, iv a2), (3, iv a3)] [iv v2] I) hf (fun v2 hf c3 => ?_) (fun K1 hf => ?_)
  · refine r_istore (pc := 15) (lv' := [(4, iv v2), (0, rv ad w0), (1, iv a1), (2, iv a2), (3, iv a3)]) S0 dX11_leave_15 (by decide) rfl ?_
    refine r_iload_n (pc := 17) S0 3 dX11_leave_17 rfl rfl ?_
    refine thn_rule (P := fun v7 => cn v7 → G p l e0 (rmx 6 172) s m args below meth c 0 0 Q cA D N 6 ad T A nx 37 [(0, rv ad w0), (1, iv a1), (2, iv a2), (3, iv a3), (4, iv v2)] [iv v7] I) hf (fun v7 hf c8 => ?_) (fun K6 hf => ?_)
    · refine r_istore (pc := 37) (lv' := [(5, iv v7), (0, rv ad w0), (1, iv a1), (2, iv a2), (3, iv a3), (4, iv v2)]) S0 dX11_leave_37 (by decide) rfl ?_
      refine r_aload_n (pc := 39) S0 1 dX11_leave_39 rfl rfl ?_
      refine r_getR (pc := 40) S0 hK fl_X11_28 dX11_leave_40 hf (fun x11 hf => ?_)
      refine r_iload_n (pc := 43) S0 2 dX11_leave_43 rfl rfl ?_
      obtain ⟨e12, h13, hf⟩ := ok_bind hf
      refine r_cV_I (pc := 44) [iv a1] S0 hK hX mv_X11_133 (k_X2_hasOfficial h13) (c_X2_hasOfficial l cA D N sx ad T A nx I x11 a1 ca1 e12 h13) rfl rfl ⟨by decide, by decide⟩ (Nat.le_of_ble_eq_true rfl) ⟨Nat.le_refl _, Nat.le_refl _⟩ dX11_leave_44 (fun c14 => ?_)
      refine r_if_eq (pc := 47) (tgt := 60) S0 dX11_leave_47 (by decide) c14 hf (fun hf => ?_) (fun hf => ?_)
      · refine r_bipush (pc := 60) S0 dX11_leave_60 (by decide) ?_
        have hz := ok_some hf
        have hz : ((-2), I) = e := hz
        subst hQ
        subst hz
        exact r_iret (pc := 62) S0 hr hlk (cnz (-2) rfl) dX11_leave_62
      · refine r_iload (pc := 50) S0 5 dX11_leave_50 rfl ?_
        refine thn_rule (P := fun v16 => G p l e0 (rmx 6 172) s m args below meth c 0 0 Q cA D N 6 ad T A nx 63 [(0, rv ad w0), (1, iv a1), (2, iv a2), (3, iv a3)] [] I) hf (fun v16 hf => ?_) (fun K15 hf => ?_)
        · refine r_aload_n (pc := 63) S0 0 dX11_leave_63 rfl rfl ?_
          refine r_getR (pc := 64) S0 hK fl_X11_28 dX11_leave_64 hf (fun x17 hf => ?_)
          refine r_getI (pc := 67) S0 hK fl_X11_214 dX11_leave_67 hf (fun x18 c19 hf => ?_)
          refine r_if_le (pc := 70) (tgt := 76) S0 dX11_leave_70 (by decide) c19 hf (fun hf => ?_) (fun hf => ?_)
          · refine r_aload_n (pc := 76) S0 0 dX11_leave_76 rfl rfl ?_
            refine r_getR (pc := 77) S0 hK fl_X11_28 dX11_leave_77 hf (fun x20 hf => ?_)
            refine r_getR (pc := 80) S0 hK fl_X11_137 dX11_leave_80 hf (fun x21 hf => ?_)
            refine r_bipush (pc := 83) S0 dX11_leave_83 (by decide) ?_
            refine r_aald 24 4 (pc := 85) S0 hK (by decide) rfl rfl dX11_leave_85 (cnz 7 rfl) hf (fun x22 hf => ?_)
            refine r_iload_n (pc := 86) S0 1 dX11_leave_86 rfl rfl ?_
            refine r_iload_n (pc := 87) S0 2 dX11_leave_87 rfl rfl ?_
            refine r_iast (pc := 88) S0 hK dX11_leave_88 ca1 ca2 hf (fun I23 hf => ?_)
            refine r_aload_n (pc := 89) S0 0 dX11_leave_89 rfl rfl ?_
            refine r_getR (pc := 90) S0 hK fl_X11_28 dX11_leave_90 hf (fun x24 hf => ?_)
            refine r_getR (pc := 93) S0 hK fl_X11_137 dX11_leave_93 hf (fun x25 hf => ?_)
            refine r_bipush (pc := 96) S0 dX11_leave_96 (by decide) ?_
            refine r_aald 24 4 (pc := 98) S0 hK (by decide) rfl rfl dX11_leave_98 (cnz 8 rfl) hf (fun x26 hf => ?_)
            refine r_iload_n (pc := 99) S0 1 dX11_leave_99 rfl rfl ?_
            refine r_iload_n (pc := 100) S0 3 dX11_leave_100 rfl rfl ?_
            refine r_iast (pc := 101) S0 hK dX11_leave_101 ca1 ca3 hf (fun I27 hf => ?_)
            refine r_aload_n (pc := 102) S0 0 dX11_leave_102 rfl rfl ?_
            obtain ⟨e28, h29, hf⟩ := ok_bind hf
            refine r_cV_V (pc := 103) [] S0 hK hX mv_X11_124 (k_X11_planChanged h29) (c_X11_planChanged l cA D N sx ad T A nx I27 w0 e28 h29) rfl rfl ⟨by decide, by decide⟩ (Nat.le_of_ble_eq_true rfl) ⟨Nat.le_refl _, Nat.le_refl _⟩ dX11_leave_103 ?_
            refine r_iconst (pc := 106) S0 dX11_leave_106 ?_
            have hz := ok_some hf
            have hz : (0, e28) = e := hz
            subst hQ
            subst hz
            exact r_iret (pc := 107) S0 hr hlk (cnz 0 rfl) dX11_leave_107
          · refine r_bipush (pc := 73) S0 dX11_leave_73 (by decide) ?_
            have hz := ok_some hf
            have hz : ((-5), I) = e := hz
            subst hQ
            subst hz
            exact r_iret (pc := 75) S0 hr hlk (cnz (-5) rfl) dX11_leave_75
        · refine r_if_ne (pc := 52) (tgt := 63) S0 dX11_leave_52 (by decide) c3 hf (fun hf => ?_) (fun hf => ?_)
          · have hz := ok_some hf
            refine r_lv [1, 2, 3, 4] rfl ?_
            exact K15 () hz
          · refine r_iload (pc := 55) S0 0 dX11_leave_55 rfl ?_
            refine r_if_ne (pc := 57) (tgt := 63) S0 dX11_leave_57 (by decide) c8 hf (fun hf => ?_) (fun hf => ?_)
            · have hz := ok_some hf
              refine r_lv [1, 2, 3, 4] rfl ?_
              exact K15 () hz
            · refine r_bipush (pc := 60) S0 dX11_leave_60 (by decide) ?_
              have hz := ok_some hf
              have hz : ((-2), I) = e := hz
              subst hQ
              subst hz
              exact r_iret (pc := 62) S0 hr hlk (cnz (-2) rfl) dX11_leave_62
    · refine thn_rule (P := fun v10 => G p l e0 (rmx 6 172) s m args below meth c 0 0 Q cA D N 6 ad T A nx 36 [(0, rv ad w0), (1, iv a1), (2, iv a2), (3, iv a3), (4, iv v2)] [] I) hf (fun v10 hf => ?_) (fun K9 hf => ?_)
      · refine r_iconst (pc := 36) S0 dX11_leave_36 ?_
        have hz := ok_some hf
        refine r_lv [0, 1, 2, 3, 4] rfl ?_
        exact K6 0 hz (cnz 0 rfl)
      · refine r_if_lt (pc := 18) (tgt := 36) S0 dX11_leave_18 (by decide) ca2 hf (fun hf => ?_) (fun hf => ?_)
        · have hz := ok_some hf
          refine r_lv [1, 2, 3, 4, 0] rfl ?_
          exact K9 () hz
        · refine r_iload_n (pc := 21) S0 3 dX11_leave_21 rfl rfl ?_
          refine r_iload_n (pc := 22) S0 4 dX11_leave_22 rfl rfl ?_
          refine r_icmp_gt (pc := 23) (tgt := 36) S0 dX11_leave_23 (by decide) ca2 ca3 hf (fun hf => ?_) (fun hf => ?_)
          · have hz := ok_some hf
            refine r_lv [1, 2, 3, 4, 0] rfl ?_
            exact K9 () hz
          · refine r_iload_n (pc := 26) S0 4 dX11_leave_26 rfl rfl ?_
            refine r_bipush (pc := 27) S0 dX11_leave_27 (by decide) ?_
            refine r_icmp_ge (pc := 29) (tgt := 36) S0 dX11_leave_29 (by decide) ca3 (cnz 40 rfl) hf (fun hf => ?_) (fun hf => ?_)
            · have hz := ok_some hf
              refine r_lv [1, 2, 3, 4, 0] rfl ?_
              exact K9 () hz
            · refine r_iconst (pc := 32) S0 dX11_leave_32 ?_
              refine r_goto (pc := 33) (tgt := 37) S0 dX11_leave_33 (by decide) ?_
              have hz := ok_some hf
              refine r_lv [1, 2, 3, 4, 0] rfl ?_
              exact K6 1 hz (cnz 1 rfl)
  · refine thn_rule (P := fun v5 => G p l e0 (rmx 6 172) s m args below meth c 0 0 Q cA D N 6 ad T A nx 14 [(0, rv ad w0), (1, iv a1), (2, iv a2), (3, iv a3)] [] I) hf (fun v5 hf => ?_) (fun K4 hf => ?_)
    · refine r_iconst (pc := 14) S0 dX11_leave_14 ?_
      have hz := ok_some hf
      refine r_lv [0, 1, 2, 3] rfl ?_
      exact K1 0 hz (cnz 0 rfl)
    · refine r_icmp_ne (pc := 2) (tgt := 14) S0 dX11_leave_2 (by decide) ca2 (cnz (-1) rfl) hf (fun hf => ?_) (fun hf => ?_)
      · have hz := ok_some hf
        refine r_lv [0, 1, 2, 3] rfl ?_
        exact K4 () hz
      · refine r_iload_n (pc := 5) S0 3 dX11_leave_5 rfl rfl ?_
        refine r_iconst (pc := 6) S0 dX11_leave_6 ?_
        refine r_icmp_ne (pc := 7) (tgt := 14) S0 dX11_leave_7 (by decide) ca3 (cnz (-1) rfl) hf (fun hf => ?_) (fun hf => ?_)
        · have hz := ok_some hf
          refine r_lv [0, 1, 2, 3] rfl ?_
          exact K4 () hz
        · refine r_iconst (pc := 10) S0 dX11_leave_10 ?_
          refine r_goto (pc := 11) (tgt := 15) S0 dX11_leave_11 (by decide) ?_
          have hz := ok_some hf
          refine r_lv [0, 1, 2, 3] rfl ?_
          exact K1 1 hz (cnz 1 rfl)

set_option maxHeartbeats 4000000 in
set_option maxRecDepth 100000 in
theorem c_X11_wants (l : Launch) (cA : Nat → ClassId) (D : va_G) (N : Nat) (sx : Sx) (ad : Nat → Nat) (T : Knd) (A : Rfs) (nx : Nat) (I : Mem) (w0 : Nat) (a1 : Int) (ca1 : cn a1) (e : (Int × Mem)) (h : f_X11_wants T A w0 a1 I = some e) : CtI l yX11_wants cX11_wants 3 (some .int) 3 101 cA D N sx ad T A nx [rv ad w0, iv a1] I e.2 e.1 := by
  refine met_of (lv0 := [(0, rv ad w0), (1, iv a1)]) (by decide) (Nat.le_of_ble_eq_true rfl) rfl (fun p e0 s m args below meth c S0 hK hX hr hlk Q hQ => ?_)
  have hf : OK (f_X11_wants T A w0 a1 I) (fun z => z = e) := ⟨e, h, rfl⟩
  unfold f_X11_wants at hf
  obtain ⟨hw0, hf⟩ := ok_grd hf
  refine r_aload_n (pc := 0) S0 0 dX11_wants_0 rfl rfl ?_
  refine r_getR (pc := 1) S0 hK fl_X11_28 dX11_wants_1 hf (fun x1 hf => ?_)
  refine r_iload_n (pc := 4) S0 1 dX11_wants_4 rfl rfl ?_
  obtain ⟨e2, h3, hf⟩ := ok_bind hf
  refine r_cV_I (pc := 5) [iv a1] S0 hK hX mv_X11_280 (k_X2_hasSet h3) (c_X2_hasSet l cA D N sx ad T A nx I x1 a1 ca1 e2 h3) rfl rfl ⟨by decide, by decide⟩ (Nat.le_of_ble_eq_true rfl) ⟨Nat.le_refl _, Nat.le_refl _⟩ dX11_wants_5 (fun c4 => ?_)
  refine r_if_ne (pc := 8) (tgt := 14) S0 dX11_wants_8 (by decide) c4 hf (fun hf => ?_) (fun hf => ?_)
  · refine r_aload_n (pc := 14) S0 0 dX11_wants_14 rfl rfl ?_
    refine r_getR (pc := 15) S0 hK fl_X11_28 dX11_wants_15 hf (fun x5 hf => ?_)
    refine r_getI (pc := 18) S0 hK fl_X11_174 dX11_wants_18 hf (fun x6 c7 hf => ?_)
    refine r_istore_n (pc := 21) (lv' := [(2, iv x6), (0, rv ad w0), (1, iv a1)]) S0 dX11_wants_21 rfl (by decide) rfl ?_
    refine r_aload_n (pc := 22) S0 1 dX11_wants_22 rfl rfl ?_
    refine r_getR (pc := 23) S0 hK fl_X11_28 dX11_wants_23 hf (fun x8 hf => ?_)
    refine r_iload_n (pc := 26) S0 2 dX11_wants_26 rfl rfl ?_
    refine r_putI (pc := 27) S0 hK fl_X11_174 rfl rfl ca1 dX11_wants_27 hf (fun I9 hf => ?_)
    refine r_aload_n (pc := 30) S0 1 dX11_wants_30 rfl rfl ?_
    obtain ⟨e10, h11, hf⟩ := ok_bind hf
    refine r_cV_V (pc := 31) [] S0 hK hX mv_X11_353 (k_X11_forgetAll h11) (c_X11_forgetAll l cA D N sx ad T A nx I9 w0 e10 h11) rfl rfl ⟨by decide, by decide⟩ (Nat.le_of_ble_eq_true rfl) ⟨Nat.le_refl _, Nat.le_refl _⟩ dX11_wants_31 ?_
    refine r_iload_n (pc := 34) S0 0 dX11_wants_34 rfl rfl ?_
    have hz := ok_some hf
    have hz : (x6, e10) = e := hz
    subst hQ
    subst hz
    exact r_iret (pc := 35) S0 hr hlk c7 dX11_wants_35
  · refine r_bipush (pc := 11) S0 dX11_wants_11 (by decide) ?_
    have hz := ok_some hf
    have hz : ((-2), I) = e := hz
    subst hQ
    subst hz
    exact r_iret (pc := 13) S0 hr hlk (cnz (-2) rfl) dX11_wants_13

set_option maxHeartbeats 4000000 in
set_option maxRecDepth 100000 in
theorem c_X2_countAsked (l : Launch) (cA : Nat → ClassId) (D : va_G) (N : Nat) (sx : Sx) (ad : Nat → Nat) (T : Knd) (A : Rfs) (nx : Nat) (I : Mem) (w0 : Nat) (a1 : Int) (ca1 : cn a1) (e : Int) (h : f_X2_countAsked T A w0 a1 I = some e) : CtI l yX2_countAsked cX2_countAsked 4 (some .int) 2 80 cA D N sx ad T A nx [rv ad w0, iv a1] I I e := by
  refine met_of (lv0 := [(0, rv ad w0), (1, iv a1)]) (by decide) (Nat.le_of_ble_eq_true rfl) rfl (fun p e0 s m args below meth c S0 hK hX hr hlk Q hQ => ?_)
  have hf : OK (f_X2_countAsked T A w0 a1 I) (fun z => z = e) := ⟨e, h, rfl⟩
  unfold f_X2_countAsked at hf
  obtain ⟨hw0, hf⟩ := ok_grd hf
  refine r_iconst (pc := 0) S0 dX2_countAsked_0 ?_
  refine r_istore_n (pc := 1) (lv' := [(2, iv 0), (0, rv ad w0), (1, iv a1)]) S0 dX2_countAsked_1 rfl (by decide) rfl ?_
  refine r_iconst (pc := 2) S0 dX2_countAsked_2 ?_
  refine r_istore_n (pc := 3) (lv' := [(3, iv 0), (2, iv 0), (0, rv ad w0), (1, iv a1)]) S0 dX2_countAsked_3 rfl (by decide) rfl ?_
  refine r_lv [2, 3, 1, 0] rfl ?_
  refine it_ind (P := fun s2 => cn s2.1 → cn s2.2 → G p l e0 (rmx 2 80) s m args below meth c 0 0 Q cA D N 4 ad T A nx 4 [(0, rv ad w0), (1, iv a1), (2, iv s2.1), (3, iv s2.2)] [] I) (fun n0 s2 ih1 hf c3 c4 => ?_) FU (0, 0) hf (cnz 0 rfl) (cnz 0 rfl)
  refine r_iload_n (pc := 4) S0 3 dX2_countAsked_4 rfl rfl ?_
  refine r_aload_n (pc := 5) S0 0 dX2_countAsked_5 rfl rfl ?_
  refine r_getI (pc := 6) S0 hK fl_X2_36 dX2_countAsked_6 hf (fun x5 c6 hf => ?_)
  refine r_icmp_ge (pc := 9) (tgt := 32) S0 dX2_countAsked_9 (by decide) c4 c6 hf (fun hf => ?_) (fun hf => ?_)
  · refine r_iload_n (pc := 32) S0 2 dX2_countAsked_32 rfl rfl ?_
    have hz := ok_some hf
    have hz : s2.1 = e := hz
    subst hQ
    subst hz
    exact r_iret (pc := 33) S0 hr hlk c3 dX2_countAsked_33
  · refine r_iload_n (pc := 12) S0 2 dX2_countAsked_12 rfl rfl ?_
    refine r_aload_n (pc := 13) S0 0 dX2_countAsked_13 rfl rfl ?_
    refine r_getR (pc := 14) S0 hK fl_X2_17 dX2_countAsked_14 hf (fun x7 hf => ?_)
    refine r_iload_n (pc := 17) S0 1 dX2_countAsked_17 rfl rfl ?_
    refine r_aald 24 4 (pc := 18) S0 hK (by decide) rfl rfl dX2_countAsked_18 ca1 hf (fun x8 hf => ?_)
    refine r_iload_n (pc := 19) S0 3 dX2_countAsked_19 rfl rfl ?_
    refine r_iald (pc := 20) S0 hK dX2_countAsked_20 c4 hf (fun x9 c10 hf => ?_)
    obtain ⟨e11, h12, hf⟩ := ok_bind hf
    refine r_cS_I (pc := 21) [iv x9] S0 hK hX ms_X2_72 (c_J6_bitCount_0f7a4 l cA D N sx ad T A nx I x9 c10 e11 h12) rfl rfl ⟨by decide, by decide⟩ (Nat.le_of_ble_eq_true rfl) ⟨Nat.le_refl _, Nat.le_refl _⟩ dX2_countAsked_21 (fun c13 => ?_)
    refine r_iadd (pc := 24) S0 dX2_countAsked_24 ?_
    refine r_istore_n (pc := 25) (lv' := [(2, iv (ia s2.1 e11)), (0, rv ad w0), (1, iv a1), (3, iv s2.2)]) S0 dX2_countAsked_25 rfl (by decide) rfl ?_
    refine r_iinc (pc := 26) (lv' := [(3, iv (ia s2.2 1)), (2, iv (ia s2.1 e11)), (0, rv ad w0), (1, iv a1)]) S0 3 dX2_countAsked_26 rfl (by decide) rfl ?_
    refine r_goto (pc := 29) (tgt := 4) S0 dX2_countAsked_29 (by decide) ?_
    have hz := ok_some hf
    refine r_lv [2, 3, 1, 0] rfl ?_
    exact ih1 (ia s2.1 e11, ia s2.2 1) hz (cn_wrap _) (cn_wrap _)

set_option maxHeartbeats 4000000 in
set_option maxRecDepth 100000 in
theorem c_X7_howMany (l : Launch) (cA : Nat → ClassId) (D : va_G) (N : Nat) (sx : Sx) (ad : Nat → Nat) (T : Knd) (A : Rfs) (nx : Nat) (I : Mem) (w0 : Nat)  (e : Int) (h : f_X7_howMany T A w0 I = some e) : CtI l yX7_howMany cX7_howMany 3 (some .int) 3 102 cA D N sx ad T A nx [rv ad w0] I I e := by
  refine met_of (lv0 := [(0, rv ad w0)]) (by decide) (Nat.le_of_ble_eq_true rfl) rfl (fun p e0 s m args below meth c S0 hK hX hr hlk Q hQ => ?_)
  have hf : OK (f_X7_howMany T A w0 I) (fun z => z = e) := ⟨e, h, rfl⟩
  unfold f_X7_howMany at hf
  obtain ⟨hw0, hf⟩ := ok_grd hf
  refine r_iconst (pc := 0) S0 dX7_howMany_0 ?_
  refine r_istore_n (pc := 1) (lv' := [(1, iv 0), (0, rv ad w0)]) S0 dX7_howMany_1 rfl (by decide) rfl ?_
  refine r_iconst (pc := 2) S0 dX7_howMany_2 ?_
  refine r_istore_n (pc := 3) (lv' := [(2, iv 0), (1, iv 0), (0, rv ad w0)]) S0 dX7_howMany_3 rfl (by decide) rfl ?_
  refine r_lv [2, 1, 0] rfl ?_
  refine it_ind (P := fun s2 => cn s2.1 → cn s2.2 → G p l e0 (rmx 3 102) s m args below meth c 0 0 Q cA D N 3 ad T A nx 4 [(0, rv ad w0), (1, iv s2.1), (2, iv s2.2)] [] I) (fun n0 s2 ih1 hf c3 c4 => ?_) FU (0, 0) hf (cnz 0 rfl) (cnz 0 rfl)
  refine r_iload_n (pc := 4) S0 2 dX7_howMany_4 rfl rfl ?_
  refine r_iconst (pc := 5) S0 dX7_howMany_5 ?_
  refine r_icmp_ge (pc := 6) (tgt := 26) S0 dX7_howMany_6 (by decide) c4 (cnz 4 rfl) hf (fun hf => ?_) (fun hf => ?_)
  · refine r_iload_n (pc := 26) S0 1 dX7_howMany_26 rfl rfl ?_
    have hz := ok_some hf
    have hz : s2.1 = e := hz
    subst hQ
    subst hz
    exact r_iret (pc := 27) S0 hr hlk c3 dX7_howMany_27
  · refine r_aload_n (pc := 9) S0 0 dX7_howMany_9 rfl rfl ?_
    refine r_iload_n (pc := 10) S0 2 dX7_howMany_10 rfl rfl ?_
    obtain ⟨e5, h6, hf⟩ := ok_bind hf
    refine r_cV_I (pc := 11) [iv s2.2] S0 hK hX mv_X7_33 (k_X7_hasRow h6) (c_X7_hasRow l cA D N sx ad T A nx I w0 s2.2 c4 e5 h6) rfl rfl ⟨by decide, by decide⟩ (Nat.le_of_ble_eq_true rfl) ⟨Nat.le_refl _, Nat.le_refl _⟩ dX7_howMany_11 (fun c7 => ?_)
    refine r_if_eq (pc := 14) (tgt := 20) S0 dX7_howMany_14 (by decide) c7 hf (fun hf => ?_) (fun hf => ?_)
    · refine r_iinc (pc := 20) (lv' := [(2, iv (ia s2.2 1)), (0, rv ad w0), (1, iv s2.1)]) S0 2 dX7_howMany_20 rfl (by decide) rfl ?_
      refine r_goto (pc := 23) (tgt := 4) S0 dX7_howMany_23 (by decide) ?_
      have hz := ok_some hf
      refine r_lv [1, 2, 0] rfl ?_
      exact ih1 (s2.1, ia s2.2 1) hz c3 (cn_wrap _)
    · refine r_iinc (pc := 17) (lv' := [(1, iv (ia s2.1 1)), (0, rv ad w0), (2, iv s2.2)]) S0 1 dX7_howMany_17 rfl (by decide) rfl ?_
      refine r_iinc (pc := 20) (lv' := [(2, iv (ia s2.2 1)), (1, iv (ia s2.1 1)), (0, rv ad w0)]) S0 2 dX7_howMany_20 rfl (by decide) rfl ?_
      refine r_goto (pc := 23) (tgt := 4) S0 dX7_howMany_23 (by decide) ?_
      have hz := ok_some hf
      refine r_lv [2, 1, 0] rfl ?_
      exact ih1 (ia s2.1 1, ia s2.2 1) hz (cn_wrap _) (cn_wrap _)

set_option maxHeartbeats 4000000 in
set_option maxRecDepth 100000 in
theorem c_X11_count (l : Launch) (cA : Nat → ClassId) (D : va_G) (N : Nat) (sx : Sx) (ad : Nat → Nat) (T : Knd) (A : Rfs) (nx : Nat) (I : Mem) (w0 : Nat) (a1 : Int) (ca1 : cn a1) (e : Int) (h : f_X11_count T A w0 a1 I = some e) : CtI l yX11_count cX11_count 2 (some .int) 4 124 cA D N sx ad T A nx [rv ad w0, iv a1] I I e := by
  refine met_of (lv0 := [(0, rv ad w0), (1, iv a1)]) (by decide) (Nat.le_of_ble_eq_true rfl) rfl (fun p e0 s m args below meth c S0 hK hX hr hlk Q hQ => ?_)
  have hf : OK (f_X11_count T A w0 a1 I) (fun z => z = e) := ⟨e, h, rfl⟩
  unfold f_X11_count at hf
  obtain ⟨hw0, hf⟩ := ok_grd hf
  refine r_iload_n (pc := 0) S0 1 dX11_count_0 rfl rfl ?_
  refine r_tsw (pc := 1) 0 52 S0 0 dX11_count_1 ca1 rfl (by decide) rfl (by decide) hf (fun hf => ?_) (fun h4 hf => ?_)
  · refine r_aload_n (pc := 52) S0 0 dX11_count_52 rfl rfl ?_
    refine r_getR (pc := 53) S0 hK fl_X11_28 dX11_count_53 hf (fun x1 hf => ?_)
    refine r_getI (pc := 56) S0 hK fl_X11_144 dX11_count_56 hf (fun x2 c3 hf => ?_)
    have hz := ok_some hf
    have hz : x2 = e := hz
    subst hQ
    subst hz
    exact r_iret (pc := 59) S0 hr hlk c3 dX11_count_59
  refine r_tsw (pc := 1) 1 60 S0 1 dX11_count_1 ca1 rfl (by decide) rfl (by decide) hf (fun hf => ?_) (fun h8 hf => ?_)
  · refine r_aload_n (pc := 60) S0 0 dX11_count_60 rfl rfl ?_
    refine r_getR (pc := 61) S0 hK fl_X11_28 dX11_count_61 hf (fun x5 hf => ?_)
    refine r_getI (pc := 64) S0 hK fl_X11_356 dX11_count_64 hf (fun x6 c7 hf => ?_)
    have hz := ok_some hf
    have hz : x6 = e := hz
    subst hQ
    subst hz
    exact r_iret (pc := 67) S0 hr hlk c7 dX11_count_67
  refine r_tsw (pc := 1) 2 68 S0 2 dX11_count_1 ca1 rfl (by decide) rfl (by decide) hf (fun hf => ?_) (fun h13 hf => ?_)
  · refine r_aload_n (pc := 68) S0 0 dX11_count_68 rfl rfl ?_
    refine r_getR (pc := 69) S0 hK fl_X11_28 dX11_count_69 hf (fun x9 hf => ?_)
    refine r_bipush (pc := 72) S0 dX11_count_72 (by decide) ?_
    obtain ⟨e10, h11, hf⟩ := ok_bind hf
    refine r_cV_I (pc := 74) [iv 9] S0 hK hX mv_X11_359 (k_X2_countAsked h11) (c_X2_countAsked l cA D N sx ad T A nx I x9 9 (cnz 9 rfl) e10 h11) rfl rfl ⟨by decide, by decide⟩ (Nat.le_of_ble_eq_true rfl) ⟨Nat.le_refl _, Nat.le_refl _⟩ dX11_count_74 (fun c12 => ?_)
    have hz := ok_some hf
    have hz : e10 = e := hz
    subst hQ
    subst hz
    exact r_iret (pc := 77) S0 hr hlk c12 dX11_count_77
  refine r_tsw (pc := 1) 3 78 S0 3 dX11_count_1 ca1 rfl (by decide) rfl (by decide) hf (fun hf => ?_) (fun h18 hf => ?_)
  · refine r_aload_n (pc := 78) S0 0 dX11_count_78 rfl rfl ?_
    refine r_getR (pc := 79) S0 hK fl_X11_28 dX11_count_79 hf (fun x14 hf => ?_)
    refine r_bipush (pc := 82) S0 dX11_count_82 (by decide) ?_
    obtain ⟨e15, h16, hf⟩ := ok_bind hf
    refine r_cV_I (pc := 84) [iv 10] S0 hK hX mv_X11_359 (k_X2_countAsked h16) (c_X2_countAsked l cA D N sx ad T A nx I x14 10 (cnz 10 rfl) e15 h16) rfl rfl ⟨by decide, by decide⟩ (Nat.le_of_ble_eq_true rfl) ⟨Nat.le_refl _, Nat.le_refl _⟩ dX11_count_84 (fun c17 => ?_)
    have hz := ok_some hf
    have hz : e15 = e := hz
    subst hQ
    subst hz
    exact r_iret (pc := 87) S0 hr hlk c17 dX11_count_87
  refine r_tsw (pc := 1) 4 88 S0 4 dX11_count_1 ca1 rfl (by decide) rfl (by decide) hf (fun hf => ?_) (fun h22 hf => ?_)
  · refine r_aload_n (pc := 88) S0 0 dX11_count_88 rfl rfl ?_
    refine r_getR (pc := 89) S0 hK fl_X11_28 dX11_count_89 hf (fun x19 hf => ?_)
    refine r_getI (pc := 92) S0 hK fl_X11_127 dX11_count_92 hf (fun x20 c21 hf => ?_)
    have hz := ok_some hf
    have hz : x20 = e := hz
    subst hQ
    subst hz
    exact r_iret (pc := 95) S0 hr hlk c21 dX11_count_95
  refine r_tsw (pc := 1) 5 96 S0 5 dX11_count_1 ca1 rfl (by decide) rfl (by decide) hf (fun hf => ?_) (fun h26 hf => ?_)
  · refine r_aload_n (pc := 96) S0 0 dX11_count_96 rfl rfl ?_
    refine r_getR (pc := 97) S0 hK fl_X11_10 dX11_count_97 hf (fun x23 hf => ?_)
    refine r_getI (pc := 100) S0 hK fl_X11_105 dX11_count_100 hf (fun x24 c25 hf => ?_)
    have hz := ok_some hf
    have hz : x24 = e := hz
    subst hQ
    subst hz
    exact r_iret (pc := 103) S0 hr hlk c25 dX11_count_103
  refine r_tsw (pc := 1) 6 104 S0 6 dX11_count_1 ca1 rfl (by decide) rfl (by decide) hf (fun hf => ?_) (fun h30 hf => ?_)
  · refine r_aload_n (pc := 104) S0 0 dX11_count_104 rfl rfl ?_
    refine r_getR (pc := 105) S0 hK fl_X11_28 dX11_count_105 hf (fun x27 hf => ?_)
    refine r_getI (pc := 108) S0 hK fl_X11_214 dX11_count_108 hf (fun x28 c29 hf => ?_)
    have hz := ok_some hf
    have hz : x28 = e := hz
    subst hQ
    subst hz
    exact r_iret (pc := 111) S0 hr hlk c29 dX11_count_111
  refine r_tsw (pc := 1) 7 112 S0 7 dX11_count_1 ca1 rfl (by decide) rfl (by decide) hf (fun hf => ?_) (fun h34 hf => ?_)
  · refine r_aload_n (pc := 112) S0 0 dX11_count_112 rfl rfl ?_
    refine r_getR (pc := 113) S0 hK fl_X11_28 dX11_count_113 hf (fun x31 hf => ?_)
    refine r_getI (pc := 116) S0 hK fl_X11_362 dX11_count_116 hf (fun x32 c33 hf => ?_)
    have hz := ok_some hf
    have hz : x32 = e := hz
    subst hQ
    subst hz
    exact r_iret (pc := 119) S0 hr hlk c33 dX11_count_119
  refine r_tsw (pc := 1) 8 120 S0 8 dX11_count_1 ca1 rfl (by decide) rfl (by decide) hf (fun hf => ?_) (fun h39 hf => ?_)
  · refine r_aload_n (pc := 120) S0 0 dX11_count_120 rfl rfl ?_
    refine r_getR (pc := 121) S0 hK fl_X11_83 dX11_count_121 hf (fun x35 hf => ?_)
    obtain ⟨e36, h37, hf⟩ := ok_bind hf
    refine r_cV_I (pc := 124) [] S0 hK hX mv_X11_365 (k_X7_howMany h37) (c_X7_howMany l cA D N sx ad T A nx I x35 e36 h37) rfl rfl ⟨by decide, by decide⟩ (Nat.le_of_ble_eq_true rfl) ⟨Nat.le_refl _, Nat.le_refl _⟩ dX11_count_124 (fun c38 => ?_)
    have hz := ok_some hf
    have hz : e36 = e := hz
    subst hQ
    subst hz
    exact r_iret (pc := 127) S0 hr hlk c38 dX11_count_127
  refine r_tswD (pc := 1) 128 S0 dX11_count_1 ca1 (by omega) (by decide) ?_
  refine r_iconst (pc := 128) S0 dX11_count_128 ?_
  have hz := ok_some hf
  have hz : (-1) = e := hz
  subst hQ
  subst hz
  exact r_iret (pc := 129) S0 hr hlk (cnz (-1) rfl) dX11_count_129

set_option maxHeartbeats 4000000 in
set_option maxRecDepth 100000 in
theorem c_X11_back (l : Launch) (cA : Nat → ClassId) (D : va_G) (N : Nat) (sx : Sx) (ad : Nat → Nat) (T : Knd) (A : Rfs) (nx : Nat) (I : Mem) (w0 : Nat) (a1 : Int) (ca1 : cn a1) (e : (Int × Mem)) (h : f_X11_back T A w0 a1 I = some e) : CtI l yX11_back cX11_back 2 (some .int) 6 172 cA D N sx ad T A nx [rv ad w0, iv a1] I e.2 e.1 := by
  refine met_of (lv0 := [(0, rv ad w0), (1, iv a1)]) (by decide) (Nat.le_of_ble_eq_true rfl) rfl (fun p e0 s m args below meth c S0 hK hX hr hlk Q hQ => ?_)
  have hf : OK (f_X11_back T A w0 a1 I) (fun z => z = e) := ⟨e, h, rfl⟩
  unfold f_X11_back at hf
  obtain ⟨hw0, hf⟩ := ok_grd hf
  refine r_iload_n (pc := 0) S0 1 dX11_back_0 rfl rfl ?_
  refine r_if_lt (pc := 1) (tgt := 13) S0 dX11_back_1 (by decide) ca1 hf (fun hf => ?_) (fun hf => ?_)
  · refine r_bipush (pc := 13) S0 dX11_back_13 (by decide) ?_
    have hz := ok_some hf
    have hz : ((-2), I) = e := hz
    subst hQ
    subst hz
    exact r_iret (pc := 15) S0 hr hlk (cnz (-2) rfl) dX11_back_15
  · refine r_iload_n (pc := 4) S0 1 dX11_back_4 rfl rfl ?_
    refine r_aload_n (pc := 5) S0 0 dX11_back_5 rfl rfl ?_
    refine r_getR (pc := 6) S0 hK fl_X11_101 dX11_back_6 hf (fun x1 hf => ?_)
    refine r_aln 26 6 (pc := 9) S0 hK (by decide) rfl dX11_back_9 hf (fun x2 c3 hf => ?_)
    refine r_icmp_lt (pc := 10) (tgt := 16) S0 dX11_back_10 (by decide) ca1 c3 hf (fun hf => ?_) (fun hf => ?_)
    · refine r_aload_n (pc := 16) S0 0 dX11_back_16 rfl rfl ?_
      refine r_getR (pc := 17) S0 hK fl_X11_101 dX11_back_17 hf (fun x4 hf => ?_)
      refine r_iload_n (pc := 20) S0 1 dX11_back_20 rfl rfl ?_
      refine r_lrz (pc := 21) 22 28 S0 hK dX11_back_21 rfl dX11_back_22 (by decide) ca1 hf (fun hf => ?_) (fun hf => ?_)
      · refine r_bipush (pc := 25) S0 dX11_back_25 (by decide) ?_
        have hz := ok_some hf
        have hz : ((-6), I) = e := hz
        subst hQ
        subst hz
        exact r_iret (pc := 27) S0 hr hlk (cnz (-6) rfl) dX11_back_27
      · refine r_aload_n (pc := 28) S0 0 dX11_back_28 rfl rfl ?_
        refine r_getR (pc := 29) S0 hK fl_X11_28 dX11_back_29 hf (fun x5 hf => ?_)
        refine r_aload_n (pc := 32) S0 0 dX11_back_32 rfl rfl ?_
        refine r_getR (pc := 33) S0 hK fl_X11_101 dX11_back_33 hf (fun x6 hf => ?_)
        refine r_iload_n (pc := 36) S0 1 dX11_back_36 rfl rfl ?_
        refine r_aald 26 6 (pc := 37) S0 hK (by decide) rfl rfl dX11_back_37 ca1 hf (fun x7 hf => ?_)
        obtain ⟨e8, h9, hf⟩ := ok_bind hf
        refine r_cV_V (pc := 38) [rv ad x7] S0 hK hX mv_X11_120 (k_X2_copyFrom h9) (c_X2_copyFrom l cA D N sx ad T A nx I x5 x7 e8 h9) rfl rfl ⟨by decide, by decide⟩ (Nat.le_of_ble_eq_true rfl) ⟨Nat.le_refl _, Nat.le_refl _⟩ dX11_back_38 ?_
        refine r_aload_n (pc := 41) S0 0 dX11_back_41 rfl rfl ?_
        obtain ⟨e10, h11, hf⟩ := ok_bind hf
        refine r_cV_V (pc := 42) [] S0 hK hX mv_X11_124 (k_X11_planChanged h11) (c_X11_planChanged l cA D N sx ad T A nx e8 w0 e10 h11) rfl rfl ⟨by decide, by decide⟩ (Nat.le_of_ble_eq_true rfl) ⟨Nat.le_refl _, Nat.le_refl _⟩ dX11_back_42 ?_
        refine r_iconst (pc := 45) S0 dX11_back_45 ?_
        have hz := ok_some hf
        have hz : (0, e10) = e := hz
        subst hQ
        subst hz
        exact r_iret (pc := 46) S0 hr hlk (cnz 0 rfl) dX11_back_46
    · refine r_bipush (pc := 13) S0 dX11_back_13 (by decide) ?_
      have hz := ok_some hf
      have hz : ((-2), I) = e := hz
      subst hQ
      subst hz
      exact r_iret (pc := 15) S0 hr hlk (cnz (-2) rfl) dX11_back_15

set_option maxHeartbeats 4000000 in
set_option maxRecDepth 100000 in
theorem c_J7_fill_d0a16 (l : Launch) (cA : Nat → ClassId) (D : va_G) (N : Nat) (sx : Sx) (ad : Nat → Nat) (T : Knd) (A : Rfs) (nx : Nat) (I : Mem) (w0 : Nat) (a1 : Int) (ca1 : cl a1) (e : Mem) (h : f_J7_fill_d0a16 T A w0 a1 I = some e) : CtV l yJ7_fill_d0a16 cJ7_fill_d0a16 5 none 1 60 cA D N sx ad T A nx [rv ad w0, jv a1] I e := by
  refine met_of (lv0 := [(0, rv ad w0), (1, jv a1)]) (by decide) (Nat.le_of_ble_eq_true rfl) rfl (fun p e0 s m args below meth c S0 hK hX hr hlk Q hQ => ?_)
  have hf : OK (f_J7_fill_d0a16 T A w0 a1 I) (fun z => z = e) := ⟨e, h, rfl⟩
  unfold f_J7_fill_d0a16 at hf
  refine r_iconst (pc := 0) S0 dJ7_fill_d0a16_0 ?_
  refine r_istore_n (pc := 1) (lv' := [(3, iv 0), (0, rv ad w0), (1, jv a1)]) S0 dJ7_fill_d0a16_1 rfl (by decide) rfl ?_
  refine r_aload_n (pc := 2) S0 1 dJ7_fill_d0a16_2 rfl rfl ?_
  refine r_aln 21 1 (pc := 3) S0 hK (by decide) rfl dJ7_fill_d0a16_3 hf (fun x1 c2 hf => ?_)
  refine r_istore (pc := 4) (lv' := [(4, iv x1), (3, iv 0), (0, rv ad w0), (1, jv a1)]) S0 dJ7_fill_d0a16_4 (by decide) rfl ?_
  refine r_lv [2, 3, 1, 0] rfl ?_
  refine it_ind (P := fun s4 => cn s4.1 → G p l e0 (rmx 1 60) s m args below meth c 0 0 Q cA D N 5 ad T A nx 6 [(0, rv ad w0), (1, jv a1), (3, iv s4.1), (4, iv x1)] [] s4.2) (fun n0 s4 ih3 hf c5 => ?_) FU (0, I) hf (cnz 0 rfl)
  refine r_iload_n (pc := 6) S0 2 dJ7_fill_d0a16_6 rfl rfl ?_
  refine r_iload (pc := 7) S0 3 dJ7_fill_d0a16_7 rfl ?_
  refine r_icmp_ge (pc := 9) (tgt := 22) S0 dJ7_fill_d0a16_9 (by decide) c5 c2 hf (fun hf => ?_) (fun hf => ?_)
  · have hz := ok_some hf
    have hz : s4.2 = e := hz
    subst hQ
    subst hz
    exact r_vret (pc := 22) S0 hr hlk dJ7_fill_d0a16_22
  · refine r_aload_n (pc := 12) S0 0 dJ7_fill_d0a16_12 rfl rfl ?_
    refine r_iload_n (pc := 13) S0 2 dJ7_fill_d0a16_13 rfl rfl ?_
    refine r_lload_n (pc := 14) S0 1 dJ7_fill_d0a16_14 rfl rfl ?_
    refine r_last (pc := 15) S0 hK dJ7_fill_d0a16_15 c5 ca1 hf (fun I6 hf => ?_)
    refine r_iinc (pc := 16) (lv' := [(3, iv (ia s4.1 1)), (0, rv ad w0), (1, jv a1), (4, iv x1)]) S0 2 dJ7_fill_d0a16_16 rfl (by decide) rfl ?_
    refine r_goto (pc := 19) (tgt := 6) S0 dJ7_fill_d0a16_19 (by decide) ?_
    have hz := ok_some hf
    refine r_lv [1, 2, 0, 3] rfl ?_
    exact ih3 (ia s4.1 1, I6) hz (cn_wrap _)

set_option maxHeartbeats 4000000 in
set_option maxRecDepth 100000 in
theorem c_X7_lay (l : Launch) (cA : Nat → ClassId) (D : va_G) (N : Nat) (sx : Sx) (ad : Nat → Nat) (T : Knd) (A : Rfs) (nx : Nat) (I : Mem) (w0 : Nat) (a1 : Int) (a2 : Int) (a3 : Int) (ca1 : cn a1) (ca2 : cn a2) (ca3 : cn a3) (e : Mem) (h : f_X7_lay T A w0 a1 a2 a3 I = some e) : CtV l yX7_lay cX7_lay 4 none 2 84 cA D N sx ad T A nx [rv ad w0, iv a1, iv a2, iv a3] I e := by
  refine met_of (lv0 := [(0, rv ad w0), (1, iv a1), (2, iv a2), (3, iv a3)]) (by decide) (Nat.le_of_ble_eq_true rfl) rfl (fun p e0 s m args below meth c S0 hK hX hr hlk Q hQ => ?_)
  have hf : OK (f_X7_lay T A w0 a1 a2 a3 I) (fun z => z = e) := ⟨e, h, rfl⟩
  unfold f_X7_lay at hf
  obtain ⟨hw0, hf⟩ := ok_grd hf
  refine r_aload_n (pc := 0) S0 0 dX7_lay_0 rfl rfl ?_
  refine r_iload_n (pc := 1) S0 1 dX7_lay_1 rfl rfl ?_
  obtain ⟨e1, h2, hf⟩ := ok_bind hf
  refine r_cV_I (pc := 2) [iv a1] S0 hK hX mv_X7_29 (k_X7_isSlot h2) (c_X7_isSlot l cA D N sx ad T A nx I w0 a1 ca1 e1 h2) rfl rfl ⟨by decide, by decide⟩ (Nat.le_of_ble_eq_true rfl) ⟨Nat.le_refl _, Nat.le_refl _⟩ dX7_lay_2 (fun c3 => ?_)
  refine r_if_eq (pc := 5) (tgt := 42) S0 dX7_lay_5 (by decide) c3 hf (fun hf => ?_) (fun hf => ?_)
  · have hz := ok_some hf
    have hz : I = e := hz
    subst hQ
    subst hz
    exact r_vret (pc := 42) S0 hr hlk dX7_lay_42
  · refine r_iload_n (pc := 8) S0 3 dX7_lay_8 rfl rfl ?_
    refine r_if_lt (pc := 9) (tgt := 42) S0 dX7_lay_9 (by decide) ca3 hf (fun hf => ?_) (fun hf => ?_)
    · have hz := ok_some hf
      have hz : I = e := hz
      subst hQ
      subst hz
      exact r_vret (pc := 42) S0 hr hlk dX7_lay_42
    · refine r_iload_n (pc := 12) S0 3 dX7_lay_12 rfl rfl ?_
      refine r_bipush (pc := 13) S0 dX7_lay_13 (by decide) ?_
      refine r_icmp_gt (pc := 15) (tgt := 42) S0 dX7_lay_15 (by decide) ca3 (cnz 60 rfl) hf (fun hf => ?_) (fun hf => ?_)
      · have hz := ok_some hf
        have hz : I = e := hz
        subst hQ
        subst hz
        exact r_vret (pc := 42) S0 hr hlk dX7_lay_42
      · refine r_aload_n (pc := 18) S0 0 dX7_lay_18 rfl rfl ?_
        refine r_getR (pc := 19) S0 hK fl_X7_16 dX7_lay_19 hf (fun x4 hf => ?_)
        refine r_iload_n (pc := 22) S0 1 dX7_lay_22 rfl rfl ?_
        refine r_iload_n (pc := 23) S0 2 dX7_lay_23 rfl rfl ?_
        refine r_iast (pc := 24) S0 hK dX7_lay_24 ca1 ca2 hf (fun I5 hf => ?_)
        refine r_aload_n (pc := 25) S0 0 dX7_lay_25 rfl rfl ?_
        refine r_getR (pc := 26) S0 hK fl_X7_20 dX7_lay_26 hf (fun x6 hf => ?_)
        refine r_iload_n (pc := 29) S0 1 dX7_lay_29 rfl rfl ?_
        refine r_iload_n (pc := 30) S0 3 dX7_lay_30 rfl rfl ?_
        refine r_iast (pc := 31) S0 hK dX7_lay_31 ca1 ca3 hf (fun I7 hf => ?_)
        refine r_aload_n (pc := 32) S0 0 dX7_lay_32 rfl rfl ?_
        refine r_getR (pc := 33) S0 hK fl_X7_13 dX7_lay_33 hf (fun x8 hf => ?_)
        refine r_iload_n (pc := 36) S0 1 dX7_lay_36 rfl rfl ?_
        refine r_aald 25 5 (pc := 37) S0 hK (by decide) rfl rfl dX7_lay_37 ca1 hf (fun x9 hf => ?_)
        refine r_lconst (pc := 38) (v := 0) S0 dX7_lay_38 rfl ?_
        obtain ⟨e10, h11, hf⟩ := ok_bind hf
        refine r_cS_V (pc := 39) [rv ad x9, jv 0] S0 hK hX ms_X7_36 (c_J7_fill_d0a16 l cA D N sx ad T A nx I7 x9 0 (clz 0 rfl) e10 h11) rfl rfl ⟨by decide, by decide⟩ (Nat.le_of_ble_eq_true rfl) ⟨Nat.le_refl _, Nat.le_refl _⟩ dX7_lay_39 ?_
        have hz := ok_some hf
        have hz : e10 = e := hz
        subst hQ
        subst hz
        exact r_vret (pc := 42) S0 hr hlk dX7_lay_42

set_option maxHeartbeats 4000000 in
set_option maxRecDepth 100000 in
theorem c_X11_row (l : Launch) (cA : Nat → ClassId) (D : va_G) (N : Nat) (sx : Sx) (ad : Nat → Nat) (T : Knd) (A : Rfs) (nx : Nat) (I : Mem) (w0 : Nat) (a1 : Int) (a2 : Int) (a3 : Int) (ca1 : cn a1) (ca2 : cn a2) (ca3 : cn a3) (e : (Int × Mem)) (h : f_X11_row T A w0 a1 a2 a3 I = some e) : CtI l yX11_row cX11_row 4 (some .int) 3 107 cA D N sx ad T A nx [rv ad w0, iv a1, iv a2, iv a3] I e.2 e.1 := by
  refine met_of (lv0 := [(0, rv ad w0), (1, iv a1), (2, iv a2), (3, iv a3)]) (by decide) (Nat.le_of_ble_eq_true rfl) rfl (fun p e0 s m args below meth c S0 hK hX hr hlk Q hQ => ?_)
  have hf : OK (f_X11_row T A w0 a1 a2 a3 I) (fun z => z = e) := ⟨e, h, rfl⟩
  unfold f_X11_row at hf
  obtain ⟨hw0, hf⟩ := ok_grd hf
  refine r_aload_n (pc := 0) S0 0 dX11_row_0 rfl rfl ?_
  refine r_getR (pc := 1) S0 hK fl_X11_83 dX11_row_1 hf (fun x1 hf => ?_)
  refine r_iload_n (pc := 4) S0 1 dX11_row_4 rfl rfl ?_
  obtain ⟨e2, h3, hf⟩ := ok_bind hf
  refine r_cV_I (pc := 5) [iv a1] S0 hK hX mv_X11_366 (k_X7_isSlot h3) (c_X7_isSlot l cA D N sx ad T A nx I x1 a1 ca1 e2 h3) rfl rfl ⟨by decide, by decide⟩ (Nat.le_of_ble_eq_true rfl) ⟨Nat.le_refl _, Nat.le_refl _⟩ dX11_row_5 (fun c4 => ?_)
  refine r_if_eq (pc := 8) (tgt := 26) S0 dX11_row_8 (by decide) c4 hf (fun hf => ?_) (fun hf => ?_)
  · refine r_bipush (pc := 26) S0 dX11_row_26 (by decide) ?_
    have hz := ok_some hf
    have hz : ((-2), I) = e := hz
    subst hQ
    subst hz
    exact r_iret (pc := 28) S0 hr hlk (cnz (-2) rfl) dX11_row_28
  · refine r_iload_n (pc := 11) S0 2 dX11_row_11 rfl rfl ?_
    refine r_if_lt (pc := 12) (tgt := 26) S0 dX11_row_12 (by decide) ca2 hf (fun hf => ?_) (fun hf => ?_)
    · refine r_bipush (pc := 26) S0 dX11_row_26 (by decide) ?_
      have hz := ok_some hf
      have hz : ((-2), I) = e := hz
      subst hQ
      subst hz
      exact r_iret (pc := 28) S0 hr hlk (cnz (-2) rfl) dX11_row_28
    · refine r_iload_n (pc := 15) S0 2 dX11_row_15 rfl rfl ?_
      refine r_iconst (pc := 16) S0 dX11_row_16 ?_
      refine r_icmp_ge (pc := 17) (tgt := 26) S0 dX11_row_17 (by decide) ca2 (cnz 4 rfl) hf (fun hf => ?_) (fun hf => ?_)
      · refine r_bipush (pc := 26) S0 dX11_row_26 (by decide) ?_
        have hz := ok_some hf
        have hz : ((-2), I) = e := hz
        subst hQ
        subst hz
        exact r_iret (pc := 28) S0 hr hlk (cnz (-2) rfl) dX11_row_28
      · refine r_iload_n (pc := 20) S0 3 dX11_row_20 rfl rfl ?_
        refine r_bipush (pc := 21) S0 dX11_row_21 (by decide) ?_
        refine r_icmp_le (pc := 23) (tgt := 29) S0 dX11_row_23 (by decide) ca3 (cnz 60 rfl) hf (fun hf => ?_) (fun hf => ?_)
        · refine r_iload_n (pc := 29) S0 3 dX11_row_29 rfl rfl ?_
          refine r_if_ge (pc := 30) (tgt := 36) S0 dX11_row_30 (by decide) ca3 hf (fun hf => ?_) (fun hf => ?_)
          · refine r_aload_n (pc := 36) S0 0 dX11_row_36 rfl rfl ?_
            refine r_getR (pc := 37) S0 hK fl_X11_83 dX11_row_37 hf (fun x5 hf => ?_)
            refine r_iload_n (pc := 40) S0 1 dX11_row_40 rfl rfl ?_
            refine r_iload_n (pc := 41) S0 2 dX11_row_41 rfl rfl ?_
            refine r_iload_n (pc := 42) S0 3 dX11_row_42 rfl rfl ?_
            obtain ⟨e6, h7, hf⟩ := ok_bind hf
            refine r_cV_V (pc := 43) [iv a1, iv a2, iv a3] S0 hK hX mv_X11_369 (k_X7_lay h7) (c_X7_lay l cA D N sx ad T A nx I x5 a1 a2 a3 ca1 ca2 ca3 e6 h7) rfl rfl ⟨by decide, by decide⟩ (Nat.le_of_ble_eq_true rfl) ⟨Nat.le_refl _, Nat.le_refl _⟩ dX11_row_43 ?_
            refine r_iconst (pc := 46) S0 dX11_row_46 ?_
            have hz := ok_some hf
            have hz : (0, e6) = e := hz
            subst hQ
            subst hz
            exact r_iret (pc := 47) S0 hr hlk (cnz 0 rfl) dX11_row_47
          · refine r_bipush (pc := 33) S0 dX11_row_33 (by decide) ?_
            have hz := ok_some hf
            have hz : ((-3), I) = e := hz
            subst hQ
            subst hz
            exact r_iret (pc := 35) S0 hr hlk (cnz (-3) rfl) dX11_row_35
        · refine r_bipush (pc := 26) S0 dX11_row_26 (by decide) ?_
          have hz := ok_some hf
          have hz : ((-2), I) = e := hz
          subst hQ
          subst hz
          exact r_iret (pc := 28) S0 hr hlk (cnz (-2) rfl) dX11_row_28

set_option maxHeartbeats 4000000 in
set_option maxRecDepth 100000 in
theorem c_X7_cut (l : Launch) (cA : Nat → ClassId) (D : va_G) (N : Nat) (sx : Sx) (ad : Nat → Nat) (T : Knd) (A : Rfs) (nx : Nat) (I : Mem) (a0 : Int) (a2 : Int) (ca0 : cl a0) (ca2 : cn a2) (e : Int) (h : f_X7_cut T A a0 a2 I = some e) : CtJ l yX7_cut cX7_cut 3 (some .long) 1 60 cA D N sx ad T A nx [jv a0, iv a2] I I e := by
  refine met_of (lv0 := [(0, jv a0), (2, iv a2)]) (by decide) (Nat.le_of_ble_eq_true rfl) rfl (fun p e0 s m args below meth c S0 hK hX hr hlk Q hQ => ?_)
  have hf : OK (f_X7_cut T A a0 a2 I) (fun z => z = e) := ⟨e, h, rfl⟩
  unfold f_X7_cut at hf
  refine r_iload_n (pc := 0) S0 1 dX7_cut_0 rfl rfl ?_
  refine r_tsw (pc := 1) 0 28 S0 0 dX7_cut_1 ca2 rfl (by decide) rfl (by decide) hf (fun hf => ?_) (fun h1 hf => ?_)
  · refine r_lload_n (pc := 28) S0 0 dX7_cut_28 rfl rfl ?_
    refine r_l2i (pc := 29) S0 dX7_cut_29 ca0 ?_
    refine r_i2b (pc := 30) S0 dX7_cut_30 ?_
    refine r_i2l (pc := 31) S0 dX7_cut_31 (cn_toInt _) ?_
    have hz := ok_some hf
    have hz : (i2b (wrap a0)) = e := hz
    subst hQ
    subst hz
    exact r_lret (pc := 32) S0 hr hlk (cl_cn (cn_toInt _)) dX7_cut_32
  refine r_tsw (pc := 1) 1 33 S0 1 dX7_cut_1 ca2 rfl (by decide) rfl (by decide) hf (fun hf => ?_) (fun h2 hf => ?_)
  · refine r_lload_n (pc := 33) S0 0 dX7_cut_33 rfl rfl ?_
    refine r_l2i (pc := 34) S0 dX7_cut_34 ca0 ?_
    refine r_i2s (pc := 35) S0 dX7_cut_35 ?_
    refine r_i2l (pc := 36) S0 dX7_cut_36 (cn_toInt _) ?_
    have hz := ok_some hf
    have hz : (i2s (wrap a0)) = e := hz
    subst hQ
    subst hz
    exact r_lret (pc := 37) S0 hr hlk (cl_cn (cn_toInt _)) dX7_cut_37
  refine r_tsw (pc := 1) 2 38 S0 2 dX7_cut_1 ca2 rfl (by decide) rfl (by decide) hf (fun hf => ?_) (fun h3 hf => ?_)
  · refine r_lload_n (pc := 38) S0 0 dX7_cut_38 rfl rfl ?_
    refine r_l2i (pc := 39) S0 dX7_cut_39 ca0 ?_
    refine r_i2l (pc := 40) S0 dX7_cut_40 (cn_wrap _) ?_
    have hz := ok_some hf
    have hz : (wrap a0) = e := hz
    subst hQ
    subst hz
    exact r_lret (pc := 41) S0 hr hlk (cl_cn (cn_wrap _)) dX7_cut_41
  refine r_tswD (pc := 1) 42 S0 dX7_cut_1 ca2 (by omega) (by decide) ?_
  refine r_lload_n (pc := 42) S0 0 dX7_cut_42 rfl rfl ?_
  have hz := ok_some hf
  have hz : a0 = e := hz
  subst hQ
  subst hz
  exact r_lret (pc := 43) S0 hr hlk ca0 dX7_cut_43
