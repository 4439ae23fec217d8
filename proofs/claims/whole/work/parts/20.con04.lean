/-! Contracts, laid by wip/gen/gen.py. -/
set_option maxHeartbeats 4000000 in
set_option maxRecDepth 100000 in
theorem c_X5_isBetter (l : Launch) (cA : Nat → ClassId) (D : va_G) (N : Nat) (sx : Sx) (ad : Nat → Nat) (T : Knd) (A : Rfs) (nx : Nat) (I : Mem) (w0 : Nat) (a1 : Int) (a2 : Int) (a3 : Int) (ca1 : cn a1) (ca2 : cn a2) (ca3 : cn a3) (e : Int) (h : f_X5_isBetter T A w0 a1 a2 a3 I = some e) : CtI l yX5_isBetter cX5_isBetter 4 (some .boolean) 1 60 cA D N sx ad T A nx [rv ad w0, iv a1, iv a2, iv a3] I I e := by
  refine met_of (lv0 := [(0, rv ad w0), (1, iv a1), (2, iv a2), (3, iv a3)]) (by decide) (Nat.le_of_ble_eq_true rfl) rfl (fun p e0 s m args below meth c S0 hK hX hr hlk Q hQ => ?_)
  have hf : OK (f_X5_isBetter T A w0 a1 a2 a3 I) (fun z => z = e) := ⟨e, h, rfl⟩
  unfold f_X5_isBetter at hf
  obtain ⟨hw0, hf⟩ := ok_grd hf
  refine r_aload_n (pc := 0) S0 0 dX5_isBetter_0 rfl rfl ?_
  refine r_getI (pc := 1) S0 hK fl_X5_56 dX5_isBetter_1 hf (fun x1 c2 hf => ?_)
  refine r_if_eq (pc := 4) (tgt := 37) S0 dX5_isBetter_4 (by decide) c2 hf (fun hf => ?_) (fun hf => ?_)
  · refine r_iconst (pc := 37) S0 dX5_isBetter_37 ?_
    refine r_goto (pc := 38) (tgt := 42) S0 dX5_isBetter_38 (by decide) ?_
    have hz := ok_some hf
    have hz : 1 = e := hz
    subst hQ
    subst hz
    exact r_zret (pc := 42) S0 hr hlk (Or.inr rfl) dX5_isBetter_42
  · refine r_iload_n (pc := 7) S0 2 dX5_isBetter_7 rfl rfl ?_
    refine r_aload_n (pc := 8) S0 0 dX5_isBetter_8 rfl rfl ?_
    refine r_getR (pc := 9) S0 hK fl_X5_15 dX5_isBetter_9 hf (fun x3 hf => ?_)
    refine r_iload_n (pc := 12) S0 1 dX5_isBetter_12 rfl rfl ?_
    refine r_iald (pc := 13) S0 hK dX5_isBetter_13 ca1 hf (fun x4 c5 hf => ?_)
    refine r_icmp_lt (pc := 14) (tgt := 37) S0 dX5_isBetter_14 (by decide) ca2 c5 hf (fun hf => ?_) (fun hf => ?_)
    · refine r_iconst (pc := 37) S0 dX5_isBetter_37 ?_
      refine r_goto (pc := 38) (tgt := 42) S0 dX5_isBetter_38 (by decide) ?_
      have hz := ok_some hf
      have hz : 1 = e := hz
      subst hQ
      subst hz
      exact r_zret (pc := 42) S0 hr hlk (Or.inr rfl) dX5_isBetter_42
    · refine r_iload_n (pc := 17) S0 2 dX5_isBetter_17 rfl rfl ?_
      refine r_aload_n (pc := 18) S0 0 dX5_isBetter_18 rfl rfl ?_
      refine r_getR (pc := 19) S0 hK fl_X5_15 dX5_isBetter_19 hf (fun x6 hf => ?_)
      refine r_iload_n (pc := 22) S0 1 dX5_isBetter_22 rfl rfl ?_
      refine r_iald (pc := 23) S0 hK dX5_isBetter_23 ca1 hf (fun x7 c8 hf => ?_)
      refine r_icmp_ne (pc := 24) (tgt := 41) S0 dX5_isBetter_24 (by decide) ca2 c8 hf (fun hf => ?_) (fun hf => ?_)
      · refine r_iconst (pc := 41) S0 dX5_isBetter_41 ?_
        have hz := ok_some hf
        have hz : 0 = e := hz
        subst hQ
        subst hz
        exact r_zret (pc := 42) S0 hr hlk (Or.inl rfl) dX5_isBetter_42
      · refine r_iload_n (pc := 27) S0 3 dX5_isBetter_27 rfl rfl ?_
        refine r_aload_n (pc := 28) S0 0 dX5_isBetter_28 rfl rfl ?_
        refine r_getR (pc := 29) S0 hK fl_X5_18 dX5_isBetter_29 hf (fun x9 hf => ?_)
        refine r_iload_n (pc := 32) S0 1 dX5_isBetter_32 rfl rfl ?_
        refine r_iald (pc := 33) S0 hK dX5_isBetter_33 ca1 hf (fun x10 c11 hf => ?_)
        refine r_icmp_ge (pc := 34) (tgt := 41) S0 dX5_isBetter_34 (by decide) ca3 c11 hf (fun hf => ?_) (fun hf => ?_)
        · refine r_iconst (pc := 41) S0 dX5_isBetter_41 ?_
          have hz := ok_some hf
          have hz : 0 = e := hz
          subst hQ
          subst hz
          exact r_zret (pc := 42) S0 hr hlk (Or.inl rfl) dX5_isBetter_42
        · refine r_iconst (pc := 37) S0 dX5_isBetter_37 ?_
          refine r_goto (pc := 38) (tgt := 42) S0 dX5_isBetter_38 (by decide) ?_
          have hz := ok_some hf
          have hz : 1 = e := hz
          subst hQ
          subst hz
          exact r_zret (pc := 42) S0 hr hlk (Or.inr rfl) dX5_isBetter_42

set_option maxHeartbeats 4000000 in
set_option maxRecDepth 100000 in
theorem c_X5_put (l : Launch) (cA : Nat → ClassId) (D : va_G) (N : Nat) (sx : Sx) (ad : Nat → Nat) (T : Knd) (A : Rfs) (nx : Nat) (I : Mem) (w0 : Nat) (a1 : Int) (a2 : Int) (a3 : Int) (ca1 : cn a1) (ca2 : cn a2) (ca3 : cn a3) (e : Mem) (h : f_X5_put T A w0 a1 a2 a3 I = some e) : CtV l yX5_put cX5_put 4 none 1 60 cA D N sx ad T A nx [rv ad w0, iv a1, iv a2, iv a3] I e := by
  refine met_of (lv0 := [(0, rv ad w0), (1, iv a1), (2, iv a2), (3, iv a3)]) (by decide) (Nat.le_of_ble_eq_true rfl) rfl (fun p e0 s m args below meth c S0 hK hX hr hlk Q hQ => ?_)
  have hf : OK (f_X5_put T A w0 a1 a2 a3 I) (fun z => z = e) := ⟨e, h, rfl⟩
  unfold f_X5_put at hf
  obtain ⟨hw0, hf⟩ := ok_grd hf
  refine r_aload_n (pc := 0) S0 0 dX5_put_0 rfl rfl ?_
  refine r_getR (pc := 1) S0 hK fl_X5_15 dX5_put_1 hf (fun x1 hf => ?_)
  refine r_iload_n (pc := 4) S0 1 dX5_put_4 rfl rfl ?_
  refine r_iload_n (pc := 5) S0 2 dX5_put_5 rfl rfl ?_
  refine r_iast (pc := 6) S0 hK dX5_put_6 ca1 ca2 hf (fun I2 hf => ?_)
  refine r_aload_n (pc := 7) S0 0 dX5_put_7 rfl rfl ?_
  refine r_getR (pc := 8) S0 hK fl_X5_18 dX5_put_8 hf (fun x3 hf => ?_)
  refine r_iload_n (pc := 11) S0 1 dX5_put_11 rfl rfl ?_
  refine r_iload_n (pc := 12) S0 3 dX5_put_12 rfl rfl ?_
  refine r_iast (pc := 13) S0 hK dX5_put_13 ca1 ca3 hf (fun I4 hf => ?_)
  refine r_aload_n (pc := 14) S0 0 dX5_put_14 rfl rfl ?_
  refine r_getR (pc := 15) S0 hK fl_X5_9 dX5_put_15 hf (fun x5 hf => ?_)
  refine r_iconst (pc := 18) S0 dX5_put_18 ?_
  refine r_aload_n (pc := 19) S0 0 dX5_put_19 rfl rfl ?_
  refine r_getR (pc := 20) S0 hK fl_X5_23 dX5_put_20 hf (fun x6 hf => ?_)
  refine r_iload_n (pc := 23) S0 1 dX5_put_23 rfl rfl ?_
  refine r_aald 24 4 (pc := 24) S0 hK (by decide) rfl rfl dX5_put_24 ca1 hf (fun x7 hf => ?_)
  refine r_iconst (pc := 25) S0 dX5_put_25 ?_
  refine r_bipush (pc := 26) S0 dX5_put_26 (by decide) ?_
  refine r_acpi (pc := 28) S0 hK ma_X5_159 dX5_put_28 (cnz 0 rfl) (cnz 0 rfl) (cnz 8 rfl) ⟨Nat.le_of_ble_eq_true rfl, Nat.le_of_ble_eq_true rfl⟩ hf (fun I8 hf => ?_)
  have hz := ok_some hf
  have hz : I8 = e := hz
  subst hQ
  subst hz
  exact r_vret (pc := 31) S0 hr hlk dX5_put_31

set_option maxHeartbeats 4000000 in
set_option maxRecDepth 100000 in
theorem c_X5_take (l : Launch) (cA : Nat → ClassId) (D : va_G) (N : Nat) (sx : Sx) (ad : Nat → Nat) (T : Knd) (A : Rfs) (nx : Nat) (I : Mem) (w0 : Nat) (a1 : Int) (ca1 : cn a1) (e : Mem) (h : f_X5_take T A w0 a1 I = some e) : CtV l yX5_take cX5_take 3 none 2 83 cA D N sx ad T A nx [rv ad w0, iv a1] I e := by
  refine met_of (lv0 := [(0, rv ad w0), (1, iv a1)]) (by decide) (Nat.le_of_ble_eq_true rfl) rfl (fun p e0 s m args below meth c S0 hK hX hr hlk Q hQ => ?_)
  have hf : OK (f_X5_take T A w0 a1 I) (fun z => z = e) := ⟨e, h, rfl⟩
  unfold f_X5_take at hf
  obtain ⟨hw0, hf⟩ := ok_grd hf
  refine r_aload_n (pc := 0) S0 0 dX5_take_0 rfl rfl ?_
  refine r_getI (pc := 1) S0 hK fl_X5_53 dX5_take_1 hf (fun x1 c2 hf => ?_)
  refine r_aload_n (pc := 4) S0 0 dX5_take_4 rfl rfl ?_
  refine r_getI (pc := 5) S0 hK fl_X5_49 dX5_take_5 hf (fun x3 c4 hf => ?_)
  refine r_iconst (pc := 8) S0 dX5_take_8 ?_
  refine r_ixor (pc := 9) S0 dX5_take_9 ?_
  refine r_iand (pc := 10) S0 dX5_take_10 ?_
  refine r_istore_n (pc := 11) (lv' := [(2, iv (iand x1 (ixor x3 (-1)))), (0, rv ad w0), (1, iv a1)]) S0 dX5_take_11 rfl (by decide) rfl ?_
  refine r_aload_n (pc := 12) S0 1 dX5_take_12 rfl rfl ?_
  refine r_iconst (pc := 13) S0 dX5_take_13 ?_
  refine r_aload_n (pc := 14) S0 1 dX5_take_14 rfl rfl ?_
  refine r_getR (pc := 15) S0 hK fl_X5_29 dX5_take_15 hf (fun x5 hf => ?_)
  refine r_getI (pc := 18) S0 hK fl_X5_124 dX5_take_18 hf (fun x6 c7 hf => ?_)
  refine r_iload_n (pc := 21) S0 2 dX5_take_21 rfl rfl ?_
  obtain ⟨e8, h9, hf⟩ := ok_bind hf
  refine r_cV_I (pc := 22) [iv 0, iv x6, iv a1] S0 hK hX mv_X5_151 (k_X5_isBetter h9) (c_X5_isBetter l cA D N sx ad T A nx I w0 0 x6 a1 (cnz 0 rfl) c7 ca1 e8 h9) rfl rfl ⟨by decide, by decide⟩ (Nat.le_of_ble_eq_true rfl) ⟨Nat.le_refl _, Nat.le_refl _⟩ dX5_take_22 (fun c10 => ?_)
  refine thn_rule (P := fun v12 => G p l e0 (rmx 2 83) s m args below meth c 0 0 Q cA D N 3 ad T A nx 59 [(0, rv ad w0), (1, iv a1), (2, iv (iand x1 (ixor x3 (-1))))] [] v12) hf (fun v12 hf => ?_) (fun K11 hf => ?_)
  · refine r_aload_n (pc := 59) S0 0 dX5_take_59 rfl rfl ?_
    refine r_iconst (pc := 60) S0 dX5_take_60 ?_
    refine r_aload_n (pc := 61) S0 0 dX5_take_61 rfl rfl ?_
    refine r_getR (pc := 62) S0 hK fl_X5_29 dX5_take_62 hf (fun x22 hf => ?_)
    refine r_getI (pc := 65) S0 hK fl_X5_130 dX5_take_65 hf (fun x23 c24 hf => ?_)
    refine r_iload_n (pc := 68) S0 1 dX5_take_68 rfl rfl ?_
    obtain ⟨e25, h26, hf⟩ := ok_bind hf
    refine r_cV_I (pc := 69) [iv 1, iv x23, iv a1] S0 hK hX mv_X5_151 (k_X5_isBetter h26) (c_X5_isBetter l cA D N sx ad T A nx v12 w0 1 x23 a1 (cnz 1 rfl) c24 ca1 e25 h26) rfl rfl ⟨by decide, by decide⟩ (Nat.le_of_ble_eq_true rfl) ⟨Nat.le_refl _, Nat.le_refl _⟩ dX5_take_69 (fun c27 => ?_)
    refine thn_rule (P := fun v29 => G p l e0 (rmx 2 83) s m args below meth c 0 0 Q cA D N 3 ad T A nx 88 [(0, rv ad w0), (1, iv a1), (2, iv (iand x1 (ixor x3 (-1))))] [] v29) hf (fun v29 hf => ?_) (fun K28 hf => ?_)
    · refine r_aload_n (pc := 88) S0 0 dX5_take_88 rfl rfl ?_
      refine r_iconst (pc := 89) S0 dX5_take_89 ?_
      refine r_aload_n (pc := 90) S0 0 dX5_take_90 rfl rfl ?_
      refine r_getR (pc := 91) S0 hK fl_X5_29 dX5_take_91 hf (fun x35 hf => ?_)
      refine r_getI (pc := 94) S0 hK fl_X5_133 dX5_take_94 hf (fun x36 c37 hf => ?_)
      refine r_iload_n (pc := 97) S0 1 dX5_take_97 rfl rfl ?_
      obtain ⟨e38, h39, hf⟩ := ok_bind hf
      refine r_cV_I (pc := 98) [iv 2, iv x36, iv a1] S0 hK hX mv_X5_151 (k_X5_isBetter h39) (c_X5_isBetter l cA D N sx ad T A nx v29 w0 2 x36 a1 (cnz 2 rfl) c37 ca1 e38 h39) rfl rfl ⟨by decide, by decide⟩ (Nat.le_of_ble_eq_true rfl) ⟨Nat.le_refl _, Nat.le_refl _⟩ dX5_take_98 (fun c40 => ?_)
      refine thn_rule (P := fun v42 => G p l e0 (rmx 2 83) s m args below meth c 0 0 Q cA D N 3 ad T A nx 117 [(0, rv ad w0), (1, iv a1), (2, iv (iand x1 (ixor x3 (-1))))] [] v42) hf (fun v42 hf => ?_) (fun K41 hf => ?_)
      · refine r_aload_n (pc := 117) S0 0 dX5_take_117 rfl rfl ?_
        refine r_aload_n (pc := 118) S0 0 dX5_take_118 rfl rfl ?_
        refine r_getI (pc := 119) S0 hK fl_X5_56 dX5_take_119 hf (fun x48 c49 hf => ?_)
        refine thn_rule (P := fun v51 => cn v51 → G p l e0 (rmx 2 83) s m args below meth c 0 0 Q cA D N 3 ad T A nx 137 [(0, rv ad w0), (2, iv (iand x1 (ixor x3 (-1))))] [iv v51, rv ad w0] v42) hf (fun v51 hf c52 => ?_) (fun K50 hf => ?_)
        · refine r_putI (pc := 137) S0 hK fl_X5_59 rfl rfl c52 dX5_take_137 hf (fun I55 hf => ?_)
          refine r_aload_n (pc := 140) S0 0 dX5_take_140 rfl rfl ?_
          refine r_aload_n (pc := 141) S0 0 dX5_take_141 rfl rfl ?_
          refine r_getI (pc := 142) S0 hK fl_X5_56 dX5_take_142 hf (fun x56 c57 hf => ?_)
          refine thn_rule (P := fun v59 => cn v59 → G p l e0 (rmx 2 83) s m args below meth c 0 0 Q cA D N 3 ad T A nx 158 [(0, rv ad w0), (2, iv (iand x1 (ixor x3 (-1))))] [iv v59, rv ad w0] I55) hf (fun v59 hf c60 => ?_) (fun K58 hf => ?_)
          · refine r_putI (pc := 158) S0 hK fl_X5_62 rfl rfl c60 dX5_take_158 hf (fun I63 hf => ?_)
            refine r_aload_n (pc := 161) S0 0 dX5_take_161 rfl rfl ?_
            refine r_dup (pc := 162) S0 dX5_take_162 rfl ?_
            refine r_getI (pc := 163) S0 hK fl_X5_65 dX5_take_163 hf (fun x64 c65 hf => ?_)
            refine r_iload_n (pc := 166) S0 1 dX5_take_166 rfl rfl ?_
            refine r_ior (pc := 167) S0 dX5_take_167 ?_
            refine r_putI (pc := 168) S0 hK fl_X5_65 rfl rfl (cn_toInt _) dX5_take_168 hf (fun I66 hf => ?_)
            refine r_aload_n (pc := 171) S0 0 dX5_take_171 rfl rfl ?_
            refine r_dup (pc := 172) S0 dX5_take_172 rfl ?_
            refine r_getI (pc := 173) S0 hK fl_X5_56 dX5_take_173 hf (fun x67 c68 hf => ?_)
            refine r_iconst (pc := 176) S0 dX5_take_176 ?_
            refine r_iadd (pc := 177) S0 dX5_take_177 ?_
            refine r_putI (pc := 178) S0 hK fl_X5_56 rfl rfl (cn_wrap _) dX5_take_178 hf (fun I69 hf => ?_)
            have hz := ok_some hf
            have hz : I69 = e := hz
            subst hQ
            subst hz
            exact r_vret (pc := 181) S0 hr hlk dX5_take_181
          · refine r_if_ne (pc := 145) (tgt := 152) S0 dX5_take_145 (by decide) c57 hf (fun hf => ?_) (fun hf => ?_)
            · refine r_aload_n (pc := 152) S0 0 dX5_take_152 rfl rfl ?_
              refine r_getI (pc := 153) S0 hK fl_X5_62 dX5_take_153 hf (fun x61 c62 hf => ?_)
              refine r_iload_n (pc := 156) S0 1 dX5_take_156 rfl rfl ?_
              refine r_iand (pc := 157) S0 dX5_take_157 ?_
              have hz := ok_some hf
              refine r_lv [0, 1] rfl ?_
              exact K58 (iand x61 (iand x1 (ixor x3 (-1)))) hz (cn_toInt _)
            · refine r_iload_n (pc := 148) S0 1 dX5_take_148 rfl rfl ?_
              refine r_goto (pc := 149) (tgt := 158) S0 dX5_take_149 (by decide) ?_
              have hz := ok_some hf
              refine r_lv [0, 1] rfl ?_
              exact K58 (iand x1 (ixor x3 (-1))) hz (cn_toInt _)
        · refine r_if_ne (pc := 122) (tgt := 129) S0 dX5_take_122 (by decide) c49 hf (fun hf => ?_) (fun hf => ?_)
          · refine r_aload_n (pc := 129) S0 0 dX5_take_129 rfl rfl ?_
            refine r_getI (pc := 130) S0 hK fl_X5_59 dX5_take_130 hf (fun x53 c54 hf => ?_)
            refine r_iload_n (pc := 133) S0 1 dX5_take_133 rfl rfl ?_
            refine r_mmin (pc := 134) S0 mmmin_X5_165 ⟨by decide, Nat.le_of_ble_eq_true rfl⟩ ⟨Nat.le_refl _, Nat.le_refl _⟩ dX5_take_134 c54 ca1 ?_
            have hz := ok_some hf
            refine r_lv [0, 2] rfl ?_
            exact K50 (imin x53 a1) hz (cn_imin c54 ca1)
          · refine r_iload_n (pc := 125) S0 1 dX5_take_125 rfl rfl ?_
            refine r_goto (pc := 126) (tgt := 137) S0 dX5_take_126 (by decide) ?_
            have hz := ok_some hf
            refine r_lv [0, 2] rfl ?_
            exact K50 a1 hz ca1
      · refine r_if_eq (pc := 101) (tgt := 117) S0 dX5_take_101 (by decide) c40 hf (fun hf => ?_) (fun hf => ?_)
        · have hz := ok_some hf
          refine r_lv [0, 1, 2] rfl ?_
          exact K41 v29 hz
        · refine r_aload_n (pc := 104) S0 0 dX5_take_104 rfl rfl ?_
          refine r_iconst (pc := 105) S0 dX5_take_105 ?_
          refine r_aload_n (pc := 106) S0 0 dX5_take_106 rfl rfl ?_
          refine r_getR (pc := 107) S0 hK fl_X5_29 dX5_take_107 hf (fun x43 hf => ?_)
          refine r_getI (pc := 110) S0 hK fl_X5_133 dX5_take_110 hf (fun x44 c45 hf => ?_)
          refine r_iload_n (pc := 113) S0 1 dX5_take_113 rfl rfl ?_
          obtain ⟨e46, h47, hf⟩ := ok_bind hf
          refine r_cV_V (pc := 114) [iv 2, iv x44, iv a1] S0 hK hX mv_X5_155 (k_X5_put h47) (c_X5_put l cA D N sx ad T A nx v29 w0 2 x44 a1 (cnz 2 rfl) c45 ca1 e46 h47) rfl rfl ⟨by decide, by decide⟩ (Nat.le_of_ble_eq_true rfl) ⟨Nat.le_refl _, Nat.le_refl _⟩ dX5_take_114 ?_
          have hz := ok_some hf
          refine r_lv [0, 1, 2] rfl ?_
          exact K41 e46 hz
    · refine r_if_eq (pc := 72) (tgt := 88) S0 dX5_take_72 (by decide) c27 hf (fun hf => ?_) (fun hf => ?_)
      · have hz := ok_some hf
        refine r_lv [0, 1, 2] rfl ?_
        exact K28 v12 hz
      · refine r_aload_n (pc := 75) S0 0 dX5_take_75 rfl rfl ?_
        refine r_iconst (pc := 76) S0 dX5_take_76 ?_
        refine r_aload_n (pc := 77) S0 0 dX5_take_77 rfl rfl ?_
        refine r_getR (pc := 78) S0 hK fl_X5_29 dX5_take_78 hf (fun x30 hf => ?_)
        refine r_getI (pc := 81) S0 hK fl_X5_130 dX5_take_81 hf (fun x31 c32 hf => ?_)
        refine r_iload_n (pc := 84) S0 1 dX5_take_84 rfl rfl ?_
        obtain ⟨e33, h34, hf⟩ := ok_bind hf
        refine r_cV_V (pc := 85) [iv 1, iv x31, iv a1] S0 hK hX mv_X5_155 (k_X5_put h34) (c_X5_put l cA D N sx ad T A nx v12 w0 1 x31 a1 (cnz 1 rfl) c32 ca1 e33 h34) rfl rfl ⟨by decide, by decide⟩ (Nat.le_of_ble_eq_true rfl) ⟨Nat.le_refl _, Nat.le_refl _⟩ dX5_take_85 ?_
        have hz := ok_some hf
        refine r_lv [0, 1, 2] rfl ?_
        exact K28 e33 hz
  · refine r_if_eq (pc := 25) (tgt := 59) S0 dX5_take_25 (by decide) c10 hf (fun hf => ?_) (fun hf => ?_)
    · have hz := ok_some hf
      refine r_lv [1, 2, 0] rfl ?_
      exact K11 I hz
    · refine r_aload_n (pc := 28) S0 1 dX5_take_28 rfl rfl ?_
      refine r_iconst (pc := 29) S0 dX5_take_29 ?_
      refine r_aload_n (pc := 30) S0 1 dX5_take_30 rfl rfl ?_
      refine r_getR (pc := 31) S0 hK fl_X5_29 dX5_take_31 hf (fun x13 hf => ?_)
      refine r_getI (pc := 34) S0 hK fl_X5_124 dX5_take_34 hf (fun x14 c15 hf => ?_)
      refine r_iload_n (pc := 37) S0 2 dX5_take_37 rfl rfl ?_
      obtain ⟨e16, h17, hf⟩ := ok_bind hf
      refine r_cV_V (pc := 38) [iv 0, iv x14, iv a1] S0 hK hX mv_X5_155 (k_X5_put h17) (c_X5_put l cA D N sx ad T A nx I w0 0 x14 a1 (cnz 0 rfl) c15 ca1 e16 h17) rfl rfl ⟨by decide, by decide⟩ (Nat.le_of_ble_eq_true rfl) ⟨Nat.le_refl _, Nat.le_refl _⟩ dX5_take_38 ?_
      refine r_aload_n (pc := 41) S0 1 dX5_take_41 rfl rfl ?_
      refine r_getR (pc := 42) S0 hK fl_X5_29 dX5_take_42 hf (fun x18 hf => ?_)
      refine r_getR (pc := 45) S0 hK fl_X5_39 dX5_take_45 hf (fun x19 hf => ?_)
      refine r_iconst (pc := 48) S0 dX5_take_48 ?_
      refine r_aload_n (pc := 49) S0 1 dX5_take_49 rfl rfl ?_
      refine r_getR (pc := 50) S0 hK fl_X5_26 dX5_take_50 hf (fun x20 hf => ?_)
      refine r_iconst (pc := 53) S0 dX5_take_53 ?_
      refine r_bipush (pc := 54) S0 dX5_take_54 (by decide) ?_
      refine r_acpi (pc := 56) S0 hK ma_X5_159 dX5_take_56 (cnz 0 rfl) (cnz 0 rfl) (cnz 8 rfl) ⟨Nat.le_of_ble_eq_true rfl, Nat.le_of_ble_eq_true rfl⟩ hf (fun I21 hf => ?_)
      have hz := ok_some hf
      refine r_lv [1, 2, 0] rfl ?_
      exact K11 I21 hz

set_option maxHeartbeats 4000000 in
set_option maxRecDepth 100000 in
theorem c_J6_bitCount_0f7a4 (l : Launch) (cA : Nat → ClassId) (D : va_G) (N : Nat) (sx : Sx) (ad : Nat → Nat) (T : Knd) (A : Rfs) (nx : Nat) (I : Mem) (a0 : Int) (ca0 : cn a0) (e : Int) (h : f_J6_bitCount_0f7a4 T A a0 I = some e) : CtI l yJ6_bitCount_0f7a4 cJ6_bitCount_0f7a4 1 (some .int) 1 60 cA D N sx ad T A nx [iv a0] I I e := by
  refine met_of (lv0 := [(0, iv a0)]) (by decide) (Nat.le_of_ble_eq_true rfl) rfl (fun p e0 s m args below meth c S0 hK hX hr hlk Q hQ => ?_)
  have hf : OK (f_J6_bitCount_0f7a4 T A a0 I) (fun z => z = e) := ⟨e, h, rfl⟩
  unfold f_J6_bitCount_0f7a4 at hf
  refine r_iload_n (pc := 0) S0 0 dJ6_bitCount_0f7a4_0 rfl rfl ?_
  refine r_iload_n (pc := 1) S0 0 dJ6_bitCount_0f7a4_1 rfl rfl ?_
  refine r_iconst (pc := 2) S0 dJ6_bitCount_0f7a4_2 ?_
  refine r_iushr (pc := 3) S0 dJ6_bitCount_0f7a4_3 ?_
  refine r_ldcw (pc := 4) (z := 1431655765) S0 k_J6_265 dJ6_bitCount_0f7a4_4 (by decide) ?_
  refine r_iand (pc := 7) S0 dJ6_bitCount_0f7a4_7 ?_
  refine r_isub (pc := 8) S0 dJ6_bitCount_0f7a4_8 ?_
  refine r_istore_n (pc := 9) (lv' := [(0, iv (isb a0 (iand (iushr a0 1) 1431655765)))]) S0 dJ6_bitCount_0f7a4_9 rfl (by decide) rfl ?_
  refine r_iload_n (pc := 10) S0 0 dJ6_bitCount_0f7a4_10 rfl rfl ?_
  refine r_ldcw (pc := 11) (z := 858993459) S0 k_J6_266 dJ6_bitCount_0f7a4_11 (by decide) ?_
  refine r_iand (pc := 14) S0 dJ6_bitCount_0f7a4_14 ?_
  refine r_iload_n (pc := 15) S0 0 dJ6_bitCount_0f7a4_15 rfl rfl ?_
  refine r_iconst (pc := 16) S0 dJ6_bitCount_0f7a4_16 ?_
  refine r_iushr (pc := 17) S0 dJ6_bitCount_0f7a4_17 ?_
  refine r_ldcw (pc := 18) (z := 858993459) S0 k_J6_266 dJ6_bitCount_0f7a4_18 (by decide) ?_
  refine r_iand (pc := 21) S0 dJ6_bitCount_0f7a4_21 ?_
  refine r_iadd (pc := 22) S0 dJ6_bitCount_0f7a4_22 ?_
  refine r_istore_n (pc := 23) (lv' := [(0, iv (ia (iand (isb a0 (iand (iushr a0 1) 1431655765)) 858993459) (iand (iushr (isb a0 (iand (iushr a0 1) 1431655765)) 2) 858993459)))]) S0 dJ6_bitCount_0f7a4_23 rfl (by decide) rfl ?_
  refine r_iload_n (pc := 24) S0 0 dJ6_bitCount_0f7a4_24 rfl rfl ?_
  refine r_iload_n (pc := 25) S0 0 dJ6_bitCount_0f7a4_25 rfl rfl ?_
  refine r_iconst (pc := 26) S0 dJ6_bitCount_0f7a4_26 ?_
  refine r_iushr (pc := 27) S0 dJ6_bitCount_0f7a4_27 ?_
  refine r_iadd (pc := 28) S0 dJ6_bitCount_0f7a4_28 ?_
  refine r_ldcw (pc := 29) (z := 252645135) S0 k_J6_267 dJ6_bitCount_0f7a4_29 (by decide) ?_
  refine r_iand (pc := 32) S0 dJ6_bitCount_0f7a4_32 ?_
  refine r_istore_n (pc := 33) (lv' := [(0, iv (iand (ia (ia (iand (isb a0 (iand (iushr a0 1) 1431655765)) 858993459) (iand (iushr (isb a0 (iand (iushr a0 1) 1431655765)) 2) 858993459)) (iushr (ia (iand (isb a0 (iand (iushr a0 1) 1431655765)) 858993459) (iand (iushr (isb a0 (iand (iushr a0 1) 1431655765)) 2) 858993459)) 4)) 252645135))]) S0 dJ6_bitCount_0f7a4_33 rfl (by decide) rfl ?_
  refine r_iload_n (pc := 34) S0 0 dJ6_bitCount_0f7a4_34 rfl rfl ?_
  refine r_iload_n (pc := 35) S0 0 dJ6_bitCount_0f7a4_35 rfl rfl ?_
  refine r_bipush (pc := 36) S0 dJ6_bitCount_0f7a4_36 (by decide) ?_
  refine r_iushr (pc := 38) S0 dJ6_bitCount_0f7a4_38 ?_
  refine r_iadd (pc := 39) S0 dJ6_bitCount_0f7a4_39 ?_
  refine r_istore_n (pc := 40) (lv' := [(0, iv (ia (iand (ia (ia (iand (isb a0 (iand (iushr a0 1) 1431655765)) 858993459) (iand (iushr (isb a0 (iand (iushr a0 1) 1431655765)) 2) 858993459)) (iushr (ia (iand (isb a0 (iand (iushr a0 1) 1431655765)) 858993459) (iand (iushr (isb a0 (iand (iushr a0 1) 1431655765)) 2) 858993459)) 4)) 252645135) (iushr (iand (ia (ia (iand (isb a0 (iand (iushr a0 1) 1431655765)) 858993459) (iand (iushr (isb a0 (iand (iushr a0 1) 1431655765)) 2) 858993459)) (iushr (ia (iand (isb a0 (iand (iushr a0 1) 1431655765)) 858993459) (iand (iushr (isb a0 (iand (iushr a0 1) 1431655765)) 2) 858993459)) 4)) 252645135) 8)))]) S0 dJ6_bitCount_0f7a4_40 rfl (by decide) rfl ?_
  refine r_iload_n (pc := 41) S0 0 dJ6_bitCount_0f7a4_41 rfl rfl ?_
  refine r_iload_n (pc := 42) S0 0 dJ6_bitCount_0f7a4_42 rfl rfl ?_
  refine r_bipush (pc := 43) S0 dJ6_bitCount_0f7a4_43 (by decide) ?_
  refine r_iushr (pc := 45) S0 dJ6_bitCount_0f7a4_45 ?_
  refine r_iadd (pc := 46) S0 dJ6_bitCount_0f7a4_46 ?_
  refine r_istore_n (pc := 47) (lv' := [(0, iv (ia (ia (iand (ia (ia (iand (isb a0 (iand (iushr a0 1) 1431655765)) 858993459) (iand (iushr (isb a0 (iand (iushr a0 1) 1431655765)) 2) 858993459)) (iushr (ia (iand (isb a0 (iand (iushr a0 1) 1431655765)) 858993459) (iand (iushr (isb a0 (iand (iushr a0 1) 1431655765)) 2) 858993459)) 4)) 252645135) (iushr (iand (ia (ia (iand (isb a0 (iand (iushr a0 1) 1431655765)) 858993459) (iand (iushr (isb a0 (iand (iushr a0 1) 1431655765)) 2) 858993459)) (iushr (ia (iand (isb a0 (iand (iushr a0 1) 1431655765)) 858993459) (iand (iushr (isb a0 (iand (iushr a0 1) 1431655765)) 2) 858993459)) 4)) 252645135) 8)) (iushr (ia (iand (ia (ia (iand (isb a0 (iand (iushr a0 1) 1431655765)) 858993459) (iand (iushr (isb a0 (iand (iushr a0 1) 1431655765)) 2) 858993459)) (iushr (ia (iand (isb a0 (iand (iushr a0 1) 1431655765)) 858993459) (iand (iushr (isb a0 (iand (iushr a0 1) 1431655765)) 2) 858993459)) 4)) 252645135) (iushr (iand (ia (ia (iand (isb a0 (iand (iushr a0 1) 1431655765)) 858993459) (iand (iushr (isb a0 (iand (iushr a0 1) 1431655765)) 2) 858993459)) (iushr (ia (iand (isb a0 (iand (iushr a0 1) 1431655765)) 858993459) (iand (iushr (isb a0 (iand (iushr a0 1) 1431655765)) 2) 858993459)) 4)) 252645135) 8)) 16)))]) S0 dJ6_bitCount_0f7a4_47 rfl (by decide) rfl ?_
  refine r_iload_n (pc := 48) S0 0 dJ6_bitCount_0f7a4_48 rfl rfl ?_
  refine r_bipush (pc := 49) S0 dJ6_bitCount_0f7a4_49 (by decide) ?_
  refine r_iand (pc := 51) S0 dJ6_bitCount_0f7a4_51 ?_
  have hz := ok_some hf
  have hz : (iand (ia (ia (iand (ia (ia (iand (isb a0 (iand (iushr a0 1) 1431655765)) 858993459) (iand (iushr (isb a0 (iand (iushr a0 1) 1431655765)) 2) 858993459)) (iushr (ia (iand (isb a0 (iand (iushr a0 1) 1431655765)) 858993459) (iand (iushr (isb a0 (iand (iushr a0 1) 1431655765)) 2) 858993459)) 4)) 252645135) (iushr (iand (ia (ia (iand (isb a0 (iand (iushr a0 1) 1431655765)) 858993459) (iand (iushr (isb a0 (iand (iushr a0 1) 1431655765)) 2) 858993459)) (iushr (ia (iand (isb a0 (iand (iushr a0 1) 1431655765)) 858993459) (iand (iushr (isb a0 (iand (iushr a0 1) 1431655765)) 2) 858993459)) 4)) 252645135) 8)) (iushr (ia (iand (ia (ia (iand (isb a0 (iand (iushr a0 1) 1431655765)) 858993459) (iand (iushr (isb a0 (iand (iushr a0 1) 1431655765)) 2) 858993459)) (iushr (ia (iand (isb a0 (iand (iushr a0 1) 1431655765)) 858993459) (iand (iushr (isb a0 (iand (iushr a0 1) 1431655765)) 2) 858993459)) 4)) 252645135) (iushr (iand (ia (ia (iand (isb a0 (iand (iushr a0 1) 1431655765)) 858993459) (iand (iushr (isb a0 (iand (iushr a0 1) 1431655765)) 2) 858993459)) (iushr (ia (iand (isb a0 (iand (iushr a0 1) 1431655765)) 858993459) (iand (iushr (isb a0 (iand (iushr a0 1) 1431655765)) 2) 858993459)) 4)) 252645135) 8)) 16)) 63) = e := hz
  subst hQ
  subst hz
  exact r_iret (pc := 52) S0 hr hlk (cn_toInt _) dJ6_bitCount_0f7a4_52

set_option maxHeartbeats 4000000 in
set_option maxRecDepth 100000 in
theorem c_X5_isHopeless (l : Launch) (cA : Nat → ClassId) (D : va_G) (N : Nat) (sx : Sx) (ad : Nat → Nat) (T : Knd) (A : Rfs) (nx : Nat) (I : Mem) (w0 : Nat) (a1 : Int) (a2 : Int) (ca1 : cn a1) (ca2 : cn a2) (e : Int) (h : f_X5_isHopeless T A w0 a1 a2 I = some e) : CtI l yX5_isHopeless cX5_isHopeless 4 (some .boolean) 3 106 cA D N sx ad T A nx [rv ad w0, iv a1, iv a2] I I e := by
  refine met_of (lv0 := [(0, rv ad w0), (1, iv a1), (2, iv a2)]) (by decide) (Nat.le_of_ble_eq_true rfl) rfl (fun p e0 s m args below meth c S0 hK hX hr hlk Q hQ => ?_)
  have hf : OK (f_X5_isHopeless T A w0 a1 a2 I) (fun z => z = e) := ⟨e, h, rfl⟩
  unfold f_X5_isHopeless at hf
  obtain ⟨hw0, hf⟩ := ok_grd hf
  refine r_iload_n (pc := 0) S0 1 dX5_isHopeless_0 rfl rfl ?_
  refine r_aload_n (pc := 1) S0 0 dX5_isHopeless_1 rfl rfl ?_
  refine r_getI (pc := 2) S0 hK fl_X5_53 dX5_isHopeless_2 hf (fun x1 c2 hf => ?_)
  refine r_iand (pc := 5) S0 dX5_isHopeless_5 ?_
  refine r_if_eq (pc := 6) (tgt := 11) S0 dX5_isHopeless_6 (by decide) (cn_toInt _) hf (fun hf => ?_) (fun hf => ?_)
  · refine r_iconst (pc := 11) S0 dX5_isHopeless_11 ?_
    refine r_istore_n (pc := 12) (lv' := [(3, iv 0), (0, rv ad w0), (1, iv a1), (2, iv a2)]) S0 dX5_isHopeless_12 rfl (by decide) rfl ?_
    refine thn_rule (P := fun v4 => G p l e0 (rmx 3 106) s m args below meth c 0 0 Q cA D N 4 ad T A nx 56 [(0, rv ad w0), (1, iv a1), (2, iv a2)] [] I) hf (fun v4 hf => ?_) (fun K3 hf => ?_)
    · refine r_aload_n (pc := 56) S0 0 dX5_isHopeless_56 rfl rfl ?_
      refine r_getI (pc := 57) S0 hK fl_X5_41 dX5_isHopeless_57 hf (fun x18 c19 hf => ?_)
      refine r_if_ne (pc := 60) (tgt := 70) S0 dX5_isHopeless_60 (by decide) c19 hf (fun hf => ?_) (fun hf => ?_)
      · refine r_iconst (pc := 70) S0 dX5_isHopeless_70 ?_
        have hz := ok_some hf
        have hz : 0 = e := hz
        subst hQ
        subst hz
        exact r_zret (pc := 71) S0 hr hlk (Or.inl rfl) dX5_isHopeless_71
      · refine r_aload_n (pc := 63) S0 0 dX5_isHopeless_63 rfl rfl ?_
        refine r_getI (pc := 64) S0 hK fl_X5_56 dX5_isHopeless_64 hf (fun x20 c21 hf => ?_)
        refine r_if_ne (pc := 67) (tgt := 72) S0 dX5_isHopeless_67 (by decide) c21 hf (fun hf => ?_) (fun hf => ?_)
        · refine r_iload_n (pc := 72) S0 1 dX5_isHopeless_72 rfl rfl ?_
          obtain ⟨e22, h23, hf⟩ := ok_bind hf
          refine r_cS_I (pc := 73) [iv a1] S0 hK hX ms_X5_146 (c_J6_bitCount_0f7a4 l cA D N sx ad T A nx I a1 ca1 e22 h23) rfl rfl ⟨by decide, by decide⟩ (Nat.le_of_ble_eq_true rfl) ⟨Nat.le_refl _, Nat.le_refl _⟩ dX5_isHopeless_73 (fun c24 => ?_)
          refine r_istore_n (pc := 76) (lv' := [(3, iv e22), (0, rv ad w0), (1, iv a1), (2, iv a2)]) S0 dX5_isHopeless_76 rfl (by decide) rfl ?_
          refine r_aload_n (pc := 77) S0 1 dX5_isHopeless_77 rfl rfl ?_
          refine r_iconst (pc := 78) S0 dX5_isHopeless_78 ?_
          refine r_aload_n (pc := 79) S0 1 dX5_isHopeless_79 rfl rfl ?_
          refine r_getR (pc := 80) S0 hK fl_X5_29 dX5_isHopeless_80 hf (fun x25 hf => ?_)
          refine r_getI (pc := 83) S0 hK fl_X5_124 dX5_isHopeless_83 hf (fun x26 c27 hf => ?_)
          refine r_iload_n (pc := 86) S0 0 dX5_isHopeless_86 rfl rfl ?_
          refine r_iadd (pc := 87) S0 dX5_isHopeless_87 ?_
          refine r_iload_n (pc := 88) S0 3 dX5_isHopeless_88 rfl rfl ?_
          refine r_iload_n (pc := 89) S0 0 dX5_isHopeless_89 rfl rfl ?_
          refine r_iadd (pc := 90) S0 dX5_isHopeless_90 ?_
          obtain ⟨e28, h29, hf⟩ := ok_bind hf
          refine r_cV_I (pc := 91) [iv 0, iv (ia x26 e22), iv (ia a2 e22)] S0 hK hX mv_X5_151 (k_X5_isBetter h29) (c_X5_isBetter l cA D N sx ad T A nx I w0 0 (ia x26 e22) (ia a2 e22) (cnz 0 rfl) (cn_wrap _) (cn_wrap _) e28 h29) rfl rfl ⟨by decide, by decide⟩ (Nat.le_of_ble_eq_true rfl) ⟨Nat.le_refl _, Nat.le_refl _⟩ dX5_isHopeless_91 (fun c30 => ?_)
          refine r_if_ne (pc := 94) (tgt := 101) S0 dX5_isHopeless_94 (by decide) c30 hf (fun hf => ?_) (fun hf => ?_)
          · refine r_iconst (pc := 101) S0 dX5_isHopeless_101 ?_
            have hz := ok_some hf
            have hz : 0 = e := hz
            subst hQ
            subst hz
            exact r_zret (pc := 102) S0 hr hlk (Or.inl rfl) dX5_isHopeless_102
          · refine r_iconst (pc := 97) S0 dX5_isHopeless_97 ?_
            refine r_goto (pc := 98) (tgt := 102) S0 dX5_isHopeless_98 (by decide) ?_
            have hz := ok_some hf
            have hz : 1 = e := hz
            subst hQ
            subst hz
            exact r_zret (pc := 102) S0 hr hlk (Or.inr rfl) dX5_isHopeless_102
        · refine r_iconst (pc := 70) S0 dX5_isHopeless_70 ?_
          have hz := ok_some hf
          have hz : 0 = e := hz
          subst hQ
          subst hz
          exact r_zret (pc := 71) S0 hr hlk (Or.inl rfl) dX5_isHopeless_71
    · refine r_lv [1, 2, 3, 0] rfl ?_
      refine it_ind (P := fun s6 => cn s6 → G p l e0 (rmx 3 106) s m args below meth c 0 0 Q cA D N 4 ad T A nx 13 [(0, rv ad w0), (1, iv a1), (2, iv a2), (3, iv s6)] [] I) (fun n0 s6 ih5 hf c7 => ?_) FU 0 hf (cnz 0 rfl)
      refine r_iload_n (pc := 13) S0 3 dX5_isHopeless_13 rfl rfl ?_
      refine r_bipush (pc := 14) S0 dX5_isHopeless_14 (by decide) ?_
      refine r_icmp_ge (pc := 16) (tgt := 56) S0 dX5_isHopeless_16 (by decide) c7 (cnz 8 rfl) hf (fun hf => ?_) (fun hf => ?_)
      · have hz := ok_some hf
        refine r_lv [0, 1, 2] rfl ?_
        exact K3 () hz
      · refine r_iload_n (pc := 19) S0 1 dX5_isHopeless_19 rfl rfl ?_
        refine r_iload_n (pc := 20) S0 3 dX5_isHopeless_20 rfl rfl ?_
        obtain ⟨e8, h9, hf⟩ := ok_bind hf
        refine r_cN_I (pc := 21) [iv a1, iv s6] S0 hK hX mn_X5_91 (c_X11_hasBit l cA D N sx ad T A nx I a1 s6 ca1 c7 e8 h9) rfl rfl ⟨by decide, by decide⟩ (Nat.le_of_ble_eq_true rfl) ⟨Nat.le_refl _, Nat.le_refl _⟩ dX5_isHopeless_21 (fun c10 => ?_)
        refine r_if_eq (pc := 24) (tgt := 50) S0 dX5_isHopeless_24 (by decide) c10 hf (fun hf => ?_) (fun hf => ?_)
        · refine r_iinc (pc := 50) (lv' := [(3, iv (ia s6 1)), (0, rv ad w0), (1, iv a1), (2, iv a2)]) S0 3 dX5_isHopeless_50 rfl (by decide) rfl ?_
          refine r_goto (pc := 53) (tgt := 13) S0 dX5_isHopeless_53 (by decide) ?_
          have hz := ok_some hf
          refine r_lv [1, 2, 3, 0] rfl ?_
          exact ih5 (ia s6 1) hz (cn_wrap _)
        · refine r_aload_n (pc := 27) S0 0 dX5_isHopeless_27 rfl rfl ?_
          refine r_getR (pc := 28) S0 hK fl_X5_29 dX5_isHopeless_28 hf (fun x11 hf => ?_)
          refine r_iload_n (pc := 31) S0 3 dX5_isHopeless_31 rfl rfl ?_
          refine r_aload_n (pc := 32) S0 0 dX5_isHopeless_32 rfl rfl ?_
          refine r_getR (pc := 33) S0 hK fl_X5_29 dX5_isHopeless_33 hf (fun x12 hf => ?_)
          refine r_getI (pc := 36) S0 hK fl_X5_124 dX5_isHopeless_36 hf (fun x13 c14 hf => ?_)
          obtain ⟨e15, h16, hf⟩ := ok_bind hf
          refine r_cV_I (pc := 39) [iv s6, iv x13] S0 hK hX mv_X5_143 (k_X10_unbarred h16) (c_X10_unbarred l cA D N sx ad T A nx I x11 s6 x13 c7 c14 e15 h16) rfl rfl ⟨by decide, by decide⟩ (Nat.le_of_ble_eq_true rfl) ⟨Nat.le_refl _, Nat.le_refl _⟩ dX5_isHopeless_39 (fun c17 => ?_)
          refine r_sipush (pc := 42) S0 dX5_isHopeless_42 (by decide) ?_
          refine r_icmp_lt (pc := 45) (tgt := 50) S0 dX5_isHopeless_45 (by decide) c17 (cnz 400 rfl) hf (fun hf => ?_) (fun hf => ?_)
          · refine r_iinc (pc := 50) (lv' := [(3, iv (ia s6 1)), (0, rv ad w0), (1, iv a1), (2, iv a2)]) S0 3 dX5_isHopeless_50 rfl (by decide) rfl ?_
            refine r_goto (pc := 53) (tgt := 13) S0 dX5_isHopeless_53 (by decide) ?_
            have hz := ok_some hf
            refine r_lv [1, 2, 3, 0] rfl ?_
            exact ih5 (ia s6 1) hz (cn_wrap _)
          · refine r_iconst (pc := 48) S0 dX5_isHopeless_48 ?_
            have hz := ok_some hf
            have hz : 1 = e := hz
            subst hQ
            subst hz
            exact r_zret (pc := 49) S0 hr hlk (Or.inr rfl) dX5_isHopeless_49
  · refine r_iconst (pc := 9) S0 dX5_isHopeless_9 ?_
    have hz := ok_some hf
    have hz : 1 = e := hz
    subst hQ
    subst hz
    exact r_zret (pc := 10) S0 hr hlk (Or.inr rfl) dX5_isHopeless_10

set_option maxHeartbeats 4000000 in
set_option maxRecDepth 100000 in
theorem c_X5_follow (l : Launch) (cA : Nat → ClassId) (D : va_G) (N : Nat) (sx : Sx) (ad : Nat → Nat) (T : Knd) (A : Rfs) (nx : Nat) (dd : Nat) : ∀ (I : Mem) (w0 : Nat) (a1 : Int) (ca1 : cn a1) (e : Mem) (h : f_X5_follow dd T A w0 a1 I = some e), CtV l yX5_follow cX5_follow 11 none (4 + dd) (129 + dd * 30) cA D N sx ad T A nx [rv ad w0, iv a1] I e := by
  induction dd with
  | zero => intro I w0 a1 ca1 e h; unfold f_X5_follow at h; cases h
  | succ dd ihd =>
    intro I w0 a1 ca1 e h
    refine met_of (lv0 := [(0, rv ad w0), (1, iv a1)]) (by decide) (Nat.le_of_ble_eq_true rfl) rfl (fun p e0 s m args below meth c S0 hK hX hr hlk Q hQ => ?_)
    have hf : OK (f_X5_follow (dd + 1) T A w0 a1 I) (fun z => z = e) := ⟨e, h, rfl⟩
    unfold f_X5_follow at hf
    refine r_aload_n (pc := 0) S0 0 dX5_follow_0 rfl rfl ?_
    refine r_getR (pc := 1) S0 hK fl_X5_29 dX5_follow_1 hf (fun x1 hf => ?_)
    refine r_astore_n (pc := 4) (lv' := [(2, rv ad x1), (0, rv ad w0), (1, iv a1)]) S0 dX5_follow_4 rfl (by decide) rfl ?_
    refine r_aload_n (pc := 5) S0 0 dX5_follow_5 rfl rfl ?_
    obtain ⟨e2, h3, hf⟩ := ok_bind hf
    refine r_cV_I (pc := 6) [] S0 hK hX mv_X5_114 (k_X10_missing h3) (c_X10_missing l cA D N sx ad T A nx I x1 e2 h3) rfl rfl ⟨by dsimp only [rmx]; omega, by dsimp only [rmx]; omega⟩ (Nat.le_of_ble_eq_true rfl) ⟨Nat.le_refl _, Nat.le_refl _⟩ dX5_follow_6 (fun c4 => ?_)
    refine r_istore_n (pc := 9) (lv' := [(3, iv e2), (2, rv ad x1), (0, rv ad w0), (1, iv a1)]) S0 dX5_follow_9 rfl (by decide) rfl ?_
    refine r_iload_n (pc := 10) S0 0 dX5_follow_10 rfl rfl ?_
    refine r_if_ne (pc := 11) (tgt := 20) S0 dX5_follow_11 (by decide) c4 hf (fun hf => ?_) (fun hf => ?_)
    · refine r_iload_n (pc := 20) S0 3 dX5_follow_20 rfl rfl ?_
      refine r_bipush (pc := 21) S0 dX5_follow_21 (by decide) ?_
      refine r_icmp_ge (pc := 23) (tgt := 35) S0 dX5_follow_23 (by decide) ca1 (cnz 8 rfl) hf (fun hf => ?_) (fun hf => ?_)
      · have hz := ok_some hf
        have hz : I = e := hz
        subst hQ
        subst hz
        exact r_vret (pc := 35) S0 hr hlk dX5_follow_35
      · refine r_aload_n (pc := 26) S0 2 dX5_follow_26 rfl rfl ?_
        refine r_iload_n (pc := 27) S0 0 dX5_follow_27 rfl rfl ?_
        refine r_iload_n (pc := 28) S0 3 dX5_follow_28 rfl rfl ?_
        obtain ⟨e5, h6, hf⟩ := ok_bind hf
        refine r_cV_I (pc := 29) [iv e2, iv a1] S0 hK hX mv_X5_121 (k_X5_isHopeless h6) (c_X5_isHopeless l cA D N sx ad T A nx I w0 e2 a1 c4 ca1 e5 h6) rfl rfl ⟨by dsimp only [rmx]; omega, by dsimp only [rmx]; omega⟩ (Nat.le_of_ble_eq_true rfl) ⟨Nat.le_refl _, Nat.le_refl _⟩ dX5_follow_29 (fun c7 => ?_)
        refine r_if_eq (pc := 32) (tgt := 36) S0 dX5_follow_32 (by decide) c7 hf (fun hf => ?_) (fun hf => ?_)
        · refine r_aload_n (pc := 36) S0 1 dX5_follow_36 rfl rfl ?_
          refine r_getI (pc := 37) S0 hK fl_X5_124 dX5_follow_37 hf (fun x8 c9 hf => ?_)
          refine r_istore (pc := 40) (lv' := [(4, iv x8), (3, iv e2), (2, rv ad x1), (0, rv ad w0), (1, iv a1)]) S0 dX5_follow_40 (by decide) rfl ?_
          refine r_aload_n (pc := 42) S0 2 dX5_follow_42 rfl rfl ?_
          refine r_getI (pc := 43) S0 hK fl_X5_127 dX5_follow_43 hf (fun x10 c11 hf => ?_)
          refine r_istore (pc := 46) (lv' := [(5, iv x10), (4, iv x8), (3, iv e2), (2, rv ad x1), (0, rv ad w0), (1, iv a1)]) S0 dX5_follow_46 (by decide) rfl ?_
          refine r_aload_n (pc := 48) S0 3 dX5_follow_48 rfl rfl ?_
          refine r_getI (pc := 49) S0 hK fl_X5_130 dX5_follow_49 hf (fun x12 c13 hf => ?_)
          refine r_istore (pc := 52) (lv' := [(6, iv x12), (5, iv x10), (4, iv x8), (3, iv e2), (2, rv ad x1), (0, rv ad w0), (1, iv a1)]) S0 dX5_follow_52 (by decide) rfl ?_
          refine r_aload_n (pc := 54) S0 4 dX5_follow_54 rfl rfl ?_
          refine r_getI (pc := 55) S0 hK fl_X5_133 dX5_follow_55 hf (fun x14 c15 hf => ?_)
          refine r_istore (pc := 58) (lv' := [(7, iv x14), (6, iv x12), (5, iv x10), (4, iv x8), (3, iv e2), (2, rv ad x1), (0, rv ad w0), (1, iv a1)]) S0 dX5_follow_58 (by decide) rfl ?_
          refine r_iconst (pc := 60) S0 dX5_follow_60 ?_
          refine r_istore (pc := 61) (lv' := [(8, iv 0), (7, iv x14), (6, iv x12), (5, iv x10), (4, iv x8), (3, iv e2), (2, rv ad x1), (0, rv ad w0), (1, iv a1)]) S0 dX5_follow_61 (by decide) rfl ?_
          refine r_lv [7, 8, 6, 4, 3, 2, 1, 0] rfl ?_
          refine it_ind (P := fun s17 => cn s17.1 → G p l e0 (rmx (4 + (dd + 1)) (129 + (dd + 1) * 30)) s m args below meth c 0 0 Q cA D N 11 ad T A nx 63 [(0, rv ad w0), (1, iv a1), (2, rv ad x1), (4, iv x8), (5, iv x10), (6, iv x12), (7, iv x14), (8, iv s17.1)] [] s17.2) (fun n0 s17 ih16 hf c18 => ?_) FU (0, I) hf (cnz 0 rfl)
          refine r_iload (pc := 63) S0 7 dX5_follow_63 rfl ?_
          refine r_aload_n (pc := 65) S0 2 dX5_follow_65 rfl rfl ?_
          refine r_getR (pc := 66) S0 hK fl_X5_68 dX5_follow_66 hf (fun x19 hf => ?_)
          refine r_getI (pc := 69) S0 hK fl_X5_95 dX5_follow_69 hf (fun x20 c21 hf => ?_)
          refine r_icmp_ge (pc := 72) (tgt := 211) S0 dX5_follow_72 (by decide) c18 c21 hf (fun hf => ?_) (fun hf => ?_)
          · have hz := ok_some hf
            have hz : s17.2 = e := hz
            subst hQ
            subst hz
            exact r_vret (pc := 211) S0 hr hlk dX5_follow_211
          · refine r_iload (pc := 75) S0 7 dX5_follow_75 rfl ?_
            refine r_bipush (pc := 77) S0 dX5_follow_77 (by decide) ?_
            refine r_icmp_ge (pc := 79) (tgt := 211) S0 dX5_follow_79 (by decide) c18 (cnz 8 rfl) hf (fun hf => ?_) (fun hf => ?_)
            · have hz := ok_some hf
              have hz : s17.2 = e := hz
              subst hQ
              subst hz
              exact r_vret (pc := 211) S0 hr hlk dX5_follow_211
            · refine r_aload_n (pc := 82) S0 0 dX5_follow_82 rfl rfl ?_
              refine r_getI (pc := 83) S0 hK fl_X5_53 dX5_follow_83 hf (fun x22 c23 hf => ?_)
              refine r_iload (pc := 86) S0 7 dX5_follow_86 rfl ?_
              obtain ⟨e24, h25, hf⟩ := ok_bind hf
              refine r_cN_I (pc := 88) [iv x22, iv s17.1] S0 hK hX mn_X5_91 (c_X11_hasBit l cA D N sx ad T A nx s17.2 x22 s17.1 c23 c18 e24 h25) rfl rfl ⟨by dsimp only [rmx]; omega, by dsimp only [rmx]; omega⟩ (Nat.le_of_ble_eq_true rfl) ⟨Nat.le_refl _, Nat.le_refl _⟩ dX5_follow_88 (fun c26 => ?_)
              refine thn_rule (P := fun v28 => cn v28 → G p l e0 (rmx (4 + (dd + 1)) (129 + (dd + 1) * 30)) s m args below meth c 0 0 Q cA D N 11 ad T A nx 104 [(0, rv ad w0), (1, iv a1), (2, rv ad x1), (4, iv x8), (5, iv x10), (6, iv x12), (7, iv x14), (8, iv s17.1)] [iv v28] s17.2) hf (fun v28 hf c29 => ?_) (fun K27 hf => ?_)
              · refine r_istore (pc := 104) (lv' := [(9, iv v28), (0, rv ad w0), (1, iv a1), (2, rv ad x1), (4, iv x8), (5, iv x10), (6, iv x12), (7, iv x14), (8, iv s17.1)]) S0 dX5_follow_104 (by decide) rfl ?_
                refine r_iload (pc := 106) S0 0 dX5_follow_106 rfl ?_
                refine r_iconst (pc := 108) S0 dX5_follow_108 ?_
                refine r_icmp_eq (pc := 109) (tgt := 205) S0 dX5_follow_109 (by decide) c29 (cnz (-1) rfl) hf (fun hf => ?_) (fun hf => ?_)
                · refine r_iinc (pc := 205) (lv' := [(8, iv (ia s17.1 1)), (9, iv v28), (0, rv ad w0), (1, iv a1), (2, rv ad x1), (4, iv x8), (5, iv x10), (6, iv x12), (7, iv x14)]) S0 8 dX5_follow_205 rfl (by decide) rfl ?_
                  refine r_goto (pc := 208) (tgt := 63) S0 dX5_follow_208 (by decide) ?_
                  have hz := ok_some hf
                  refine r_lv [2, 3, 4, 5, 6, 7, 8, 0] rfl ?_
                  exact ih16 (ia s17.1 1, s17.2) hz (cn_wrap _)
                · refine r_aload_n (pc := 112) S0 3 dX5_follow_112 rfl rfl ?_
                  refine r_getR (pc := 113) S0 hK fl_X5_39 dX5_follow_113 hf (fun x33 hf => ?_)
                  refine r_iload (pc := 116) S0 8 dX5_follow_116 rfl ?_
                  refine r_iald (pc := 118) S0 hK dX5_follow_118 c18 hf (fun x34 c35 hf => ?_)
                  refine r_istore (pc := 119) (lv' := [(10, iv x34), (9, iv v28), (0, rv ad w0), (1, iv a1), (2, rv ad x1), (4, iv x8), (5, iv x10), (6, iv x12), (7, iv x14), (8, iv s17.1)]) S0 dX5_follow_119 (by decide) rfl ?_
                  refine r_aload_n (pc := 121) S0 2 dX5_follow_121 rfl rfl ?_
                  refine r_getR (pc := 122) S0 hK fl_X5_9 dX5_follow_122 hf (fun x36 hf => ?_)
                  refine r_iload_n (pc := 125) S0 3 dX5_follow_125 rfl rfl ?_
                  refine r_iload (pc := 126) S0 9 dX5_follow_126 rfl ?_
                  refine r_iast (pc := 128) S0 hK dX5_follow_128 ca1 c18 hf (fun I37 hf => ?_)
                  refine r_aload_n (pc := 129) S0 2 dX5_follow_129 rfl rfl ?_
                  refine r_dup (pc := 130) S0 dX5_follow_130 rfl ?_
                  refine r_getI (pc := 131) S0 hK fl_X5_53 dX5_follow_131 hf (fun x38 c39 hf => ?_)
                  refine r_iconst (pc := 134) S0 dX5_follow_134 ?_
                  refine r_iload (pc := 135) S0 9 dX5_follow_135 rfl ?_
                  refine r_ishl (pc := 137) S0 dX5_follow_137 ?_
                  refine r_ior (pc := 138) S0 dX5_follow_138 ?_
                  refine r_putI (pc := 139) S0 hK fl_X5_53 rfl rfl (cn_toInt _) dX5_follow_139 hf (fun I40 hf => ?_)
                  refine r_aload_n (pc := 142) S0 4 dX5_follow_142 rfl rfl ?_
                  refine r_iload (pc := 143) S0 9 dX5_follow_143 rfl ?_
                  refine r_iload (pc := 145) S0 1 dX5_follow_145 rfl ?_
                  obtain ⟨e41, h42, hf⟩ := ok_bind hf
                  refine r_cV_V (pc := 147) [iv s17.1, iv v28] S0 hK hX mv_X5_139 (k_X10_stampIn h42) (c_X10_stampIn l cA D N sx ad T A nx I40 x1 s17.1 v28 c18 c29 e41 h42) rfl rfl ⟨by dsimp only [rmx]; omega, by dsimp only [rmx]; omega⟩ (Nat.le_of_ble_eq_true rfl) ⟨Nat.le_refl _, Nat.le_refl _⟩ dX5_follow_147 ?_
                  refine r_aload_n (pc := 150) S0 2 dX5_follow_150 rfl rfl ?_
                  refine r_iload_n (pc := 151) S0 3 dX5_follow_151 rfl rfl ?_
                  refine r_iconst (pc := 152) S0 dX5_follow_152 ?_
                  refine r_iadd (pc := 153) S0 dX5_follow_153 ?_
                  obtain ⟨e43, h44, hf⟩ := ok_bind hf
                  refine r_cS_V (pc := 154) [rv ad w0, iv (ia a1 1)] S0 hK hX ms_X5_80 (ihd e41 w0 (ia a1 1) (cn_wrap _) e43 h44) rfl rfl ⟨by dsimp only [rmx]; omega, by dsimp only [rmx]; omega⟩ (Nat.le_of_ble_eq_true rfl) ⟨Nat.le_refl _, Nat.le_refl _⟩ dX5_follow_154 ?_
                  refine r_aload_n (pc := 157) S0 4 dX5_follow_157 rfl rfl ?_
                  refine r_getR (pc := 158) S0 hK fl_X5_39 dX5_follow_158 hf (fun x45 hf => ?_)
                  refine r_iload (pc := 161) S0 9 dX5_follow_161 rfl ?_
                  refine r_iload (pc := 163) S0 0 dX5_follow_163 rfl ?_
                  refine r_iast (pc := 165) S0 hK dX5_follow_165 c18 c35 hf (fun I46 hf => ?_)
                  refine r_aload_n (pc := 166) S0 4 dX5_follow_166 rfl rfl ?_
                  refine r_iload (pc := 167) S0 5 dX5_follow_167 rfl ?_
                  refine r_putI (pc := 169) S0 hK fl_X5_124 rfl rfl c9 dX5_follow_169 hf (fun I47 hf => ?_)
                  refine r_aload_n (pc := 172) S0 4 dX5_follow_172 rfl rfl ?_
                  refine r_iload (pc := 173) S0 6 dX5_follow_173 rfl ?_
                  refine r_putI (pc := 175) S0 hK fl_X5_127 rfl rfl c11 dX5_follow_175 hf (fun I48 hf => ?_)
                  refine r_aload_n (pc := 178) S0 4 dX5_follow_178 rfl rfl ?_
                  refine r_iload (pc := 179) S0 7 dX5_follow_179 rfl ?_
                  refine r_putI (pc := 181) S0 hK fl_X5_130 rfl rfl c13 dX5_follow_181 hf (fun I49 hf => ?_)
                  refine r_aload_n (pc := 184) S0 4 dX5_follow_184 rfl rfl ?_
                  refine r_iload (pc := 185) S0 8 dX5_follow_185 rfl ?_
                  refine r_putI (pc := 187) S0 hK fl_X5_133 rfl rfl c15 dX5_follow_187 hf (fun I50 hf => ?_)
                  refine r_aload_n (pc := 190) S0 2 dX5_follow_190 rfl rfl ?_
                  refine r_dup (pc := 191) S0 dX5_follow_191 rfl ?_
                  refine r_getI (pc := 192) S0 hK fl_X5_53 dX5_follow_192 hf (fun x51 c52 hf => ?_)
                  refine r_iconst (pc := 195) S0 dX5_follow_195 ?_
                  refine r_iload (pc := 196) S0 9 dX5_follow_196 rfl ?_
                  refine r_ishl (pc := 198) S0 dX5_follow_198 ?_
                  refine r_iconst (pc := 199) S0 dX5_follow_199 ?_
                  refine r_ixor (pc := 200) S0 dX5_follow_200 ?_
                  refine r_iand (pc := 201) S0 dX5_follow_201 ?_
                  refine r_putI (pc := 202) S0 hK fl_X5_53 rfl rfl (cn_toInt _) dX5_follow_202 hf (fun I53 hf => ?_)
                  refine r_iinc (pc := 205) (lv' := [(8, iv (ia s17.1 1)), (10, iv x34), (9, iv v28), (0, rv ad w0), (1, iv a1), (2, rv ad x1), (4, iv x8), (5, iv x10), (6, iv x12), (7, iv x14)]) S0 9 dX5_follow_205 rfl (by decide) rfl ?_
                  refine r_goto (pc := 208) (tgt := 63) S0 dX5_follow_208 (by decide) ?_
                  have hz := ok_some hf
                  refine r_lv [3, 4, 5, 6, 7, 8, 9, 0] rfl ?_
                  exact ih16 (ia s17.1 1, I53) hz (cn_wrap _)
              · refine r_if_eq (pc := 91) (tgt := 98) S0 dX5_follow_91 (by decide) c26 hf (fun hf => ?_) (fun hf => ?_)
                · refine r_aload_n (pc := 98) S0 2 dX5_follow_98 rfl rfl ?_
                  refine r_iload (pc := 99) S0 7 dX5_follow_99 rfl ?_
                  obtain ⟨e30, h31, hf⟩ := ok_bind hf
                  refine r_cV_I (pc := 101) [iv s17.1] S0 hK hX mv_X5_136 (k_X10_stampHour h31) (c_X10_stampHour l cA D N sx ad T A nx s17.2 x1 s17.1 c18 e30 h31) rfl rfl ⟨by dsimp only [rmx]; omega, by dsimp only [rmx]; omega⟩ (Nat.le_of_ble_eq_true rfl) ⟨Nat.le_refl _, Nat.le_refl _⟩ dX5_follow_101 (fun c32 => ?_)
                  have hz := ok_some hf
                  refine r_lv [0, 1, 2, 3, 4, 5, 6, 7] rfl ?_
                  exact K27 e30 hz c32
                · refine r_iconst (pc := 94) S0 dX5_follow_94 ?_
                  refine r_goto (pc := 95) (tgt := 104) S0 dX5_follow_95 (by decide) ?_
                  have hz := ok_some hf
                  refine r_lv [0, 1, 2, 3, 4, 5, 6, 7] rfl ?_
                  exact K27 (-1) hz (cnz (-1) rfl)
        · have hz := ok_some hf
          have hz : I = e := hz
          subst hQ
          subst hz
          exact r_vret (pc := 35) S0 hr hlk dX5_follow_35
    · refine r_aload_n (pc := 14) S0 2 dX5_follow_14 rfl rfl ?_
      refine r_iload_n (pc := 15) S0 3 dX5_follow_15 rfl rfl ?_
      obtain ⟨e54, h55, hf⟩ := ok_bind hf
      refine r_cV_V (pc := 16) [iv a1] S0 hK hX mv_X5_117 (k_X5_take h55) (c_X5_take l cA D N sx ad T A nx I w0 a1 ca1 e54 h55) rfl rfl ⟨by dsimp only [rmx]; omega, by dsimp only [rmx]; omega⟩ (Nat.le_of_ble_eq_true rfl) ⟨Nat.le_refl _, Nat.le_refl _⟩ dX5_follow_16 ?_
      have hz := ok_some hf
      have hz : e54 = e := hz
      subst hQ
      subst hz
      exact r_vret (pc := 19) S0 hr hlk dX5_follow_19

set_option maxHeartbeats 4000000 in
set_option maxRecDepth 100000 in
theorem c_X5_search (l : Launch) (cA : Nat → ClassId) (D : va_G) (N : Nat) (sx : Sx) (ad : Nat → Nat) (T : Knd) (A : Rfs) (nx : Nat) (I : Mem) (w0 : Nat) (w1 : Nat) (a2 : Int) (a3 : Int) (ca2 : cn a2) (ca3 : cn a3) (e : Mem) (h : f_X5_search T A w0 w1 a2 a3 I = some e) : CtV l yX5_search cX5_search 4 none 17 519 cA D N sx ad T A nx [rv ad w0, rv ad w1, iv a2, iv a3] I e := by
  refine met_of (lv0 := [(0, rv ad w0), (1, rv ad w1), (2, iv a2), (3, iv a3)]) (by decide) (Nat.le_of_ble_eq_true rfl) rfl (fun p e0 s m args below meth c S0 hK hX hr hlk Q hQ => ?_)
  have hf : OK (f_X5_search T A w0 w1 a2 a3 I) (fun z => z = e) := ⟨e, h, rfl⟩
  unfold f_X5_search at hf
  obtain ⟨hw0, hf⟩ := ok_grd hf
  refine r_aload_n (pc := 0) S0 0 dX5_search_0 rfl rfl ?_
  refine r_getR (pc := 1) S0 hK fl_X5_29 dX5_search_1 hf (fun x1 hf => ?_)
  refine r_aload_n (pc := 4) S0 1 dX5_search_4 rfl rfl ?_
  obtain ⟨e2, h3, hf⟩ := ok_bind hf
  refine r_cV_V (pc := 5) [rv ad w1] S0 hK hX mv_X5_33 (k_X10_joins h3) (c_X10_joins l cA D N sx ad T A nx I x1 w1 e2 h3) rfl rfl ⟨by decide, by decide⟩ (Nat.le_of_ble_eq_true rfl) ⟨Nat.le_refl _, Nat.le_refl _⟩ dX5_search_5 ?_
  refine r_iload_n (pc := 8) S0 2 dX5_search_8 rfl rfl ?_
  refine thn_rule (P := fun v5 => G p l e0 (rmx 17 519) s m args below meth c 0 0 Q cA D N 4 ad T A nx 29 [(0, rv ad w0), (3, iv a3)] [] v5) hf (fun v5 hf => ?_) (fun K4 hf => ?_)
  · refine r_aload_n (pc := 29) S0 0 dX5_search_29 rfl rfl ?_
    refine r_iload_n (pc := 30) S0 1 dX5_search_30 rfl rfl ?_
    refine r_putZ (pc := 31) S0 hK fl_X5_41 rfl rfl dX5_search_31 hf (fun I9 hf => ?_)
    refine r_aload_n (pc := 34) S0 0 dX5_search_34 rfl rfl ?_
    refine r_aload_n (pc := 35) S0 0 dX5_search_35 rfl rfl ?_
    refine r_getR (pc := 36) S0 hK fl_X5_29 dX5_search_36 hf (fun x10 hf => ?_)
    obtain ⟨e11, h12, hf⟩ := ok_bind hf
    refine r_cV_I (pc := 39) [] S0 hK hX mv_X5_45 (k_X10_holding h12) (c_X10_holding l cA D N sx ad T A nx I9 x10 e11 h12) rfl rfl ⟨by decide, by decide⟩ (Nat.le_of_ble_eq_true rfl) ⟨Nat.le_refl _, Nat.le_refl _⟩ dX5_search_39 (fun c13 => ?_)
    refine r_putI (pc := 42) S0 hK fl_X5_49 rfl rfl c13 dX5_search_42 hf (fun I14 hf => ?_)
    refine r_aload_n (pc := 45) S0 0 dX5_search_45 rfl rfl ?_
    refine r_aload_n (pc := 46) S0 0 dX5_search_46 rfl rfl ?_
    refine r_getI (pc := 47) S0 hK fl_X5_49 dX5_search_47 hf (fun x15 c16 hf => ?_)
    refine r_putI (pc := 50) S0 hK fl_X5_53 rfl rfl c16 dX5_search_50 hf (fun I17 hf => ?_)
    refine r_aload_n (pc := 53) S0 0 dX5_search_53 rfl rfl ?_
    refine r_iconst (pc := 54) S0 dX5_search_54 ?_
    refine r_putI (pc := 55) S0 hK fl_X5_56 rfl rfl (cnz 0 rfl) dX5_search_55 hf (fun I18 hf => ?_)
    refine r_aload_n (pc := 58) S0 0 dX5_search_58 rfl rfl ?_
    refine r_iconst (pc := 59) S0 dX5_search_59 ?_
    refine r_putI (pc := 60) S0 hK fl_X5_59 rfl rfl (cnz (-1) rfl) dX5_search_60 hf (fun I19 hf => ?_)
    refine r_aload_n (pc := 63) S0 0 dX5_search_63 rfl rfl ?_
    refine r_iconst (pc := 64) S0 dX5_search_64 ?_
    refine r_putI (pc := 65) S0 hK fl_X5_62 rfl rfl (cnz 0 rfl) dX5_search_65 hf (fun I20 hf => ?_)
    refine r_aload_n (pc := 68) S0 0 dX5_search_68 rfl rfl ?_
    refine r_iconst (pc := 69) S0 dX5_search_69 ?_
    refine r_putI (pc := 70) S0 hK fl_X5_65 rfl rfl (cnz 0 rfl) dX5_search_70 hf (fun I21 hf => ?_)
    refine r_aload_n (pc := 73) S0 0 dX5_search_73 rfl rfl ?_
    refine r_getR (pc := 74) S0 hK fl_X5_29 dX5_search_74 hf (fun x22 hf => ?_)
    refine r_getR (pc := 77) S0 hK fl_X5_68 dX5_search_77 hf (fun x23 hf => ?_)
    refine r_getI (pc := 80) S0 hK fl_X5_72 dX5_search_80 hf (fun x24 c25 hf => ?_)
    refine r_aload_n (pc := 83) S0 0 dX5_search_83 rfl rfl ?_
    obtain ⟨e26, h27, hf⟩ := ok_bind hf
    refine r_cV_I (pc := 84) [] S0 hK hX mv_X5_77 (k_X5_obtainable h27) (c_X5_obtainable l cA D N sx ad T A nx I21 w0 e26 h27) rfl rfl ⟨by decide, by decide⟩ (Nat.le_of_ble_eq_true rfl) ⟨Nat.le_refl _, Nat.le_refl _⟩ dX5_search_84 (fun c28 => ?_)
    refine r_iconst (pc := 87) S0 dX5_search_87 ?_
    refine r_ixor (pc := 88) S0 dX5_search_88 ?_
    refine r_iand (pc := 89) S0 dX5_search_89 ?_
    refine thn_rule (P := fun v30 => G p l e0 (rmx 17 519) s m args below meth c 0 0 Q cA D N 4 ad T A nx 98 [(0, rv ad w0)] [] v30) hf (fun v30 hf => ?_) (fun K29 hf => ?_)
    · refine r_aload_n (pc := 98) S0 0 dX5_search_98 rfl rfl ?_
      refine r_iconst (pc := 99) S0 dX5_search_99 ?_
      refine r_putZ (pc := 100) S0 hK fl_X5_84 rfl rfl dX5_search_100 hf (fun I33 hf => ?_)
      have hz := ok_some hf
      have hz : I33 = e := hz
      subst hQ
      subst hz
      exact r_vret (pc := 103) S0 hr hlk dX5_search_103
    · refine r_if_ne (pc := 90) (tgt := 98) S0 dX5_search_90 (by decide) (cn_toInt _) hf (fun hf => ?_) (fun hf => ?_)
      · have hz := ok_some hf
        refine r_lv [0] rfl ?_
        exact K29 I21 hz
      · refine r_aload_n (pc := 93) S0 0 dX5_search_93 rfl rfl ?_
        refine r_iconst (pc := 94) S0 dX5_search_94 ?_
        obtain ⟨e31, h32, hf⟩ := ok_bind hf
        refine r_cS_V (pc := 95) [rv ad w0, iv 0] S0 hK hX ms_X5_80 (c_X5_follow l cA D N sx ad T A nx 12 I21 w0 0 (cnz 0 rfl) e31 h32) rfl rfl ⟨by dsimp only [rmx]; omega, by dsimp only [rmx]; omega⟩ (Nat.le_of_ble_eq_true rfl) ⟨Nat.le_refl _, Nat.le_refl _⟩ dX5_search_95 ?_
        have hz := ok_some hf
        refine r_lv [0] rfl ?_
        exact K29 e31 hz
  · refine r_if_lt (pc := 9) (tgt := 29) S0 dX5_search_9 (by decide) ca2 hf (fun hf => ?_) (fun hf => ?_)
    · have hz := ok_some hf
      refine r_lv [0, 3] rfl ?_
      exact K4 e2 hz
    · refine r_iload_n (pc := 12) S0 2 dX5_search_12 rfl rfl ?_
      refine r_bipush (pc := 13) S0 dX5_search_13 (by decide) ?_
      refine r_icmp_ge (pc := 15) (tgt := 29) S0 dX5_search_15 (by decide) ca2 (cnz 8 rfl) hf (fun hf => ?_) (fun hf => ?_)
      · have hz := ok_some hf
        refine r_lv [0, 3] rfl ?_
        exact K4 e2 hz
      · refine r_aload_n (pc := 18) S0 0 dX5_search_18 rfl rfl ?_
        refine r_getR (pc := 19) S0 hK fl_X5_29 dX5_search_19 hf (fun x6 hf => ?_)
        refine r_getR (pc := 22) S0 hK fl_X5_39 dX5_search_22 hf (fun x7 hf => ?_)
        refine r_iload_n (pc := 25) S0 2 dX5_search_25 rfl rfl ?_
        refine r_ldc (pc := 26) (z := 1000000) S0 k_X5_40 dX5_search_26 (by decide) ?_
        refine r_iast (pc := 28) S0 hK dX5_search_28 ca2 (cnz 1000000 rfl) hf (fun I8 hf => ?_)
        have hz := ok_some hf
        refine r_lv [0, 3] rfl ?_
        exact K4 I8 hz

set_option maxHeartbeats 4000000 in
set_option maxRecDepth 100000 in
theorem c_X11_soonRows (l : Launch) (cA : Nat → ClassId) (D : va_G) (N : Nat) (sx : Sx) (ad : Nat → Nat) (T : Knd) (A : Rfs) (nx : Nat) (I : Mem) (w0 : Nat)  (e : (Nat × Mem)) (h : f_X11_soonRows T A w0 I = some e) : CtR l yX11_soonRows cX11_soonRows 1 (some (.object RX5)) 18 542 cA D N sx ad T A nx [rv ad w0] I e.2 e.1 := by
  refine met_of (lv0 := [(0, rv ad w0)]) (by decide) (Nat.le_of_ble_eq_true rfl) rfl (fun p e0 s m args below meth c S0 hK hX hr hlk Q hQ => ?_)
  have hf : OK (f_X11_soonRows T A w0 I) (fun z => z = e) := ⟨e, h, rfl⟩
  unfold f_X11_soonRows at hf
  obtain ⟨hw0, hf⟩ := ok_grd hf
  refine r_aload_n (pc := 0) S0 0 dX11_soonRows_0 rfl rfl ?_
  refine r_getR (pc := 1) S0 hK fl_X11_56 dX11_soonRows_1 hf (fun x1 hf => ?_)
  refine r_getI (pc := 4) S0 hK fl_X11_398 dX11_soonRows_4 hf (fun x2 c3 hf => ?_)
  refine thn_rule (P := fun v5 => G p l e0 (rmx 18 542) s m args below meth c 0 0 Q cA D N 1 ad T A nx 23 [(0, rv ad w0)] [] v5) hf (fun v5 hf => ?_) (fun K4 hf => ?_)
  · refine r_aload_n (pc := 23) S0 0 dX11_soonRows_23 rfl rfl ?_
    refine r_getR (pc := 24) S0 hK fl_X11_56 dX11_soonRows_24 hf (fun x10 hf => ?_)
    have hz := ok_some hf
    have hz : (x10, v5) = e := hz
    subst hQ
    subst hz
    exact r_aret (pc := 27) S0 hr hlk dX11_soonRows_27
  · refine r_if_ne (pc := 7) (tgt := 23) S0 dX11_soonRows_7 (by decide) c3 hf (fun hf => ?_) (fun hf => ?_)
    · have hz := ok_some hf
      refine r_lv [0] rfl ?_
      exact K4 I hz
    · refine r_aload_n (pc := 10) S0 0 dX11_soonRows_10 rfl rfl ?_
      refine r_getR (pc := 11) S0 hK fl_X11_56 dX11_soonRows_11 hf (fun x6 hf => ?_)
      refine r_aload_n (pc := 14) S0 0 dX11_soonRows_14 rfl rfl ?_
      refine r_getR (pc := 15) S0 hK fl_X11_44 dX11_soonRows_15 hf (fun x7 hf => ?_)
      refine r_iconst (pc := 18) S0 dX11_soonRows_18 ?_
      refine r_iconst (pc := 19) S0 dX11_soonRows_19 ?_
      obtain ⟨e8, h9, hf⟩ := ok_bind hf
      refine r_cV_V (pc := 20) [rv ad x7, iv (-1), iv 0] S0 hK hX mv_X11_401 (k_X5_search h9) (c_X5_search l cA D N sx ad T A nx I x6 x7 (-1) 0 (cnz (-1) rfl) (cnz 0 rfl) e8 h9) rfl rfl ⟨by decide, by decide⟩ (Nat.le_of_ble_eq_true rfl) ⟨Nat.le_refl _, Nat.le_refl _⟩ dX11_soonRows_20 ?_
      have hz := ok_some hf
      refine r_lv [0] rfl ?_
      exact K4 e8 hz

set_option maxHeartbeats 4000000 in
set_option maxRecDepth 100000 in
theorem c_X5_best (l : Launch) (cA : Nat → ClassId) (D : va_G) (N : Nat) (sx : Sx) (ad : Nat → Nat) (T : Knd) (A : Rfs) (nx : Nat) (I : Mem) (w0 : Nat) (a1 : Int) (ca1 : cn a1) (e : Int) (h : f_X5_best T A w0 a1 I = some e) : CtI l yX5_best cX5_best 2 (some .int) 1 60 cA D N sx ad T A nx [rv ad w0, iv a1] I I e := by
  refine met_of (lv0 := [(0, rv ad w0), (1, iv a1)]) (by decide) (Nat.le_of_ble_eq_true rfl) rfl (fun p e0 s m args below meth c S0 hK hX hr hlk Q hQ => ?_)
  have hf : OK (f_X5_best T A w0 a1 I) (fun z => z = e) := ⟨e, h, rfl⟩
  unfold f_X5_best at hf
  obtain ⟨hw0, hf⟩ := ok_grd hf
  refine r_aload_n (pc := 0) S0 0 dX5_best_0 rfl rfl ?_
  refine r_getI (pc := 1) S0 hK fl_X5_56 dX5_best_1 hf (fun x1 c2 hf => ?_)
  refine r_if_le (pc := 4) (tgt := 16) S0 dX5_best_4 (by decide) c2 hf (fun hf => ?_) (fun hf => ?_)
  · refine r_iconst (pc := 16) S0 dX5_best_16 ?_
    have hz := ok_some hf
    have hz : (-1) = e := hz
    subst hQ
    subst hz
    exact r_iret (pc := 17) S0 hr hlk (cnz (-1) rfl) dX5_best_17
  · refine r_aload_n (pc := 7) S0 0 dX5_best_7 rfl rfl ?_
    refine r_getR (pc := 8) S0 hK fl_X5_15 dX5_best_8 hf (fun x3 hf => ?_)
    refine r_iload_n (pc := 11) S0 1 dX5_best_11 rfl rfl ?_
    refine r_iald (pc := 12) S0 hK dX5_best_12 ca1 hf (fun x4 c5 hf => ?_)
    refine r_goto (pc := 13) (tgt := 17) S0 dX5_best_13 (by decide) ?_
    have hz := ok_some hf
    have hz : x4 = e := hz
    subst hQ
    subst hz
    exact r_iret (pc := 17) S0 hr hlk c5 dX5_best_17

set_option maxHeartbeats 4000000 in
set_option maxRecDepth 100000 in
theorem c_X11_soonest (l : Launch) (cA : Nat → ClassId) (D : va_G) (N : Nat) (sx : Sx) (ad : Nat → Nat) (T : Knd) (A : Rfs) (nx : Nat) (I : Mem) (w0 : Nat)  (e : (Int × Mem)) (h : f_X11_soonest T A w0 I = some e) : CtI l yX11_soonest cX11_soonest 1 (some .int) 19 562 cA D N sx ad T A nx [rv ad w0] I e.2 e.1 := by
  refine met_of (lv0 := [(0, rv ad w0)]) (by decide) (Nat.le_of_ble_eq_true rfl) rfl (fun p e0 s m args below meth c S0 hK hX hr hlk Q hQ => ?_)
  have hf : OK (f_X11_soonest T A w0 I) (fun z => z = e) := ⟨e, h, rfl⟩
  unfold f_X11_soonest at hf
  obtain ⟨hw0, hf⟩ := ok_grd hf
  refine r_aload_n (pc := 0) S0 0 dX11_soonest_0 rfl rfl ?_
  refine r_getR (pc := 1) S0 hK fl_X11_28 dX11_soonest_1 hf (fun x1 hf => ?_)
  obtain ⟨e2, h3, hf⟩ := ok_bind hf
  refine r_cV_I (pc := 4) [] S0 hK hX mv_X11_170 (k_X2_isThere h3) (c_X2_isThere l cA D N sx ad T A nx I x1 e2 h3) rfl rfl ⟨by decide, by decide⟩ (Nat.le_of_ble_eq_true rfl) ⟨Nat.le_refl _, Nat.le_refl _⟩ dX11_soonest_4 (fun c4 => ?_)
  refine r_if_eq (pc := 7) (tgt := 21) S0 dX11_soonest_7 (by decide) c4 hf (fun hf => ?_) (fun hf => ?_)
  · refine r_bipush (pc := 21) S0 dX11_soonest_21 (by decide) ?_
    have hz := ok_some hf
    have hz : ((-2), I) = e := hz
    subst hQ
    subst hz
    exact r_iret (pc := 23) S0 hr hlk (cnz (-2) rfl) dX11_soonest_23
  · refine r_aload_n (pc := 10) S0 0 dX11_soonest_10 rfl rfl ?_
    obtain ⟨e5, h6, hf⟩ := ok_bind hf
    refine r_cV_R (pc := 11) [] S0 hK hX mv_X11_233 (k_X11_soonRows h6) (c_X11_soonRows l cA D N sx ad T A nx I w0 e5 h6) rfl rfl ⟨by decide, by decide⟩ (Nat.le_of_ble_eq_true rfl) ⟨Nat.le_refl _, Nat.le_refl _⟩ dX11_soonest_11 ?_
    refine r_iconst (pc := 14) S0 dX11_soonest_14 ?_
    obtain ⟨e7, h8, hf⟩ := ok_bind hf
    refine r_cV_I (pc := 15) [iv 0] S0 hK hX mv_X11_237 (k_X5_best h8) (c_X5_best l cA D N sx ad T A nx e5.2 e5.1 0 (cnz 0 rfl) e7 h8) rfl rfl ⟨by decide, by decide⟩ (Nat.le_of_ble_eq_true rfl) ⟨Nat.le_refl _, Nat.le_refl _⟩ dX11_soonest_15 (fun c9 => ?_)
    refine r_goto (pc := 18) (tgt := 23) S0 dX11_soonest_18 (by decide) ?_
    have hz := ok_some hf
    have hz : (e7, e5.2) = e := hz
    subst hQ
    subst hz
    exact r_iret (pc := 23) S0 hr hlk c9 dX11_soonest_23

set_option maxHeartbeats 4000000 in
set_option maxRecDepth 100000 in
theorem c_X5_officialAt (l : Launch) (cA : Nat → ClassId) (D : va_G) (N : Nat) (sx : Sx) (ad : Nat → Nat) (T : Knd) (A : Rfs) (nx : Nat) (I : Mem) (w0 : Nat) (a1 : Int) (a2 : Int) (ca1 : cn a1) (ca2 : cn a2) (e : Int) (h : f_X5_officialAt T A w0 a1 a2 I = some e) : CtI l yX5_officialAt cX5_officialAt 3 (some .int) 1 60 cA D N sx ad T A nx [rv ad w0, iv a1, iv a2] I I e := by
  refine met_of (lv0 := [(0, rv ad w0), (1, iv a1), (2, iv a2)]) (by decide) (Nat.le_of_ble_eq_true rfl) rfl (fun p e0 s m args below meth c S0 hK hX hr hlk Q hQ => ?_)
  have hf : OK (f_X5_officialAt T A w0 a1 a2 I) (fun z => z = e) := ⟨e, h, rfl⟩
  unfold f_X5_officialAt at hf
  obtain ⟨hw0, hf⟩ := ok_grd hf
  refine r_aload_n (pc := 0) S0 0 dX5_officialAt_0 rfl rfl ?_
  refine r_getI (pc := 1) S0 hK fl_X5_56 dX5_officialAt_1 hf (fun x1 c2 hf => ?_)
  refine r_if_le (pc := 4) (tgt := 32) S0 dX5_officialAt_4 (by decide) c2 hf (fun hf => ?_) (fun hf => ?_)
  · refine r_iconst (pc := 32) S0 dX5_officialAt_32 ?_
    have hz := ok_some hf
    have hz : (-1) = e := hz
    subst hQ
    subst hz
    exact r_iret (pc := 33) S0 hr hlk (cnz (-1) rfl) dX5_officialAt_33
  · refine r_iload_n (pc := 7) S0 2 dX5_officialAt_7 rfl rfl ?_
    refine r_if_lt (pc := 8) (tgt := 32) S0 dX5_officialAt_8 (by decide) ca2 hf (fun hf => ?_) (fun hf => ?_)
    · refine r_iconst (pc := 32) S0 dX5_officialAt_32 ?_
      have hz := ok_some hf
      have hz : (-1) = e := hz
      subst hQ
      subst hz
      exact r_iret (pc := 33) S0 hr hlk (cnz (-1) rfl) dX5_officialAt_33
    · refine r_iload_n (pc := 11) S0 2 dX5_officialAt_11 rfl rfl ?_
      refine r_aload_n (pc := 12) S0 0 dX5_officialAt_12 rfl rfl ?_
      refine r_getR (pc := 13) S0 hK fl_X5_18 dX5_officialAt_13 hf (fun x3 hf => ?_)
      refine r_iload_n (pc := 16) S0 1 dX5_officialAt_16 rfl rfl ?_
      refine r_iald (pc := 17) S0 hK dX5_officialAt_17 ca1 hf (fun x4 c5 hf => ?_)
      refine r_icmp_ge (pc := 18) (tgt := 32) S0 dX5_officialAt_18 (by decide) ca2 c5 hf (fun hf => ?_) (fun hf => ?_)
      · refine r_iconst (pc := 32) S0 dX5_officialAt_32 ?_
        have hz := ok_some hf
        have hz : (-1) = e := hz
        subst hQ
        subst hz
        exact r_iret (pc := 33) S0 hr hlk (cnz (-1) rfl) dX5_officialAt_33
      · refine r_aload_n (pc := 21) S0 0 dX5_officialAt_21 rfl rfl ?_
        refine r_getR (pc := 22) S0 hK fl_X5_23 dX5_officialAt_22 hf (fun x6 hf => ?_)
        refine r_iload_n (pc := 25) S0 1 dX5_officialAt_25 rfl rfl ?_
        refine r_aald 24 4 (pc := 26) S0 hK (by decide) rfl rfl dX5_officialAt_26 ca1 hf (fun x7 hf => ?_)
        refine r_iload_n (pc := 27) S0 2 dX5_officialAt_27 rfl rfl ?_
        refine r_iald (pc := 28) S0 hK dX5_officialAt_28 ca2 hf (fun x8 c9 hf => ?_)
        refine r_goto (pc := 29) (tgt := 33) S0 dX5_officialAt_29 (by decide) ?_
        have hz := ok_some hf
        have hz : x8 = e := hz
        subst hQ
        subst hz
        exact r_iret (pc := 33) S0 hr hlk c9 dX5_officialAt_33

set_option maxHeartbeats 4000000 in
set_option maxRecDepth 100000 in
theorem c_X11_step (l : Launch) (cA : Nat → ClassId) (D : va_G) (N : Nat) (sx : Sx) (ad : Nat → Nat) (T : Knd) (A : Rfs) (nx : Nat) (I : Mem) (w0 : Nat) (a1 : Int) (ca1 : cn a1) (e : (Int × Mem)) (h : f_X11_step T A w0 a1 I = some e) : CtI l yX11_step cX11_step 2 (some .int) 19 562 cA D N sx ad T A nx [rv ad w0, iv a1] I e.2 e.1 := by
  refine met_of (lv0 := [(0, rv ad w0), (1, iv a1)]) (by decide) (Nat.le_of_ble_eq_true rfl) rfl (fun p e0 s m args below meth c S0 hK hX hr hlk Q hQ => ?_)
  have hf : OK (f_X11_step T A w0 a1 I) (fun z => z = e) := ⟨e, h, rfl⟩
  unfold f_X11_step at hf
  obtain ⟨hw0, hf⟩ := ok_grd hf
  refine r_aload_n (pc := 0) S0 0 dX11_step_0 rfl rfl ?_
  refine r_getR (pc := 1) S0 hK fl_X11_28 dX11_step_1 hf (fun x1 hf => ?_)
  obtain ⟨e2, h3, hf⟩ := ok_bind hf
  refine r_cV_I (pc := 4) [] S0 hK hX mv_X11_170 (k_X2_isThere h3) (c_X2_isThere l cA D N sx ad T A nx I x1 e2 h3) rfl rfl ⟨by decide, by decide⟩ (Nat.le_of_ble_eq_true rfl) ⟨Nat.le_refl _, Nat.le_refl _⟩ dX11_step_4 (fun c4 => ?_)
  refine r_if_eq (pc := 7) (tgt := 22) S0 dX11_step_7 (by decide) c4 hf (fun hf => ?_) (fun hf => ?_)
  · refine r_bipush (pc := 22) S0 dX11_step_22 (by decide) ?_
    have hz := ok_some hf
    have hz : ((-2), I) = e := hz
    subst hQ
    subst hz
    exact r_iret (pc := 24) S0 hr hlk (cnz (-2) rfl) dX11_step_24
  · refine r_aload_n (pc := 10) S0 0 dX11_step_10 rfl rfl ?_
    obtain ⟨e5, h6, hf⟩ := ok_bind hf
    refine r_cV_R (pc := 11) [] S0 hK hX mv_X11_233 (k_X11_soonRows h6) (c_X11_soonRows l cA D N sx ad T A nx I w0 e5 h6) rfl rfl ⟨by decide, by decide⟩ (Nat.le_of_ble_eq_true rfl) ⟨Nat.le_refl _, Nat.le_refl _⟩ dX11_step_11 ?_
    refine r_iconst (pc := 14) S0 dX11_step_14 ?_
    refine r_iload_n (pc := 15) S0 1 dX11_step_15 rfl rfl ?_
    obtain ⟨e7, h8, hf⟩ := ok_bind hf
    refine r_cV_I (pc := 16) [iv 0, iv a1] S0 hK hX mv_X11_240 (k_X5_officialAt h8) (c_X5_officialAt l cA D N sx ad T A nx e5.2 e5.1 0 a1 (cnz 0 rfl) ca1 e7 h8) rfl rfl ⟨by decide, by decide⟩ (Nat.le_of_ble_eq_true rfl) ⟨Nat.le_refl _, Nat.le_refl _⟩ dX11_step_16 (fun c9 => ?_)
    refine r_goto (pc := 19) (tgt := 24) S0 dX11_step_19 (by decide) ?_
    have hz := ok_some hf
    have hz : (e7, e5.2) = e := hz
    subst hQ
    subst hz
    exact r_iret (pc := 24) S0 hr hlk c9 dX11_step_24

set_option maxHeartbeats 4000000 in
set_option maxRecDepth 100000 in
theorem c_X11_everyRow (l : Launch) (cA : Nat → ClassId) (D : va_G) (N : Nat) (sx : Sx) (ad : Nat → Nat) (T : Knd) (A : Rfs) (nx : Nat) (I : Mem) (w0 : Nat)  (e : (Nat × Mem)) (h : f_X11_everyRow T A w0 I = some e) : CtR l yX11_everyRow cX11_everyRow 1 (some (.object RX5)) 18 542 cA D N sx ad T A nx [rv ad w0] I e.2 e.1 := by
  refine met_of (lv0 := [(0, rv ad w0)]) (by decide) (Nat.le_of_ble_eq_true rfl) rfl (fun p e0 s m args below meth c S0 hK hX hr hlk Q hQ => ?_)
  have hf : OK (f_X11_everyRow T A w0 I) (fun z => z = e) := ⟨e, h, rfl⟩
  unfold f_X11_everyRow at hf
  obtain ⟨hw0, hf⟩ := ok_grd hf
  refine r_aload_n (pc := 0) S0 0 dX11_everyRow_0 rfl rfl ?_
  refine r_getR (pc := 1) S0 hK fl_X11_60 dX11_everyRow_1 hf (fun x1 hf => ?_)
  refine r_getI (pc := 4) S0 hK fl_X11_398 dX11_everyRow_4 hf (fun x2 c3 hf => ?_)
  refine thn_rule (P := fun v5 => G p l e0 (rmx 18 542) s m args below meth c 0 0 Q cA D N 1 ad T A nx 23 [(0, rv ad w0)] [] v5) hf (fun v5 hf => ?_) (fun K4 hf => ?_)
  · refine r_aload_n (pc := 23) S0 0 dX11_everyRow_23 rfl rfl ?_
    refine r_getR (pc := 24) S0 hK fl_X11_60 dX11_everyRow_24 hf (fun x10 hf => ?_)
    have hz := ok_some hf
    have hz : (x10, v5) = e := hz
    subst hQ
    subst hz
    exact r_aret (pc := 27) S0 hr hlk dX11_everyRow_27
  · refine r_if_ne (pc := 7) (tgt := 23) S0 dX11_everyRow_7 (by decide) c3 hf (fun hf => ?_) (fun hf => ?_)
    · have hz := ok_some hf
      refine r_lv [0] rfl ?_
      exact K4 I hz
    · refine r_aload_n (pc := 10) S0 0 dX11_everyRow_10 rfl rfl ?_
      refine r_getR (pc := 11) S0 hK fl_X11_60 dX11_everyRow_11 hf (fun x6 hf => ?_)
      refine r_aload_n (pc := 14) S0 0 dX11_everyRow_14 rfl rfl ?_
      refine r_getR (pc := 15) S0 hK fl_X11_44 dX11_everyRow_15 hf (fun x7 hf => ?_)
      refine r_iconst (pc := 18) S0 dX11_everyRow_18 ?_
      refine r_iconst (pc := 19) S0 dX11_everyRow_19 ?_
      obtain ⟨e8, h9, hf⟩ := ok_bind hf
      refine r_cV_V (pc := 20) [rv ad x7, iv (-1), iv 1] S0 hK hX mv_X11_401 (k_X5_search h9) (c_X5_search l cA D N sx ad T A nx I x6 x7 (-1) 1 (cnz (-1) rfl) (cnz 1 rfl) e8 h9) rfl rfl ⟨by decide, by decide⟩ (Nat.le_of_ble_eq_true rfl) ⟨Nat.le_refl _, Nat.le_refl _⟩ dX11_everyRow_20 ?_
      have hz := ok_some hf
      refine r_lv [0] rfl ?_
      exact K4 e8 hz

set_option maxHeartbeats 4000000 in
set_option maxRecDepth 100000 in
theorem c_X11_fewest (l : Launch) (cA : Nat → ClassId) (D : va_G) (N : Nat) (sx : Sx) (ad : Nat → Nat) (T : Knd) (A : Rfs) (nx : Nat) (I : Mem) (w0 : Nat)  (e : (Int × Mem)) (h : f_X11_fewest T A w0 I = some e) : CtI l yX11_fewest cX11_fewest 1 (some .int) 19 562 cA D N sx ad T A nx [rv ad w0] I e.2 e.1 := by
  refine met_of (lv0 := [(0, rv ad w0)]) (by decide) (Nat.le_of_ble_eq_true rfl) rfl (fun p e0 s m args below meth c S0 hK hX hr hlk Q hQ => ?_)
  have hf : OK (f_X11_fewest T A w0 I) (fun z => z = e) := ⟨e, h, rfl⟩
  unfold f_X11_fewest at hf
  obtain ⟨hw0, hf⟩ := ok_grd hf
  refine r_aload_n (pc := 0) S0 0 dX11_fewest_0 rfl rfl ?_
  refine r_getR (pc := 1) S0 hK fl_X11_28 dX11_fewest_1 hf (fun x1 hf => ?_)
  obtain ⟨e2, h3, hf⟩ := ok_bind hf
  refine r_cV_I (pc := 4) [] S0 hK hX mv_X11_170 (k_X2_isThere h3) (c_X2_isThere l cA D N sx ad T A nx I x1 e2 h3) rfl rfl ⟨by decide, by decide⟩ (Nat.le_of_ble_eq_true rfl) ⟨Nat.le_refl _, Nat.le_refl _⟩ dX11_fewest_4 (fun c4 => ?_)
  refine r_if_eq (pc := 7) (tgt := 20) S0 dX11_fewest_7 (by decide) c4 hf (fun hf => ?_) (fun hf => ?_)
  · refine r_bipush (pc := 20) S0 dX11_fewest_20 (by decide) ?_
    have hz := ok_some hf
    have hz : ((-2), I) = e := hz
    subst hQ
    subst hz
    exact r_iret (pc := 22) S0 hr hlk (cnz (-2) rfl) dX11_fewest_22
  · refine r_aload_n (pc := 10) S0 0 dX11_fewest_10 rfl rfl ?_
    obtain ⟨e5, h6, hf⟩ := ok_bind hf
    refine r_cV_R (pc := 11) [] S0 hK hX mv_X11_243 (k_X11_everyRow h6) (c_X11_everyRow l cA D N sx ad T A nx I w0 e5 h6) rfl rfl ⟨by decide, by decide⟩ (Nat.le_of_ble_eq_true rfl) ⟨Nat.le_refl _, Nat.le_refl _⟩ dX11_fewest_11 ?_
    refine r_getI (pc := 14) S0 hK fl_X11_246 dX11_fewest_14 hf (fun x7 c8 hf => ?_)
    refine r_goto (pc := 17) (tgt := 22) S0 dX11_fewest_17 (by decide) ?_
    have hz := ok_some hf
    have hz : (x7, e5.2) = e := hz
    subst hQ
    subst hz
    exact r_iret (pc := 22) S0 hr hlk c8 dX11_fewest_22

set_option maxHeartbeats 4000000 in
set_option maxRecDepth 100000 in
theorem c_X11_least (l : Launch) (cA : Nat → ClassId) (D : va_G) (N : Nat) (sx : Sx) (ad : Nat → Nat) (T : Knd) (A : Rfs) (nx : Nat) (I : Mem) (w0 : Nat)  (e : (Int × Mem)) (h : f_X11_least T A w0 I = some e) : CtI l yX11_least cX11_least 1 (some .int) 19 562 cA D N sx ad T A nx [rv ad w0] I e.2 e.1 := by
  refine met_of (lv0 := [(0, rv ad w0)]) (by decide) (Nat.le_of_ble_eq_true rfl) rfl (fun p e0 s m args below meth c S0 hK hX hr hlk Q hQ => ?_)
  have hf : OK (f_X11_least T A w0 I) (fun z => z = e) := ⟨e, h, rfl⟩
  unfold f_X11_least at hf
  obtain ⟨hw0, hf⟩ := ok_grd hf
  refine r_aload_n (pc := 0) S0 0 dX11_least_0 rfl rfl ?_
  refine r_getR (pc := 1) S0 hK fl_X11_28 dX11_least_1 hf (fun x1 hf => ?_)
  obtain ⟨e2, h3, hf⟩ := ok_bind hf
  refine r_cV_I (pc := 4) [] S0 hK hX mv_X11_170 (k_X2_isThere h3) (c_X2_isThere l cA D N sx ad T A nx I x1 e2 h3) rfl rfl ⟨by decide, by decide⟩ (Nat.le_of_ble_eq_true rfl) ⟨Nat.le_refl _, Nat.le_refl _⟩ dX11_least_4 (fun c4 => ?_)
  refine r_if_eq (pc := 7) (tgt := 21) S0 dX11_least_7 (by decide) c4 hf (fun hf => ?_) (fun hf => ?_)
  · refine r_bipush (pc := 21) S0 dX11_least_21 (by decide) ?_
    have hz := ok_some hf
    have hz : ((-2), I) = e := hz
    subst hQ
    subst hz
    exact r_iret (pc := 23) S0 hr hlk (cnz (-2) rfl) dX11_least_23
  · refine r_aload_n (pc := 10) S0 0 dX11_least_10 rfl rfl ?_
    obtain ⟨e5, h6, hf⟩ := ok_bind hf
    refine r_cV_R (pc := 11) [] S0 hK hX mv_X11_243 (k_X11_everyRow h6) (c_X11_everyRow l cA D N sx ad T A nx I w0 e5 h6) rfl rfl ⟨by decide, by decide⟩ (Nat.le_of_ble_eq_true rfl) ⟨Nat.le_refl _, Nat.le_refl _⟩ dX11_least_11 ?_
    refine r_iconst (pc := 14) S0 dX11_least_14 ?_
    obtain ⟨e7, h8, hf⟩ := ok_bind hf
    refine r_cV_I (pc := 15) [iv 1] S0 hK hX mv_X11_237 (k_X5_best h8) (c_X5_best l cA D N sx ad T A nx e5.2 e5.1 1 (cnz 1 rfl) e7 h8) rfl rfl ⟨by decide, by decide⟩ (Nat.le_of_ble_eq_true rfl) ⟨Nat.le_refl _, Nat.le_refl _⟩ dX11_least_15 (fun c9 => ?_)
    refine r_goto (pc := 18) (tgt := 23) S0 dX11_least_18 (by decide) ?_
    have hz := ok_some hf
    have hz : (e7, e5.2) = e := hz
    subst hQ
    subst hz
    exact r_iret (pc := 23) S0 hr hlk c9 dX11_least_23
