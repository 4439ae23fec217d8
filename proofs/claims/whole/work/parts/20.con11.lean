/-! Contracts, laid by wip/gen/gen.py. -/
set_option maxHeartbeats 4000000 in
set_option maxRecDepth 100000 in
theorem c_X12_end (l : Launch) (cA : Nat → ClassId) (D : va_G) (N : Nat) (sx : Sx) (ad : Nat → Nat) (T : Knd) (A : Rfs) (nx : Nat) (I : Mem) (w0 : Nat) (a1 : Int) (ca1 : cn a1) (e : (Int × Mem)) (h : f_X12_end T A w0 a1 I = some e) : CtI l yX12_end cX12_end 2 (some .int) 2 85 cA D N sx ad T A nx [rv ad w0, iv a1] I e.2 e.1 := by
  refine met_of (lv0 := [(0, rv ad w0), (1, iv a1)]) (by decide) (Nat.le_of_ble_eq_true rfl) rfl (fun p e0 s m args below meth c S0 hK hX hr hlk Q hQ => ?_)
  have hf : OK (f_X12_end T A w0 a1 I) (fun z => z = e) := ⟨e, h, rfl⟩
  unfold f_X12_end at hf
  obtain ⟨hw0, hf⟩ := ok_grd hf
  refine r_aload_n (pc := 0) S0 0 dX12_end_0 rfl rfl ?_
  refine r_iconst (pc := 1) S0 dX12_end_1 ?_
  refine r_putI (pc := 2) S0 hK fl_X12_89 rfl rfl (cnz 0 rfl) dX12_end_2 hf (fun I1 hf => ?_)
  refine r_iload_n (pc := 5) S0 1 dX12_end_5 rfl rfl ?_
  refine r_i2l (pc := 6) S0 dX12_end_6 ca1 ?_
  refine r_lconst (pc := 7) (v := 0) S0 dX12_end_7 rfl ?_
  refine r_aload_n (pc := 8) S0 0 dX12_end_8 rfl rfl ?_
  refine r_getI (pc := 9) S0 hK fl_X12_106 dX12_end_9 hf (fun x2 c3 hf => ?_)
  refine r_i2l (pc := 12) S0 dX12_end_12 c3 ?_
  obtain ⟨e4, h5, hf⟩ := ok_bind hf
  refine r_cS_I (pc := 13) [jv a1, jv 0, jv x2] S0 hK hX ms_X12_94 (c_X12_in l cA D N sx ad T A nx I1 a1 0 x2 (cl_cn ca1) (clz 0 rfl) (cl_cn c3) e4 h5) rfl rfl ⟨by decide, by decide⟩ (Nat.le_of_ble_eq_true rfl) ⟨Nat.le_refl _, Nat.le_refl _⟩ dX12_end_13 (fun c6 => ?_)
  refine r_if_ne (pc := 16) (tgt := 21) S0 dX12_end_16 (by decide) c6 hf (fun hf => ?_) (fun hf => ?_)
  · refine r_aload_n (pc := 21) S0 0 dX12_end_21 rfl rfl ?_
    refine r_iload_n (pc := 22) S0 1 dX12_end_22 rfl rfl ?_
    refine r_putI (pc := 23) S0 hK fl_X12_106 rfl rfl ca1 dX12_end_23 hf (fun I7 hf => ?_)
    refine r_iload_n (pc := 26) S0 1 dX12_end_26 rfl rfl ?_
    have hz := ok_some hf
    have hz : (a1, I7) = e := hz
    subst hQ
    subst hz
    exact r_iret (pc := 27) S0 hr hlk ca1 dX12_end_27
  · refine r_iconst (pc := 19) S0 dX12_end_19 ?_
    have hz := ok_some hf
    have hz : ((-1), I1) = e := hz
    subst hQ
    subst hz
    exact r_iret (pc := 20) S0 hr hlk (cnz (-1) rfl) dX12_end_20

set_option maxHeartbeats 4000000 in
set_option maxRecDepth 100000 in
theorem c_X12_isByte (l : Launch) (cA : Nat → ClassId) (D : va_G) (N : Nat) (sx : Sx) (ad : Nat → Nat) (T : Knd) (A : Rfs) (nx : Nat) (I : Mem) (w0 : Nat) (a1 : Int) (a2 : Int) (a3 : Int) (ca1 : cn a1) (ca2 : cn a2) (ca3 : cn a3) (e : Int) (h : f_X12_isByte T A w0 a1 a2 a3 I = some e) : CtI l yX12_isByte cX12_isByte 4 (some .boolean) 1 60 cA D N sx ad T A nx [rv ad w0, iv a1, iv a2, iv a3] I I e := by
  refine met_of (lv0 := [(0, rv ad w0), (1, iv a1), (2, iv a2), (3, iv a3)]) (by decide) (Nat.le_of_ble_eq_true rfl) rfl (fun p e0 s m args below meth c S0 hK hX hr hlk Q hQ => ?_)
  have hf : OK (f_X12_isByte T A w0 a1 a2 a3 I) (fun z => z = e) := ⟨e, h, rfl⟩
  unfold f_X12_isByte at hf
  obtain ⟨hw0, hf⟩ := ok_grd hf
  refine r_iload_n (pc := 0) S0 1 dX12_isByte_0 rfl rfl ?_
  refine r_aload_n (pc := 1) S0 0 dX12_isByte_1 rfl rfl ?_
  refine r_getI (pc := 2) S0 hK fl_X12_106 dX12_isByte_2 hf (fun x1 c2 hf => ?_)
  refine r_icmp_ge (pc := 5) (tgt := 32) S0 dX12_isByte_5 (by decide) ca1 c2 hf (fun hf => ?_) (fun hf => ?_)
  · refine r_iconst (pc := 32) S0 dX12_isByte_32 ?_
    have hz := ok_some hf
    have hz : 0 = e := hz
    subst hQ
    subst hz
    exact r_zret (pc := 33) S0 hr hlk (Or.inl rfl) dX12_isByte_33
  · refine r_aload_n (pc := 8) S0 0 dX12_isByte_8 rfl rfl ?_
    refine r_getR (pc := 9) S0 hK fl_X12_23 dX12_isByte_9 hf (fun x3 hf => ?_)
    refine r_iload_n (pc := 12) S0 1 dX12_isByte_12 rfl rfl ?_
    refine r_bald (pc := 13) S0 hK dX12_isByte_13 ca1 hf (fun x4 c5 hf => ?_)
    refine r_iload_n (pc := 14) S0 2 dX12_isByte_14 rfl rfl ?_
    refine r_icmp_lt (pc := 15) (tgt := 32) S0 dX12_isByte_15 (by decide) c5 ca2 hf (fun hf => ?_) (fun hf => ?_)
    · refine r_iconst (pc := 32) S0 dX12_isByte_32 ?_
      have hz := ok_some hf
      have hz : 0 = e := hz
      subst hQ
      subst hz
      exact r_zret (pc := 33) S0 hr hlk (Or.inl rfl) dX12_isByte_33
    · refine r_aload_n (pc := 18) S0 0 dX12_isByte_18 rfl rfl ?_
      refine r_getR (pc := 19) S0 hK fl_X12_23 dX12_isByte_19 hf (fun x6 hf => ?_)
      refine r_iload_n (pc := 22) S0 1 dX12_isByte_22 rfl rfl ?_
      refine r_bald (pc := 23) S0 hK dX12_isByte_23 ca1 hf (fun x7 c8 hf => ?_)
      refine r_iload_n (pc := 24) S0 3 dX12_isByte_24 rfl rfl ?_
      refine r_icmp_gt (pc := 25) (tgt := 32) S0 dX12_isByte_25 (by decide) c8 ca3 hf (fun hf => ?_) (fun hf => ?_)
      · refine r_iconst (pc := 32) S0 dX12_isByte_32 ?_
        have hz := ok_some hf
        have hz : 0 = e := hz
        subst hQ
        subst hz
        exact r_zret (pc := 33) S0 hr hlk (Or.inl rfl) dX12_isByte_33
      · refine r_iconst (pc := 28) S0 dX12_isByte_28 ?_
        refine r_goto (pc := 29) (tgt := 33) S0 dX12_isByte_29 (by decide) ?_
        have hz := ok_some hf
        have hz : 1 = e := hz
        subst hQ
        subst hz
        exact r_zret (pc := 33) S0 hr hlk (Or.inr rfl) dX12_isByte_33

set_option maxHeartbeats 4000000 in
set_option maxRecDepth 100000 in
theorem c_X12_next (l : Launch) (cA : Nat → ClassId) (D : va_G) (N : Nat) (sx : Sx) (ad : Nat → Nat) (T : Knd) (A : Rfs) (nx : Nat) (I : Mem) (w0 : Nat)  (e : Mem) (h : f_X12_next T A w0 I = some e) : CtV l yX12_next cX12_next 2 none 2 83 cA D N sx ad T A nx [rv ad w0] I e := by
  refine met_of (lv0 := [(0, rv ad w0)]) (by decide) (Nat.le_of_ble_eq_true rfl) rfl (fun p e0 s m args below meth c S0 hK hX hr hlk Q hQ => ?_)
  have hf : OK (f_X12_next T A w0 I) (fun z => z = e) := ⟨e, h, rfl⟩
  unfold f_X12_next at hf
  obtain ⟨hw0, hf⟩ := ok_grd hf
  refine thn_rule (P := fun v2 => G p l e0 (rmx 2 83) s m args below meth c 0 0 Q cA D N 2 ad T A nx 43 [(0, rv ad w0)] [] v2) hf (fun v2 hf => ?_) (fun K1 hf => ?_)
  · refine r_aload_n (pc := 43) S0 0 dX12_next_43 rfl rfl ?_
    refine r_aload_n (pc := 44) S0 0 dX12_next_44 rfl rfl ?_
    refine r_getI (pc := 45) S0 hK fl_X12_113 dX12_next_45 hf (fun x20 c21 hf => ?_)
    refine r_putI (pc := 48) S0 hK fl_X12_120 rfl rfl c21 dX12_next_48 hf (fun I22 hf => ?_)
    refine r_aload_n (pc := 51) S0 0 dX12_next_51 rfl rfl ?_
    refine r_iconst (pc := 52) S0 dX12_next_52 ?_
    refine r_putI (pc := 53) S0 hK fl_X12_123 rfl rfl (cnz 0 rfl) dX12_next_53 hf (fun I23 hf => ?_)
    refine r_aload_n (pc := 56) S0 0 dX12_next_56 rfl rfl ?_
    refine r_lconst (pc := 57) (v := 0) S0 dX12_next_57 rfl ?_
    refine r_putJ (pc := 58) S0 hK fl_X12_126 rfl rfl (clz 0 rfl) dX12_next_58 hf (fun I24 hf => ?_)
    refine r_aload_n (pc := 61) S0 0 dX12_next_61 rfl rfl ?_
    refine r_getI (pc := 62) S0 hK fl_X12_113 dX12_next_62 hf (fun x25 c26 hf => ?_)
    refine r_aload_n (pc := 65) S0 0 dX12_next_65 rfl rfl ?_
    refine r_getI (pc := 66) S0 hK fl_X12_106 dX12_next_66 hf (fun x27 c28 hf => ?_)
    refine r_icmp_ne (pc := 69) (tgt := 80) S0 dX12_next_69 (by decide) c26 c28 hf (fun hf => ?_) (fun hf => ?_)
    · refine r_aload_n (pc := 80) S0 0 dX12_next_80 rfl rfl ?_
      refine r_aload_n (pc := 81) S0 0 dX12_next_81 rfl rfl ?_
      refine r_getI (pc := 82) S0 hK fl_X12_113 dX12_next_82 hf (fun x29 c30 hf => ?_)
      refine r_bipush (pc := 85) S0 dX12_next_85 (by decide) ?_
      refine r_bipush (pc := 87) S0 dX12_next_87 (by decide) ?_
      obtain ⟨e31, h32, hf⟩ := ok_bind hf
      refine r_cV_I (pc := 89) [iv x29, iv 97, iv 122] S0 hK hX mv_X12_116 (k_X12_isByte h32) (c_X12_isByte l cA D N sx ad T A nx I24 w0 x29 97 122 c30 (cnz 97 rfl) (cnz 122 rfl) e31 h32) rfl rfl ⟨by decide, by decide⟩ (Nat.le_of_ble_eq_true rfl) ⟨Nat.le_refl _, Nat.le_refl _⟩ dX12_next_89 (fun c33 => ?_)
      refine r_if_eq (pc := 92) (tgt := 188) S0 dX12_next_92 (by decide) c33 hf (fun hf => ?_) (fun hf => ?_)
      · refine r_aload_n (pc := 188) S0 0 dX12_next_188 rfl rfl ?_
        refine r_aload_n (pc := 189) S0 0 dX12_next_189 rfl rfl ?_
        refine r_getI (pc := 190) S0 hK fl_X12_113 dX12_next_190 hf (fun x34 c35 hf => ?_)
        refine r_bipush (pc := 193) S0 dX12_next_193 (by decide) ?_
        refine r_bipush (pc := 195) S0 dX12_next_195 (by decide) ?_
        obtain ⟨e36, h37, hf⟩ := ok_bind hf
        refine r_cV_I (pc := 197) [iv x34, iv 48, iv 57] S0 hK hX mv_X12_116 (k_X12_isByte h37) (c_X12_isByte l cA D N sx ad T A nx I24 w0 x34 48 57 c35 (cnz 48 rfl) (cnz 57 rfl) e36 h37) rfl rfl ⟨by decide, by decide⟩ (Nat.le_of_ble_eq_true rfl) ⟨Nat.le_refl _, Nat.le_refl _⟩ dX12_next_197 (fun c38 => ?_)
        refine r_if_eq (pc := 200) (tgt := 274) S0 dX12_next_200 (by decide) c38 hf (fun hf => ?_) (fun hf => ?_)
        · refine r_aload_n (pc := 274) S0 0 dX12_next_274 rfl rfl ?_
          refine r_aload_n (pc := 275) S0 0 dX12_next_275 rfl rfl ?_
          refine r_getR (pc := 276) S0 hK fl_X12_23 dX12_next_276 hf (fun x39 hf => ?_)
          refine r_aload_n (pc := 279) S0 0 dX12_next_279 rfl rfl ?_
          refine r_getI (pc := 280) S0 hK fl_X12_113 dX12_next_280 hf (fun x40 c41 hf => ?_)
          refine r_bald (pc := 283) S0 hK dX12_next_283 c41 hf (fun x42 c43 hf => ?_)
          refine r_bipush (pc := 284) S0 dX12_next_284 (by decide) ?_
          refine thn_rule (P := fun v45 => cn v45 → G p l e0 (rmx 2 83) s m args below meth c 0 0 Q cA D N 2 ad T A nx 294 [(0, rv ad w0)] [iv v45, rv ad w0] I24) hf (fun v45 hf c46 => ?_) (fun K44 hf => ?_)
          · refine r_putI (pc := 294) S0 hK fl_X12_130 rfl rfl c46 dX12_next_294 hf (fun I47 hf => ?_)
            refine r_aload_n (pc := 297) S0 0 dX12_next_297 rfl rfl ?_
            refine r_dup (pc := 298) S0 dX12_next_298 rfl ?_
            refine r_getI (pc := 299) S0 hK fl_X12_113 dX12_next_299 hf (fun x48 c49 hf => ?_)
            refine r_iconst (pc := 302) S0 dX12_next_302 ?_
            refine r_iadd (pc := 303) S0 dX12_next_303 ?_
            refine r_putI (pc := 304) S0 hK fl_X12_113 rfl rfl (cn_wrap _) dX12_next_304 hf (fun I50 hf => ?_)
            have hz := ok_some hf
            have hz : I50 = e := hz
            subst hQ
            subst hz
            exact r_vret (pc := 307) S0 hr hlk dX12_next_307
          · refine r_icmp_ne (pc := 286) (tgt := 293) S0 dX12_next_286 (by decide) c43 (cnz 59 rfl) hf (fun hf => ?_) (fun hf => ?_)
            · refine r_iconst (pc := 293) S0 dX12_next_293 ?_
              have hz := ok_some hf
              refine r_lv [0] rfl ?_
              exact K44 4 hz (cnz 4 rfl)
            · refine r_iconst (pc := 289) S0 dX12_next_289 ?_
              refine r_goto (pc := 290) (tgt := 294) S0 dX12_next_290 (by decide) ?_
              have hz := ok_some hf
              refine r_lv [0] rfl ?_
              exact K44 3 hz (cnz 3 rfl)
        · refine r_aload_n (pc := 203) S0 0 dX12_next_203 rfl rfl ?_
          refine r_iconst (pc := 204) S0 dX12_next_204 ?_
          refine r_putI (pc := 205) S0 hK fl_X12_130 rfl rfl (cnz 2 rfl) dX12_next_205 hf (fun I51 hf => ?_)
          refine r_lv [0] rfl ?_
          refine it_ind (P := fun s53 => G p l e0 (rmx 2 83) s m args below meth c 0 0 Q cA D N 2 ad T A nx 208 [(0, rv ad w0)] [] s53) (fun n0 s53 ih52 hf => ?_) FU I51 hf
          refine r_aload_n (pc := 208) S0 0 dX12_next_208 rfl rfl ?_
          refine r_aload_n (pc := 209) S0 0 dX12_next_209 rfl rfl ?_
          refine r_getI (pc := 210) S0 hK fl_X12_113 dX12_next_210 hf (fun x54 c55 hf => ?_)
          refine r_bipush (pc := 213) S0 dX12_next_213 (by decide) ?_
          refine r_bipush (pc := 215) S0 dX12_next_215 (by decide) ?_
          obtain ⟨e56, h57, hf⟩ := ok_bind hf
          refine r_cV_I (pc := 217) [iv x54, iv 48, iv 57] S0 hK hX mv_X12_116 (k_X12_isByte h57) (c_X12_isByte l cA D N sx ad T A nx s53 w0 x54 48 57 c55 (cnz 48 rfl) (cnz 57 rfl) e56 h57) rfl rfl ⟨by decide, by decide⟩ (Nat.le_of_ble_eq_true rfl) ⟨Nat.le_refl _, Nat.le_refl _⟩ dX12_next_217 (fun c58 => ?_)
          refine r_if_eq (pc := 220) (tgt := 307) S0 dX12_next_220 (by decide) c58 hf (fun hf => ?_) (fun hf => ?_)
          · have hz := ok_some hf
            have hz : s53 = e := hz
            subst hQ
            subst hz
            exact r_vret (pc := 307) S0 hr hlk dX12_next_307
          · refine r_aload_n (pc := 223) S0 0 dX12_next_223 rfl rfl ?_
            refine r_aload_n (pc := 224) S0 0 dX12_next_224 rfl rfl ?_
            refine r_getI (pc := 225) S0 hK fl_X12_123 dX12_next_225 hf (fun x59 c60 hf => ?_)
            refine r_ldc (pc := 228) (z := 100000) S0 k_X12_139 dX12_next_228 (by decide) ?_
            refine thn_rule (P := fun v62 => cn v62 → G p l e0 (rmx 2 83) s m args below meth c 0 0 Q cA D N 2 ad T A nx 258 [(0, rv ad w0)] [iv v62, rv ad w0] s53) hf (fun v62 hf c63 => ?_) (fun K61 hf => ?_)
            · refine r_putI (pc := 258) S0 hK fl_X12_123 rfl rfl c63 dX12_next_258 hf (fun I71 hf => ?_)
              refine r_aload_n (pc := 261) S0 0 dX12_next_261 rfl rfl ?_
              refine r_dup (pc := 262) S0 dX12_next_262 rfl ?_
              refine r_getI (pc := 263) S0 hK fl_X12_113 dX12_next_263 hf (fun x72 c73 hf => ?_)
              refine r_iconst (pc := 266) S0 dX12_next_266 ?_
              refine r_iadd (pc := 267) S0 dX12_next_267 ?_
              refine r_putI (pc := 268) S0 hK fl_X12_113 rfl rfl (cn_wrap _) dX12_next_268 hf (fun I74 hf => ?_)
              refine r_goto (pc := 271) (tgt := 208) S0 dX12_next_271 (by decide) ?_
              have hz := ok_some hf
              refine r_lv [0] rfl ?_
              exact ih52 I74 hz
            · refine r_icmp_le (pc := 230) (tgt := 238) S0 dX12_next_230 (by decide) c60 (cnz 100000 rfl) hf (fun hf => ?_) (fun hf => ?_)
              · refine r_bipush (pc := 238) S0 dX12_next_238 (by decide) ?_
                refine r_aload_n (pc := 240) S0 0 dX12_next_240 rfl rfl ?_
                refine r_getI (pc := 241) S0 hK fl_X12_123 dX12_next_241 hf (fun x64 c65 hf => ?_)
                refine r_imul (pc := 244) S0 dX12_next_244 ?_
                refine r_aload_n (pc := 245) S0 0 dX12_next_245 rfl rfl ?_
                refine r_getR (pc := 246) S0 hK fl_X12_23 dX12_next_246 hf (fun x66 hf => ?_)
                refine r_aload_n (pc := 249) S0 0 dX12_next_249 rfl rfl ?_
                refine r_getI (pc := 250) S0 hK fl_X12_113 dX12_next_250 hf (fun x67 c68 hf => ?_)
                refine r_bald (pc := 253) S0 hK dX12_next_253 c68 hf (fun x69 c70 hf => ?_)
                refine r_iadd (pc := 254) S0 dX12_next_254 ?_
                refine r_bipush (pc := 255) S0 dX12_next_255 (by decide) ?_
                refine r_isub (pc := 257) S0 dX12_next_257 ?_
                have hz := ok_some hf
                refine r_lv [0] rfl ?_
                exact K61 (isb (ia (im 10 x64) x69) 48) hz (cn_wrap _)
              · refine r_ldc (pc := 233) (z := 1000000) S0 k_X12_140 dX12_next_233 (by decide) ?_
                refine r_goto (pc := 235) (tgt := 258) S0 dX12_next_235 (by decide) ?_
                have hz := ok_some hf
                refine r_lv [0] rfl ?_
                exact K61 1000000 hz (cnz 1000000 rfl)
      · refine r_aload_n (pc := 95) S0 0 dX12_next_95 rfl rfl ?_
        refine r_iconst (pc := 96) S0 dX12_next_96 ?_
        refine r_putI (pc := 97) S0 hK fl_X12_130 rfl rfl (cnz 1 rfl) dX12_next_97 hf (fun I75 hf => ?_)
        refine r_iconst (pc := 100) S0 dX12_next_100 ?_
        refine r_istore_n (pc := 101) (lv' := [(1, iv 0), (0, rv ad w0)]) S0 dX12_next_101 rfl (by decide) rfl ?_
        refine r_lv [1, 0] rfl ?_
        refine it_ind (P := fun s77 => cn s77.1 → G p l e0 (rmx 2 83) s m args below meth c 0 0 Q cA D N 2 ad T A nx 102 [(0, rv ad w0), (1, iv s77.1)] [] s77.2) (fun n0 s77 ih76 hf c78 => ?_) FU (0, I75) hf (cnz 0 rfl)
        refine r_aload_n (pc := 102) S0 0 dX12_next_102 rfl rfl ?_
        refine r_aload_n (pc := 103) S0 0 dX12_next_103 rfl rfl ?_
        refine r_getI (pc := 104) S0 hK fl_X12_113 dX12_next_104 hf (fun x79 c80 hf => ?_)
        refine r_bipush (pc := 107) S0 dX12_next_107 (by decide) ?_
        refine r_bipush (pc := 109) S0 dX12_next_109 (by decide) ?_
        obtain ⟨e81, h82, hf⟩ := ok_bind hf
        refine r_cV_I (pc := 111) [iv x79, iv 97, iv 122] S0 hK hX mv_X12_116 (k_X12_isByte h82) (c_X12_isByte l cA D N sx ad T A nx s77.2 w0 x79 97 122 c80 (cnz 97 rfl) (cnz 122 rfl) e81 h82) rfl rfl ⟨by decide, by decide⟩ (Nat.le_of_ble_eq_true rfl) ⟨Nat.le_refl _, Nat.le_refl _⟩ dX12_next_111 (fun c83 => ?_)
        refine r_if_eq (pc := 114) (tgt := 185) S0 dX12_next_114 (by decide) c83 hf (fun hf => ?_) (fun hf => ?_)
        · refine r_goto (pc := 185) (tgt := 307) S0 dX12_next_185 (by decide) ?_
          have hz := ok_some hf
          have hz : s77.2 = e := hz
          subst hQ
          subst hz
          exact r_vret (pc := 307) S0 hr hlk dX12_next_307
        · refine r_aload_n (pc := 117) S0 0 dX12_next_117 rfl rfl ?_
          refine r_iload_n (pc := 118) S0 1 dX12_next_118 rfl rfl ?_
          refine r_bipush (pc := 119) S0 dX12_next_119 (by decide) ?_
          refine thn_rule (P := fun v85 => cl v85 → G p l e0 (rmx 2 83) s m args below meth c 0 0 Q cA D N 2 ad T A nx 153 [(0, rv ad w0), (1, iv s77.1)] [jv v85, rv ad w0] s77.2) hf (fun v85 hf c86 => ?_) (fun K84 hf => ?_)
          · refine r_putJ (pc := 153) S0 hK fl_X12_126 rfl rfl c86 dX12_next_153 hf (fun I94 hf => ?_)
            refine r_iload_n (pc := 156) S0 1 dX12_next_156 rfl rfl ?_
            refine r_bipush (pc := 157) S0 dX12_next_157 (by decide) ?_
            refine thn_rule (P := fun v96 => G p l e0 (rmx 2 83) s m args below meth c 0 0 Q cA D N 2 ad T A nx 169 [(0, rv ad w0), (1, iv s77.1)] [] v96) hf (fun v96 hf => ?_) (fun K95 hf => ?_)
            · refine r_aload_n (pc := 169) S0 0 dX12_next_169 rfl rfl ?_
              refine r_dup (pc := 170) S0 dX12_next_170 rfl ?_
              refine r_getI (pc := 171) S0 hK fl_X12_113 dX12_next_171 hf (fun x98 c99 hf => ?_)
              refine r_iconst (pc := 174) S0 dX12_next_174 ?_
              refine r_iadd (pc := 175) S0 dX12_next_175 ?_
              refine r_putI (pc := 176) S0 hK fl_X12_113 rfl rfl (cn_wrap _) dX12_next_176 hf (fun I100 hf => ?_)
              refine r_iinc (pc := 179) (lv' := [(1, iv (ia s77.1 1)), (0, rv ad w0)]) S0 1 dX12_next_179 rfl (by decide) rfl ?_
              refine r_goto (pc := 182) (tgt := 102) S0 dX12_next_182 (by decide) ?_
              have hz := ok_some hf
              refine r_lv [1, 0] rfl ?_
              exact ih76 (ia s77.1 1, I100) hz (cn_wrap _)
            · refine r_icmp_le (pc := 159) (tgt := 169) S0 dX12_next_159 (by decide) c78 (cnz 11 rfl) hf (fun hf => ?_) (fun hf => ?_)
              · have hz := ok_some hf
                refine r_lv [0, 1] rfl ?_
                exact K95 I94 hz
              · refine r_aload_n (pc := 162) S0 0 dX12_next_162 rfl rfl ?_
                refine r_ldc2 (pc := 163) (z := (-1)) S0 kl_X12_133 dX12_next_163 (by decide) ?_
                refine r_putJ (pc := 166) S0 hK fl_X12_126 rfl rfl (clz (-1) rfl) dX12_next_166 hf (fun I97 hf => ?_)
                have hz := ok_some hf
                refine r_lv [0, 1] rfl ?_
                exact K95 I97 hz
          · refine r_icmp_le (pc := 121) (tgt := 130) S0 dX12_next_121 (by decide) c78 (cnz 11 rfl) hf (fun hf => ?_) (fun hf => ?_)
            · refine r_ldc2 (pc := 130) (z := 27) S0 kl_X12_135 dX12_next_130 (by decide) ?_
              refine r_aload_n (pc := 133) S0 0 dX12_next_133 rfl rfl ?_
              refine r_getJ (pc := 134) S0 hK fl_X12_126 dX12_next_134 hf (fun x87 c88 hf => ?_)
              refine r_lmul (pc := 137) S0 dX12_next_137 ?_
              refine r_aload_n (pc := 138) S0 0 dX12_next_138 rfl rfl ?_
              refine r_getR (pc := 139) S0 hK fl_X12_23 dX12_next_139 hf (fun x89 hf => ?_)
              refine r_aload_n (pc := 142) S0 0 dX12_next_142 rfl rfl ?_
              refine r_getI (pc := 143) S0 hK fl_X12_113 dX12_next_143 hf (fun x90 c91 hf => ?_)
              refine r_bald (pc := 146) S0 hK dX12_next_146 c91 hf (fun x92 c93 hf => ?_)
              refine r_i2l (pc := 147) S0 dX12_next_147 c93 ?_
              refine r_ladd (pc := 148) S0 dX12_next_148 ?_
              refine r_ldc2 (pc := 149) (z := 96) S0 kl_X12_137 dX12_next_149 (by decide) ?_
              refine r_lsub (pc := 152) S0 dX12_next_152 ?_
              have hz := ok_some hf
              refine r_lv [0, 1] rfl ?_
              exact K84 (ils (ila (ilm 27 x87) x92) 96) hz (cl_wrapl _)
            · refine r_ldc2 (pc := 124) (z := (-1)) S0 kl_X12_133 dX12_next_124 (by decide) ?_
              refine r_goto (pc := 127) (tgt := 153) S0 dX12_next_127 (by decide) ?_
              have hz := ok_some hf
              refine r_lv [0, 1] rfl ?_
              exact K84 (-1) hz (clz (-1) rfl)
    · refine r_aload_n (pc := 72) S0 0 dX12_next_72 rfl rfl ?_
      refine r_iconst (pc := 73) S0 dX12_next_73 ?_
      refine r_putI (pc := 74) S0 hK fl_X12_130 rfl rfl (cnz 0 rfl) dX12_next_74 hf (fun I101 hf => ?_)
      refine r_goto (pc := 77) (tgt := 307) S0 dX12_next_77 (by decide) ?_
      have hz := ok_some hf
      have hz : I101 = e := hz
      subst hQ
      subst hz
      exact r_vret (pc := 307) S0 hr hlk dX12_next_307
  · refine r_lv [0] rfl ?_
    refine it_ind (P := fun s4 => G p l e0 (rmx 2 83) s m args below meth c 0 0 Q cA D N 2 ad T A nx 0 [(0, rv ad w0)] [] s4) (fun n0 s4 ih3 hf => ?_) FU I hf
    refine r_aload_n (pc := 0) S0 0 dX12_next_0 rfl rfl ?_
    refine r_aload_n (pc := 1) S0 0 dX12_next_1 rfl rfl ?_
    refine r_getI (pc := 2) S0 hK fl_X12_113 dX12_next_2 hf (fun x5 c6 hf => ?_)
    refine r_bipush (pc := 5) S0 dX12_next_5 (by decide) ?_
    refine r_bipush (pc := 7) S0 dX12_next_7 (by decide) ?_
    obtain ⟨e7, h8, hf⟩ := ok_bind hf
    refine r_cV_I (pc := 9) [iv x5, iv 32, iv 32] S0 hK hX mv_X12_116 (k_X12_isByte h8) (c_X12_isByte l cA D N sx ad T A nx s4 w0 x5 32 32 c6 (cnz 32 rfl) (cnz 32 rfl) e7 h8) rfl rfl ⟨by decide, by decide⟩ (Nat.le_of_ble_eq_true rfl) ⟨Nat.le_refl _, Nat.le_refl _⟩ dX12_next_9 (fun c9 => ?_)
    refine thn_rule (P := fun v11 => G p l e0 (rmx 2 83) s m args below meth c 0 0 Q cA D N 2 ad T A nx 30 [(0, rv ad w0)] [] s4) hf (fun v11 hf => ?_) (fun K10 hf => ?_)
    · refine r_aload_n (pc := 30) S0 0 dX12_next_30 rfl rfl ?_
      refine r_dup (pc := 31) S0 dX12_next_31 rfl ?_
      refine r_getI (pc := 32) S0 hK fl_X12_113 dX12_next_32 hf (fun x17 c18 hf => ?_)
      refine r_iconst (pc := 35) S0 dX12_next_35 ?_
      refine r_iadd (pc := 36) S0 dX12_next_36 ?_
      refine r_putI (pc := 37) S0 hK fl_X12_113 rfl rfl (cn_wrap _) dX12_next_37 hf (fun I19 hf => ?_)
      refine r_goto (pc := 40) (tgt := 0) S0 dX12_next_40 (by decide) ?_
      have hz := ok_some hf
      refine r_lv [0] rfl ?_
      exact ih3 I19 hz
    · refine r_if_ne (pc := 12) (tgt := 30) S0 dX12_next_12 (by decide) c9 hf (fun hf => ?_) (fun hf => ?_)
      · have hz := ok_some hf
        refine r_lv [0] rfl ?_
        exact K10 () hz
      · refine r_aload_n (pc := 15) S0 0 dX12_next_15 rfl rfl ?_
        refine r_aload_n (pc := 16) S0 0 dX12_next_16 rfl rfl ?_
        refine r_getI (pc := 17) S0 hK fl_X12_113 dX12_next_17 hf (fun x12 c13 hf => ?_)
        refine r_bipush (pc := 20) S0 dX12_next_20 (by decide) ?_
        refine r_bipush (pc := 22) S0 dX12_next_22 (by decide) ?_
        obtain ⟨e14, h15, hf⟩ := ok_bind hf
        refine r_cV_I (pc := 24) [iv x12, iv 10, iv 10] S0 hK hX mv_X12_116 (k_X12_isByte h15) (c_X12_isByte l cA D N sx ad T A nx s4 w0 x12 10 10 c13 (cnz 10 rfl) (cnz 10 rfl) e14 h15) rfl rfl ⟨by decide, by decide⟩ (Nat.le_of_ble_eq_true rfl) ⟨Nat.le_refl _, Nat.le_refl _⟩ dX12_next_24 (fun c16 => ?_)
        refine r_if_eq (pc := 27) (tgt := 43) S0 dX12_next_27 (by decide) c16 hf (fun hf => ?_) (fun hf => ?_)
        · have hz := ok_some hf
          refine r_lv [0] rfl ?_
          exact K1 s4 hz
        · have hz := ok_some hf
          refine r_lv [0] rfl ?_
          exact K10 () hz

set_option maxHeartbeats 4000000 in
set_option maxRecDepth 100000 in
theorem c_X12_isGood (l : Launch) (cA : Nat → ClassId) (D : va_G) (N : Nat) (sx : Sx) (ad : Nat → Nat) (T : Knd) (A : Rfs) (nx : Nat) (I : Mem) (w0 : Nat)  (e : Int) (h : f_X12_isGood T A w0 I = some e) : CtI l yX12_isGood cX12_isGood 1 (some .boolean) 1 60 cA D N sx ad T A nx [rv ad w0] I I e := by
  refine met_of (lv0 := [(0, rv ad w0)]) (by decide) (Nat.le_of_ble_eq_true rfl) rfl (fun p e0 s m args below meth c S0 hK hX hr hlk Q hQ => ?_)
  have hf : OK (f_X12_isGood T A w0 I) (fun z => z = e) := ⟨e, h, rfl⟩
  unfold f_X12_isGood at hf
  obtain ⟨hw0, hf⟩ := ok_grd hf
  refine r_aload_n (pc := 0) S0 0 dX12_isGood_0 rfl rfl ?_
  refine r_getI (pc := 1) S0 hK fl_X12_141 dX12_isGood_1 hf (fun x1 c2 hf => ?_)
  refine r_if_ne (pc := 4) (tgt := 11) S0 dX12_isGood_4 (by decide) c2 hf (fun hf => ?_) (fun hf => ?_)
  · refine r_iconst (pc := 11) S0 dX12_isGood_11 ?_
    have hz := ok_some hf
    have hz : 0 = e := hz
    subst hQ
    subst hz
    exact r_zret (pc := 12) S0 hr hlk (Or.inl rfl) dX12_isGood_12
  · refine r_iconst (pc := 7) S0 dX12_isGood_7 ?_
    refine r_goto (pc := 8) (tgt := 12) S0 dX12_isGood_8 (by decide) ?_
    have hz := ok_some hf
    have hz : 1 = e := hz
    subst hQ
    subst hz
    exact r_zret (pc := 12) S0 hr hlk (Or.inr rfl) dX12_isGood_12

set_option maxHeartbeats 4000000 in
set_option maxRecDepth 100000 in
theorem c_X12_fails (l : Launch) (cA : Nat → ClassId) (D : va_G) (N : Nat) (sx : Sx) (ad : Nat → Nat) (T : Knd) (A : Rfs) (nx : Nat) (I : Mem) (w0 : Nat) (a1 : Int) (ca1 : cn a1) (e : Mem) (h : f_X12_fails T A w0 a1 I = some e) : CtV l yX12_fails cX12_fails 2 none 1 60 cA D N sx ad T A nx [rv ad w0, iv a1] I e := by
  refine met_of (lv0 := [(0, rv ad w0), (1, iv a1)]) (by decide) (Nat.le_of_ble_eq_true rfl) rfl (fun p e0 s m args below meth c S0 hK hX hr hlk Q hQ => ?_)
  have hf : OK (f_X12_fails T A w0 a1 I) (fun z => z = e) := ⟨e, h, rfl⟩
  unfold f_X12_fails at hf
  obtain ⟨hw0, hf⟩ := ok_grd hf
  refine r_aload_n (pc := 0) S0 0 dX12_fails_0 rfl rfl ?_
  refine r_getI (pc := 1) S0 hK fl_X12_141 dX12_fails_1 hf (fun x1 c2 hf => ?_)
  refine r_if_eq (pc := 4) (tgt := 8) S0 dX12_fails_4 (by decide) c2 hf (fun hf => ?_) (fun hf => ?_)
  · refine r_aload_n (pc := 8) S0 0 dX12_fails_8 rfl rfl ?_
    refine r_iload_n (pc := 9) S0 1 dX12_fails_9 rfl rfl ?_
    refine r_putI (pc := 10) S0 hK fl_X12_141 rfl rfl ca1 dX12_fails_10 hf (fun I3 hf => ?_)
    refine r_aload_n (pc := 13) S0 0 dX12_fails_13 rfl rfl ?_
    refine r_aload_n (pc := 14) S0 0 dX12_fails_14 rfl rfl ?_
    refine r_getI (pc := 15) S0 hK fl_X12_120 dX12_fails_15 hf (fun x4 c5 hf => ?_)
    refine r_putI (pc := 18) S0 hK fl_X12_144 rfl rfl c5 dX12_fails_18 hf (fun I6 hf => ?_)
    have hz := ok_some hf
    have hz : I6 = e := hz
    subst hQ
    subst hz
    exact r_vret (pc := 21) S0 hr hlk dX12_fails_21
  · have hz := ok_some hf
    have hz : I = e := hz
    subst hQ
    subst hz
    exact r_vret (pc := 7) S0 hr hlk dX12_fails_7

set_option maxHeartbeats 4000000 in
set_option maxRecDepth 100000 in
theorem c_X12_is (l : Launch) (cA : Nat → ClassId) (D : va_G) (N : Nat) (sx : Sx) (ad : Nat → Nat) (T : Knd) (A : Rfs) (nx : Nat) (I : Mem) (w0 : Nat) (a1 : Int) (ca1 : cl a1) (e : Int) (h : f_X12_is T A w0 a1 I = some e) : CtI l yX12_is cX12_is 3 (some .boolean) 1 60 cA D N sx ad T A nx [rv ad w0, jv a1] I I e := by
  refine met_of (lv0 := [(0, rv ad w0), (1, jv a1)]) (by decide) (Nat.le_of_ble_eq_true rfl) rfl (fun p e0 s m args below meth c S0 hK hX hr hlk Q hQ => ?_)
  have hf : OK (f_X12_is T A w0 a1 I) (fun z => z = e) := ⟨e, h, rfl⟩
  unfold f_X12_is at hf
  obtain ⟨hw0, hf⟩ := ok_grd hf
  refine r_aload_n (pc := 0) S0 0 dX12_is_0 rfl rfl ?_
  refine r_getI (pc := 1) S0 hK fl_X12_141 dX12_is_1 hf (fun x1 c2 hf => ?_)
  refine r_if_ne (pc := 4) (tgt := 28) S0 dX12_is_4 (by decide) c2 hf (fun hf => ?_) (fun hf => ?_)
  · refine r_iconst (pc := 28) S0 dX12_is_28 ?_
    have hz := ok_some hf
    have hz : 0 = e := hz
    subst hQ
    subst hz
    exact r_zret (pc := 29) S0 hr hlk (Or.inl rfl) dX12_is_29
  · refine r_aload_n (pc := 7) S0 0 dX12_is_7 rfl rfl ?_
    refine r_getI (pc := 8) S0 hK fl_X12_130 dX12_is_8 hf (fun x3 c4 hf => ?_)
    refine r_iconst (pc := 11) S0 dX12_is_11 ?_
    refine r_icmp_ne (pc := 12) (tgt := 28) S0 dX12_is_12 (by decide) c4 (cnz 1 rfl) hf (fun hf => ?_) (fun hf => ?_)
    · refine r_iconst (pc := 28) S0 dX12_is_28 ?_
      have hz := ok_some hf
      have hz : 0 = e := hz
      subst hQ
      subst hz
      exact r_zret (pc := 29) S0 hr hlk (Or.inl rfl) dX12_is_29
    · refine r_aload_n (pc := 15) S0 0 dX12_is_15 rfl rfl ?_
      refine r_getJ (pc := 16) S0 hK fl_X12_126 dX12_is_16 hf (fun x5 c6 hf => ?_)
      refine r_lload_n (pc := 19) S0 1 dX12_is_19 rfl rfl ?_
      refine r_lcmp (pc := 20) S0 dX12_is_20 c6 ca1 ?_
      refine r_if_ne (pc := 21) (tgt := 28) S0 dX12_is_21 (by decide) (cn_lcmp _ _) hf (fun hf => ?_) (fun hf => ?_)
      · refine r_iconst (pc := 28) S0 dX12_is_28 ?_
        have hz := ok_some hf
        have hz : 0 = e := hz
        subst hQ
        subst hz
        exact r_zret (pc := 29) S0 hr hlk (Or.inl rfl) dX12_is_29
      · refine r_iconst (pc := 24) S0 dX12_is_24 ?_
        refine r_goto (pc := 25) (tgt := 29) S0 dX12_is_25 (by decide) ?_
        have hz := ok_some hf
        have hz : 1 = e := hz
        subst hQ
        subst hz
        exact r_zret (pc := 29) S0 hr hlk (Or.inr rfl) dX12_is_29

set_option maxHeartbeats 4000000 in
set_option maxRecDepth 100000 in
theorem c_X12_takes (l : Launch) (cA : Nat → ClassId) (D : va_G) (N : Nat) (sx : Sx) (ad : Nat → Nat) (T : Knd) (A : Rfs) (nx : Nat) (I : Mem) (w0 : Nat) (a1 : Int) (ca1 : cl a1) (e : (Int × Mem)) (h : f_X12_takes T A w0 a1 I = some e) : CtI l yX12_takes cX12_takes 3 (some .boolean) 3 104 cA D N sx ad T A nx [rv ad w0, jv a1] I e.2 e.1 := by
  refine met_of (lv0 := [(0, rv ad w0), (1, jv a1)]) (by decide) (Nat.le_of_ble_eq_true rfl) rfl (fun p e0 s m args below meth c S0 hK hX hr hlk Q hQ => ?_)
  have hf : OK (f_X12_takes T A w0 a1 I) (fun z => z = e) := ⟨e, h, rfl⟩
  unfold f_X12_takes at hf
  obtain ⟨hw0, hf⟩ := ok_grd hf
  refine r_aload_n (pc := 0) S0 0 dX12_takes_0 rfl rfl ?_
  refine r_lload_n (pc := 1) S0 1 dX12_takes_1 rfl rfl ?_
  obtain ⟨e1, h2, hf⟩ := ok_bind hf
  refine r_cV_I (pc := 2) [jv a1] S0 hK hX mv_X12_147 (k_X12_is h2) (c_X12_is l cA D N sx ad T A nx I w0 a1 ca1 e1 h2) rfl rfl ⟨by decide, by decide⟩ (Nat.le_of_ble_eq_true rfl) ⟨Nat.le_refl _, Nat.le_refl _⟩ dX12_takes_2 (fun c3 => ?_)
  refine r_if_ne (pc := 5) (tgt := 10) S0 dX12_takes_5 (by decide) c3 hf (fun hf => ?_) (fun hf => ?_)
  · refine r_aload_n (pc := 10) S0 0 dX12_takes_10 rfl rfl ?_
    obtain ⟨e4, h5, hf⟩ := ok_bind hf
    refine r_cV_V (pc := 11) [] S0 hK hX mv_X12_151 (k_X12_next h5) (c_X12_next l cA D N sx ad T A nx I w0 e4 h5) rfl rfl ⟨by decide, by decide⟩ (Nat.le_of_ble_eq_true rfl) ⟨Nat.le_refl _, Nat.le_refl _⟩ dX12_takes_11 ?_
    refine r_iconst (pc := 14) S0 dX12_takes_14 ?_
    have hz := ok_some hf
    have hz : (1, e4) = e := hz
    subst hQ
    subst hz
    exact r_zret (pc := 15) S0 hr hlk (Or.inr rfl) dX12_takes_15
  · refine r_iconst (pc := 8) S0 dX12_takes_8 ?_
    have hz := ok_some hf
    have hz : (0, I) = e := hz
    subst hQ
    subst hz
    exact r_zret (pc := 9) S0 hr hlk (Or.inl rfl) dX12_takes_9

set_option maxHeartbeats 4000000 in
set_option maxRecDepth 100000 in
theorem c_X12_asks (l : Launch) (cA : Nat → ClassId) (D : va_G) (N : Nat) (sx : Sx) (ad : Nat → Nat) (T : Knd) (A : Rfs) (nx : Nat) (I : Mem) (w0 : Nat) (a1 : Int) (ca1 : cl a1) (e : Mem) (h : f_X12_asks T A w0 a1 I = some e) : CtV l yX12_asks cX12_asks 3 none 4 126 cA D N sx ad T A nx [rv ad w0, jv a1] I e := by
  refine met_of (lv0 := [(0, rv ad w0), (1, jv a1)]) (by decide) (Nat.le_of_ble_eq_true rfl) rfl (fun p e0 s m args below meth c S0 hK hX hr hlk Q hQ => ?_)
  have hf : OK (f_X12_asks T A w0 a1 I) (fun z => z = e) := ⟨e, h, rfl⟩
  unfold f_X12_asks at hf
  obtain ⟨hw0, hf⟩ := ok_grd hf
  refine r_aload_n (pc := 0) S0 0 dX12_asks_0 rfl rfl ?_
  refine r_lload_n (pc := 1) S0 1 dX12_asks_1 rfl rfl ?_
  obtain ⟨e1, h2, hf⟩ := ok_bind hf
  refine r_cV_I (pc := 2) [jv a1] S0 hK hX mv_X12_154 (k_X12_takes h2) (c_X12_takes l cA D N sx ad T A nx I w0 a1 ca1 e1 h2) rfl rfl ⟨by decide, by decide⟩ (Nat.le_of_ble_eq_true rfl) ⟨Nat.le_refl _, Nat.le_refl _⟩ dX12_asks_2 (fun c3 => ?_)
  refine r_if_ne (pc := 5) (tgt := 13) S0 dX12_asks_5 (by decide) c3 hf (fun hf => ?_) (fun hf => ?_)
  · have hz := ok_some hf
    have hz : e1.2 = e := hz
    subst hQ
    subst hz
    exact r_vret (pc := 13) S0 hr hlk dX12_asks_13
  · refine r_aload_n (pc := 8) S0 0 dX12_asks_8 rfl rfl ?_
    refine r_iconst (pc := 9) S0 dX12_asks_9 ?_
    obtain ⟨e4, h5, hf⟩ := ok_bind hf
    refine r_cV_V (pc := 10) [iv 1] S0 hK hX mv_X12_157 (k_X12_fails h5) (c_X12_fails l cA D N sx ad T A nx e1.2 w0 1 (cnz 1 rfl) e4 h5) rfl rfl ⟨by decide, by decide⟩ (Nat.le_of_ble_eq_true rfl) ⟨Nat.le_refl _, Nat.le_refl _⟩ dX12_asks_10 ?_
    have hz := ok_some hf
    have hz : e4 = e := hz
    subst hQ
    subst hz
    exact r_vret (pc := 13) S0 hr hlk dX12_asks_13

set_option maxHeartbeats 4000000 in
set_option maxRecDepth 100000 in
theorem c_X12_number (l : Launch) (cA : Nat → ClassId) (D : va_G) (N : Nat) (sx : Sx) (ad : Nat → Nat) (T : Knd) (A : Rfs) (nx : Nat) (I : Mem) (w0 : Nat) (a1 : Int) (a2 : Int) (ca1 : cn a1) (ca2 : cn a2) (e : (Int × Mem)) (h : f_X12_number T A w0 a1 a2 I = some e) : CtI l yX12_number cX12_number 4 (some .int) 3 104 cA D N sx ad T A nx [rv ad w0, iv a1, iv a2] I e.2 e.1 := by
  refine met_of (lv0 := [(0, rv ad w0), (1, iv a1), (2, iv a2)]) (by decide) (Nat.le_of_ble_eq_true rfl) rfl (fun p e0 s m args below meth c S0 hK hX hr hlk Q hQ => ?_)
  have hf : OK (f_X12_number T A w0 a1 a2 I) (fun z => z = e) := ⟨e, h, rfl⟩
  unfold f_X12_number at hf
  obtain ⟨hw0, hf⟩ := ok_grd hf
  refine r_aload_n (pc := 0) S0 0 dX12_number_0 rfl rfl ?_
  refine r_getI (pc := 1) S0 hK fl_X12_141 dX12_number_1 hf (fun x1 c2 hf => ?_)
  refine r_if_eq (pc := 4) (tgt := 9) S0 dX12_number_4 (by decide) c2 hf (fun hf => ?_) (fun hf => ?_)
  · refine r_aload_n (pc := 9) S0 0 dX12_number_9 rfl rfl ?_
    refine r_getI (pc := 10) S0 hK fl_X12_130 dX12_number_10 hf (fun x3 c4 hf => ?_)
    refine r_iconst (pc := 13) S0 dX12_number_13 ?_
    refine r_icmp_eq (pc := 14) (tgt := 24) S0 dX12_number_14 (by decide) c4 (cnz 2 rfl) hf (fun hf => ?_) (fun hf => ?_)
    · refine r_aload_n (pc := 24) S0 0 dX12_number_24 rfl rfl ?_
      refine r_getI (pc := 25) S0 hK fl_X12_123 dX12_number_25 hf (fun x5 c6 hf => ?_)
      refine r_i2l (pc := 28) S0 dX12_number_28 c6 ?_
      refine r_iload_n (pc := 29) S0 1 dX12_number_29 rfl rfl ?_
      refine r_i2l (pc := 30) S0 dX12_number_30 ca1 ?_
      refine r_iload_n (pc := 31) S0 2 dX12_number_31 rfl rfl ?_
      refine r_i2l (pc := 32) S0 dX12_number_32 ca2 ?_
      obtain ⟨e7, h8, hf⟩ := ok_bind hf
      refine r_cS_I (pc := 33) [jv x5, jv a1, jv a2] S0 hK hX ms_X12_94 (c_X12_in l cA D N sx ad T A nx I x5 a1 a2 (cl_cn c6) (cl_cn ca1) (cl_cn ca2) e7 h8) rfl rfl ⟨by decide, by decide⟩ (Nat.le_of_ble_eq_true rfl) ⟨Nat.le_refl _, Nat.le_refl _⟩ dX12_number_33 (fun c9 => ?_)
      refine r_if_ne (pc := 36) (tgt := 46) S0 dX12_number_36 (by decide) c9 hf (fun hf => ?_) (fun hf => ?_)
      · refine r_aload_n (pc := 46) S0 0 dX12_number_46 rfl rfl ?_
        refine r_getI (pc := 47) S0 hK fl_X12_123 dX12_number_47 hf (fun x10 c11 hf => ?_)
        refine r_istore_n (pc := 50) (lv' := [(3, iv x10), (0, rv ad w0), (1, iv a1), (2, iv a2)]) S0 dX12_number_50 rfl (by decide) rfl ?_
        refine r_aload_n (pc := 51) S0 1 dX12_number_51 rfl rfl ?_
        obtain ⟨e12, h13, hf⟩ := ok_bind hf
        refine r_cV_V (pc := 52) [] S0 hK hX mv_X12_151 (k_X12_next h13) (c_X12_next l cA D N sx ad T A nx I w0 e12 h13) rfl rfl ⟨by decide, by decide⟩ (Nat.le_of_ble_eq_true rfl) ⟨Nat.le_refl _, Nat.le_refl _⟩ dX12_number_52 ?_
        refine r_iload_n (pc := 55) S0 0 dX12_number_55 rfl rfl ?_
        have hz := ok_some hf
        have hz : (x10, e12) = e := hz
        subst hQ
        subst hz
        exact r_iret (pc := 56) S0 hr hlk c11 dX12_number_56
      · refine r_aload_n (pc := 39) S0 0 dX12_number_39 rfl rfl ?_
        refine r_iconst (pc := 40) S0 dX12_number_40 ?_
        obtain ⟨e14, h15, hf⟩ := ok_bind hf
        refine r_cV_V (pc := 41) [iv 2] S0 hK hX mv_X12_157 (k_X12_fails h15) (c_X12_fails l cA D N sx ad T A nx I w0 2 (cnz 2 rfl) e14 h15) rfl rfl ⟨by decide, by decide⟩ (Nat.le_of_ble_eq_true rfl) ⟨Nat.le_refl _, Nat.le_refl _⟩ dX12_number_41 ?_
        refine r_iload_n (pc := 44) S0 1 dX12_number_44 rfl rfl ?_
        have hz := ok_some hf
        have hz : (a1, e14) = e := hz
        subst hQ
        subst hz
        exact r_iret (pc := 45) S0 hr hlk ca1 dX12_number_45
    · refine r_aload_n (pc := 17) S0 0 dX12_number_17 rfl rfl ?_
      refine r_iconst (pc := 18) S0 dX12_number_18 ?_
      obtain ⟨e16, h17, hf⟩ := ok_bind hf
      refine r_cV_V (pc := 19) [iv 1] S0 hK hX mv_X12_157 (k_X12_fails h17) (c_X12_fails l cA D N sx ad T A nx I w0 1 (cnz 1 rfl) e16 h17) rfl rfl ⟨by decide, by decide⟩ (Nat.le_of_ble_eq_true rfl) ⟨Nat.le_refl _, Nat.le_refl _⟩ dX12_number_19 ?_
      refine r_iload_n (pc := 22) S0 1 dX12_number_22 rfl rfl ?_
      have hz := ok_some hf
      have hz : (a1, e16) = e := hz
      subst hQ
      subst hz
      exact r_iret (pc := 23) S0 hr hlk ca1 dX12_number_23
  · refine r_iload_n (pc := 7) S0 1 dX12_number_7 rfl rfl ?_
    have hz := ok_some hf
    have hz : (a1, I) = e := hz
    subst hQ
    subst hz
    exact r_iret (pc := 8) S0 hr hlk ca1 dX12_number_8

set_option maxHeartbeats 4000000 in
set_option maxRecDepth 100000 in
theorem c_X12_number_ (l : Launch) (cA : Nat → ClassId) (D : va_G) (N : Nat) (sx : Sx) (ad : Nat → Nat) (T : Knd) (A : Rfs) (nx : Nat) (I : Mem) (w0 : Nat) (a1 : Int) (a3 : Int) (a4 : Int) (ca1 : cl a1) (ca3 : cn a3) (ca4 : cn a4) (e : (Int × Mem)) (h : f_X12_number_ T A w0 a1 a3 a4 I = some e) : CtI l yX12_number_ cX12_number_ 5 (some .int) 5 148 cA D N sx ad T A nx [rv ad w0, jv a1, iv a3, iv a4] I e.2 e.1 := by
  refine met_of (lv0 := [(0, rv ad w0), (1, jv a1), (3, iv a3), (4, iv a4)]) (by decide) (Nat.le_of_ble_eq_true rfl) rfl (fun p e0 s m args below meth c S0 hK hX hr hlk Q hQ => ?_)
  have hf : OK (f_X12_number_ T A w0 a1 a3 a4 I) (fun z => z = e) := ⟨e, h, rfl⟩
  unfold f_X12_number_ at hf
  obtain ⟨hw0, hf⟩ := ok_grd hf
  refine r_aload_n (pc := 0) S0 0 dX12_number__0 rfl rfl ?_
  refine r_lload_n (pc := 1) S0 1 dX12_number__1 rfl rfl ?_
  obtain ⟨e1, h2, hf⟩ := ok_bind hf
  refine r_cV_V (pc := 2) [jv a1] S0 hK hX mv_X12_160 (k_X12_asks h2) (c_X12_asks l cA D N sx ad T A nx I w0 a1 ca1 e1 h2) rfl rfl ⟨by decide, by decide⟩ (Nat.le_of_ble_eq_true rfl) ⟨Nat.le_refl _, Nat.le_refl _⟩ dX12_number__2 ?_
  refine r_aload_n (pc := 5) S0 0 dX12_number__5 rfl rfl ?_
  refine r_iload_n (pc := 6) S0 2 dX12_number__6 rfl rfl ?_
  refine r_iload (pc := 7) S0 3 dX12_number__7 rfl ?_
  obtain ⟨e3, h4, hf⟩ := ok_bind hf
  refine r_cV_I (pc := 9) [iv a3, iv a4] S0 hK hX mv_X12_164 (k_X12_number h4) (c_X12_number l cA D N sx ad T A nx e1 w0 a3 a4 ca3 ca4 e3 h4) rfl rfl ⟨by decide, by decide⟩ (Nat.le_of_ble_eq_true rfl) ⟨Nat.le_refl _, Nat.le_refl _⟩ dX12_number__9 (fun c5 => ?_)
  have hz := ok_some hf
  have hz : (e3.1, e3.2) = e := hz
  subst hQ
  subst hz
  exact r_iret (pc := 12) S0 hr hlk c5 dX12_number__12

set_option maxHeartbeats 4000000 in
set_option maxRecDepth 100000 in
theorem c_X12_ends (l : Launch) (cA : Nat → ClassId) (D : va_G) (N : Nat) (sx : Sx) (ad : Nat → Nat) (T : Knd) (A : Rfs) (nx : Nat) (I : Mem) (w0 : Nat)  (e : Mem) (h : f_X12_ends T A w0 I = some e) : CtV l yX12_ends cX12_ends 1 none 3 104 cA D N sx ad T A nx [rv ad w0] I e := by
  refine met_of (lv0 := [(0, rv ad w0)]) (by decide) (Nat.le_of_ble_eq_true rfl) rfl (fun p e0 s m args below meth c S0 hK hX hr hlk Q hQ => ?_)
  have hf : OK (f_X12_ends T A w0 I) (fun z => z = e) := ⟨e, h, rfl⟩
  unfold f_X12_ends at hf
  obtain ⟨hw0, hf⟩ := ok_grd hf
  refine r_aload_n (pc := 0) S0 0 dX12_ends_0 rfl rfl ?_
  refine r_getI (pc := 1) S0 hK fl_X12_130 dX12_ends_1 hf (fun x1 c2 hf => ?_)
  refine r_iconst (pc := 4) S0 dX12_ends_4 ?_
  refine thn_rule (P := fun v4 => G p l e0 (rmx 3 104) s m args below meth c 0 0 Q cA D N 1 ad T A nx 13 [(0, rv ad w0)] [] v4) hf (fun v4 hf => ?_) (fun K3 hf => ?_)
  · refine r_aload_n (pc := 13) S0 0 dX12_ends_13 rfl rfl ?_
    refine r_getI (pc := 14) S0 hK fl_X12_141 dX12_ends_14 hf (fun x7 c8 hf => ?_)
    refine r_if_ne (pc := 17) (tgt := 24) S0 dX12_ends_17 (by decide) c8 hf (fun hf => ?_) (fun hf => ?_)
    · have hz := ok_some hf
      have hz : v4 = e := hz
      subst hQ
      subst hz
      exact r_vret (pc := 24) S0 hr hlk dX12_ends_24
    · refine r_aload_n (pc := 20) S0 0 dX12_ends_20 rfl rfl ?_
      obtain ⟨e9, h10, hf⟩ := ok_bind hf
      refine r_cV_V (pc := 21) [] S0 hK hX mv_X12_151 (k_X12_next h10) (c_X12_next l cA D N sx ad T A nx v4 w0 e9 h10) rfl rfl ⟨by decide, by decide⟩ (Nat.le_of_ble_eq_true rfl) ⟨Nat.le_refl _, Nat.le_refl _⟩ dX12_ends_21 ?_
      have hz := ok_some hf
      have hz : e9 = e := hz
      subst hQ
      subst hz
      exact r_vret (pc := 24) S0 hr hlk dX12_ends_24
  · refine r_icmp_eq (pc := 5) (tgt := 13) S0 dX12_ends_5 (by decide) c2 (cnz 3 rfl) hf (fun hf => ?_) (fun hf => ?_)
    · have hz := ok_some hf
      refine r_lv [0] rfl ?_
      exact K3 I hz
    · refine r_aload_n (pc := 8) S0 0 dX12_ends_8 rfl rfl ?_
      refine r_iconst (pc := 9) S0 dX12_ends_9 ?_
      obtain ⟨e5, h6, hf⟩ := ok_bind hf
      refine r_cV_V (pc := 10) [iv 1] S0 hK hX mv_X12_157 (k_X12_fails h6) (c_X12_fails l cA D N sx ad T A nx I w0 1 (cnz 1 rfl) e5 h6) rfl rfl ⟨by decide, by decide⟩ (Nat.le_of_ble_eq_true rfl) ⟨Nat.le_refl _, Nat.le_refl _⟩ dX12_ends_10 ?_
      have hz := ok_some hf
      refine r_lv [0] rfl ?_
      exact K3 e5 hz

set_option maxHeartbeats 4000000 in
set_option maxRecDepth 100000 in
theorem c_X12_begins (l : Launch) (cA : Nat → ClassId) (D : va_G) (N : Nat) (sx : Sx) (ad : Nat → Nat) (T : Knd) (A : Rfs) (nx : Nat) (I : Mem) (w0 : Nat)  (e : Mem) (h : f_X12_begins T A w0 I = some e) : CtV l yX12_begins cX12_begins 1 none 3 104 cA D N sx ad T A nx [rv ad w0] I e := by
  refine met_of (lv0 := [(0, rv ad w0)]) (by decide) (Nat.le_of_ble_eq_true rfl) rfl (fun p e0 s m args below meth c S0 hK hX hr hlk Q hQ => ?_)
  have hf : OK (f_X12_begins T A w0 I) (fun z => z = e) := ⟨e, h, rfl⟩
  unfold f_X12_begins at hf
  obtain ⟨hw0, hf⟩ := ok_grd hf
  refine r_aload_n (pc := 0) S0 0 dX12_begins_0 rfl rfl ?_
  refine r_iconst (pc := 1) S0 dX12_begins_1 ?_
  refine r_putI (pc := 2) S0 hK fl_X12_141 rfl rfl (cnz 0 rfl) dX12_begins_2 hf (fun I1 hf => ?_)
  refine r_aload_n (pc := 5) S0 0 dX12_begins_5 rfl rfl ?_
  refine r_iconst (pc := 6) S0 dX12_begins_6 ?_
  refine r_putI (pc := 7) S0 hK fl_X12_144 rfl rfl (cnz (-1) rfl) dX12_begins_7 hf (fun I2 hf => ?_)
  refine r_aload_n (pc := 10) S0 0 dX12_begins_10 rfl rfl ?_
  refine r_iconst (pc := 11) S0 dX12_begins_11 ?_
  refine r_putI (pc := 12) S0 hK fl_X12_113 rfl rfl (cnz 0 rfl) dX12_begins_12 hf (fun I3 hf => ?_)
  refine r_aload_n (pc := 15) S0 0 dX12_begins_15 rfl rfl ?_
  obtain ⟨e4, h5, hf⟩ := ok_bind hf
  refine r_cV_V (pc := 16) [] S0 hK hX mv_X12_151 (k_X12_next h5) (c_X12_next l cA D N sx ad T A nx I3 w0 e4 h5) rfl rfl ⟨by decide, by decide⟩ (Nat.le_of_ble_eq_true rfl) ⟨Nat.le_refl _, Nat.le_refl _⟩ dX12_begins_16 ?_
  have hz := ok_some hf
  have hz : e4 = e := hz
  subst hQ
  subst hz
  exact r_vret (pc := 19) S0 hr hlk dX12_begins_19

set_option maxHeartbeats 4000000 in
set_option maxRecDepth 100000 in
theorem c_X12_isOver (l : Launch) (cA : Nat → ClassId) (D : va_G) (N : Nat) (sx : Sx) (ad : Nat → Nat) (T : Knd) (A : Rfs) (nx : Nat) (I : Mem) (w0 : Nat)  (e : Mem) (h : f_X12_isOver T A w0 I = some e) : CtV l yX12_isOver cX12_isOver 1 none 1 60 cA D N sx ad T A nx [rv ad w0] I e := by
  refine met_of (lv0 := [(0, rv ad w0)]) (by decide) (Nat.le_of_ble_eq_true rfl) rfl (fun p e0 s m args below meth c S0 hK hX hr hlk Q hQ => ?_)
  have hf : OK (f_X12_isOver T A w0 I) (fun z => z = e) := ⟨e, h, rfl⟩
  unfold f_X12_isOver at hf
  obtain ⟨hw0, hf⟩ := ok_grd hf
  refine r_aload_n (pc := 0) S0 0 dX12_isOver_0 rfl rfl ?_
  refine r_iconst (pc := 1) S0 dX12_isOver_1 ?_
  refine r_putI (pc := 2) S0 hK fl_X12_106 rfl rfl (cnz 0 rfl) dX12_isOver_2 hf (fun I1 hf => ?_)
  refine r_aload_n (pc := 5) S0 0 dX12_isOver_5 rfl rfl ?_
  refine r_aload_n (pc := 6) S0 0 dX12_isOver_6 rfl rfl ?_
  refine r_getI (pc := 7) S0 hK fl_X12_141 dX12_isOver_7 hf (fun x2 c3 hf => ?_)
  refine r_putI (pc := 10) S0 hK fl_X12_168 rfl rfl c3 dX12_isOver_10 hf (fun I4 hf => ?_)
  refine r_aload_n (pc := 13) S0 0 dX12_isOver_13 rfl rfl ?_
  refine r_aload_n (pc := 14) S0 0 dX12_isOver_14 rfl rfl ?_
  refine r_getI (pc := 15) S0 hK fl_X12_141 dX12_isOver_15 hf (fun x5 c6 hf => ?_)
  refine thn_rule (P := fun v8 => cn v8 → G p l e0 (rmx 1 60) s m args below meth c 0 0 Q cA D N 1 ad T A nx 29 [] [iv v8, rv ad w0] I4) hf (fun v8 hf c9 => ?_) (fun K7 hf => ?_)
  · refine r_putI (pc := 29) S0 hK fl_X12_27 rfl rfl c9 dX12_isOver_29 hf (fun I12 hf => ?_)
    have hz := ok_some hf
    have hz : I12 = e := hz
    subst hQ
    subst hz
    exact r_vret (pc := 32) S0 hr hlk dX12_isOver_32
  · refine r_if_ne (pc := 18) (tgt := 25) S0 dX12_isOver_18 (by decide) c6 hf (fun hf => ?_) (fun hf => ?_)
    · refine r_aload_n (pc := 25) S0 0 dX12_isOver_25 rfl rfl ?_
      refine r_getI (pc := 26) S0 hK fl_X12_144 dX12_isOver_26 hf (fun x10 c11 hf => ?_)
      have hz := ok_some hf
      refine r_lv [] rfl ?_
      exact K7 x10 hz c11
    · refine r_iconst (pc := 21) S0 dX12_isOver_21 ?_
      refine r_goto (pc := 22) (tgt := 29) S0 dX12_isOver_22 (by decide) ?_
      have hz := ok_some hf
      refine r_lv [] rfl ?_
      exact K7 (-1) hz (cnz (-1) rfl)

set_option maxHeartbeats 4000000 in
set_option maxRecDepth 100000 in
theorem c_X12_fault (l : Launch) (cA : Nat → ClassId) (D : va_G) (N : Nat) (sx : Sx) (ad : Nat → Nat) (T : Knd) (A : Rfs) (nx : Nat) (I : Mem) (w0 : Nat) (a1 : Int) (ca1 : cn a1) (e : (Int × Mem)) (h : f_X12_fault T A w0 a1 I = some e) : CtI l yX12_fault cX12_fault 2 (some .int) 1 60 cA D N sx ad T A nx [rv ad w0, iv a1] I e.2 e.1 := by
  refine met_of (lv0 := [(0, rv ad w0), (1, iv a1)]) (by decide) (Nat.le_of_ble_eq_true rfl) rfl (fun p e0 s m args below meth c S0 hK hX hr hlk Q hQ => ?_)
  have hf : OK (f_X12_fault T A w0 a1 I) (fun z => z = e) := ⟨e, h, rfl⟩
  unfold f_X12_fault at hf
  obtain ⟨hw0, hf⟩ := ok_grd hf
  refine r_aload_n (pc := 0) S0 0 dX12_fault_0 rfl rfl ?_
  refine r_iconst (pc := 1) S0 dX12_fault_1 ?_
  refine r_putI (pc := 2) S0 hK fl_X12_89 rfl rfl (cnz 0 rfl) dX12_fault_2 hf (fun I1 hf => ?_)
  refine r_iload_n (pc := 5) S0 1 dX12_fault_5 rfl rfl ?_
  refine r_if_ne (pc := 6) (tgt := 16) S0 dX12_fault_6 (by decide) ca1 hf (fun hf => ?_) (fun hf => ?_)
  · refine r_iload_n (pc := 16) S0 1 dX12_fault_16 rfl rfl ?_
    refine r_iconst (pc := 17) S0 dX12_fault_17 ?_
    refine r_icmp_ne (pc := 18) (tgt := 28) S0 dX12_fault_18 (by decide) ca1 (cnz 1 rfl) hf (fun hf => ?_) (fun hf => ?_)
    · refine r_iconst (pc := 28) S0 dX12_fault_28 ?_
      have hz := ok_some hf
      have hz : ((-1), I1) = e := hz
      subst hQ
      subst hz
      exact r_iret (pc := 29) S0 hr hlk (cnz (-1) rfl) dX12_fault_29
    · refine r_aload_n (pc := 21) S0 0 dX12_fault_21 rfl rfl ?_
      refine r_getI (pc := 22) S0 hK fl_X12_27 dX12_fault_22 hf (fun x2 c3 hf => ?_)
      refine r_goto (pc := 25) (tgt := 29) S0 dX12_fault_25 (by decide) ?_
      have hz := ok_some hf
      have hz : (x2, I1) = e := hz
      subst hQ
      subst hz
      exact r_iret (pc := 29) S0 hr hlk c3 dX12_fault_29
  · refine r_aload_n (pc := 9) S0 0 dX12_fault_9 rfl rfl ?_
    refine r_getI (pc := 10) S0 hK fl_X12_168 dX12_fault_10 hf (fun x4 c5 hf => ?_)
    refine r_goto (pc := 13) (tgt := 29) S0 dX12_fault_13 (by decide) ?_
    have hz := ok_some hf
    have hz : (x4, I1) = e := hz
    subst hQ
    subst hz
    exact r_iret (pc := 29) S0 hr hlk c5 dX12_fault_29

set_option maxHeartbeats 4000000 in
set_option maxRecDepth 100000 in
theorem c_X12_hasRead (l : Launch) (cA : Nat → ClassId) (D : va_G) (N : Nat) (sx : Sx) (ad : Nat → Nat) (T : Knd) (A : Rfs) (nx : Nat) (I : Mem) (w0 : Nat) (a1 : Int) (ca1 : cn a1) (e : Int) (h : f_X12_hasRead T A w0 a1 I = some e) : CtI l yX12_hasRead cX12_hasRead 2 (some .int) 1 60 cA D N sx ad T A nx [rv ad w0, iv a1] I I e := by
  refine met_of (lv0 := [(0, rv ad w0), (1, iv a1)]) (by decide) (Nat.le_of_ble_eq_true rfl) rfl (fun p e0 s m args below meth c S0 hK hX hr hlk Q hQ => ?_)
  have hf : OK (f_X12_hasRead T A w0 a1 I) (fun z => z = e) := ⟨e, h, rfl⟩
  unfold f_X12_hasRead at hf
  obtain ⟨hw0, hf⟩ := ok_grd hf
  refine r_aload_n (pc := 0) S0 0 dX12_hasRead_0 rfl rfl ?_
  refine r_getR (pc := 1) S0 hK fl_X12_34 dX12_hasRead_1 hf (fun x1 hf => ?_)
  refine r_bipush (pc := 4) S0 dX12_hasRead_4 (by decide) ?_
  refine r_iload_n (pc := 6) S0 1 dX12_hasRead_6 rfl rfl ?_
  refine r_iadd (pc := 7) S0 dX12_hasRead_7 ?_
  refine r_iald (pc := 8) S0 hK dX12_hasRead_8 (cn_wrap _) hf (fun x2 c3 hf => ?_)
  have hz := ok_some hf
  have hz : x2 = e := hz
  subst hQ
  subst hz
  exact r_iret (pc := 9) S0 hr hlk c3 dX12_hasRead_9

set_option maxHeartbeats 4000000 in
set_option maxRecDepth 100000 in
theorem c_X12_reads (l : Launch) (cA : Nat → ClassId) (D : va_G) (N : Nat) (sx : Sx) (ad : Nat → Nat) (T : Knd) (A : Rfs) (nx : Nat) (I : Mem) (w0 : Nat) (a1 : Int) (a2 : Int) (ca1 : cn a1) (ca2 : cn a2) (e : Mem) (h : f_X12_reads T A w0 a1 a2 I = some e) : CtV l yX12_reads cX12_reads 3 none 1 60 cA D N sx ad T A nx [rv ad w0, iv a1, iv a2] I e := by
  refine met_of (lv0 := [(0, rv ad w0), (1, iv a1), (2, iv a2)]) (by decide) (Nat.le_of_ble_eq_true rfl) rfl (fun p e0 s m args below meth c S0 hK hX hr hlk Q hQ => ?_)
  have hf : OK (f_X12_reads T A w0 a1 a2 I) (fun z => z = e) := ⟨e, h, rfl⟩
  unfold f_X12_reads at hf
  obtain ⟨hw0, hf⟩ := ok_grd hf
  refine r_aload_n (pc := 0) S0 0 dX12_reads_0 rfl rfl ?_
  refine r_getR (pc := 1) S0 hK fl_X12_34 dX12_reads_1 hf (fun x1 hf => ?_)
  refine r_bipush (pc := 4) S0 dX12_reads_4 (by decide) ?_
  refine r_iload_n (pc := 6) S0 1 dX12_reads_6 rfl rfl ?_
  refine r_iadd (pc := 7) S0 dX12_reads_7 ?_
  refine r_iload_n (pc := 8) S0 2 dX12_reads_8 rfl rfl ?_
  refine r_iast (pc := 9) S0 hK dX12_reads_9 (cn_wrap _) ca2 hf (fun I2 hf => ?_)
  have hz := ok_some hf
  have hz : I2 = e := hz
  subst hQ
  subst hz
  exact r_vret (pc := 10) S0 hr hlk dX12_reads_10

set_option maxHeartbeats 4000000 in
set_option maxRecDepth 100000 in
theorem c_X12_placeRead (l : Launch) (cA : Nat → ClassId) (D : va_G) (N : Nat) (sx : Sx) (ad : Nat → Nat) (T : Knd) (A : Rfs) (nx : Nat) (I : Mem) (w0 : Nat) (a1 : Int) (ca1 : cn a1) (e : Int) (h : f_X12_placeRead T A w0 a1 I = some e) : CtI l yX12_placeRead cX12_placeRead 2 (some .int) 1 60 cA D N sx ad T A nx [rv ad w0, iv a1] I I e := by
  refine met_of (lv0 := [(0, rv ad w0), (1, iv a1)]) (by decide) (Nat.le_of_ble_eq_true rfl) rfl (fun p e0 s m args below meth c S0 hK hX hr hlk Q hQ => ?_)
  have hf : OK (f_X12_placeRead T A w0 a1 I) (fun z => z = e) := ⟨e, h, rfl⟩
  unfold f_X12_placeRead at hf
  obtain ⟨hw0, hf⟩ := ok_grd hf
  refine r_bipush (pc := 0) S0 dX12_placeRead_0 (by decide) ?_
  refine r_bipush (pc := 2) S0 dX12_placeRead_2 (by decide) ?_
  refine r_iload_n (pc := 4) S0 1 dX12_placeRead_4 rfl rfl ?_
  refine r_iadd (pc := 5) S0 dX12_placeRead_5 ?_
  refine r_imul (pc := 6) S0 dX12_placeRead_6 ?_
  have hz := ok_some hf
  have hz : (im 9 (ia 32 a1)) = e := hz
  subst hQ
  subst hz
  exact r_iret (pc := 7) S0 hr hlk (cn_wrap _) dX12_placeRead_7

set_option maxHeartbeats 4000000 in
set_option maxRecDepth 100000 in
theorem c_X12_officialHere (l : Launch) (cA : Nat → ClassId) (D : va_G) (N : Nat) (sx : Sx) (ad : Nat → Nat) (T : Knd) (A : Rfs) (nx : Nat) (I : Mem) (w0 : Nat)  (e : (Int × Mem)) (h : f_X12_officialHere T A w0 I = some e) : CtI l yX12_officialHere cX12_officialHere 1 (some .int) 4 127 cA D N sx ad T A nx [rv ad w0] I e.2 e.1 := by
  refine met_of (lv0 := [(0, rv ad w0)]) (by decide) (Nat.le_of_ble_eq_true rfl) rfl (fun p e0 s m args below meth c S0 hK hX hr hlk Q hQ => ?_)
  have hf : OK (f_X12_officialHere T A w0 I) (fun z => z = e) := ⟨e, h, rfl⟩
  unfold f_X12_officialHere at hf
  obtain ⟨hw0, hf⟩ := ok_grd hf
  refine r_aload_n (pc := 0) S0 0 dX12_officialHere_0 rfl rfl ?_
  refine r_iconst (pc := 1) S0 dX12_officialHere_1 ?_
  refine r_aload_n (pc := 2) S0 0 dX12_officialHere_2 rfl rfl ?_
  refine r_iconst (pc := 3) S0 dX12_officialHere_3 ?_
  obtain ⟨e1, h2, hf⟩ := ok_bind hf
  refine r_cV_I (pc := 4) [iv 3] S0 hK hX mv_X12_171 (k_X12_hasRead h2) (c_X12_hasRead l cA D N sx ad T A nx I w0 3 (cnz 3 rfl) e1 h2) rfl rfl ⟨by decide, by decide⟩ (Nat.le_of_ble_eq_true rfl) ⟨Nat.le_refl _, Nat.le_refl _⟩ dX12_officialHere_4 (fun c3 => ?_)
  refine r_iconst (pc := 7) S0 dX12_officialHere_7 ?_
  refine r_isub (pc := 8) S0 dX12_officialHere_8 ?_
  obtain ⟨e4, h5, hf⟩ := ok_bind hf
  refine r_cV_I (pc := 9) [iv 0, iv (isb e1 1)] S0 hK hX mv_X12_164 (k_X12_number h5) (c_X12_number l cA D N sx ad T A nx I w0 0 (isb e1 1) (cnz 0 rfl) (cn_wrap _) e4 h5) rfl rfl ⟨by decide, by decide⟩ (Nat.le_of_ble_eq_true rfl) ⟨Nat.le_refl _, Nat.le_refl _⟩ dX12_officialHere_9 (fun c6 => ?_)
  have hz := ok_some hf
  have hz : (e4.1, e4.2) = e := hz
  subst hQ
  subst hz
  exact r_iret (pc := 12) S0 hr hlk c6 dX12_officialHere_12

set_option maxHeartbeats 4000000 in
set_option maxRecDepth 100000 in
theorem c_X12_roomHere (l : Launch) (cA : Nat → ClassId) (D : va_G) (N : Nat) (sx : Sx) (ad : Nat → Nat) (T : Knd) (A : Rfs) (nx : Nat) (I : Mem) (w0 : Nat)  (e : (Int × Mem)) (h : f_X12_roomHere T A w0 I = some e) : CtI l yX12_roomHere cX12_roomHere 1 (some .int) 4 127 cA D N sx ad T A nx [rv ad w0] I e.2 e.1 := by
  refine met_of (lv0 := [(0, rv ad w0)]) (by decide) (Nat.le_of_ble_eq_true rfl) rfl (fun p e0 s m args below meth c S0 hK hX hr hlk Q hQ => ?_)
  have hf : OK (f_X12_roomHere T A w0 I) (fun z => z = e) := ⟨e, h, rfl⟩
  unfold f_X12_roomHere at hf
  obtain ⟨hw0, hf⟩ := ok_grd hf
  refine r_aload_n (pc := 0) S0 0 dX12_roomHere_0 rfl rfl ?_
  refine r_iconst (pc := 1) S0 dX12_roomHere_1 ?_
  refine r_aload_n (pc := 2) S0 0 dX12_roomHere_2 rfl rfl ?_
  refine r_iconst (pc := 3) S0 dX12_roomHere_3 ?_
  obtain ⟨e1, h2, hf⟩ := ok_bind hf
  refine r_cV_I (pc := 4) [iv 0] S0 hK hX mv_X12_171 (k_X12_hasRead h2) (c_X12_hasRead l cA D N sx ad T A nx I w0 0 (cnz 0 rfl) e1 h2) rfl rfl ⟨by decide, by decide⟩ (Nat.le_of_ble_eq_true rfl) ⟨Nat.le_refl _, Nat.le_refl _⟩ dX12_roomHere_4 (fun c3 => ?_)
  refine r_iconst (pc := 7) S0 dX12_roomHere_7 ?_
  refine r_isub (pc := 8) S0 dX12_roomHere_8 ?_
  obtain ⟨e4, h5, hf⟩ := ok_bind hf
  refine r_cV_I (pc := 9) [iv 0, iv (isb e1 1)] S0 hK hX mv_X12_164 (k_X12_number h5) (c_X12_number l cA D N sx ad T A nx I w0 0 (isb e1 1) (cnz 0 rfl) (cn_wrap _) e4 h5) rfl rfl ⟨by decide, by decide⟩ (Nat.le_of_ble_eq_true rfl) ⟨Nat.le_refl _, Nat.le_refl _⟩ dX12_roomHere_9 (fun c6 => ?_)
  have hz := ok_some hf
  have hz : (e4.1, e4.2) = e := hz
  subst hQ
  subst hz
  exact r_iret (pc := 12) S0 hr hlk c6 dX12_roomHere_12

set_option maxHeartbeats 4000000 in
set_option maxRecDepth 100000 in
theorem c_X12_officialLine (l : Launch) (cA : Nat → ClassId) (D : va_G) (N : Nat) (sx : Sx) (ad : Nat → Nat) (T : Knd) (A : Rfs) (nx : Nat) (I : Mem) (w0 : Nat)  (e : Mem) (h : f_X12_officialLine T A w0 I = some e) : CtV l yX12_officialLine cX12_officialLine 5 none 6 172 cA D N sx ad T A nx [rv ad w0] I e := by
  refine met_of (lv0 := [(0, rv ad w0)]) (by decide) (Nat.le_of_ble_eq_true rfl) rfl (fun p e0 s m args below meth c S0 hK hX hr hlk Q hQ => ?_)
  have hf : OK (f_X12_officialLine T A w0 I) (fun z => z = e) := ⟨e, h, rfl⟩
  unfold f_X12_officialLine at hf
  obtain ⟨hw0, hf⟩ := ok_grd hf
  refine r_aload_n (pc := 0) S0 0 dX12_officialLine_0 rfl rfl ?_
  refine r_iconst (pc := 1) S0 dX12_officialLine_1 ?_
  obtain ⟨e1, h2, hf⟩ := ok_bind hf
  refine r_cV_I (pc := 2) [iv 3] S0 hK hX mv_X12_171 (k_X12_hasRead h2) (c_X12_hasRead l cA D N sx ad T A nx I w0 3 (cnz 3 rfl) e1 h2) rfl rfl ⟨by decide, by decide⟩ (Nat.le_of_ble_eq_true rfl) ⟨Nat.le_refl _, Nat.le_refl _⟩ dX12_officialLine_2 (fun c3 => ?_)
  refine r_istore_n (pc := 5) (lv' := [(1, iv e1), (0, rv ad w0)]) S0 dX12_officialLine_5 rfl (by decide) rfl ?_
  refine r_aload_n (pc := 6) S0 1 dX12_officialLine_6 rfl rfl ?_
  refine r_iload_n (pc := 7) S0 0 dX12_officialLine_7 rfl rfl ?_
  obtain ⟨e4, h5, hf⟩ := ok_bind hf
  refine r_cV_I (pc := 8) [iv e1] S0 hK hX mv_X12_175 (k_X12_placeRead h5) (c_X12_placeRead l cA D N sx ad T A nx I w0 e1 c3 e4 h5) rfl rfl ⟨by decide, by decide⟩ (Nat.le_of_ble_eq_true rfl) ⟨Nat.le_refl _, Nat.le_refl _⟩ dX12_officialLine_8 (fun c6 => ?_)
  refine r_istore_n (pc := 11) (lv' := [(2, iv e4), (1, iv e1), (0, rv ad w0)]) S0 dX12_officialLine_11 rfl (by decide) rfl ?_
  refine r_iconst (pc := 12) S0 dX12_officialLine_12 ?_
  refine r_istore_n (pc := 13) (lv' := [(3, iv 0), (2, iv e4), (1, iv e1), (0, rv ad w0)]) S0 dX12_officialLine_13 rfl (by decide) rfl ?_
  refine thn_rule (P := fun v8 => G p l e0 (rmx 6 172) s m args below meth c 0 0 Q cA D N 5 ad T A nx 50 [(0, rv ad w0), (1, iv e1), (2, iv e4)] [] v8) hf (fun v8 hf => ?_) (fun K7 hf => ?_)
  · refine r_aload_n (pc := 50) S0 0 dX12_officialLine_50 rfl rfl ?_
    refine r_getR (pc := 51) S0 hK fl_X12_40 dX12_officialLine_51 hf (fun x19 hf => ?_)
    refine r_bipush (pc := 54) S0 dX12_officialLine_54 (by decide) ?_
    refine r_iload_n (pc := 56) S0 1 dX12_officialLine_56 rfl rfl ?_
    refine r_iadd (pc := 57) S0 dX12_officialLine_57 ?_
    refine r_iconst (pc := 58) S0 dX12_officialLine_58 ?_
    refine r_iast (pc := 59) S0 hK dX12_officialLine_59 (cn_wrap _) (cnz 0 rfl) hf (fun I20 hf => ?_)
    refine r_aload_n (pc := 60) S0 0 dX12_officialLine_60 rfl rfl ?_
    refine r_getR (pc := 61) S0 hK fl_X12_43 dX12_officialLine_61 hf (fun x21 hf => ?_)
    refine r_bipush (pc := 64) S0 dX12_officialLine_64 (by decide) ?_
    refine r_iload_n (pc := 66) S0 1 dX12_officialLine_66 rfl rfl ?_
    refine r_iadd (pc := 67) S0 dX12_officialLine_67 ?_
    refine r_iconst (pc := 68) S0 dX12_officialLine_68 ?_
    refine r_iast (pc := 69) S0 hK dX12_officialLine_69 (cn_wrap _) (cnz 0 rfl) hf (fun I22 hf => ?_)
    refine r_aload_n (pc := 70) S0 0 dX12_officialLine_70 rfl rfl ?_
    refine r_ldc2 (pc := 71) (z := 365647) S0 kl_X12_178 dX12_officialLine_71 (by decide) ?_
    obtain ⟨e23, h24, hf⟩ := ok_bind hf
    refine r_cV_V (pc := 74) [jv 365647] S0 hK hX mv_X12_160 (k_X12_asks h24) (c_X12_asks l cA D N sx ad T A nx I22 w0 365647 (clz 365647 rfl) e23 h24) rfl rfl ⟨by decide, by decide⟩ (Nat.le_of_ble_eq_true rfl) ⟨Nat.le_refl _, Nat.le_refl _⟩ dX12_officialLine_74 ?_
    refine r_aload_n (pc := 77) S0 0 dX12_officialLine_77 rfl rfl ?_
    refine r_getR (pc := 78) S0 hK fl_X12_37 dX12_officialLine_78 hf (fun x25 hf => ?_)
    refine r_iload_n (pc := 81) S0 2 dX12_officialLine_81 rfl rfl ?_
    refine r_aload_n (pc := 82) S0 0 dX12_officialLine_82 rfl rfl ?_
    obtain ⟨e26, h27, hf⟩ := ok_bind hf
    refine r_cV_I (pc := 83) [] S0 hK hX mv_X12_180 (k_X12_roomHere h27) (c_X12_roomHere l cA D N sx ad T A nx e23 w0 e26 h27) rfl rfl ⟨by decide, by decide⟩ (Nat.le_of_ble_eq_true rfl) ⟨Nat.le_refl _, Nat.le_refl _⟩ dX12_officialLine_83 (fun c28 => ?_)
    refine r_iast (pc := 86) S0 hK dX12_officialLine_86 c6 c28 hf (fun I29 hf => ?_)
    refine r_aload_n (pc := 87) S0 0 dX12_officialLine_87 rfl rfl ?_
    refine r_getR (pc := 88) S0 hK fl_X12_37 dX12_officialLine_88 hf (fun x30 hf => ?_)
    refine r_iload_n (pc := 91) S0 2 dX12_officialLine_91 rfl rfl ?_
    refine r_iconst (pc := 92) S0 dX12_officialLine_92 ?_
    refine r_iadd (pc := 93) S0 dX12_officialLine_93 ?_
    refine r_aload_n (pc := 94) S0 0 dX12_officialLine_94 rfl rfl ?_
    refine r_ldc2 (pc := 95) (z := 131638) S0 kl_X12_184 dX12_officialLine_95 (by decide) ?_
    refine r_iconst (pc := 98) S0 dX12_officialLine_98 ?_
    refine r_bipush (pc := 99) S0 dX12_officialLine_99 (by decide) ?_
    obtain ⟨e31, h32, hf⟩ := ok_bind hf
    refine r_cV_I (pc := 101) [jv 131638, iv 0, iv 9] S0 hK hX mv_X12_186 (k_X12_number_ h32) (c_X12_number_ l cA D N sx ad T A nx I29 w0 131638 0 9 (clz 131638 rfl) (cnz 0 rfl) (cnz 9 rfl) e31 h32) rfl rfl ⟨by decide, by decide⟩ (Nat.le_of_ble_eq_true rfl) ⟨Nat.le_refl _, Nat.le_refl _⟩ dX12_officialLine_101 (fun c33 => ?_)
    refine r_iast (pc := 104) S0 hK dX12_officialLine_104 (cn_wrap _) c33 hf (fun I34 hf => ?_)
    refine r_aload_n (pc := 105) S0 0 dX12_officialLine_105 rfl rfl ?_
    refine r_getR (pc := 106) S0 hK fl_X12_37 dX12_officialLine_106 hf (fun x35 hf => ?_)
    refine r_iload_n (pc := 109) S0 2 dX12_officialLine_109 rfl rfl ?_
    refine r_iconst (pc := 110) S0 dX12_officialLine_110 ?_
    refine r_iadd (pc := 111) S0 dX12_officialLine_111 ?_
    refine r_aload_n (pc := 112) S0 0 dX12_officialLine_112 rfl rfl ?_
    refine r_ldc2 (pc := 113) (z := 555) S0 kl_X12_189 dX12_officialLine_113 (by decide) ?_
    refine r_aload_n (pc := 116) S0 0 dX12_officialLine_116 rfl rfl ?_
    refine r_getR (pc := 117) S0 hK fl_X12_37 dX12_officialLine_117 hf (fun x36 hf => ?_)
    refine r_iload_n (pc := 120) S0 2 dX12_officialLine_120 rfl rfl ?_
    refine r_iconst (pc := 121) S0 dX12_officialLine_121 ?_
    refine r_iadd (pc := 122) S0 dX12_officialLine_122 ?_
    refine r_iald (pc := 123) S0 hK dX12_officialLine_123 (cn_wrap _) hf (fun x37 c38 hf => ?_)
    refine r_bipush (pc := 124) S0 dX12_officialLine_124 (by decide) ?_
    obtain ⟨e39, h40, hf⟩ := ok_bind hf
    refine r_cV_I (pc := 126) [jv 555, iv x37, iv 9] S0 hK hX mv_X12_186 (k_X12_number_ h40) (c_X12_number_ l cA D N sx ad T A nx I34 w0 555 x37 9 (clz 555 rfl) c38 (cnz 9 rfl) e39 h40) rfl rfl ⟨by decide, by decide⟩ (Nat.le_of_ble_eq_true rfl) ⟨Nat.le_refl _, Nat.le_refl _⟩ dX12_officialLine_126 (fun c41 => ?_)
    refine r_iast (pc := 129) S0 hK dX12_officialLine_129 (cn_wrap _) c41 hf (fun I42 hf => ?_)
    refine r_aload_n (pc := 130) S0 0 dX12_officialLine_130 rfl rfl ?_
    refine r_getR (pc := 131) S0 hK fl_X12_37 dX12_officialLine_131 hf (fun x43 hf => ?_)
    refine r_iload_n (pc := 134) S0 2 dX12_officialLine_134 rfl rfl ?_
    refine r_iconst (pc := 135) S0 dX12_officialLine_135 ?_
    refine r_iadd (pc := 136) S0 dX12_officialLine_136 ?_
    refine r_aload_n (pc := 137) S0 0 dX12_officialLine_137 rfl rfl ?_
    refine r_ldc2 (pc := 138) (z := 80155) S0 kl_X12_191 dX12_officialLine_138 (by decide) ?_
    refine r_iconst (pc := 141) S0 dX12_officialLine_141 ?_
    refine r_bipush (pc := 142) S0 dX12_officialLine_142 (by decide) ?_
    obtain ⟨e44, h45, hf⟩ := ok_bind hf
    refine r_cV_I (pc := 144) [jv 80155, iv 1, iv 31] S0 hK hX mv_X12_186 (k_X12_number_ h45) (c_X12_number_ l cA D N sx ad T A nx I42 w0 80155 1 31 (clz 80155 rfl) (cnz 1 rfl) (cnz 31 rfl) e44 h45) rfl rfl ⟨by decide, by decide⟩ (Nat.le_of_ble_eq_true rfl) ⟨Nat.le_refl _, Nat.le_refl _⟩ dX12_officialLine_144 (fun c46 => ?_)
    refine r_iast (pc := 147) S0 hK dX12_officialLine_147 (cn_wrap _) c46 hf (fun I47 hf => ?_)
    refine r_iconst (pc := 148) S0 dX12_officialLine_148 ?_
    refine r_istore_n (pc := 149) (lv' := [(3, iv 0), (0, rv ad w0), (1, iv e1), (2, iv e4)]) S0 dX12_officialLine_149 rfl (by decide) rfl ?_
    refine thn_rule (P := fun v49 => G p l e0 (rmx 6 172) s m args below meth c 0 0 Q cA D N 5 ad T A nx 329 [(0, rv ad w0), (1, iv e1)] [] v49) hf (fun v49 hf => ?_) (fun K48 hf => ?_)
    · refine r_aload_n (pc := 329) S0 0 dX12_officialLine_329 rfl rfl ?_
      refine r_iconst (pc := 330) S0 dX12_officialLine_330 ?_
      refine r_iload_n (pc := 331) S0 1 dX12_officialLine_331 rfl rfl ?_
      refine r_iconst (pc := 332) S0 dX12_officialLine_332 ?_
      refine r_iadd (pc := 333) S0 dX12_officialLine_333 ?_
      obtain ⟨e97, h98, hf⟩ := ok_bind hf
      refine r_cV_V (pc := 334) [iv 3, iv (ia e1 1)] S0 hK hX mv_X12_203 (k_X12_reads h98) (c_X12_reads l cA D N sx ad T A nx v49 w0 3 (ia e1 1) (cnz 3 rfl) (cn_wrap _) e97 h98) rfl rfl ⟨by decide, by decide⟩ (Nat.le_of_ble_eq_true rfl) ⟨Nat.le_refl _, Nat.le_refl _⟩ dX12_officialLine_334 ?_
      have hz := ok_some hf
      have hz : e97 = e := hz
      subst hQ
      subst hz
      exact r_vret (pc := 337) S0 hr hlk dX12_officialLine_337
    · refine r_lv [1, 2, 3, 0] rfl ?_
      refine it_ind (P := fun s51 => cn s51.1 → G p l e0 (rmx 6 172) s m args below meth c 0 0 Q cA D N 5 ad T A nx 150 [(0, rv ad w0), (1, iv e1), (2, iv e4), (3, iv s51.1)] [] s51.2) (fun n0 s51 ih50 hf c52 => ?_) FU (0, I47) hf (cnz 0 rfl)
      refine r_aload_n (pc := 150) S0 0 dX12_officialLine_150 rfl rfl ?_
      obtain ⟨e53, h54, hf⟩ := ok_bind hf
      refine r_cV_I (pc := 151) [] S0 hK hX mv_X12_193 (k_X12_isGood h54) (c_X12_isGood l cA D N sx ad T A nx s51.2 w0 e53 h54) rfl rfl ⟨by decide, by decide⟩ (Nat.le_of_ble_eq_true rfl) ⟨Nat.le_refl _, Nat.le_refl _⟩ dX12_officialLine_151 (fun c55 => ?_)
      refine r_if_eq (pc := 154) (tgt := 329) S0 dX12_officialLine_154 (by decide) c55 hf (fun hf => ?_) (fun hf => ?_)
      · have hz := ok_some hf
        refine r_lv [0, 1] rfl ?_
        exact K48 s51.2 hz
      · refine r_aload_n (pc := 157) S0 0 dX12_officialLine_157 rfl rfl ?_
        refine r_getI (pc := 158) S0 hK fl_X12_130 dX12_officialLine_158 hf (fun x56 c57 hf => ?_)
        refine r_iconst (pc := 161) S0 dX12_officialLine_161 ?_
        refine r_icmp_ne (pc := 162) (tgt := 329) S0 dX12_officialLine_162 (by decide) c57 (cnz 1 rfl) hf (fun hf => ?_) (fun hf => ?_)
        · have hz := ok_some hf
          refine r_lv [0, 1] rfl ?_
          exact K48 s51.2 hz
        · refine r_aload_n (pc := 165) S0 0 dX12_officialLine_165 rfl rfl ?_
          refine r_ldc2 (pc := 166) (z := 6800930) S0 kl_X12_197 dX12_officialLine_166 (by decide) ?_
          obtain ⟨e58, h59, hf⟩ := ok_bind hf
          refine r_cV_I (pc := 169) [jv 6800930] S0 hK hX mv_X12_147 (k_X12_is h59) (c_X12_is l cA D N sx ad T A nx s51.2 w0 6800930 (clz 6800930 rfl) e58 h59) rfl rfl ⟨by decide, by decide⟩ (Nat.le_of_ble_eq_true rfl) ⟨Nat.le_refl _, Nat.le_refl _⟩ dX12_officialLine_169 (fun c60 => ?_)
          refine thn_rule (P := fun v62 => cn v62 → G p l e0 (rmx 6 172) s m args below meth c 0 0 Q cA D N 5 ad T A nx 209 [(0, rv ad w0), (1, iv e1), (2, iv e4), (3, iv s51.1)] [iv v62] s51.2) hf (fun v62 hf c63 => ?_) (fun K61 hf => ?_)
          · refine r_istore (pc := 209) (lv' := [(4, iv v62), (0, rv ad w0), (1, iv e1), (2, iv e4), (3, iv s51.1)]) S0 dX12_officialLine_209 (by decide) rfl ?_
            refine r_iload (pc := 211) S0 0 dX12_officialLine_211 rfl ?_
            refine r_iconst (pc := 213) S0 dX12_officialLine_213 ?_
            refine thn_rule (P := fun v71 => G p l e0 (rmx 6 172) s m args below meth c 0 0 Q cA D N 5 ad T A nx 249 [(0, rv ad w0), (1, iv e1), (2, iv e4), (3, iv s51.1), (4, iv v62)] [] v71) hf (fun v71 hf => ?_) (fun K70 hf => ?_)
            · refine r_aload_n (pc := 249) S0 0 dX12_officialLine_249 rfl rfl ?_
              refine r_getI (pc := 250) S0 hK fl_X12_141 dX12_officialLine_250 hf (fun x79 c80 hf => ?_)
              refine r_if_eq (pc := 253) (tgt := 257) S0 dX12_officialLine_253 (by decide) c80 hf (fun hf => ?_) (fun hf => ?_)
              · refine r_aload_n (pc := 257) S0 0 dX12_officialLine_257 rfl rfl ?_
                obtain ⟨e81, h82, hf⟩ := ok_bind hf
                refine r_cV_V (pc := 258) [] S0 hK hX mv_X12_151 (k_X12_next h82) (c_X12_next l cA D N sx ad T A nx v71 w0 e81 h82) rfl rfl ⟨by decide, by decide⟩ (Nat.le_of_ble_eq_true rfl) ⟨Nat.le_refl _, Nat.le_refl _⟩ dX12_officialLine_258 ?_
                refine r_aload_n (pc := 261) S0 0 dX12_officialLine_261 rfl rfl ?_
                refine r_getR (pc := 262) S0 hK fl_X12_37 dX12_officialLine_262 hf (fun x83 hf => ?_)
                refine r_iload_n (pc := 265) S0 2 dX12_officialLine_265 rfl rfl ?_
                refine r_iload (pc := 266) S0 4 dX12_officialLine_266 rfl ?_
                refine r_iadd (pc := 268) S0 dX12_officialLine_268 ?_
                refine r_iload (pc := 269) S0 4 dX12_officialLine_269 rfl ?_
                refine r_iconst (pc := 271) S0 dX12_officialLine_271 ?_
                refine thn_rule (P := fun v85 => cn v85.1 → G p l e0 (rmx 6 172) s m args below meth c 0 0 Q cA D N 5 ad T A nx 308 [(0, rv ad w0), (1, iv e1), (2, iv e4), (3, iv s51.1), (4, iv v62)] [iv v85.1, iv (ia e4 v62), rv ad x83] v85.2) hf (fun v85 hf c86 => ?_) (fun K84 hf => ?_)
                · refine r_iast (pc := 308) S0 hK dX12_officialLine_308 (cn_wrap _) c86 hf (fun I96 hf => ?_)
                  refine r_iload_n (pc := 309) S0 3 dX12_officialLine_309 rfl rfl ?_
                  refine r_if_ne (pc := 310) (tgt := 320) S0 dX12_officialLine_310 (by decide) c52 hf (fun hf => ?_) (fun hf => ?_)
                  · refine r_iconst (pc := 320) S0 dX12_officialLine_320 ?_
                    refine r_goto (pc := 321) (tgt := 325) S0 dX12_officialLine_321 (by decide) ?_
                    refine r_istore_n (pc := 325) (lv' := [(3, iv 1), (0, rv ad w0), (1, iv e1), (2, iv e4), (4, iv v62)]) S0 dX12_officialLine_325 rfl (by decide) rfl ?_
                    refine r_goto (pc := 326) (tgt := 150) S0 dX12_officialLine_326 (by decide) ?_
                    have hz := ok_some hf
                    refine r_lv [1, 2, 3, 0] rfl ?_
                    exact ih50 (1, I96) hz (cnz 1 rfl)
                  · refine r_iload (pc := 313) S0 4 dX12_officialLine_313 rfl ?_
                    refine r_bipush (pc := 315) S0 dX12_officialLine_315 (by decide) ?_
                    refine r_icmp_ne (pc := 317) (tgt := 324) S0 dX12_officialLine_317 (by decide) c63 (cnz 6 rfl) hf (fun hf => ?_) (fun hf => ?_)
                    · refine r_iconst (pc := 324) S0 dX12_officialLine_324 ?_
                      refine r_istore_n (pc := 325) (lv' := [(3, iv 0), (0, rv ad w0), (1, iv e1), (2, iv e4), (4, iv v62)]) S0 dX12_officialLine_325 rfl (by decide) rfl ?_
                      refine r_goto (pc := 326) (tgt := 150) S0 dX12_officialLine_326 (by decide) ?_
                      have hz := ok_some hf
                      refine r_lv [1, 2, 3, 0] rfl ?_
                      exact ih50 (0, I96) hz (cnz 0 rfl)
                    · refine r_iconst (pc := 320) S0 dX12_officialLine_320 ?_
                      refine r_goto (pc := 321) (tgt := 325) S0 dX12_officialLine_321 (by decide) ?_
                      refine r_istore_n (pc := 325) (lv' := [(3, iv 1), (0, rv ad w0), (1, iv e1), (2, iv e4), (4, iv v62)]) S0 dX12_officialLine_325 rfl (by decide) rfl ?_
                      refine r_goto (pc := 326) (tgt := 150) S0 dX12_officialLine_326 (by decide) ?_
                      have hz := ok_some hf
                      refine r_lv [1, 2, 3, 0] rfl ?_
                      exact ih50 (1, I96) hz (cnz 1 rfl)
                · refine r_icmp_ne (pc := 272) (tgt := 285) S0 dX12_officialLine_272 (by decide) c63 (cnz 4 rfl) hf (fun hf => ?_) (fun hf => ?_)
                  · refine r_iload (pc := 285) S0 4 dX12_officialLine_285 rfl ?_
                    refine r_iconst (pc := 287) S0 dX12_officialLine_287 ?_
                    refine r_icmp_ne (pc := 288) (tgt := 301) S0 dX12_officialLine_288 (by decide) c63 (cnz 5 rfl) hf (fun hf => ?_) (fun hf => ?_)
                    · refine r_aload_n (pc := 301) S0 0 dX12_officialLine_301 rfl rfl ?_
                      refine r_iconst (pc := 302) S0 dX12_officialLine_302 ?_
                      refine r_bipush (pc := 303) S0 dX12_officialLine_303 (by decide) ?_
                      obtain ⟨e87, h88, hf⟩ := ok_bind hf
                      refine r_cV_I (pc := 305) [iv 0, iv 99] S0 hK hX mv_X12_164 (k_X12_number h88) (c_X12_number l cA D N sx ad T A nx e81 w0 0 99 (cnz 0 rfl) (cnz 99 rfl) e87 h88) rfl rfl ⟨by decide, by decide⟩ (Nat.le_of_ble_eq_true rfl) ⟨Nat.le_refl _, Nat.le_refl _⟩ dX12_officialLine_305 (fun c89 => ?_)
                      have hz := ok_some hf
                      refine r_lv [0, 1, 2, 3, 4] rfl ?_
                      exact K84 (e87.1, e87.2) hz c89
                    · refine r_aload_n (pc := 291) S0 0 dX12_officialLine_291 rfl rfl ?_
                      refine r_iconst (pc := 292) S0 dX12_officialLine_292 ?_
                      refine r_bipush (pc := 293) S0 dX12_officialLine_293 (by decide) ?_
                      obtain ⟨e90, h91, hf⟩ := ok_bind hf
                      refine r_cV_I (pc := 295) [iv 1, iv 20] S0 hK hX mv_X12_164 (k_X12_number h91) (c_X12_number l cA D N sx ad T A nx e81 w0 1 20 (cnz 1 rfl) (cnz 20 rfl) e90 h91) rfl rfl ⟨by decide, by decide⟩ (Nat.le_of_ble_eq_true rfl) ⟨Nat.le_refl _, Nat.le_refl _⟩ dX12_officialLine_295 (fun c92 => ?_)
                      refine r_goto (pc := 298) (tgt := 308) S0 dX12_officialLine_298 (by decide) ?_
                      have hz := ok_some hf
                      refine r_lv [0, 1, 2, 3, 4] rfl ?_
                      exact K84 (e90.1, e90.2) hz c92
                  · refine r_aload_n (pc := 275) S0 0 dX12_officialLine_275 rfl rfl ?_
                    refine r_iconst (pc := 276) S0 dX12_officialLine_276 ?_
                    refine r_bipush (pc := 277) S0 dX12_officialLine_277 (by decide) ?_
                    obtain ⟨e93, h94, hf⟩ := ok_bind hf
                    refine r_cV_I (pc := 279) [iv 0, iv 9] S0 hK hX mv_X12_164 (k_X12_number h94) (c_X12_number l cA D N sx ad T A nx e81 w0 0 9 (cnz 0 rfl) (cnz 9 rfl) e93 h94) rfl rfl ⟨by decide, by decide⟩ (Nat.le_of_ble_eq_true rfl) ⟨Nat.le_refl _, Nat.le_refl _⟩ dX12_officialLine_279 (fun c95 => ?_)
                    refine r_goto (pc := 282) (tgt := 308) S0 dX12_officialLine_282 (by decide) ?_
                    have hz := ok_some hf
                    refine r_lv [0, 1, 2, 3, 4] rfl ?_
                    exact K84 (e93.1, e93.2) hz c95
              · have hz := ok_some hf
                have hz : v71 = e := hz
                subst hQ
                subst hz
                exact r_vret (pc := 256) S0 hr hlk dX12_officialLine_256
            · refine thn_rule (P := fun v73 => G p l e0 (rmx 6 172) s m args below meth c 0 0 Q cA D N 5 ad T A nx 244 [(0, rv ad w0), (1, iv e1), (2, iv e4), (3, iv s51.1), (4, iv v62)] [] s51.2) hf (fun v73 hf => ?_) (fun K72 hf => ?_)
              · refine r_aload_n (pc := 244) S0 0 dX12_officialLine_244 rfl rfl ?_
                refine r_iconst (pc := 245) S0 dX12_officialLine_245 ?_
                obtain ⟨e77, h78, hf⟩ := ok_bind hf
                refine r_cV_V (pc := 246) [iv 1] S0 hK hX mv_X12_157 (k_X12_fails h78) (c_X12_fails l cA D N sx ad T A nx s51.2 w0 1 (cnz 1 rfl) e77 h78) rfl rfl ⟨by decide, by decide⟩ (Nat.le_of_ble_eq_true rfl) ⟨Nat.le_refl _, Nat.le_refl _⟩ dX12_officialLine_246 ?_
                have hz := ok_some hf
                refine r_lv [0, 1, 2, 3, 4] rfl ?_
                exact K70 e77 hz
              · refine r_icmp_eq (pc := 214) (tgt := 244) S0 dX12_officialLine_214 (by decide) c63 (cnz (-1) rfl) hf (fun hf => ?_) (fun hf => ?_)
                · have hz := ok_some hf
                  refine r_lv [1, 2, 3, 4, 0] rfl ?_
                  exact K72 () hz
                · refine r_iload (pc := 217) S0 0 dX12_officialLine_217 rfl ?_
                  refine r_bipush (pc := 219) S0 dX12_officialLine_219 (by decide) ?_
                  refine r_icmp_ne (pc := 221) (tgt := 231) S0 dX12_officialLine_221 (by decide) c63 (cnz 6 rfl) hf (fun hf => ?_) (fun hf => ?_)
                  · refine r_aload_n (pc := 231) S0 1 dX12_officialLine_231 rfl rfl ?_
                    refine r_getR (pc := 232) S0 hK fl_X12_37 dX12_officialLine_232 hf (fun x74 hf => ?_)
                    refine r_iload_n (pc := 235) S0 3 dX12_officialLine_235 rfl rfl ?_
                    refine r_iload (pc := 236) S0 0 dX12_officialLine_236 rfl ?_
                    refine r_iadd (pc := 238) S0 dX12_officialLine_238 ?_
                    refine r_iald (pc := 239) S0 hK dX12_officialLine_239 (cn_wrap _) hf (fun x75 c76 hf => ?_)
                    refine r_iconst (pc := 240) S0 dX12_officialLine_240 ?_
                    refine r_icmp_eq (pc := 241) (tgt := 249) S0 dX12_officialLine_241 (by decide) c76 (cnz (-1) rfl) hf (fun hf => ?_) (fun hf => ?_)
                    · have hz := ok_some hf
                      refine r_lv [1, 2, 3, 4, 0] rfl ?_
                      exact K70 s51.2 hz
                    · have hz := ok_some hf
                      refine r_lv [1, 2, 3, 4, 0] rfl ?_
                      exact K72 () hz
                  · refine r_iload_n (pc := 224) S0 4 dX12_officialLine_224 rfl rfl ?_
                    refine r_if_eq (pc := 225) (tgt := 249) S0 dX12_officialLine_225 (by decide) c52 hf (fun hf => ?_) (fun hf => ?_)
                    · have hz := ok_some hf
                      refine r_lv [1, 2, 3, 4, 0] rfl ?_
                      exact K70 s51.2 hz
                    · refine r_goto (pc := 228) (tgt := 244) S0 dX12_officialLine_228 (by decide) ?_
                      have hz := ok_some hf
                      refine r_lv [1, 2, 3, 4, 0] rfl ?_
                      exact K72 () hz
          · refine r_if_eq (pc := 172) (tgt := 179) S0 dX12_officialLine_172 (by decide) c60 hf (fun hf => ?_) (fun hf => ?_)
            · refine r_aload_n (pc := 179) S0 0 dX12_officialLine_179 rfl rfl ?_
              refine r_ldc2 (pc := 180) (z := 3211399) S0 kl_X12_199 dX12_officialLine_180 (by decide) ?_
              obtain ⟨e64, h65, hf⟩ := ok_bind hf
              refine r_cV_I (pc := 183) [jv 3211399] S0 hK hX mv_X12_147 (k_X12_is h65) (c_X12_is l cA D N sx ad T A nx s51.2 w0 3211399 (clz 3211399 rfl) e64 h65) rfl rfl ⟨by decide, by decide⟩ (Nat.le_of_ble_eq_true rfl) ⟨Nat.le_refl _, Nat.le_refl _⟩ dX12_officialLine_183 (fun c66 => ?_)
              refine r_if_eq (pc := 186) (tgt := 193) S0 dX12_officialLine_186 (by decide) c66 hf (fun hf => ?_) (fun hf => ?_)
              · refine r_aload_n (pc := 193) S0 0 dX12_officialLine_193 rfl rfl ?_
                refine r_ldc2 (pc := 194) (z := 8863997) S0 kl_X12_201 dX12_officialLine_194 (by decide) ?_
                obtain ⟨e67, h68, hf⟩ := ok_bind hf
                refine r_cV_I (pc := 197) [jv 8863997] S0 hK hX mv_X12_147 (k_X12_is h68) (c_X12_is l cA D N sx ad T A nx s51.2 w0 8863997 (clz 8863997 rfl) e67 h68) rfl rfl ⟨by decide, by decide⟩ (Nat.le_of_ble_eq_true rfl) ⟨Nat.le_refl _, Nat.le_refl _⟩ dX12_officialLine_197 (fun c69 => ?_)
                refine r_if_eq (pc := 200) (tgt := 208) S0 dX12_officialLine_200 (by decide) c69 hf (fun hf => ?_) (fun hf => ?_)
                · refine r_iconst (pc := 208) S0 dX12_officialLine_208 ?_
                  have hz := ok_some hf
                  refine r_lv [0, 1, 2, 3] rfl ?_
                  exact K61 (-1) hz (cnz (-1) rfl)
                · refine r_bipush (pc := 203) S0 dX12_officialLine_203 (by decide) ?_
                  refine r_goto (pc := 205) (tgt := 209) S0 dX12_officialLine_205 (by decide) ?_
                  have hz := ok_some hf
                  refine r_lv [0, 1, 2, 3] rfl ?_
                  exact K61 6 hz (cnz 6 rfl)
              · refine r_iconst (pc := 189) S0 dX12_officialLine_189 ?_
                refine r_goto (pc := 190) (tgt := 209) S0 dX12_officialLine_190 (by decide) ?_
                have hz := ok_some hf
                refine r_lv [0, 1, 2, 3] rfl ?_
                exact K61 5 hz (cnz 5 rfl)
            · refine r_iconst (pc := 175) S0 dX12_officialLine_175 ?_
              refine r_goto (pc := 176) (tgt := 209) S0 dX12_officialLine_176 (by decide) ?_
              have hz := ok_some hf
              refine r_lv [0, 1, 2, 3] rfl ?_
              exact K61 4 hz (cnz 4 rfl)
  · refine r_lv [3, 2, 1, 0] rfl ?_
    refine it_ind (P := fun s10 => cn s10.1 → G p l e0 (rmx 6 172) s m args below meth c 0 0 Q cA D N 5 ad T A nx 14 [(0, rv ad w0), (1, iv e1), (2, iv e4), (3, iv s10.1)] [] s10.2) (fun n0 s10 ih9 hf c11 => ?_) FU (0, I) hf (cnz 0 rfl)
    refine r_iload_n (pc := 14) S0 3 dX12_officialLine_14 rfl rfl ?_
    refine r_bipush (pc := 15) S0 dX12_officialLine_15 (by decide) ?_
    refine r_icmp_ge (pc := 17) (tgt := 50) S0 dX12_officialLine_17 (by decide) c11 (cnz 9 rfl) hf (fun hf => ?_) (fun hf => ?_)
    · have hz := ok_some hf
      refine r_lv [0, 1, 2] rfl ?_
      exact K7 s10.2 hz
    · refine r_aload_n (pc := 20) S0 0 dX12_officialLine_20 rfl rfl ?_
      refine r_getR (pc := 21) S0 hK fl_X12_37 dX12_officialLine_21 hf (fun x12 hf => ?_)
      refine r_iload_n (pc := 24) S0 2 dX12_officialLine_24 rfl rfl ?_
      refine r_iload_n (pc := 25) S0 3 dX12_officialLine_25 rfl rfl ?_
      refine r_iadd (pc := 26) S0 dX12_officialLine_26 ?_
      refine r_iload_n (pc := 27) S0 3 dX12_officialLine_27 rfl rfl ?_
      refine r_iconst (pc := 28) S0 dX12_officialLine_28 ?_
      refine thn_rule (P := fun v14 => cn v14 → G p l e0 (rmx 6 172) s m args below meth c 0 0 Q cA D N 5 ad T A nx 43 [(0, rv ad w0), (1, iv e1), (2, iv e4), (3, iv s10.1)] [iv v14, iv (ia e4 s10.1), rv ad x12] s10.2) hf (fun v14 hf c15 => ?_) (fun K13 hf => ?_)
      · refine r_iast (pc := 43) S0 hK dX12_officialLine_43 (cn_wrap _) c15 hf (fun I18 hf => ?_)
        refine r_iinc (pc := 44) (lv' := [(3, iv (ia s10.1 1)), (0, rv ad w0), (1, iv e1), (2, iv e4)]) S0 3 dX12_officialLine_44 rfl (by decide) rfl ?_
        refine r_goto (pc := 47) (tgt := 14) S0 dX12_officialLine_47 (by decide) ?_
        have hz := ok_some hf
        refine r_lv [1, 2, 3, 0] rfl ?_
        exact ih9 (ia s10.1 1, I18) hz (cn_wrap _)
      · refine thn_rule (P := fun v17 => G p l e0 (rmx 6 172) s m args below meth c 0 0 Q cA D N 5 ad T A nx 42 [(0, rv ad w0), (1, iv e1), (2, iv e4), (3, iv s10.1)] [iv (ia e4 s10.1), rv ad x12] s10.2) hf (fun v17 hf => ?_) (fun K16 hf => ?_)
        · refine r_iconst (pc := 42) S0 dX12_officialLine_42 ?_
          have hz := ok_some hf
          refine r_lv [0, 1, 2, 3] rfl ?_
          exact K13 0 hz (cnz 0 rfl)
        · refine r_icmp_le (pc := 29) (tgt := 42) S0 dX12_officialLine_29 (by decide) c11 (cnz 3 rfl) hf (fun hf => ?_) (fun hf => ?_)
          · have hz := ok_some hf
            refine r_lv [0, 1, 2, 3] rfl ?_
            exact K16 () hz
          · refine r_iload_n (pc := 32) S0 3 dX12_officialLine_32 rfl rfl ?_
            refine r_bipush (pc := 33) S0 dX12_officialLine_33 (by decide) ?_
            refine r_icmp_eq (pc := 35) (tgt := 42) S0 dX12_officialLine_35 (by decide) c11 (cnz 6 rfl) hf (fun hf => ?_) (fun hf => ?_)
            · have hz := ok_some hf
              refine r_lv [0, 1, 2, 3] rfl ?_
              exact K16 () hz
            · refine r_iconst (pc := 38) S0 dX12_officialLine_38 ?_
              refine r_goto (pc := 39) (tgt := 43) S0 dX12_officialLine_39 (by decide) ?_
              have hz := ok_some hf
              refine r_lv [0, 1, 2, 3] rfl ?_
              exact K13 (-1) hz (cnz (-1) rfl)
