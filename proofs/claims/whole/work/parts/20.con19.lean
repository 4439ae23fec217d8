/-! Contracts, laid by wip/gen/gen.py. -/
set_option maxHeartbeats 4000000 in
set_option maxRecDepth 100000 in
theorem c_X12_isSeed (l : Launch) (cA : Nat → ClassId) (D : va_G) (N : Nat) (sx : Sx) (ad : Nat → Nat) (T : Knd) (A : Rfs) (nx : Nat) (I : Mem) (w0 : Nat) (a1 : Int) (ca1 : cn a1) (e : Int) (h : f_X12_isSeed T A w0 a1 I = some e) : CtI l yX12_isSeed cX12_isSeed 2 (some .boolean) 2 85 cA D N sx ad T A nx [rv ad w0, iv a1] I I e := by
  refine met_of (lv0 := [(0, rv ad w0), (1, iv a1)]) (by decide) (Nat.le_of_ble_eq_true rfl) rfl (fun p e0 s m args below meth c S0 hK hX hr hlk Q hQ => ?_)
  have hf : OK (f_X12_isSeed T A w0 a1 I) (fun z => z = e) := ⟨e, h, rfl⟩
  unfold f_X12_isSeed at hf
  obtain ⟨hw0, hf⟩ := ok_grd hf
  refine r_aload_n (pc := 0) S0 0 dX12_isSeed_0 rfl rfl ?_
  obtain ⟨e1, h2, hf⟩ := ok_bind hf
  refine r_cV_I (pc := 1) [] S0 hK hX mv_X12_267 (k_X12_isOffice h2) (c_X12_isOffice l cA D N sx ad T A nx I w0 e1 h2) rfl rfl ⟨by decide, by decide⟩ (Nat.le_of_ble_eq_true rfl) ⟨Nat.le_refl _, Nat.le_refl _⟩ dX12_isSeed_1 (fun c3 => ?_)
  refine r_if_eq (pc := 4) (tgt := 23) S0 dX12_isSeed_4 (by decide) c3 hf (fun hf => ?_) (fun hf => ?_)
  · refine r_iconst (pc := 23) S0 dX12_isSeed_23 ?_
    have hz := ok_some hf
    have hz : 0 = e := hz
    subst hQ
    subst hz
    exact r_zret (pc := 24) S0 hr hlk (Or.inl rfl) dX12_isSeed_24
  · refine r_iload_n (pc := 7) S0 1 dX12_isSeed_7 rfl rfl ?_
    refine r_i2l (pc := 8) S0 dX12_isSeed_8 ca1 ?_
    refine r_lconst (pc := 9) (v := 0) S0 dX12_isSeed_9 rfl ?_
    refine r_ldc2 (pc := 10) (z := 2000000000) S0 kl_X12_472 dX12_isSeed_10 (by decide) ?_
    obtain ⟨e4, h5, hf⟩ := ok_bind hf
    refine r_cS_I (pc := 13) [jv a1, jv 0, jv 2000000000] S0 hK hX ms_X12_94 (c_X12_in l cA D N sx ad T A nx I a1 0 2000000000 (cl_cn ca1) (clz 0 rfl) (clz 2000000000 rfl) e4 h5) rfl rfl ⟨by decide, by decide⟩ (Nat.le_of_ble_eq_true rfl) ⟨Nat.le_refl _, Nat.le_refl _⟩ dX12_isSeed_13 (fun c6 => ?_)
    refine r_if_eq (pc := 16) (tgt := 23) S0 dX12_isSeed_16 (by decide) c6 hf (fun hf => ?_) (fun hf => ?_)
    · refine r_iconst (pc := 23) S0 dX12_isSeed_23 ?_
      have hz := ok_some hf
      have hz : 0 = e := hz
      subst hQ
      subst hz
      exact r_zret (pc := 24) S0 hr hlk (Or.inl rfl) dX12_isSeed_24
    · refine r_iconst (pc := 19) S0 dX12_isSeed_19 ?_
      refine r_goto (pc := 20) (tgt := 24) S0 dX12_isSeed_20 (by decide) ?_
      have hz := ok_some hf
      have hz : 1 = e := hz
      subst hQ
      subst hz
      exact r_zret (pc := 24) S0 hr hlk (Or.inr rfl) dX12_isSeed_24

set_option maxHeartbeats 4000000 in
set_option maxRecDepth 100000 in
theorem c_X12_blind (l : Launch) (cA : Nat → ClassId) (D : va_G) (N : Nat) (sx : Sx) (ad : Nat → Nat) (T : Knd) (A : Rfs) (nx : Nat) (I : Mem) (w0 : Nat) (a1 : Int) (ca1 : cn a1) (e : (Int × Mem)) (h : f_X12_blind T A w0 a1 I = some e) : CtI l yX12_blind cX12_blind 2 (some .int) 8 222 cA D N sx ad T A nx [rv ad w0, iv a1] I e.2 e.1 := by
  refine met_of (lv0 := [(0, rv ad w0), (1, iv a1)]) (by decide) (Nat.le_of_ble_eq_true rfl) rfl (fun p e0 s m args below meth c S0 hK hX hr hlk Q hQ => ?_)
  have hf : OK (f_X12_blind T A w0 a1 I) (fun z => z = e) := ⟨e, h, rfl⟩
  unfold f_X12_blind at hf
  obtain ⟨hw0, hf⟩ := ok_grd hf
  refine r_aload_n (pc := 0) S0 0 dX12_blind_0 rfl rfl ?_
  refine r_iconst (pc := 1) S0 dX12_blind_1 ?_
  refine r_putI (pc := 2) S0 hK fl_X12_89 rfl rfl (cnz 0 rfl) dX12_blind_2 hf (fun I1 hf => ?_)
  refine r_aload_n (pc := 5) S0 0 dX12_blind_5 rfl rfl ?_
  refine r_iload_n (pc := 6) S0 1 dX12_blind_6 rfl rfl ?_
  obtain ⟨e2, h3, hf⟩ := ok_bind hf
  refine r_cV_I (pc := 7) [iv a1] S0 hK hX mv_X12_474 (k_X12_isSeed h3) (c_X12_isSeed l cA D N sx ad T A nx I1 w0 a1 ca1 e2 h3) rfl rfl ⟨by decide, by decide⟩ (Nat.le_of_ble_eq_true rfl) ⟨Nat.le_refl _, Nat.le_refl _⟩ dX12_blind_7 (fun c4 => ?_)
  refine r_if_eq (pc := 10) (tgt := 22) S0 dX12_blind_10 (by decide) c4 hf (fun hf => ?_) (fun hf => ?_)
  · refine r_bipush (pc := 22) S0 dX12_blind_22 (by decide) ?_
    have hz := ok_some hf
    have hz : ((-2), I1) = e := hz
    subst hQ
    subst hz
    exact r_iret (pc := 24) S0 hr hlk (cnz (-2) rfl) dX12_blind_24
  · refine r_aload_n (pc := 13) S0 0 dX12_blind_13 rfl rfl ?_
    refine r_iload_n (pc := 14) S0 1 dX12_blind_14 rfl rfl ?_
    refine r_i2l (pc := 15) S0 dX12_blind_15 ca1 ?_
    obtain ⟨e5, h6, hf⟩ := ok_bind hf
    refine r_cV_I (pc := 16) [jv a1] S0 hK hX mv_X12_477 (k_X12_draws h6) (c_X12_draws l cA D N sx ad T A nx I1 w0 a1 (cl_cn ca1) e5 h6) rfl rfl ⟨by decide, by decide⟩ (Nat.le_of_ble_eq_true rfl) ⟨Nat.le_refl _, Nat.le_refl _⟩ dX12_blind_16 (fun c7 => ?_)
    refine r_goto (pc := 19) (tgt := 24) S0 dX12_blind_19 (by decide) ?_
    have hz := ok_some hf
    have hz : (e5.1, e5.2) = e := hz
    subst hQ
    subst hz
    exact r_iret (pc := 24) S0 hr hlk c7 dX12_blind_24

set_option maxHeartbeats 4000000 in
set_option maxRecDepth 100000 in
theorem c_X12_tries (l : Launch) (cA : Nat → ClassId) (D : va_G) (N : Nat) (sx : Sx) (ad : Nat → Nat) (T : Knd) (A : Rfs) (nx : Nat) (I : Mem) (w0 : Nat) (a1 : Int) (ca1 : cn a1) (e : (Int × Mem)) (h : f_X12_tries T A w0 a1 I = some e) : CtI l yX12_tries cX12_tries 2 (some .int) 8 222 cA D N sx ad T A nx [rv ad w0, iv a1] I e.2 e.1 := by
  refine met_of (lv0 := [(0, rv ad w0), (1, iv a1)]) (by decide) (Nat.le_of_ble_eq_true rfl) rfl (fun p e0 s m args below meth c S0 hK hX hr hlk Q hQ => ?_)
  have hf : OK (f_X12_tries T A w0 a1 I) (fun z => z = e) := ⟨e, h, rfl⟩
  unfold f_X12_tries at hf
  obtain ⟨hw0, hf⟩ := ok_grd hf
  refine r_aload_n (pc := 0) S0 0 dX12_tries_0 rfl rfl ?_
  refine r_iconst (pc := 1) S0 dX12_tries_1 ?_
  refine r_putI (pc := 2) S0 hK fl_X12_89 rfl rfl (cnz 0 rfl) dX12_tries_2 hf (fun I1 hf => ?_)
  refine r_aload_n (pc := 5) S0 0 dX12_tries_5 rfl rfl ?_
  refine r_iload_n (pc := 6) S0 1 dX12_tries_6 rfl rfl ?_
  obtain ⟨e2, h3, hf⟩ := ok_bind hf
  refine r_cV_I (pc := 7) [iv a1] S0 hK hX mv_X12_474 (k_X12_isSeed h3) (c_X12_isSeed l cA D N sx ad T A nx I1 w0 a1 ca1 e2 h3) rfl rfl ⟨by decide, by decide⟩ (Nat.le_of_ble_eq_true rfl) ⟨Nat.le_refl _, Nat.le_refl _⟩ dX12_tries_7 (fun c4 => ?_)
  refine r_if_ne (pc := 10) (tgt := 16) S0 dX12_tries_10 (by decide) c4 hf (fun hf => ?_) (fun hf => ?_)
  · refine r_aload_n (pc := 16) S0 0 dX12_tries_16 rfl rfl ?_
    refine r_iload_n (pc := 17) S0 1 dX12_tries_17 rfl rfl ?_
    refine r_i2l (pc := 18) S0 dX12_tries_18 ca1 ?_
    obtain ⟨e5, h6, hf⟩ := ok_bind hf
    refine r_cV_I (pc := 19) [jv a1] S0 hK hX mv_X12_477 (k_X12_draws h6) (c_X12_draws l cA D N sx ad T A nx I1 w0 a1 (cl_cn ca1) e5 h6) rfl rfl ⟨by decide, by decide⟩ (Nat.le_of_ble_eq_true rfl) ⟨Nat.le_refl _, Nat.le_refl _⟩ dX12_tries_19 (fun c7 => ?_)
    refine r_pop (pc := 22) S0 dX12_tries_22 rfl ?_
    refine r_aload_n (pc := 23) S0 0 dX12_tries_23 rfl rfl ?_
    refine r_getI (pc := 24) S0 hK fl_X12_461 dX12_tries_24 hf (fun x8 c9 hf => ?_)
    have hz := ok_some hf
    have hz : (x8, e5.2) = e := hz
    subst hQ
    subst hz
    exact r_iret (pc := 27) S0 hr hlk c9 dX12_tries_27
  · refine r_bipush (pc := 13) S0 dX12_tries_13 (by decide) ?_
    have hz := ok_some hf
    have hz : ((-2), I1) = e := hz
    subst hQ
    subst hz
    exact r_iret (pc := 15) S0 hr hlk (cnz (-2) rfl) dX12_tries_15

set_option maxHeartbeats 4000000 in
set_option maxRecDepth 100000 in
theorem c_X12_luck (l : Launch) (cA : Nat → ClassId) (D : va_G) (N : Nat) (sx : Sx) (ad : Nat → Nat) (T : Knd) (A : Rfs) (nx : Nat) (I : Mem) (w0 : Nat) (a1 : Int) (a2 : Int) (ca1 : cn a1) (ca2 : cn a2) (e : (Int × Mem)) (h : f_X12_luck T A w0 a1 a2 I = some e) : CtI l yX12_luck cX12_luck 5 (some .int) 8 222 cA D N sx ad T A nx [rv ad w0, iv a1, iv a2] I e.2 e.1 := by
  refine met_of (lv0 := [(0, rv ad w0), (1, iv a1), (2, iv a2)]) (by decide) (Nat.le_of_ble_eq_true rfl) rfl (fun p e0 s m args below meth c S0 hK hX hr hlk Q hQ => ?_)
  have hf : OK (f_X12_luck T A w0 a1 a2 I) (fun z => z = e) := ⟨e, h, rfl⟩
  unfold f_X12_luck at hf
  obtain ⟨hw0, hf⟩ := ok_grd hf
  refine r_aload_n (pc := 0) S0 0 dX12_luck_0 rfl rfl ?_
  refine r_iconst (pc := 1) S0 dX12_luck_1 ?_
  refine r_putI (pc := 2) S0 hK fl_X12_89 rfl rfl (cnz 0 rfl) dX12_luck_2 hf (fun I1 hf => ?_)
  refine r_aload_n (pc := 5) S0 0 dX12_luck_5 rfl rfl ?_
  refine r_iload_n (pc := 6) S0 1 dX12_luck_6 rfl rfl ?_
  obtain ⟨e2, h3, hf⟩ := ok_bind hf
  refine r_cV_I (pc := 7) [iv a1] S0 hK hX mv_X12_474 (k_X12_isSeed h3) (c_X12_isSeed l cA D N sx ad T A nx I1 w0 a1 ca1 e2 h3) rfl rfl ⟨by decide, by decide⟩ (Nat.le_of_ble_eq_true rfl) ⟨Nat.le_refl _, Nat.le_refl _⟩ dX12_luck_7 (fun c4 => ?_)
  refine r_if_eq (pc := 10) (tgt := 25) S0 dX12_luck_10 (by decide) c4 hf (fun hf => ?_) (fun hf => ?_)
  · refine r_bipush (pc := 25) S0 dX12_luck_25 (by decide) ?_
    have hz := ok_some hf
    have hz : ((-2), I1) = e := hz
    subst hQ
    subst hz
    exact r_iret (pc := 27) S0 hr hlk (cnz (-2) rfl) dX12_luck_27
  · refine r_iload_n (pc := 13) S0 2 dX12_luck_13 rfl rfl ?_
    refine r_i2l (pc := 14) S0 dX12_luck_14 ca2 ?_
    refine r_lconst (pc := 15) (v := 1) S0 dX12_luck_15 rfl ?_
    refine r_ldc2 (pc := 16) (z := 20) S0 kl_X12_481 dX12_luck_16 (by decide) ?_
    obtain ⟨e5, h6, hf⟩ := ok_bind hf
    refine r_cS_I (pc := 19) [jv a2, jv 1, jv 20] S0 hK hX ms_X12_94 (c_X12_in l cA D N sx ad T A nx I1 a2 1 20 (cl_cn ca2) (clz 1 rfl) (clz 20 rfl) e5 h6) rfl rfl ⟨by decide, by decide⟩ (Nat.le_of_ble_eq_true rfl) ⟨Nat.le_refl _, Nat.le_refl _⟩ dX12_luck_19 (fun c7 => ?_)
    refine r_if_ne (pc := 22) (tgt := 28) S0 dX12_luck_22 (by decide) c7 hf (fun hf => ?_) (fun hf => ?_)
    · refine r_iconst (pc := 28) S0 dX12_luck_28 ?_
      refine r_istore_n (pc := 29) (lv' := [(3, iv 0), (0, rv ad w0), (1, iv a1), (2, iv a2)]) S0 dX12_luck_29 rfl (by decide) rfl ?_
      refine r_iconst (pc := 30) S0 dX12_luck_30 ?_
      refine r_istore (pc := 31) (lv' := [(4, iv 0), (3, iv 0), (0, rv ad w0), (1, iv a1), (2, iv a2)]) S0 dX12_luck_31 (by decide) rfl ?_
      refine r_lv [2, 3, 4, 1, 0] rfl ?_
      refine it_ind (P := fun s9 => cn s9.1 → cn s9.2.1 → G p l e0 (rmx 8 222) s m args below meth c 0 0 Q cA D N 5 ad T A nx 33 [(0, rv ad w0), (1, iv a1), (2, iv a2), (3, iv s9.1), (4, iv s9.2.1)] [] s9.2.2) (fun n0 s9 ih8 hf c10 c11 => ?_) FU (0, 0, I1) hf (cnz 0 rfl) (cnz 0 rfl)
      refine r_iload (pc := 33) S0 4 dX12_luck_33 rfl ?_
      refine r_iload_n (pc := 35) S0 2 dX12_luck_35 rfl rfl ?_
      refine r_icmp_ge (pc := 36) (tgt := 67) S0 dX12_luck_36 (by decide) c11 ca2 hf (fun hf => ?_) (fun hf => ?_)
      · refine r_iload_n (pc := 67) S0 3 dX12_luck_67 rfl rfl ?_
        have hz := ok_some hf
        have hz : (s9.1, s9.2.2) = e := hz
        subst hQ
        subst hz
        exact r_iret (pc := 68) S0 hr hlk c10 dX12_luck_68
      · refine r_iload_n (pc := 39) S0 3 dX12_luck_39 rfl rfl ?_
        refine r_aload_n (pc := 40) S0 0 dX12_luck_40 rfl rfl ?_
        refine r_iload_n (pc := 41) S0 1 dX12_luck_41 rfl rfl ?_
        refine r_i2l (pc := 42) S0 dX12_luck_42 ca1 ?_
        refine r_iload (pc := 43) S0 4 dX12_luck_43 rfl ?_
        refine r_i2l (pc := 45) S0 dX12_luck_45 c11 ?_
        refine r_ladd (pc := 46) S0 dX12_luck_46 ?_
        obtain ⟨e12, h13, hf⟩ := ok_bind hf
        refine r_cV_I (pc := 47) [jv (ila a1 s9.2.1)] S0 hK hX mv_X12_477 (k_X12_draws h13) (c_X12_draws l cA D N sx ad T A nx s9.2.2 w0 (ila a1 s9.2.1) (cl_wrapl _) e12 h13) rfl rfl ⟨by decide, by decide⟩ (Nat.le_of_ble_eq_true rfl) ⟨Nat.le_refl _, Nat.le_refl _⟩ dX12_luck_47 (fun c14 => ?_)
        refine r_iconst (pc := 50) S0 dX12_luck_50 ?_
        refine r_icmp_eq (pc := 51) (tgt := 58) S0 dX12_luck_51 (by decide) c14 (cnz (-1) rfl) hf (fun hf => ?_) (fun hf => ?_)
        · refine r_iconst (pc := 58) S0 dX12_luck_58 ?_
          refine r_iadd (pc := 59) S0 dX12_luck_59 ?_
          refine r_istore_n (pc := 60) (lv' := [(3, iv (ia s9.1 0)), (0, rv ad w0), (1, iv a1), (2, iv a2), (4, iv s9.2.1)]) S0 dX12_luck_60 rfl (by decide) rfl ?_
          refine r_iinc (pc := 61) (lv' := [(4, iv (ia s9.2.1 1)), (3, iv (ia s9.1 0)), (0, rv ad w0), (1, iv a1), (2, iv a2)]) S0 4 dX12_luck_61 rfl (by decide) rfl ?_
          refine r_goto (pc := 64) (tgt := 33) S0 dX12_luck_64 (by decide) ?_
          have hz := ok_some hf
          refine r_lv [2, 3, 4, 1, 0] rfl ?_
          exact ih8 (ia s9.1 0, ia s9.2.1 1, e12.2) hz (cn_wrap _) (cn_wrap _)
        · refine r_iconst (pc := 54) S0 dX12_luck_54 ?_
          refine r_goto (pc := 55) (tgt := 59) S0 dX12_luck_55 (by decide) ?_
          refine r_iadd (pc := 59) S0 dX12_luck_59 ?_
          refine r_istore_n (pc := 60) (lv' := [(3, iv (ia s9.1 1)), (0, rv ad w0), (1, iv a1), (2, iv a2), (4, iv s9.2.1)]) S0 dX12_luck_60 rfl (by decide) rfl ?_
          refine r_iinc (pc := 61) (lv' := [(4, iv (ia s9.2.1 1)), (3, iv (ia s9.1 1)), (0, rv ad w0), (1, iv a1), (2, iv a2)]) S0 4 dX12_luck_61 rfl (by decide) rfl ?_
          refine r_goto (pc := 64) (tgt := 33) S0 dX12_luck_64 (by decide) ?_
          have hz := ok_some hf
          refine r_lv [2, 3, 4, 1, 0] rfl ?_
          exact ih8 (ia s9.1 1, ia s9.2.1 1, e12.2) hz (cn_wrap _) (cn_wrap _)
    · refine r_bipush (pc := 25) S0 dX12_luck_25 (by decide) ?_
      have hz := ok_some hf
      have hz : ((-2), I1) = e := hz
      subst hQ
      subst hz
      exact r_iret (pc := 27) S0 hr hlk (cnz (-2) rfl) dX12_luck_27

set_option maxHeartbeats 4000000 in
set_option maxRecDepth 100000 in
theorem c_X12_common (l : Launch) (cA : Nat → ClassId) (D : va_G) (N : Nat) (sx : Sx) (ad : Nat → Nat) (T : Knd) (A : Rfs) (nx : Nat) (dd : Nat) : ∀ (I : Mem) (a0 : Int) (a1 : Int) (ca0 : cn a0) (ca1 : cn a1) (e : Int) (h : f_X12_common dd T A a0 a1 I = some e), CtI l yX12_common cX12_common 2 (some .int) (1 + dd) (60 + dd * 21) cA D N sx ad T A nx [iv a0, iv a1] I I e := by
  induction dd with
  | zero => intro I a0 a1 ca0 ca1 e h; unfold f_X12_common at h; cases h
  | succ dd ihd =>
    intro I a0 a1 ca0 ca1 e h
    refine met_of (lv0 := [(0, iv a0), (1, iv a1)]) (by decide) (Nat.le_of_ble_eq_true rfl) rfl (fun p e0 s m args below meth c S0 hK hX hr hlk Q hQ => ?_)
    have hf : OK (f_X12_common (dd + 1) T A a0 a1 I) (fun z => z = e) := ⟨e, h, rfl⟩
    unfold f_X12_common at hf
    refine r_iload_n (pc := 0) S0 1 dX12_common_0 rfl rfl ?_
    refine r_if_ne (pc := 1) (tgt := 8) S0 dX12_common_1 (by decide) ca1 hf (fun hf => ?_) (fun hf => ?_)
    · refine r_iload_n (pc := 8) S0 1 dX12_common_8 rfl rfl ?_
      refine r_iload_n (pc := 9) S0 0 dX12_common_9 rfl rfl ?_
      refine r_iload_n (pc := 10) S0 1 dX12_common_10 rfl rfl ?_
      refine r_irem (pc := 11) S0 dX12_common_11 ca1 hf (fun hf => ?_)
      obtain ⟨e1, h2, hf⟩ := ok_bind hf
      refine r_cS_I (pc := 12) [iv a1, iv (irm a0 a1)] S0 hK hX ms_X12_483 (ihd I a1 (irm a0 a1) ca1 (cn_toInt _) e1 h2) rfl rfl ⟨by dsimp only [rmx]; omega, by dsimp only [rmx]; omega⟩ (Nat.le_of_ble_eq_true rfl) ⟨Nat.le_refl _, Nat.le_refl _⟩ dX12_common_12 (fun c3 => ?_)
      have hz := ok_some hf
      have hz : e1 = e := hz
      subst hQ
      subst hz
      exact r_iret (pc := 15) S0 hr hlk c3 dX12_common_15
    · refine r_iload_n (pc := 4) S0 0 dX12_common_4 rfl rfl ?_
      refine r_goto (pc := 5) (tgt := 15) S0 dX12_common_5 (by decide) ?_
      have hz := ok_some hf
      have hz : a0 = e := hz
      subst hQ
      subst hz
      exact r_iret (pc := 15) S0 hr hlk ca0 dX12_common_15

set_option maxHeartbeats 4000000 in
set_option maxRecDepth 100000 in
theorem c_X12_worth (l : Launch) (cA : Nat → ClassId) (D : va_G) (N : Nat) (sx : Sx) (ad : Nat → Nat) (T : Knd) (A : Rfs) (nx : Nat) (I : Mem) (w0 : Nat) (a1 : Int) (a2 : Int) (a3 : Int) (ca1 : cn a1) (ca2 : cn a2) (ca3 : cn a3) (e : (Int × Mem)) (h : f_X12_worth T A w0 a1 a2 a3 I = some e) : CtI l yX12_worth cX12_worth 9 (some .int) 66 1425 cA D N sx ad T A nx [rv ad w0, iv a1, iv a2, iv a3] I e.2 e.1 := by
  refine met_of (lv0 := [(0, rv ad w0), (1, iv a1), (2, iv a2), (3, iv a3)]) (by decide) (Nat.le_of_ble_eq_true rfl) rfl (fun p e0 s m args below meth c S0 hK hX hr hlk Q hQ => ?_)
  have hf : OK (f_X12_worth T A w0 a1 a2 a3 I) (fun z => z = e) := ⟨e, h, rfl⟩
  unfold f_X12_worth at hf
  obtain ⟨hw0, hf⟩ := ok_grd hf
  refine r_aload_n (pc := 0) S0 0 dX12_worth_0 rfl rfl ?_
  refine r_iconst (pc := 1) S0 dX12_worth_1 ?_
  refine r_putI (pc := 2) S0 hK fl_X12_89 rfl rfl (cnz 0 rfl) dX12_worth_2 hf (fun I1 hf => ?_)
  refine r_aload_n (pc := 5) S0 0 dX12_worth_5 rfl rfl ?_
  refine r_iload_n (pc := 6) S0 1 dX12_worth_6 rfl rfl ?_
  obtain ⟨e2, h3, hf⟩ := ok_bind hf
  refine r_cV_I (pc := 7) [iv a1] S0 hK hX mv_X12_474 (k_X12_isSeed h3) (c_X12_isSeed l cA D N sx ad T A nx I1 w0 a1 ca1 e2 h3) rfl rfl ⟨by decide, by decide⟩ (Nat.le_of_ble_eq_true rfl) ⟨Nat.le_refl _, Nat.le_refl _⟩ dX12_worth_7 (fun c4 => ?_)
  refine r_if_eq (pc := 10) (tgt := 35) S0 dX12_worth_10 (by decide) c4 hf (fun hf => ?_) (fun hf => ?_)
  · refine r_bipush (pc := 35) S0 dX12_worth_35 (by decide) ?_
    have hz := ok_some hf
    have hz : ((-2), I1) = e := hz
    subst hQ
    subst hz
    exact r_iret (pc := 37) S0 hr hlk (cnz (-2) rfl) dX12_worth_37
  · refine r_iload_n (pc := 13) S0 2 dX12_worth_13 rfl rfl ?_
    refine r_i2l (pc := 14) S0 dX12_worth_14 ca2 ?_
    refine r_lconst (pc := 15) (v := 1) S0 dX12_worth_15 rfl ?_
    refine r_ldc2 (pc := 16) (z := 20) S0 kl_X12_481 dX12_worth_16 (by decide) ?_
    obtain ⟨e5, h6, hf⟩ := ok_bind hf
    refine r_cS_I (pc := 19) [jv a2, jv 1, jv 20] S0 hK hX ms_X12_94 (c_X12_in l cA D N sx ad T A nx I1 a2 1 20 (cl_cn ca2) (clz 1 rfl) (clz 20 rfl) e5 h6) rfl rfl ⟨by decide, by decide⟩ (Nat.le_of_ble_eq_true rfl) ⟨Nat.le_refl _, Nat.le_refl _⟩ dX12_worth_19 (fun c7 => ?_)
    refine r_if_eq (pc := 22) (tgt := 35) S0 dX12_worth_22 (by decide) c7 hf (fun hf => ?_) (fun hf => ?_)
    · refine r_bipush (pc := 35) S0 dX12_worth_35 (by decide) ?_
      have hz := ok_some hf
      have hz : ((-2), I1) = e := hz
      subst hQ
      subst hz
      exact r_iret (pc := 37) S0 hr hlk (cnz (-2) rfl) dX12_worth_37
    · refine r_iload_n (pc := 25) S0 3 dX12_worth_25 rfl rfl ?_
      refine r_i2l (pc := 26) S0 dX12_worth_26 ca3 ?_
      refine r_lconst (pc := 27) (v := 0) S0 dX12_worth_27 rfl ?_
      refine r_lconst (pc := 28) (v := 1) S0 dX12_worth_28 rfl ?_
      obtain ⟨e8, h9, hf⟩ := ok_bind hf
      refine r_cS_I (pc := 29) [jv a3, jv 0, jv 1] S0 hK hX ms_X12_94 (c_X12_in l cA D N sx ad T A nx I1 a3 0 1 (cl_cn ca3) (clz 0 rfl) (clz 1 rfl) e8 h9) rfl rfl ⟨by decide, by decide⟩ (Nat.le_of_ble_eq_true rfl) ⟨Nat.le_refl _, Nat.le_refl _⟩ dX12_worth_29 (fun c10 => ?_)
      refine r_if_ne (pc := 32) (tgt := 38) S0 dX12_worth_32 (by decide) c10 hf (fun hf => ?_) (fun hf => ?_)
      · refine r_aload_n (pc := 38) S0 0 dX12_worth_38 rfl rfl ?_
        refine r_iconst (pc := 39) S0 dX12_worth_39 ?_
        obtain ⟨e11, h12, hf⟩ := ok_bind hf
        refine r_cV_I (pc := 40) [iv 0] S0 hK hX mv_X12_385 (k_X12_findsNow h12) (c_X12_findsNow l cA D N sx ad T A nx I1 w0 0 (cnz 0 rfl) e11 h12) rfl rfl ⟨by decide, by decide⟩ (Nat.le_of_ble_eq_true rfl) ⟨Nat.le_refl _, Nat.le_refl _⟩ dX12_worth_40 (fun c13 => ?_)
        refine r_istore (pc := 43) (lv' := [(4, iv e11.1), (0, rv ad w0), (1, iv a1), (2, iv a2), (3, iv a3)]) S0 dX12_worth_43 (by decide) rfl ?_
        refine r_iconst (pc := 45) S0 dX12_worth_45 ?_
        refine r_istore (pc := 46) (lv' := [(5, iv 0), (4, iv e11.1), (0, rv ad w0), (1, iv a1), (2, iv a2), (3, iv a3)]) S0 dX12_worth_46 (by decide) rfl ?_
        refine r_iconst (pc := 48) S0 dX12_worth_48 ?_
        refine r_istore (pc := 49) (lv' := [(6, iv 0), (5, iv 0), (4, iv e11.1), (0, rv ad w0), (1, iv a1), (2, iv a2), (3, iv a3)]) S0 dX12_worth_49 (by decide) rfl ?_
        refine r_iconst (pc := 51) S0 dX12_worth_51 ?_
        refine r_istore (pc := 52) (lv' := [(7, iv 0), (6, iv 0), (5, iv 0), (4, iv e11.1), (0, rv ad w0), (1, iv a1), (2, iv a2), (3, iv a3)]) S0 dX12_worth_52 (by decide) rfl ?_
        refine thn_rule (P := fun v15 => cn v15.1 → cn v15.2.1 → G p l e0 (rmx 66 1425) s m args below meth c 0 0 Q cA D N 9 ad T A nx 100 [(3, iv a3), (5, iv v15.1), (6, iv v15.2.1)] [] v15.2.2) hf (fun v15 hf c16 c17 => ?_) (fun K14 hf => ?_)
        · refine r_iload (pc := 100) S0 2 dX12_worth_100 rfl ?_
          refine r_if_ne (pc := 102) (tgt := 109) S0 dX12_worth_102 (by decide) c17 hf (fun hf => ?_) (fun hf => ?_)
          · refine r_iload_n (pc := 109) S0 0 dX12_worth_109 rfl rfl ?_
            refine thn_rule (P := fun v27 => cn v27 → G p l e0 (rmx 66 1425) s m args below meth c 0 0 Q cA D N 9 ad T A nx 120 [(5, iv v15.1), (6, iv v15.2.1)] [iv v27] v15.2.2) hf (fun v27 hf c28 => ?_) (fun K26 hf => ?_)
            · refine r_iload (pc := 120) S0 0 dX12_worth_120 rfl ?_
              refine r_iload (pc := 122) S0 1 dX12_worth_122 rfl ?_
              obtain ⟨e29, h30, hf⟩ := ok_bind hf
              refine r_cS_I (pc := 124) [iv v15.1, iv v15.2.1] S0 hK hX ms_X12_483 (c_X12_common l cA D N sx ad T A nx 64 v15.2.2 v15.1 v15.2.1 c16 c17 e29 h30) rfl rfl ⟨by dsimp only [rmx]; omega, by dsimp only [rmx]; omega⟩ (Nat.le_of_ble_eq_true rfl) ⟨Nat.le_refl _, Nat.le_refl _⟩ dX12_worth_124 (fun c31 => ?_)
              refine r_idiv (pc := 127) S0 dX12_worth_127 c31 hf (fun hf => ?_)
              have hz := ok_some hf
              have hz : (idv v27 e29, v15.2.2) = e := hz
              subst hQ
              subst hz
              exact r_iret (pc := 128) S0 hr hlk (cn_toInt _) dX12_worth_128
            · refine r_if_ne (pc := 110) (tgt := 118) S0 dX12_worth_110 (by decide) ca3 hf (fun hf => ?_) (fun hf => ?_)
              · refine r_iload (pc := 118) S0 2 dX12_worth_118 rfl ?_
                have hz := ok_some hf
                refine r_lv [1, 2] rfl ?_
                exact K26 v15.2.1 hz c17
              · refine r_iload (pc := 113) S0 1 dX12_worth_113 rfl ?_
                refine r_goto (pc := 115) (tgt := 120) S0 dX12_worth_115 (by decide) ?_
                have hz := ok_some hf
                refine r_lv [1, 2] rfl ?_
                exact K26 v15.1 hz c16
          · refine r_iconst (pc := 105) S0 dX12_worth_105 ?_
            refine r_goto (pc := 106) (tgt := 128) S0 dX12_worth_106 (by decide) ?_
            have hz := ok_some hf
            have hz : ((-1), v15.2.2) = e := hz
            subst hQ
            subst hz
            exact r_iret (pc := 128) S0 hr hlk (cnz (-1) rfl) dX12_worth_128
        · refine r_lv [4, 5, 6, 7, 3, 2, 1, 0] rfl ?_
          refine it_ind (P := fun s19 => cn s19.1 → cn s19.2.1 → cn s19.2.2.1 → G p l e0 (rmx 66 1425) s m args below meth c 0 0 Q cA D N 9 ad T A nx 54 [(0, rv ad w0), (1, iv a1), (2, iv a2), (3, iv a3), (4, iv e11.1), (5, iv s19.1), (6, iv s19.2.1), (7, iv s19.2.2.1)] [] s19.2.2.2) (fun n0 s19 ih18 hf c20 c21 c22 => ?_) FU (0, 0, 0, e11.2) hf (cnz 0 rfl) (cnz 0 rfl) (cnz 0 rfl)
          refine r_iload (pc := 54) S0 7 dX12_worth_54 rfl ?_
          refine r_iload_n (pc := 56) S0 2 dX12_worth_56 rfl rfl ?_
          refine r_icmp_ge (pc := 57) (tgt := 100) S0 dX12_worth_57 (by decide) c22 ca2 hf (fun hf => ?_) (fun hf => ?_)
          · have hz := ok_some hf
            refine r_lv [3, 5, 6] rfl ?_
            exact K14 (s19.1, s19.2.1, s19.2.2.2) hz c20 c21
          · refine r_aload_n (pc := 60) S0 0 dX12_worth_60 rfl rfl ?_
            refine r_iload_n (pc := 61) S0 1 dX12_worth_61 rfl rfl ?_
            refine r_i2l (pc := 62) S0 dX12_worth_62 ca1 ?_
            refine r_iload (pc := 63) S0 7 dX12_worth_63 rfl ?_
            refine r_i2l (pc := 65) S0 dX12_worth_65 c22 ?_
            refine r_ladd (pc := 66) S0 dX12_worth_66 ?_
            obtain ⟨e23, h24, hf⟩ := ok_bind hf
            refine r_cV_I (pc := 67) [jv (ila a1 s19.2.2.1)] S0 hK hX mv_X12_477 (k_X12_draws h24) (c_X12_draws l cA D N sx ad T A nx s19.2.2.2 w0 (ila a1 s19.2.2.1) (cl_wrapl _) e23 h24) rfl rfl ⟨by decide, by decide⟩ (Nat.le_of_ble_eq_true rfl) ⟨Nat.le_refl _, Nat.le_refl _⟩ dX12_worth_67 (fun c25 => ?_)
            refine r_istore (pc := 70) (lv' := [(8, iv e23.1), (0, rv ad w0), (1, iv a1), (2, iv a2), (3, iv a3), (4, iv e11.1), (5, iv s19.1), (6, iv s19.2.1), (7, iv s19.2.2.1)]) S0 dX12_worth_70 (by decide) rfl ?_
            refine r_iload (pc := 72) S0 0 dX12_worth_72 rfl ?_
            refine r_iconst (pc := 74) S0 dX12_worth_74 ?_
            refine r_icmp_ne (pc := 75) (tgt := 81) S0 dX12_worth_75 (by decide) c25 (cnz (-1) rfl) hf (fun hf => ?_) (fun hf => ?_)
            · refine r_iload (pc := 81) S0 6 dX12_worth_81 rfl ?_
              refine r_iload (pc := 83) S0 0 dX12_worth_83 rfl ?_
              refine r_iload (pc := 85) S0 5 dX12_worth_85 rfl ?_
              refine r_isub (pc := 87) S0 dX12_worth_87 ?_
              refine r_iadd (pc := 88) S0 dX12_worth_88 ?_
              refine r_istore (pc := 89) (lv' := [(5, iv (ia s19.1 (isb e23.1 e11.1))), (8, iv e23.1), (0, rv ad w0), (1, iv a1), (2, iv a2), (3, iv a3), (4, iv e11.1), (6, iv s19.2.1), (7, iv s19.2.2.1)]) S0 dX12_worth_89 (by decide) rfl ?_
              refine r_iinc (pc := 91) (lv' := [(6, iv (ia s19.2.1 1)), (5, iv (ia s19.1 (isb e23.1 e11.1))), (8, iv e23.1), (0, rv ad w0), (1, iv a1), (2, iv a2), (3, iv a3), (4, iv e11.1), (7, iv s19.2.2.1)]) S0 7 dX12_worth_91 rfl (by decide) rfl ?_
              refine r_iinc (pc := 94) (lv' := [(7, iv (ia s19.2.2.1 1)), (6, iv (ia s19.2.1 1)), (5, iv (ia s19.1 (isb e23.1 e11.1))), (8, iv e23.1), (0, rv ad w0), (1, iv a1), (2, iv a2), (3, iv a3), (4, iv e11.1)]) S0 8 dX12_worth_94 rfl (by decide) rfl ?_
              refine r_goto (pc := 97) (tgt := 54) S0 dX12_worth_97 (by decide) ?_
              have hz := ok_some hf
              refine r_lv [4, 5, 6, 7, 8, 2, 1, 0] rfl ?_
              exact ih18 (ia s19.1 (isb e23.1 e11.1), ia s19.2.1 1, ia s19.2.2.1 1, e23.2) hz (cn_wrap _) (cn_wrap _) (cn_wrap _)
            · refine r_goto (pc := 78) (tgt := 94) S0 dX12_worth_78 (by decide) ?_
              refine r_iinc (pc := 94) (lv' := [(7, iv (ia s19.2.2.1 1)), (8, iv e23.1), (0, rv ad w0), (1, iv a1), (2, iv a2), (3, iv a3), (4, iv e11.1), (5, iv s19.1), (6, iv s19.2.1)]) S0 8 dX12_worth_94 rfl (by decide) rfl ?_
              refine r_goto (pc := 97) (tgt := 54) S0 dX12_worth_97 (by decide) ?_
              have hz := ok_some hf
              refine r_lv [2, 3, 4, 5, 6, 7, 8, 0] rfl ?_
              exact ih18 (s19.1, s19.2.1, ia s19.2.2.1 1, e23.2) hz c20 c21 (cn_wrap _)
      · refine r_bipush (pc := 35) S0 dX12_worth_35 (by decide) ?_
        have hz := ok_some hf
        have hz : ((-2), I1) = e := hz
        subst hQ
        subst hz
        exact r_iret (pc := 37) S0 hr hlk (cnz (-2) rfl) dX12_worth_37

set_option maxHeartbeats 4000000 in
set_option maxRecDepth 100000 in
theorem c_X12_ask (l : Launch) (cA : Nat → ClassId) (D : va_G) (N : Nat) (sx : Sx) (ad : Nat → Nat) (T : Knd) (A : Rfs) (nx : Nat) (I : Mem) (w0 : Nat) (a1 : Int) (a2 : Int) (a3 : Int) (a4 : Int) (ca1 : cn a1) (ca2 : cn a2) (ca3 : cn a3) (ca4 : cn a4) (e : (Int × Mem)) (h : f_X12_ask T A w0 a1 a2 a3 a4 I = some e) : CtI l yX12_ask cX12_ask 7 (some .int) 3 107 cA D N sx ad T A nx [rv ad w0, iv a1, iv a2, iv a3, iv a4] I e.2 e.1 := by
  refine met_of (lv0 := [(0, rv ad w0), (1, iv a1), (2, iv a2), (3, iv a3), (4, iv a4)]) (by decide) (Nat.le_of_ble_eq_true rfl) rfl (fun p e0 s m args below meth c S0 hK hX hr hlk Q hQ => ?_)
  have hf : OK (f_X12_ask T A w0 a1 a2 a3 a4 I) (fun z => z = e) := ⟨e, h, rfl⟩
  unfold f_X12_ask at hf
  obtain ⟨hw0, hf⟩ := ok_grd hf
  refine r_aload_n (pc := 0) S0 0 dX12_ask_0 rfl rfl ?_
  refine r_iconst (pc := 1) S0 dX12_ask_1 ?_
  refine r_putI (pc := 2) S0 hK fl_X12_89 rfl rfl (cnz 0 rfl) dX12_ask_2 hf (fun I1 hf => ?_)
  refine r_aload_n (pc := 5) S0 0 dX12_ask_5 rfl rfl ?_
  refine r_iload_n (pc := 6) S0 1 dX12_ask_6 rfl rfl ?_
  refine r_i2l (pc := 7) S0 dX12_ask_7 ca1 ?_
  obtain ⟨e2, h3, hf⟩ := ok_bind hf
  refine r_cV_I (pc := 8) [jv a1] S0 hK hX mv_X12_270 (k_X12_isOfficial h3) (c_X12_isOfficial l cA D N sx ad T A nx I1 w0 a1 (cl_cn ca1) e2 h3) rfl rfl ⟨by decide, by decide⟩ (Nat.le_of_ble_eq_true rfl) ⟨Nat.le_refl _, Nat.le_refl _⟩ dX12_ask_8 (fun c4 => ?_)
  refine r_if_eq (pc := 11) (tgt := 49) S0 dX12_ask_11 (by decide) c4 hf (fun hf => ?_) (fun hf => ?_)
  · refine r_bipush (pc := 49) S0 dX12_ask_49 (by decide) ?_
    have hz := ok_some hf
    have hz : ((-2), I1) = e := hz
    subst hQ
    subst hz
    exact r_iret (pc := 51) S0 hr hlk (cnz (-2) rfl) dX12_ask_51
  · refine r_aload_n (pc := 14) S0 0 dX12_ask_14 rfl rfl ?_
    refine r_iload_n (pc := 15) S0 2 dX12_ask_15 rfl rfl ?_
    refine r_i2l (pc := 16) S0 dX12_ask_16 ca2 ?_
    obtain ⟨e5, h6, hf⟩ := ok_bind hf
    refine r_cV_I (pc := 17) [jv a2] S0 hK hX mv_X12_270 (k_X12_isOfficial h6) (c_X12_isOfficial l cA D N sx ad T A nx I1 w0 a2 (cl_cn ca2) e5 h6) rfl rfl ⟨by decide, by decide⟩ (Nat.le_of_ble_eq_true rfl) ⟨Nat.le_refl _, Nat.le_refl _⟩ dX12_ask_17 (fun c7 => ?_)
    refine r_if_eq (pc := 20) (tgt := 49) S0 dX12_ask_20 (by decide) c7 hf (fun hf => ?_) (fun hf => ?_)
    · refine r_bipush (pc := 49) S0 dX12_ask_49 (by decide) ?_
      have hz := ok_some hf
      have hz : ((-2), I1) = e := hz
      subst hQ
      subst hz
      exact r_iret (pc := 51) S0 hr hlk (cnz (-2) rfl) dX12_ask_51
    · refine r_iload_n (pc := 23) S0 1 dX12_ask_23 rfl rfl ?_
      refine r_iload_n (pc := 24) S0 2 dX12_ask_24 rfl rfl ?_
      refine r_icmp_eq (pc := 25) (tgt := 49) S0 dX12_ask_25 (by decide) ca1 ca2 hf (fun hf => ?_) (fun hf => ?_)
      · refine r_bipush (pc := 49) S0 dX12_ask_49 (by decide) ?_
        have hz := ok_some hf
        have hz : ((-2), I1) = e := hz
        subst hQ
        subst hz
        exact r_iret (pc := 51) S0 hr hlk (cnz (-2) rfl) dX12_ask_51
      · refine r_iload_n (pc := 28) S0 3 dX12_ask_28 rfl rfl ?_
        refine r_i2l (pc := 29) S0 dX12_ask_29 ca3 ?_
        refine r_lconst (pc := 30) (v := 0) S0 dX12_ask_30 rfl ?_
        refine r_lconst (pc := 31) (v := 1) S0 dX12_ask_31 rfl ?_
        obtain ⟨e8, h9, hf⟩ := ok_bind hf
        refine r_cS_I (pc := 32) [jv a3, jv 0, jv 1] S0 hK hX ms_X12_94 (c_X12_in l cA D N sx ad T A nx I1 a3 0 1 (cl_cn ca3) (clz 0 rfl) (clz 1 rfl) e8 h9) rfl rfl ⟨by decide, by decide⟩ (Nat.le_of_ble_eq_true rfl) ⟨Nat.le_refl _, Nat.le_refl _⟩ dX12_ask_32 (fun c10 => ?_)
        refine r_if_eq (pc := 35) (tgt := 49) S0 dX12_ask_35 (by decide) c10 hf (fun hf => ?_) (fun hf => ?_)
        · refine r_bipush (pc := 49) S0 dX12_ask_49 (by decide) ?_
          have hz := ok_some hf
          have hz : ((-2), I1) = e := hz
          subst hQ
          subst hz
          exact r_iret (pc := 51) S0 hr hlk (cnz (-2) rfl) dX12_ask_51
        · refine r_iload (pc := 38) S0 4 dX12_ask_38 rfl ?_
          refine r_i2l (pc := 40) S0 dX12_ask_40 ca4 ?_
          refine r_lconst (pc := 41) (v := 0) S0 dX12_ask_41 rfl ?_
          refine r_lconst (pc := 42) (v := 1) S0 dX12_ask_42 rfl ?_
          obtain ⟨e11, h12, hf⟩ := ok_bind hf
          refine r_cS_I (pc := 43) [jv a4, jv 0, jv 1] S0 hK hX ms_X12_94 (c_X12_in l cA D N sx ad T A nx I1 a4 0 1 (cl_cn ca4) (clz 0 rfl) (clz 1 rfl) e11 h12) rfl rfl ⟨by decide, by decide⟩ (Nat.le_of_ble_eq_true rfl) ⟨Nat.le_refl _, Nat.le_refl _⟩ dX12_ask_43 (fun c13 => ?_)
          refine r_if_ne (pc := 46) (tgt := 52) S0 dX12_ask_46 (by decide) c13 hf (fun hf => ?_) (fun hf => ?_)
          · refine r_aload_n (pc := 52) S0 0 dX12_ask_52 rfl rfl ?_
            refine r_getR (pc := 53) S0 hK fl_X12_34 dX12_ask_53 hf (fun x14 hf => ?_)
            refine r_iconst (pc := 56) S0 dX12_ask_56 ?_
            refine r_iald (pc := 57) S0 hK dX12_ask_57 (cnz 5 rfl) hf (fun x15 c16 hf => ?_)
            refine r_if_le (pc := 58) (tgt := 64) S0 dX12_ask_58 (by decide) c16 hf (fun hf => ?_) (fun hf => ?_)
            · refine r_iload_n (pc := 64) S0 3 dX12_ask_64 rfl rfl ?_
              refine thn_rule (P := fun v18 => G p l e0 (rmx 3 107) s m args below meth c 0 0 Q cA D N 7 ad T A nx 79 [(1, iv a1), (2, iv a2), (4, iv a4)] [rv ad v18] I1) hf (fun v18 hf => ?_) (fun K17 hf => ?_)
              · refine r_astore (pc := 79) (lv' := [(5, rv ad v18), (1, iv a1), (2, iv a2), (4, iv a4)]) S0 dX12_ask_79 (by decide) rfl ?_
                refine r_aload (pc := 81) S0 0 dX12_ask_81 rfl ?_
                refine r_iload_n (pc := 83) S0 1 dX12_ask_83 rfl rfl ?_
                refine r_iald (pc := 84) S0 hK dX12_ask_84 ca1 hf (fun x21 c22 hf => ?_)
                refine r_iload_n (pc := 85) S0 2 dX12_ask_85 rfl rfl ?_
                refine r_ishr (pc := 86) S0 dX12_ask_86 ?_
                refine r_iconst (pc := 87) S0 dX12_ask_87 ?_
                refine r_iand (pc := 88) S0 dX12_ask_88 ?_
                refine r_istore (pc := 89) (lv' := [(6, iv (iand (ishr x21 a2) 1)), (5, rv ad v18), (1, iv a1), (2, iv a2), (4, iv a4)]) S0 dX12_ask_89 (by decide) rfl ?_
                refine r_aload (pc := 91) S0 1 dX12_ask_91 rfl ?_
                refine r_iload_n (pc := 93) S0 2 dX12_ask_93 rfl rfl ?_
                refine r_iload (pc := 94) S0 4 dX12_ask_94 rfl ?_
                refine r_iconst (pc := 96) S0 dX12_ask_96 ?_
                refine thn_rule (P := fun v24 => cn v24 → G p l e0 (rmx 3 107) s m args below meth c 0 0 Q cA D N 7 ad T A nx 121 [(6, iv (iand (ishr x21 a2) 1))] [iv v24, iv a1, rv ad v18] I1) hf (fun v24 hf c25 => ?_) (fun K23 hf => ?_)
                · refine r_iast (pc := 121) S0 hK dX12_ask_121 ca1 c25 hf (fun I30 hf => ?_)
                  refine r_iload (pc := 122) S0 0 dX12_ask_122 rfl ?_
                  have hz := ok_some hf
                  have hz : (iand (ishr x21 a2) 1, I30) = e := hz
                  subst hQ
                  subst hz
                  exact r_iret (pc := 124) S0 hr hlk (cn_toInt _) dX12_ask_124
                · refine r_icmp_ne (pc := 97) (tgt := 111) S0 dX12_ask_97 (by decide) ca4 (cnz 1 rfl) hf (fun hf => ?_) (fun hf => ?_)
                  · refine r_aload (pc := 111) S0 1 dX12_ask_111 rfl ?_
                    refine r_iload_n (pc := 113) S0 2 dX12_ask_113 rfl rfl ?_
                    refine r_iald (pc := 114) S0 hK dX12_ask_114 ca1 hf (fun x26 c27 hf => ?_)
                    refine r_iconst (pc := 115) S0 dX12_ask_115 ?_
                    refine r_iload_n (pc := 116) S0 3 dX12_ask_116 rfl rfl ?_
                    refine r_ishl (pc := 117) S0 dX12_ask_117 ?_
                    refine r_iconst (pc := 118) S0 dX12_ask_118 ?_
                    refine r_ixor (pc := 119) S0 dX12_ask_119 ?_
                    refine r_iand (pc := 120) S0 dX12_ask_120 ?_
                    have hz := ok_some hf
                    refine r_lv [0] rfl ?_
                    exact K23 (iand x26 (ixor (ishl 1 a2) (-1))) hz (cn_toInt _)
                  · refine r_aload (pc := 100) S0 1 dX12_ask_100 rfl ?_
                    refine r_iload_n (pc := 102) S0 2 dX12_ask_102 rfl rfl ?_
                    refine r_iald (pc := 103) S0 hK dX12_ask_103 ca1 hf (fun x28 c29 hf => ?_)
                    refine r_iconst (pc := 104) S0 dX12_ask_104 ?_
                    refine r_iload_n (pc := 105) S0 3 dX12_ask_105 rfl rfl ?_
                    refine r_ishl (pc := 106) S0 dX12_ask_106 ?_
                    refine r_ior (pc := 107) S0 dX12_ask_107 ?_
                    refine r_goto (pc := 108) (tgt := 121) S0 dX12_ask_108 (by decide) ?_
                    have hz := ok_some hf
                    refine r_lv [0] rfl ?_
                    exact K23 (ior x28 (ishl 1 a2)) hz (cn_toInt _)
              · refine r_if_ne (pc := 65) (tgt := 75) S0 dX12_ask_65 (by decide) ca3 hf (fun hf => ?_) (fun hf => ?_)
                · refine r_aload_n (pc := 75) S0 0 dX12_ask_75 rfl rfl ?_
                  refine r_getR (pc := 76) S0 hK fl_X12_43 dX12_ask_76 hf (fun x19 hf => ?_)
                  have hz := ok_some hf
                  refine r_lv [1, 2, 4] rfl ?_
                  exact K17 x19 hz
                · refine r_aload_n (pc := 68) S0 0 dX12_ask_68 rfl rfl ?_
                  refine r_getR (pc := 69) S0 hK fl_X12_40 dX12_ask_69 hf (fun x20 hf => ?_)
                  refine r_goto (pc := 72) (tgt := 79) S0 dX12_ask_72 (by decide) ?_
                  have hz := ok_some hf
                  refine r_lv [1, 2, 4] rfl ?_
                  exact K17 x20 hz
            · refine r_bipush (pc := 61) S0 dX12_ask_61 (by decide) ?_
              have hz := ok_some hf
              have hz : ((-5), I1) = e := hz
              subst hQ
              subst hz
              exact r_iret (pc := 63) S0 hr hlk (cnz (-5) rfl) dX12_ask_63
          · refine r_bipush (pc := 49) S0 dX12_ask_49 (by decide) ?_
            have hz := ok_some hf
            have hz : ((-2), I1) = e := hz
            subst hQ
            subst hz
            exact r_iret (pc := 51) S0 hr hlk (cnz (-2) rfl) dX12_ask_51

set_option maxHeartbeats 4000000 in
set_option maxRecDepth 100000 in
theorem c_X12_leave (l : Launch) (cA : Nat → ClassId) (D : va_G) (N : Nat) (sx : Sx) (ad : Nat → Nat) (T : Knd) (A : Rfs) (nx : Nat) (I : Mem) (w0 : Nat) (a1 : Int) (a2 : Int) (a3 : Int) (ca1 : cn a1) (ca2 : cn a2) (ca3 : cn a3) (e : (Int × Mem)) (h : f_X12_leave T A w0 a1 a2 a3 I = some e) : CtI l yX12_leave cX12_leave 5 (some .int) 3 107 cA D N sx ad T A nx [rv ad w0, iv a1, iv a2, iv a3] I e.2 e.1 := by
  refine met_of (lv0 := [(0, rv ad w0), (1, iv a1), (2, iv a2), (3, iv a3)]) (by decide) (Nat.le_of_ble_eq_true rfl) rfl (fun p e0 s m args below meth c S0 hK hX hr hlk Q hQ => ?_)
  have hf : OK (f_X12_leave T A w0 a1 a2 a3 I) (fun z => z = e) := ⟨e, h, rfl⟩
  unfold f_X12_leave at hf
  obtain ⟨hw0, hf⟩ := ok_grd hf
  refine r_aload_n (pc := 0) S0 0 dX12_leave_0 rfl rfl ?_
  refine r_iconst (pc := 1) S0 dX12_leave_1 ?_
  refine r_putI (pc := 2) S0 hK fl_X12_89 rfl rfl (cnz 0 rfl) dX12_leave_2 hf (fun I1 hf => ?_)
  refine r_iload_n (pc := 5) S0 2 dX12_leave_5 rfl rfl ?_
  refine r_iconst (pc := 6) S0 dX12_leave_6 ?_
  refine thn_rule (P := fun v3 => cn v3 → G p l e0 (rmx 3 107) s m args below meth c 0 0 Q cA D N 5 ad T A nx 20 [(0, rv ad w0), (1, iv a1), (2, iv a2), (3, iv a3)] [iv v3] I1) hf (fun v3 hf c4 => ?_) (fun K2 hf => ?_)
  · refine r_istore (pc := 20) (lv' := [(4, iv v3), (0, rv ad w0), (1, iv a1), (2, iv a2), (3, iv a3)]) S0 dX12_leave_20 (by decide) rfl ?_
    refine r_aload_n (pc := 22) S0 1 dX12_leave_22 rfl rfl ?_
    refine r_iload_n (pc := 23) S0 2 dX12_leave_23 rfl rfl ?_
    refine r_i2l (pc := 24) S0 dX12_leave_24 ca1 ?_
    obtain ⟨e7, h8, hf⟩ := ok_bind hf
    refine r_cV_I (pc := 25) [jv a1] S0 hK hX mv_X12_270 (k_X12_isOfficial h8) (c_X12_isOfficial l cA D N sx ad T A nx I1 w0 a1 (cl_cn ca1) e7 h8) rfl rfl ⟨by decide, by decide⟩ (Nat.le_of_ble_eq_true rfl) ⟨Nat.le_refl _, Nat.le_refl _⟩ dX12_leave_25 (fun c9 => ?_)
    refine r_if_eq (pc := 28) (tgt := 61) S0 dX12_leave_28 (by decide) c9 hf (fun hf => ?_) (fun hf => ?_)
    · refine r_bipush (pc := 61) S0 dX12_leave_61 (by decide) ?_
      have hz := ok_some hf
      have hz : ((-2), I1) = e := hz
      subst hQ
      subst hz
      exact r_iret (pc := 63) S0 hr hlk (cnz (-2) rfl) dX12_leave_63
    · refine r_iload (pc := 31) S0 0 dX12_leave_31 rfl ?_
      refine thn_rule (P := fun v11 => G p l e0 (rmx 3 107) s m args below meth c 0 0 Q cA D N 5 ad T A nx 64 [(0, rv ad w0), (1, iv a1), (2, iv a2), (3, iv a3)] [] I1) hf (fun v11 hf => ?_) (fun K10 hf => ?_)
      · refine r_aload_n (pc := 64) S0 0 dX12_leave_64 rfl rfl ?_
        refine r_getR (pc := 65) S0 hK fl_X12_34 dX12_leave_65 hf (fun x18 hf => ?_)
        refine r_iconst (pc := 68) S0 dX12_leave_68 ?_
        refine r_iald (pc := 69) S0 hK dX12_leave_69 (cnz 5 rfl) hf (fun x19 c20 hf => ?_)
        refine r_if_le (pc := 70) (tgt := 76) S0 dX12_leave_70 (by decide) c20 hf (fun hf => ?_) (fun hf => ?_)
        · refine r_aload_n (pc := 76) S0 0 dX12_leave_76 rfl rfl ?_
          refine r_getR (pc := 77) S0 hK fl_X12_37 dX12_leave_77 hf (fun x21 hf => ?_)
          refine r_bipush (pc := 80) S0 dX12_leave_80 (by decide) ?_
          refine r_iload_n (pc := 82) S0 1 dX12_leave_82 rfl rfl ?_
          refine r_imul (pc := 83) S0 dX12_leave_83 ?_
          refine r_bipush (pc := 84) S0 dX12_leave_84 (by decide) ?_
          refine r_iadd (pc := 86) S0 dX12_leave_86 ?_
          refine r_iload_n (pc := 87) S0 2 dX12_leave_87 rfl rfl ?_
          refine r_iast (pc := 88) S0 hK dX12_leave_88 (cn_wrap _) ca2 hf (fun I22 hf => ?_)
          refine r_aload_n (pc := 89) S0 0 dX12_leave_89 rfl rfl ?_
          refine r_getR (pc := 90) S0 hK fl_X12_37 dX12_leave_90 hf (fun x23 hf => ?_)
          refine r_bipush (pc := 93) S0 dX12_leave_93 (by decide) ?_
          refine r_iload_n (pc := 95) S0 1 dX12_leave_95 rfl rfl ?_
          refine r_imul (pc := 96) S0 dX12_leave_96 ?_
          refine r_bipush (pc := 97) S0 dX12_leave_97 (by decide) ?_
          refine r_iadd (pc := 99) S0 dX12_leave_99 ?_
          refine r_iload_n (pc := 100) S0 3 dX12_leave_100 rfl rfl ?_
          refine r_iast (pc := 101) S0 hK dX12_leave_101 (cn_wrap _) ca3 hf (fun I24 hf => ?_)
          refine r_iconst (pc := 102) S0 dX12_leave_102 ?_
          have hz := ok_some hf
          have hz : (0, I24) = e := hz
          subst hQ
          subst hz
          exact r_iret (pc := 103) S0 hr hlk (cnz 0 rfl) dX12_leave_103
        · refine r_bipush (pc := 73) S0 dX12_leave_73 (by decide) ?_
          have hz := ok_some hf
          have hz : ((-5), I1) = e := hz
          subst hQ
          subst hz
          exact r_iret (pc := 75) S0 hr hlk (cnz (-5) rfl) dX12_leave_75
      · refine r_if_ne (pc := 33) (tgt := 64) S0 dX12_leave_33 (by decide) c4 hf (fun hf => ?_) (fun hf => ?_)
        · have hz := ok_some hf
          refine r_lv [1, 2, 3, 4] rfl ?_
          exact K10 () hz
        · refine r_iload_n (pc := 36) S0 3 dX12_leave_36 rfl rfl ?_
          refine r_i2l (pc := 37) S0 dX12_leave_37 ca2 ?_
          refine r_lconst (pc := 38) (v := 0) S0 dX12_leave_38 rfl ?_
          refine r_ldc2 (pc := 39) (z := 39) S0 kl_X12_486 dX12_leave_39 (by decide) ?_
          obtain ⟨e12, h13, hf⟩ := ok_bind hf
          refine r_cS_I (pc := 42) [jv a2, jv 0, jv 39] S0 hK hX ms_X12_94 (c_X12_in l cA D N sx ad T A nx I1 a2 0 39 (cl_cn ca2) (clz 0 rfl) (clz 39 rfl) e12 h13) rfl rfl ⟨by decide, by decide⟩ (Nat.le_of_ble_eq_true rfl) ⟨Nat.le_refl _, Nat.le_refl _⟩ dX12_leave_42 (fun c14 => ?_)
          refine r_if_eq (pc := 45) (tgt := 61) S0 dX12_leave_45 (by decide) c14 hf (fun hf => ?_) (fun hf => ?_)
          · refine r_bipush (pc := 61) S0 dX12_leave_61 (by decide) ?_
            have hz := ok_some hf
            have hz : ((-2), I1) = e := hz
            subst hQ
            subst hz
            exact r_iret (pc := 63) S0 hr hlk (cnz (-2) rfl) dX12_leave_63
          · refine r_iload_n (pc := 48) S0 4 dX12_leave_48 rfl rfl ?_
            refine r_i2l (pc := 49) S0 dX12_leave_49 ca3 ?_
            refine r_iload_n (pc := 50) S0 3 dX12_leave_50 rfl rfl ?_
            refine r_i2l (pc := 51) S0 dX12_leave_51 ca2 ?_
            refine r_ldc2 (pc := 52) (z := 39) S0 kl_X12_486 dX12_leave_52 (by decide) ?_
            obtain ⟨e15, h16, hf⟩ := ok_bind hf
            refine r_cS_I (pc := 55) [jv a3, jv a2, jv 39] S0 hK hX ms_X12_94 (c_X12_in l cA D N sx ad T A nx I1 a3 a2 39 (cl_cn ca3) (cl_cn ca2) (clz 39 rfl) e15 h16) rfl rfl ⟨by decide, by decide⟩ (Nat.le_of_ble_eq_true rfl) ⟨Nat.le_refl _, Nat.le_refl _⟩ dX12_leave_55 (fun c17 => ?_)
            refine r_if_ne (pc := 58) (tgt := 64) S0 dX12_leave_58 (by decide) c17 hf (fun hf => ?_) (fun hf => ?_)
            · have hz := ok_some hf
              refine r_lv [1, 2, 3, 4] rfl ?_
              exact K10 () hz
            · refine r_bipush (pc := 61) S0 dX12_leave_61 (by decide) ?_
              have hz := ok_some hf
              have hz : ((-2), I1) = e := hz
              subst hQ
              subst hz
              exact r_iret (pc := 63) S0 hr hlk (cnz (-2) rfl) dX12_leave_63
  · refine thn_rule (P := fun v6 => G p l e0 (rmx 3 107) s m args below meth c 0 0 Q cA D N 5 ad T A nx 19 [(0, rv ad w0), (1, iv a1), (2, iv a2), (3, iv a3)] [] I1) hf (fun v6 hf => ?_) (fun K5 hf => ?_)
    · refine r_iconst (pc := 19) S0 dX12_leave_19 ?_
      have hz := ok_some hf
      refine r_lv [0, 1, 2, 3] rfl ?_
      exact K2 0 hz (cnz 0 rfl)
    · refine r_icmp_ne (pc := 7) (tgt := 19) S0 dX12_leave_7 (by decide) ca2 (cnz (-1) rfl) hf (fun hf => ?_) (fun hf => ?_)
      · have hz := ok_some hf
        refine r_lv [0, 1, 2, 3] rfl ?_
        exact K5 () hz
      · refine r_iload_n (pc := 10) S0 3 dX12_leave_10 rfl rfl ?_
        refine r_iconst (pc := 11) S0 dX12_leave_11 ?_
        refine r_icmp_ne (pc := 12) (tgt := 19) S0 dX12_leave_12 (by decide) ca3 (cnz (-1) rfl) hf (fun hf => ?_) (fun hf => ?_)
        · have hz := ok_some hf
          refine r_lv [0, 1, 2, 3] rfl ?_
          exact K5 () hz
        · refine r_iconst (pc := 15) S0 dX12_leave_15 ?_
          refine r_goto (pc := 16) (tgt := 20) S0 dX12_leave_16 (by decide) ?_
          have hz := ok_some hf
          refine r_lv [0, 1, 2, 3] rfl ?_
          exact K2 1 hz (cnz 1 rfl)

set_option maxHeartbeats 4000000 in
set_option maxRecDepth 100000 in
theorem c_X12_wants (l : Launch) (cA : Nat → ClassId) (D : va_G) (N : Nat) (sx : Sx) (ad : Nat → Nat) (T : Knd) (A : Rfs) (nx : Nat) (I : Mem) (w0 : Nat) (a1 : Int) (ca1 : cn a1) (e : (Int × Mem)) (h : f_X12_wants T A w0 a1 I = some e) : CtI l yX12_wants cX12_wants 3 (some .int) 3 106 cA D N sx ad T A nx [rv ad w0, iv a1] I e.2 e.1 := by
  refine met_of (lv0 := [(0, rv ad w0), (1, iv a1)]) (by decide) (Nat.le_of_ble_eq_true rfl) rfl (fun p e0 s m args below meth c S0 hK hX hr hlk Q hQ => ?_)
  have hf : OK (f_X12_wants T A w0 a1 I) (fun z => z = e) := ⟨e, h, rfl⟩
  unfold f_X12_wants at hf
  obtain ⟨hw0, hf⟩ := ok_grd hf
  refine r_aload_n (pc := 0) S0 0 dX12_wants_0 rfl rfl ?_
  refine r_iconst (pc := 1) S0 dX12_wants_1 ?_
  refine r_putI (pc := 2) S0 hK fl_X12_89 rfl rfl (cnz 0 rfl) dX12_wants_2 hf (fun I1 hf => ?_)
  refine r_aload_n (pc := 5) S0 0 dX12_wants_5 rfl rfl ?_
  refine r_iload_n (pc := 6) S0 1 dX12_wants_6 rfl rfl ?_
  obtain ⟨e2, h3, hf⟩ := ok_bind hf
  refine r_cV_I (pc := 7) [iv a1] S0 hK hX mv_X12_409 (k_X12_isSet h3) (c_X12_isSet l cA D N sx ad T A nx I1 w0 a1 ca1 e2 h3) rfl rfl ⟨by decide, by decide⟩ (Nat.le_of_ble_eq_true rfl) ⟨Nat.le_refl _, Nat.le_refl _⟩ dX12_wants_7 (fun c4 => ?_)
  refine r_if_ne (pc := 10) (tgt := 16) S0 dX12_wants_10 (by decide) c4 hf (fun hf => ?_) (fun hf => ?_)
  · refine r_aload_n (pc := 16) S0 0 dX12_wants_16 rfl rfl ?_
    refine r_getR (pc := 17) S0 hK fl_X12_34 dX12_wants_17 hf (fun x5 hf => ?_)
    refine r_iconst (pc := 20) S0 dX12_wants_20 ?_
    refine r_iald (pc := 21) S0 hK dX12_wants_21 (cnz 4 rfl) hf (fun x6 c7 hf => ?_)
    refine r_istore_n (pc := 22) (lv' := [(2, iv x6), (0, rv ad w0), (1, iv a1)]) S0 dX12_wants_22 rfl (by decide) rfl ?_
    refine r_aload_n (pc := 23) S0 1 dX12_wants_23 rfl rfl ?_
    refine r_getR (pc := 24) S0 hK fl_X12_34 dX12_wants_24 hf (fun x8 hf => ?_)
    refine r_iconst (pc := 27) S0 dX12_wants_27 ?_
    refine r_iload_n (pc := 28) S0 2 dX12_wants_28 rfl rfl ?_
    refine r_iast (pc := 29) S0 hK dX12_wants_29 (cnz 4 rfl) ca1 hf (fun I9 hf => ?_)
    refine r_iload_n (pc := 30) S0 0 dX12_wants_30 rfl rfl ?_
    have hz := ok_some hf
    have hz : (x6, I9) = e := hz
    subst hQ
    subst hz
    exact r_iret (pc := 31) S0 hr hlk c7 dX12_wants_31
  · refine r_bipush (pc := 13) S0 dX12_wants_13 (by decide) ?_
    have hz := ok_some hf
    have hz : ((-2), I1) = e := hz
    subst hQ
    subst hz
    exact r_iret (pc := 15) S0 hr hlk (cnz (-2) rfl) dX12_wants_15

set_option maxHeartbeats 4000000 in
set_option maxRecDepth 100000 in
theorem c_X12_count (l : Launch) (cA : Nat → ClassId) (D : va_G) (N : Nat) (sx : Sx) (ad : Nat → Nat) (T : Knd) (A : Rfs) (nx : Nat) (I : Mem) (w0 : Nat) (a1 : Int) (ca1 : cn a1) (e : (Int × Mem)) (h : f_X12_count T A w0 a1 I = some e) : CtI l yX12_count cX12_count 4 (some .int) 2 82 cA D N sx ad T A nx [rv ad w0, iv a1] I e.2 e.1 := by
  refine met_of (lv0 := [(0, rv ad w0), (1, iv a1)]) (by decide) (Nat.le_of_ble_eq_true rfl) rfl (fun p e0 s m args below meth c S0 hK hX hr hlk Q hQ => ?_)
  have hf : OK (f_X12_count T A w0 a1 I) (fun z => z = e) := ⟨e, h, rfl⟩
  unfold f_X12_count at hf
  obtain ⟨hw0, hf⟩ := ok_grd hf
  refine r_aload_n (pc := 0) S0 0 dX12_count_0 rfl rfl ?_
  refine r_iconst (pc := 1) S0 dX12_count_1 ?_
  refine r_putI (pc := 2) S0 hK fl_X12_89 rfl rfl (cnz 0 rfl) dX12_count_2 hf (fun I1 hf => ?_)
  refine r_iconst (pc := 5) S0 dX12_count_5 ?_
  refine r_istore_n (pc := 6) (lv' := [(2, iv 0), (0, rv ad w0), (1, iv a1)]) S0 dX12_count_6 rfl (by decide) rfl ?_
  refine r_iload_n (pc := 7) S0 2 dX12_count_7 rfl rfl ?_
  refine r_tsw (pc := 8) 0 60 S0 0 dX12_count_8 ca1 rfl (by decide) rfl (by decide) hf (fun hf => ?_) (fun h5 hf => ?_)
  · refine r_aload_n (pc := 60) S0 1 dX12_count_60 rfl rfl ?_
    refine r_getR (pc := 61) S0 hK fl_X12_34 dX12_count_61 hf (fun x2 hf => ?_)
    refine r_iconst (pc := 64) S0 dX12_count_64 ?_
    refine r_iald (pc := 65) S0 hK dX12_count_65 (cnz 3 rfl) hf (fun x3 c4 hf => ?_)
    have hz := ok_some hf
    have hz : (x3, I1) = e := hz
    subst hQ
    subst hz
    exact r_iret (pc := 66) S0 hr hlk c4 dX12_count_66
  refine r_tsw (pc := 8) 1 67 S0 1 dX12_count_8 ca1 rfl (by decide) rfl (by decide) hf (fun hf => ?_) (fun h9 hf => ?_)
  · refine r_aload_n (pc := 67) S0 1 dX12_count_67 rfl rfl ?_
    refine r_getR (pc := 68) S0 hK fl_X12_34 dX12_count_68 hf (fun x6 hf => ?_)
    refine r_iconst (pc := 71) S0 dX12_count_71 ?_
    refine r_iald (pc := 72) S0 hK dX12_count_72 (cnz 0 rfl) hf (fun x7 c8 hf => ?_)
    have hz := ok_some hf
    have hz : (x7, I1) = e := hz
    subst hQ
    subst hz
    exact r_iret (pc := 73) S0 hr hlk c8 dX12_count_73
  refine r_tsw (pc := 8) 2 74 S0 2 dX12_count_8 ca1 rfl (by decide) rfl (by decide) hf (fun hf => ?_) (fun h23 hf => ?_)
  · refine r_iconst (pc := 74) S0 dX12_count_74 ?_
    refine r_istore_n (pc := 75) (lv' := [(3, iv 0), (2, iv 0), (0, rv ad w0), (1, iv a1)]) S0 dX12_count_75 rfl (by decide) rfl ?_
    refine r_lv [2, 1, 0] rfl ?_
    refine it_ind (P := fun s11 => cn s11.1 → cn s11.2 → G p l e0 (rmx 2 82) s m args below meth c 0 0 Q cA D N 4 ad T A nx 76 [(0, rv ad w0), (2, iv s11.1), (3, iv s11.2)] [] I1) (fun n0 s11 ih10 hf c12 c13 => ?_) FU (0, 0) hf (cnz 0 rfl) (cnz 0 rfl)
    refine r_iload_n (pc := 76) S0 2 dX12_count_76 rfl rfl ?_
    refine r_aload_n (pc := 77) S0 0 dX12_count_77 rfl rfl ?_
    refine r_getR (pc := 78) S0 hK fl_X12_34 dX12_count_78 hf (fun x14 hf => ?_)
    refine r_iconst (pc := 81) S0 dX12_count_81 ?_
    refine r_iald (pc := 82) S0 hK dX12_count_82 (cnz 3 rfl) hf (fun x15 c16 hf => ?_)
    refine r_icmp_ge (pc := 83) (tgt := 104) S0 dX12_count_83 (by decide) c13 c16 hf (fun hf => ?_) (fun hf => ?_)
    · refine r_iload_n (pc := 104) S0 1 dX12_count_104 rfl rfl ?_
      have hz := ok_some hf
      have hz : (s11.1, I1) = e := hz
      subst hQ
      subst hz
      exact r_iret (pc := 105) S0 hr hlk c12 dX12_count_105
    · refine r_iload_n (pc := 86) S0 1 dX12_count_86 rfl rfl ?_
      refine r_aload_n (pc := 87) S0 0 dX12_count_87 rfl rfl ?_
      refine r_getR (pc := 88) S0 hK fl_X12_40 dX12_count_88 hf (fun x17 hf => ?_)
      refine r_iload_n (pc := 91) S0 2 dX12_count_91 rfl rfl ?_
      refine r_iald (pc := 92) S0 hK dX12_count_92 c13 hf (fun x18 c19 hf => ?_)
      obtain ⟨e20, h21, hf⟩ := ok_bind hf
      refine r_cS_I (pc := 93) [iv x18] S0 hK hX ms_X12_426 (c_X12_sizeOf l cA D N sx ad T A nx I1 x18 c19 e20 h21) rfl rfl ⟨by decide, by decide⟩ (Nat.le_of_ble_eq_true rfl) ⟨Nat.le_refl _, Nat.le_refl _⟩ dX12_count_93 (fun c22 => ?_)
      refine r_iadd (pc := 96) S0 dX12_count_96 ?_
      refine r_istore_n (pc := 97) (lv' := [(2, iv (ia s11.1 e20)), (0, rv ad w0), (3, iv s11.2)]) S0 dX12_count_97 rfl (by decide) rfl ?_
      refine r_iinc (pc := 98) (lv' := [(3, iv (ia s11.2 1)), (2, iv (ia s11.1 e20)), (0, rv ad w0)]) S0 2 dX12_count_98 rfl (by decide) rfl ?_
      refine r_goto (pc := 101) (tgt := 76) S0 dX12_count_101 (by decide) ?_
      have hz := ok_some hf
      refine r_lv [2, 1, 0] rfl ?_
      exact ih10 (ia s11.1 e20, ia s11.2 1) hz (cn_wrap _) (cn_wrap _)
  refine r_tsw (pc := 8) 3 106 S0 3 dX12_count_8 ca1 rfl (by decide) rfl (by decide) hf (fun hf => ?_) (fun h37 hf => ?_)
  · refine r_iconst (pc := 106) S0 dX12_count_106 ?_
    refine r_istore_n (pc := 107) (lv' := [(3, iv 0), (2, iv 0), (0, rv ad w0), (1, iv a1)]) S0 dX12_count_107 rfl (by decide) rfl ?_
    refine r_lv [2, 1, 0] rfl ?_
    refine it_ind (P := fun s25 => cn s25.1 → cn s25.2 → G p l e0 (rmx 2 82) s m args below meth c 0 0 Q cA D N 4 ad T A nx 108 [(0, rv ad w0), (2, iv s25.1), (3, iv s25.2)] [] I1) (fun n0 s25 ih24 hf c26 c27 => ?_) FU (0, 0) hf (cnz 0 rfl) (cnz 0 rfl)
    refine r_iload_n (pc := 108) S0 2 dX12_count_108 rfl rfl ?_
    refine r_aload_n (pc := 109) S0 0 dX12_count_109 rfl rfl ?_
    refine r_getR (pc := 110) S0 hK fl_X12_34 dX12_count_110 hf (fun x28 hf => ?_)
    refine r_iconst (pc := 113) S0 dX12_count_113 ?_
    refine r_iald (pc := 114) S0 hK dX12_count_114 (cnz 3 rfl) hf (fun x29 c30 hf => ?_)
    refine r_icmp_ge (pc := 115) (tgt := 136) S0 dX12_count_115 (by decide) c27 c30 hf (fun hf => ?_) (fun hf => ?_)
    · refine r_iload_n (pc := 136) S0 1 dX12_count_136 rfl rfl ?_
      have hz := ok_some hf
      have hz : (s25.1, I1) = e := hz
      subst hQ
      subst hz
      exact r_iret (pc := 137) S0 hr hlk c26 dX12_count_137
    · refine r_iload_n (pc := 118) S0 1 dX12_count_118 rfl rfl ?_
      refine r_aload_n (pc := 119) S0 0 dX12_count_119 rfl rfl ?_
      refine r_getR (pc := 120) S0 hK fl_X12_43 dX12_count_120 hf (fun x31 hf => ?_)
      refine r_iload_n (pc := 123) S0 2 dX12_count_123 rfl rfl ?_
      refine r_iald (pc := 124) S0 hK dX12_count_124 c27 hf (fun x32 c33 hf => ?_)
      obtain ⟨e34, h35, hf⟩ := ok_bind hf
      refine r_cS_I (pc := 125) [iv x32] S0 hK hX ms_X12_426 (c_X12_sizeOf l cA D N sx ad T A nx I1 x32 c33 e34 h35) rfl rfl ⟨by decide, by decide⟩ (Nat.le_of_ble_eq_true rfl) ⟨Nat.le_refl _, Nat.le_refl _⟩ dX12_count_125 (fun c36 => ?_)
      refine r_iadd (pc := 128) S0 dX12_count_128 ?_
      refine r_istore_n (pc := 129) (lv' := [(2, iv (ia s25.1 e34)), (0, rv ad w0), (3, iv s25.2)]) S0 dX12_count_129 rfl (by decide) rfl ?_
      refine r_iinc (pc := 130) (lv' := [(3, iv (ia s25.2 1)), (2, iv (ia s25.1 e34)), (0, rv ad w0)]) S0 2 dX12_count_130 rfl (by decide) rfl ?_
      refine r_goto (pc := 133) (tgt := 108) S0 dX12_count_133 (by decide) ?_
      have hz := ok_some hf
      refine r_lv [2, 1, 0] rfl ?_
      exact ih24 (ia s25.1 e34, ia s25.2 1) hz (cn_wrap _) (cn_wrap _)
  refine r_tsw (pc := 8) 4 138 S0 4 dX12_count_8 ca1 rfl (by decide) rfl (by decide) hf (fun hf => ?_) (fun h41 hf => ?_)
  · refine r_aload_n (pc := 138) S0 1 dX12_count_138 rfl rfl ?_
    refine r_getR (pc := 139) S0 hK fl_X12_31 dX12_count_139 hf (fun x38 hf => ?_)
    refine r_iconst (pc := 142) S0 dX12_count_142 ?_
    refine r_iald (pc := 143) S0 hK dX12_count_143 (cnz 0 rfl) hf (fun x39 c40 hf => ?_)
    have hz := ok_some hf
    have hz : (x39, I1) = e := hz
    subst hQ
    subst hz
    exact r_iret (pc := 144) S0 hr hlk c40 dX12_count_144
  refine r_tsw (pc := 8) 5 145 S0 5 dX12_count_8 ca1 rfl (by decide) rfl (by decide) hf (fun hf => ?_) (fun h44 hf => ?_)
  · refine r_aload_n (pc := 145) S0 1 dX12_count_145 rfl rfl ?_
    refine r_getI (pc := 146) S0 hK fl_X12_106 dX12_count_146 hf (fun x42 c43 hf => ?_)
    have hz := ok_some hf
    have hz : (x42, I1) = e := hz
    subst hQ
    subst hz
    exact r_iret (pc := 149) S0 hr hlk c43 dX12_count_149
  refine r_tsw (pc := 8) 6 150 S0 6 dX12_count_8 ca1 rfl (by decide) rfl (by decide) hf (fun hf => ?_) (fun h48 hf => ?_)
  · refine r_aload_n (pc := 150) S0 1 dX12_count_150 rfl rfl ?_
    refine r_getR (pc := 151) S0 hK fl_X12_34 dX12_count_151 hf (fun x45 hf => ?_)
    refine r_iconst (pc := 154) S0 dX12_count_154 ?_
    refine r_iald (pc := 155) S0 hK dX12_count_155 (cnz 5 rfl) hf (fun x46 c47 hf => ?_)
    have hz := ok_some hf
    have hz : (x46, I1) = e := hz
    subst hQ
    subst hz
    exact r_iret (pc := 156) S0 hr hlk c47 dX12_count_156
  refine r_tsw (pc := 8) 7 157 S0 7 dX12_count_8 ca1 rfl (by decide) rfl (by decide) hf (fun hf => ?_) (fun h52 hf => ?_)
  · refine r_aload_n (pc := 157) S0 1 dX12_count_157 rfl rfl ?_
    refine r_getR (pc := 158) S0 hK fl_X12_34 dX12_count_158 hf (fun x49 hf => ?_)
    refine r_iconst (pc := 161) S0 dX12_count_161 ?_
    refine r_iald (pc := 162) S0 hK dX12_count_162 (cnz 2 rfl) hf (fun x50 c51 hf => ?_)
    have hz := ok_some hf
    have hz : (x50, I1) = e := hz
    subst hQ
    subst hz
    exact r_iret (pc := 163) S0 hr hlk c51 dX12_count_163
  refine r_tsw (pc := 8) 8 164 S0 8 dX12_count_8 ca1 rfl (by decide) rfl (by decide) hf (fun hf => ?_) (fun h60 hf => ?_)
  · refine r_iconst (pc := 164) S0 dX12_count_164 ?_
    refine r_istore_n (pc := 165) (lv' := [(3, iv 0), (2, iv 0), (0, rv ad w0), (1, iv a1)]) S0 dX12_count_165 rfl (by decide) rfl ?_
    refine r_lv [2, 1, 0] rfl ?_
    refine it_ind (P := fun s54 => cn s54.1 → cn s54.2 → G p l e0 (rmx 2 82) s m args below meth c 0 0 Q cA D N 4 ad T A nx 166 [(0, rv ad w0), (2, iv s54.1), (3, iv s54.2)] [] I1) (fun n0 s54 ih53 hf c55 c56 => ?_) FU (0, 0) hf (cnz 0 rfl) (cnz 0 rfl)
    refine r_iload_n (pc := 166) S0 2 dX12_count_166 rfl rfl ?_
    refine r_iconst (pc := 167) S0 dX12_count_167 ?_
    refine r_icmp_ge (pc := 168) (tgt := 195) S0 dX12_count_168 (by decide) c56 (cnz 4 rfl) hf (fun hf => ?_) (fun hf => ?_)
    · refine r_iload_n (pc := 195) S0 1 dX12_count_195 rfl rfl ?_
      have hz := ok_some hf
      have hz : (s54.1, I1) = e := hz
      subst hQ
      subst hz
      exact r_iret (pc := 196) S0 hr hlk c55 dX12_count_196
    · refine r_iload_n (pc := 171) S0 1 dX12_count_171 rfl rfl ?_
      refine r_aload_n (pc := 172) S0 0 dX12_count_172 rfl rfl ?_
      refine r_getR (pc := 173) S0 hK fl_X12_7 dX12_count_173 hf (fun x57 hf => ?_)
      refine r_iload_n (pc := 176) S0 2 dX12_count_176 rfl rfl ?_
      refine r_iald (pc := 177) S0 hK dX12_count_177 c56 hf (fun x58 c59 hf => ?_)
      refine r_iconst (pc := 178) S0 dX12_count_178 ?_
      refine r_icmp_ne (pc := 179) (tgt := 186) S0 dX12_count_179 (by decide) c59 (cnz (-1) rfl) hf (fun hf => ?_) (fun hf => ?_)
      · refine r_iconst (pc := 186) S0 dX12_count_186 ?_
        refine r_iadd (pc := 187) S0 dX12_count_187 ?_
        refine r_istore_n (pc := 188) (lv' := [(2, iv (ia s54.1 1)), (0, rv ad w0), (3, iv s54.2)]) S0 dX12_count_188 rfl (by decide) rfl ?_
        refine r_iinc (pc := 189) (lv' := [(3, iv (ia s54.2 1)), (2, iv (ia s54.1 1)), (0, rv ad w0)]) S0 2 dX12_count_189 rfl (by decide) rfl ?_
        refine r_goto (pc := 192) (tgt := 166) S0 dX12_count_192 (by decide) ?_
        have hz := ok_some hf
        refine r_lv [2, 1, 0] rfl ?_
        exact ih53 (ia s54.1 1, ia s54.2 1) hz (cn_wrap _) (cn_wrap _)
      · refine r_iconst (pc := 182) S0 dX12_count_182 ?_
        refine r_goto (pc := 183) (tgt := 187) S0 dX12_count_183 (by decide) ?_
        refine r_iadd (pc := 187) S0 dX12_count_187 ?_
        refine r_istore_n (pc := 188) (lv' := [(2, iv (ia s54.1 0)), (0, rv ad w0), (3, iv s54.2)]) S0 dX12_count_188 rfl (by decide) rfl ?_
        refine r_iinc (pc := 189) (lv' := [(3, iv (ia s54.2 1)), (2, iv (ia s54.1 0)), (0, rv ad w0)]) S0 2 dX12_count_189 rfl (by decide) rfl ?_
        refine r_goto (pc := 192) (tgt := 166) S0 dX12_count_192 (by decide) ?_
        have hz := ok_some hf
        refine r_lv [2, 1, 0] rfl ?_
        exact ih53 (ia s54.1 0, ia s54.2 1) hz (cn_wrap _) (cn_wrap _)
  refine r_tswD (pc := 8) 197 S0 dX12_count_8 ca1 (by omega) (by decide) ?_
  refine r_iconst (pc := 197) S0 dX12_count_197 ?_
  have hz := ok_some hf
  have hz : ((-1), I1) = e := hz
  subst hQ
  subst hz
  exact r_iret (pc := 198) S0 hr hlk (cnz (-1) rfl) dX12_count_198

set_option maxHeartbeats 4000000 in
set_option maxRecDepth 100000 in
theorem c_X12_keep (l : Launch) (cA : Nat → ClassId) (D : va_G) (N : Nat) (sx : Sx) (ad : Nat → Nat) (T : Knd) (A : Rfs) (nx : Nat) (I : Mem) (w0 : Nat) (a1 : Int) (ca1 : cn a1) (e : (Int × Mem)) (h : f_X12_keep T A w0 a1 I = some e) : CtI l yX12_keep cX12_keep 2 (some .int) 3 106 cA D N sx ad T A nx [rv ad w0, iv a1] I e.2 e.1 := by
  refine met_of (lv0 := [(0, rv ad w0), (1, iv a1)]) (by decide) (Nat.le_of_ble_eq_true rfl) rfl (fun p e0 s m args below meth c S0 hK hX hr hlk Q hQ => ?_)
  have hf : OK (f_X12_keep T A w0 a1 I) (fun z => z = e) := ⟨e, h, rfl⟩
  unfold f_X12_keep at hf
  obtain ⟨hw0, hf⟩ := ok_grd hf
  refine r_aload_n (pc := 0) S0 0 dX12_keep_0 rfl rfl ?_
  refine r_iconst (pc := 1) S0 dX12_keep_1 ?_
  refine r_putI (pc := 2) S0 hK fl_X12_89 rfl rfl (cnz 0 rfl) dX12_keep_2 hf (fun I1 hf => ?_)
  refine r_iload_n (pc := 5) S0 1 dX12_keep_5 rfl rfl ?_
  refine r_i2l (pc := 6) S0 dX12_keep_6 ca1 ?_
  refine r_lconst (pc := 7) (v := 0) S0 dX12_keep_7 rfl ?_
  refine r_ldc2 (pc := 8) (z := 2) S0 kl_X12_488 dX12_keep_8 (by decide) ?_
  obtain ⟨e2, h3, hf⟩ := ok_bind hf
  refine r_cS_I (pc := 11) [jv a1, jv 0, jv 2] S0 hK hX ms_X12_94 (c_X12_in l cA D N sx ad T A nx I1 a1 0 2 (cl_cn ca1) (clz 0 rfl) (clz 2 rfl) e2 h3) rfl rfl ⟨by decide, by decide⟩ (Nat.le_of_ble_eq_true rfl) ⟨Nat.le_refl _, Nat.le_refl _⟩ dX12_keep_11 (fun c4 => ?_)
  refine r_if_ne (pc := 14) (tgt := 20) S0 dX12_keep_14 (by decide) c4 hf (fun hf => ?_) (fun hf => ?_)
  · refine r_aload_n (pc := 20) S0 0 dX12_keep_20 rfl rfl ?_
    refine r_iconst (pc := 21) S0 dX12_keep_21 ?_
    refine r_iconst (pc := 22) S0 dX12_keep_22 ?_
    refine r_iload_n (pc := 23) S0 1 dX12_keep_23 rfl rfl ?_
    refine r_iadd (pc := 24) S0 dX12_keep_24 ?_
    obtain ⟨e5, h6, hf⟩ := ok_bind hf
    refine r_cV_V (pc := 25) [iv 0, iv (ia 1 a1)] S0 hK hX mv_X12_258 (k_X12_copyOffice h6) (c_X12_copyOffice l cA D N sx ad T A nx I1 w0 0 (ia 1 a1) (cnz 0 rfl) (cn_wrap _) e5 h6) rfl rfl ⟨by decide, by decide⟩ (Nat.le_of_ble_eq_true rfl) ⟨Nat.le_refl _, Nat.le_refl _⟩ dX12_keep_25 ?_
    refine r_aload_n (pc := 28) S0 0 dX12_keep_28 rfl rfl ?_
    refine r_getR (pc := 29) S0 hK fl_X12_52 dX12_keep_29 hf (fun x7 hf => ?_)
    refine r_iload_n (pc := 32) S0 1 dX12_keep_32 rfl rfl ?_
    refine r_iconst (pc := 33) S0 dX12_keep_33 ?_
    refine r_zast (pc := 34) S0 hK dX12_keep_34 ca1 (cnz 1 rfl) hf (fun I8 hf => ?_)
    refine r_iconst (pc := 35) S0 dX12_keep_35 ?_
    have hz := ok_some hf
    have hz : (0, I8) = e := hz
    subst hQ
    subst hz
    exact r_iret (pc := 36) S0 hr hlk (cnz 0 rfl) dX12_keep_36
  · refine r_bipush (pc := 17) S0 dX12_keep_17 (by decide) ?_
    have hz := ok_some hf
    have hz : ((-2), I1) = e := hz
    subst hQ
    subst hz
    exact r_iret (pc := 19) S0 hr hlk (cnz (-2) rfl) dX12_keep_19

set_option maxHeartbeats 4000000 in
set_option maxRecDepth 100000 in
theorem c_X12_back (l : Launch) (cA : Nat → ClassId) (D : va_G) (N : Nat) (sx : Sx) (ad : Nat → Nat) (T : Knd) (A : Rfs) (nx : Nat) (I : Mem) (w0 : Nat) (a1 : Int) (ca1 : cn a1) (e : (Int × Mem)) (h : f_X12_back T A w0 a1 I = some e) : CtI l yX12_back cX12_back 2 (some .int) 3 106 cA D N sx ad T A nx [rv ad w0, iv a1] I e.2 e.1 := by
  refine met_of (lv0 := [(0, rv ad w0), (1, iv a1)]) (by decide) (Nat.le_of_ble_eq_true rfl) rfl (fun p e0 s m args below meth c S0 hK hX hr hlk Q hQ => ?_)
  have hf : OK (f_X12_back T A w0 a1 I) (fun z => z = e) := ⟨e, h, rfl⟩
  unfold f_X12_back at hf
  obtain ⟨hw0, hf⟩ := ok_grd hf
  refine r_aload_n (pc := 0) S0 0 dX12_back_0 rfl rfl ?_
  refine r_iconst (pc := 1) S0 dX12_back_1 ?_
  refine r_putI (pc := 2) S0 hK fl_X12_89 rfl rfl (cnz 0 rfl) dX12_back_2 hf (fun I1 hf => ?_)
  refine r_iload_n (pc := 5) S0 1 dX12_back_5 rfl rfl ?_
  refine r_i2l (pc := 6) S0 dX12_back_6 ca1 ?_
  refine r_lconst (pc := 7) (v := 0) S0 dX12_back_7 rfl ?_
  refine r_ldc2 (pc := 8) (z := 2) S0 kl_X12_488 dX12_back_8 (by decide) ?_
  obtain ⟨e2, h3, hf⟩ := ok_bind hf
  refine r_cS_I (pc := 11) [jv a1, jv 0, jv 2] S0 hK hX ms_X12_94 (c_X12_in l cA D N sx ad T A nx I1 a1 0 2 (cl_cn ca1) (clz 0 rfl) (clz 2 rfl) e2 h3) rfl rfl ⟨by decide, by decide⟩ (Nat.le_of_ble_eq_true rfl) ⟨Nat.le_refl _, Nat.le_refl _⟩ dX12_back_11 (fun c4 => ?_)
  refine r_if_ne (pc := 14) (tgt := 20) S0 dX12_back_14 (by decide) c4 hf (fun hf => ?_) (fun hf => ?_)
  · refine r_aload_n (pc := 20) S0 0 dX12_back_20 rfl rfl ?_
    refine r_getR (pc := 21) S0 hK fl_X12_52 dX12_back_21 hf (fun x5 hf => ?_)
    refine r_iload_n (pc := 24) S0 1 dX12_back_24 rfl rfl ?_
    refine r_zald (pc := 25) S0 hK dX12_back_25 ca1 hf (fun x6 c7 hf => ?_)
    refine r_if_ne (pc := 26) (tgt := 32) S0 dX12_back_26 (by decide) c7 hf (fun hf => ?_) (fun hf => ?_)
    · refine r_aload_n (pc := 32) S0 0 dX12_back_32 rfl rfl ?_
      refine r_iconst (pc := 33) S0 dX12_back_33 ?_
      refine r_iload_n (pc := 34) S0 1 dX12_back_34 rfl rfl ?_
      refine r_iadd (pc := 35) S0 dX12_back_35 ?_
      refine r_iconst (pc := 36) S0 dX12_back_36 ?_
      obtain ⟨e8, h9, hf⟩ := ok_bind hf
      refine r_cV_V (pc := 37) [iv (ia 1 a1), iv 0] S0 hK hX mv_X12_258 (k_X12_copyOffice h9) (c_X12_copyOffice l cA D N sx ad T A nx I1 w0 (ia 1 a1) 0 (cn_wrap _) (cnz 0 rfl) e8 h9) rfl rfl ⟨by decide, by decide⟩ (Nat.le_of_ble_eq_true rfl) ⟨Nat.le_refl _, Nat.le_refl _⟩ dX12_back_37 ?_
      refine r_iconst (pc := 40) S0 dX12_back_40 ?_
      have hz := ok_some hf
      have hz : (0, e8) = e := hz
      subst hQ
      subst hz
      exact r_iret (pc := 41) S0 hr hlk (cnz 0 rfl) dX12_back_41
    · refine r_bipush (pc := 29) S0 dX12_back_29 (by decide) ?_
      have hz := ok_some hf
      have hz : ((-6), I1) = e := hz
      subst hQ
      subst hz
      exact r_iret (pc := 31) S0 hr hlk (cnz (-6) rfl) dX12_back_31
  · refine r_bipush (pc := 17) S0 dX12_back_17 (by decide) ?_
    have hz := ok_some hf
    have hz : ((-2), I1) = e := hz
    subst hQ
    subst hz
    exact r_iret (pc := 19) S0 hr hlk (cnz (-2) rfl) dX12_back_19
