/-! Contracts, laid by wip/gen/gen.py. -/
set_option maxHeartbeats 4000000 in
set_option maxRecDepth 100000 in
theorem c_X12_heldIn (l : Launch) (cA : Nat → ClassId) (D : va_G) (N : Nat) (sx : Sx) (ad : Nat → Nat) (T : Knd) (A : Rfs) (nx : Nat) (I : Mem) (w0 : Nat) (a1 : Int) (ca1 : cn a1) (e : Int) (h : f_X12_heldIn T A w0 a1 I = some e) : CtI l yX12_heldIn cX12_heldIn 4 (some .int) 2 82 cA D N sx ad T A nx [rv ad w0, iv a1] I I e := by
  refine met_of (lv0 := [(0, rv ad w0), (1, iv a1)]) (by decide) (Nat.le_of_ble_eq_true rfl) rfl (fun p e0 s m args below meth c S0 hK hX hr hlk Q hQ => ?_)
  have hf : OK (f_X12_heldIn T A w0 a1 I) (fun z => z = e) := ⟨e, h, rfl⟩
  unfold f_X12_heldIn at hf
  obtain ⟨hw0, hf⟩ := ok_grd hf
  refine r_iconst (pc := 0) S0 dX12_heldIn_0 ?_
  refine r_istore_n (pc := 1) (lv' := [(2, iv 0), (0, rv ad w0), (1, iv a1)]) S0 dX12_heldIn_1 rfl (by decide) rfl ?_
  refine r_iconst (pc := 2) S0 dX12_heldIn_2 ?_
  refine r_istore_n (pc := 3) (lv' := [(3, iv 0), (2, iv 0), (0, rv ad w0), (1, iv a1)]) S0 dX12_heldIn_3 rfl (by decide) rfl ?_
  refine r_lv [2, 3, 1, 0] rfl ?_
  refine it_ind (P := fun s2 => cn s2.1 → cn s2.2 → G p l e0 (rmx 2 82) s m args below meth c 0 0 Q cA D N 4 ad T A nx 4 [(0, rv ad w0), (1, iv a1), (2, iv s2.1), (3, iv s2.2)] [] I) (fun n0 s2 ih1 hf c3 c4 => ?_) FU (0, 0) hf (cnz 0 rfl) (cnz 0 rfl)
  refine r_iload_n (pc := 4) S0 3 dX12_heldIn_4 rfl rfl ?_
  refine r_aload_n (pc := 5) S0 0 dX12_heldIn_5 rfl rfl ?_
  refine r_getR (pc := 6) S0 hK fl_X12_34 dX12_heldIn_6 hf (fun x5 hf => ?_)
  refine r_iconst (pc := 9) S0 dX12_heldIn_9 ?_
  refine r_iald (pc := 10) S0 hK dX12_heldIn_10 (cnz 3 rfl) hf (fun x6 c7 hf => ?_)
  refine r_icmp_ge (pc := 11) (tgt := 39) S0 dX12_heldIn_11 (by decide) c4 c7 hf (fun hf => ?_) (fun hf => ?_)
  · refine r_iload_n (pc := 39) S0 2 dX12_heldIn_39 rfl rfl ?_
    have hz := ok_some hf
    have hz : s2.1 = e := hz
    subst hQ
    subst hz
    exact r_iret (pc := 40) S0 hr hlk c3 dX12_heldIn_40
  · refine r_iload_n (pc := 14) S0 2 dX12_heldIn_14 rfl rfl ?_
    refine r_aload_n (pc := 15) S0 0 dX12_heldIn_15 rfl rfl ?_
    refine r_iload_n (pc := 16) S0 3 dX12_heldIn_16 rfl rfl ?_
    refine r_iload_n (pc := 17) S0 1 dX12_heldIn_17 rfl rfl ?_
    obtain ⟨e8, h9, hf⟩ := ok_bind hf
    refine r_cV_I (pc := 18) [iv s2.2, iv a1] S0 hK hX mv_X12_312 (k_X12_isHeld h9) (c_X12_isHeld l cA D N sx ad T A nx I w0 s2.2 a1 c4 ca1 e8 h9) rfl rfl ⟨by decide, by decide⟩ (Nat.le_of_ble_eq_true rfl) ⟨Nat.le_refl _, Nat.le_refl _⟩ dX12_heldIn_18 (fun c10 => ?_)
    refine thn_rule (P := fun v12 => cn v12 → G p l e0 (rmx 2 82) s m args below meth c 0 0 Q cA D N 4 ad T A nx 31 [(0, rv ad w0), (1, iv a1), (3, iv s2.2)] [iv v12, iv s2.1] I) hf (fun v12 hf c13 => ?_) (fun K11 hf => ?_)
    · refine r_ior (pc := 31) S0 dX12_heldIn_31 ?_
      refine r_istore_n (pc := 32) (lv' := [(2, iv (ior s2.1 v12)), (0, rv ad w0), (1, iv a1), (3, iv s2.2)]) S0 dX12_heldIn_32 rfl (by decide) rfl ?_
      refine r_iinc (pc := 33) (lv' := [(3, iv (ia s2.2 1)), (2, iv (ior s2.1 v12)), (0, rv ad w0), (1, iv a1)]) S0 3 dX12_heldIn_33 rfl (by decide) rfl ?_
      refine r_goto (pc := 36) (tgt := 4) S0 dX12_heldIn_36 (by decide) ?_
      have hz := ok_some hf
      refine r_lv [2, 3, 1, 0] rfl ?_
      exact ih1 (ior s2.1 v12, ia s2.2 1) hz (cn_toInt _) (cn_wrap _)
    · refine r_if_eq (pc := 21) (tgt := 30) S0 dX12_heldIn_21 (by decide) c10 hf (fun hf => ?_) (fun hf => ?_)
      · refine r_iconst (pc := 30) S0 dX12_heldIn_30 ?_
        have hz := ok_some hf
        refine r_lv [0, 1, 3] rfl ?_
        exact K11 0 hz (cnz 0 rfl)
      · refine r_iconst (pc := 24) S0 dX12_heldIn_24 ?_
        refine r_iload_n (pc := 25) S0 3 dX12_heldIn_25 rfl rfl ?_
        refine r_ishl (pc := 26) S0 dX12_heldIn_26 ?_
        refine r_goto (pc := 27) (tgt := 31) S0 dX12_heldIn_27 (by decide) ?_
        have hz := ok_some hf
        refine r_lv [0, 1, 3] rfl ?_
        exact K11 (ishl 1 s2.2) hz (cn_toInt _)

set_option maxHeartbeats 4000000 in
set_option maxRecDepth 100000 in
theorem c_X12_heldNow (l : Launch) (cA : Nat → ClassId) (D : va_G) (N : Nat) (sx : Sx) (ad : Nat → Nat) (T : Knd) (A : Rfs) (nx : Nat) (I : Mem) (w0 : Nat)  (e : Int) (h : f_X12_heldNow T A w0 I = some e) : CtI l yX12_heldNow cX12_heldNow 1 (some .int) 3 105 cA D N sx ad T A nx [rv ad w0] I I e := by
  refine met_of (lv0 := [(0, rv ad w0)]) (by decide) (Nat.le_of_ble_eq_true rfl) rfl (fun p e0 s m args below meth c S0 hK hX hr hlk Q hQ => ?_)
  have hf : OK (f_X12_heldNow T A w0 I) (fun z => z = e) := ⟨e, h, rfl⟩
  unfold f_X12_heldNow at hf
  obtain ⟨hw0, hf⟩ := ok_grd hf
  refine r_aload_n (pc := 0) S0 0 dX12_heldNow_0 rfl rfl ?_
  refine r_aload_n (pc := 1) S0 0 dX12_heldNow_1 rfl rfl ?_
  refine r_getI (pc := 2) S0 hK fl_X12_300 dX12_heldNow_2 hf (fun x1 c2 hf => ?_)
  obtain ⟨e3, h4, hf⟩ := ok_bind hf
  refine r_cV_I (pc := 5) [iv x1] S0 hK hX mv_X12_315 (k_X12_heldIn h4) (c_X12_heldIn l cA D N sx ad T A nx I w0 x1 c2 e3 h4) rfl rfl ⟨by decide, by decide⟩ (Nat.le_of_ble_eq_true rfl) ⟨Nat.le_refl _, Nat.le_refl _⟩ dX12_heldNow_5 (fun c5 => ?_)
  have hz := ok_some hf
  have hz : e3 = e := hz
  subst hQ
  subst hz
  exact r_iret (pc := 8) S0 hr hlk c5 dX12_heldNow_8

set_option maxHeartbeats 4000000 in
set_option maxRecDepth 100000 in
theorem c_X12_isFree (l : Launch) (cA : Nat → ClassId) (D : va_G) (N : Nat) (sx : Sx) (ad : Nat → Nat) (T : Knd) (A : Rfs) (nx : Nat) (I : Mem) (w0 : Nat) (a1 : Int) (a2 : Int) (ca1 : cn a1) (ca2 : cn a2) (e : Int) (h : f_X12_isFree T A w0 a1 a2 I = some e) : CtI l yX12_isFree cX12_isFree 3 (some .boolean) 4 126 cA D N sx ad T A nx [rv ad w0, iv a1, iv a2] I I e := by
  refine met_of (lv0 := [(0, rv ad w0), (1, iv a1), (2, iv a2)]) (by decide) (Nat.le_of_ble_eq_true rfl) rfl (fun p e0 s m args below meth c S0 hK hX hr hlk Q hQ => ?_)
  have hf : OK (f_X12_isFree T A w0 a1 a2 I) (fun z => z = e) := ⟨e, h, rfl⟩
  unfold f_X12_isFree at hf
  obtain ⟨hw0, hf⟩ := ok_grd hf
  refine r_aload_n (pc := 0) S0 0 dX12_isFree_0 rfl rfl ?_
  refine r_iload_n (pc := 1) S0 1 dX12_isFree_1 rfl rfl ?_
  refine r_iload_n (pc := 2) S0 2 dX12_isFree_2 rfl rfl ?_
  obtain ⟨e1, h2, hf⟩ := ok_bind hf
  refine r_cV_I (pc := 3) [iv a1, iv a2] S0 hK hX mv_X12_291 (k_X12_isOpen h2) (c_X12_isOpen l cA D N sx ad T A nx I w0 a1 a2 ca1 ca2 e1 h2) rfl rfl ⟨by decide, by decide⟩ (Nat.le_of_ble_eq_true rfl) ⟨Nat.le_refl _, Nat.le_refl _⟩ dX12_isFree_3 (fun c3 => ?_)
  refine r_if_eq (pc := 6) (tgt := 35) S0 dX12_isFree_6 (by decide) c3 hf (fun hf => ?_) (fun hf => ?_)
  · refine r_iconst (pc := 35) S0 dX12_isFree_35 ?_
    have hz := ok_some hf
    have hz : 0 = e := hz
    subst hQ
    subst hz
    exact r_zret (pc := 36) S0 hr hlk (Or.inl rfl) dX12_isFree_36
  · refine r_aload_n (pc := 9) S0 0 dX12_isFree_9 rfl rfl ?_
    refine r_getI (pc := 10) S0 hK fl_X12_318 dX12_isFree_10 hf (fun x4 c5 hf => ?_)
    refine r_if_eq (pc := 13) (tgt := 31) S0 dX12_isFree_13 (by decide) c5 hf (fun hf => ?_) (fun hf => ?_)
    · refine r_iconst (pc := 31) S0 dX12_isFree_31 ?_
      refine r_goto (pc := 32) (tgt := 36) S0 dX12_isFree_32 (by decide) ?_
      have hz := ok_some hf
      have hz : 1 = e := hz
      subst hQ
      subst hz
      exact r_zret (pc := 36) S0 hr hlk (Or.inr rfl) dX12_isFree_36
    · refine r_aload_n (pc := 16) S0 0 dX12_isFree_16 rfl rfl ?_
      refine r_getR (pc := 17) S0 hK fl_X12_62 dX12_isFree_17 hf (fun x6 hf => ?_)
      refine r_sipush (pc := 20) S0 dX12_isFree_20 (by decide) ?_
      refine r_iload_n (pc := 23) S0 1 dX12_isFree_23 rfl rfl ?_
      refine r_imul (pc := 24) S0 dX12_isFree_24 ?_
      refine r_iload_n (pc := 25) S0 2 dX12_isFree_25 rfl rfl ?_
      refine r_iadd (pc := 26) S0 dX12_isFree_26 ?_
      refine r_zald (pc := 27) S0 hK dX12_isFree_27 (cn_wrap _) hf (fun x7 c8 hf => ?_)
      refine r_if_ne (pc := 28) (tgt := 35) S0 dX12_isFree_28 (by decide) c8 hf (fun hf => ?_) (fun hf => ?_)
      · refine r_iconst (pc := 35) S0 dX12_isFree_35 ?_
        have hz := ok_some hf
        have hz : 0 = e := hz
        subst hQ
        subst hz
        exact r_zret (pc := 36) S0 hr hlk (Or.inl rfl) dX12_isFree_36
      · refine r_iconst (pc := 31) S0 dX12_isFree_31 ?_
        refine r_goto (pc := 32) (tgt := 36) S0 dX12_isFree_32 (by decide) ?_
        have hz := ok_some hf
        have hz : 1 = e := hz
        subst hQ
        subst hz
        exact r_zret (pc := 36) S0 hr hlk (Or.inr rfl) dX12_isFree_36

set_option maxHeartbeats 4000000 in
set_option maxRecDepth 100000 in
theorem c_X12_stampsIn (l : Launch) (cA : Nat → ClassId) (D : va_G) (N : Nat) (sx : Sx) (ad : Nat → Nat) (T : Knd) (A : Rfs) (nx : Nat) (I : Mem) (w0 : Nat) (a1 : Int) (ca1 : cn a1) (e : Int) (h : f_X12_stampsIn T A w0 a1 I = some e) : CtI l yX12_stampsIn cX12_stampsIn 5 (some .int) 5 148 cA D N sx ad T A nx [rv ad w0, iv a1] I I e := by
  refine met_of (lv0 := [(0, rv ad w0), (1, iv a1)]) (by decide) (Nat.le_of_ble_eq_true rfl) rfl (fun p e0 s m args below meth c S0 hK hX hr hlk Q hQ => ?_)
  have hf : OK (f_X12_stampsIn T A w0 a1 I) (fun z => z = e) := ⟨e, h, rfl⟩
  unfold f_X12_stampsIn at hf
  obtain ⟨hw0, hf⟩ := ok_grd hf
  refine r_aload_n (pc := 0) S0 0 dX12_stampsIn_0 rfl rfl ?_
  refine r_getR (pc := 1) S0 hK fl_X12_56 dX12_stampsIn_1 hf (fun x1 hf => ?_)
  refine r_bipush (pc := 4) S0 dX12_stampsIn_4 (by decide) ?_
  refine r_aload_n (pc := 6) S0 0 dX12_stampsIn_6 rfl rfl ?_
  refine r_getI (pc := 7) S0 hK fl_X12_303 dX12_stampsIn_7 hf (fun x2 c3 hf => ?_)
  refine r_imul (pc := 10) S0 dX12_stampsIn_10 ?_
  refine r_aload_n (pc := 11) S0 0 dX12_stampsIn_11 rfl rfl ?_
  refine r_iload_n (pc := 12) S0 1 dX12_stampsIn_12 rfl rfl ?_
  refine r_iconst (pc := 13) S0 dX12_stampsIn_13 ?_
  obtain ⟨e4, h5, hf⟩ := ok_bind hf
  refine r_cV_I (pc := 14) [iv a1, iv 0] S0 hK hX mv_X12_275 (k_X12_of h5) (c_X12_of l cA D N sx ad T A nx I w0 a1 0 ca1 (cnz 0 rfl) e4 h5) rfl rfl ⟨by decide, by decide⟩ (Nat.le_of_ble_eq_true rfl) ⟨Nat.le_refl _, Nat.le_refl _⟩ dX12_stampsIn_14 (fun c6 => ?_)
  refine r_iadd (pc := 17) S0 dX12_stampsIn_17 ?_
  refine r_iald (pc := 18) S0 hK dX12_stampsIn_18 (cn_wrap _) hf (fun x7 c8 hf => ?_)
  refine r_istore_n (pc := 19) (lv' := [(2, iv x7), (0, rv ad w0), (1, iv a1)]) S0 dX12_stampsIn_19 rfl (by decide) rfl ?_
  refine r_aload_n (pc := 20) S0 1 dX12_stampsIn_20 rfl rfl ?_
  refine r_iload_n (pc := 21) S0 2 dX12_stampsIn_21 rfl rfl ?_
  refine r_aload_n (pc := 22) S0 1 dX12_stampsIn_22 rfl rfl ?_
  refine r_getI (pc := 23) S0 hK fl_X12_300 dX12_stampsIn_23 hf (fun x9 c10 hf => ?_)
  obtain ⟨e11, h12, hf⟩ := ok_bind hf
  refine r_cV_I (pc := 26) [iv a1, iv x9] S0 hK hX mv_X12_312 (k_X12_isHeld h12) (c_X12_isHeld l cA D N sx ad T A nx I w0 a1 x9 ca1 c10 e11 h12) rfl rfl ⟨by decide, by decide⟩ (Nat.le_of_ble_eq_true rfl) ⟨Nat.le_refl _, Nat.le_refl _⟩ dX12_stampsIn_26 (fun c13 => ?_)
  refine r_if_ne (pc := 29) (tgt := 38) S0 dX12_stampsIn_29 (by decide) c13 hf (fun hf => ?_) (fun hf => ?_)
  · refine r_iconst (pc := 38) S0 dX12_stampsIn_38 ?_
    have hz := ok_some hf
    have hz : (-1) = e := hz
    subst hQ
    subst hz
    exact r_iret (pc := 39) S0 hr hlk (cnz (-1) rfl) dX12_stampsIn_39
  · refine r_iload_n (pc := 32) S0 0 dX12_stampsIn_32 rfl rfl ?_
    refine r_ldc (pc := 33) (z := 100000) S0 k_X12_139 dX12_stampsIn_33 (by decide) ?_
    refine r_icmp_lt (pc := 35) (tgt := 40) S0 dX12_stampsIn_35 (by decide) c8 (cnz 100000 rfl) hf (fun hf => ?_) (fun hf => ?_)
    · refine r_aload_n (pc := 40) S0 1 dX12_stampsIn_40 rfl rfl ?_
      refine r_getI (pc := 41) S0 hK fl_X12_300 dX12_stampsIn_41 hf (fun x14 c15 hf => ?_)
      refine r_iload_n (pc := 44) S0 0 dX12_stampsIn_44 rfl rfl ?_
      refine r_iadd (pc := 45) S0 dX12_stampsIn_45 ?_
      refine r_istore_n (pc := 46) (lv' := [(3, iv (ia x14 x7)), (2, iv x7), (0, rv ad w0), (1, iv a1)]) S0 dX12_stampsIn_46 rfl (by decide) rfl ?_
      refine r_lv [2, 3, 0] rfl ?_
      refine it_ind (P := fun s17 => cn s17 → G p l e0 (rmx 5 148) s m args below meth c 0 0 Q cA D N 5 ad T A nx 47 [(0, rv ad w0), (1, iv a1), (3, iv s17)] [] I) (fun n0 s17 ih16 hf c18 => ?_) FU (ia x14 x7) hf (cn_wrap _)
      refine r_iload_n (pc := 47) S0 2 dX12_stampsIn_47 rfl rfl ?_
      refine r_sipush (pc := 48) S0 dX12_stampsIn_48 (by decide) ?_
      refine r_icmp_ge (pc := 51) (tgt := 107) S0 dX12_stampsIn_51 (by decide) c18 (cnz 400 rfl) hf (fun hf => ?_) (fun hf => ?_)
      · refine r_iconst (pc := 107) S0 dX12_stampsIn_107 ?_
        have hz := ok_some hf
        have hz : (-1) = e := hz
        subst hQ
        subst hz
        exact r_iret (pc := 108) S0 hr hlk (cnz (-1) rfl) dX12_stampsIn_108
      · refine r_aload_n (pc := 54) S0 0 dX12_stampsIn_54 rfl rfl ?_
        refine r_iload_n (pc := 55) S0 1 dX12_stampsIn_55 rfl rfl ?_
        refine r_iload_n (pc := 56) S0 2 dX12_stampsIn_56 rfl rfl ?_
        obtain ⟨e19, h20, hf⟩ := ok_bind hf
        refine r_cV_I (pc := 57) [iv a1, iv s17] S0 hK hX mv_X12_322 (k_X12_isFree h20) (c_X12_isFree l cA D N sx ad T A nx I w0 a1 s17 ca1 c18 e19 h20) rfl rfl ⟨by decide, by decide⟩ (Nat.le_of_ble_eq_true rfl) ⟨Nat.le_refl _, Nat.le_refl _⟩ dX12_stampsIn_57 (fun c21 => ?_)
        refine r_if_ne (pc := 60) (tgt := 66) S0 dX12_stampsIn_60 (by decide) c21 hf (fun hf => ?_) (fun hf => ?_)
        · refine r_aload_n (pc := 66) S0 0 dX12_stampsIn_66 rfl rfl ?_
          refine r_iload_n (pc := 67) S0 2 dX12_stampsIn_67 rfl rfl ?_
          obtain ⟨e22, h23, hf⟩ := ok_bind hf
          refine r_cV_I (pc := 68) [iv s17] S0 hK hX mv_X12_315 (k_X12_heldIn h23) (c_X12_heldIn l cA D N sx ad T A nx I w0 s17 c18 e22 h23) rfl rfl ⟨by decide, by decide⟩ (Nat.le_of_ble_eq_true rfl) ⟨Nat.le_refl _, Nat.le_refl _⟩ dX12_stampsIn_68 (fun c24 => ?_)
          refine r_istore (pc := 71) (lv' := [(4, iv e22), (0, rv ad w0), (1, iv a1), (3, iv s17)]) S0 dX12_stampsIn_71 (by decide) rfl ?_
          refine r_aload_n (pc := 73) S0 1 dX12_stampsIn_73 rfl rfl ?_
          refine r_getR (pc := 74) S0 hK fl_X12_40 dX12_stampsIn_74 hf (fun x25 hf => ?_)
          refine r_iload_n (pc := 77) S0 2 dX12_stampsIn_77 rfl rfl ?_
          refine r_iald (pc := 78) S0 hK dX12_stampsIn_78 ca1 hf (fun x26 c27 hf => ?_)
          refine r_iload (pc := 79) S0 0 dX12_stampsIn_79 rfl ?_
          refine r_iconst (pc := 81) S0 dX12_stampsIn_81 ?_
          refine r_ixor (pc := 82) S0 dX12_stampsIn_82 ?_
          refine r_iand (pc := 83) S0 dX12_stampsIn_83 ?_
          refine r_if_ne (pc := 84) (tgt := 101) S0 dX12_stampsIn_84 (by decide) (cn_toInt _) hf (fun hf => ?_) (fun hf => ?_)
          · refine r_iinc (pc := 101) (lv' := [(3, iv (ia s17 1)), (4, iv e22), (0, rv ad w0), (1, iv a1)]) S0 3 dX12_stampsIn_101 rfl (by decide) rfl ?_
            refine r_goto (pc := 104) (tgt := 47) S0 dX12_stampsIn_104 (by decide) ?_
            have hz := ok_some hf
            refine r_lv [2, 3, 0] rfl ?_
            exact ih16 (ia s17 1) hz (cn_wrap _)
          · refine r_aload_n (pc := 87) S0 1 dX12_stampsIn_87 rfl rfl ?_
            refine r_getR (pc := 88) S0 hK fl_X12_43 dX12_stampsIn_88 hf (fun x28 hf => ?_)
            refine r_iload_n (pc := 91) S0 2 dX12_stampsIn_91 rfl rfl ?_
            refine r_iald (pc := 92) S0 hK dX12_stampsIn_92 ca1 hf (fun x29 c30 hf => ?_)
            refine r_iload (pc := 93) S0 0 dX12_stampsIn_93 rfl ?_
            refine r_iand (pc := 95) S0 dX12_stampsIn_95 ?_
            refine r_if_ne (pc := 96) (tgt := 101) S0 dX12_stampsIn_96 (by decide) (cn_toInt _) hf (fun hf => ?_) (fun hf => ?_)
            · refine r_iinc (pc := 101) (lv' := [(3, iv (ia s17 1)), (4, iv e22), (0, rv ad w0), (1, iv a1)]) S0 3 dX12_stampsIn_101 rfl (by decide) rfl ?_
              refine r_goto (pc := 104) (tgt := 47) S0 dX12_stampsIn_104 (by decide) ?_
              have hz := ok_some hf
              refine r_lv [2, 3, 0] rfl ?_
              exact ih16 (ia s17 1) hz (cn_wrap _)
            · refine r_iload_n (pc := 99) S0 3 dX12_stampsIn_99 rfl rfl ?_
              have hz := ok_some hf
              have hz : s17 = e := hz
              subst hQ
              subst hz
              exact r_iret (pc := 100) S0 hr hlk c18 dX12_stampsIn_100
        · refine r_goto (pc := 63) (tgt := 101) S0 dX12_stampsIn_63 (by decide) ?_
          refine r_iinc (pc := 101) (lv' := [(3, iv (ia s17 1)), (0, rv ad w0), (1, iv a1)]) S0 2 dX12_stampsIn_101 rfl (by decide) rfl ?_
          refine r_goto (pc := 104) (tgt := 47) S0 dX12_stampsIn_104 (by decide) ?_
          have hz := ok_some hf
          refine r_lv [1, 2, 0] rfl ?_
          exact ih16 (ia s17 1) hz (cn_wrap _)
    · refine r_iconst (pc := 38) S0 dX12_stampsIn_38 ?_
      have hz := ok_some hf
      have hz : (-1) = e := hz
      subst hQ
      subst hz
      exact r_iret (pc := 39) S0 hr hlk (cnz (-1) rfl) dX12_stampsIn_39

set_option maxHeartbeats 4000000 in
set_option maxRecDepth 100000 in
theorem c_X12_goesTo (l : Launch) (cA : Nat → ClassId) (D : va_G) (N : Nat) (sx : Sx) (ad : Nat → Nat) (T : Knd) (A : Rfs) (nx : Nat) (I : Mem) (w0 : Nat) (a1 : Int) (a2 : Int) (ca1 : cn a1) (ca2 : cn a2) (e : Mem) (h : f_X12_goesTo T A w0 a1 a2 I = some e) : CtV l yX12_goesTo cX12_goesTo 3 none 2 82 cA D N sx ad T A nx [rv ad w0, iv a1, iv a2] I e := by
  refine met_of (lv0 := [(0, rv ad w0), (1, iv a1), (2, iv a2)]) (by decide) (Nat.le_of_ble_eq_true rfl) rfl (fun p e0 s m args below meth c S0 hK hX hr hlk Q hQ => ?_)
  have hf : OK (f_X12_goesTo T A w0 a1 a2 I) (fun z => z = e) := ⟨e, h, rfl⟩
  unfold f_X12_goesTo at hf
  obtain ⟨hw0, hf⟩ := ok_grd hf
  refine r_aload_n (pc := 0) S0 0 dX12_goesTo_0 rfl rfl ?_
  refine r_dup (pc := 1) S0 dX12_goesTo_1 rfl ?_
  refine r_getI (pc := 2) S0 hK fl_X12_306 dX12_goesTo_2 hf (fun x1 c2 hf => ?_)
  refine r_aload_n (pc := 5) S0 0 dX12_goesTo_5 rfl rfl ?_
  refine r_getR (pc := 6) S0 hK fl_X12_56 dX12_goesTo_6 hf (fun x3 hf => ?_)
  refine r_bipush (pc := 9) S0 dX12_goesTo_9 (by decide) ?_
  refine r_aload_n (pc := 11) S0 0 dX12_goesTo_11 rfl rfl ?_
  refine r_getI (pc := 12) S0 hK fl_X12_303 dX12_goesTo_12 hf (fun x4 c5 hf => ?_)
  refine r_imul (pc := 15) S0 dX12_goesTo_15 ?_
  refine r_aload_n (pc := 16) S0 0 dX12_goesTo_16 rfl rfl ?_
  refine r_iload_n (pc := 17) S0 1 dX12_goesTo_17 rfl rfl ?_
  refine r_iconst (pc := 18) S0 dX12_goesTo_18 ?_
  obtain ⟨e6, h7, hf⟩ := ok_bind hf
  refine r_cV_I (pc := 19) [iv a1, iv 0] S0 hK hX mv_X12_275 (k_X12_of h7) (c_X12_of l cA D N sx ad T A nx I w0 a1 0 ca1 (cnz 0 rfl) e6 h7) rfl rfl ⟨by decide, by decide⟩ (Nat.le_of_ble_eq_true rfl) ⟨Nat.le_refl _, Nat.le_refl _⟩ dX12_goesTo_19 (fun c8 => ?_)
  refine r_iadd (pc := 22) S0 dX12_goesTo_22 ?_
  refine r_iald (pc := 23) S0 hK dX12_goesTo_23 (cn_wrap _) hf (fun x9 c10 hf => ?_)
  refine r_iadd (pc := 24) S0 dX12_goesTo_24 ?_
  refine r_putI (pc := 25) S0 hK fl_X12_306 rfl rfl (cn_wrap _) dX12_goesTo_25 hf (fun I11 hf => ?_)
  refine r_aload_n (pc := 28) S0 0 dX12_goesTo_28 rfl rfl ?_
  refine r_dup (pc := 29) S0 dX12_goesTo_29 rfl ?_
  refine r_getI (pc := 30) S0 hK fl_X12_309 dX12_goesTo_30 hf (fun x12 c13 hf => ?_)
  refine r_aload_n (pc := 33) S0 0 dX12_goesTo_33 rfl rfl ?_
  refine r_iload_n (pc := 34) S0 1 dX12_goesTo_34 rfl rfl ?_
  refine r_bipush (pc := 35) S0 dX12_goesTo_35 (by decide) ?_
  obtain ⟨e14, h15, hf⟩ := ok_bind hf
  refine r_cV_I (pc := 37) [iv a1, iv 6] S0 hK hX mv_X12_275 (k_X12_of h15) (c_X12_of l cA D N sx ad T A nx I11 w0 a1 6 ca1 (cnz 6 rfl) e14 h15) rfl rfl ⟨by decide, by decide⟩ (Nat.le_of_ble_eq_true rfl) ⟨Nat.le_refl _, Nat.le_refl _⟩ dX12_goesTo_37 (fun c16 => ?_)
  refine r_iadd (pc := 40) S0 dX12_goesTo_40 ?_
  refine r_putI (pc := 41) S0 hK fl_X12_309 rfl rfl (cn_wrap _) dX12_goesTo_41 hf (fun I17 hf => ?_)
  refine r_aload_n (pc := 44) S0 0 dX12_goesTo_44 rfl rfl ?_
  refine r_aload_n (pc := 45) S0 0 dX12_goesTo_45 rfl rfl ?_
  refine r_iload_n (pc := 46) S0 1 dX12_goesTo_46 rfl rfl ?_
  refine r_iconst (pc := 47) S0 dX12_goesTo_47 ?_
  obtain ⟨e18, h19, hf⟩ := ok_bind hf
  refine r_cV_I (pc := 48) [iv a1, iv 0] S0 hK hX mv_X12_275 (k_X12_of h19) (c_X12_of l cA D N sx ad T A nx I17 w0 a1 0 ca1 (cnz 0 rfl) e18 h19) rfl rfl ⟨by decide, by decide⟩ (Nat.le_of_ble_eq_true rfl) ⟨Nat.le_refl _, Nat.le_refl _⟩ dX12_goesTo_48 (fun c20 => ?_)
  refine r_putI (pc := 51) S0 hK fl_X12_303 rfl rfl c20 dX12_goesTo_51 hf (fun I21 hf => ?_)
  refine r_aload_n (pc := 54) S0 0 dX12_goesTo_54 rfl rfl ?_
  refine r_iload_n (pc := 55) S0 2 dX12_goesTo_55 rfl rfl ?_
  refine r_iconst (pc := 56) S0 dX12_goesTo_56 ?_
  refine r_iadd (pc := 57) S0 dX12_goesTo_57 ?_
  refine r_putI (pc := 58) S0 hK fl_X12_300 rfl rfl (cn_wrap _) dX12_goesTo_58 hf (fun I22 hf => ?_)
  refine r_aload_n (pc := 61) S0 0 dX12_goesTo_61 rfl rfl ?_
  refine r_getR (pc := 62) S0 hK fl_X12_59 dX12_goesTo_62 hf (fun x23 hf => ?_)
  refine r_iload_n (pc := 65) S0 1 dX12_goesTo_65 rfl rfl ?_
  refine r_aload_n (pc := 66) S0 0 dX12_goesTo_66 rfl rfl ?_
  refine r_iload_n (pc := 67) S0 1 dX12_goesTo_67 rfl rfl ?_
  refine r_iconst (pc := 68) S0 dX12_goesTo_68 ?_
  obtain ⟨e24, h25, hf⟩ := ok_bind hf
  refine r_cV_I (pc := 69) [iv a1, iv 5] S0 hK hX mv_X12_275 (k_X12_of h25) (c_X12_of l cA D N sx ad T A nx I22 w0 a1 5 ca1 (cnz 5 rfl) e24 h25) rfl rfl ⟨by decide, by decide⟩ (Nat.le_of_ble_eq_true rfl) ⟨Nat.le_refl _, Nat.le_refl _⟩ dX12_goesTo_69 (fun c26 => ?_)
  refine r_iconst (pc := 72) S0 dX12_goesTo_72 ?_
  refine thn_rule (P := fun v28 => cn v28 → G p l e0 (rmx 2 82) s m args below meth c 0 0 Q cA D N 3 ad T A nx 93 [] [iv v28, iv a1, rv ad x23] I22) hf (fun v28 hf c29 => ?_) (fun K27 hf => ?_)
  · refine r_iast (pc := 93) S0 hK dX12_goesTo_93 ca1 c29 hf (fun I33 hf => ?_)
    have hz := ok_some hf
    have hz : I33 = e := hz
    subst hQ
    subst hz
    exact r_vret (pc := 94) S0 hr hlk dX12_goesTo_94
  · refine r_icmp_ne (pc := 73) (tgt := 82) S0 dX12_goesTo_73 (by decide) c26 (cnz (-1) rfl) hf (fun hf => ?_) (fun hf => ?_)
    · refine r_iload_n (pc := 82) S0 2 dX12_goesTo_82 rfl rfl ?_
      refine r_bipush (pc := 83) S0 dX12_goesTo_83 (by decide) ?_
      refine r_aload_n (pc := 85) S0 0 dX12_goesTo_85 rfl rfl ?_
      refine r_iload_n (pc := 86) S0 1 dX12_goesTo_86 rfl rfl ?_
      refine r_iconst (pc := 87) S0 dX12_goesTo_87 ?_
      obtain ⟨e30, h31, hf⟩ := ok_bind hf
      refine r_cV_I (pc := 88) [iv a1, iv 5] S0 hK hX mv_X12_275 (k_X12_of h31) (c_X12_of l cA D N sx ad T A nx I22 w0 a1 5 ca1 (cnz 5 rfl) e30 h31) rfl rfl ⟨by decide, by decide⟩ (Nat.le_of_ble_eq_true rfl) ⟨Nat.le_refl _, Nat.le_refl _⟩ dX12_goesTo_88 (fun c32 => ?_)
      refine r_imul (pc := 91) S0 dX12_goesTo_91 ?_
      refine r_iadd (pc := 92) S0 dX12_goesTo_92 ?_
      have hz := ok_some hf
      refine r_lv [] rfl ?_
      exact K27 (ia a2 (im 10 e30)) hz (cn_wrap _)
    · refine r_sipush (pc := 76) S0 dX12_goesTo_76 (by decide) ?_
      refine r_goto (pc := 79) (tgt := 93) S0 dX12_goesTo_79 (by decide) ?_
      have hz := ok_some hf
      refine r_lv [] rfl ?_
      exact K27 9999 hz (cnz 9999 rfl)

set_option maxHeartbeats 4000000 in
set_option maxRecDepth 100000 in
theorem c_X12_lays (l : Launch) (cA : Nat → ClassId) (D : va_G) (N : Nat) (sx : Sx) (ad : Nat → Nat) (T : Knd) (A : Rfs) (nx : Nat) (I : Mem) (w0 : Nat)  (e : Mem) (h : f_X12_lays T A w0 I = some e) : CtV l yX12_lays cX12_lays 2 none 6 172 cA D N sx ad T A nx [rv ad w0] I e := by
  refine met_of (lv0 := [(0, rv ad w0)]) (by decide) (Nat.le_of_ble_eq_true rfl) rfl (fun p e0 s m args below meth c S0 hK hX hr hlk Q hQ => ?_)
  have hf : OK (f_X12_lays T A w0 I) (fun z => z = e) := ⟨e, h, rfl⟩
  unfold f_X12_lays at hf
  obtain ⟨hw0, hf⟩ := ok_grd hf
  refine r_aload_n (pc := 0) S0 0 dX12_lays_0 rfl rfl ?_
  refine r_aload_n (pc := 1) S0 0 dX12_lays_1 rfl rfl ?_
  refine r_getR (pc := 2) S0 hK fl_X12_34 dX12_lays_2 hf (fun x1 hf => ?_)
  refine r_iconst (pc := 5) S0 dX12_lays_5 ?_
  refine r_iald (pc := 6) S0 hK dX12_lays_6 (cnz 2 rfl) hf (fun x2 c3 hf => ?_)
  obtain ⟨e4, h5, hf⟩ := ok_bind hf
  refine r_cV_V (pc := 7) [iv x2] S0 hK hX mv_X12_325 (k_X12_starts h5) (c_X12_starts l cA D N sx ad T A nx I w0 x2 c3 e4 h5) rfl rfl ⟨by decide, by decide⟩ (Nat.le_of_ble_eq_true rfl) ⟨Nat.le_refl _, Nat.le_refl _⟩ dX12_lays_7 ?_
  refine r_iconst (pc := 10) S0 dX12_lays_10 ?_
  refine r_istore_n (pc := 11) (lv' := [(1, iv 0), (0, rv ad w0)]) S0 dX12_lays_11 rfl (by decide) rfl ?_
  refine r_lv [1, 0] rfl ?_
  refine it_ind (P := fun s7 => cn s7.1 → G p l e0 (rmx 6 172) s m args below meth c 0 0 Q cA D N 2 ad T A nx 12 [(0, rv ad w0), (1, iv s7.1)] [] s7.2) (fun n0 s7 ih6 hf c8 => ?_) FU (0, e4) hf (cnz 0 rfl)
  refine r_iload_n (pc := 12) S0 1 dX12_lays_12 rfl rfl ?_
  refine r_aload_n (pc := 13) S0 0 dX12_lays_13 rfl rfl ?_
  refine r_getR (pc := 14) S0 hK fl_X12_34 dX12_lays_14 hf (fun x9 hf => ?_)
  refine r_iconst (pc := 17) S0 dX12_lays_17 ?_
  refine r_iald (pc := 18) S0 hK dX12_lays_18 (cnz 5 rfl) hf (fun x10 c11 hf => ?_)
  refine r_icmp_ge (pc := 19) (tgt := 80) S0 dX12_lays_19 (by decide) c8 c11 hf (fun hf => ?_) (fun hf => ?_)
  · have hz := ok_some hf
    have hz : s7.2 = e := hz
    subst hQ
    subst hz
    exact r_vret (pc := 80) S0 hr hlk dX12_lays_80
  · refine r_aload_n (pc := 22) S0 0 dX12_lays_22 rfl rfl ?_
    refine r_getR (pc := 23) S0 hK fl_X12_49 dX12_lays_23 hf (fun x12 hf => ?_)
    refine r_iload_n (pc := 26) S0 1 dX12_lays_26 rfl rfl ?_
    refine r_iald (pc := 27) S0 hK dX12_lays_27 c8 hf (fun x13 c14 hf => ?_)
    refine r_bipush (pc := 28) S0 dX12_lays_28 (by decide) ?_
    refine r_icmp_le (pc := 30) (tgt := 54) S0 dX12_lays_30 (by decide) c14 (cnz 9 rfl) hf (fun hf => ?_) (fun hf => ?_)
    · refine r_aload_n (pc := 54) S0 0 dX12_lays_54 rfl rfl ?_
      refine r_aload_n (pc := 55) S0 0 dX12_lays_55 rfl rfl ?_
      refine r_getR (pc := 56) S0 hK fl_X12_49 dX12_lays_56 hf (fun x15 hf => ?_)
      refine r_iload_n (pc := 59) S0 1 dX12_lays_59 rfl rfl ?_
      refine r_iald (pc := 60) S0 hK dX12_lays_60 c8 hf (fun x16 c17 hf => ?_)
      refine r_aload_n (pc := 61) S0 0 dX12_lays_61 rfl rfl ?_
      refine r_aload_n (pc := 62) S0 0 dX12_lays_62 rfl rfl ?_
      refine r_getR (pc := 63) S0 hK fl_X12_49 dX12_lays_63 hf (fun x18 hf => ?_)
      refine r_iload_n (pc := 66) S0 1 dX12_lays_66 rfl rfl ?_
      refine r_iald (pc := 67) S0 hK dX12_lays_67 c8 hf (fun x19 c20 hf => ?_)
      obtain ⟨e21, h22, hf⟩ := ok_bind hf
      refine r_cV_I (pc := 68) [iv x19] S0 hK hX mv_X12_328 (k_X12_stampsIn h22) (c_X12_stampsIn l cA D N sx ad T A nx s7.2 w0 x19 c20 e21 h22) rfl rfl ⟨by decide, by decide⟩ (Nat.le_of_ble_eq_true rfl) ⟨Nat.le_refl _, Nat.le_refl _⟩ dX12_lays_68 (fun c23 => ?_)
      obtain ⟨e24, h25, hf⟩ := ok_bind hf
      refine r_cV_V (pc := 71) [iv x16, iv e21] S0 hK hX mv_X12_331 (k_X12_goesTo h25) (c_X12_goesTo l cA D N sx ad T A nx s7.2 w0 x16 e21 c17 c23 e24 h25) rfl rfl ⟨by decide, by decide⟩ (Nat.le_of_ble_eq_true rfl) ⟨Nat.le_refl _, Nat.le_refl _⟩ dX12_lays_71 ?_
      refine r_iinc (pc := 74) (lv' := [(1, iv (ia s7.1 1)), (0, rv ad w0)]) S0 1 dX12_lays_74 rfl (by decide) rfl ?_
      refine r_goto (pc := 77) (tgt := 12) S0 dX12_lays_77 (by decide) ?_
      have hz := ok_some hf
      refine r_lv [1, 0] rfl ?_
      exact ih6 (ia s7.1 1, e24) hz (cn_wrap _)
    · refine r_aload_n (pc := 33) S0 0 dX12_lays_33 rfl rfl ?_
      refine r_dup (pc := 34) S0 dX12_lays_34 rfl ?_
      refine r_getI (pc := 35) S0 hK fl_X12_300 dX12_lays_35 hf (fun x26 c27 hf => ?_)
      refine r_aload_n (pc := 38) S0 0 dX12_lays_38 rfl rfl ?_
      refine r_getR (pc := 39) S0 hK fl_X12_49 dX12_lays_39 hf (fun x28 hf => ?_)
      refine r_iload_n (pc := 42) S0 1 dX12_lays_42 rfl rfl ?_
      refine r_iald (pc := 43) S0 hK dX12_lays_43 c8 hf (fun x29 c30 hf => ?_)
      refine r_bipush (pc := 44) S0 dX12_lays_44 (by decide) ?_
      refine r_isub (pc := 46) S0 dX12_lays_46 ?_
      refine r_iadd (pc := 47) S0 dX12_lays_47 ?_
      refine r_putI (pc := 48) S0 hK fl_X12_300 rfl rfl (cn_wrap _) dX12_lays_48 hf (fun I31 hf => ?_)
      refine r_goto (pc := 51) (tgt := 74) S0 dX12_lays_51 (by decide) ?_
      refine r_iinc (pc := 74) (lv' := [(1, iv (ia s7.1 1)), (0, rv ad w0)]) S0 1 dX12_lays_74 rfl (by decide) rfl ?_
      refine r_goto (pc := 77) (tgt := 12) S0 dX12_lays_77 (by decide) ?_
      have hz := ok_some hf
      refine r_lv [1, 0] rfl ?_
      exact ih6 (ia s7.1 1, I31) hz (cn_wrap _)

set_option maxHeartbeats 4000000 in
set_option maxRecDepth 100000 in
theorem c_X12_now (l : Launch) (cA : Nat → ClassId) (D : va_G) (N : Nat) (sx : Sx) (ad : Nat → Nat) (T : Knd) (A : Rfs) (nx : Nat) (I : Mem) (w0 : Nat)  (e : (Int × Mem)) (h : f_X12_now T A w0 I = some e) : CtI l yX12_now cX12_now 1 (some .int) 7 193 cA D N sx ad T A nx [rv ad w0] I e.2 e.1 := by
  refine met_of (lv0 := [(0, rv ad w0)]) (by decide) (Nat.le_of_ble_eq_true rfl) rfl (fun p e0 s m args below meth c S0 hK hX hr hlk Q hQ => ?_)
  have hf : OK (f_X12_now T A w0 I) (fun z => z = e) := ⟨e, h, rfl⟩
  unfold f_X12_now at hf
  obtain ⟨hw0, hf⟩ := ok_grd hf
  refine r_aload_n (pc := 0) S0 0 dX12_now_0 rfl rfl ?_
  refine r_iconst (pc := 1) S0 dX12_now_1 ?_
  refine r_putI (pc := 2) S0 hK fl_X12_89 rfl rfl (cnz 0 rfl) dX12_now_2 hf (fun I1 hf => ?_)
  refine r_aload_n (pc := 5) S0 0 dX12_now_5 rfl rfl ?_
  obtain ⟨e2, h3, hf⟩ := ok_bind hf
  refine r_cV_I (pc := 6) [] S0 hK hX mv_X12_267 (k_X12_isOffice h3) (c_X12_isOffice l cA D N sx ad T A nx I1 w0 e2 h3) rfl rfl ⟨by decide, by decide⟩ (Nat.le_of_ble_eq_true rfl) ⟨Nat.le_refl _, Nat.le_refl _⟩ dX12_now_6 (fun c4 => ?_)
  refine r_if_ne (pc := 9) (tgt := 15) S0 dX12_now_9 (by decide) c4 hf (fun hf => ?_) (fun hf => ?_)
  · refine r_aload_n (pc := 15) S0 0 dX12_now_15 rfl rfl ?_
    obtain ⟨e5, h6, hf⟩ := ok_bind hf
    refine r_cV_V (pc := 16) [] S0 hK hX mv_X12_334 (k_X12_lays h6) (c_X12_lays l cA D N sx ad T A nx I1 w0 e5 h6) rfl rfl ⟨by decide, by decide⟩ (Nat.le_of_ble_eq_true rfl) ⟨Nat.le_refl _, Nat.le_refl _⟩ dX12_now_16 ?_
    refine r_aload_n (pc := 19) S0 0 dX12_now_19 rfl rfl ?_
    refine r_getI (pc := 20) S0 hK fl_X12_300 dX12_now_20 hf (fun x7 c8 hf => ?_)
    have hz := ok_some hf
    have hz : (x7, e5) = e := hz
    subst hQ
    subst hz
    exact r_iret (pc := 23) S0 hr hlk c8 dX12_now_23
  · refine r_bipush (pc := 12) S0 dX12_now_12 (by decide) ?_
    have hz := ok_some hf
    have hz : ((-2), I1) = e := hz
    subst hQ
    subst hz
    exact r_iret (pc := 14) S0 hr hlk (cnz (-2) rfl) dX12_now_14

set_option maxHeartbeats 4000000 in
set_option maxRecDepth 100000 in
theorem c_X12_room (l : Launch) (cA : Nat → ClassId) (D : va_G) (N : Nat) (sx : Sx) (ad : Nat → Nat) (T : Knd) (A : Rfs) (nx : Nat) (I : Mem) (w0 : Nat)  (e : (Int × Mem)) (h : f_X12_room T A w0 I = some e) : CtI l yX12_room cX12_room 1 (some .int) 7 193 cA D N sx ad T A nx [rv ad w0] I e.2 e.1 := by
  refine met_of (lv0 := [(0, rv ad w0)]) (by decide) (Nat.le_of_ble_eq_true rfl) rfl (fun p e0 s m args below meth c S0 hK hX hr hlk Q hQ => ?_)
  have hf : OK (f_X12_room T A w0 I) (fun z => z = e) := ⟨e, h, rfl⟩
  unfold f_X12_room at hf
  obtain ⟨hw0, hf⟩ := ok_grd hf
  refine r_aload_n (pc := 0) S0 0 dX12_room_0 rfl rfl ?_
  refine r_iconst (pc := 1) S0 dX12_room_1 ?_
  refine r_putI (pc := 2) S0 hK fl_X12_89 rfl rfl (cnz 0 rfl) dX12_room_2 hf (fun I1 hf => ?_)
  refine r_aload_n (pc := 5) S0 0 dX12_room_5 rfl rfl ?_
  obtain ⟨e2, h3, hf⟩ := ok_bind hf
  refine r_cV_I (pc := 6) [] S0 hK hX mv_X12_267 (k_X12_isOffice h3) (c_X12_isOffice l cA D N sx ad T A nx I1 w0 e2 h3) rfl rfl ⟨by decide, by decide⟩ (Nat.le_of_ble_eq_true rfl) ⟨Nat.le_refl _, Nat.le_refl _⟩ dX12_room_6 (fun c4 => ?_)
  refine r_if_ne (pc := 9) (tgt := 15) S0 dX12_room_9 (by decide) c4 hf (fun hf => ?_) (fun hf => ?_)
  · refine r_aload_n (pc := 15) S0 0 dX12_room_15 rfl rfl ?_
    obtain ⟨e5, h6, hf⟩ := ok_bind hf
    refine r_cV_V (pc := 16) [] S0 hK hX mv_X12_334 (k_X12_lays h6) (c_X12_lays l cA D N sx ad T A nx I1 w0 e5 h6) rfl rfl ⟨by decide, by decide⟩ (Nat.le_of_ble_eq_true rfl) ⟨Nat.le_refl _, Nat.le_refl _⟩ dX12_room_16 ?_
    refine r_aload_n (pc := 19) S0 0 dX12_room_19 rfl rfl ?_
    refine r_getI (pc := 20) S0 hK fl_X12_303 dX12_room_20 hf (fun x7 c8 hf => ?_)
    have hz := ok_some hf
    have hz : (x7, e5) = e := hz
    subst hQ
    subst hz
    exact r_iret (pc := 23) S0 hr hlk c8 dX12_room_23
  · refine r_bipush (pc := 12) S0 dX12_room_12 (by decide) ?_
    have hz := ok_some hf
    have hz : ((-2), I1) = e := hz
    subst hQ
    subst hz
    exact r_iret (pc := 14) S0 hr hlk (cnz (-2) rfl) dX12_room_14

set_option maxHeartbeats 4000000 in
set_option maxRecDepth 100000 in
theorem c_X12_held (l : Launch) (cA : Nat → ClassId) (D : va_G) (N : Nat) (sx : Sx) (ad : Nat → Nat) (T : Knd) (A : Rfs) (nx : Nat) (I : Mem) (w0 : Nat)  (e : (Int × Mem)) (h : f_X12_held T A w0 I = some e) : CtI l yX12_held cX12_held 1 (some .int) 7 193 cA D N sx ad T A nx [rv ad w0] I e.2 e.1 := by
  refine met_of (lv0 := [(0, rv ad w0)]) (by decide) (Nat.le_of_ble_eq_true rfl) rfl (fun p e0 s m args below meth c S0 hK hX hr hlk Q hQ => ?_)
  have hf : OK (f_X12_held T A w0 I) (fun z => z = e) := ⟨e, h, rfl⟩
  unfold f_X12_held at hf
  obtain ⟨hw0, hf⟩ := ok_grd hf
  refine r_aload_n (pc := 0) S0 0 dX12_held_0 rfl rfl ?_
  refine r_iconst (pc := 1) S0 dX12_held_1 ?_
  refine r_putI (pc := 2) S0 hK fl_X12_89 rfl rfl (cnz 0 rfl) dX12_held_2 hf (fun I1 hf => ?_)
  refine r_aload_n (pc := 5) S0 0 dX12_held_5 rfl rfl ?_
  obtain ⟨e2, h3, hf⟩ := ok_bind hf
  refine r_cV_I (pc := 6) [] S0 hK hX mv_X12_267 (k_X12_isOffice h3) (c_X12_isOffice l cA D N sx ad T A nx I1 w0 e2 h3) rfl rfl ⟨by decide, by decide⟩ (Nat.le_of_ble_eq_true rfl) ⟨Nat.le_refl _, Nat.le_refl _⟩ dX12_held_6 (fun c4 => ?_)
  refine r_if_ne (pc := 9) (tgt := 15) S0 dX12_held_9 (by decide) c4 hf (fun hf => ?_) (fun hf => ?_)
  · refine r_aload_n (pc := 15) S0 0 dX12_held_15 rfl rfl ?_
    obtain ⟨e5, h6, hf⟩ := ok_bind hf
    refine r_cV_V (pc := 16) [] S0 hK hX mv_X12_334 (k_X12_lays h6) (c_X12_lays l cA D N sx ad T A nx I1 w0 e5 h6) rfl rfl ⟨by decide, by decide⟩ (Nat.le_of_ble_eq_true rfl) ⟨Nat.le_refl _, Nat.le_refl _⟩ dX12_held_16 ?_
    refine r_aload_n (pc := 19) S0 0 dX12_held_19 rfl rfl ?_
    obtain ⟨e7, h8, hf⟩ := ok_bind hf
    refine r_cV_I (pc := 20) [] S0 hK hX mv_X12_337 (k_X12_heldNow h8) (c_X12_heldNow l cA D N sx ad T A nx e5 w0 e7 h8) rfl rfl ⟨by decide, by decide⟩ (Nat.le_of_ble_eq_true rfl) ⟨Nat.le_refl _, Nat.le_refl _⟩ dX12_held_20 (fun c9 => ?_)
    have hz := ok_some hf
    have hz : (e7, e5) = e := hz
    subst hQ
    subst hz
    exact r_iret (pc := 23) S0 hr hlk c9 dX12_held_23
  · refine r_bipush (pc := 12) S0 dX12_held_12 (by decide) ?_
    have hz := ok_some hf
    have hz : ((-2), I1) = e := hz
    subst hQ
    subst hz
    exact r_iret (pc := 14) S0 hr hlk (cnz (-2) rfl) dX12_held_14

set_option maxHeartbeats 4000000 in
set_option maxRecDepth 100000 in
theorem c_X12_until (l : Launch) (cA : Nat → ClassId) (D : va_G) (N : Nat) (sx : Sx) (ad : Nat → Nat) (T : Knd) (A : Rfs) (nx : Nat) (I : Mem) (w0 : Nat) (a1 : Int) (ca1 : cn a1) (e : (Int × Mem)) (h : f_X12_until T A w0 a1 I = some e) : CtI l yX12_until cX12_until 2 (some .int) 7 193 cA D N sx ad T A nx [rv ad w0, iv a1] I e.2 e.1 := by
  refine met_of (lv0 := [(0, rv ad w0), (1, iv a1)]) (by decide) (Nat.le_of_ble_eq_true rfl) rfl (fun p e0 s m args below meth c S0 hK hX hr hlk Q hQ => ?_)
  have hf : OK (f_X12_until T A w0 a1 I) (fun z => z = e) := ⟨e, h, rfl⟩
  unfold f_X12_until at hf
  obtain ⟨hw0, hf⟩ := ok_grd hf
  refine r_aload_n (pc := 0) S0 0 dX12_until_0 rfl rfl ?_
  refine r_iconst (pc := 1) S0 dX12_until_1 ?_
  refine r_putI (pc := 2) S0 hK fl_X12_89 rfl rfl (cnz 0 rfl) dX12_until_2 hf (fun I1 hf => ?_)
  refine r_aload_n (pc := 5) S0 0 dX12_until_5 rfl rfl ?_
  refine r_iload_n (pc := 6) S0 1 dX12_until_6 rfl rfl ?_
  refine r_i2l (pc := 7) S0 dX12_until_7 ca1 ?_
  obtain ⟨e2, h3, hf⟩ := ok_bind hf
  refine r_cV_I (pc := 8) [jv a1] S0 hK hX mv_X12_270 (k_X12_isOfficial h3) (c_X12_isOfficial l cA D N sx ad T A nx I1 w0 a1 (cl_cn ca1) e2 h3) rfl rfl ⟨by decide, by decide⟩ (Nat.le_of_ble_eq_true rfl) ⟨Nat.le_refl _, Nat.le_refl _⟩ dX12_until_8 (fun c4 => ?_)
  refine r_if_ne (pc := 11) (tgt := 17) S0 dX12_until_11 (by decide) c4 hf (fun hf => ?_) (fun hf => ?_)
  · refine r_aload_n (pc := 17) S0 0 dX12_until_17 rfl rfl ?_
    obtain ⟨e5, h6, hf⟩ := ok_bind hf
    refine r_cV_V (pc := 18) [] S0 hK hX mv_X12_334 (k_X12_lays h6) (c_X12_lays l cA D N sx ad T A nx I1 w0 e5 h6) rfl rfl ⟨by decide, by decide⟩ (Nat.le_of_ble_eq_true rfl) ⟨Nat.le_refl _, Nat.le_refl _⟩ dX12_until_18 ?_
    refine r_aload_n (pc := 21) S0 0 dX12_until_21 rfl rfl ?_
    refine r_iload_n (pc := 22) S0 1 dX12_until_22 rfl rfl ?_
    refine r_aload_n (pc := 23) S0 0 dX12_until_23 rfl rfl ?_
    refine r_getI (pc := 24) S0 hK fl_X12_300 dX12_until_24 hf (fun x7 c8 hf => ?_)
    obtain ⟨e9, h10, hf⟩ := ok_bind hf
    refine r_cV_I (pc := 27) [iv a1, iv x7] S0 hK hX mv_X12_312 (k_X12_isHeld h10) (c_X12_isHeld l cA D N sx ad T A nx e5 w0 a1 x7 ca1 c8 e9 h10) rfl rfl ⟨by decide, by decide⟩ (Nat.le_of_ble_eq_true rfl) ⟨Nat.le_refl _, Nat.le_refl _⟩ dX12_until_27 (fun c11 => ?_)
    refine r_if_eq (pc := 30) (tgt := 54) S0 dX12_until_30 (by decide) c11 hf (fun hf => ?_) (fun hf => ?_)
    · refine r_iconst (pc := 54) S0 dX12_until_54 ?_
      have hz := ok_some hf
      have hz : ((-1), e5) = e := hz
      subst hQ
      subst hz
      exact r_iret (pc := 55) S0 hr hlk (cnz (-1) rfl) dX12_until_55
    · refine r_aload_n (pc := 33) S0 0 dX12_until_33 rfl rfl ?_
      refine r_getR (pc := 34) S0 hK fl_X12_59 dX12_until_34 hf (fun x12 hf => ?_)
      refine r_iload_n (pc := 37) S0 1 dX12_until_37 rfl rfl ?_
      refine r_iald (pc := 38) S0 hK dX12_until_38 ca1 hf (fun x13 c14 hf => ?_)
      refine r_sipush (pc := 39) S0 dX12_until_39 (by decide) ?_
      refine r_icmp_eq (pc := 42) (tgt := 54) S0 dX12_until_42 (by decide) c14 (cnz 9999 rfl) hf (fun hf => ?_) (fun hf => ?_)
      · refine r_iconst (pc := 54) S0 dX12_until_54 ?_
        have hz := ok_some hf
        have hz : ((-1), e5) = e := hz
        subst hQ
        subst hz
        exact r_iret (pc := 55) S0 hr hlk (cnz (-1) rfl) dX12_until_55
      · refine r_aload_n (pc := 45) S0 0 dX12_until_45 rfl rfl ?_
        refine r_getR (pc := 46) S0 hK fl_X12_59 dX12_until_46 hf (fun x15 hf => ?_)
        refine r_iload_n (pc := 49) S0 1 dX12_until_49 rfl rfl ?_
        refine r_iald (pc := 50) S0 hK dX12_until_50 ca1 hf (fun x16 c17 hf => ?_)
        refine r_goto (pc := 51) (tgt := 55) S0 dX12_until_51 (by decide) ?_
        have hz := ok_some hf
        have hz : (x16, e5) = e := hz
        subst hQ
        subst hz
        exact r_iret (pc := 55) S0 hr hlk c17 dX12_until_55
  · refine r_bipush (pc := 14) S0 dX12_until_14 (by decide) ?_
    have hz := ok_some hf
    have hz : ((-2), I1) = e := hz
    subst hQ
    subst hz
    exact r_iret (pc := 16) S0 hr hlk (cnz (-2) rfl) dX12_until_16

set_option maxHeartbeats 4000000 in
set_option maxRecDepth 100000 in
theorem c_X12_when (l : Launch) (cA : Nat → ClassId) (D : va_G) (N : Nat) (sx : Sx) (ad : Nat → Nat) (T : Knd) (A : Rfs) (nx : Nat) (I : Mem) (w0 : Nat) (a1 : Int) (ca1 : cn a1) (e : (Int × Mem)) (h : f_X12_when T A w0 a1 I = some e) : CtI l yX12_when cX12_when 2 (some .int) 7 193 cA D N sx ad T A nx [rv ad w0, iv a1] I e.2 e.1 := by
  refine met_of (lv0 := [(0, rv ad w0), (1, iv a1)]) (by decide) (Nat.le_of_ble_eq_true rfl) rfl (fun p e0 s m args below meth c S0 hK hX hr hlk Q hQ => ?_)
  have hf : OK (f_X12_when T A w0 a1 I) (fun z => z = e) := ⟨e, h, rfl⟩
  unfold f_X12_when at hf
  obtain ⟨hw0, hf⟩ := ok_grd hf
  refine r_aload_n (pc := 0) S0 0 dX12_when_0 rfl rfl ?_
  refine r_iconst (pc := 1) S0 dX12_when_1 ?_
  refine r_putI (pc := 2) S0 hK fl_X12_89 rfl rfl (cnz 0 rfl) dX12_when_2 hf (fun I1 hf => ?_)
  refine r_aload_n (pc := 5) S0 0 dX12_when_5 rfl rfl ?_
  refine r_iload_n (pc := 6) S0 1 dX12_when_6 rfl rfl ?_
  refine r_i2l (pc := 7) S0 dX12_when_7 ca1 ?_
  obtain ⟨e2, h3, hf⟩ := ok_bind hf
  refine r_cV_I (pc := 8) [jv a1] S0 hK hX mv_X12_270 (k_X12_isOfficial h3) (c_X12_isOfficial l cA D N sx ad T A nx I1 w0 a1 (cl_cn ca1) e2 h3) rfl rfl ⟨by decide, by decide⟩ (Nat.le_of_ble_eq_true rfl) ⟨Nat.le_refl _, Nat.le_refl _⟩ dX12_when_8 (fun c4 => ?_)
  refine r_if_ne (pc := 11) (tgt := 17) S0 dX12_when_11 (by decide) c4 hf (fun hf => ?_) (fun hf => ?_)
  · refine r_aload_n (pc := 17) S0 0 dX12_when_17 rfl rfl ?_
    obtain ⟨e5, h6, hf⟩ := ok_bind hf
    refine r_cV_V (pc := 18) [] S0 hK hX mv_X12_334 (k_X12_lays h6) (c_X12_lays l cA D N sx ad T A nx I1 w0 e5 h6) rfl rfl ⟨by decide, by decide⟩ (Nat.le_of_ble_eq_true rfl) ⟨Nat.le_refl _, Nat.le_refl _⟩ dX12_when_18 ?_
    refine r_aload_n (pc := 21) S0 0 dX12_when_21 rfl rfl ?_
    refine r_iload_n (pc := 22) S0 1 dX12_when_22 rfl rfl ?_
    obtain ⟨e7, h8, hf⟩ := ok_bind hf
    refine r_cV_I (pc := 23) [iv a1] S0 hK hX mv_X12_328 (k_X12_stampsIn h8) (c_X12_stampsIn l cA D N sx ad T A nx e5 w0 a1 ca1 e7 h8) rfl rfl ⟨by decide, by decide⟩ (Nat.le_of_ble_eq_true rfl) ⟨Nat.le_refl _, Nat.le_refl _⟩ dX12_when_23 (fun c9 => ?_)
    have hz := ok_some hf
    have hz : (e7, e5) = e := hz
    subst hQ
    subst hz
    exact r_iret (pc := 26) S0 hr hlk c9 dX12_when_26
  · refine r_bipush (pc := 14) S0 dX12_when_14 (by decide) ?_
    have hz := ok_some hf
    have hz : ((-2), I1) = e := hz
    subst hQ
    subst hz
    exact r_iret (pc := 16) S0 hr hlk (cnz (-2) rfl) dX12_when_16

set_option maxHeartbeats 4000000 in
set_option maxRecDepth 100000 in
theorem c_X12_why (l : Launch) (cA : Nat → ClassId) (D : va_G) (N : Nat) (sx : Sx) (ad : Nat → Nat) (T : Knd) (A : Rfs) (nx : Nat) (I : Mem) (w0 : Nat) (a1 : Int) (ca1 : cn a1) (e : (Int × Mem)) (h : f_X12_why T A w0 a1 I = some e) : CtI l yX12_why cX12_why 8 (some .int) 7 193 cA D N sx ad T A nx [rv ad w0, iv a1] I e.2 e.1 := by
  refine met_of (lv0 := [(0, rv ad w0), (1, iv a1)]) (by decide) (Nat.le_of_ble_eq_true rfl) rfl (fun p e0 s m args below meth c S0 hK hX hr hlk Q hQ => ?_)
  have hf : OK (f_X12_why T A w0 a1 I) (fun z => z = e) := ⟨e, h, rfl⟩
  unfold f_X12_why at hf
  obtain ⟨hw0, hf⟩ := ok_grd hf
  refine r_aload_n (pc := 0) S0 0 dX12_why_0 rfl rfl ?_
  refine r_iconst (pc := 1) S0 dX12_why_1 ?_
  refine r_putI (pc := 2) S0 hK fl_X12_89 rfl rfl (cnz 0 rfl) dX12_why_2 hf (fun I1 hf => ?_)
  refine r_aload_n (pc := 5) S0 0 dX12_why_5 rfl rfl ?_
  refine r_iload_n (pc := 6) S0 1 dX12_why_6 rfl rfl ?_
  refine r_i2l (pc := 7) S0 dX12_why_7 ca1 ?_
  obtain ⟨e2, h3, hf⟩ := ok_bind hf
  refine r_cV_I (pc := 8) [jv a1] S0 hK hX mv_X12_270 (k_X12_isOfficial h3) (c_X12_isOfficial l cA D N sx ad T A nx I1 w0 a1 (cl_cn ca1) e2 h3) rfl rfl ⟨by decide, by decide⟩ (Nat.le_of_ble_eq_true rfl) ⟨Nat.le_refl _, Nat.le_refl _⟩ dX12_why_8 (fun c4 => ?_)
  refine r_if_ne (pc := 11) (tgt := 17) S0 dX12_why_11 (by decide) c4 hf (fun hf => ?_) (fun hf => ?_)
  · refine r_aload_n (pc := 17) S0 0 dX12_why_17 rfl rfl ?_
    obtain ⟨e5, h6, hf⟩ := ok_bind hf
    refine r_cV_V (pc := 18) [] S0 hK hX mv_X12_334 (k_X12_lays h6) (c_X12_lays l cA D N sx ad T A nx I1 w0 e5 h6) rfl rfl ⟨by decide, by decide⟩ (Nat.le_of_ble_eq_true rfl) ⟨Nat.le_refl _, Nat.le_refl _⟩ dX12_why_18 ?_
    refine r_aload_n (pc := 21) S0 0 dX12_why_21 rfl rfl ?_
    refine r_iload_n (pc := 22) S0 1 dX12_why_22 rfl rfl ?_
    refine r_aload_n (pc := 23) S0 0 dX12_why_23 rfl rfl ?_
    refine r_getI (pc := 24) S0 hK fl_X12_300 dX12_why_24 hf (fun x7 c8 hf => ?_)
    obtain ⟨e9, h10, hf⟩ := ok_bind hf
    refine r_cV_I (pc := 27) [iv a1, iv x7] S0 hK hX mv_X12_312 (k_X12_isHeld h10) (c_X12_isHeld l cA D N sx ad T A nx e5 w0 a1 x7 ca1 c8 e9 h10) rfl rfl ⟨by decide, by decide⟩ (Nat.le_of_ble_eq_true rfl) ⟨Nat.le_refl _, Nat.le_refl _⟩ dX12_why_27 (fun c11 => ?_)
    refine r_if_eq (pc := 30) (tgt := 35) S0 dX12_why_30 (by decide) c11 hf (fun hf => ?_) (fun hf => ?_)
    · refine r_aload_n (pc := 35) S0 0 dX12_why_35 rfl rfl ?_
      refine r_getR (pc := 36) S0 hK fl_X12_56 dX12_why_36 hf (fun x12 hf => ?_)
      refine r_bipush (pc := 39) S0 dX12_why_39 (by decide) ?_
      refine r_aload_n (pc := 41) S0 0 dX12_why_41 rfl rfl ?_
      refine r_getI (pc := 42) S0 hK fl_X12_303 dX12_why_42 hf (fun x13 c14 hf => ?_)
      refine r_imul (pc := 45) S0 dX12_why_45 ?_
      refine r_aload_n (pc := 46) S0 0 dX12_why_46 rfl rfl ?_
      refine r_iload_n (pc := 47) S0 1 dX12_why_47 rfl rfl ?_
      refine r_iconst (pc := 48) S0 dX12_why_48 ?_
      obtain ⟨e15, h16, hf⟩ := ok_bind hf
      refine r_cV_I (pc := 49) [iv a1, iv 0] S0 hK hX mv_X12_275 (k_X12_of h16) (c_X12_of l cA D N sx ad T A nx e5 w0 a1 0 ca1 (cnz 0 rfl) e15 h16) rfl rfl ⟨by decide, by decide⟩ (Nat.le_of_ble_eq_true rfl) ⟨Nat.le_refl _, Nat.le_refl _⟩ dX12_why_49 (fun c17 => ?_)
      refine r_iadd (pc := 52) S0 dX12_why_52 ?_
      refine r_iald (pc := 53) S0 hK dX12_why_53 (cn_wrap _) hf (fun x18 c19 hf => ?_)
      refine r_istore_n (pc := 54) (lv' := [(2, iv x18), (0, rv ad w0), (1, iv a1)]) S0 dX12_why_54 rfl (by decide) rfl ?_
      refine r_iload_n (pc := 55) S0 0 dX12_why_55 rfl rfl ?_
      refine r_ldc (pc := 56) (z := 100000) S0 k_X12_139 dX12_why_56 (by decide) ?_
      refine r_icmp_lt (pc := 58) (tgt := 63) S0 dX12_why_58 (by decide) c19 (cnz 100000 rfl) hf (fun hf => ?_) (fun hf => ?_)
      · refine r_iconst (pc := 63) S0 dX12_why_63 ?_
        refine r_istore_n (pc := 64) (lv' := [(3, iv 0), (2, iv x18), (0, rv ad w0), (1, iv a1)]) S0 dX12_why_64 rfl (by decide) rfl ?_
        refine r_iconst (pc := 65) S0 dX12_why_65 ?_
        refine r_istore (pc := 66) (lv' := [(4, iv 0), (3, iv 0), (2, iv x18), (0, rv ad w0), (1, iv a1)]) S0 dX12_why_66 (by decide) rfl ?_
        refine r_iconst (pc := 68) S0 dX12_why_68 ?_
        refine r_istore (pc := 69) (lv' := [(5, iv 0), (4, iv 0), (3, iv 0), (2, iv x18), (0, rv ad w0), (1, iv a1)]) S0 dX12_why_69 (by decide) rfl ?_
        refine r_aload_n (pc := 71) S0 4 dX12_why_71 rfl rfl ?_
        refine r_getI (pc := 72) S0 hK fl_X12_300 dX12_why_72 hf (fun x20 c21 hf => ?_)
        refine r_iload_n (pc := 75) S0 3 dX12_why_75 rfl rfl ?_
        refine r_iadd (pc := 76) S0 dX12_why_76 ?_
        refine r_istore (pc := 77) (lv' := [(6, iv (ia x20 x18)), (5, iv 0), (4, iv 0), (3, iv 0), (2, iv x18), (0, rv ad w0), (1, iv a1)]) S0 dX12_why_77 (by decide) rfl ?_
        refine thn_rule (P := fun v23 => cn v23.1 → cn v23.2.1 → cn v23.2.2 → G p l e0 (rmx 7 193) s m args below meth c 0 0 Q cA D N 8 ad T A nx 160 [(3, iv v23.1), (4, iv v23.2.1), (5, iv v23.2.2)] [] e5) hf (fun v23 hf c24 c25 c26 => ?_) (fun K22 hf => ?_)
        · refine r_iload_n (pc := 160) S0 0 dX12_why_160 rfl rfl ?_
          refine r_if_ne (pc := 161) (tgt := 168) S0 dX12_why_161 (by decide) c24 hf (fun hf => ?_) (fun hf => ?_)
          · refine r_iload (pc := 168) S0 1 dX12_why_168 rfl ?_
            refine r_if_ne (pc := 170) (tgt := 177) S0 dX12_why_170 (by decide) c25 hf (fun hf => ?_) (fun hf => ?_)
            · refine r_iload (pc := 177) S0 2 dX12_why_177 rfl ?_
              refine r_if_eq (pc := 179) (tgt := 186) S0 dX12_why_179 (by decide) c26 hf (fun hf => ?_) (fun hf => ?_)
              · refine r_iconst (pc := 186) S0 dX12_why_186 ?_
                have hz := ok_some hf
                have hz : (5, e5) = e := hz
                subst hQ
                subst hz
                exact r_iret (pc := 187) S0 hr hlk (cnz 5 rfl) dX12_why_187
              · refine r_iconst (pc := 182) S0 dX12_why_182 ?_
                refine r_goto (pc := 183) (tgt := 187) S0 dX12_why_183 (by decide) ?_
                have hz := ok_some hf
                have hz : (0, e5) = e := hz
                subst hQ
                subst hz
                exact r_iret (pc := 187) S0 hr hlk (cnz 0 rfl) dX12_why_187
            · refine r_iconst (pc := 173) S0 dX12_why_173 ?_
              refine r_goto (pc := 174) (tgt := 187) S0 dX12_why_174 (by decide) ?_
              have hz := ok_some hf
              have hz : (4, e5) = e := hz
              subst hQ
              subst hz
              exact r_iret (pc := 187) S0 hr hlk (cnz 4 rfl) dX12_why_187
          · refine r_iconst (pc := 164) S0 dX12_why_164 ?_
            refine r_goto (pc := 165) (tgt := 187) S0 dX12_why_165 (by decide) ?_
            have hz := ok_some hf
            have hz : (3, e5) = e := hz
            subst hQ
            subst hz
            exact r_iret (pc := 187) S0 hr hlk (cnz 3 rfl) dX12_why_187
        · refine r_lv [5, 6, 3, 2, 1, 0] rfl ?_
          refine it_ind (P := fun s28 => cn s28.1 → cn s28.2.1 → cn s28.2.2.1 → cn s28.2.2.2 → G p l e0 (rmx 7 193) s m args below meth c 0 0 Q cA D N 8 ad T A nx 79 [(0, rv ad w0), (1, iv a1), (3, iv s28.1), (4, iv s28.2.1), (5, iv s28.2.2.1), (6, iv s28.2.2.2)] [] e5) (fun n0 s28 ih27 hf c29 c30 c31 c32 => ?_) FU (0, 0, 0, ia x20 x18) hf (cnz 0 rfl) (cnz 0 rfl) (cnz 0 rfl) (cn_wrap _)
          refine r_iload (pc := 79) S0 5 dX12_why_79 rfl ?_
          refine r_sipush (pc := 81) S0 dX12_why_81 (by decide) ?_
          refine r_icmp_ge (pc := 84) (tgt := 160) S0 dX12_why_84 (by decide) c32 (cnz 400 rfl) hf (fun hf => ?_) (fun hf => ?_)
          · have hz := ok_some hf
            refine r_lv [2, 3, 4] rfl ?_
            exact K22 (s28.1, s28.2.1, s28.2.2.1) hz c29 c30 c31
          · refine r_aload_n (pc := 87) S0 0 dX12_why_87 rfl rfl ?_
            refine r_iload_n (pc := 88) S0 1 dX12_why_88 rfl rfl ?_
            refine r_iload (pc := 89) S0 5 dX12_why_89 rfl ?_
            obtain ⟨e33, h34, hf⟩ := ok_bind hf
            refine r_cV_I (pc := 91) [iv a1, iv s28.2.2.2] S0 hK hX mv_X12_291 (k_X12_isOpen h34) (c_X12_isOpen l cA D N sx ad T A nx e5 w0 a1 s28.2.2.2 ca1 c32 e33 h34) rfl rfl ⟨by decide, by decide⟩ (Nat.le_of_ble_eq_true rfl) ⟨Nat.le_refl _, Nat.le_refl _⟩ dX12_why_91 (fun c35 => ?_)
            refine r_if_ne (pc := 94) (tgt := 100) S0 dX12_why_94 (by decide) c35 hf (fun hf => ?_) (fun hf => ?_)
            · refine r_aload_n (pc := 100) S0 0 dX12_why_100 rfl rfl ?_
              refine r_iload (pc := 101) S0 5 dX12_why_101 rfl ?_
              obtain ⟨e36, h37, hf⟩ := ok_bind hf
              refine r_cV_I (pc := 103) [iv s28.2.2.2] S0 hK hX mv_X12_315 (k_X12_heldIn h37) (c_X12_heldIn l cA D N sx ad T A nx e5 w0 s28.2.2.2 c32 e36 h37) rfl rfl ⟨by decide, by decide⟩ (Nat.le_of_ble_eq_true rfl) ⟨Nat.le_refl _, Nat.le_refl _⟩ dX12_why_103 (fun c38 => ?_)
              refine r_istore (pc := 106) (lv' := [(7, iv e36), (0, rv ad w0), (1, iv a1), (3, iv s28.1), (4, iv s28.2.1), (5, iv s28.2.2.1), (6, iv s28.2.2.2)]) S0 dX12_why_106 (by decide) rfl ?_
              refine r_iconst (pc := 108) S0 dX12_why_108 ?_
              refine r_istore_n (pc := 109) (lv' := [(3, iv 1), (7, iv e36), (0, rv ad w0), (1, iv a1), (4, iv s28.2.1), (5, iv s28.2.2.1), (6, iv s28.2.2.2)]) S0 dX12_why_109 rfl (by decide) rfl ?_
              refine r_aload_n (pc := 110) S0 2 dX12_why_110 rfl rfl ?_
              refine r_getR (pc := 111) S0 hK fl_X12_40 dX12_why_111 hf (fun x39 hf => ?_)
              refine r_iload_n (pc := 114) S0 3 dX12_why_114 rfl rfl ?_
              refine r_iald (pc := 115) S0 hK dX12_why_115 ca1 hf (fun x40 c41 hf => ?_)
              refine r_iload (pc := 116) S0 1 dX12_why_116 rfl ?_
              refine r_iconst (pc := 118) S0 dX12_why_118 ?_
              refine r_ixor (pc := 119) S0 dX12_why_119 ?_
              refine r_iand (pc := 120) S0 dX12_why_120 ?_
              refine r_if_eq (pc := 121) (tgt := 127) S0 dX12_why_121 (by decide) (cn_toInt _) hf (fun hf => ?_) (fun hf => ?_)
              · refine r_iconst (pc := 127) S0 dX12_why_127 ?_
                refine r_istore (pc := 128) (lv' := [(4, iv 1), (3, iv 1), (7, iv e36), (0, rv ad w0), (1, iv a1), (5, iv s28.2.2.1), (6, iv s28.2.2.2)]) S0 dX12_why_128 (by decide) rfl ?_
                refine r_iload (pc := 130) S0 5 dX12_why_130 rfl ?_
                refine r_if_ne (pc := 132) (tgt := 147) S0 dX12_why_132 (by decide) c31 hf (fun hf => ?_) (fun hf => ?_)
                · refine r_iconst (pc := 147) S0 dX12_why_147 ?_
                  refine r_goto (pc := 148) (tgt := 152) S0 dX12_why_148 (by decide) ?_
                  refine r_istore (pc := 152) (lv' := [(5, iv 1), (4, iv 1), (3, iv 1), (7, iv e36), (0, rv ad w0), (1, iv a1), (6, iv s28.2.2.2)]) S0 dX12_why_152 (by decide) rfl ?_
                  refine r_iinc (pc := 154) (lv' := [(6, iv (ia s28.2.2.2 1)), (5, iv 1), (4, iv 1), (3, iv 1), (7, iv e36), (0, rv ad w0), (1, iv a1)]) S0 6 dX12_why_154 rfl (by decide) rfl ?_
                  refine r_goto (pc := 157) (tgt := 79) S0 dX12_why_157 (by decide) ?_
                  have hz := ok_some hf
                  refine r_lv [5, 6, 3, 2, 1, 0] rfl ?_
                  exact ih27 (1, 1, 1, ia s28.2.2.2 1) hz (cnz 1 rfl) (cnz 1 rfl) (cnz 1 rfl) (cn_wrap _)
                · refine r_aload_n (pc := 135) S0 3 dX12_why_135 rfl rfl ?_
                  refine r_getR (pc := 136) S0 hK fl_X12_43 dX12_why_136 hf (fun x42 hf => ?_)
                  refine r_iload_n (pc := 139) S0 4 dX12_why_139 rfl rfl ?_
                  refine r_iald (pc := 140) S0 hK dX12_why_140 ca1 hf (fun x43 c44 hf => ?_)
                  refine r_iload (pc := 141) S0 2 dX12_why_141 rfl ?_
                  refine r_iand (pc := 143) S0 dX12_why_143 ?_
                  refine r_if_ne (pc := 144) (tgt := 151) S0 dX12_why_144 (by decide) (cn_toInt _) hf (fun hf => ?_) (fun hf => ?_)
                  · refine r_iconst (pc := 151) S0 dX12_why_151 ?_
                    refine r_istore (pc := 152) (lv' := [(5, iv 0), (4, iv 1), (3, iv 1), (7, iv e36), (0, rv ad w0), (1, iv a1), (6, iv s28.2.2.2)]) S0 dX12_why_152 (by decide) rfl ?_
                    refine r_iinc (pc := 154) (lv' := [(6, iv (ia s28.2.2.2 1)), (5, iv 0), (4, iv 1), (3, iv 1), (7, iv e36), (0, rv ad w0), (1, iv a1)]) S0 6 dX12_why_154 rfl (by decide) rfl ?_
                    refine r_goto (pc := 157) (tgt := 79) S0 dX12_why_157 (by decide) ?_
                    have hz := ok_some hf
                    refine r_lv [5, 6, 3, 2, 1, 0] rfl ?_
                    exact ih27 (1, 1, 0, ia s28.2.2.2 1) hz (cnz 1 rfl) (cnz 1 rfl) (cnz 0 rfl) (cn_wrap _)
                  · refine r_iconst (pc := 147) S0 dX12_why_147 ?_
                    refine r_goto (pc := 148) (tgt := 152) S0 dX12_why_148 (by decide) ?_
                    refine r_istore (pc := 152) (lv' := [(5, iv 1), (4, iv 1), (3, iv 1), (7, iv e36), (0, rv ad w0), (1, iv a1), (6, iv s28.2.2.2)]) S0 dX12_why_152 (by decide) rfl ?_
                    refine r_iinc (pc := 154) (lv' := [(6, iv (ia s28.2.2.2 1)), (5, iv 1), (4, iv 1), (3, iv 1), (7, iv e36), (0, rv ad w0), (1, iv a1)]) S0 6 dX12_why_154 rfl (by decide) rfl ?_
                    refine r_goto (pc := 157) (tgt := 79) S0 dX12_why_157 (by decide) ?_
                    have hz := ok_some hf
                    refine r_lv [5, 6, 3, 2, 1, 0] rfl ?_
                    exact ih27 (1, 1, 1, ia s28.2.2.2 1) hz (cnz 1 rfl) (cnz 1 rfl) (cnz 1 rfl) (cn_wrap _)
              · refine r_goto (pc := 124) (tgt := 154) S0 dX12_why_124 (by decide) ?_
                refine r_iinc (pc := 154) (lv' := [(6, iv (ia s28.2.2.2 1)), (3, iv 1), (7, iv e36), (0, rv ad w0), (1, iv a1), (4, iv s28.2.1), (5, iv s28.2.2.1)]) S0 6 dX12_why_154 rfl (by decide) rfl ?_
                refine r_goto (pc := 157) (tgt := 79) S0 dX12_why_157 (by decide) ?_
                have hz := ok_some hf
                refine r_lv [3, 4, 1, 5, 6, 0] rfl ?_
                exact ih27 (1, s28.2.1, s28.2.2.1, ia s28.2.2.2 1) hz (cnz 1 rfl) c30 c31 (cn_wrap _)
            · refine r_goto (pc := 97) (tgt := 154) S0 dX12_why_97 (by decide) ?_
              refine r_iinc (pc := 154) (lv' := [(6, iv (ia s28.2.2.2 1)), (0, rv ad w0), (1, iv a1), (3, iv s28.1), (4, iv s28.2.1), (5, iv s28.2.2.1)]) S0 5 dX12_why_154 rfl (by decide) rfl ?_
              refine r_goto (pc := 157) (tgt := 79) S0 dX12_why_157 (by decide) ?_
              have hz := ok_some hf
              refine r_lv [1, 2, 3, 4, 5, 0] rfl ?_
              exact ih27 (s28.1, s28.2.1, s28.2.2.1, ia s28.2.2.2 1) hz c29 c30 c31 (cn_wrap _)
      · refine r_iconst (pc := 61) S0 dX12_why_61 ?_
        have hz := ok_some hf
        have hz : (2, e5) = e := hz
        subst hQ
        subst hz
        exact r_iret (pc := 62) S0 hr hlk (cnz 2 rfl) dX12_why_62
    · refine r_iconst (pc := 33) S0 dX12_why_33 ?_
      have hz := ok_some hf
      have hz : (1, e5) = e := hz
      subst hQ
      subst hz
      exact r_iret (pc := 34) S0 hr hlk (cnz 1 rfl) dX12_why_34
  · refine r_bipush (pc := 14) S0 dX12_why_14 (by decide) ?_
    have hz := ok_some hf
    have hz : ((-2), I1) = e := hz
    subst hQ
    subst hz
    exact r_iret (pc := 16) S0 hr hlk (cnz (-2) rfl) dX12_why_16

set_option maxHeartbeats 4000000 in
set_option maxRecDepth 100000 in
theorem c_X12_canNow (l : Launch) (cA : Nat → ClassId) (D : va_G) (N : Nat) (sx : Sx) (ad : Nat → Nat) (T : Knd) (A : Rfs) (nx : Nat) (I : Mem) (w0 : Nat)  (e : Int) (h : f_X12_canNow T A w0 I = some e) : CtI l yX12_canNow cX12_canNow 3 (some .int) 6 172 cA D N sx ad T A nx [rv ad w0] I I e := by
  refine met_of (lv0 := [(0, rv ad w0)]) (by decide) (Nat.le_of_ble_eq_true rfl) rfl (fun p e0 s m args below meth c S0 hK hX hr hlk Q hQ => ?_)
  have hf : OK (f_X12_canNow T A w0 I) (fun z => z = e) := ⟨e, h, rfl⟩
  unfold f_X12_canNow at hf
  obtain ⟨hw0, hf⟩ := ok_grd hf
  refine r_iconst (pc := 0) S0 dX12_canNow_0 ?_
  refine r_istore_n (pc := 1) (lv' := [(1, iv 0), (0, rv ad w0)]) S0 dX12_canNow_1 rfl (by decide) rfl ?_
  refine r_iconst (pc := 2) S0 dX12_canNow_2 ?_
  refine r_istore_n (pc := 3) (lv' := [(2, iv 0), (1, iv 0), (0, rv ad w0)]) S0 dX12_canNow_3 rfl (by decide) rfl ?_
  refine r_lv [2, 1, 0] rfl ?_
  refine it_ind (P := fun s2 => cn s2.1 → cn s2.2 → G p l e0 (rmx 6 172) s m args below meth c 0 0 Q cA D N 3 ad T A nx 4 [(0, rv ad w0), (1, iv s2.1), (2, iv s2.2)] [] I) (fun n0 s2 ih1 hf c3 c4 => ?_) FU (0, 0) hf (cnz 0 rfl) (cnz 0 rfl)
  refine r_iload_n (pc := 4) S0 2 dX12_canNow_4 rfl rfl ?_
  refine r_aload_n (pc := 5) S0 0 dX12_canNow_5 rfl rfl ?_
  refine r_getR (pc := 6) S0 hK fl_X12_34 dX12_canNow_6 hf (fun x5 hf => ?_)
  refine r_iconst (pc := 9) S0 dX12_canNow_9 ?_
  refine r_iald (pc := 10) S0 hK dX12_canNow_10 (cnz 3 rfl) hf (fun x6 c7 hf => ?_)
  refine r_icmp_ge (pc := 11) (tgt := 39) S0 dX12_canNow_11 (by decide) c4 c7 hf (fun hf => ?_) (fun hf => ?_)
  · refine r_iload_n (pc := 39) S0 1 dX12_canNow_39 rfl rfl ?_
    have hz := ok_some hf
    have hz : s2.1 = e := hz
    subst hQ
    subst hz
    exact r_iret (pc := 40) S0 hr hlk c3 dX12_canNow_40
  · refine r_iload_n (pc := 14) S0 1 dX12_canNow_14 rfl rfl ?_
    refine r_aload_n (pc := 15) S0 0 dX12_canNow_15 rfl rfl ?_
    refine r_iload_n (pc := 16) S0 2 dX12_canNow_16 rfl rfl ?_
    obtain ⟨e8, h9, hf⟩ := ok_bind hf
    refine r_cV_I (pc := 17) [iv s2.2] S0 hK hX mv_X12_328 (k_X12_stampsIn h9) (c_X12_stampsIn l cA D N sx ad T A nx I w0 s2.2 c4 e8 h9) rfl rfl ⟨by decide, by decide⟩ (Nat.le_of_ble_eq_true rfl) ⟨Nat.le_refl _, Nat.le_refl _⟩ dX12_canNow_17 (fun c10 => ?_)
    refine r_iconst (pc := 20) S0 dX12_canNow_20 ?_
    refine thn_rule (P := fun v12 => cn v12 → G p l e0 (rmx 6 172) s m args below meth c 0 0 Q cA D N 3 ad T A nx 31 [(0, rv ad w0), (2, iv s2.2)] [iv v12, iv s2.1] I) hf (fun v12 hf c13 => ?_) (fun K11 hf => ?_)
    · refine r_ior (pc := 31) S0 dX12_canNow_31 ?_
      refine r_istore_n (pc := 32) (lv' := [(1, iv (ior s2.1 v12)), (0, rv ad w0), (2, iv s2.2)]) S0 dX12_canNow_32 rfl (by decide) rfl ?_
      refine r_iinc (pc := 33) (lv' := [(2, iv (ia s2.2 1)), (1, iv (ior s2.1 v12)), (0, rv ad w0)]) S0 2 dX12_canNow_33 rfl (by decide) rfl ?_
      refine r_goto (pc := 36) (tgt := 4) S0 dX12_canNow_36 (by decide) ?_
      have hz := ok_some hf
      refine r_lv [2, 1, 0] rfl ?_
      exact ih1 (ior s2.1 v12, ia s2.2 1) hz (cn_toInt _) (cn_wrap _)
    · refine r_icmp_eq (pc := 21) (tgt := 30) S0 dX12_canNow_21 (by decide) c10 (cnz (-1) rfl) hf (fun hf => ?_) (fun hf => ?_)
      · refine r_iconst (pc := 30) S0 dX12_canNow_30 ?_
        have hz := ok_some hf
        refine r_lv [0, 2] rfl ?_
        exact K11 0 hz (cnz 0 rfl)
      · refine r_iconst (pc := 24) S0 dX12_canNow_24 ?_
        refine r_iload_n (pc := 25) S0 2 dX12_canNow_25 rfl rfl ?_
        refine r_ishl (pc := 26) S0 dX12_canNow_26 ?_
        refine r_goto (pc := 27) (tgt := 31) S0 dX12_canNow_27 (by decide) ?_
        have hz := ok_some hf
        refine r_lv [0, 2] rfl ?_
        exact K11 (ishl 1 s2.2) hz (cn_toInt _)

set_option maxHeartbeats 4000000 in
set_option maxRecDepth 100000 in
theorem c_X12_can (l : Launch) (cA : Nat → ClassId) (D : va_G) (N : Nat) (sx : Sx) (ad : Nat → Nat) (T : Knd) (A : Rfs) (nx : Nat) (I : Mem) (w0 : Nat)  (e : (Int × Mem)) (h : f_X12_can T A w0 I = some e) : CtI l yX12_can cX12_can 1 (some .int) 7 194 cA D N sx ad T A nx [rv ad w0] I e.2 e.1 := by
  refine met_of (lv0 := [(0, rv ad w0)]) (by decide) (Nat.le_of_ble_eq_true rfl) rfl (fun p e0 s m args below meth c S0 hK hX hr hlk Q hQ => ?_)
  have hf : OK (f_X12_can T A w0 I) (fun z => z = e) := ⟨e, h, rfl⟩
  unfold f_X12_can at hf
  obtain ⟨hw0, hf⟩ := ok_grd hf
  refine r_aload_n (pc := 0) S0 0 dX12_can_0 rfl rfl ?_
  refine r_iconst (pc := 1) S0 dX12_can_1 ?_
  refine r_putI (pc := 2) S0 hK fl_X12_89 rfl rfl (cnz 0 rfl) dX12_can_2 hf (fun I1 hf => ?_)
  refine r_aload_n (pc := 5) S0 0 dX12_can_5 rfl rfl ?_
  obtain ⟨e2, h3, hf⟩ := ok_bind hf
  refine r_cV_I (pc := 6) [] S0 hK hX mv_X12_267 (k_X12_isOffice h3) (c_X12_isOffice l cA D N sx ad T A nx I1 w0 e2 h3) rfl rfl ⟨by decide, by decide⟩ (Nat.le_of_ble_eq_true rfl) ⟨Nat.le_refl _, Nat.le_refl _⟩ dX12_can_6 (fun c4 => ?_)
  refine r_if_ne (pc := 9) (tgt := 15) S0 dX12_can_9 (by decide) c4 hf (fun hf => ?_) (fun hf => ?_)
  · refine r_aload_n (pc := 15) S0 0 dX12_can_15 rfl rfl ?_
    obtain ⟨e5, h6, hf⟩ := ok_bind hf
    refine r_cV_V (pc := 16) [] S0 hK hX mv_X12_334 (k_X12_lays h6) (c_X12_lays l cA D N sx ad T A nx I1 w0 e5 h6) rfl rfl ⟨by decide, by decide⟩ (Nat.le_of_ble_eq_true rfl) ⟨Nat.le_refl _, Nat.le_refl _⟩ dX12_can_16 ?_
    refine r_aload_n (pc := 19) S0 0 dX12_can_19 rfl rfl ?_
    obtain ⟨e7, h8, hf⟩ := ok_bind hf
    refine r_cV_I (pc := 20) [] S0 hK hX mv_X12_340 (k_X12_canNow h8) (c_X12_canNow l cA D N sx ad T A nx e5 w0 e7 h8) rfl rfl ⟨by decide, by decide⟩ (Nat.le_of_ble_eq_true rfl) ⟨Nat.le_refl _, Nat.le_refl _⟩ dX12_can_20 (fun c9 => ?_)
    have hz := ok_some hf
    have hz : (e7, e5) = e := hz
    subst hQ
    subst hz
    exact r_iret (pc := 23) S0 hr hlk c9 dX12_can_23
  · refine r_bipush (pc := 12) S0 dX12_can_12 (by decide) ?_
    have hz := ok_some hf
    have hz : ((-2), I1) = e := hz
    subst hQ
    subst hz
    exact r_iret (pc := 14) S0 hr hlk (cnz (-2) rfl) dX12_can_14

set_option maxHeartbeats 4000000 in
set_option maxRecDepth 100000 in
theorem c_X12_go (l : Launch) (cA : Nat → ClassId) (D : va_G) (N : Nat) (sx : Sx) (ad : Nat → Nat) (T : Knd) (A : Rfs) (nx : Nat) (I : Mem) (w0 : Nat) (a1 : Int) (ca1 : cn a1) (e : (Int × Mem)) (h : f_X12_go T A w0 a1 I = some e) : CtI l yX12_go cX12_go 3 (some .int) 7 193 cA D N sx ad T A nx [rv ad w0, iv a1] I e.2 e.1 := by
  refine met_of (lv0 := [(0, rv ad w0), (1, iv a1)]) (by decide) (Nat.le_of_ble_eq_true rfl) rfl (fun p e0 s m args below meth c S0 hK hX hr hlk Q hQ => ?_)
  have hf : OK (f_X12_go T A w0 a1 I) (fun z => z = e) := ⟨e, h, rfl⟩
  unfold f_X12_go at hf
  obtain ⟨hw0, hf⟩ := ok_grd hf
  refine r_aload_n (pc := 0) S0 0 dX12_go_0 rfl rfl ?_
  refine r_iconst (pc := 1) S0 dX12_go_1 ?_
  refine r_putI (pc := 2) S0 hK fl_X12_89 rfl rfl (cnz 0 rfl) dX12_go_2 hf (fun I1 hf => ?_)
  refine r_aload_n (pc := 5) S0 0 dX12_go_5 rfl rfl ?_
  refine r_iload_n (pc := 6) S0 1 dX12_go_6 rfl rfl ?_
  refine r_i2l (pc := 7) S0 dX12_go_7 ca1 ?_
  obtain ⟨e2, h3, hf⟩ := ok_bind hf
  refine r_cV_I (pc := 8) [jv a1] S0 hK hX mv_X12_270 (k_X12_isOfficial h3) (c_X12_isOfficial l cA D N sx ad T A nx I1 w0 a1 (cl_cn ca1) e2 h3) rfl rfl ⟨by decide, by decide⟩ (Nat.le_of_ble_eq_true rfl) ⟨Nat.le_refl _, Nat.le_refl _⟩ dX12_go_8 (fun c4 => ?_)
  refine r_if_ne (pc := 11) (tgt := 17) S0 dX12_go_11 (by decide) c4 hf (fun hf => ?_) (fun hf => ?_)
  · refine r_aload_n (pc := 17) S0 0 dX12_go_17 rfl rfl ?_
    obtain ⟨e5, h6, hf⟩ := ok_bind hf
    refine r_cV_V (pc := 18) [] S0 hK hX mv_X12_334 (k_X12_lays h6) (c_X12_lays l cA D N sx ad T A nx I1 w0 e5 h6) rfl rfl ⟨by decide, by decide⟩ (Nat.le_of_ble_eq_true rfl) ⟨Nat.le_refl _, Nat.le_refl _⟩ dX12_go_18 ?_
    refine r_aload_n (pc := 21) S0 0 dX12_go_21 rfl rfl ?_
    refine r_iload_n (pc := 22) S0 1 dX12_go_22 rfl rfl ?_
    obtain ⟨e7, h8, hf⟩ := ok_bind hf
    refine r_cV_I (pc := 23) [iv a1] S0 hK hX mv_X12_328 (k_X12_stampsIn h8) (c_X12_stampsIn l cA D N sx ad T A nx e5 w0 a1 ca1 e7 h8) rfl rfl ⟨by decide, by decide⟩ (Nat.le_of_ble_eq_true rfl) ⟨Nat.le_refl _, Nat.le_refl _⟩ dX12_go_23 (fun c9 => ?_)
    refine r_istore_n (pc := 26) (lv' := [(2, iv e7), (0, rv ad w0), (1, iv a1)]) S0 dX12_go_26 rfl (by decide) rfl ?_
    refine r_iload_n (pc := 27) S0 0 dX12_go_27 rfl rfl ?_
    refine r_iconst (pc := 28) S0 dX12_go_28 ?_
    refine r_icmp_eq (pc := 29) (tgt := 43) S0 dX12_go_29 (by decide) c9 (cnz (-1) rfl) hf (fun hf => ?_) (fun hf => ?_)
    · refine r_bipush (pc := 43) S0 dX12_go_43 (by decide) ?_
      have hz := ok_some hf
      have hz : ((-5), e5) = e := hz
      subst hQ
      subst hz
      exact r_iret (pc := 45) S0 hr hlk (cnz (-5) rfl) dX12_go_45
    · refine r_aload_n (pc := 32) S0 1 dX12_go_32 rfl rfl ?_
      refine r_getR (pc := 33) S0 hK fl_X12_34 dX12_go_33 hf (fun x10 hf => ?_)
      refine r_iconst (pc := 36) S0 dX12_go_36 ?_
      refine r_iald (pc := 37) S0 hK dX12_go_37 (cnz 5 rfl) hf (fun x11 c12 hf => ?_)
      refine r_bipush (pc := 38) S0 dX12_go_38 (by decide) ?_
      refine r_icmp_ne (pc := 40) (tgt := 46) S0 dX12_go_40 (by decide) c12 (cnz 40 rfl) hf (fun hf => ?_) (fun hf => ?_)
      · refine r_aload_n (pc := 46) S0 1 dX12_go_46 rfl rfl ?_
        refine r_getR (pc := 47) S0 hK fl_X12_49 dX12_go_47 hf (fun x13 hf => ?_)
        refine r_aload_n (pc := 50) S0 1 dX12_go_50 rfl rfl ?_
        refine r_getR (pc := 51) S0 hK fl_X12_34 dX12_go_51 hf (fun x14 hf => ?_)
        refine r_iconst (pc := 54) S0 dX12_go_54 ?_
        refine r_iald (pc := 55) S0 hK dX12_go_55 (cnz 5 rfl) hf (fun x15 c16 hf => ?_)
        refine r_iload_n (pc := 56) S0 2 dX12_go_56 rfl rfl ?_
        refine r_iast (pc := 57) S0 hK dX12_go_57 c16 ca1 hf (fun I17 hf => ?_)
        refine r_aload_n (pc := 58) S0 1 dX12_go_58 rfl rfl ?_
        refine r_getR (pc := 59) S0 hK fl_X12_34 dX12_go_59 hf (fun x18 hf => ?_)
        refine r_iconst (pc := 62) S0 dX12_go_62 ?_
        refine r_dup2 (pc := 63) S0 dX12_go_63 rfl rfl ?_
        refine r_iald (pc := 64) S0 hK dX12_go_64 (cnz 5 rfl) hf (fun x19 c20 hf => ?_)
        refine r_iconst (pc := 65) S0 dX12_go_65 ?_
        refine r_iadd (pc := 66) S0 dX12_go_66 ?_
        refine r_iast (pc := 67) S0 hK dX12_go_67 (cnz 5 rfl) (cn_wrap _) hf (fun I21 hf => ?_)
        refine r_iload_n (pc := 68) S0 0 dX12_go_68 rfl rfl ?_
        have hz := ok_some hf
        have hz : (e7, I21) = e := hz
        subst hQ
        subst hz
        exact r_iret (pc := 69) S0 hr hlk c9 dX12_go_69
      · refine r_bipush (pc := 43) S0 dX12_go_43 (by decide) ?_
        have hz := ok_some hf
        have hz : ((-5), e5) = e := hz
        subst hQ
        subst hz
        exact r_iret (pc := 45) S0 hr hlk (cnz (-5) rfl) dX12_go_45
  · refine r_bipush (pc := 14) S0 dX12_go_14 (by decide) ?_
    have hz := ok_some hf
    have hz : ((-2), I1) = e := hz
    subst hQ
    subst hz
    exact r_iret (pc := 16) S0 hr hlk (cnz (-2) rfl) dX12_go_16
