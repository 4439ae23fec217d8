/-! String constants: how long, which byte; the JDK's methods that tell it. -/
def slen (i : Nat) : Option Int := if i < 17 then some ((lenS.getD i 0 : Nat) : Int) else none
def sch (i : Nat) (j : Int) : Option Int := if i < 17 ∧ 0 ≤ j ∧ j < ((lenS.getD i 0 : Nat) : Int) then some (((bytS.getD i []).getD j.toNat 0).toInt) else none
def i2c (a : Int) : Int := ((Int32.ofInt a).toUInt32 % 65536).toInt32.toInt
section GR6
variable {p : Program} {l : Launch} {e : Env} {R : Room} {s : State} {m : MethodId} {args : Array Value} {below : List Frame} {meth : Method} {c : Code} {cells slots : Nat} {Q : State → Prop} {cA : Nat → ClassId} {D : va_G} {N nL : Nat} {ad : Nat → Nat} {T : Knd} {A : Rfs} {nx : Nat} {pc : Nat} {lv lv' : List (Nat × Value)} {st : List Value} {I : Mem}
variable {cc : ByteArray} {own : String} {sx : Sx}

theorem r_ldcs (S : CallFix p m c cc nL s args gT own) (hX : XX sx N s) {i index : Nat} {q : Nat × String} (hi : strs[i]? = some q) (hq : (RX4, q.1) = (own, index)) (hd : decode cc pc = .ok (.ldc index, 2)) (kk : G p l e R s m args below meth c cells slots Q cA D N nL ad T A nx (pc + 2) lv (.ref (sx.1 i) :: st) I) : G p l e R s m args below meth c cells slots Q cA D N nL ad T A nx (pc) lv (st) I := by
  cases hq
  exact fun H locs ls hH hS hl => va_ldcS S.1 S.2.1 S.2.2.2.1 (hX.2.2.1 i q hi) hd (kk H locs ls hH hS hl)
theorem r_sgv (S : CallFix p m c cc nL s args gT own) (hX : XX sx N s) {i index : Nat} (hi : i < 17) (hlk : Cond.fieldLink own index "java/lang/String" "value" "[B" ∈ gT) (hd : decode cc pc = .ok (.getfield index, 3)) (kk : G p l e R s m args below meth c cells slots Q cA D N nL ad T A nx (pc + 3) lv (.ref (sx.2 i) :: st) I) : G p l e R s m args below meth c cells slots Q cA D N nL ad T A nx (pc) lv (.ref (sx.1 i) :: st) I :=
  fun H locs ls hH hS hl => vk_getf S.1 S.2.1 (hX.2.1.1 i hi).2.2.1 hS S.2.2.2.1 (S.2.2.2.2 _ hlk) (fun _ h => h) hd (kk H locs ls hH hS hl)
theorem r_sgc (S : CallFix p m c cc nL s args gT own) (hX : XX sx N s) {i index : Nat} (hi : i < 17) (hlk : Cond.fieldLink own index "java/lang/String" "coder" "B" ∈ gT) (hd : decode cc pc = .ok (.getfield index, 3)) (kk : G p l e R s m args below meth c cells slots Q cA D N nL ad T A nx (pc + 3) lv (iv 0 :: st) I) : G p l e R s m args below meth c cells slots Q cA D N nL ad T A nx (pc) lv (.ref (sx.1 i) :: st) I :=
  fun H locs ls hH hS hl => vk_getf S.1 S.2.1 (hX.2.1.1 i hi).2.1 hS S.2.2.2.1 (S.2.2.2.2 _ hlk) (fun _ h => h) hd (kk H locs ls hH hS hl)
theorem r_cst (S : CallFix p m c cc nL s args gT own) (hX : XX sx N s) {index : Nat} (hlk : Cond.fieldLink own index "java/lang/String" "COMPACT_STRINGS" "Z" ∈ gT) (hd : decode cc pc = .ok (.getstatic index, 3)) (kk : G p l e R s m args below meth c cells slots Q cA D N nL ad T A nx (pc + 3) lv (iv 1 :: st) I) : G p l e R s m args below meth c cells slots Q cA D N nL ad T A nx (pc) lv (st) I :=
  fun H locs ls hH hS hl => va_gets S.1 S.2.1 hX.2.2.2.1 hS S.2.2.2.1 (S.2.2.2.2 _ hlk) (fun _ h => h) hd (kk H locs ls hH hS hl)
theorem r_sio (S : CallFix p m c cc nL s args gT own) (hX : XX sx N s) {index : Nat} (hlk : Cond.fieldLink own index "jdk/internal/util/Preconditions" "SIOOBE_FORMATTER" "Ljava/util/function/BiFunction;" ∈ gT) (hd : decode cc pc = .ok (.getstatic index, 3)) (kk : ∀ v, G p l e R s m args below meth c cells slots Q cA D N nL ad T A nx (pc + 3) lv (va_rf v :: st) I) : G p l e R s m args below meth c cells slots Q cA D N nL ad T A nx (pc) lv (st) I := by
  obtain ⟨v, hv⟩ := hX.2.2.2.2
  exact fun H locs ls hH hS hl => va_gets S.1 S.2.1 hv hS S.2.2.2.1 (S.2.2.2.2 _ hlk) (fun _ h => h) hd (kk v H locs ls hH hS hl)
theorem r_sal (S : CallFix p m c cc nL s args gT own) (hX : XX sx N s) {i : Nat} (hi : i < 17) (hd : decode cc pc = .ok (.arraylength, 1)) (kk : G p l e R s m args below meth c cells slots Q cA D N nL ad T A nx (pc + 1) lv (iv ((lenS.getD i 0 : Nat) : Int) :: st) I) : G p l e R s m args below meth c cells slots Q cA D N nL ad T A nx (pc) lv (.ref (sx.2 i) :: st) I :=
  fun H locs ls hH hS hl => va_tlen S.1 S.2.1 (hX.2.1.1 i hi).2.2.2 hS (v := Int32.ofInt ((lenS.getD i 0 : Nat) : Int)) rfl hd (kk H locs ls hH hS hl)
theorem r_sbl (S : CallFix p m c cc nL s args gT own) (hX : XX sx N s) {i : Nat} {j : Int} (hi : i < 17) (cj : cn j) (h0 : 0 ≤ j) (h1 : j < ((lenS.getD i 0 : Nat) : Int)) (hd : decode cc pc = .ok (.baload, 1)) (kk : G p l e R s m args below meth c cells slots Q cA D N nL ad T A nx (pc + 1) lv (iv ((bytS.getD i []).getD j.toNat 0).toInt :: st) I) : G p l e R s m args below meth c cells slots Q cA D N nL ad T A nx (pc) lv (iv j :: .ref (sx.2 i) :: st) I :=
  fun H locs ls hH hS hl => va_tb S.1 S.2.1 (hX.2.1.1 i hi).2.2.2 hS (vin cj h0 h1) (v := iv ((bytS.getD i []).getD j.toNat 0).toInt) (by rw [tnc cj, iv, ofInt_toInt32]) hd (kk H locs ls hH hS hl)
theorem r_i2c (S : CallFix p m c cc nL s args gT own) {x : Int} (hd : decode cc pc = .ok (.i2c, 1)) (kk : G p l e R s m args below meth c cells slots Q cA D N nL ad T A nx (pc + 1) lv (iv (i2c x) :: st) I) : G p l e R s m args below meth c cells slots Q cA D N nL ad T A nx (pc) lv (iv x :: st) I :=
  fun H locs ls hH hS hl => lv_i2c (v := Int32.ofInt (i2c x)) S.1 S.2.1 hd (by unfold i2c; rw [ofInt_toInt32]) (kk H locs ls hH hS hl)
/-- a call on a String constant -/
def MVs (own : String) (index : Nat) (y : MethodName) (bytes : ByteArray) (maxL : Nat) (ret : Option FieldType) (n : Nat) : Prop := MB own index y bytes maxL ret n ∧ Cond.instanceMethod y ∈ gT ∧ Cond.selects "java/lang/String" y y ∈ gT
theorem r_cVs {y : MethodName} {bytes : ByteArray} {maxL n index fr lo : Nat} {ret : Option FieldType} (As : List Value) (S : CallFix p m c cc nL s args gT own) (hK : va_K D vwCl (tyl cA) s) (hX : XX sx N s) {i : Nat} (hi : i < 17) (hm : MVs own index y bytes maxL ret n) {st0 : List Value} {I' : Mem} {r : Int} (hM : CtI l y bytes maxL ret fr lo cA D N sx ad T A nx (.ref (sx.1 i) :: As) I I' r) (hn : As.length = n) (hst : st0 = As.reverse ++ .ref (sx.1 i) :: st) (hR : fr + 1 ≤ R.frames ∧ 8 + (maxL + 11) + lo ≤ R.locals) (hcat : (st.map fun v => v.category).sum ≤ 8) (hcs : cells ≤ R.cells ∧ slots ≤ R.slots) (hd : decode cc pc = .ok (.invokevirtual index, 3)) (kk : cn r → G p l e R s m args below meth c cells slots Q cA D N nL ad T A nx (pc + 3) lv (iv r :: st) I') : G p l e R s m args below meth c cells slots Q cA D N nL ad T A nx (pc) lv (st0) I := by
  intro H locs ls hH hS hl
  have hrecv := vk_recv hX.2.1 hi hS
  refine va_calli (va_runV (As := As) (rest := st) (C := "java/lang/String") ⟨S.1, S.2.1, S.2.2.1, S.2.2.2.1, S.2.2.2.2⟩ hM ⟨cb_of S.2.2.2.2 hm.1 hR, S.2.2.2.2 _ hm.2.1, S.2.2.2.2 _ hm.2.2⟩ ⟨pre_blind, hrecv, fun U hU hW => ⟨rfl, pre_here hX hK hH hS hU hW⟩⟩ rfl hn hl.1 hst (lv_room hcat) hd hcs) hS (fun q _ h => h) (fun q h => h) (fun r0 u t H1 locs1 ht hvm hw hB hz1 hk1 hS1 => ?_)
  rw [hw.1]
  exact kk hw.2 H1 locs1 ls (by rw [← ht]; exact hB) hS1 hl
theorem r_nret {r : Int} {ty : FieldType} (S : CallFix p m c cc nL s args gT own) (hr : meth.sig.returnType = some ty) (hlk : meth.locks = false) (hn : narrow ty (iv r) = iv r) (cr : cn r) (hd : decode cc pc = .ok (.ireturn, 1)) : G p l e R s m args below meth c cells slots (MQ below (va_Qi (S := Unit) (fun z _ => z = Int32.ofInt r ∧ cn r) (fun _ t => HP cA D ad T A nx N I t.heap) (A0 N)) args s cells slots (A0 N)) cA D N nL ad T A nx pc lv [iv r] I :=
  fun H locs ls hH hS hl => W.zret S.1 S.2.1 hr hn (fun t ht hW => ⟨⟨Int32.ofInt r, (), rfl, ⟨rfl, cr⟩, by show HP cA D ad T A nx N I t.heap; rw [ht]; exact hH⟩, hS.F ht⟩) hS.2.2 hd
end GR6
set_option maxRecDepth 20000 in
theorem sl_X8_41 : MVs RX8 41 yJ0_length_8abf5 cJ0_length_8abf5 1 (some .int) 0 := ⟨⟨gm 480 (by decide +kernel) rfl, gm 483 (by decide +kernel) rfl, gm 16 (by decide +kernel) rfl, by decide +kernel, by decide +kernel, by decide +kernel⟩, gm 481 (by decide +kernel) rfl, gm 482 (by decide +kernel) rfl⟩
set_option maxRecDepth 20000 in
theorem sc_X8_46 : MVs RX8 46 yJ0_charAt_5068e cJ0_charAt_5068e 2 (some .char) 1 := ⟨⟨gm 490 (by decide +kernel) rfl, gm 493 (by decide +kernel) rfl, gm 16 (by decide +kernel) rfl, by decide +kernel, by decide +kernel, by decide +kernel⟩, gm 491 (by decide +kernel) rfl, gm 492 (by decide +kernel) rfl⟩
set_option maxRecDepth 20000 in
theorem mvs_coder : MVs RJ0 335 yJ0_coder_7d493 cJ0_coder_7d493 1 (some .byte) 0 := ⟨⟨gm 484 (by decide +kernel) rfl, gm 487 (by decide +kernel) rfl, gm 16 (by decide +kernel) rfl, by decide +kernel, by decide +kernel, by decide +kernel⟩, gm 485 (by decide +kernel) rfl, gm 486 (by decide +kernel) rfl⟩
set_option maxRecDepth 20000 in
theorem mvs_lat : MVs RJ0 492 yJ0_isLatin1_aae02 cJ0_isLatin1_aae02 1 (some .boolean) 0 := ⟨⟨gm 494 (by decide +kernel) rfl, gm 497 (by decide +kernel) rfl, gm 16 (by decide +kernel) rfl, by decide +kernel, by decide +kernel, by decide +kernel⟩, gm 495 (by decide +kernel) rfl, gm 496 (by decide +kernel) rfl⟩
set_option maxRecDepth 20000 in
theorem ms_l1c : MS RJ0 495 yJ1_charAt_3b067 cJ1_charAt_3b067 2 (some .char) 2 := ⟨⟨gm 498 (by decide +kernel) rfl, gm 500 (by decide +kernel) rfl, gm 17 (by decide +kernel) rfl, by decide +kernel, by decide +kernel, by decide +kernel⟩, gm 499 (by decide +kernel) rfl⟩
set_option maxRecDepth 20000 in
theorem ms_chk : MS RJ1 9 yJ0_checkIndex_df160 cJ0_checkIndex_df160 2 none 2 := ⟨⟨gm 501 (by decide +kernel) rfl, gm 503 (by decide +kernel) rfl, gm 16 (by decide +kernel) rfl, by decide +kernel, by decide +kernel, by decide +kernel⟩, gm 502 (by decide +kernel) rfl⟩
set_option maxRecDepth 20000 in
theorem ms_pre : MS RJ0 1059 yJ3_checkIndex_8e157 cJ3_checkIndex_8e157 3 (some .int) 3 := ⟨⟨gm 506 (by decide +kernel) rfl, gm 508 (by decide +kernel) rfl, gm 18 (by decide +kernel) rfl, by decide +kernel, by decide +kernel, by decide +kernel⟩, gm 507 (by decide +kernel) rfl⟩
theorem fs_cst : Cond.fieldLink RJ0 38 "java/lang/String" "COMPACT_STRINGS" "Z" ∈ gT := gm 488 (by decide +kernel) rfl
theorem fs_cod : Cond.fieldLink RJ0 15 "java/lang/String" "coder" "B" ∈ gT := gm 2084 (by decide +kernel) rfl
theorem fs_val : Cond.fieldLink RJ0 9 "java/lang/String" "value" "[B" ∈ gT := gm 2083 (by decide +kernel) rfl
theorem fs_sio : Cond.fieldLink RJ0 1053 "jdk/internal/util/Preconditions" "SIOOBE_FORMATTER" "Ljava/util/function/BiFunction;" ∈ gT := gm 504 (by decide +kernel) rfl
theorem ok_t {c : Prop} [Decidable c] (h : c) : OK (if c then some true else (none : Option Bool)) (fun _ => True) := ⟨true, if_pos h, trivial⟩
theorem ok_f {c : Prop} [Decidable c] (h : ¬ c) : OK (if c then (none : Option Bool) else some true) (fun _ => True) := ⟨true, if_neg h, trivial⟩
set_option maxHeartbeats 4000000 in
set_option maxRecDepth 100000 in
theorem c_coder (l : Launch) (cA : Nat → ClassId) (D : va_G) (N : Nat) (sx : Sx) (ad : Nat → Nat) (T : Knd) (A : Rfs) (nx : Nat) (I : Mem) {i : Nat} (hi : i < 17) : CtI l yJ0_coder_7d493 cJ0_coder_7d493 1 (some .byte) 1 60 cA D N sx ad T A nx [.ref (sx.1 i)] I I 0 := by
  refine met_of (lv0 := [(0, .ref (sx.1 i))]) (by decide) (Nat.le_of_ble_eq_true rfl) rfl (fun p e0 s m args below meth c S0 hK hX hr hlk Q hQ => ?_)
  subst hQ
  refine r_cst (pc := 0) S0 hX fs_cst dJ0_coder_7d493_0 ?_
  refine r_if_eq (pc := 3) (tgt := 13) S0 dJ0_coder_7d493_3 (by decide) (cnz 1 rfl) (ok_f (c := (1 : Int) = 0) (by decide)) (fun hf => (ok_none hf).elim) (fun hf => ?_)
  refine r_aload_n (pc := 6) S0 0 dJ0_coder_7d493_6 rfl rfl ?_
  refine r_sgc (pc := 7) S0 hX hi fs_cod dJ0_coder_7d493_7 ?_
  refine r_goto (pc := 10) (tgt := 14) S0 dJ0_coder_7d493_10 (by decide) ?_
  exact r_nret (pc := 14) S0 hr hlk rfl cn0 dJ0_coder_7d493_14
set_option maxHeartbeats 4000000 in
set_option maxRecDepth 100000 in
theorem c_isLatin1 (l : Launch) (cA : Nat → ClassId) (D : va_G) (N : Nat) (sx : Sx) (ad : Nat → Nat) (T : Knd) (A : Rfs) (nx : Nat) (I : Mem) {i : Nat} (hi : i < 17) : CtI l yJ0_isLatin1_aae02 cJ0_isLatin1_aae02 1 (some .boolean) 1 60 cA D N sx ad T A nx [.ref (sx.1 i)] I I 1 := by
  refine met_of (lv0 := [(0, .ref (sx.1 i))]) (by decide) (Nat.le_of_ble_eq_true rfl) rfl (fun p e0 s m args below meth c S0 hK hX hr hlk Q hQ => ?_)
  subst hQ
  refine r_cst (pc := 0) S0 hX fs_cst dJ0_isLatin1_aae02_0 ?_
  refine r_if_eq (pc := 3) (tgt := 17) S0 dJ0_isLatin1_aae02_3 (by decide) (cnz 1 rfl) (ok_f (c := (1 : Int) = 0) (by decide)) (fun hf => (ok_none hf).elim) (fun hf => ?_)
  refine r_aload_n (pc := 6) S0 0 dJ0_isLatin1_aae02_6 rfl rfl ?_
  refine r_sgc (pc := 7) S0 hX hi fs_cod dJ0_isLatin1_aae02_7 ?_
  refine r_if_ne (pc := 10) (tgt := 17) S0 dJ0_isLatin1_aae02_10 (by decide) cn0 (ok_t (c := (0 : Int) = 0) rfl) (fun hf => (ok_none hf).elim) (fun hf => ?_)
  refine r_iconst (pc := 13) S0 dJ0_isLatin1_aae02_13 ?_
  refine r_goto (pc := 14) (tgt := 18) S0 dJ0_isLatin1_aae02_14 (by decide) ?_
  exact r_zret (pc := 18) S0 hr hlk (Or.inr rfl) dJ0_isLatin1_aae02_18
theorem len_shr : ∀ i, i < 17 → ishr ((lenS.getD i 0 : Nat) : Int) 0 = ((lenS.getD i 0 : Nat) : Int) := by decide +kernel
theorem len_cn : ∀ i, i < 17 → lenS.getD i 0 < 100 := by decide +kernel
theorem ch_i2c : ∀ i, i < 17 → ∀ j, j < lenS.getD i 0 → i2c (iand ((bytS.getD i []).getD j 0).toInt 255) = ((bytS.getD i []).getD j 0).toInt ∧ narrow .char (iv ((bytS.getD i []).getD j 0).toInt) = iv ((bytS.getD i []).getD j 0).toInt := by decide +kernel
set_option maxHeartbeats 4000000 in
set_option maxRecDepth 100000 in
theorem c_slen (l : Launch) (cA : Nat → ClassId) (D : va_G) (N : Nat) (sx : Sx) (ad : Nat → Nat) (T : Knd) (A : Rfs) (nx : Nat) (I : Mem) {i : Nat} (hi : i < 17) : CtI l yJ0_length_8abf5 cJ0_length_8abf5 1 (some .int) 2 81 cA D N sx ad T A nx [.ref (sx.1 i)] I I ((lenS.getD i 0 : Nat) : Int) := by
  refine met_of (lv0 := [(0, .ref (sx.1 i))]) (by decide) (Nat.le_of_ble_eq_true rfl) rfl (fun p e0 s m args below meth c S0 hK hX hr hlk Q hQ => ?_)
  subst hQ
  refine r_aload_n (pc := 0) S0 0 dJ0_length_8abf5_0 rfl rfl ?_
  refine r_sgv (pc := 1) S0 hX hi fs_val dJ0_length_8abf5_1 ?_
  refine r_sal (pc := 4) S0 hX hi dJ0_length_8abf5_4 ?_
  refine r_aload_n (pc := 5) S0 0 dJ0_length_8abf5_5 rfl rfl ?_
  refine r_cVs (pc := 6) [] S0 hK hX hi mvs_coder (c_coder l cA D N sx ad T A nx I hi) rfl rfl ⟨by decide, by decide⟩ (Nat.le_of_ble_eq_true rfl) ⟨Nat.le_refl _, Nat.le_refl _⟩ dJ0_length_8abf5_6 (fun _ => ?_)
  refine r_ishr (pc := 9) S0 dJ0_length_8abf5_9 ?_
  rw [len_shr i hi]
  exact r_iret (pc := 10) S0 hr hlk (by have := len_cn i hi; unfold cn; omega) dJ0_length_8abf5_10
set_option maxHeartbeats 4000000 in
set_option maxRecDepth 100000 in
theorem c_pchk (l : Launch) (cA : Nat → ClassId) (D : va_G) (N : Nat) (sx : Sx) (ad : Nat → Nat) (T : Knd) (A : Rfs) (nx : Nat) (I : Mem) {j n : Int} (cj : cn j) (ck : cn n) (h0 : 0 ≤ j) (h1 : j < n) (v : Option Nat) : CtI l yJ3_checkIndex_8e157 cJ3_checkIndex_8e157 3 (some .int) 1 60 cA D N sx ad T A nx [iv j, iv n, va_rf v] I I j := by
  cases v
  · refine met_of (lv0 := [(0, iv j), (1, iv n), (2, .null)]) (by decide) (Nat.le_of_ble_eq_true rfl) rfl (fun p e0 s m args below meth c S0 hK hX hr hlk Q hQ => ?_)
    subst hQ
    refine r_iload_n (pc := 0) S0 0 dJ3_checkIndex_8e157_0 rfl rfl ?_
    refine r_if_lt (pc := 1) (tgt := 9) S0 dJ3_checkIndex_8e157_1 (by decide) cj (ok_f (c := j < 0) (by omega)) (fun hf => (ok_none hf).elim) (fun hf => ?_)
    refine r_iload_n (pc := 4) S0 0 dJ3_checkIndex_8e157_4 rfl rfl ?_
    refine r_iload_n (pc := 5) S0 1 dJ3_checkIndex_8e157_5 rfl rfl ?_
    refine r_icmp_lt (pc := 6) (tgt := 16) S0 dJ3_checkIndex_8e157_6 (by decide) cj ck (ok_t (c := j < n) h1) (fun hf => ?_) (fun hf => (ok_none hf).elim)
    refine r_iload_n (pc := 16) S0 0 dJ3_checkIndex_8e157_16 rfl rfl ?_
    exact r_iret (pc := 17) S0 hr hlk cj dJ3_checkIndex_8e157_17
  · refine met_of (lv0 := [(0, iv j), (1, iv n), (2, .ref _)]) (by decide) (Nat.le_of_ble_eq_true rfl) rfl (fun p e0 s m args below meth c S0 hK hX hr hlk Q hQ => ?_)
    subst hQ
    refine r_iload_n (pc := 0) S0 0 dJ3_checkIndex_8e157_0 rfl rfl ?_
    refine r_if_lt (pc := 1) (tgt := 9) S0 dJ3_checkIndex_8e157_1 (by decide) cj (ok_f (c := j < 0) (by omega)) (fun hf => (ok_none hf).elim) (fun hf => ?_)
    refine r_iload_n (pc := 4) S0 0 dJ3_checkIndex_8e157_4 rfl rfl ?_
    refine r_iload_n (pc := 5) S0 1 dJ3_checkIndex_8e157_5 rfl rfl ?_
    refine r_icmp_lt (pc := 6) (tgt := 16) S0 dJ3_checkIndex_8e157_6 (by decide) cj ck (ok_t (c := j < n) h1) (fun hf => ?_) (fun hf => (ok_none hf).elim)
    refine r_iload_n (pc := 16) S0 0 dJ3_checkIndex_8e157_16 rfl rfl ?_
    exact r_iret (pc := 17) S0 hr hlk cj dJ3_checkIndex_8e157_17
set_option maxHeartbeats 4000000 in
set_option maxRecDepth 100000 in
theorem c_schk (l : Launch) (cA : Nat → ClassId) (D : va_G) (N : Nat) (sx : Sx) (ad : Nat → Nat) (T : Knd) (A : Rfs) (nx : Nat) (I : Mem) {j n : Int} (cj : cn j) (ck : cn n) (h0 : 0 ≤ j) (h1 : j < n) : CtV l yJ0_checkIndex_df160 cJ0_checkIndex_df160 2 none 2 83 cA D N sx ad T A nx [iv j, iv n] I I := by
  refine met_of (lv0 := [(0, iv j), (1, iv n)]) (by decide) (Nat.le_of_ble_eq_true rfl) rfl (fun p e0 s m args below meth c S0 hK hX hr hlk Q hQ => ?_)
  subst hQ
  refine r_iload_n (pc := 0) S0 0 dJ0_checkIndex_df160_0 rfl rfl ?_
  refine r_iload_n (pc := 1) S0 1 dJ0_checkIndex_df160_1 rfl rfl ?_
  refine r_sio (pc := 2) S0 hX fs_sio dJ0_checkIndex_df160_2 (fun v => ?_)
  refine r_cS_I (pc := 5) [iv j, iv n, va_rf v] S0 hK hX ms_pre (c_pchk l cA D N sx ad T A nx I cj ck h0 h1 v) rfl rfl ⟨by decide, by decide⟩ (Nat.le_of_ble_eq_true rfl) ⟨Nat.le_refl _, Nat.le_refl _⟩ dJ0_checkIndex_df160_5 (fun _ => ?_)
  refine r_pop (pc := 8) S0 dJ0_checkIndex_df160_8 rfl ?_
  exact r_vret (pc := 9) S0 hr hlk dJ0_checkIndex_df160_9
set_option maxHeartbeats 4000000 in
set_option maxRecDepth 100000 in
theorem c_l1c (l : Launch) (cA : Nat → ClassId) (D : va_G) (N : Nat) (sx : Sx) (ad : Nat → Nat) (T : Knd) (A : Rfs) (nx : Nat) (I : Mem) {i : Nat} (hi : i < 17) {j : Int} (cj : cn j) (h0 : 0 ≤ j) (h1 : j < ((lenS.getD i 0 : Nat) : Int)) : CtI l yJ1_charAt_3b067 cJ1_charAt_3b067 2 (some .char) 3 105 cA D N sx ad T A nx [.ref (sx.2 i), iv j] I I ((bytS.getD i []).getD j.toNat 0).toInt := by
  refine met_of (lv0 := [(0, .ref (sx.2 i)), (1, iv j)]) (by decide) (Nat.le_of_ble_eq_true rfl) rfl (fun p e0 s m args below meth c S0 hK hX hr hlk Q hQ => ?_)
  subst hQ
  have hc := len_cn i hi
  refine r_iload_n (pc := 0) S0 1 dJ1_charAt_3b067_0 rfl rfl ?_
  refine r_aload_n (pc := 1) S0 0 dJ1_charAt_3b067_1 rfl rfl ?_
  refine r_sal (pc := 2) S0 hX hi dJ1_charAt_3b067_2 ?_
  refine r_cS_V (pc := 3) [iv j, iv ((lenS.getD i 0 : Nat) : Int)] S0 hK hX ms_chk (c_schk l cA D N sx ad T A nx I cj (by unfold cn; omega) h0 h1) rfl rfl ⟨by decide, by decide⟩ (Nat.le_of_ble_eq_true rfl) ⟨Nat.le_refl _, Nat.le_refl _⟩ dJ1_charAt_3b067_3 ?_
  refine r_aload_n (pc := 6) S0 0 dJ1_charAt_3b067_6 rfl rfl ?_
  refine r_iload_n (pc := 7) S0 1 dJ1_charAt_3b067_7 rfl rfl ?_
  refine r_sbl (pc := 8) S0 hX hi cj h0 h1 dJ1_charAt_3b067_8 ?_
  refine r_sipush (pc := 9) S0 dJ1_charAt_3b067_9 (by decide) ?_
  refine r_iand (pc := 12) S0 dJ1_charAt_3b067_12 ?_
  refine r_i2c (pc := 13) S0 dJ1_charAt_3b067_13 ?_
  have hch := ch_i2c i hi j.toNat (by omega)
  rw [hch.1]
  exact r_nret (pc := 14) S0 hr hlk hch.2 (cn_toInt _) dJ1_charAt_3b067_14
set_option maxHeartbeats 4000000 in
set_option maxRecDepth 100000 in
theorem c_sch (l : Launch) (cA : Nat → ClassId) (D : va_G) (N : Nat) (sx : Sx) (ad : Nat → Nat) (T : Knd) (A : Rfs) (nx : Nat) (I : Mem) {i : Nat} (hi : i < 17) {j : Int} (cj : cn j) (h0 : 0 ≤ j) (h1 : j < ((lenS.getD i 0 : Nat) : Int)) : CtI l yJ0_charAt_5068e cJ0_charAt_5068e 2 (some .char) 4 126 cA D N sx ad T A nx [.ref (sx.1 i), iv j] I I ((bytS.getD i []).getD j.toNat 0).toInt := by
  refine met_of (lv0 := [(0, .ref (sx.1 i)), (1, iv j)]) (by decide) (Nat.le_of_ble_eq_true rfl) rfl (fun p e0 s m args below meth c S0 hK hX hr hlk Q hQ => ?_)
  subst hQ
  have hch := ch_i2c i hi j.toNat (by have := len_cn i hi; omega)
  refine r_aload_n (pc := 0) S0 0 dJ0_charAt_5068e_0 rfl rfl ?_
  refine r_cVs (pc := 1) [] S0 hK hX hi mvs_lat (c_isLatin1 l cA D N sx ad T A nx I hi) rfl rfl ⟨by decide, by decide⟩ (Nat.le_of_ble_eq_true rfl) ⟨Nat.le_refl _, Nat.le_refl _⟩ dJ0_charAt_5068e_1 (fun _ => ?_)
  refine r_if_eq (pc := 4) (tgt := 16) S0 dJ0_charAt_5068e_4 (by decide) (cnz 1 rfl) (ok_f (c := (1 : Int) = 0) (by decide)) (fun hf => (ok_none hf).elim) (fun hf => ?_)
  refine r_aload_n (pc := 7) S0 0 dJ0_charAt_5068e_7 rfl rfl ?_
  refine r_sgv (pc := 8) S0 hX hi fs_val dJ0_charAt_5068e_8 ?_
  refine r_iload_n (pc := 11) S0 1 dJ0_charAt_5068e_11 rfl rfl ?_
  refine r_cS_I (pc := 12) [.ref (sx.2 i), iv j] S0 hK hX ms_l1c (c_l1c l cA D N sx ad T A nx I hi cj h0 h1) rfl rfl ⟨by decide, by decide⟩ (Nat.le_of_ble_eq_true rfl) ⟨Nat.le_refl _, Nat.le_refl _⟩ dJ0_charAt_5068e_12 (fun _ => ?_)
  exact r_nret (pc := 15) S0 hr hlk hch.2 (cn_toInt _) dJ0_charAt_5068e_15

section GR7
variable {p : Program} {l : Launch} {e : Env} {R : Room} {s : State} {m : MethodId} {args : Array Value} {below : List Frame} {meth : Method} {c : Code} {cells slots : Nat} {Q : State → Prop} {cA : Nat → ClassId} {D : va_G} {N nL : Nat} {ad : Nat → Nat} {T : Knd} {A : Rfs} {nx : Nat} {pc : Nat} {lv lv' : List (Nat × Value)} {st : List Value} {I : Mem}
variable {cc : ByteArray} {own : String} {sx : Sx}

theorem r_slen (S : CallFix p m c cc nL s args gT own) (hK : va_K D vwCl (tyl cA) s) (hX : XX sx N s) {i index : Nat} (hm : MVs own index yJ0_length_8abf5 cJ0_length_8abf5 1 (some .int) 0) {Z : Type} {K : Int → Option Z} {fin : Z → Prop} (hd : decode cc pc = .ok (.invokevirtual index, 3)) (hR : 2 + 1 ≤ R.frames ∧ 8 + (1 + 11) + 81 ≤ R.locals) (hcat : (st.map fun v => v.category).sum ≤ 8) (hcs : cells ≤ R.cells ∧ slots ≤ R.slots) (hf : OK ((slen i).bind K) fin) (kk : ∀ x, cn x → OK (K x) fin → G p l e R s m args below meth c cells slots Q cA D N nL ad T A nx (pc + 3) lv (iv x :: st) I) : G p l e R s m args below meth c cells slots Q cA D N nL ad T A nx (pc) lv (.ref (sx.1 i) :: st) I := by
  obtain ⟨x, h1, h2⟩ := ok_bind hf
  by_cases q : i < 17
  · rw [slen, if_pos q] at h1
    cases h1
    exact r_cVs [] S hK hX q hm (c_slen l cA D N sx ad T A nx I q) rfl rfl hR hcat hcs hd (fun cr => kk _ cr h2)
  · rw [slen, if_neg q] at h1
    cases h1
theorem r_sch (S : CallFix p m c cc nL s args gT own) (hK : va_K D vwCl (tyl cA) s) (hX : XX sx N s) {i index : Nat} {j : Int} (hm : MVs own index yJ0_charAt_5068e cJ0_charAt_5068e 2 (some .char) 1) {Z : Type} {K : Int → Option Z} {fin : Z → Prop} (hd : decode cc pc = .ok (.invokevirtual index, 3)) (cj : cn j) (hR : 4 + 1 ≤ R.frames ∧ 8 + (2 + 11) + 126 ≤ R.locals) (hcat : (st.map fun v => v.category).sum ≤ 8) (hcs : cells ≤ R.cells ∧ slots ≤ R.slots) (hf : OK ((sch i j).bind K) fin) (kk : ∀ x, cn x → OK (K x) fin → G p l e R s m args below meth c cells slots Q cA D N nL ad T A nx (pc + 3) lv (iv x :: st) I) : G p l e R s m args below meth c cells slots Q cA D N nL ad T A nx (pc) lv (iv j :: .ref (sx.1 i) :: st) I := by
  obtain ⟨x, h1, h2⟩ := ok_bind hf
  by_cases q : i < 17 ∧ 0 ≤ j ∧ j < ((lenS.getD i 0 : Nat) : Int)
  · rw [sch, if_pos q] at h1
    cases h1
    exact r_cVs [iv j] S hK hX q.1 hm (c_sch l cA D N sx ad T A nx I q.1 cj q.2.1 q.2.2) rfl rfl hR hcat hcs hd (fun cr => kk _ cr h2)
  · rw [sch, if_neg q] at h1
    cases h1
end GR7
