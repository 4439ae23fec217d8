/-! Constructors: meanings and contracts, laid by wip/gen/gena.py. -/
def f_X8_init (T : Knd) (A : Rfs) (nx : Nat) (w0 : Nat) (I : Mem) : Option St := (nwA 22 1600 (T, A, nx, I)).bind fun S1 => (pr 8 0 w0 (nx + 1) (S1.1, S1.2.1, S1.2.2.1, S1.2.2.2)).bind fun S4 => some (S4.1, S4.2.1, S4.2.2.1, S4.2.2.2)
set_option maxHeartbeats 4000000 in
set_option maxRecDepth 100000 in
theorem c_X8_init (l : Launch) (cA : Nat → ClassId) (D : va_G) (N : Nat) (sx : Sx) (ad : Nat → Nat) (T : Knd) (A : Rfs) (nx : Nat) (I : Mem) (w0 : Nat) (hrb : RB A nx) (hb0 : 1 ≤ w0 ∧ w0 ≤ nx) (e : St) (h : f_X8_init T A nx w0 I = some e) : CtA l yX8_init cX8_init 1 1 1 1600 60 cA D N sx ad T A nx [rv ad w0] I e := by
  refine met_ofA (lv0 := [(0, rv ad w0)]) (by decide) (Nat.le_of_ble_eq_true rfl) rfl (by omega) (fun p e0 s m args below meth c S0 hK hX hAX hN hin hr hlk Q hQ => ?_)
  have hf : OK (f_X8_init T A nx w0 I) (fun z => z = e) := ⟨e, h, rfl⟩
  unfold f_X8_init at hf
  have hag : ∀ i, i ≤ nx → ad i = ad i := fun _ _ => rfl
  refine r_aload_n (pc := 0) S0 0 dX8_init_0 rfl rfl ?_
  refine r_obj (pc := 1) S0 oi_X8_3 dX8_init_1 ⟨by decide, Nat.le_of_ble_eq_true rfl⟩ ?_
  refine r_aload_n (pc := 4) S0 0 dX8_init_4 rfl rfl ?_
  refine r_sipush (pc := 5) S0 dX8_init_5 (by decide) ?_
  refine r_nwab (pc := 8) S0 hK ac_b hN hrb (fun ad => [(0, rv ad w0)]) (fun ad => [rv ad w0]) (fun ad1 h => by simp only [rv, h w0 (by omega)]) (fun ad1 h => by simp only [rv, h w0 (by omega)]) (cnz 1600 rfl) dX8_init_8 1 1600 ⟨rfl, by decide, by decide, by decide⟩ hf (fun ad S1 h2 n3 hrb hf => ?_)
  have hag := fun i (hi : i ≤ nx) => (h2 i (by omega)).trans (hag i hi)
  refine r_putR (pc := 10) S0 hK hin hrb fl_X8_9 rfl rfl rfl (fun _ => rfl) (fun _ => rfl) dX8_init_10 hf (fun S4 n5 hrb hf => ?_)
  have hz := ok_some hf
  have hz : (S4.1, S4.2.1, S4.2.2.1, S4.2.2.2) = e := hz
  subst hQ
  subst hz
  exact r_vretA (pc := 13) S0 hr hlk hag (by omega) hrb dX8_init_13

def f_X2_init (T : Knd) (A : Rfs) (nx : Nat) (w0 : Nat) (I : Mem) : Option St := (nwA 20 40 (T, A, nx, I)).bind fun S1 => (pr 2 7 w0 (nx + 1) (S1.1, S1.2.1, S1.2.2.1, S1.2.2.2)).bind fun S4 => (nwM 24 20 11 8 (S4.1, S4.2.1, S4.2.2.1, S4.2.2.2)).bind fun S6 => (pr 2 8 w0 (S4.2.2.1 + 1) (S6.1, S6.2.1, S6.2.2.1, S6.2.2.2)).bind fun S9 => (nwM 24 20 6 6 (S9.1, S9.2.1, S9.2.2.1, S9.2.2.2)).bind fun S11 => (pr 2 9 w0 (S9.2.2.1 + 1) (S11.1, S11.2.1, S11.2.2.1, S11.2.2.2)).bind fun S14 => some (S14.1, S14.2.1, S14.2.2.1, S14.2.2.2)
set_option maxHeartbeats 4000000 in
set_option maxRecDepth 100000 in
theorem c_X2_init (l : Launch) (cA : Nat → ClassId) (D : va_G) (N : Nat) (sx : Sx) (ad : Nat → Nat) (T : Knd) (A : Rfs) (nx : Nat) (I : Mem) (w0 : Nat) (hrb : RB A nx) (hb0 : 1 ≤ w0 ∧ w0 ≤ nx) (e : St) (h : f_X2_init T A nx w0 I = some e) : CtA l yX2_init cX2_init 1 1 20 181 60 cA D N sx ad T A nx [rv ad w0] I e := by
  refine met_ofA (lv0 := [(0, rv ad w0)]) (by decide) (Nat.le_of_ble_eq_true rfl) rfl (by omega) (fun p e0 s m args below meth c S0 hK hX hAX hN hin hr hlk Q hQ => ?_)
  have hf : OK (f_X2_init T A nx w0 I) (fun z => z = e) := ⟨e, h, rfl⟩
  unfold f_X2_init at hf
  have hag : ∀ i, i ≤ nx → ad i = ad i := fun _ _ => rfl
  refine r_aload_n (pc := 0) S0 0 dX2_init_0 rfl rfl ?_
  refine r_obj (pc := 1) S0 oi_X2_3 dX2_init_1 ⟨by decide, Nat.le_of_ble_eq_true rfl⟩ ?_
  refine r_aload_n (pc := 4) S0 0 dX2_init_4 rfl rfl ?_
  refine r_bipush (pc := 5) S0 dX2_init_5 (by decide) ?_
  refine r_nwai (pc := 7) S0 hK ac_i hN hrb (fun ad => [(0, rv ad w0)]) (fun ad => [rv ad w0]) (fun ad1 h => by simp only [rv, h w0 (by omega)]) (fun ad1 h => by simp only [rv, h w0 (by omega)]) (cnz 40 rfl) dX2_init_7 1 40 ⟨rfl, by decide, by decide, by decide⟩ hf (fun ad S1 h2 n3 hrb hf => ?_)
  have hag := fun i (hi : i ≤ nx) => (h2 i (by omega)).trans (hag i hi)
  refine r_putR (pc := 9) S0 hK hin hrb fl_X2_9 rfl rfl rfl (fun _ => rfl) (fun _ => rfl) dX2_init_9 hf (fun S4 n5 hrb hf => ?_)
  refine r_aload_n (pc := 12) S0 0 dX2_init_12 rfl rfl ?_
  refine r_bipush (pc := 13) S0 dX2_init_13 (by decide) ?_
  refine r_bipush (pc := 15) S0 dX2_init_15 (by decide) ?_
  refine r_nwmi (pc := 17) S0 hK hAX.1 ac_i cl_X2_15 hN hrb (fun ad => [(0, rv ad w0)]) (fun ad => [rv ad w0]) (fun ad1 h => by simp only [rv, h w0 (by omega)]) (fun ad1 h => by simp only [rv, h w0 (by omega)]) (cnz 11 rfl) (cnz 8 rfl) dX2_init_17 13 139 ⟨by decide, by decide, by decide, by decide⟩ hf (fun ad S6 h7 n8 hrb hf => ?_)
  have hag := fun i (hi : i ≤ nx) => (h7 i (by omega)).trans (hag i hi)
  have n8 : S6.2.2.1 = S4.2.2.1 + 1 + 11 := n8
  refine r_putR (pc := 21) S0 hK hin hrb fl_X2_17 rfl rfl rfl (fun _ => rfl) (fun _ => rfl) dX2_init_21 hf (fun S9 n10 hrb hf => ?_)
  refine r_aload_n (pc := 24) S0 0 dX2_init_24 rfl rfl ?_
  refine r_bipush (pc := 25) S0 dX2_init_25 (by decide) ?_
  refine r_bipush (pc := 27) S0 dX2_init_27 (by decide) ?_
  refine r_nwmi (pc := 29) S0 hK hAX.1 ac_i cl_X2_15 hN hrb (fun ad => [(0, rv ad w0)]) (fun ad => [rv ad w0]) (fun ad1 h => by simp only [rv, h w0 (by omega)]) (fun ad1 h => by simp only [rv, h w0 (by omega)]) (cnz 6 rfl) (cnz 6 rfl) dX2_init_29 20 181 ⟨by decide, by decide, by decide, by decide⟩ hf (fun ad S11 h12 n13 hrb hf => ?_)
  have hag := fun i (hi : i ≤ nx) => (h12 i (by omega)).trans (hag i hi)
  have n13 : S11.2.2.1 = S9.2.2.1 + 1 + 6 := n13
  refine r_putR (pc := 33) S0 hK hin hrb fl_X2_20 rfl rfl rfl (fun _ => rfl) (fun _ => rfl) dX2_init_33 hf (fun S14 n15 hrb hf => ?_)
  have hz := ok_some hf
  have hz : (S14.1, S14.2.1, S14.2.2.1, S14.2.2.2) = e := hz
  subst hQ
  subst hz
  exact r_vretA (pc := 36) S0 hr hlk hag (by omega) hrb dX2_init_36

def f_X4_init (T : Knd) (A : Rfs) (nx : Nat) (w0 : Nat) (w1 : Nat) (I : Mem) : Option St := (nwO 2 (T, A, nx, I)).bind fun S1 => (f_X2_init S1.1 S1.2.1 S1.2.2.1 (nx + 1) S1.2.2.2).bind fun e4 => (pr 4 1 w0 (nx + 1) (e4.1, e4.2.1, e4.2.2.1, e4.2.2.2)).bind fun S8 => (pi S8.1 4 3 w0 (-1) S8.2.2.2).bind fun I10 => (pr 4 0 w0 w1 (S8.1, S8.2.1, S8.2.2.1, I10)).bind fun S11 => some (S11.1, S11.2.1, S11.2.2.1, S11.2.2.2)
set_option maxHeartbeats 4000000 in
set_option maxRecDepth 100000 in
theorem c_X4_init (l : Launch) (cA : Nat → ClassId) (D : va_G) (N : Nat) (sx : Sx) (ad : Nat → Nat) (T : Knd) (A : Rfs) (nx : Nat) (I : Mem) (w0 : Nat) (w1 : Nat) (hrb : RB A nx) (hb0 : 1 ≤ w0 ∧ w0 ≤ nx) (hb1 : 1 ≤ w1 ∧ w1 ≤ nx) (e : St) (h : f_X4_init T A nx w0 w1 I = some e) : CtA l yX4_init cX4_init 2 2 21 191 80 cA D N sx ad T A nx [rv ad w0, rv ad w1] I e := by
  refine met_ofA (lv0 := [(0, rv ad w0), (1, rv ad w1)]) (by decide) (Nat.le_of_ble_eq_true rfl) rfl (by omega) (fun p e0 s m args below meth c S0 hK hX hAX hN hin hr hlk Q hQ => ?_)
  have hf : OK (f_X4_init T A nx w0 w1 I) (fun z => z = e) := ⟨e, h, rfl⟩
  unfold f_X4_init at hf
  have hag : ∀ i, i ≤ nx → ad i = ad i := fun _ _ => rfl
  refine r_aload_n (pc := 0) S0 0 dX4_init_0 rfl rfl ?_
  refine r_obj (pc := 1) S0 oi_X4_3 dX4_init_1 ⟨by decide, Nat.le_of_ble_eq_true rfl⟩ ?_
  refine r_aload_n (pc := 4) S0 0 dX4_init_4 rfl rfl ?_
  refine r_new (pc := 5) S0 hK nw_X4_9 hN hrb (fun ad => [(0, rv ad w0), (1, rv ad w1)]) (fun ad => [rv ad w0]) (fun ad1 h => by simp only [rv, h w0 (by omega), h w1 (by omega)]) (fun ad1 h => by simp only [rv, h w0 (by omega)]) dX4_init_5 1 10 ⟨rfl, rfl, by decide, by decide⟩ hf (fun ad S1 h2 n3 hrb hf => ?_)
  have hag := fun i (hi : i ≤ nx) => (h2 i (by omega)).trans (hag i hi)
  refine r_dup (pc := 8) S0 dX4_init_8 rfl ?_
  obtain ⟨e4, h5, hf⟩ := ok_bind hf
  refine r_cIN (pc := 9) [] S0 hK hX hAX min_X4_11 (c_X2_init l cA D N sx ad S1.1 S1.2.1 S1.2.2.1 S1.2.2.2 (nx + 1) hrb (by omega) e4 h5) rfl rfl (fun ad => [(0, rv ad w0), (1, rv ad w1)]) (fun ad => [rv ad (nx + 1), rv ad w0]) (fun ad1 h => by simp only [rv, h w0 (by omega), h w1 (by omega)]) (fun ad1 h => by simp only [rv, h w0 (by omega), h (nx + 1) (by omega)]) ⟨by decide, by decide⟩ (Nat.le_of_ble_eq_true rfl) 21 191 ⟨rfl, rfl, by decide, by decide⟩ dX4_init_9 (fun ad h6 n7 hrb => ?_)
  have hag := fun i (hi : i ≤ nx) => (h6 i (by omega)).trans (hag i hi)
  refine r_putR (pc := 12) S0 hK hin hrb fl_X4_12 rfl rfl rfl (fun _ => rfl) (fun _ => rfl) dX4_init_12 hf (fun S8 n9 hrb hf => ?_)
  refine r_aload_n (pc := 15) S0 0 dX4_init_15 rfl rfl ?_
  refine r_iconst (pc := 16) S0 dX4_init_16 ?_
  refine r_putI (pc := 17) S0 hK fl_X4_18 rfl rfl (cnz (-1) rfl) dX4_init_17 hf (fun I10 hf => ?_)
  refine r_aload_n (pc := 20) S0 0 dX4_init_20 rfl rfl ?_
  refine r_aload_n (pc := 21) S0 1 dX4_init_21 rfl rfl ?_
  refine r_putR (pc := 22) S0 hK hin hrb fl_X4_22 rfl rfl rfl (fun _ => rfl) (fun _ => rfl) dX4_init_22 hf (fun S11 n12 hrb hf => ?_)
  have hz := ok_some hf
  have hz : (S11.1, S11.2.1, S11.2.2.1, S11.2.2.2) = e := hz
  subst hQ
  subst hz
  exact r_vretA (pc := 25) S0 hr hlk hag (by omega) hrb dX4_init_25

def f_X9_init (T : Knd) (A : Rfs) (nx : Nat) (w0 : Nat) (I : Mem) : Option St := (nwM 24 20 6 6 (T, A, nx, I)).bind fun S1 => (pr 9 0 w0 (nx + 1) (S1.1, S1.2.1, S1.2.2.1, S1.2.2.2)).bind fun S4 => (nwM 24 20 8 400 (S4.1, S4.2.1, S4.2.2.1, S4.2.2.2)).bind fun S6 => (pr 9 1 w0 (S4.2.2.1 + 1) (S6.1, S6.2.1, S6.2.2.1, S6.2.2.2)).bind fun S9 => some (S9.1, S9.2.1, S9.2.2.1, S9.2.2.2)
set_option maxHeartbeats 4000000 in
set_option maxRecDepth 100000 in
theorem c_X9_init (l : Launch) (cA : Nat → ClassId) (D : va_G) (N : Nat) (sx : Sx) (ad : Nat → Nat) (T : Knd) (A : Rfs) (nx : Nat) (I : Mem) (w0 : Nat) (hrb : RB A nx) (hb0 : 1 ≤ w0 ∧ w0 ≤ nx) (e : St) (h : f_X9_init T A nx w0 I = some e) : CtA l yX9_init cX9_init 1 1 16 3250 60 cA D N sx ad T A nx [rv ad w0] I e := by
  refine met_ofA (lv0 := [(0, rv ad w0)]) (by decide) (Nat.le_of_ble_eq_true rfl) rfl (by omega) (fun p e0 s m args below meth c S0 hK hX hAX hN hin hr hlk Q hQ => ?_)
  have hf : OK (f_X9_init T A nx w0 I) (fun z => z = e) := ⟨e, h, rfl⟩
  unfold f_X9_init at hf
  have hag : ∀ i, i ≤ nx → ad i = ad i := fun _ _ => rfl
  refine r_aload_n (pc := 0) S0 0 dX9_init_0 rfl rfl ?_
  refine r_obj (pc := 1) S0 oi_X9_3 dX9_init_1 ⟨by decide, Nat.le_of_ble_eq_true rfl⟩ ?_
  refine r_aload_n (pc := 4) S0 0 dX9_init_4 rfl rfl ?_
  refine r_bipush (pc := 5) S0 dX9_init_5 (by decide) ?_
  refine r_bipush (pc := 7) S0 dX9_init_7 (by decide) ?_
  refine r_nwmi (pc := 9) S0 hK hAX.1 ac_i cl_X9_9 hN hrb (fun ad => [(0, rv ad w0)]) (fun ad => [rv ad w0]) (fun ad1 h => by simp only [rv, h w0 (by omega)]) (fun ad1 h => by simp only [rv, h w0 (by omega)]) (cnz 6 rfl) (cnz 6 rfl) dX9_init_9 7 42 ⟨by decide, by decide, by decide, by decide⟩ hf (fun ad S1 h2 n3 hrb hf => ?_)
  have hag := fun i (hi : i ≤ nx) => (h2 i (by omega)).trans (hag i hi)
  have n3 : S1.2.2.1 = nx + 1 + 6 := n3
  refine r_putR (pc := 13) S0 hK hin hrb fl_X9_11 rfl rfl rfl (fun _ => rfl) (fun _ => rfl) dX9_init_13 hf (fun S4 n5 hrb hf => ?_)
  refine r_aload_n (pc := 16) S0 0 dX9_init_16 rfl rfl ?_
  refine r_bipush (pc := 17) S0 dX9_init_17 (by decide) ?_
  refine r_sipush (pc := 19) S0 dX9_init_19 (by decide) ?_
  refine r_nwmi (pc := 22) S0 hK hAX.1 ac_i cl_X9_9 hN hrb (fun ad => [(0, rv ad w0)]) (fun ad => [rv ad w0]) (fun ad1 h => by simp only [rv, h w0 (by omega)]) (fun ad1 h => by simp only [rv, h w0 (by omega)]) (cnz 8 rfl) (cnz 400 rfl) dX9_init_22 16 3250 ⟨by decide, by decide, by decide, by decide⟩ hf (fun ad S6 h7 n8 hrb hf => ?_)
  have hag := fun i (hi : i ≤ nx) => (h7 i (by omega)).trans (hag i hi)
  have n8 : S6.2.2.1 = S4.2.2.1 + 1 + 8 := n8
  refine r_putR (pc := 26) S0 hK hin hrb fl_X9_16 rfl rfl rfl (fun _ => rfl) (fun _ => rfl) dX9_init_26 hf (fun S9 n10 hrb hf => ?_)
  have hz := ok_some hf
  have hz : (S9.1, S9.2.1, S9.2.2.1, S9.2.2.2) = e := hz
  subst hQ
  subst hz
  exact r_vretA (pc := 29) S0 hr hlk hag (by omega) hrb dX9_init_29

def f_X10_init (T : Knd) (A : Rfs) (nx : Nat) (w0 : Nat) (w1 : Nat) (w2 : Nat) (I : Mem) : Option St := (nwA 20 8 (T, A, nx, I)).bind fun S1 => (pr 10 2 w0 (nx + 1) (S1.1, S1.2.1, S1.2.2.1, S1.2.2.2)).bind fun S4 => (pr 10 0 w0 w1 (S4.1, S4.2.1, S4.2.2.1, S4.2.2.2)).bind fun S6 => (pr 10 1 w0 w2 (S6.1, S6.2.1, S6.2.2.1, S6.2.2.2)).bind fun S8 => (gr S8.1 S8.2.1 10 2 w0).bind fun x10 => (f_J7_fill_53178 S8.1 S8.2.1 x10 (-1) S8.2.2.2).bind fun e11 => some (S8.1, S8.2.1, S8.2.2.1, e11)
set_option maxHeartbeats 4000000 in
set_option maxRecDepth 100000 in
theorem c_X10_init (l : Launch) (cA : Nat → ClassId) (D : va_G) (N : Nat) (sx : Sx) (ad : Nat → Nat) (T : Knd) (A : Rfs) (nx : Nat) (I : Mem) (w0 : Nat) (w1 : Nat) (w2 : Nat) (hrb : RB A nx) (hb0 : 1 ≤ w0 ∧ w0 ≤ nx) (hb1 : 1 ≤ w1 ∧ w1 ≤ nx) (hb2 : 1 ≤ w2 ∧ w2 ≤ nx) (e : St) (h : f_X10_init T A nx w0 w1 w2 I = some e) : CtA l yX10_init cX10_init 3 2 1 8 83 cA D N sx ad T A nx [rv ad w0, rv ad w1, rv ad w2] I e := by
  refine met_ofA (lv0 := [(0, rv ad w0), (1, rv ad w1), (2, rv ad w2)]) (by decide) (Nat.le_of_ble_eq_true rfl) rfl (by omega) (fun p e0 s m args below meth c S0 hK hX hAX hN hin hr hlk Q hQ => ?_)
  have hf : OK (f_X10_init T A nx w0 w1 w2 I) (fun z => z = e) := ⟨e, h, rfl⟩
  unfold f_X10_init at hf
  have hag : ∀ i, i ≤ nx → ad i = ad i := fun _ _ => rfl
  refine r_aload_n (pc := 0) S0 0 dX10_init_0 rfl rfl ?_
  refine r_obj (pc := 1) S0 oi_X10_3 dX10_init_1 ⟨by decide, Nat.le_of_ble_eq_true rfl⟩ ?_
  refine r_aload_n (pc := 4) S0 0 dX10_init_4 rfl rfl ?_
  refine r_bipush (pc := 5) S0 dX10_init_5 (by decide) ?_
  refine r_nwai (pc := 7) S0 hK ac_i hN hrb (fun ad => [(0, rv ad w0), (1, rv ad w1), (2, rv ad w2)]) (fun ad => [rv ad w0]) (fun ad1 h => by simp only [rv, h w0 (by omega), h w1 (by omega), h w2 (by omega)]) (fun ad1 h => by simp only [rv, h w0 (by omega)]) (cnz 8 rfl) dX10_init_7 1 8 ⟨rfl, by decide, by decide, by decide⟩ hf (fun ad S1 h2 n3 hrb hf => ?_)
  have hag := fun i (hi : i ≤ nx) => (h2 i (by omega)).trans (hag i hi)
  refine r_putR (pc := 9) S0 hK hin hrb fl_X10_9 rfl rfl rfl (fun _ => rfl) (fun _ => rfl) dX10_init_9 hf (fun S4 n5 hrb hf => ?_)
  refine r_aload_n (pc := 12) S0 0 dX10_init_12 rfl rfl ?_
  refine r_aload_n (pc := 13) S0 1 dX10_init_13 rfl rfl ?_
  refine r_putR (pc := 14) S0 hK hin hrb fl_X10_15 rfl rfl rfl (fun _ => rfl) (fun _ => rfl) dX10_init_14 hf (fun S6 n7 hrb hf => ?_)
  refine r_aload_n (pc := 17) S0 0 dX10_init_17 rfl rfl ?_
  refine r_aload_n (pc := 18) S0 2 dX10_init_18 rfl rfl ?_
  refine r_putR (pc := 19) S0 hK hin hrb fl_X10_19 rfl rfl rfl (fun _ => rfl) (fun _ => rfl) dX10_init_19 hf (fun S8 n9 hrb hf => ?_)
  refine r_aload_n (pc := 22) S0 0 dX10_init_22 rfl rfl ?_
  refine r_getRb (pc := 23) S0 hK hrb fl_X10_9 dX10_init_23 hf (fun x10 hxx10 hf => ?_)
  refine r_iconst (pc := 26) S0 dX10_init_26 ?_
  obtain ⟨e11, h12, hf⟩ := ok_bind hf
  refine r_cS_V (pc := 27) [rv ad x10, iv (-1)] S0 hK hX ms_X10_23 (c_J7_fill_53178 l cA D N sx ad S8.1 S8.2.1 S8.2.2.1 S8.2.2.2 x10 (-1) (cnz (-1) rfl) e11 h12) rfl rfl ⟨by decide, by decide⟩ (Nat.le_of_ble_eq_true rfl) ⟨Nat.le_refl _, Nat.le_refl _⟩ dX10_init_27 ?_
  have hz := ok_some hf
  have hz : (S8.1, S8.2.1, S8.2.2.1, e11) = e := hz
  subst hQ
  subst hz
  exact r_vretA (pc := 30) S0 hr hlk hag (by omega) hrb dX10_init_30

def f_X5_init (T : Knd) (A : Rfs) (nx : Nat) (w0 : Nat) (w1 : Nat) (I : Mem) : Option St := (nwA 20 8 (T, A, nx, I)).bind fun S1 => (pr 5 1 w0 (nx + 1) (S1.1, S1.2.1, S1.2.2.1, S1.2.2.2)).bind fun S4 => (nwA 20 3 (S4.1, S4.2.1, S4.2.2.1, S4.2.2.2)).bind fun S6 => (pr 5 2 w0 (S4.2.2.1 + 1) (S6.1, S6.2.1, S6.2.2.1, S6.2.2.2)).bind fun S9 => (nwA 20 3 (S9.1, S9.2.1, S9.2.2.1, S9.2.2.2)).bind fun S11 => (pr 5 3 w0 (S9.2.2.1 + 1) (S11.1, S11.2.1, S11.2.2.1, S11.2.2.2)).bind fun S14 => (nwM 24 20 3 8 (S14.1, S14.2.1, S14.2.2.1, S14.2.2.2)).bind fun S16 => (pr 5 4 w0 (S14.2.2.1 + 1) (S16.1, S16.2.1, S16.2.2.1, S16.2.2.2)).bind fun S19 => (nwA 20 8 (S19.1, S19.2.1, S19.2.2.1, S19.2.2.2)).bind fun S21 => (pr 5 5 w0 (S19.2.2.1 + 1) (S21.1, S21.2.1, S21.2.2.1, S21.2.2.2)).bind fun S24 => (pr 5 0 w0 w1 (S24.1, S24.2.1, S24.2.2.1, S24.2.2.2)).bind fun S26 => some (S26.1, S26.2.1, S26.2.2.1, S26.2.2.2)
set_option maxHeartbeats 4000000 in
set_option maxRecDepth 100000 in
theorem c_X5_init (l : Launch) (cA : Nat → ClassId) (D : va_G) (N : Nat) (sx : Sx) (ad : Nat → Nat) (T : Knd) (A : Rfs) (nx : Nat) (I : Mem) (w0 : Nat) (w1 : Nat) (hrb : RB A nx) (hb0 : 1 ≤ w0 ∧ w0 ≤ nx) (hb1 : 1 ≤ w1 ∧ w1 ≤ nx) (e : St) (h : f_X5_init T A nx w0 w1 I = some e) : CtA l yX5_init cX5_init 2 1 8 49 60 cA D N sx ad T A nx [rv ad w0, rv ad w1] I e := by
  refine met_ofA (lv0 := [(0, rv ad w0), (1, rv ad w1)]) (by decide) (Nat.le_of_ble_eq_true rfl) rfl (by omega) (fun p e0 s m args below meth c S0 hK hX hAX hN hin hr hlk Q hQ => ?_)
  have hf : OK (f_X5_init T A nx w0 w1 I) (fun z => z = e) := ⟨e, h, rfl⟩
  unfold f_X5_init at hf
  have hag : ∀ i, i ≤ nx → ad i = ad i := fun _ _ => rfl
  refine r_aload_n (pc := 0) S0 0 dX5_init_0 rfl rfl ?_
  refine r_obj (pc := 1) S0 oi_X5_3 dX5_init_1 ⟨by decide, Nat.le_of_ble_eq_true rfl⟩ ?_
  refine r_aload_n (pc := 4) S0 0 dX5_init_4 rfl rfl ?_
  refine r_bipush (pc := 5) S0 dX5_init_5 (by decide) ?_
  refine r_nwai (pc := 7) S0 hK ac_i hN hrb (fun ad => [(0, rv ad w0), (1, rv ad w1)]) (fun ad => [rv ad w0]) (fun ad1 h => by simp only [rv, h w0 (by omega), h w1 (by omega)]) (fun ad1 h => by simp only [rv, h w0 (by omega)]) (cnz 8 rfl) dX5_init_7 1 8 ⟨rfl, by decide, by decide, by decide⟩ hf (fun ad S1 h2 n3 hrb hf => ?_)
  have hag := fun i (hi : i ≤ nx) => (h2 i (by omega)).trans (hag i hi)
  refine r_putR (pc := 9) S0 hK hin hrb fl_X5_9 rfl rfl rfl (fun _ => rfl) (fun _ => rfl) dX5_init_9 hf (fun S4 n5 hrb hf => ?_)
  refine r_aload_n (pc := 12) S0 0 dX5_init_12 rfl rfl ?_
  refine r_iconst (pc := 13) S0 dX5_init_13 ?_
  refine r_nwai (pc := 14) S0 hK ac_i hN hrb (fun ad => [(0, rv ad w0), (1, rv ad w1)]) (fun ad => [rv ad w0]) (fun ad1 h => by simp only [rv, h w0 (by omega), h w1 (by omega)]) (fun ad1 h => by simp only [rv, h w0 (by omega)]) (cnz 3 rfl) dX5_init_14 2 11 ⟨rfl, by decide, by decide, by decide⟩ hf (fun ad S6 h7 n8 hrb hf => ?_)
  have hag := fun i (hi : i ≤ nx) => (h7 i (by omega)).trans (hag i hi)
  refine r_putR (pc := 16) S0 hK hin hrb fl_X5_15 rfl rfl rfl (fun _ => rfl) (fun _ => rfl) dX5_init_16 hf (fun S9 n10 hrb hf => ?_)
  refine r_aload_n (pc := 19) S0 0 dX5_init_19 rfl rfl ?_
  refine r_iconst (pc := 20) S0 dX5_init_20 ?_
  refine r_nwai (pc := 21) S0 hK ac_i hN hrb (fun ad => [(0, rv ad w0), (1, rv ad w1)]) (fun ad => [rv ad w0]) (fun ad1 h => by simp only [rv, h w0 (by omega), h w1 (by omega)]) (fun ad1 h => by simp only [rv, h w0 (by omega)]) (cnz 3 rfl) dX5_init_21 3 14 ⟨rfl, by decide, by decide, by decide⟩ hf (fun ad S11 h12 n13 hrb hf => ?_)
  have hag := fun i (hi : i ≤ nx) => (h12 i (by omega)).trans (hag i hi)
  refine r_putR (pc := 23) S0 hK hin hrb fl_X5_18 rfl rfl rfl (fun _ => rfl) (fun _ => rfl) dX5_init_23 hf (fun S14 n15 hrb hf => ?_)
  refine r_aload_n (pc := 26) S0 0 dX5_init_26 rfl rfl ?_
  refine r_iconst (pc := 27) S0 dX5_init_27 ?_
  refine r_bipush (pc := 28) S0 dX5_init_28 (by decide) ?_
  refine r_nwmi (pc := 30) S0 hK hAX.1 ac_i cl_X5_21 hN hrb (fun ad => [(0, rv ad w0), (1, rv ad w1)]) (fun ad => [rv ad w0]) (fun ad1 h => by simp only [rv, h w0 (by omega), h w1 (by omega)]) (fun ad1 h => by simp only [rv, h w0 (by omega)]) (cnz 3 rfl) (cnz 8 rfl) dX5_init_30 7 41 ⟨by decide, by decide, by decide, by decide⟩ hf (fun ad S16 h17 n18 hrb hf => ?_)
  have hag := fun i (hi : i ≤ nx) => (h17 i (by omega)).trans (hag i hi)
  have n18 : S16.2.2.1 = S14.2.2.1 + 1 + 3 := n18
  refine r_putR (pc := 34) S0 hK hin hrb fl_X5_23 rfl rfl rfl (fun _ => rfl) (fun _ => rfl) dX5_init_34 hf (fun S19 n20 hrb hf => ?_)
  refine r_aload_n (pc := 37) S0 0 dX5_init_37 rfl rfl ?_
  refine r_bipush (pc := 38) S0 dX5_init_38 (by decide) ?_
  refine r_nwai (pc := 40) S0 hK ac_i hN hrb (fun ad => [(0, rv ad w0), (1, rv ad w1)]) (fun ad => [rv ad w0]) (fun ad1 h => by simp only [rv, h w0 (by omega), h w1 (by omega)]) (fun ad1 h => by simp only [rv, h w0 (by omega)]) (cnz 8 rfl) dX5_init_40 8 49 ⟨rfl, by decide, by decide, by decide⟩ hf (fun ad S21 h22 n23 hrb hf => ?_)
  have hag := fun i (hi : i ≤ nx) => (h22 i (by omega)).trans (hag i hi)
  refine r_putR (pc := 42) S0 hK hin hrb fl_X5_26 rfl rfl rfl (fun _ => rfl) (fun _ => rfl) dX5_init_42 hf (fun S24 n25 hrb hf => ?_)
  refine r_aload_n (pc := 45) S0 0 dX5_init_45 rfl rfl ?_
  refine r_aload_n (pc := 46) S0 1 dX5_init_46 rfl rfl ?_
  refine r_putR (pc := 47) S0 hK hin hrb fl_X5_29 rfl rfl rfl (fun _ => rfl) (fun _ => rfl) dX5_init_47 hf (fun S26 n27 hrb hf => ?_)
  have hz := ok_some hf
  have hz : (S26.1, S26.2.1, S26.2.2.1, S26.2.2.2) = e := hz
  subst hQ
  subst hz
  exact r_vretA (pc := 50) S0 hr hlk hag (by omega) hrb dX5_init_50

def f_X6_init (T : Knd) (A : Rfs) (nx : Nat) (w0 : Nat) (I : Mem) : Option St := (nwA 20 8 (T, A, nx, I)).bind fun S1 => (pr 6 0 w0 (nx + 1) (S1.1, S1.2.1, S1.2.2.1, S1.2.2.2)).bind fun S4 => (nwA 20 8 (S4.1, S4.2.1, S4.2.2.1, S4.2.2.2)).bind fun S6 => (pr 6 1 w0 (S4.2.2.1 + 1) (S6.1, S6.2.1, S6.2.2.1, S6.2.2.2)).bind fun S9 => (nwA 21 256 (S9.1, S9.2.1, S9.2.2.1, S9.2.2.2)).bind fun S11 => (pr 6 2 w0 (S9.2.2.1 + 1) (S11.1, S11.2.1, S11.2.2.1, S11.2.2.2)).bind fun S14 => (nwA 20 8 (S14.1, S14.2.1, S14.2.2.1, S14.2.2.2)).bind fun S16 => (pr 6 3 w0 (S14.2.2.1 + 1) (S16.1, S16.2.1, S16.2.2.1, S16.2.2.2)).bind fun S19 => (nwA 20 8 (S19.1, S19.2.1, S19.2.2.1, S19.2.2.2)).bind fun S21 => (pr 6 4 w0 (S19.2.2.1 + 1) (S21.1, S21.2.1, S21.2.2.1, S21.2.2.2)).bind fun S24 => some (S24.1, S24.2.1, S24.2.2.1, S24.2.2.2)
set_option maxHeartbeats 4000000 in
set_option maxRecDepth 100000 in
theorem c_X6_init (l : Launch) (cA : Nat → ClassId) (D : va_G) (N : Nat) (sx : Sx) (ad : Nat → Nat) (T : Knd) (A : Rfs) (nx : Nat) (I : Mem) (w0 : Nat) (hrb : RB A nx) (hb0 : 1 ≤ w0 ∧ w0 ≤ nx) (e : St) (h : f_X6_init T A nx w0 I = some e) : CtA l yX6_init cX6_init 1 1 5 288 60 cA D N sx ad T A nx [rv ad w0] I e := by
  refine met_ofA (lv0 := [(0, rv ad w0)]) (by decide) (Nat.le_of_ble_eq_true rfl) rfl (by omega) (fun p e0 s m args below meth c S0 hK hX hAX hN hin hr hlk Q hQ => ?_)
  have hf : OK (f_X6_init T A nx w0 I) (fun z => z = e) := ⟨e, h, rfl⟩
  unfold f_X6_init at hf
  have hag : ∀ i, i ≤ nx → ad i = ad i := fun _ _ => rfl
  refine r_aload_n (pc := 0) S0 0 dX6_init_0 rfl rfl ?_
  refine r_obj (pc := 1) S0 oi_X6_3 dX6_init_1 ⟨by decide, Nat.le_of_ble_eq_true rfl⟩ ?_
  refine r_aload_n (pc := 4) S0 0 dX6_init_4 rfl rfl ?_
  refine r_bipush (pc := 5) S0 dX6_init_5 (by decide) ?_
  refine r_nwai (pc := 7) S0 hK ac_i hN hrb (fun ad => [(0, rv ad w0)]) (fun ad => [rv ad w0]) (fun ad1 h => by simp only [rv, h w0 (by omega)]) (fun ad1 h => by simp only [rv, h w0 (by omega)]) (cnz 8 rfl) dX6_init_7 1 8 ⟨rfl, by decide, by decide, by decide⟩ hf (fun ad S1 h2 n3 hrb hf => ?_)
  have hag := fun i (hi : i ≤ nx) => (h2 i (by omega)).trans (hag i hi)
  refine r_putR (pc := 9) S0 hK hin hrb fl_X6_9 rfl rfl rfl (fun _ => rfl) (fun _ => rfl) dX6_init_9 hf (fun S4 n5 hrb hf => ?_)
  refine r_aload_n (pc := 12) S0 0 dX6_init_12 rfl rfl ?_
  refine r_bipush (pc := 13) S0 dX6_init_13 (by decide) ?_
  refine r_nwai (pc := 15) S0 hK ac_i hN hrb (fun ad => [(0, rv ad w0)]) (fun ad => [rv ad w0]) (fun ad1 h => by simp only [rv, h w0 (by omega)]) (fun ad1 h => by simp only [rv, h w0 (by omega)]) (cnz 8 rfl) dX6_init_15 2 16 ⟨rfl, by decide, by decide, by decide⟩ hf (fun ad S6 h7 n8 hrb hf => ?_)
  have hag := fun i (hi : i ≤ nx) => (h7 i (by omega)).trans (hag i hi)
  refine r_putR (pc := 17) S0 hK hin hrb fl_X6_15 rfl rfl rfl (fun _ => rfl) (fun _ => rfl) dX6_init_17 hf (fun S9 n10 hrb hf => ?_)
  refine r_aload_n (pc := 20) S0 0 dX6_init_20 rfl rfl ?_
  refine r_sipush (pc := 21) S0 dX6_init_21 (by decide) ?_
  refine r_nwaj (pc := 24) S0 hK ac_j hN hrb (fun ad => [(0, rv ad w0)]) (fun ad => [rv ad w0]) (fun ad1 h => by simp only [rv, h w0 (by omega)]) (fun ad1 h => by simp only [rv, h w0 (by omega)]) (cnz 256 rfl) dX6_init_24 3 272 ⟨rfl, by decide, by decide, by decide⟩ hf (fun ad S11 h12 n13 hrb hf => ?_)
  have hag := fun i (hi : i ≤ nx) => (h12 i (by omega)).trans (hag i hi)
  refine r_putR (pc := 26) S0 hK hin hrb fl_X6_18 rfl rfl rfl (fun _ => rfl) (fun _ => rfl) dX6_init_26 hf (fun S14 n15 hrb hf => ?_)
  refine r_aload_n (pc := 29) S0 0 dX6_init_29 rfl rfl ?_
  refine r_bipush (pc := 30) S0 dX6_init_30 (by decide) ?_
  refine r_nwai (pc := 32) S0 hK ac_i hN hrb (fun ad => [(0, rv ad w0)]) (fun ad => [rv ad w0]) (fun ad1 h => by simp only [rv, h w0 (by omega)]) (fun ad1 h => by simp only [rv, h w0 (by omega)]) (cnz 8 rfl) dX6_init_32 4 280 ⟨rfl, by decide, by decide, by decide⟩ hf (fun ad S16 h17 n18 hrb hf => ?_)
  have hag := fun i (hi : i ≤ nx) => (h17 i (by omega)).trans (hag i hi)
  refine r_putR (pc := 34) S0 hK hin hrb fl_X6_22 rfl rfl rfl (fun _ => rfl) (fun _ => rfl) dX6_init_34 hf (fun S19 n20 hrb hf => ?_)
  refine r_aload_n (pc := 37) S0 0 dX6_init_37 rfl rfl ?_
  refine r_bipush (pc := 38) S0 dX6_init_38 (by decide) ?_
  refine r_nwai (pc := 40) S0 hK ac_i hN hrb (fun ad => [(0, rv ad w0)]) (fun ad => [rv ad w0]) (fun ad1 h => by simp only [rv, h w0 (by omega)]) (fun ad1 h => by simp only [rv, h w0 (by omega)]) (cnz 8 rfl) dX6_init_40 5 288 ⟨rfl, by decide, by decide, by decide⟩ hf (fun ad S21 h22 n23 hrb hf => ?_)
  have hag := fun i (hi : i ≤ nx) => (h22 i (by omega)).trans (hag i hi)
  refine r_putR (pc := 42) S0 hK hin hrb fl_X6_25 rfl rfl rfl (fun _ => rfl) (fun _ => rfl) dX6_init_42 hf (fun S24 n25 hrb hf => ?_)
  have hz := ok_some hf
  have hz : (S24.1, S24.2.1, S24.2.2.1, S24.2.2.2) = e := hz
  subst hQ
  subst hz
  exact r_vretA (pc := 45) S0 hr hlk hag (by omega) hrb dX6_init_45

def f_X1_init (T : Knd) (A : Rfs) (nx : Nat) (w0 : Nat) (I : Mem) : Option St := (nwA 20 256 (T, A, nx, I)).bind fun S1 => (pr 1 0 w0 (nx + 1) (S1.1, S1.2.1, S1.2.2.1, S1.2.2.2)).bind fun S4 => (nwA 20 256 (S4.1, S4.2.1, S4.2.2.1, S4.2.2.2)).bind fun S6 => (pr 1 1 w0 (S4.2.2.1 + 1) (S6.1, S6.2.1, S6.2.2.1, S6.2.2.2)).bind fun S9 => (nwA 20 256 (S9.1, S9.2.1, S9.2.2.1, S9.2.2.2)).bind fun S11 => (pr 1 2 w0 (S9.2.2.1 + 1) (S11.1, S11.2.1, S11.2.2.1, S11.2.2.2)).bind fun S14 => some (S14.1, S14.2.1, S14.2.2.1, S14.2.2.2)
set_option maxHeartbeats 4000000 in
set_option maxRecDepth 100000 in
theorem c_X1_init (l : Launch) (cA : Nat → ClassId) (D : va_G) (N : Nat) (sx : Sx) (ad : Nat → Nat) (T : Knd) (A : Rfs) (nx : Nat) (I : Mem) (w0 : Nat) (hrb : RB A nx) (hb0 : 1 ≤ w0 ∧ w0 ≤ nx) (e : St) (h : f_X1_init T A nx w0 I = some e) : CtA l yX1_init cX1_init 1 1 3 768 60 cA D N sx ad T A nx [rv ad w0] I e := by
  refine met_ofA (lv0 := [(0, rv ad w0)]) (by decide) (Nat.le_of_ble_eq_true rfl) rfl (by omega) (fun p e0 s m args below meth c S0 hK hX hAX hN hin hr hlk Q hQ => ?_)
  have hf : OK (f_X1_init T A nx w0 I) (fun z => z = e) := ⟨e, h, rfl⟩
  unfold f_X1_init at hf
  have hag : ∀ i, i ≤ nx → ad i = ad i := fun _ _ => rfl
  refine r_aload_n (pc := 0) S0 0 dX1_init_0 rfl rfl ?_
  refine r_obj (pc := 1) S0 oi_X1_3 dX1_init_1 ⟨by decide, Nat.le_of_ble_eq_true rfl⟩ ?_
  refine r_aload_n (pc := 4) S0 0 dX1_init_4 rfl rfl ?_
  refine r_sipush (pc := 5) S0 dX1_init_5 (by decide) ?_
  refine r_nwai (pc := 8) S0 hK ac_i hN hrb (fun ad => [(0, rv ad w0)]) (fun ad => [rv ad w0]) (fun ad1 h => by simp only [rv, h w0 (by omega)]) (fun ad1 h => by simp only [rv, h w0 (by omega)]) (cnz 256 rfl) dX1_init_8 1 256 ⟨rfl, by decide, by decide, by decide⟩ hf (fun ad S1 h2 n3 hrb hf => ?_)
  have hag := fun i (hi : i ≤ nx) => (h2 i (by omega)).trans (hag i hi)
  refine r_putR (pc := 10) S0 hK hin hrb fl_X1_9 rfl rfl rfl (fun _ => rfl) (fun _ => rfl) dX1_init_10 hf (fun S4 n5 hrb hf => ?_)
  refine r_aload_n (pc := 13) S0 0 dX1_init_13 rfl rfl ?_
  refine r_sipush (pc := 14) S0 dX1_init_14 (by decide) ?_
  refine r_nwai (pc := 17) S0 hK ac_i hN hrb (fun ad => [(0, rv ad w0)]) (fun ad => [rv ad w0]) (fun ad1 h => by simp only [rv, h w0 (by omega)]) (fun ad1 h => by simp only [rv, h w0 (by omega)]) (cnz 256 rfl) dX1_init_17 2 512 ⟨rfl, by decide, by decide, by decide⟩ hf (fun ad S6 h7 n8 hrb hf => ?_)
  have hag := fun i (hi : i ≤ nx) => (h7 i (by omega)).trans (hag i hi)
  refine r_putR (pc := 19) S0 hK hin hrb fl_X1_15 rfl rfl rfl (fun _ => rfl) (fun _ => rfl) dX1_init_19 hf (fun S9 n10 hrb hf => ?_)
  refine r_aload_n (pc := 22) S0 0 dX1_init_22 rfl rfl ?_
  refine r_sipush (pc := 23) S0 dX1_init_23 (by decide) ?_
  refine r_nwai (pc := 26) S0 hK ac_i hN hrb (fun ad => [(0, rv ad w0)]) (fun ad => [rv ad w0]) (fun ad1 h => by simp only [rv, h w0 (by omega)]) (fun ad1 h => by simp only [rv, h w0 (by omega)]) (cnz 256 rfl) dX1_init_26 3 768 ⟨rfl, by decide, by decide, by decide⟩ hf (fun ad S11 h12 n13 hrb hf => ?_)
  have hag := fun i (hi : i ≤ nx) => (h12 i (by omega)).trans (hag i hi)
  refine r_putR (pc := 28) S0 hK hin hrb fl_X1_18 rfl rfl rfl (fun _ => rfl) (fun _ => rfl) dX1_init_28 hf (fun S14 n15 hrb hf => ?_)
  have hz := ok_some hf
  have hz : (S14.1, S14.2.1, S14.2.2.1, S14.2.2.2) = e := hz
  subst hQ
  subst hz
  exact r_vretA (pc := 31) S0 hr hlk hag (by omega) hrb dX1_init_31

def f_X7_init (T : Knd) (A : Rfs) (nx : Nat) (w0 : Nat) (I : Mem) : Option St := (nwM 25 21 4 60 (T, A, nx, I)).bind fun S1 => (pr 7 0 w0 (nx + 1) (S1.1, S1.2.1, S1.2.2.1, S1.2.2.2)).bind fun S4 => (nwA 20 4 (S4.1, S4.2.1, S4.2.2.1, S4.2.2.2)).bind fun S6 => (pr 7 1 w0 (S4.2.2.1 + 1) (S6.1, S6.2.1, S6.2.2.1, S6.2.2.2)).bind fun S9 => (nwA 20 4 (S9.1, S9.2.1, S9.2.2.1, S9.2.2.2)).bind fun S11 => (pr 7 2 w0 (S9.2.2.1 + 1) (S11.1, S11.2.1, S11.2.2.1, S11.2.2.2)).bind fun S14 => (gr S14.1 S14.2.1 7 2 w0).bind fun x16 => (f_J7_fill_53178 S14.1 S14.2.1 x16 (-1) S14.2.2.2).bind fun e17 => some (S14.1, S14.2.1, S14.2.2.1, e17)
set_option maxHeartbeats 4000000 in
set_option maxRecDepth 100000 in
theorem c_X7_init (l : Launch) (cA : Nat → ClassId) (D : va_G) (N : Nat) (sx : Sx) (ad : Nat → Nat) (T : Knd) (A : Rfs) (nx : Nat) (I : Mem) (w0 : Nat) (hrb : RB A nx) (hb0 : 1 ≤ w0 ∧ w0 ≤ nx) (e : St) (h : f_X7_init T A nx w0 I = some e) : CtA l yX7_init cX7_init 1 2 7 252 83 cA D N sx ad T A nx [rv ad w0] I e := by
  refine met_ofA (lv0 := [(0, rv ad w0)]) (by decide) (Nat.le_of_ble_eq_true rfl) rfl (by omega) (fun p e0 s m args below meth c S0 hK hX hAX hN hin hr hlk Q hQ => ?_)
  have hf : OK (f_X7_init T A nx w0 I) (fun z => z = e) := ⟨e, h, rfl⟩
  unfold f_X7_init at hf
  have hag : ∀ i, i ≤ nx → ad i = ad i := fun _ _ => rfl
  refine r_aload_n (pc := 0) S0 0 dX7_init_0 rfl rfl ?_
  refine r_obj (pc := 1) S0 oi_X7_3 dX7_init_1 ⟨by decide, Nat.le_of_ble_eq_true rfl⟩ ?_
  refine r_aload_n (pc := 4) S0 0 dX7_init_4 rfl rfl ?_
  refine r_iconst (pc := 5) S0 dX7_init_5 ?_
  refine r_bipush (pc := 6) S0 dX7_init_6 (by decide) ?_
  refine r_nwmj (pc := 8) S0 hK hAX.2.1 ac_j cl_X7_11 hN hrb (fun ad => [(0, rv ad w0)]) (fun ad => [rv ad w0]) (fun ad1 h => by simp only [rv, h w0 (by omega)]) (fun ad1 h => by simp only [rv, h w0 (by omega)]) (cnz 4 rfl) (cnz 60 rfl) dX7_init_8 5 244 ⟨by decide, by decide, by decide, by decide⟩ hf (fun ad S1 h2 n3 hrb hf => ?_)
  have hag := fun i (hi : i ≤ nx) => (h2 i (by omega)).trans (hag i hi)
  have n3 : S1.2.2.1 = nx + 1 + 4 := n3
  refine r_putR (pc := 12) S0 hK hin hrb fl_X7_13 rfl rfl rfl (fun _ => rfl) (fun _ => rfl) dX7_init_12 hf (fun S4 n5 hrb hf => ?_)
  refine r_aload_n (pc := 15) S0 0 dX7_init_15 rfl rfl ?_
  refine r_iconst (pc := 16) S0 dX7_init_16 ?_
  refine r_nwai (pc := 17) S0 hK ac_i hN hrb (fun ad => [(0, rv ad w0)]) (fun ad => [rv ad w0]) (fun ad1 h => by simp only [rv, h w0 (by omega)]) (fun ad1 h => by simp only [rv, h w0 (by omega)]) (cnz 4 rfl) dX7_init_17 6 248 ⟨rfl, by decide, by decide, by decide⟩ hf (fun ad S6 h7 n8 hrb hf => ?_)
  have hag := fun i (hi : i ≤ nx) => (h7 i (by omega)).trans (hag i hi)
  refine r_putR (pc := 19) S0 hK hin hrb fl_X7_16 rfl rfl rfl (fun _ => rfl) (fun _ => rfl) dX7_init_19 hf (fun S9 n10 hrb hf => ?_)
  refine r_aload_n (pc := 22) S0 0 dX7_init_22 rfl rfl ?_
  refine r_iconst (pc := 23) S0 dX7_init_23 ?_
  refine r_nwai (pc := 24) S0 hK ac_i hN hrb (fun ad => [(0, rv ad w0)]) (fun ad => [rv ad w0]) (fun ad1 h => by simp only [rv, h w0 (by omega)]) (fun ad1 h => by simp only [rv, h w0 (by omega)]) (cnz 4 rfl) dX7_init_24 7 252 ⟨rfl, by decide, by decide, by decide⟩ hf (fun ad S11 h12 n13 hrb hf => ?_)
  have hag := fun i (hi : i ≤ nx) => (h12 i (by omega)).trans (hag i hi)
  refine r_putR (pc := 26) S0 hK hin hrb fl_X7_20 rfl rfl rfl (fun _ => rfl) (fun _ => rfl) dX7_init_26 hf (fun S14 n15 hrb hf => ?_)
  refine r_aload_n (pc := 29) S0 0 dX7_init_29 rfl rfl ?_
  refine r_getRb (pc := 30) S0 hK hrb fl_X7_20 dX7_init_30 hf (fun x16 hxx16 hf => ?_)
  refine r_iconst (pc := 33) S0 dX7_init_33 ?_
  obtain ⟨e17, h18, hf⟩ := ok_bind hf
  refine r_cS_V (pc := 34) [rv ad x16, iv (-1)] S0 hK hX ms_X7_23 (c_J7_fill_53178 l cA D N sx ad S14.1 S14.2.1 S14.2.2.1 S14.2.2.2 x16 (-1) (cnz (-1) rfl) e17 h18) rfl rfl ⟨by decide, by decide⟩ (Nat.le_of_ble_eq_true rfl) ⟨Nat.le_refl _, Nat.le_refl _⟩ dX7_init_34 ?_
  have hz := ok_some hf
  have hz : (S14.1, S14.2.1, S14.2.2.1, e17) = e := hz
  subst hQ
  subst hz
  exact r_vretA (pc := 37) S0 hr hlk hag (by omega) hrb dX7_init_37

def f_X3_init (T : Knd) (A : Rfs) (nx : Nat) (w0 : Nat) (w1 : Nat) (I : Mem) : Option St := (nwA 20 400 (T, A, nx, I)).bind fun S1 => (pr 3 1 w0 (nx + 1) (S1.1, S1.2.1, S1.2.2.1, S1.2.2.2)).bind fun S4 => (nwA 20 9 (S4.1, S4.2.1, S4.2.2.1, S4.2.2.2)).bind fun S6 => (pr 3 2 w0 (S4.2.2.1 + 1) (S6.1, S6.2.1, S6.2.2.1, S6.2.2.2)).bind fun S9 => (nwA 20 8 (S9.1, S9.2.1, S9.2.2.1, S9.2.2.2)).bind fun S11 => (pr 3 3 w0 (S9.2.2.1 + 1) (S11.1, S11.2.1, S11.2.2.1, S11.2.2.2)).bind fun S14 => (pr 3 0 w0 w1 (S14.1, S14.2.1, S14.2.2.1, S14.2.2.2)).bind fun S16 => some (S16.1, S16.2.1, S16.2.2.1, S16.2.2.2)
set_option maxHeartbeats 4000000 in
set_option maxRecDepth 100000 in
theorem c_X3_init (l : Launch) (cA : Nat → ClassId) (D : va_G) (N : Nat) (sx : Sx) (ad : Nat → Nat) (T : Knd) (A : Rfs) (nx : Nat) (I : Mem) (w0 : Nat) (w1 : Nat) (hrb : RB A nx) (hb0 : 1 ≤ w0 ∧ w0 ≤ nx) (hb1 : 1 ≤ w1 ∧ w1 ≤ nx) (e : St) (h : f_X3_init T A nx w0 w1 I = some e) : CtA l yX3_init cX3_init 2 1 3 417 60 cA D N sx ad T A nx [rv ad w0, rv ad w1] I e := by
  refine met_ofA (lv0 := [(0, rv ad w0), (1, rv ad w1)]) (by decide) (Nat.le_of_ble_eq_true rfl) rfl (by omega) (fun p e0 s m args below meth c S0 hK hX hAX hN hin hr hlk Q hQ => ?_)
  have hf : OK (f_X3_init T A nx w0 w1 I) (fun z => z = e) := ⟨e, h, rfl⟩
  unfold f_X3_init at hf
  have hag : ∀ i, i ≤ nx → ad i = ad i := fun _ _ => rfl
  refine r_aload_n (pc := 0) S0 0 dX3_init_0 rfl rfl ?_
  refine r_obj (pc := 1) S0 oi_X3_3 dX3_init_1 ⟨by decide, Nat.le_of_ble_eq_true rfl⟩ ?_
  refine r_aload_n (pc := 4) S0 0 dX3_init_4 rfl rfl ?_
  refine r_sipush (pc := 5) S0 dX3_init_5 (by decide) ?_
  refine r_nwai (pc := 8) S0 hK ac_i hN hrb (fun ad => [(0, rv ad w0), (1, rv ad w1)]) (fun ad => [rv ad w0]) (fun ad1 h => by simp only [rv, h w0 (by omega), h w1 (by omega)]) (fun ad1 h => by simp only [rv, h w0 (by omega)]) (cnz 400 rfl) dX3_init_8 1 400 ⟨rfl, by decide, by decide, by decide⟩ hf (fun ad S1 h2 n3 hrb hf => ?_)
  have hag := fun i (hi : i ≤ nx) => (h2 i (by omega)).trans (hag i hi)
  refine r_putR (pc := 10) S0 hK hin hrb fl_X3_9 rfl rfl rfl (fun _ => rfl) (fun _ => rfl) dX3_init_10 hf (fun S4 n5 hrb hf => ?_)
  refine r_aload_n (pc := 13) S0 0 dX3_init_13 rfl rfl ?_
  refine r_bipush (pc := 14) S0 dX3_init_14 (by decide) ?_
  refine r_nwai (pc := 16) S0 hK ac_i hN hrb (fun ad => [(0, rv ad w0), (1, rv ad w1)]) (fun ad => [rv ad w0]) (fun ad1 h => by simp only [rv, h w0 (by omega), h w1 (by omega)]) (fun ad1 h => by simp only [rv, h w0 (by omega)]) (cnz 9 rfl) dX3_init_16 2 409 ⟨rfl, by decide, by decide, by decide⟩ hf (fun ad S6 h7 n8 hrb hf => ?_)
  have hag := fun i (hi : i ≤ nx) => (h7 i (by omega)).trans (hag i hi)
  refine r_putR (pc := 18) S0 hK hin hrb fl_X3_15 rfl rfl rfl (fun _ => rfl) (fun _ => rfl) dX3_init_18 hf (fun S9 n10 hrb hf => ?_)
  refine r_aload_n (pc := 21) S0 0 dX3_init_21 rfl rfl ?_
  refine r_bipush (pc := 22) S0 dX3_init_22 (by decide) ?_
  refine r_nwai (pc := 24) S0 hK ac_i hN hrb (fun ad => [(0, rv ad w0), (1, rv ad w1)]) (fun ad => [rv ad w0]) (fun ad1 h => by simp only [rv, h w0 (by omega), h w1 (by omega)]) (fun ad1 h => by simp only [rv, h w0 (by omega)]) (cnz 8 rfl) dX3_init_24 3 417 ⟨rfl, by decide, by decide, by decide⟩ hf (fun ad S11 h12 n13 hrb hf => ?_)
  have hag := fun i (hi : i ≤ nx) => (h12 i (by omega)).trans (hag i hi)
  refine r_putR (pc := 26) S0 hK hin hrb fl_X3_18 rfl rfl rfl (fun _ => rfl) (fun _ => rfl) dX3_init_26 hf (fun S14 n15 hrb hf => ?_)
  refine r_aload_n (pc := 29) S0 0 dX3_init_29 rfl rfl ?_
  refine r_aload_n (pc := 30) S0 1 dX3_init_30 rfl rfl ?_
  refine r_putR (pc := 31) S0 hK hin hrb fl_X3_21 rfl rfl rfl (fun _ => rfl) (fun _ => rfl) dX3_init_31 hf (fun S16 n17 hrb hf => ?_)
  have hz := ok_some hf
  have hz : (S16.1, S16.2.1, S16.2.2.1, S16.2.2.2) = e := hz
  subst hQ
  subst hz
  exact r_vretA (pc := 34) S0 hr hlk hag (by omega) hrb dX3_init_34

def f_X0_init (T : Knd) (A : Rfs) (nx : Nat) (w0 : Nat) (w1 : Nat) (I : Mem) : Option St := (pr 0 0 w0 w1 (T, A, nx, I)).bind fun S1 => some (S1.1, S1.2.1, S1.2.2.1, S1.2.2.2)
set_option maxHeartbeats 4000000 in
set_option maxRecDepth 100000 in
theorem c_X0_init (l : Launch) (cA : Nat → ClassId) (D : va_G) (N : Nat) (sx : Sx) (ad : Nat → Nat) (T : Knd) (A : Rfs) (nx : Nat) (I : Mem) (w0 : Nat) (w1 : Nat) (hrb : RB A nx) (hb0 : 1 ≤ w0 ∧ w0 ≤ nx) (hb1 : 1 ≤ w1 ∧ w1 ≤ nx) (e : St) (h : f_X0_init T A nx w0 w1 I = some e) : CtA l yX0_init cX0_init 2 1 0 0 60 cA D N sx ad T A nx [rv ad w0, rv ad w1] I e := by
  refine met_ofA (lv0 := [(0, rv ad w0), (1, rv ad w1)]) (by decide) (Nat.le_of_ble_eq_true rfl) rfl (by omega) (fun p e0 s m args below meth c S0 hK hX hAX hN hin hr hlk Q hQ => ?_)
  have hf : OK (f_X0_init T A nx w0 w1 I) (fun z => z = e) := ⟨e, h, rfl⟩
  unfold f_X0_init at hf
  have hag : ∀ i, i ≤ nx → ad i = ad i := fun _ _ => rfl
  refine r_aload_n (pc := 0) S0 0 dX0_init_0 rfl rfl ?_
  refine r_obj (pc := 1) S0 oi_X0_3 dX0_init_1 ⟨by decide, Nat.le_of_ble_eq_true rfl⟩ ?_
  refine r_aload_n (pc := 4) S0 0 dX0_init_4 rfl rfl ?_
  refine r_aload_n (pc := 5) S0 1 dX0_init_5 rfl rfl ?_
  refine r_putR (pc := 6) S0 hK hin hrb fl_X0_9 rfl rfl rfl (fun _ => rfl) (fun _ => rfl) dX0_init_6 hf (fun S1 n2 hrb hf => ?_)
  have hz := ok_some hf
  have hz : (S1.1, S1.2.1, S1.2.2.1, S1.2.2.2) = e := hz
  subst hQ
  subst hz
  exact r_vretA (pc := 9) S0 hr hlk hag (by omega) hrb dX0_init_9

def f_X11_init (T : Knd) (A : Rfs) (nx : Nat) (w0 : Nat) (I : Mem) : Option St := (nwO 8 (T, A, nx, I)).bind fun S1 => (f_X8_init S1.1 S1.2.1 S1.2.2.1 (nx + 1) S1.2.2.2).bind fun e4 => (pr 11 0 w0 (nx + 1) (e4.1, e4.2.1, e4.2.2.1, e4.2.2.2)).bind fun S8 => (nwO 4 (S8.1, S8.2.1, S8.2.2.1, S8.2.2.2)).bind fun S10 => (gr S10.1 S10.2.1 11 0 w0).bind fun x13 => (f_X4_init S10.1 S10.2.1 S10.2.2.1 (S8.2.2.1 + 1) x13 S10.2.2.2).bind fun e14 => (pr 11 1 w0 (S8.2.2.1 + 1) (e14.1, e14.2.1, e14.2.2.1, e14.2.2.2)).bind fun S18 => (nwO 2 (S18.1, S18.2.1, S18.2.2.1, S18.2.2.2)).bind fun S20 => (f_X2_init S20.1 S20.2.1 S20.2.2.1 (S18.2.2.1 + 1) S20.2.2.2).bind fun e23 => (pr 11 2 w0 (S18.2.2.1 + 1) (e23.1, e23.2.1, e23.2.2.1, e23.2.2.2)).bind fun S27 => (nwO 9 (S27.1, S27.2.1, S27.2.2.1, S27.2.2.2)).bind fun S29 => (f_X9_init S29.1 S29.2.1 S29.2.2.1 (S27.2.2.1 + 1) S29.2.2.2).bind fun e32 => (pr 11 3 w0 (S27.2.2.1 + 1) (e32.1, e32.2.1, e32.2.2.1, e32.2.2.2)).bind fun S36 => (nwO 10 (S36.1, S36.2.1, S36.2.2.1, S36.2.2.2)).bind fun S38 => (gr S38.1 S38.2.1 11 2 w0).bind fun x41 => (gr S38.1 S38.2.1 11 3 w0).bind fun x42 => (f_X10_init S38.1 S38.2.1 S38.2.2.1 (S36.2.2.1 + 1) x41 x42 S38.2.2.2).bind fun e43 => (pr 11 4 w0 (S36.2.2.1 + 1) (e43.1, e43.2.1, e43.2.2.1, e43.2.2.2)).bind fun S47 => (nwO 10 (S47.1, S47.2.1, S47.2.2.1, S47.2.2.2)).bind fun S49 => (gr S49.1 S49.2.1 11 2 w0).bind fun x52 => (gr S49.1 S49.2.1 11 3 w0).bind fun x53 => (f_X10_init S49.1 S49.2.1 S49.2.2.1 (S47.2.2.1 + 1) x52 x53 S49.2.2.2).bind fun e54 => (pr 11 5 w0 (S47.2.2.1 + 1) (e54.1, e54.2.1, e54.2.2.1, e54.2.2.2)).bind fun S58 => (nwO 5 (S58.1, S58.2.1, S58.2.2.1, S58.2.2.2)).bind fun S60 => (nwO 10 (S60.1, S60.2.1, S60.2.2.1, S60.2.2.2)).bind fun S63 => (gr S63.1 S63.2.1 11 2 w0).bind fun x66 => (gr S63.1 S63.2.1 11 3 w0).bind fun x67 => (f_X10_init S63.1 S63.2.1 S63.2.2.1 (S60.2.2.1 + 1) x66 x67 S63.2.2.2).bind fun e68 => (f_X5_init e68.1 e68.2.1 e68.2.2.1 (S58.2.2.1 + 1) (S60.2.2.1 + 1) e68.2.2.2).bind fun e72 => (pr 11 6 w0 (S58.2.2.1 + 1) (e72.1, e72.2.1, e72.2.2.1, e72.2.2.2)).bind fun S76 => (nwO 5 (S76.1, S76.2.1, S76.2.2.1, S76.2.2.2)).bind fun S78 => (nwO 10 (S78.1, S78.2.1, S78.2.2.1, S78.2.2.2)).bind fun S81 => (gr S81.1 S81.2.1 11 2 w0).bind fun x84 => (gr S81.1 S81.2.1 11 3 w0).bind fun x85 => (f_X10_init S81.1 S81.2.1 S81.2.2.1 (S78.2.2.1 + 1) x84 x85 S81.2.2.2).bind fun e86 => (f_X5_init e86.1 e86.2.1 e86.2.2.1 (S76.2.2.1 + 1) (S78.2.2.1 + 1) e86.2.2.2).bind fun e90 => (pr 11 7 w0 (S76.2.2.1 + 1) (e90.1, e90.2.1, e90.2.2.1, e90.2.2.2)).bind fun S94 => (nwO 5 (S94.1, S94.2.1, S94.2.2.1, S94.2.2.2)).bind fun S96 => (nwO 10 (S96.1, S96.2.1, S96.2.2.1, S96.2.2.2)).bind fun S99 => (gr S99.1 S99.2.1 11 2 w0).bind fun x102 => (gr S99.1 S99.2.1 11 3 w0).bind fun x103 => (f_X10_init S99.1 S99.2.1 S99.2.2.1 (S96.2.2.1 + 1) x102 x103 S99.2.2.2).bind fun e104 => (f_X5_init e104.1 e104.2.1 e104.2.2.1 (S94.2.2.1 + 1) (S96.2.2.1 + 1) e104.2.2.2).bind fun e108 => (pr 11 8 w0 (S94.2.2.1 + 1) (e108.1, e108.2.1, e108.2.2.1, e108.2.2.2)).bind fun S112 => (nwO 6 (S112.1, S112.2.1, S112.2.2.1, S112.2.2.2)).bind fun S114 => (f_X6_init S114.1 S114.2.1 S114.2.2.1 (S112.2.2.1 + 1) S114.2.2.2).bind fun e117 => (pr 11 9 w0 (S112.2.2.1 + 1) (e117.1, e117.2.1, e117.2.2.1, e117.2.2.2)).bind fun S121 => (nwO 1 (S121.1, S121.2.1, S121.2.2.1, S121.2.2.2)).bind fun S123 => (f_X1_init S123.1 S123.2.1 S123.2.2.1 (S121.2.2.1 + 1) S123.2.2.2).bind fun e126 => (pr 11 10 w0 (S121.2.2.1 + 1) (e126.1, e126.2.1, e126.2.2.1, e126.2.2.2)).bind fun S130 => (nwO 7 (S130.1, S130.2.1, S130.2.2.1, S130.2.2.2)).bind fun S132 => (f_X7_init S132.1 S132.2.1 S132.2.2.1 (S130.2.2.1 + 1) S132.2.2.2).bind fun e135 => (pr 11 11 w0 (S130.2.2.1 + 1) (e135.1, e135.2.1, e135.2.2.1, e135.2.2.2)).bind fun S139 => (nwO 3 (S139.1, S139.2.1, S139.2.2.1, S139.2.2.2)).bind fun S141 => (nwO 10 (S141.1, S141.2.1, S141.2.2.1, S141.2.2.2)).bind fun S144 => (gr S144.1 S144.2.1 11 2 w0).bind fun x147 => (gr S144.1 S144.2.1 11 3 w0).bind fun x148 => (f_X10_init S144.1 S144.2.1 S144.2.2.1 (S141.2.2.1 + 1) x147 x148 S144.2.2.2).bind fun e149 => (f_X3_init e149.1 e149.2.1 e149.2.2.1 (S139.2.2.1 + 1) (S141.2.2.1 + 1) e149.2.2.2).bind fun e153 => (pr 11 12 w0 (S139.2.2.1 + 1) (e153.1, e153.2.1, e153.2.2.1, e153.2.2.2)).bind fun S157 => (nwO 0 (S157.1, S157.2.1, S157.2.2.1, S157.2.2.2)).bind fun S159 => (nwO 10 (S159.1, S159.2.1, S159.2.2.1, S159.2.2.2)).bind fun S162 => (gr S162.1 S162.2.1 11 2 w0).bind fun x165 => (gr S162.1 S162.2.1 11 3 w0).bind fun x166 => (f_X10_init S162.1 S162.2.1 S162.2.2.1 (S159.2.2.1 + 1) x165 x166 S162.2.2.2).bind fun e167 => (f_X0_init e167.1 e167.2.1 e167.2.2.1 (S157.2.2.1 + 1) (S159.2.2.1 + 1) e167.2.2.2).bind fun e171 => (pr 11 13 w0 (S157.2.2.1 + 1) (e171.1, e171.2.1, e171.2.2.1, e171.2.2.2)).bind fun S175 => (nwA 26 3 (S175.1, S175.2.1, S175.2.2.1, S175.2.2.2)).bind fun S177 => (pr 11 14 w0 (S175.2.2.1 + 1) (S177.1, S177.2.1, S177.2.2.1, S177.2.2.2)).bind fun S180 => some (S180.1, S180.2.1, S180.2.2.1, S180.2.2.2)
set_option maxHeartbeats 4000000 in
set_option maxRecDepth 100000 in
theorem c_X11_init (l : Launch) (cA : Nat → ClassId) (D : va_G) (N : Nat) (sx : Sx) (ad : Nat → Nat) (T : Knd) (A : Rfs) (nx : Nat) (I : Mem) (w0 : Nat) (hrb : RB A nx) (hb0 : 1 ≤ w0 ∧ w0 ≤ nx) (e : St) (h : f_X11_init T A nx w0 I = some e) : CtA l yX11_init cX11_init 1 3 127 7288 105 cA D N sx ad T A nx [rv ad w0] I e := by
  refine met_ofA (lv0 := [(0, rv ad w0)]) (by decide) (Nat.le_of_ble_eq_true rfl) rfl (by omega) (fun p e0 s m args below meth c S0 hK hX hAX hN hin hr hlk Q hQ => ?_)
  have hf : OK (f_X11_init T A nx w0 I) (fun z => z = e) := ⟨e, h, rfl⟩
  unfold f_X11_init at hf
  have hag : ∀ i, i ≤ nx → ad i = ad i := fun _ _ => rfl
  refine r_aload_n (pc := 0) S0 0 dX11_init_0 rfl rfl ?_
  refine r_obj (pc := 1) S0 oi_X11_1 dX11_init_1 ⟨by decide, Nat.le_of_ble_eq_true rfl⟩ ?_
  refine r_aload_n (pc := 4) S0 0 dX11_init_4 rfl rfl ?_
  refine r_new (pc := 5) S0 hK nw_X11_7 hN hrb (fun ad => [(0, rv ad w0)]) (fun ad => [rv ad w0]) (fun ad1 h => by simp only [rv, h w0 (by omega)]) (fun ad1 h => by simp only [rv, h w0 (by omega)]) dX11_init_5 1 6 ⟨rfl, rfl, by decide, by decide⟩ hf (fun ad S1 h2 n3 hrb hf => ?_)
  have hag := fun i (hi : i ≤ nx) => (h2 i (by omega)).trans (hag i hi)
  refine r_dup (pc := 8) S0 dX11_init_8 rfl ?_
  obtain ⟨e4, h5, hf⟩ := ok_bind hf
  refine r_cIN (pc := 9) [] S0 hK hX hAX min_X11_9 (c_X8_init l cA D N sx ad S1.1 S1.2.1 S1.2.2.1 S1.2.2.2 (nx + 1) hrb (by omega) e4 h5) rfl rfl (fun ad => [(0, rv ad w0)]) (fun ad => [rv ad (nx + 1), rv ad w0]) (fun ad1 h => by simp only [rv, h w0 (by omega)]) (fun ad1 h => by simp only [rv, h w0 (by omega), h (nx + 1) (by omega)]) ⟨by decide, by decide⟩ (Nat.le_of_ble_eq_true rfl) 2 1606 ⟨rfl, rfl, by decide, by decide⟩ dX11_init_9 (fun ad h6 n7 hrb => ?_)
  have hag := fun i (hi : i ≤ nx) => (h6 i (by omega)).trans (hag i hi)
  refine r_putR (pc := 12) S0 hK hin hrb fl_X11_10 rfl rfl rfl (fun _ => rfl) (fun _ => rfl) dX11_init_12 hf (fun S8 n9 hrb hf => ?_)
  refine r_aload_n (pc := 15) S0 0 dX11_init_15 rfl rfl ?_
  refine r_new (pc := 16) S0 hK nw_X11_16 hN hrb (fun ad => [(0, rv ad w0)]) (fun ad => [rv ad w0]) (fun ad1 h => by simp only [rv, h w0 (by omega)]) (fun ad1 h => by simp only [rv, h w0 (by omega)]) dX11_init_16 3 1610 ⟨rfl, rfl, by decide, by decide⟩ hf (fun ad S10 h11 n12 hrb hf => ?_)
  have hag := fun i (hi : i ≤ nx) => (h11 i (by omega)).trans (hag i hi)
  refine r_dup (pc := 19) S0 dX11_init_19 rfl ?_
  refine r_aload_n (pc := 20) S0 0 dX11_init_20 rfl rfl ?_
  refine r_getRb (pc := 21) S0 hK hrb fl_X11_10 dX11_init_21 hf (fun x13 hxx13 hf => ?_)
  obtain ⟨e14, h15, hf⟩ := ok_bind hf
  refine r_cI (pc := 24) [rv ad x13] S0 hK hX hAX mi_X11_18 (c_X4_init l cA D N sx ad S10.1 S10.2.1 S10.2.2.1 S10.2.2.2 (S8.2.2.1 + 1) x13 hrb (by omega) (by omega) e14 h15) rfl rfl (fun ad => [(0, rv ad w0)]) (fun ad => [rv ad (S8.2.2.1 + 1), rv ad w0]) (fun ad1 h => by simp only [rv, h w0 (by omega)]) (fun ad1 h => by simp only [rv, h w0 (by omega), h (S8.2.2.1 + 1) (by omega)]) ⟨by decide, by decide⟩ (Nat.le_of_ble_eq_true rfl) 24 1801 ⟨rfl, rfl, by decide, by decide⟩ dX11_init_24 (fun ad h16 n17 hrb => ?_)
  have hag := fun i (hi : i ≤ nx) => (h16 i (by omega)).trans (hag i hi)
  refine r_putR (pc := 27) S0 hK hin hrb fl_X11_21 rfl rfl rfl (fun _ => rfl) (fun _ => rfl) dX11_init_27 hf (fun S18 n19 hrb hf => ?_)
  refine r_aload_n (pc := 30) S0 0 dX11_init_30 rfl rfl ?_
  refine r_new (pc := 31) S0 hK nw_X11_25 hN hrb (fun ad => [(0, rv ad w0)]) (fun ad => [rv ad w0]) (fun ad1 h => by simp only [rv, h w0 (by omega)]) (fun ad1 h => by simp only [rv, h w0 (by omega)]) dX11_init_31 25 1811 ⟨rfl, rfl, by decide, by decide⟩ hf (fun ad S20 h21 n22 hrb hf => ?_)
  have hag := fun i (hi : i ≤ nx) => (h21 i (by omega)).trans (hag i hi)
  refine r_dup (pc := 34) S0 dX11_init_34 rfl ?_
  obtain ⟨e23, h24, hf⟩ := ok_bind hf
  refine r_cIN (pc := 35) [] S0 hK hX hAX min_X11_27 (c_X2_init l cA D N sx ad S20.1 S20.2.1 S20.2.2.1 S20.2.2.2 (S18.2.2.1 + 1) hrb (by omega) e23 h24) rfl rfl (fun ad => [(0, rv ad w0)]) (fun ad => [rv ad (S18.2.2.1 + 1), rv ad w0]) (fun ad1 h => by simp only [rv, h w0 (by omega)]) (fun ad1 h => by simp only [rv, h w0 (by omega), h (S18.2.2.1 + 1) (by omega)]) ⟨by decide, by decide⟩ (Nat.le_of_ble_eq_true rfl) 45 1992 ⟨rfl, rfl, by decide, by decide⟩ dX11_init_35 (fun ad h25 n26 hrb => ?_)
  have hag := fun i (hi : i ≤ nx) => (h25 i (by omega)).trans (hag i hi)
  refine r_putR (pc := 38) S0 hK hin hrb fl_X11_28 rfl rfl rfl (fun _ => rfl) (fun _ => rfl) dX11_init_38 hf (fun S27 n28 hrb hf => ?_)
  refine r_aload_n (pc := 41) S0 0 dX11_init_41 rfl rfl ?_
  refine r_new (pc := 42) S0 hK nw_X11_32 hN hrb (fun ad => [(0, rv ad w0)]) (fun ad => [rv ad w0]) (fun ad1 h => by simp only [rv, h w0 (by omega)]) (fun ad1 h => by simp only [rv, h w0 (by omega)]) dX11_init_42 46 1994 ⟨rfl, rfl, by decide, by decide⟩ hf (fun ad S29 h30 n31 hrb hf => ?_)
  have hag := fun i (hi : i ≤ nx) => (h30 i (by omega)).trans (hag i hi)
  refine r_dup (pc := 45) S0 dX11_init_45 rfl ?_
  obtain ⟨e32, h33, hf⟩ := ok_bind hf
  refine r_cIN (pc := 46) [] S0 hK hX hAX min_X11_34 (c_X9_init l cA D N sx ad S29.1 S29.2.1 S29.2.2.1 S29.2.2.2 (S27.2.2.1 + 1) hrb (by omega) e32 h33) rfl rfl (fun ad => [(0, rv ad w0)]) (fun ad => [rv ad (S27.2.2.1 + 1), rv ad w0]) (fun ad1 h => by simp only [rv, h w0 (by omega)]) (fun ad1 h => by simp only [rv, h w0 (by omega), h (S27.2.2.1 + 1) (by omega)]) ⟨by decide, by decide⟩ (Nat.le_of_ble_eq_true rfl) 62 5244 ⟨rfl, rfl, by decide, by decide⟩ dX11_init_46 (fun ad h34 n35 hrb => ?_)
  have hag := fun i (hi : i ≤ nx) => (h34 i (by omega)).trans (hag i hi)
  refine r_putR (pc := 49) S0 hK hin hrb fl_X11_35 rfl rfl rfl (fun _ => rfl) (fun _ => rfl) dX11_init_49 hf (fun S36 n37 hrb hf => ?_)
  refine r_aload_n (pc := 52) S0 0 dX11_init_52 rfl rfl ?_
  refine r_new (pc := 53) S0 hK nw_X11_39 hN hrb (fun ad => [(0, rv ad w0)]) (fun ad => [rv ad w0]) (fun ad1 h => by simp only [rv, h w0 (by omega)]) (fun ad1 h => by simp only [rv, h w0 (by omega)]) dX11_init_53 63 5251 ⟨rfl, rfl, by decide, by decide⟩ hf (fun ad S38 h39 n40 hrb hf => ?_)
  have hag := fun i (hi : i ≤ nx) => (h39 i (by omega)).trans (hag i hi)
  refine r_dup (pc := 56) S0 dX11_init_56 rfl ?_
  refine r_aload_n (pc := 57) S0 0 dX11_init_57 rfl rfl ?_
  refine r_getRb (pc := 58) S0 hK hrb fl_X11_28 dX11_init_58 hf (fun x41 hxx41 hf => ?_)
  refine r_aload_n (pc := 61) S0 0 dX11_init_61 rfl rfl ?_
  refine r_getRb (pc := 62) S0 hK hrb fl_X11_35 dX11_init_62 hf (fun x42 hxx42 hf => ?_)
  obtain ⟨e43, h44, hf⟩ := ok_bind hf
  refine r_cI (pc := 65) [rv ad x41, rv ad x42] S0 hK hX hAX mi_X11_41 (c_X10_init l cA D N sx ad S38.1 S38.2.1 S38.2.2.1 S38.2.2.2 (S36.2.2.1 + 1) x41 x42 hrb (by omega) (by omega) (by omega) e43 h44) rfl rfl (fun ad => [(0, rv ad w0)]) (fun ad => [rv ad (S36.2.2.1 + 1), rv ad w0]) (fun ad1 h => by simp only [rv, h w0 (by omega)]) (fun ad1 h => by simp only [rv, h w0 (by omega), h (S36.2.2.1 + 1) (by omega)]) ⟨by decide, by decide⟩ (Nat.le_of_ble_eq_true rfl) 64 5259 ⟨rfl, rfl, by decide, by decide⟩ dX11_init_65 (fun ad h45 n46 hrb => ?_)
  have hag := fun i (hi : i ≤ nx) => (h45 i (by omega)).trans (hag i hi)
  refine r_putR (pc := 68) S0 hK hin hrb fl_X11_44 rfl rfl rfl (fun _ => rfl) (fun _ => rfl) dX11_init_68 hf (fun S47 n48 hrb hf => ?_)
  refine r_aload_n (pc := 71) S0 0 dX11_init_71 rfl rfl ?_
  refine r_new (pc := 72) S0 hK nw_X11_39 hN hrb (fun ad => [(0, rv ad w0)]) (fun ad => [rv ad w0]) (fun ad1 h => by simp only [rv, h w0 (by omega)]) (fun ad1 h => by simp only [rv, h w0 (by omega)]) dX11_init_72 65 5266 ⟨rfl, rfl, by decide, by decide⟩ hf (fun ad S49 h50 n51 hrb hf => ?_)
  have hag := fun i (hi : i ≤ nx) => (h50 i (by omega)).trans (hag i hi)
  refine r_dup (pc := 75) S0 dX11_init_75 rfl ?_
  refine r_aload_n (pc := 76) S0 0 dX11_init_76 rfl rfl ?_
  refine r_getRb (pc := 77) S0 hK hrb fl_X11_28 dX11_init_77 hf (fun x52 hxx52 hf => ?_)
  refine r_aload_n (pc := 80) S0 0 dX11_init_80 rfl rfl ?_
  refine r_getRb (pc := 81) S0 hK hrb fl_X11_35 dX11_init_81 hf (fun x53 hxx53 hf => ?_)
  obtain ⟨e54, h55, hf⟩ := ok_bind hf
  refine r_cI (pc := 84) [rv ad x52, rv ad x53] S0 hK hX hAX mi_X11_41 (c_X10_init l cA D N sx ad S49.1 S49.2.1 S49.2.2.1 S49.2.2.2 (S47.2.2.1 + 1) x52 x53 hrb (by omega) (by omega) (by omega) e54 h55) rfl rfl (fun ad => [(0, rv ad w0)]) (fun ad => [rv ad (S47.2.2.1 + 1), rv ad w0]) (fun ad1 h => by simp only [rv, h w0 (by omega)]) (fun ad1 h => by simp only [rv, h w0 (by omega), h (S47.2.2.1 + 1) (by omega)]) ⟨by decide, by decide⟩ (Nat.le_of_ble_eq_true rfl) 66 5274 ⟨rfl, rfl, by decide, by decide⟩ dX11_init_84 (fun ad h56 n57 hrb => ?_)
  have hag := fun i (hi : i ≤ nx) => (h56 i (by omega)).trans (hag i hi)
  refine r_putR (pc := 87) S0 hK hin hrb fl_X11_48 rfl rfl rfl (fun _ => rfl) (fun _ => rfl) dX11_init_87 hf (fun S58 n59 hrb hf => ?_)
  refine r_aload_n (pc := 90) S0 0 dX11_init_90 rfl rfl ?_
  refine r_new (pc := 91) S0 hK nw_X11_51 hN hrb (fun ad => [(0, rv ad w0)]) (fun ad => [rv ad w0]) (fun ad1 h => by simp only [rv, h w0 (by omega)]) (fun ad1 h => by simp only [rv, h w0 (by omega)]) dX11_init_91 67 5288 ⟨rfl, rfl, by decide, by decide⟩ hf (fun ad S60 h61 n62 hrb hf => ?_)
  have hag := fun i (hi : i ≤ nx) => (h61 i (by omega)).trans (hag i hi)
  refine r_dup (pc := 94) S0 dX11_init_94 rfl ?_
  refine r_new (pc := 95) S0 hK nw_X11_39 hN hrb (fun ad => [(0, rv ad w0)]) (fun ad => [rv ad (S58.2.2.1 + 1), rv ad (S58.2.2.1 + 1), rv ad w0]) (fun ad1 h => by simp only [rv, h w0 (by omega)]) (fun ad1 h => by simp only [rv, h w0 (by omega), h (S58.2.2.1 + 1) (by omega)]) dX11_init_95 68 5295 ⟨rfl, rfl, by decide, by decide⟩ hf (fun ad S63 h64 n65 hrb hf => ?_)
  have hag := fun i (hi : i ≤ nx) => (h64 i (by omega)).trans (hag i hi)
  refine r_dup (pc := 98) S0 dX11_init_98 rfl ?_
  refine r_aload_n (pc := 99) S0 0 dX11_init_99 rfl rfl ?_
  refine r_getRb (pc := 100) S0 hK hrb fl_X11_28 dX11_init_100 hf (fun x66 hxx66 hf => ?_)
  refine r_aload_n (pc := 103) S0 0 dX11_init_103 rfl rfl ?_
  refine r_getRb (pc := 104) S0 hK hrb fl_X11_35 dX11_init_104 hf (fun x67 hxx67 hf => ?_)
  obtain ⟨e68, h69, hf⟩ := ok_bind hf
  refine r_cI (pc := 107) [rv ad x66, rv ad x67] S0 hK hX hAX mi_X11_41 (c_X10_init l cA D N sx ad S63.1 S63.2.1 S63.2.2.1 S63.2.2.2 (S60.2.2.1 + 1) x66 x67 hrb (by omega) (by omega) (by omega) e68 h69) rfl rfl (fun ad => [(0, rv ad w0)]) (fun ad => [rv ad (S60.2.2.1 + 1), rv ad (S58.2.2.1 + 1), rv ad (S58.2.2.1 + 1), rv ad w0]) (fun ad1 h => by simp only [rv, h w0 (by omega)]) (fun ad1 h => by simp only [rv, h w0 (by omega), h (S58.2.2.1 + 1) (by omega), h (S60.2.2.1 + 1) (by omega)]) ⟨by decide, by decide⟩ (Nat.le_of_ble_eq_true rfl) 69 5303 ⟨rfl, rfl, by decide, by decide⟩ dX11_init_107 (fun ad h70 n71 hrb => ?_)
  have hag := fun i (hi : i ≤ nx) => (h70 i (by omega)).trans (hag i hi)
  obtain ⟨e72, h73, hf⟩ := ok_bind hf
  refine r_cI (pc := 110) [rv ad (S60.2.2.1 + 1)] S0 hK hX hAX mi_X11_53 (c_X5_init l cA D N sx ad e68.1 e68.2.1 e68.2.2.1 e68.2.2.2 (S58.2.2.1 + 1) (S60.2.2.1 + 1) hrb (by omega) (by omega) e72 h73) rfl rfl (fun ad => [(0, rv ad w0)]) (fun ad => [rv ad (S58.2.2.1 + 1), rv ad w0]) (fun ad1 h => by simp only [rv, h w0 (by omega)]) (fun ad1 h => by simp only [rv, h w0 (by omega), h (S58.2.2.1 + 1) (by omega)]) ⟨by decide, by decide⟩ (Nat.le_of_ble_eq_true rfl) 77 5352 ⟨rfl, rfl, by decide, by decide⟩ dX11_init_110 (fun ad h74 n75 hrb => ?_)
  have hag := fun i (hi : i ≤ nx) => (h74 i (by omega)).trans (hag i hi)
  refine r_putR (pc := 113) S0 hK hin hrb fl_X11_56 rfl rfl rfl (fun _ => rfl) (fun _ => rfl) dX11_init_113 hf (fun S76 n77 hrb hf => ?_)
  refine r_aload_n (pc := 116) S0 0 dX11_init_116 rfl rfl ?_
  refine r_new (pc := 117) S0 hK nw_X11_51 hN hrb (fun ad => [(0, rv ad w0)]) (fun ad => [rv ad w0]) (fun ad1 h => by simp only [rv, h w0 (by omega)]) (fun ad1 h => by simp only [rv, h w0 (by omega)]) dX11_init_117 78 5366 ⟨rfl, rfl, by decide, by decide⟩ hf (fun ad S78 h79 n80 hrb hf => ?_)
  have hag := fun i (hi : i ≤ nx) => (h79 i (by omega)).trans (hag i hi)
  refine r_dup (pc := 120) S0 dX11_init_120 rfl ?_
  refine r_new (pc := 121) S0 hK nw_X11_39 hN hrb (fun ad => [(0, rv ad w0)]) (fun ad => [rv ad (S76.2.2.1 + 1), rv ad (S76.2.2.1 + 1), rv ad w0]) (fun ad1 h => by simp only [rv, h w0 (by omega)]) (fun ad1 h => by simp only [rv, h w0 (by omega), h (S76.2.2.1 + 1) (by omega)]) dX11_init_121 79 5373 ⟨rfl, rfl, by decide, by decide⟩ hf (fun ad S81 h82 n83 hrb hf => ?_)
  have hag := fun i (hi : i ≤ nx) => (h82 i (by omega)).trans (hag i hi)
  refine r_dup (pc := 124) S0 dX11_init_124 rfl ?_
  refine r_aload_n (pc := 125) S0 0 dX11_init_125 rfl rfl ?_
  refine r_getRb (pc := 126) S0 hK hrb fl_X11_28 dX11_init_126 hf (fun x84 hxx84 hf => ?_)
  refine r_aload_n (pc := 129) S0 0 dX11_init_129 rfl rfl ?_
  refine r_getRb (pc := 130) S0 hK hrb fl_X11_35 dX11_init_130 hf (fun x85 hxx85 hf => ?_)
  obtain ⟨e86, h87, hf⟩ := ok_bind hf
  refine r_cI (pc := 133) [rv ad x84, rv ad x85] S0 hK hX hAX mi_X11_41 (c_X10_init l cA D N sx ad S81.1 S81.2.1 S81.2.2.1 S81.2.2.2 (S78.2.2.1 + 1) x84 x85 hrb (by omega) (by omega) (by omega) e86 h87) rfl rfl (fun ad => [(0, rv ad w0)]) (fun ad => [rv ad (S78.2.2.1 + 1), rv ad (S76.2.2.1 + 1), rv ad (S76.2.2.1 + 1), rv ad w0]) (fun ad1 h => by simp only [rv, h w0 (by omega)]) (fun ad1 h => by simp only [rv, h w0 (by omega), h (S76.2.2.1 + 1) (by omega), h (S78.2.2.1 + 1) (by omega)]) ⟨by decide, by decide⟩ (Nat.le_of_ble_eq_true rfl) 80 5381 ⟨rfl, rfl, by decide, by decide⟩ dX11_init_133 (fun ad h88 n89 hrb => ?_)
  have hag := fun i (hi : i ≤ nx) => (h88 i (by omega)).trans (hag i hi)
  obtain ⟨e90, h91, hf⟩ := ok_bind hf
  refine r_cI (pc := 136) [rv ad (S78.2.2.1 + 1)] S0 hK hX hAX mi_X11_53 (c_X5_init l cA D N sx ad e86.1 e86.2.1 e86.2.2.1 e86.2.2.2 (S76.2.2.1 + 1) (S78.2.2.1 + 1) hrb (by omega) (by omega) e90 h91) rfl rfl (fun ad => [(0, rv ad w0)]) (fun ad => [rv ad (S76.2.2.1 + 1), rv ad w0]) (fun ad1 h => by simp only [rv, h w0 (by omega)]) (fun ad1 h => by simp only [rv, h w0 (by omega), h (S76.2.2.1 + 1) (by omega)]) ⟨by decide, by decide⟩ (Nat.le_of_ble_eq_true rfl) 88 5430 ⟨rfl, rfl, by decide, by decide⟩ dX11_init_136 (fun ad h92 n93 hrb => ?_)
  have hag := fun i (hi : i ≤ nx) => (h92 i (by omega)).trans (hag i hi)
  refine r_putR (pc := 139) S0 hK hin hrb fl_X11_60 rfl rfl rfl (fun _ => rfl) (fun _ => rfl) dX11_init_139 hf (fun S94 n95 hrb hf => ?_)
  refine r_aload_n (pc := 142) S0 0 dX11_init_142 rfl rfl ?_
  refine r_new (pc := 143) S0 hK nw_X11_51 hN hrb (fun ad => [(0, rv ad w0)]) (fun ad => [rv ad w0]) (fun ad1 h => by simp only [rv, h w0 (by omega)]) (fun ad1 h => by simp only [rv, h w0 (by omega)]) dX11_init_143 89 5444 ⟨rfl, rfl, by decide, by decide⟩ hf (fun ad S96 h97 n98 hrb hf => ?_)
  have hag := fun i (hi : i ≤ nx) => (h97 i (by omega)).trans (hag i hi)
  refine r_dup (pc := 146) S0 dX11_init_146 rfl ?_
  refine r_new (pc := 147) S0 hK nw_X11_39 hN hrb (fun ad => [(0, rv ad w0)]) (fun ad => [rv ad (S94.2.2.1 + 1), rv ad (S94.2.2.1 + 1), rv ad w0]) (fun ad1 h => by simp only [rv, h w0 (by omega)]) (fun ad1 h => by simp only [rv, h w0 (by omega), h (S94.2.2.1 + 1) (by omega)]) dX11_init_147 90 5451 ⟨rfl, rfl, by decide, by decide⟩ hf (fun ad S99 h100 n101 hrb hf => ?_)
  have hag := fun i (hi : i ≤ nx) => (h100 i (by omega)).trans (hag i hi)
  refine r_dup (pc := 150) S0 dX11_init_150 rfl ?_
  refine r_aload_n (pc := 151) S0 0 dX11_init_151 rfl rfl ?_
  refine r_getRb (pc := 152) S0 hK hrb fl_X11_28 dX11_init_152 hf (fun x102 hxx102 hf => ?_)
  refine r_aload_n (pc := 155) S0 0 dX11_init_155 rfl rfl ?_
  refine r_getRb (pc := 156) S0 hK hrb fl_X11_35 dX11_init_156 hf (fun x103 hxx103 hf => ?_)
  obtain ⟨e104, h105, hf⟩ := ok_bind hf
  refine r_cI (pc := 159) [rv ad x102, rv ad x103] S0 hK hX hAX mi_X11_41 (c_X10_init l cA D N sx ad S99.1 S99.2.1 S99.2.2.1 S99.2.2.2 (S96.2.2.1 + 1) x102 x103 hrb (by omega) (by omega) (by omega) e104 h105) rfl rfl (fun ad => [(0, rv ad w0)]) (fun ad => [rv ad (S96.2.2.1 + 1), rv ad (S94.2.2.1 + 1), rv ad (S94.2.2.1 + 1), rv ad w0]) (fun ad1 h => by simp only [rv, h w0 (by omega)]) (fun ad1 h => by simp only [rv, h w0 (by omega), h (S94.2.2.1 + 1) (by omega), h (S96.2.2.1 + 1) (by omega)]) ⟨by decide, by decide⟩ (Nat.le_of_ble_eq_true rfl) 91 5459 ⟨rfl, rfl, by decide, by decide⟩ dX11_init_159 (fun ad h106 n107 hrb => ?_)
  have hag := fun i (hi : i ≤ nx) => (h106 i (by omega)).trans (hag i hi)
  obtain ⟨e108, h109, hf⟩ := ok_bind hf
  refine r_cI (pc := 162) [rv ad (S96.2.2.1 + 1)] S0 hK hX hAX mi_X11_53 (c_X5_init l cA D N sx ad e104.1 e104.2.1 e104.2.2.1 e104.2.2.2 (S94.2.2.1 + 1) (S96.2.2.1 + 1) hrb (by omega) (by omega) e108 h109) rfl rfl (fun ad => [(0, rv ad w0)]) (fun ad => [rv ad (S94.2.2.1 + 1), rv ad w0]) (fun ad1 h => by simp only [rv, h w0 (by omega)]) (fun ad1 h => by simp only [rv, h w0 (by omega), h (S94.2.2.1 + 1) (by omega)]) ⟨by decide, by decide⟩ (Nat.le_of_ble_eq_true rfl) 99 5508 ⟨rfl, rfl, by decide, by decide⟩ dX11_init_162 (fun ad h110 n111 hrb => ?_)
  have hag := fun i (hi : i ≤ nx) => (h110 i (by omega)).trans (hag i hi)
  refine r_putR (pc := 165) S0 hK hin hrb fl_X11_63 rfl rfl rfl (fun _ => rfl) (fun _ => rfl) dX11_init_165 hf (fun S112 n113 hrb hf => ?_)
  refine r_aload_n (pc := 168) S0 0 dX11_init_168 rfl rfl ?_
  refine r_new (pc := 169) S0 hK nw_X11_66 hN hrb (fun ad => [(0, rv ad w0)]) (fun ad => [rv ad w0]) (fun ad1 h => by simp only [rv, h w0 (by omega)]) (fun ad1 h => by simp only [rv, h w0 (by omega)]) dX11_init_169 100 5515 ⟨rfl, rfl, by decide, by decide⟩ hf (fun ad S114 h115 n116 hrb hf => ?_)
  have hag := fun i (hi : i ≤ nx) => (h115 i (by omega)).trans (hag i hi)
  refine r_dup (pc := 172) S0 dX11_init_172 rfl ?_
  obtain ⟨e117, h118, hf⟩ := ok_bind hf
  refine r_cIN (pc := 173) [] S0 hK hX hAX min_X11_68 (c_X6_init l cA D N sx ad S114.1 S114.2.1 S114.2.2.1 S114.2.2.2 (S112.2.2.1 + 1) hrb (by omega) e117 h118) rfl rfl (fun ad => [(0, rv ad w0)]) (fun ad => [rv ad (S112.2.2.1 + 1), rv ad w0]) (fun ad1 h => by simp only [rv, h w0 (by omega)]) (fun ad1 h => by simp only [rv, h w0 (by omega), h (S112.2.2.1 + 1) (by omega)]) ⟨by decide, by decide⟩ (Nat.le_of_ble_eq_true rfl) 105 5803 ⟨rfl, rfl, by decide, by decide⟩ dX11_init_173 (fun ad h119 n120 hrb => ?_)
  have hag := fun i (hi : i ≤ nx) => (h119 i (by omega)).trans (hag i hi)
  refine r_putR (pc := 176) S0 hK hin hrb fl_X11_69 rfl rfl rfl (fun _ => rfl) (fun _ => rfl) dX11_init_176 hf (fun S121 n122 hrb hf => ?_)
  refine r_aload_n (pc := 179) S0 0 dX11_init_179 rfl rfl ?_
  refine r_new (pc := 180) S0 hK nw_X11_73 hN hrb (fun ad => [(0, rv ad w0)]) (fun ad => [rv ad w0]) (fun ad1 h => by simp only [rv, h w0 (by omega)]) (fun ad1 h => by simp only [rv, h w0 (by omega)]) dX11_init_180 106 5806 ⟨rfl, rfl, by decide, by decide⟩ hf (fun ad S123 h124 n125 hrb hf => ?_)
  have hag := fun i (hi : i ≤ nx) => (h124 i (by omega)).trans (hag i hi)
  refine r_dup (pc := 183) S0 dX11_init_183 rfl ?_
  obtain ⟨e126, h127, hf⟩ := ok_bind hf
  refine r_cIN (pc := 184) [] S0 hK hX hAX min_X11_75 (c_X1_init l cA D N sx ad S123.1 S123.2.1 S123.2.2.1 S123.2.2.2 (S121.2.2.1 + 1) hrb (by omega) e126 h127) rfl rfl (fun ad => [(0, rv ad w0)]) (fun ad => [rv ad (S121.2.2.1 + 1), rv ad w0]) (fun ad1 h => by simp only [rv, h w0 (by omega)]) (fun ad1 h => by simp only [rv, h w0 (by omega), h (S121.2.2.1 + 1) (by omega)]) ⟨by decide, by decide⟩ (Nat.le_of_ble_eq_true rfl) 109 6574 ⟨rfl, rfl, by decide, by decide⟩ dX11_init_184 (fun ad h128 n129 hrb => ?_)
  have hag := fun i (hi : i ≤ nx) => (h128 i (by omega)).trans (hag i hi)
  refine r_putR (pc := 187) S0 hK hin hrb fl_X11_76 rfl rfl rfl (fun _ => rfl) (fun _ => rfl) dX11_init_187 hf (fun S130 n131 hrb hf => ?_)
  refine r_aload_n (pc := 190) S0 0 dX11_init_190 rfl rfl ?_
  refine r_new (pc := 191) S0 hK nw_X11_80 hN hrb (fun ad => [(0, rv ad w0)]) (fun ad => [rv ad w0]) (fun ad1 h => by simp only [rv, h w0 (by omega)]) (fun ad1 h => by simp only [rv, h w0 (by omega)]) dX11_init_191 110 6577 ⟨rfl, rfl, by decide, by decide⟩ hf (fun ad S132 h133 n134 hrb hf => ?_)
  have hag := fun i (hi : i ≤ nx) => (h133 i (by omega)).trans (hag i hi)
  refine r_dup (pc := 194) S0 dX11_init_194 rfl ?_
  obtain ⟨e135, h136, hf⟩ := ok_bind hf
  refine r_cI (pc := 195) [] S0 hK hX hAX mi_X11_82 (c_X7_init l cA D N sx ad S132.1 S132.2.1 S132.2.2.1 S132.2.2.2 (S130.2.2.1 + 1) hrb (by omega) e135 h136) rfl rfl (fun ad => [(0, rv ad w0)]) (fun ad => [rv ad (S130.2.2.1 + 1), rv ad w0]) (fun ad1 h => by simp only [rv, h w0 (by omega)]) (fun ad1 h => by simp only [rv, h w0 (by omega), h (S130.2.2.1 + 1) (by omega)]) ⟨by decide, by decide⟩ (Nat.le_of_ble_eq_true rfl) 117 6829 ⟨rfl, rfl, by decide, by decide⟩ dX11_init_195 (fun ad h137 n138 hrb => ?_)
  have hag := fun i (hi : i ≤ nx) => (h137 i (by omega)).trans (hag i hi)
  refine r_putR (pc := 198) S0 hK hin hrb fl_X11_83 rfl rfl rfl (fun _ => rfl) (fun _ => rfl) dX11_init_198 hf (fun S139 n140 hrb hf => ?_)
  refine r_aload_n (pc := 201) S0 0 dX11_init_201 rfl rfl ?_
  refine r_new (pc := 202) S0 hK nw_X11_87 hN hrb (fun ad => [(0, rv ad w0)]) (fun ad => [rv ad w0]) (fun ad1 h => by simp only [rv, h w0 (by omega)]) (fun ad1 h => by simp only [rv, h w0 (by omega)]) dX11_init_202 118 6834 ⟨rfl, rfl, by decide, by decide⟩ hf (fun ad S141 h142 n143 hrb hf => ?_)
  have hag := fun i (hi : i ≤ nx) => (h142 i (by omega)).trans (hag i hi)
  refine r_dup (pc := 205) S0 dX11_init_205 rfl ?_
  refine r_new (pc := 206) S0 hK nw_X11_39 hN hrb (fun ad => [(0, rv ad w0)]) (fun ad => [rv ad (S139.2.2.1 + 1), rv ad (S139.2.2.1 + 1), rv ad w0]) (fun ad1 h => by simp only [rv, h w0 (by omega)]) (fun ad1 h => by simp only [rv, h w0 (by omega), h (S139.2.2.1 + 1) (by omega)]) dX11_init_206 119 6841 ⟨rfl, rfl, by decide, by decide⟩ hf (fun ad S144 h145 n146 hrb hf => ?_)
  have hag := fun i (hi : i ≤ nx) => (h145 i (by omega)).trans (hag i hi)
  refine r_dup (pc := 209) S0 dX11_init_209 rfl ?_
  refine r_aload_n (pc := 210) S0 0 dX11_init_210 rfl rfl ?_
  refine r_getRb (pc := 211) S0 hK hrb fl_X11_28 dX11_init_211 hf (fun x147 hxx147 hf => ?_)
  refine r_aload_n (pc := 214) S0 0 dX11_init_214 rfl rfl ?_
  refine r_getRb (pc := 215) S0 hK hrb fl_X11_35 dX11_init_215 hf (fun x148 hxx148 hf => ?_)
  obtain ⟨e149, h150, hf⟩ := ok_bind hf
  refine r_cI (pc := 218) [rv ad x147, rv ad x148] S0 hK hX hAX mi_X11_41 (c_X10_init l cA D N sx ad S144.1 S144.2.1 S144.2.2.1 S144.2.2.2 (S141.2.2.1 + 1) x147 x148 hrb (by omega) (by omega) (by omega) e149 h150) rfl rfl (fun ad => [(0, rv ad w0)]) (fun ad => [rv ad (S141.2.2.1 + 1), rv ad (S139.2.2.1 + 1), rv ad (S139.2.2.1 + 1), rv ad w0]) (fun ad1 h => by simp only [rv, h w0 (by omega)]) (fun ad1 h => by simp only [rv, h w0 (by omega), h (S139.2.2.1 + 1) (by omega), h (S141.2.2.1 + 1) (by omega)]) ⟨by decide, by decide⟩ (Nat.le_of_ble_eq_true rfl) 120 6849 ⟨rfl, rfl, by decide, by decide⟩ dX11_init_218 (fun ad h151 n152 hrb => ?_)
  have hag := fun i (hi : i ≤ nx) => (h151 i (by omega)).trans (hag i hi)
  obtain ⟨e153, h154, hf⟩ := ok_bind hf
  refine r_cI (pc := 221) [rv ad (S141.2.2.1 + 1)] S0 hK hX hAX mi_X11_89 (c_X3_init l cA D N sx ad e149.1 e149.2.1 e149.2.2.1 e149.2.2.2 (S139.2.2.1 + 1) (S141.2.2.1 + 1) hrb (by omega) (by omega) e153 h154) rfl rfl (fun ad => [(0, rv ad w0)]) (fun ad => [rv ad (S139.2.2.1 + 1), rv ad w0]) (fun ad1 h => by simp only [rv, h w0 (by omega)]) (fun ad1 h => by simp only [rv, h w0 (by omega), h (S139.2.2.1 + 1) (by omega)]) ⟨by decide, by decide⟩ (Nat.le_of_ble_eq_true rfl) 123 7266 ⟨rfl, rfl, by decide, by decide⟩ dX11_init_221 (fun ad h155 n156 hrb => ?_)
  have hag := fun i (hi : i ≤ nx) => (h155 i (by omega)).trans (hag i hi)
  refine r_putR (pc := 224) S0 hK hin hrb fl_X11_90 rfl rfl rfl (fun _ => rfl) (fun _ => rfl) dX11_init_224 hf (fun S157 n158 hrb hf => ?_)
  refine r_aload_n (pc := 227) S0 0 dX11_init_227 rfl rfl ?_
  refine r_new (pc := 228) S0 hK nw_X11_94 hN hrb (fun ad => [(0, rv ad w0)]) (fun ad => [rv ad w0]) (fun ad1 h => by simp only [rv, h w0 (by omega)]) (fun ad1 h => by simp only [rv, h w0 (by omega)]) dX11_init_228 124 7270 ⟨rfl, rfl, by decide, by decide⟩ hf (fun ad S159 h160 n161 hrb hf => ?_)
  have hag := fun i (hi : i ≤ nx) => (h160 i (by omega)).trans (hag i hi)
  refine r_dup (pc := 231) S0 dX11_init_231 rfl ?_
  refine r_new (pc := 232) S0 hK nw_X11_39 hN hrb (fun ad => [(0, rv ad w0)]) (fun ad => [rv ad (S157.2.2.1 + 1), rv ad (S157.2.2.1 + 1), rv ad w0]) (fun ad1 h => by simp only [rv, h w0 (by omega)]) (fun ad1 h => by simp only [rv, h w0 (by omega), h (S157.2.2.1 + 1) (by omega)]) dX11_init_232 125 7277 ⟨rfl, rfl, by decide, by decide⟩ hf (fun ad S162 h163 n164 hrb hf => ?_)
  have hag := fun i (hi : i ≤ nx) => (h163 i (by omega)).trans (hag i hi)
  refine r_dup (pc := 235) S0 dX11_init_235 rfl ?_
  refine r_aload_n (pc := 236) S0 0 dX11_init_236 rfl rfl ?_
  refine r_getRb (pc := 237) S0 hK hrb fl_X11_28 dX11_init_237 hf (fun x165 hxx165 hf => ?_)
  refine r_aload_n (pc := 240) S0 0 dX11_init_240 rfl rfl ?_
  refine r_getRb (pc := 241) S0 hK hrb fl_X11_35 dX11_init_241 hf (fun x166 hxx166 hf => ?_)
  obtain ⟨e167, h168, hf⟩ := ok_bind hf
  refine r_cI (pc := 244) [rv ad x165, rv ad x166] S0 hK hX hAX mi_X11_41 (c_X10_init l cA D N sx ad S162.1 S162.2.1 S162.2.2.1 S162.2.2.2 (S159.2.2.1 + 1) x165 x166 hrb (by omega) (by omega) (by omega) e167 h168) rfl rfl (fun ad => [(0, rv ad w0)]) (fun ad => [rv ad (S159.2.2.1 + 1), rv ad (S157.2.2.1 + 1), rv ad (S157.2.2.1 + 1), rv ad w0]) (fun ad1 h => by simp only [rv, h w0 (by omega)]) (fun ad1 h => by simp only [rv, h w0 (by omega), h (S157.2.2.1 + 1) (by omega), h (S159.2.2.1 + 1) (by omega)]) ⟨by decide, by decide⟩ (Nat.le_of_ble_eq_true rfl) 126 7285 ⟨rfl, rfl, by decide, by decide⟩ dX11_init_244 (fun ad h169 n170 hrb => ?_)
  have hag := fun i (hi : i ≤ nx) => (h169 i (by omega)).trans (hag i hi)
  obtain ⟨e171, h172, hf⟩ := ok_bind hf
  refine r_cI (pc := 247) [rv ad (S159.2.2.1 + 1)] S0 hK hX hAX mi_X11_96 (c_X0_init l cA D N sx ad e167.1 e167.2.1 e167.2.2.1 e167.2.2.2 (S157.2.2.1 + 1) (S159.2.2.1 + 1) hrb (by omega) (by omega) e171 h172) rfl rfl (fun ad => [(0, rv ad w0)]) (fun ad => [rv ad (S157.2.2.1 + 1), rv ad w0]) (fun ad1 h => by simp only [rv, h w0 (by omega)]) (fun ad1 h => by simp only [rv, h w0 (by omega), h (S157.2.2.1 + 1) (by omega)]) ⟨by decide, by decide⟩ (Nat.le_of_ble_eq_true rfl) 126 7285 ⟨rfl, rfl, by decide, by decide⟩ dX11_init_247 (fun ad h173 n174 hrb => ?_)
  have hag := fun i (hi : i ≤ nx) => (h173 i (by omega)).trans (hag i hi)
  refine r_putR (pc := 250) S0 hK hin hrb fl_X11_97 rfl rfl rfl (fun _ => rfl) (fun _ => rfl) dX11_init_250 hf (fun S175 n176 hrb hf => ?_)
  refine r_aload_n (pc := 253) S0 0 dX11_init_253 rfl rfl ?_
  refine r_iconst (pc := 254) S0 dX11_init_254 ?_
  refine r_nwq (pc := 255) S0 hK hAX.2.2 cl_X11_25 hN hrb (fun ad => [(0, rv ad w0)]) (fun ad => [rv ad w0]) (fun ad1 h => by simp only [rv, h w0 (by omega)]) (fun ad1 h => by simp only [rv, h w0 (by omega)]) (cnz 3 rfl) dX11_init_255 127 7288 ⟨rfl, by decide, by decide, by decide⟩ hf (fun ad S177 h178 n179 hrb hf => ?_)
  have hag := fun i (hi : i ≤ nx) => (h178 i (by omega)).trans (hag i hi)
  refine r_putR (pc := 258) S0 hK hin hrb fl_X11_101 rfl rfl rfl (fun _ => rfl) (fun _ => rfl) dX11_init_258 hf (fun S180 n181 hrb hf => ?_)
  have hz := ok_some hf
  have hz : (S180.1, S180.2.1, S180.2.2.1, S180.2.2.2) = e := hz
  subst hQ
  subst hz
  exact r_vretA (pc := 261) S0 hr hlk hag (by omega) hrb dX11_init_261

def f_X12_init (T : Knd) (A : Rfs) (nx : Nat) (w0 : Nat) (I : Mem) : Option St := (nwA 20 4 (T, A, nx, I)).bind fun S1 => (pr 12 1 w0 (nx + 1) (S1.1, S1.2.1, S1.2.2.1, S1.2.2.2)).bind fun S4 => (nwA 20 4 (S4.1, S4.2.1, S4.2.2.1, S4.2.2.2)).bind fun S6 => (pr 12 2 w0 (S4.2.2.1 + 1) (S6.1, S6.2.1, S6.2.2.1, S6.2.2.2)).bind fun S9 => (nwA 21 240 (S9.1, S9.2.1, S9.2.2.1, S9.2.2.2)).bind fun S11 => (pr 12 3 w0 (S9.2.2.1 + 1) (S11.1, S11.2.1, S11.2.2.1, S11.2.2.2)).bind fun S14 => (nwA 21 60 (S14.1, S14.2.1, S14.2.2.1, S14.2.2.2)).bind fun S16 => (pr 12 4 w0 (S14.2.2.1 + 1) (S16.1, S16.2.1, S16.2.2.1, S16.2.2.2)).bind fun S19 => (nwA 22 1600 (S19.1, S19.2.1, S19.2.2.1, S19.2.2.2)).bind fun S21 => (pr 12 5 w0 (S19.2.2.1 + 1) (S21.1, S21.2.1, S21.2.2.1, S21.2.2.2)).bind fun S24 => (pi S24.1 12 15 w0 (-1) S24.2.2.2).bind fun I26 => (nwA 20 5 (S24.1, S24.2.1, S24.2.2.1, I26)).bind fun S27 => (pr 12 16 w0 (S24.2.2.1 + 1) (S27.1, S27.2.1, S27.2.2.1, S27.2.2.2)).bind fun S30 => (nwA 20 30 (S30.1, S30.2.1, S30.2.2.1, S30.2.2.2)).bind fun S32 => (pr 12 17 w0 (S30.2.2.1 + 1) (S32.1, S32.2.1, S32.2.2.1, S32.2.2.2)).bind fun S35 => (nwA 20 360 (S35.1, S35.2.1, S35.2.2.1, S35.2.2.2)).bind fun S37 => (pr 12 18 w0 (S35.2.2.1 + 1) (S37.1, S37.2.1, S37.2.2.1, S37.2.2.2)).bind fun S40 => (nwA 20 40 (S40.1, S40.2.1, S40.2.2.1, S40.2.2.2)).bind fun S42 => (pr 12 19 w0 (S40.2.2.1 + 1) (S42.1, S42.2.1, S42.2.2.1, S42.2.2.2)).bind fun S45 => (nwA 20 40 (S45.1, S45.2.1, S45.2.2.1, S45.2.2.2)).bind fun S47 => (pr 12 20 w0 (S45.2.2.1 + 1) (S47.1, S47.2.1, S47.2.2.1, S47.2.2.2)).bind fun S50 => (nwA 20 180 (S50.1, S50.2.1, S50.2.2.1, S50.2.2.2)).bind fun S52 => (pr 12 21 w0 (S50.2.2.1 + 1) (S52.1, S52.2.1, S52.2.2.1, S52.2.2.2)).bind fun S55 => (nwA 20 200 (S55.1, S55.2.1, S55.2.2.1, S55.2.2.2)).bind fun S57 => (pr 12 22 w0 (S55.2.2.1 + 1) (S57.1, S57.2.1, S57.2.2.1, S57.2.2.2)).bind fun S60 => (nwA 23 3 (S60.1, S60.2.1, S60.2.2.1, S60.2.2.2)).bind fun S62 => (pr 12 23 w0 (S60.2.2.1 + 1) (S62.1, S62.2.1, S62.2.2.1, S62.2.2.2)).bind fun S65 => (nwA 20 36 (S65.1, S65.2.1, S65.2.2.1, S65.2.2.2)).bind fun S67 => (pr 12 24 w0 (S65.2.2.1 + 1) (S67.1, S67.2.1, S67.2.2.1, S67.2.2.2)).bind fun S70 => (nwA 20 8 (S70.1, S70.2.1, S70.2.2.1, S70.2.2.2)).bind fun S72 => (pr 12 29 w0 (S70.2.2.1 + 1) (S72.1, S72.2.1, S72.2.2.1, S72.2.2.2)).bind fun S75 => (nwA 23 3200 (S75.1, S75.2.1, S75.2.2.1, S75.2.2.2)).bind fun S77 => (pr 12 30 w0 (S75.2.2.1 + 1) (S77.1, S77.2.1, S77.2.2.1, S77.2.2.2)).bind fun S80 => (nwA 20 9 (S80.1, S80.2.1, S80.2.2.1, S80.2.2.2)).bind fun S82 => (pr 12 38 w0 (S80.2.2.1 + 1) (S82.1, S82.2.1, S82.2.2.1, S82.2.2.2)).bind fun S85 => (nwA 20 8 (S85.1, S85.2.1, S85.2.2.1, S85.2.2.2)).bind fun S87 => (pr 12 39 w0 (S85.2.2.1 + 1) (S87.1, S87.2.1, S87.2.2.1, S87.2.2.2)).bind fun S90 => (nwA 20 8 (S90.1, S90.2.1, S90.2.2.1, S90.2.2.2)).bind fun S92 => (pr 12 41 w0 (S90.2.2.1 + 1) (S92.1, S92.2.1, S92.2.2.1, S92.2.2.2)).bind fun S95 => (nwA 21 256 (S95.1, S95.2.1, S95.2.2.1, S95.2.2.2)).bind fun S97 => (pr 12 44 w0 (S95.2.2.1 + 1) (S97.1, S97.2.1, S97.2.2.1, S97.2.2.2)).bind fun S100 => (nwA 20 8 (S100.1, S100.2.1, S100.2.2.1, S100.2.2.2)).bind fun S102 => (pr 12 45 w0 (S100.2.2.1 + 1) (S102.1, S102.2.1, S102.2.2.1, S102.2.2.2)).bind fun S105 => (nwA 20 256 (S105.1, S105.2.1, S105.2.2.1, S105.2.2.2)).bind fun S107 => (pr 12 46 w0 (S105.2.2.1 + 1) (S107.1, S107.2.1, S107.2.2.1, S107.2.2.2)).bind fun S110 => (nwA 20 8 (S110.1, S110.2.1, S110.2.2.1, S110.2.2.2)).bind fun S112 => (pr 12 47 w0 (S110.2.2.1 + 1) (S112.1, S112.2.1, S112.2.2.1, S112.2.2.2)).bind fun S115 => (nwA 20 9 (S115.1, S115.2.1, S115.2.2.1, S115.2.2.2)).bind fun S117 => (pr 12 48 w0 (S115.2.2.1 + 1) (S117.1, S117.2.1, S117.2.2.1, S117.2.2.2)).bind fun S120 => it (fun (s123 : Int × Mem) => if s123.1 < 4 then (gr S120.1 S120.2.1 12 1 w0).bind fun x125 => (sto S120.1 20 x125 s123.1 (-1) s123.2).bind fun I126 => some (.inl (ia s123.1 1, I126)) else some (.inr (S120.1, S120.2.1, S120.2.2.1, s123.2))) FU (0, S120.2.2.2)
set_option maxHeartbeats 4000000 in
set_option maxRecDepth 100000 in
theorem c_X12_init (l : Launch) (cA : Nat → ClassId) (D : va_G) (N : Nat) (sx : Sx) (ad : Nat → Nat) (T : Knd) (A : Rfs) (nx : Nat) (I : Mem) (w0 : Nat) (hrb : RB A nx) (hb0 : 1 ≤ w0 ∧ w0 ≤ nx) (e : St) (h : f_X12_init T A nx w0 I = some e) : CtA l yX12_init cX12_init 2 1 24 6572 60 cA D N sx ad T A nx [rv ad w0] I e := by
  refine met_ofA (lv0 := [(0, rv ad w0)]) (by decide) (Nat.le_of_ble_eq_true rfl) rfl (by omega) (fun p e0 s m args below meth c S0 hK hX hAX hN hin hr hlk Q hQ => ?_)
  have hf : OK (f_X12_init T A nx w0 I) (fun z => z = e) := ⟨e, h, rfl⟩
  unfold f_X12_init at hf
  have hag : ∀ i, i ≤ nx → ad i = ad i := fun _ _ => rfl
  refine r_aload_n (pc := 0) S0 0 dX12_init_0 rfl rfl ?_
  refine r_obj (pc := 1) S0 oi_X12_1 dX12_init_1 ⟨by decide, Nat.le_of_ble_eq_true rfl⟩ ?_
  refine r_aload_n (pc := 4) S0 0 dX12_init_4 rfl rfl ?_
  refine r_iconst (pc := 5) S0 dX12_init_5 ?_
  refine r_nwai (pc := 6) S0 hK ac_i hN hrb (fun ad => [(0, rv ad w0)]) (fun ad => [rv ad w0]) (fun ad1 h => by simp only [rv, h w0 (by omega)]) (fun ad1 h => by simp only [rv, h w0 (by omega)]) (cnz 4 rfl) dX12_init_6 1 4 ⟨rfl, by decide, by decide, by decide⟩ hf (fun ad S1 h2 n3 hrb hf => ?_)
  have hag := fun i (hi : i ≤ nx) => (h2 i (by omega)).trans (hag i hi)
  refine r_putR (pc := 8) S0 hK hin hrb fl_X12_7 rfl rfl rfl (fun _ => rfl) (fun _ => rfl) dX12_init_8 hf (fun S4 n5 hrb hf => ?_)
  refine r_aload_n (pc := 11) S0 0 dX12_init_11 rfl rfl ?_
  refine r_iconst (pc := 12) S0 dX12_init_12 ?_
  refine r_nwai (pc := 13) S0 hK ac_i hN hrb (fun ad => [(0, rv ad w0)]) (fun ad => [rv ad w0]) (fun ad1 h => by simp only [rv, h w0 (by omega)]) (fun ad1 h => by simp only [rv, h w0 (by omega)]) (cnz 4 rfl) dX12_init_13 2 8 ⟨rfl, by decide, by decide, by decide⟩ hf (fun ad S6 h7 n8 hrb hf => ?_)
  have hag := fun i (hi : i ≤ nx) => (h7 i (by omega)).trans (hag i hi)
  refine r_putR (pc := 15) S0 hK hin hrb fl_X12_13 rfl rfl rfl (fun _ => rfl) (fun _ => rfl) dX12_init_15 hf (fun S9 n10 hrb hf => ?_)
  refine r_aload_n (pc := 18) S0 0 dX12_init_18 rfl rfl ?_
  refine r_sipush (pc := 19) S0 dX12_init_19 (by decide) ?_
  refine r_nwaj (pc := 22) S0 hK ac_j hN hrb (fun ad => [(0, rv ad w0)]) (fun ad => [rv ad w0]) (fun ad1 h => by simp only [rv, h w0 (by omega)]) (fun ad1 h => by simp only [rv, h w0 (by omega)]) (cnz 240 rfl) dX12_init_22 3 248 ⟨rfl, by decide, by decide, by decide⟩ hf (fun ad S11 h12 n13 hrb hf => ?_)
  have hag := fun i (hi : i ≤ nx) => (h12 i (by omega)).trans (hag i hi)
  refine r_putR (pc := 24) S0 hK hin hrb fl_X12_16 rfl rfl rfl (fun _ => rfl) (fun _ => rfl) dX12_init_24 hf (fun S14 n15 hrb hf => ?_)
  refine r_aload_n (pc := 27) S0 0 dX12_init_27 rfl rfl ?_
  refine r_bipush (pc := 28) S0 dX12_init_28 (by decide) ?_
  refine r_nwaj (pc := 30) S0 hK ac_j hN hrb (fun ad => [(0, rv ad w0)]) (fun ad => [rv ad w0]) (fun ad1 h => by simp only [rv, h w0 (by omega)]) (fun ad1 h => by simp only [rv, h w0 (by omega)]) (cnz 60 rfl) dX12_init_30 4 308 ⟨rfl, by decide, by decide, by decide⟩ hf (fun ad S16 h17 n18 hrb hf => ?_)
  have hag := fun i (hi : i ≤ nx) => (h17 i (by omega)).trans (hag i hi)
  refine r_putR (pc := 32) S0 hK hin hrb fl_X12_20 rfl rfl rfl (fun _ => rfl) (fun _ => rfl) dX12_init_32 hf (fun S19 n20 hrb hf => ?_)
  refine r_aload_n (pc := 35) S0 0 dX12_init_35 rfl rfl ?_
  refine r_sipush (pc := 36) S0 dX12_init_36 (by decide) ?_
  refine r_nwab (pc := 39) S0 hK ac_b hN hrb (fun ad => [(0, rv ad w0)]) (fun ad => [rv ad w0]) (fun ad1 h => by simp only [rv, h w0 (by omega)]) (fun ad1 h => by simp only [rv, h w0 (by omega)]) (cnz 1600 rfl) dX12_init_39 5 1908 ⟨rfl, by decide, by decide, by decide⟩ hf (fun ad S21 h22 n23 hrb hf => ?_)
  have hag := fun i (hi : i ≤ nx) => (h22 i (by omega)).trans (hag i hi)
  refine r_putR (pc := 41) S0 hK hin hrb fl_X12_23 rfl rfl rfl (fun _ => rfl) (fun _ => rfl) dX12_init_41 hf (fun S24 n25 hrb hf => ?_)
  refine r_aload_n (pc := 44) S0 0 dX12_init_44 rfl rfl ?_
  refine r_iconst (pc := 45) S0 dX12_init_45 ?_
  refine r_putI (pc := 46) S0 hK fl_X12_27 rfl rfl (cnz (-1) rfl) dX12_init_46 hf (fun I26 hf => ?_)
  refine r_aload_n (pc := 49) S0 0 dX12_init_49 rfl rfl ?_
  refine r_iconst (pc := 50) S0 dX12_init_50 ?_
  refine r_nwai (pc := 51) S0 hK ac_i hN hrb (fun ad => [(0, rv ad w0)]) (fun ad => [rv ad w0]) (fun ad1 h => by simp only [rv, h w0 (by omega)]) (fun ad1 h => by simp only [rv, h w0 (by omega)]) (cnz 5 rfl) dX12_init_51 6 1913 ⟨rfl, by decide, by decide, by decide⟩ hf (fun ad S27 h28 n29 hrb hf => ?_)
  have hag := fun i (hi : i ≤ nx) => (h28 i (by omega)).trans (hag i hi)
  refine r_putR (pc := 53) S0 hK hin hrb fl_X12_31 rfl rfl rfl (fun _ => rfl) (fun _ => rfl) dX12_init_53 hf (fun S30 n31 hrb hf => ?_)
  refine r_aload_n (pc := 56) S0 0 dX12_init_56 rfl rfl ?_
  refine r_bipush (pc := 57) S0 dX12_init_57 (by decide) ?_
  refine r_nwai (pc := 59) S0 hK ac_i hN hrb (fun ad => [(0, rv ad w0)]) (fun ad => [rv ad w0]) (fun ad1 h => by simp only [rv, h w0 (by omega)]) (fun ad1 h => by simp only [rv, h w0 (by omega)]) (cnz 30 rfl) dX12_init_59 7 1943 ⟨rfl, by decide, by decide, by decide⟩ hf (fun ad S32 h33 n34 hrb hf => ?_)
  have hag := fun i (hi : i ≤ nx) => (h33 i (by omega)).trans (hag i hi)
  refine r_putR (pc := 61) S0 hK hin hrb fl_X12_34 rfl rfl rfl (fun _ => rfl) (fun _ => rfl) dX12_init_61 hf (fun S35 n36 hrb hf => ?_)
  refine r_aload_n (pc := 64) S0 0 dX12_init_64 rfl rfl ?_
  refine r_sipush (pc := 65) S0 dX12_init_65 (by decide) ?_
  refine r_nwai (pc := 68) S0 hK ac_i hN hrb (fun ad => [(0, rv ad w0)]) (fun ad => [rv ad w0]) (fun ad1 h => by simp only [rv, h w0 (by omega)]) (fun ad1 h => by simp only [rv, h w0 (by omega)]) (cnz 360 rfl) dX12_init_68 8 2303 ⟨rfl, by decide, by decide, by decide⟩ hf (fun ad S37 h38 n39 hrb hf => ?_)
  have hag := fun i (hi : i ≤ nx) => (h38 i (by omega)).trans (hag i hi)
  refine r_putR (pc := 70) S0 hK hin hrb fl_X12_37 rfl rfl rfl (fun _ => rfl) (fun _ => rfl) dX12_init_70 hf (fun S40 n41 hrb hf => ?_)
  refine r_aload_n (pc := 73) S0 0 dX12_init_73 rfl rfl ?_
  refine r_bipush (pc := 74) S0 dX12_init_74 (by decide) ?_
  refine r_nwai (pc := 76) S0 hK ac_i hN hrb (fun ad => [(0, rv ad w0)]) (fun ad => [rv ad w0]) (fun ad1 h => by simp only [rv, h w0 (by omega)]) (fun ad1 h => by simp only [rv, h w0 (by omega)]) (cnz 40 rfl) dX12_init_76 9 2343 ⟨rfl, by decide, by decide, by decide⟩ hf (fun ad S42 h43 n44 hrb hf => ?_)
  have hag := fun i (hi : i ≤ nx) => (h43 i (by omega)).trans (hag i hi)
  refine r_putR (pc := 78) S0 hK hin hrb fl_X12_40 rfl rfl rfl (fun _ => rfl) (fun _ => rfl) dX12_init_78 hf (fun S45 n46 hrb hf => ?_)
  refine r_aload_n (pc := 81) S0 0 dX12_init_81 rfl rfl ?_
  refine r_bipush (pc := 82) S0 dX12_init_82 (by decide) ?_
  refine r_nwai (pc := 84) S0 hK ac_i hN hrb (fun ad => [(0, rv ad w0)]) (fun ad => [rv ad w0]) (fun ad1 h => by simp only [rv, h w0 (by omega)]) (fun ad1 h => by simp only [rv, h w0 (by omega)]) (cnz 40 rfl) dX12_init_84 10 2383 ⟨rfl, by decide, by decide, by decide⟩ hf (fun ad S47 h48 n49 hrb hf => ?_)
  have hag := fun i (hi : i ≤ nx) => (h48 i (by omega)).trans (hag i hi)
  refine r_putR (pc := 86) S0 hK hin hrb fl_X12_43 rfl rfl rfl (fun _ => rfl) (fun _ => rfl) dX12_init_86 hf (fun S50 n51 hrb hf => ?_)
  refine r_aload_n (pc := 89) S0 0 dX12_init_89 rfl rfl ?_
  refine r_sipush (pc := 90) S0 dX12_init_90 (by decide) ?_
  refine r_nwai (pc := 93) S0 hK ac_i hN hrb (fun ad => [(0, rv ad w0)]) (fun ad => [rv ad w0]) (fun ad1 h => by simp only [rv, h w0 (by omega)]) (fun ad1 h => by simp only [rv, h w0 (by omega)]) (cnz 180 rfl) dX12_init_93 11 2563 ⟨rfl, by decide, by decide, by decide⟩ hf (fun ad S52 h53 n54 hrb hf => ?_)
  have hag := fun i (hi : i ≤ nx) => (h53 i (by omega)).trans (hag i hi)
  refine r_putR (pc := 95) S0 hK hin hrb fl_X12_46 rfl rfl rfl (fun _ => rfl) (fun _ => rfl) dX12_init_95 hf (fun S55 n56 hrb hf => ?_)
  refine r_aload_n (pc := 98) S0 0 dX12_init_98 rfl rfl ?_
  refine r_sipush (pc := 99) S0 dX12_init_99 (by decide) ?_
  refine r_nwai (pc := 102) S0 hK ac_i hN hrb (fun ad => [(0, rv ad w0)]) (fun ad => [rv ad w0]) (fun ad1 h => by simp only [rv, h w0 (by omega)]) (fun ad1 h => by simp only [rv, h w0 (by omega)]) (cnz 200 rfl) dX12_init_102 12 2763 ⟨rfl, by decide, by decide, by decide⟩ hf (fun ad S57 h58 n59 hrb hf => ?_)
  have hag := fun i (hi : i ≤ nx) => (h58 i (by omega)).trans (hag i hi)
  refine r_putR (pc := 104) S0 hK hin hrb fl_X12_49 rfl rfl rfl (fun _ => rfl) (fun _ => rfl) dX12_init_104 hf (fun S60 n61 hrb hf => ?_)
  refine r_aload_n (pc := 107) S0 0 dX12_init_107 rfl rfl ?_
  refine r_iconst (pc := 108) S0 dX12_init_108 ?_
  refine r_nwaz (pc := 109) S0 hK ac_z hN hrb (fun ad => [(0, rv ad w0)]) (fun ad => [rv ad w0]) (fun ad1 h => by simp only [rv, h w0 (by omega)]) (fun ad1 h => by simp only [rv, h w0 (by omega)]) (cnz 3 rfl) dX12_init_109 13 2766 ⟨rfl, by decide, by decide, by decide⟩ hf (fun ad S62 h63 n64 hrb hf => ?_)
  have hag := fun i (hi : i ≤ nx) => (h63 i (by omega)).trans (hag i hi)
  refine r_putR (pc := 111) S0 hK hin hrb fl_X12_52 rfl rfl rfl (fun _ => rfl) (fun _ => rfl) dX12_init_111 hf (fun S65 n66 hrb hf => ?_)
  refine r_aload_n (pc := 114) S0 0 dX12_init_114 rfl rfl ?_
  refine r_bipush (pc := 115) S0 dX12_init_115 (by decide) ?_
  refine r_nwai (pc := 117) S0 hK ac_i hN hrb (fun ad => [(0, rv ad w0)]) (fun ad => [rv ad w0]) (fun ad1 h => by simp only [rv, h w0 (by omega)]) (fun ad1 h => by simp only [rv, h w0 (by omega)]) (cnz 36 rfl) dX12_init_117 14 2802 ⟨rfl, by decide, by decide, by decide⟩ hf (fun ad S67 h68 n69 hrb hf => ?_)
  have hag := fun i (hi : i ≤ nx) => (h68 i (by omega)).trans (hag i hi)
  refine r_putR (pc := 119) S0 hK hin hrb fl_X12_56 rfl rfl rfl (fun _ => rfl) (fun _ => rfl) dX12_init_119 hf (fun S70 n71 hrb hf => ?_)
  refine r_aload_n (pc := 122) S0 0 dX12_init_122 rfl rfl ?_
  refine r_bipush (pc := 123) S0 dX12_init_123 (by decide) ?_
  refine r_nwai (pc := 125) S0 hK ac_i hN hrb (fun ad => [(0, rv ad w0)]) (fun ad => [rv ad w0]) (fun ad1 h => by simp only [rv, h w0 (by omega)]) (fun ad1 h => by simp only [rv, h w0 (by omega)]) (cnz 8 rfl) dX12_init_125 15 2810 ⟨rfl, by decide, by decide, by decide⟩ hf (fun ad S72 h73 n74 hrb hf => ?_)
  have hag := fun i (hi : i ≤ nx) => (h73 i (by omega)).trans (hag i hi)
  refine r_putR (pc := 127) S0 hK hin hrb fl_X12_59 rfl rfl rfl (fun _ => rfl) (fun _ => rfl) dX12_init_127 hf (fun S75 n76 hrb hf => ?_)
  refine r_aload_n (pc := 130) S0 0 dX12_init_130 rfl rfl ?_
  refine r_sipush (pc := 131) S0 dX12_init_131 (by decide) ?_
  refine r_nwaz (pc := 134) S0 hK ac_z hN hrb (fun ad => [(0, rv ad w0)]) (fun ad => [rv ad w0]) (fun ad1 h => by simp only [rv, h w0 (by omega)]) (fun ad1 h => by simp only [rv, h w0 (by omega)]) (cnz 3200 rfl) dX12_init_134 16 6010 ⟨rfl, by decide, by decide, by decide⟩ hf (fun ad S77 h78 n79 hrb hf => ?_)
  have hag := fun i (hi : i ≤ nx) => (h78 i (by omega)).trans (hag i hi)
  refine r_putR (pc := 136) S0 hK hin hrb fl_X12_62 rfl rfl rfl (fun _ => rfl) (fun _ => rfl) dX12_init_136 hf (fun S80 n81 hrb hf => ?_)
  refine r_aload_n (pc := 139) S0 0 dX12_init_139 rfl rfl ?_
  refine r_bipush (pc := 140) S0 dX12_init_140 (by decide) ?_
  refine r_nwai (pc := 142) S0 hK ac_i hN hrb (fun ad => [(0, rv ad w0)]) (fun ad => [rv ad w0]) (fun ad1 h => by simp only [rv, h w0 (by omega)]) (fun ad1 h => by simp only [rv, h w0 (by omega)]) (cnz 9 rfl) dX12_init_142 17 6019 ⟨rfl, by decide, by decide, by decide⟩ hf (fun ad S82 h83 n84 hrb hf => ?_)
  have hag := fun i (hi : i ≤ nx) => (h83 i (by omega)).trans (hag i hi)
  refine r_putR (pc := 144) S0 hK hin hrb fl_X12_65 rfl rfl rfl (fun _ => rfl) (fun _ => rfl) dX12_init_144 hf (fun S85 n86 hrb hf => ?_)
  refine r_aload_n (pc := 147) S0 0 dX12_init_147 rfl rfl ?_
  refine r_bipush (pc := 148) S0 dX12_init_148 (by decide) ?_
  refine r_nwai (pc := 150) S0 hK ac_i hN hrb (fun ad => [(0, rv ad w0)]) (fun ad => [rv ad w0]) (fun ad1 h => by simp only [rv, h w0 (by omega)]) (fun ad1 h => by simp only [rv, h w0 (by omega)]) (cnz 8 rfl) dX12_init_150 18 6027 ⟨rfl, by decide, by decide, by decide⟩ hf (fun ad S87 h88 n89 hrb hf => ?_)
  have hag := fun i (hi : i ≤ nx) => (h88 i (by omega)).trans (hag i hi)
  refine r_putR (pc := 152) S0 hK hin hrb fl_X12_68 rfl rfl rfl (fun _ => rfl) (fun _ => rfl) dX12_init_152 hf (fun S90 n91 hrb hf => ?_)
  refine r_aload_n (pc := 155) S0 0 dX12_init_155 rfl rfl ?_
  refine r_bipush (pc := 156) S0 dX12_init_156 (by decide) ?_
  refine r_nwai (pc := 158) S0 hK ac_i hN hrb (fun ad => [(0, rv ad w0)]) (fun ad => [rv ad w0]) (fun ad1 h => by simp only [rv, h w0 (by omega)]) (fun ad1 h => by simp only [rv, h w0 (by omega)]) (cnz 8 rfl) dX12_init_158 19 6035 ⟨rfl, by decide, by decide, by decide⟩ hf (fun ad S92 h93 n94 hrb hf => ?_)
  have hag := fun i (hi : i ≤ nx) => (h93 i (by omega)).trans (hag i hi)
  refine r_putR (pc := 160) S0 hK hin hrb fl_X12_71 rfl rfl rfl (fun _ => rfl) (fun _ => rfl) dX12_init_160 hf (fun S95 n96 hrb hf => ?_)
  refine r_aload_n (pc := 163) S0 0 dX12_init_163 rfl rfl ?_
  refine r_sipush (pc := 164) S0 dX12_init_164 (by decide) ?_
  refine r_nwaj (pc := 167) S0 hK ac_j hN hrb (fun ad => [(0, rv ad w0)]) (fun ad => [rv ad w0]) (fun ad1 h => by simp only [rv, h w0 (by omega)]) (fun ad1 h => by simp only [rv, h w0 (by omega)]) (cnz 256 rfl) dX12_init_167 20 6291 ⟨rfl, by decide, by decide, by decide⟩ hf (fun ad S97 h98 n99 hrb hf => ?_)
  have hag := fun i (hi : i ≤ nx) => (h98 i (by omega)).trans (hag i hi)
  refine r_putR (pc := 169) S0 hK hin hrb fl_X12_74 rfl rfl rfl (fun _ => rfl) (fun _ => rfl) dX12_init_169 hf (fun S100 n101 hrb hf => ?_)
  refine r_aload_n (pc := 172) S0 0 dX12_init_172 rfl rfl ?_
  refine r_bipush (pc := 173) S0 dX12_init_173 (by decide) ?_
  refine r_nwai (pc := 175) S0 hK ac_i hN hrb (fun ad => [(0, rv ad w0)]) (fun ad => [rv ad w0]) (fun ad1 h => by simp only [rv, h w0 (by omega)]) (fun ad1 h => by simp only [rv, h w0 (by omega)]) (cnz 8 rfl) dX12_init_175 21 6299 ⟨rfl, by decide, by decide, by decide⟩ hf (fun ad S102 h103 n104 hrb hf => ?_)
  have hag := fun i (hi : i ≤ nx) => (h103 i (by omega)).trans (hag i hi)
  refine r_putR (pc := 177) S0 hK hin hrb fl_X12_77 rfl rfl rfl (fun _ => rfl) (fun _ => rfl) dX12_init_177 hf (fun S105 n106 hrb hf => ?_)
  refine r_aload_n (pc := 180) S0 0 dX12_init_180 rfl rfl ?_
  refine r_sipush (pc := 181) S0 dX12_init_181 (by decide) ?_
  refine r_nwai (pc := 184) S0 hK ac_i hN hrb (fun ad => [(0, rv ad w0)]) (fun ad => [rv ad w0]) (fun ad1 h => by simp only [rv, h w0 (by omega)]) (fun ad1 h => by simp only [rv, h w0 (by omega)]) (cnz 256 rfl) dX12_init_184 22 6555 ⟨rfl, by decide, by decide, by decide⟩ hf (fun ad S107 h108 n109 hrb hf => ?_)
  have hag := fun i (hi : i ≤ nx) => (h108 i (by omega)).trans (hag i hi)
  refine r_putR (pc := 186) S0 hK hin hrb fl_X12_80 rfl rfl rfl (fun _ => rfl) (fun _ => rfl) dX12_init_186 hf (fun S110 n111 hrb hf => ?_)
  refine r_aload_n (pc := 189) S0 0 dX12_init_189 rfl rfl ?_
  refine r_bipush (pc := 190) S0 dX12_init_190 (by decide) ?_
  refine r_nwai (pc := 192) S0 hK ac_i hN hrb (fun ad => [(0, rv ad w0)]) (fun ad => [rv ad w0]) (fun ad1 h => by simp only [rv, h w0 (by omega)]) (fun ad1 h => by simp only [rv, h w0 (by omega)]) (cnz 8 rfl) dX12_init_192 23 6563 ⟨rfl, by decide, by decide, by decide⟩ hf (fun ad S112 h113 n114 hrb hf => ?_)
  have hag := fun i (hi : i ≤ nx) => (h113 i (by omega)).trans (hag i hi)
  refine r_putR (pc := 194) S0 hK hin hrb fl_X12_83 rfl rfl rfl (fun _ => rfl) (fun _ => rfl) dX12_init_194 hf (fun S115 n116 hrb hf => ?_)
  refine r_aload_n (pc := 197) S0 0 dX12_init_197 rfl rfl ?_
  refine r_bipush (pc := 198) S0 dX12_init_198 (by decide) ?_
  refine r_nwai (pc := 200) S0 hK ac_i hN hrb (fun ad => [(0, rv ad w0)]) (fun ad => [rv ad w0]) (fun ad1 h => by simp only [rv, h w0 (by omega)]) (fun ad1 h => by simp only [rv, h w0 (by omega)]) (cnz 9 rfl) dX12_init_200 24 6572 ⟨rfl, by decide, by decide, by decide⟩ hf (fun ad S117 h118 n119 hrb hf => ?_)
  have hag := fun i (hi : i ≤ nx) => (h118 i (by omega)).trans (hag i hi)
  refine r_putR (pc := 202) S0 hK hin hrb fl_X12_86 rfl rfl rfl (fun _ => rfl) (fun _ => rfl) dX12_init_202 hf (fun S120 n121 hrb hf => ?_)
  refine r_iconst (pc := 205) S0 dX12_init_205 ?_
  refine r_istore_n (pc := 206) (lv' := [(1, iv 0), (0, rv ad w0)]) S0 dX12_init_206 rfl (by decide) rfl ?_
  refine r_lv [1, 0] rfl ?_
  refine it_ind (P := fun s123 => cn s123.1 → G p l e0 (rmy 1 24 6572 60) s m args below meth c 24 6572 Q cA D N 2 ad S120.1 S120.2.1 S120.2.2.1 207 [(0, rv ad w0), (1, iv s123.1)] [] s123.2) (fun n0 s123 ih122 hf c124 => ?_) FU (0, S120.2.2.2) hf (cnz 0 rfl)
  refine r_iload_n (pc := 207) S0 1 dX12_init_207 rfl rfl ?_
  refine r_iconst (pc := 208) S0 dX12_init_208 ?_
  refine r_icmp_ge (pc := 209) (tgt := 225) S0 dX12_init_209 (by decide) c124 (cnz 4 rfl) hf (fun hf => ?_) (fun hf => ?_)
  · have hz := ok_some hf
    have hz : (S120.1, S120.2.1, S120.2.2.1, s123.2) = e := hz
    subst hQ
    subst hz
    exact r_vretA (pc := 225) S0 hr hlk hag (by omega) hrb dX12_init_225
  · refine r_aload_n (pc := 212) S0 0 dX12_init_212 rfl rfl ?_
    refine r_getRb (pc := 213) S0 hK hrb fl_X12_7 dX12_init_213 hf (fun x125 hxx125 hf => ?_)
    refine r_iload_n (pc := 216) S0 1 dX12_init_216 rfl rfl ?_
    refine r_iconst (pc := 217) S0 dX12_init_217 ?_
    refine r_iast (pc := 218) S0 hK dX12_init_218 c124 (cnz (-1) rfl) hf (fun I126 hf => ?_)
    refine r_iinc (pc := 219) (lv' := [(1, iv (ia s123.1 1)), (0, rv ad w0)]) S0 1 dX12_init_219 rfl (by decide) rfl ?_
    refine r_goto (pc := 222) (tgt := 207) S0 dX12_init_222 (by decide) ?_
    have hz := ok_some hf
    refine r_lv [1, 0] rfl ?_
    exact ih122 (ia s123.1 1, I126) hz (cn_wrap _)
