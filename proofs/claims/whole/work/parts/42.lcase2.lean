/-! The law's cases, on. -/
set_option maxHeartbeats 4000000 in
set_option maxRecDepth 100000 in
theorem lc_46 {p : Program} {l : Launch} {e0 : Env} {s : State} {m : MethodId} {args : Array Value} {below : List Frame} {meth : Method} {c : Code} {cells slots : Nat} {Q : State → Prop} {cA : Nat → ClassId} {D : va_G} {N : Nat} {ad : Nat → Nat} {T : Knd} {A : Rfs} {nx : Nat} {I : Mem} {sx : Sx} {b L wx wm q : Nat} {xs : Nat → Int32} (S0 : CallFix p m c code 4 s args gT RL) (hK : va_K D vwCl (tyl cA) s) (hX : XX sx N s) (hAX : AX s) (hsc : SC N b L xs s) (hL : L ≤ 3072) (hq : q + 6 ≤ L) (hrb : RB A nx) (hbx : 1 ≤ wx ∧ wx ≤ nx) (hbm : 1 ≤ wm ∧ wm ≤ nx) (hcl : cells + 21 ≤ 600000 ∧ slots + 191 ≤ 7302250) {S2 : St} (hstep : ls_46 wx wm (xs (q + 1)).toInt (xs (q + 2)).toInt (xs (q + 3)).toInt (xs (q + 4)).toInt (xs (q + 5)).toInt T A nx I = some S2) (kk : ∀ (ad1 : Nat → Nat) (c2 s2 : Nat), (∀ i, i ≤ nx → ad1 i = ad i) → c2 ≤ cells + 21 → s2 ≤ slots + 191 → nx ≤ S2.2.2.1 → RB S2.2.1 S2.2.2.1 → G p l e0 room_1 s m args below meth c c2 s2 Q cA D N 4 ad1 S2.1 S2.2.1 S2.2.2.1 1965 [(0, .ref b), (1, rv ad1 wx), (2, rv ad1 wm), (3, iv (q : Int))] [] S2.2.2.2) : G p l e0 room_1 s m args below meth c cells slots Q cA D N 4 ad T A nx 1269 [(0, .ref b), (1, rv ad wx), (2, rv ad wm), (3, iv (q : Int))] [] I := by
  have hf : OK (ls_46 wx wm (xs (q + 1)).toInt (xs (q + 2)).toInt (xs (q + 3)).toInt (xs (q + 4)).toInt (xs (q + 5)).toInt T A nx I) (fun z => z = S2) := ⟨S2, hstep, rfl⟩
  unfold ls_46 at hf
  refine r_aload_n (pc := 1269) S0 1 dL_law_1269 rfl rfl ?_
  obtain ⟨e1, h1, hf⟩ := ok_bind hf
  refine r_cV_I (pc := 1270) [] S0 hK hX mv_L_202 (k_X11_loose h1) (c_X11_loose l cA D N sx ad T A nx I wx e1 h1) rfl rfl ⟨by decide, by decide⟩ (Nat.le_of_ble_eq_true rfl) (show cells ≤ 600000 ∧ slots ≤ 7302250 by omega) dL_law_1270 (fun c1 => ?_)
  refine r_aload_n (pc := 1273) S0 2 dL_law_1273 rfl rfl ?_
  obtain ⟨e2, h2, hf⟩ := ok_bind hf
  refine r_cV_I (pc := 1274) [] S0 hK hX mv_L_205 (k_X12_loose h2) (c_X12_loose l cA D N sx ad T A nx e1.2 wm e2 h2) rfl rfl ⟨by decide, by decide⟩ (Nat.le_of_ble_eq_true rfl) (show cells ≤ 600000 ∧ slots ≤ 7302250 by omega) dL_law_1274 (fun c2 => ?_)
  refine r_icmp_eq (pc := 1277) (tgt := 1965) S0 dL_law_1277 (by decide) c1 c2 hf (fun hf => ?_) (fun hf => (ok_none hf).elim)
  have hz := ok_some hf
  have hz : (T, A, nx, e2.2) = S2 := hz
  subst hz
  exact kk ad cells slots (fun _ _ => rfl) (by omega) (by omega) (Nat.le_refl _) hrb
set_option maxHeartbeats 4000000 in
set_option maxRecDepth 100000 in
theorem lc_47 {p : Program} {l : Launch} {e0 : Env} {s : State} {m : MethodId} {args : Array Value} {below : List Frame} {meth : Method} {c : Code} {cells slots : Nat} {Q : State → Prop} {cA : Nat → ClassId} {D : va_G} {N : Nat} {ad : Nat → Nat} {T : Knd} {A : Rfs} {nx : Nat} {I : Mem} {sx : Sx} {b L wx wm q : Nat} {xs : Nat → Int32} (S0 : CallFix p m c code 4 s args gT RL) (hK : va_K D vwCl (tyl cA) s) (hX : XX sx N s) (hAX : AX s) (hsc : SC N b L xs s) (hL : L ≤ 3072) (hq : q + 6 ≤ L) (hrb : RB A nx) (hbx : 1 ≤ wx ∧ wx ≤ nx) (hbm : 1 ≤ wm ∧ wm ≤ nx) (hcl : cells + 21 ≤ 600000 ∧ slots + 191 ≤ 7302250) {S2 : St} (hstep : ls_47 wx wm (xs (q + 1)).toInt (xs (q + 2)).toInt (xs (q + 3)).toInt (xs (q + 4)).toInt (xs (q + 5)).toInt T A nx I = some S2) (kk : ∀ (ad1 : Nat → Nat) (c2 s2 : Nat), (∀ i, i ≤ nx → ad1 i = ad i) → c2 ≤ cells + 21 → s2 ≤ slots + 191 → nx ≤ S2.2.2.1 → RB S2.2.1 S2.2.2.1 → G p l e0 room_1 s m args below meth c c2 s2 Q cA D N 4 ad1 S2.1 S2.2.1 S2.2.2.1 1965 [(0, .ref b), (1, rv ad1 wx), (2, rv ad1 wm), (3, iv (q : Int))] [] S2.2.2.2) : G p l e0 room_1 s m args below meth c cells slots Q cA D N 4 ad T A nx 1282 [(0, .ref b), (1, rv ad wx), (2, rv ad wm), (3, iv (q : Int))] [] I := by
  have hf : OK (ls_47 wx wm (xs (q + 1)).toInt (xs (q + 2)).toInt (xs (q + 3)).toInt (xs (q + 4)).toInt (xs (q + 5)).toInt T A nx I) (fun z => z = S2) := ⟨S2, hstep, rfl⟩
  unfold ls_47 at hf
  refine r_aload_n (pc := 1282) S0 1 dL_law_1282 rfl rfl ?_
  refine r_aload_n (pc := 1283) S0 0 dL_law_1283 rfl rfl ?_
  refine r_iload_n (pc := 1284) S0 3 dL_law_1284 rfl rfl ?_
  refine r_iconst (pc := 1285) S0 dL_law_1285 ?_
  refine r_iadd (pc := 1286) S0 dL_law_1286 ?_
  refine r_sld (pc := 1287) (j := q + 1) S0 hsc hL (lsi q 1 (by omega) (by omega)) (by omega) dL_law_1287 ?_
  obtain ⟨e1, h1, hf⟩ := ok_bind hf
  refine r_cV_I (pc := 1288) [iv ((xs (q + 1)).toInt)] S0 hK hX mv_L_206 (k_X11_loosely h1) (c_X11_loosely l cA D N sx ad T A nx I wx ((xs (q + 1)).toInt) (cn_toInt _) e1 h1) rfl rfl ⟨by decide, by decide⟩ (Nat.le_of_ble_eq_true rfl) (show cells ≤ 600000 ∧ slots ≤ 7302250 by omega) dL_law_1288 (fun c1 => ?_)
  refine r_aload_n (pc := 1291) S0 2 dL_law_1291 rfl rfl ?_
  refine r_aload_n (pc := 1292) S0 0 dL_law_1292 rfl rfl ?_
  refine r_iload_n (pc := 1293) S0 3 dL_law_1293 rfl rfl ?_
  refine r_iconst (pc := 1294) S0 dL_law_1294 ?_
  refine r_iadd (pc := 1295) S0 dL_law_1295 ?_
  refine r_sld (pc := 1296) (j := q + 1) S0 hsc hL (lsi q 1 (by omega) (by omega)) (by omega) dL_law_1296 ?_
  obtain ⟨e2, h2, hf⟩ := ok_bind hf
  refine r_cV_I (pc := 1297) [iv ((xs (q + 1)).toInt)] S0 hK hX mv_L_209 (k_X12_loosely h2) (c_X12_loosely l cA D N sx ad T A nx e1.2 wm ((xs (q + 1)).toInt) (cn_toInt _) e2 h2) rfl rfl ⟨by decide, by decide⟩ (Nat.le_of_ble_eq_true rfl) (show cells ≤ 600000 ∧ slots ≤ 7302250 by omega) dL_law_1297 (fun c2 => ?_)
  refine r_icmp_eq (pc := 1300) (tgt := 1965) S0 dL_law_1300 (by decide) c1 c2 hf (fun hf => ?_) (fun hf => (ok_none hf).elim)
  have hz := ok_some hf
  have hz : (T, A, nx, e2.2) = S2 := hz
  subst hz
  exact kk ad cells slots (fun _ _ => rfl) (by omega) (by omega) (Nat.le_refl _) hrb
set_option maxHeartbeats 4000000 in
set_option maxRecDepth 100000 in
theorem lc_48 {p : Program} {l : Launch} {e0 : Env} {s : State} {m : MethodId} {args : Array Value} {below : List Frame} {meth : Method} {c : Code} {cells slots : Nat} {Q : State → Prop} {cA : Nat → ClassId} {D : va_G} {N : Nat} {ad : Nat → Nat} {T : Knd} {A : Rfs} {nx : Nat} {I : Mem} {sx : Sx} {b L wx wm q : Nat} {xs : Nat → Int32} (S0 : CallFix p m c code 4 s args gT RL) (hK : va_K D vwCl (tyl cA) s) (hX : XX sx N s) (hAX : AX s) (hsc : SC N b L xs s) (hL : L ≤ 3072) (hq : q + 6 ≤ L) (hrb : RB A nx) (hbx : 1 ≤ wx ∧ wx ≤ nx) (hbm : 1 ≤ wm ∧ wm ≤ nx) (hcl : cells + 21 ≤ 600000 ∧ slots + 191 ≤ 7302250) {S2 : St} (hstep : ls_48 wx wm (xs (q + 1)).toInt (xs (q + 2)).toInt (xs (q + 3)).toInt (xs (q + 4)).toInt (xs (q + 5)).toInt T A nx I = some S2) (kk : ∀ (ad1 : Nat → Nat) (c2 s2 : Nat), (∀ i, i ≤ nx → ad1 i = ad i) → c2 ≤ cells + 21 → s2 ≤ slots + 191 → nx ≤ S2.2.2.1 → RB S2.2.1 S2.2.2.1 → G p l e0 room_1 s m args below meth c c2 s2 Q cA D N 4 ad1 S2.1 S2.2.1 S2.2.2.1 1965 [(0, .ref b), (1, rv ad1 wx), (2, rv ad1 wm), (3, iv (q : Int))] [] S2.2.2.2) : G p l e0 room_1 s m args below meth c cells slots Q cA D N 4 ad T A nx 1305 [(0, .ref b), (1, rv ad wx), (2, rv ad wm), (3, iv (q : Int))] [] I := by
  have hf : OK (ls_48 wx wm (xs (q + 1)).toInt (xs (q + 2)).toInt (xs (q + 3)).toInt (xs (q + 4)).toInt (xs (q + 5)).toInt T A nx I) (fun z => z = S2) := ⟨S2, hstep, rfl⟩
  unfold ls_48 at hf
  refine r_aload_n (pc := 1305) S0 1 dL_law_1305 rfl rfl ?_
  obtain ⟨e1, h1, hf⟩ := ok_bind hf
  refine r_cV_I (pc := 1306) [] S0 hK hX mv_L_210 (k_X11_parted h1) (c_X11_parted l cA D N sx ad T A nx I wx e1 h1) rfl rfl ⟨by decide, by decide⟩ (Nat.le_of_ble_eq_true rfl) (show cells ≤ 600000 ∧ slots ≤ 7302250 by omega) dL_law_1306 (fun c1 => ?_)
  refine r_aload_n (pc := 1309) S0 2 dL_law_1309 rfl rfl ?_
  obtain ⟨e2, h2, hf⟩ := ok_bind hf
  refine r_cV_I (pc := 1310) [] S0 hK hX mv_L_213 (k_X12_parted h2) (c_X12_parted l cA D N sx ad T A nx e1.2 wm e2 h2) rfl rfl ⟨by decide, by decide⟩ (Nat.le_of_ble_eq_true rfl) (show cells ≤ 600000 ∧ slots ≤ 7302250 by omega) dL_law_1310 (fun c2 => ?_)
  refine r_icmp_eq (pc := 1313) (tgt := 1965) S0 dL_law_1313 (by decide) c1 c2 hf (fun hf => ?_) (fun hf => (ok_none hf).elim)
  have hz := ok_some hf
  have hz : (T, A, nx, e2.2) = S2 := hz
  subst hz
  exact kk ad cells slots (fun _ _ => rfl) (by omega) (by omega) (Nat.le_refl _) hrb
set_option maxHeartbeats 4000000 in
set_option maxRecDepth 100000 in
theorem lc_49 {p : Program} {l : Launch} {e0 : Env} {s : State} {m : MethodId} {args : Array Value} {below : List Frame} {meth : Method} {c : Code} {cells slots : Nat} {Q : State → Prop} {cA : Nat → ClassId} {D : va_G} {N : Nat} {ad : Nat → Nat} {T : Knd} {A : Rfs} {nx : Nat} {I : Mem} {sx : Sx} {b L wx wm q : Nat} {xs : Nat → Int32} (S0 : CallFix p m c code 4 s args gT RL) (hK : va_K D vwCl (tyl cA) s) (hX : XX sx N s) (hAX : AX s) (hsc : SC N b L xs s) (hL : L ≤ 3072) (hq : q + 6 ≤ L) (hrb : RB A nx) (hbx : 1 ≤ wx ∧ wx ≤ nx) (hbm : 1 ≤ wm ∧ wm ≤ nx) (hcl : cells + 21 ≤ 600000 ∧ slots + 191 ≤ 7302250) {S2 : St} (hstep : ls_49 wx wm (xs (q + 1)).toInt (xs (q + 2)).toInt (xs (q + 3)).toInt (xs (q + 4)).toInt (xs (q + 5)).toInt T A nx I = some S2) (kk : ∀ (ad1 : Nat → Nat) (c2 s2 : Nat), (∀ i, i ≤ nx → ad1 i = ad i) → c2 ≤ cells + 21 → s2 ≤ slots + 191 → nx ≤ S2.2.2.1 → RB S2.2.1 S2.2.2.1 → G p l e0 room_1 s m args below meth c c2 s2 Q cA D N 4 ad1 S2.1 S2.2.1 S2.2.2.1 1965 [(0, .ref b), (1, rv ad1 wx), (2, rv ad1 wm), (3, iv (q : Int))] [] S2.2.2.2) : G p l e0 room_1 s m args below meth c cells slots Q cA D N 4 ad T A nx 1318 [(0, .ref b), (1, rv ad wx), (2, rv ad wm), (3, iv (q : Int))] [] I := by
  have hf : OK (ls_49 wx wm (xs (q + 1)).toInt (xs (q + 2)).toInt (xs (q + 3)).toInt (xs (q + 4)).toInt (xs (q + 5)).toInt T A nx I) (fun z => z = S2) := ⟨S2, hstep, rfl⟩
  unfold ls_49 at hf
  refine r_aload_n (pc := 1318) S0 1 dL_law_1318 rfl rfl ?_
  refine r_aload_n (pc := 1319) S0 0 dL_law_1319 rfl rfl ?_
  refine r_iload_n (pc := 1320) S0 3 dL_law_1320 rfl rfl ?_
  refine r_iconst (pc := 1321) S0 dL_law_1321 ?_
  refine r_iadd (pc := 1322) S0 dL_law_1322 ?_
  refine r_sld (pc := 1323) (j := q + 1) S0 hsc hL (lsi q 1 (by omega) (by omega)) (by omega) dL_law_1323 ?_
  obtain ⟨e1, h1, hf⟩ := ok_bind hf
  refine r_cV_I (pc := 1324) [iv ((xs (q + 1)).toInt)] S0 hK hX mv_L_214 (k_X11_judge h1) (c_X11_judge l cA D N sx ad T A nx I wx ((xs (q + 1)).toInt) (cn_toInt _) e1 h1) rfl rfl ⟨by decide, by decide⟩ (Nat.le_of_ble_eq_true rfl) (show cells ≤ 600000 ∧ slots ≤ 7302250 by omega) dL_law_1324 (fun c1 => ?_)
  refine r_aload_n (pc := 1327) S0 2 dL_law_1327 rfl rfl ?_
  refine r_aload_n (pc := 1328) S0 0 dL_law_1328 rfl rfl ?_
  refine r_iload_n (pc := 1329) S0 3 dL_law_1329 rfl rfl ?_
  refine r_iconst (pc := 1330) S0 dL_law_1330 ?_
  refine r_iadd (pc := 1331) S0 dL_law_1331 ?_
  refine r_sld (pc := 1332) (j := q + 1) S0 hsc hL (lsi q 1 (by omega) (by omega)) (by omega) dL_law_1332 ?_
  obtain ⟨e2, h2, hf⟩ := ok_bind hf
  refine r_cV_I (pc := 1333) [iv ((xs (q + 1)).toInt)] S0 hK hX mv_L_217 (k_X12_judge h2) (c_X12_judge l cA D N sx ad T A nx I wm ((xs (q + 1)).toInt) (cn_toInt _) e2 h2) rfl rfl ⟨by decide, by decide⟩ (Nat.le_of_ble_eq_true rfl) (show cells ≤ 600000 ∧ slots ≤ 7302250 by omega) dL_law_1333 (fun c2 => ?_)
  refine r_icmp_eq (pc := 1336) (tgt := 1965) S0 dL_law_1336 (by decide) c1 c2 hf (fun hf => ?_) (fun hf => (ok_none hf).elim)
  have hz := ok_some hf
  have hz : (T, A, nx, e2.2) = S2 := hz
  subst hz
  exact kk ad cells slots (fun _ _ => rfl) (by omega) (by omega) (Nat.le_refl _) hrb
set_option maxHeartbeats 4000000 in
set_option maxRecDepth 100000 in
theorem lc_50 {p : Program} {l : Launch} {e0 : Env} {s : State} {m : MethodId} {args : Array Value} {below : List Frame} {meth : Method} {c : Code} {cells slots : Nat} {Q : State → Prop} {cA : Nat → ClassId} {D : va_G} {N : Nat} {ad : Nat → Nat} {T : Knd} {A : Rfs} {nx : Nat} {I : Mem} {sx : Sx} {b L wx wm q : Nat} {xs : Nat → Int32} (S0 : CallFix p m c code 4 s args gT RL) (hK : va_K D vwCl (tyl cA) s) (hX : XX sx N s) (hAX : AX s) (hsc : SC N b L xs s) (hL : L ≤ 3072) (hq : q + 6 ≤ L) (hrb : RB A nx) (hbx : 1 ≤ wx ∧ wx ≤ nx) (hbm : 1 ≤ wm ∧ wm ≤ nx) (hcl : cells + 21 ≤ 600000 ∧ slots + 191 ≤ 7302250) {S2 : St} (hstep : ls_50 wx wm (xs (q + 1)).toInt (xs (q + 2)).toInt (xs (q + 3)).toInt (xs (q + 4)).toInt (xs (q + 5)).toInt T A nx I = some S2) (kk : ∀ (ad1 : Nat → Nat) (c2 s2 : Nat), (∀ i, i ≤ nx → ad1 i = ad i) → c2 ≤ cells + 21 → s2 ≤ slots + 191 → nx ≤ S2.2.2.1 → RB S2.2.1 S2.2.2.1 → G p l e0 room_1 s m args below meth c c2 s2 Q cA D N 4 ad1 S2.1 S2.2.1 S2.2.2.1 1965 [(0, .ref b), (1, rv ad1 wx), (2, rv ad1 wm), (3, iv (q : Int))] [] S2.2.2.2) : G p l e0 room_1 s m args below meth c cells slots Q cA D N 4 ad T A nx 1341 [(0, .ref b), (1, rv ad wx), (2, rv ad wm), (3, iv (q : Int))] [] I := by
  have hf : OK (ls_50 wx wm (xs (q + 1)).toInt (xs (q + 2)).toInt (xs (q + 3)).toInt (xs (q + 4)).toInt (xs (q + 5)).toInt T A nx I) (fun z => z = S2) := ⟨S2, hstep, rfl⟩
  unfold ls_50 at hf
  refine r_aload_n (pc := 1341) S0 1 dL_law_1341 rfl rfl ?_
  refine r_aload_n (pc := 1342) S0 0 dL_law_1342 rfl rfl ?_
  refine r_iload_n (pc := 1343) S0 3 dL_law_1343 rfl rfl ?_
  refine r_iconst (pc := 1344) S0 dL_law_1344 ?_
  refine r_iadd (pc := 1345) S0 dL_law_1345 ?_
  refine r_sld (pc := 1346) (j := q + 1) S0 hsc hL (lsi q 1 (by omega) (by omega)) (by omega) dL_law_1346 ?_
  obtain ⟨e1, h1, hf⟩ := ok_bind hf
  refine r_cV_I (pc := 1347) [iv ((xs (q + 1)).toInt)] S0 hK hX mv_L_218 (k_X11_bribed h1) (c_X11_bribed l cA D N sx ad T A nx I wx ((xs (q + 1)).toInt) (cn_toInt _) e1 h1) rfl rfl ⟨by decide, by decide⟩ (Nat.le_of_ble_eq_true rfl) (show cells ≤ 600000 ∧ slots ≤ 7302250 by omega) dL_law_1347 (fun c1 => ?_)
  refine r_aload_n (pc := 1350) S0 2 dL_law_1350 rfl rfl ?_
  refine r_aload_n (pc := 1351) S0 0 dL_law_1351 rfl rfl ?_
  refine r_iload_n (pc := 1352) S0 3 dL_law_1352 rfl rfl ?_
  refine r_iconst (pc := 1353) S0 dL_law_1353 ?_
  refine r_iadd (pc := 1354) S0 dL_law_1354 ?_
  refine r_sld (pc := 1355) (j := q + 1) S0 hsc hL (lsi q 1 (by omega) (by omega)) (by omega) dL_law_1355 ?_
  obtain ⟨e2, h2, hf⟩ := ok_bind hf
  refine r_cV_I (pc := 1356) [iv ((xs (q + 1)).toInt)] S0 hK hX mv_L_221 (k_X12_bribed h2) (c_X12_bribed l cA D N sx ad T A nx I wm ((xs (q + 1)).toInt) (cn_toInt _) e2 h2) rfl rfl ⟨by decide, by decide⟩ (Nat.le_of_ble_eq_true rfl) (show cells ≤ 600000 ∧ slots ≤ 7302250 by omega) dL_law_1356 (fun c2 => ?_)
  refine r_icmp_eq (pc := 1359) (tgt := 1965) S0 dL_law_1359 (by decide) c1 c2 hf (fun hf => ?_) (fun hf => (ok_none hf).elim)
  have hz := ok_some hf
  have hz : (T, A, nx, e2.2) = S2 := hz
  subst hz
  exact kk ad cells slots (fun _ _ => rfl) (by omega) (by omega) (Nat.le_refl _) hrb
set_option maxHeartbeats 4000000 in
set_option maxRecDepth 100000 in
theorem lc_51 {p : Program} {l : Launch} {e0 : Env} {s : State} {m : MethodId} {args : Array Value} {below : List Frame} {meth : Method} {c : Code} {cells slots : Nat} {Q : State → Prop} {cA : Nat → ClassId} {D : va_G} {N : Nat} {ad : Nat → Nat} {T : Knd} {A : Rfs} {nx : Nat} {I : Mem} {sx : Sx} {b L wx wm q : Nat} {xs : Nat → Int32} (S0 : CallFix p m c code 4 s args gT RL) (hK : va_K D vwCl (tyl cA) s) (hX : XX sx N s) (hAX : AX s) (hsc : SC N b L xs s) (hL : L ≤ 3072) (hq : q + 6 ≤ L) (hrb : RB A nx) (hbx : 1 ≤ wx ∧ wx ≤ nx) (hbm : 1 ≤ wm ∧ wm ≤ nx) (hcl : cells + 21 ≤ 600000 ∧ slots + 191 ≤ 7302250) {S2 : St} (hstep : ls_51 wx wm (xs (q + 1)).toInt (xs (q + 2)).toInt (xs (q + 3)).toInt (xs (q + 4)).toInt (xs (q + 5)).toInt T A nx I = some S2) (kk : ∀ (ad1 : Nat → Nat) (c2 s2 : Nat), (∀ i, i ≤ nx → ad1 i = ad i) → c2 ≤ cells + 21 → s2 ≤ slots + 191 → nx ≤ S2.2.2.1 → RB S2.2.1 S2.2.2.1 → G p l e0 room_1 s m args below meth c c2 s2 Q cA D N 4 ad1 S2.1 S2.2.1 S2.2.2.1 1965 [(0, .ref b), (1, rv ad1 wx), (2, rv ad1 wm), (3, iv (q : Int))] [] S2.2.2.2) : G p l e0 room_1 s m args below meth c cells slots Q cA D N 4 ad T A nx 1364 [(0, .ref b), (1, rv ad wx), (2, rv ad wm), (3, iv (q : Int))] [] I := by
  have hf : OK (ls_51 wx wm (xs (q + 1)).toInt (xs (q + 2)).toInt (xs (q + 3)).toInt (xs (q + 4)).toInt (xs (q + 5)).toInt T A nx I) (fun z => z = S2) := ⟨S2, hstep, rfl⟩
  unfold ls_51 at hf
  refine r_aload_n (pc := 1364) S0 1 dL_law_1364 rfl rfl ?_
  refine r_aload_n (pc := 1365) S0 0 dL_law_1365 rfl rfl ?_
  refine r_iload_n (pc := 1366) S0 3 dL_law_1366 rfl rfl ?_
  refine r_iconst (pc := 1367) S0 dL_law_1367 ?_
  refine r_iadd (pc := 1368) S0 dL_law_1368 ?_
  refine r_sld (pc := 1369) (j := q + 1) S0 hsc hL (lsi q 1 (by omega) (by omega)) (by omega) dL_law_1369 ?_
  obtain ⟨e1, h1, hf⟩ := ok_bind hf
  refine r_cV_I (pc := 1370) [iv ((xs (q + 1)).toInt)] S0 hK hX mv_L_222 (k_X11_run h1) (c_X11_run l cA D N sx ad T A nx I wx ((xs (q + 1)).toInt) (cn_toInt _) e1 h1) rfl rfl ⟨by decide, by decide⟩ (Nat.le_of_ble_eq_true rfl) (show cells ≤ 600000 ∧ slots ≤ 7302250 by omega) dL_law_1370 (fun c1 => ?_)
  refine r_aload_n (pc := 1373) S0 2 dL_law_1373 rfl rfl ?_
  refine r_aload_n (pc := 1374) S0 0 dL_law_1374 rfl rfl ?_
  refine r_iload_n (pc := 1375) S0 3 dL_law_1375 rfl rfl ?_
  refine r_iconst (pc := 1376) S0 dL_law_1376 ?_
  refine r_iadd (pc := 1377) S0 dL_law_1377 ?_
  refine r_sld (pc := 1378) (j := q + 1) S0 hsc hL (lsi q 1 (by omega) (by omega)) (by omega) dL_law_1378 ?_
  obtain ⟨e2, h2, hf⟩ := ok_bind hf
  refine r_cV_I (pc := 1379) [iv ((xs (q + 1)).toInt)] S0 hK hX mv_L_225 (k_X12_run h2) (c_X12_run l cA D N sx ad T A nx e1.2 wm ((xs (q + 1)).toInt) (cn_toInt _) e2 h2) rfl rfl ⟨by decide, by decide⟩ (Nat.le_of_ble_eq_true rfl) (show cells ≤ 600000 ∧ slots ≤ 7302250 by omega) dL_law_1379 (fun c2 => ?_)
  refine r_icmp_eq (pc := 1382) (tgt := 1965) S0 dL_law_1382 (by decide) c1 c2 hf (fun hf => ?_) (fun hf => (ok_none hf).elim)
  have hz := ok_some hf
  have hz : (T, A, nx, e2.2) = S2 := hz
  subst hz
  exact kk ad cells slots (fun _ _ => rfl) (by omega) (by omega) (Nat.le_refl _) hrb
set_option maxHeartbeats 4000000 in
set_option maxRecDepth 100000 in
theorem lc_52 {p : Program} {l : Launch} {e0 : Env} {s : State} {m : MethodId} {args : Array Value} {below : List Frame} {meth : Method} {c : Code} {cells slots : Nat} {Q : State → Prop} {cA : Nat → ClassId} {D : va_G} {N : Nat} {ad : Nat → Nat} {T : Knd} {A : Rfs} {nx : Nat} {I : Mem} {sx : Sx} {b L wx wm q : Nat} {xs : Nat → Int32} (S0 : CallFix p m c code 4 s args gT RL) (hK : va_K D vwCl (tyl cA) s) (hX : XX sx N s) (hAX : AX s) (hsc : SC N b L xs s) (hL : L ≤ 3072) (hq : q + 6 ≤ L) (hrb : RB A nx) (hbx : 1 ≤ wx ∧ wx ≤ nx) (hbm : 1 ≤ wm ∧ wm ≤ nx) (hcl : cells + 21 ≤ 600000 ∧ slots + 191 ≤ 7302250) {S2 : St} (hstep : ls_52 wx wm (xs (q + 1)).toInt (xs (q + 2)).toInt (xs (q + 3)).toInt (xs (q + 4)).toInt (xs (q + 5)).toInt T A nx I = some S2) (kk : ∀ (ad1 : Nat → Nat) (c2 s2 : Nat), (∀ i, i ≤ nx → ad1 i = ad i) → c2 ≤ cells + 21 → s2 ≤ slots + 191 → nx ≤ S2.2.2.1 → RB S2.2.1 S2.2.2.1 → G p l e0 room_1 s m args below meth c c2 s2 Q cA D N 4 ad1 S2.1 S2.2.1 S2.2.2.1 1965 [(0, .ref b), (1, rv ad1 wx), (2, rv ad1 wm), (3, iv (q : Int))] [] S2.2.2.2) : G p l e0 room_1 s m args below meth c cells slots Q cA D N 4 ad T A nx 1387 [(0, .ref b), (1, rv ad wx), (2, rv ad wm), (3, iv (q : Int))] [] I := by
  have hf : OK (ls_52 wx wm (xs (q + 1)).toInt (xs (q + 2)).toInt (xs (q + 3)).toInt (xs (q + 4)).toInt (xs (q + 5)).toInt T A nx I) (fun z => z = S2) := ⟨S2, hstep, rfl⟩
  unfold ls_52 at hf
  refine r_aload_n (pc := 1387) S0 1 dL_law_1387 rfl rfl ?_
  refine r_aload_n (pc := 1388) S0 0 dL_law_1388 rfl rfl ?_
  refine r_iload_n (pc := 1389) S0 3 dL_law_1389 rfl rfl ?_
  refine r_iconst (pc := 1390) S0 dL_law_1390 ?_
  refine r_iadd (pc := 1391) S0 dL_law_1391 ?_
  refine r_sld (pc := 1392) (j := q + 1) S0 hsc hL (lsi q 1 (by omega) (by omega)) (by omega) dL_law_1392 ?_
  refine r_aload_n (pc := 1393) S0 0 dL_law_1393 rfl rfl ?_
  refine r_iload_n (pc := 1394) S0 3 dL_law_1394 rfl rfl ?_
  refine r_iconst (pc := 1395) S0 dL_law_1395 ?_
  refine r_iadd (pc := 1396) S0 dL_law_1396 ?_
  refine r_sld (pc := 1397) (j := q + 2) S0 hsc hL (lsi q 2 (by omega) (by omega)) (by omega) dL_law_1397 ?_
  obtain ⟨e1, h1, hf⟩ := ok_bind hf
  refine r_cV_I (pc := 1398) [iv ((xs (q + 1)).toInt), iv ((xs (q + 2)).toInt)] S0 hK hX mv_L_226 (k_X11_queue h1) (c_X11_queue l cA D N sx ad T A nx I wx ((xs (q + 1)).toInt) ((xs (q + 2)).toInt) (cn_toInt _) (cn_toInt _) e1 h1) rfl rfl ⟨by decide, by decide⟩ (Nat.le_of_ble_eq_true rfl) (show cells ≤ 600000 ∧ slots ≤ 7302250 by omega) dL_law_1398 (fun c1 => ?_)
  refine r_aload_n (pc := 1401) S0 2 dL_law_1401 rfl rfl ?_
  refine r_aload_n (pc := 1402) S0 0 dL_law_1402 rfl rfl ?_
  refine r_iload_n (pc := 1403) S0 3 dL_law_1403 rfl rfl ?_
  refine r_iconst (pc := 1404) S0 dL_law_1404 ?_
  refine r_iadd (pc := 1405) S0 dL_law_1405 ?_
  refine r_sld (pc := 1406) (j := q + 1) S0 hsc hL (lsi q 1 (by omega) (by omega)) (by omega) dL_law_1406 ?_
  refine r_aload_n (pc := 1407) S0 0 dL_law_1407 rfl rfl ?_
  refine r_iload_n (pc := 1408) S0 3 dL_law_1408 rfl rfl ?_
  refine r_iconst (pc := 1409) S0 dL_law_1409 ?_
  refine r_iadd (pc := 1410) S0 dL_law_1410 ?_
  refine r_sld (pc := 1411) (j := q + 2) S0 hsc hL (lsi q 2 (by omega) (by omega)) (by omega) dL_law_1411 ?_
  obtain ⟨e2, h2, hf⟩ := ok_bind hf
  refine r_cV_I (pc := 1412) [iv ((xs (q + 1)).toInt), iv ((xs (q + 2)).toInt)] S0 hK hX mv_L_229 (k_X12_queue h2) (c_X12_queue l cA D N sx ad T A nx e1.2 wm ((xs (q + 1)).toInt) ((xs (q + 2)).toInt) (cn_toInt _) (cn_toInt _) e2 h2) rfl rfl ⟨by decide, by decide⟩ (Nat.le_of_ble_eq_true rfl) (show cells ≤ 600000 ∧ slots ≤ 7302250 by omega) dL_law_1412 (fun c2 => ?_)
  refine r_icmp_eq (pc := 1415) (tgt := 1965) S0 dL_law_1415 (by decide) c1 c2 hf (fun hf => ?_) (fun hf => (ok_none hf).elim)
  have hz := ok_some hf
  have hz : (T, A, nx, e2.2) = S2 := hz
  subst hz
  exact kk ad cells slots (fun _ _ => rfl) (by omega) (by omega) (Nat.le_refl _) hrb
set_option maxHeartbeats 4000000 in
set_option maxRecDepth 100000 in
theorem lc_53 {p : Program} {l : Launch} {e0 : Env} {s : State} {m : MethodId} {args : Array Value} {below : List Frame} {meth : Method} {c : Code} {cells slots : Nat} {Q : State → Prop} {cA : Nat → ClassId} {D : va_G} {N : Nat} {ad : Nat → Nat} {T : Knd} {A : Rfs} {nx : Nat} {I : Mem} {sx : Sx} {b L wx wm q : Nat} {xs : Nat → Int32} (S0 : CallFix p m c code 4 s args gT RL) (hK : va_K D vwCl (tyl cA) s) (hX : XX sx N s) (hAX : AX s) (hsc : SC N b L xs s) (hL : L ≤ 3072) (hq : q + 6 ≤ L) (hrb : RB A nx) (hbx : 1 ≤ wx ∧ wx ≤ nx) (hbm : 1 ≤ wm ∧ wm ≤ nx) (hcl : cells + 21 ≤ 600000 ∧ slots + 191 ≤ 7302250) {S2 : St} (hstep : ls_53 wx wm (xs (q + 1)).toInt (xs (q + 2)).toInt (xs (q + 3)).toInt (xs (q + 4)).toInt (xs (q + 5)).toInt T A nx I = some S2) (kk : ∀ (ad1 : Nat → Nat) (c2 s2 : Nat), (∀ i, i ≤ nx → ad1 i = ad i) → c2 ≤ cells + 21 → s2 ≤ slots + 191 → nx ≤ S2.2.2.1 → RB S2.2.1 S2.2.2.1 → G p l e0 room_1 s m args below meth c c2 s2 Q cA D N 4 ad1 S2.1 S2.2.1 S2.2.2.1 1965 [(0, .ref b), (1, rv ad1 wx), (2, rv ad1 wm), (3, iv (q : Int))] [] S2.2.2.2) : G p l e0 room_1 s m args below meth c cells slots Q cA D N 4 ad T A nx 1420 [(0, .ref b), (1, rv ad wx), (2, rv ad wm), (3, iv (q : Int))] [] I := by
  have hf : OK (ls_53 wx wm (xs (q + 1)).toInt (xs (q + 2)).toInt (xs (q + 3)).toInt (xs (q + 4)).toInt (xs (q + 5)).toInt T A nx I) (fun z => z = S2) := ⟨S2, hstep, rfl⟩
  unfold ls_53 at hf
  refine r_aload_n (pc := 1420) S0 1 dL_law_1420 rfl rfl ?_
  refine r_aload_n (pc := 1421) S0 0 dL_law_1421 rfl rfl ?_
  refine r_iload_n (pc := 1422) S0 3 dL_law_1422 rfl rfl ?_
  refine r_iconst (pc := 1423) S0 dL_law_1423 ?_
  refine r_iadd (pc := 1424) S0 dL_law_1424 ?_
  refine r_sld (pc := 1425) (j := q + 1) S0 hsc hL (lsi q 1 (by omega) (by omega)) (by omega) dL_law_1425 ?_
  refine r_aload_n (pc := 1426) S0 0 dL_law_1426 rfl rfl ?_
  refine r_iload_n (pc := 1427) S0 3 dL_law_1427 rfl rfl ?_
  refine r_iconst (pc := 1428) S0 dL_law_1428 ?_
  refine r_iadd (pc := 1429) S0 dL_law_1429 ?_
  refine r_sld (pc := 1430) (j := q + 2) S0 hsc hL (lsi q 2 (by omega) (by omega)) (by omega) dL_law_1430 ?_
  obtain ⟨e1, h1, hf⟩ := ok_bind hf
  refine r_cV_I (pc := 1431) [iv ((xs (q + 1)).toInt), iv ((xs (q + 2)).toInt)] S0 hK hX mv_L_230 (k_X11_served h1) (c_X11_served l cA D N sx ad T A nx I wx ((xs (q + 1)).toInt) ((xs (q + 2)).toInt) (cn_toInt _) (cn_toInt _) e1 h1) rfl rfl ⟨by decide, by decide⟩ (Nat.le_of_ble_eq_true rfl) (show cells ≤ 600000 ∧ slots ≤ 7302250 by omega) dL_law_1431 (fun c1 => ?_)
  refine r_aload_n (pc := 1434) S0 2 dL_law_1434 rfl rfl ?_
  refine r_aload_n (pc := 1435) S0 0 dL_law_1435 rfl rfl ?_
  refine r_iload_n (pc := 1436) S0 3 dL_law_1436 rfl rfl ?_
  refine r_iconst (pc := 1437) S0 dL_law_1437 ?_
  refine r_iadd (pc := 1438) S0 dL_law_1438 ?_
  refine r_sld (pc := 1439) (j := q + 1) S0 hsc hL (lsi q 1 (by omega) (by omega)) (by omega) dL_law_1439 ?_
  refine r_aload_n (pc := 1440) S0 0 dL_law_1440 rfl rfl ?_
  refine r_iload_n (pc := 1441) S0 3 dL_law_1441 rfl rfl ?_
  refine r_iconst (pc := 1442) S0 dL_law_1442 ?_
  refine r_iadd (pc := 1443) S0 dL_law_1443 ?_
  refine r_sld (pc := 1444) (j := q + 2) S0 hsc hL (lsi q 2 (by omega) (by omega)) (by omega) dL_law_1444 ?_
  obtain ⟨e2, h2, hf⟩ := ok_bind hf
  refine r_cV_I (pc := 1445) [iv ((xs (q + 1)).toInt), iv ((xs (q + 2)).toInt)] S0 hK hX mv_L_233 (k_X12_served h2) (c_X12_served l cA D N sx ad T A nx e1.2 wm ((xs (q + 1)).toInt) ((xs (q + 2)).toInt) (cn_toInt _) (cn_toInt _) e2 h2) rfl rfl ⟨by decide, by decide⟩ (Nat.le_of_ble_eq_true rfl) (show cells ≤ 600000 ∧ slots ≤ 7302250 by omega) dL_law_1445 (fun c2 => ?_)
  refine r_icmp_eq (pc := 1448) (tgt := 1965) S0 dL_law_1448 (by decide) c1 c2 hf (fun hf => ?_) (fun hf => (ok_none hf).elim)
  have hz := ok_some hf
  have hz : (T, A, nx, e2.2) = S2 := hz
  subst hz
  exact kk ad cells slots (fun _ _ => rfl) (by omega) (by omega) (Nat.le_refl _) hrb
set_option maxHeartbeats 4000000 in
set_option maxRecDepth 100000 in
theorem lc_54 {p : Program} {l : Launch} {e0 : Env} {s : State} {m : MethodId} {args : Array Value} {below : List Frame} {meth : Method} {c : Code} {cells slots : Nat} {Q : State → Prop} {cA : Nat → ClassId} {D : va_G} {N : Nat} {ad : Nat → Nat} {T : Knd} {A : Rfs} {nx : Nat} {I : Mem} {sx : Sx} {b L wx wm q : Nat} {xs : Nat → Int32} (S0 : CallFix p m c code 4 s args gT RL) (hK : va_K D vwCl (tyl cA) s) (hX : XX sx N s) (hAX : AX s) (hsc : SC N b L xs s) (hL : L ≤ 3072) (hq : q + 6 ≤ L) (hrb : RB A nx) (hbx : 1 ≤ wx ∧ wx ≤ nx) (hbm : 1 ≤ wm ∧ wm ≤ nx) (hcl : cells + 21 ≤ 600000 ∧ slots + 191 ≤ 7302250) {S2 : St} (hstep : ls_54 wx wm (xs (q + 1)).toInt (xs (q + 2)).toInt (xs (q + 3)).toInt (xs (q + 4)).toInt (xs (q + 5)).toInt T A nx I = some S2) (kk : ∀ (ad1 : Nat → Nat) (c2 s2 : Nat), (∀ i, i ≤ nx → ad1 i = ad i) → c2 ≤ cells + 21 → s2 ≤ slots + 191 → nx ≤ S2.2.2.1 → RB S2.2.1 S2.2.2.1 → G p l e0 room_1 s m args below meth c c2 s2 Q cA D N 4 ad1 S2.1 S2.2.1 S2.2.2.1 1965 [(0, .ref b), (1, rv ad1 wx), (2, rv ad1 wm), (3, iv (q : Int))] [] S2.2.2.2) : G p l e0 room_1 s m args below meth c cells slots Q cA D N 4 ad T A nx 1453 [(0, .ref b), (1, rv ad wx), (2, rv ad wm), (3, iv (q : Int))] [] I := by
  have hf : OK (ls_54 wx wm (xs (q + 1)).toInt (xs (q + 2)).toInt (xs (q + 3)).toInt (xs (q + 4)).toInt (xs (q + 5)).toInt T A nx I) (fun z => z = S2) := ⟨S2, hstep, rfl⟩
  unfold ls_54 at hf
  refine r_aload_n (pc := 1453) S0 1 dL_law_1453 rfl rfl ?_
  refine r_aload_n (pc := 1454) S0 0 dL_law_1454 rfl rfl ?_
  refine r_iload_n (pc := 1455) S0 3 dL_law_1455 rfl rfl ?_
  refine r_iconst (pc := 1456) S0 dL_law_1456 ?_
  refine r_iadd (pc := 1457) S0 dL_law_1457 ?_
  refine r_sld (pc := 1458) (j := q + 1) S0 hsc hL (lsi q 1 (by omega) (by omega)) (by omega) dL_law_1458 ?_
  obtain ⟨e1, h1, hf⟩ := ok_bind hf
  refine r_cV_I (pc := 1459) [iv ((xs (q + 1)).toInt)] S0 hK hX mv_L_234 (k_X11_chair h1) (c_X11_chair l cA D N sx ad T A nx I wx ((xs (q + 1)).toInt) (cn_toInt _) e1 h1) rfl rfl ⟨by decide, by decide⟩ (Nat.le_of_ble_eq_true rfl) (show cells ≤ 600000 ∧ slots ≤ 7302250 by omega) dL_law_1459 (fun c1 => ?_)
  refine r_aload_n (pc := 1462) S0 2 dL_law_1462 rfl rfl ?_
  refine r_aload_n (pc := 1463) S0 0 dL_law_1463 rfl rfl ?_
  refine r_iload_n (pc := 1464) S0 3 dL_law_1464 rfl rfl ?_
  refine r_iconst (pc := 1465) S0 dL_law_1465 ?_
  refine r_iadd (pc := 1466) S0 dL_law_1466 ?_
  refine r_sld (pc := 1467) (j := q + 1) S0 hsc hL (lsi q 1 (by omega) (by omega)) (by omega) dL_law_1467 ?_
  obtain ⟨e2, h2, hf⟩ := ok_bind hf
  refine r_cV_I (pc := 1468) [iv ((xs (q + 1)).toInt)] S0 hK hX mv_L_237 (k_X12_chair h2) (c_X12_chair l cA D N sx ad T A nx e1.2 wm ((xs (q + 1)).toInt) (cn_toInt _) e2 h2) rfl rfl ⟨by decide, by decide⟩ (Nat.le_of_ble_eq_true rfl) (show cells ≤ 600000 ∧ slots ≤ 7302250 by omega) dL_law_1468 (fun c2 => ?_)
  refine r_icmp_eq (pc := 1471) (tgt := 1965) S0 dL_law_1471 (by decide) c1 c2 hf (fun hf => ?_) (fun hf => (ok_none hf).elim)
  have hz := ok_some hf
  have hz : (T, A, nx, e2.2) = S2 := hz
  subst hz
  exact kk ad cells slots (fun _ _ => rfl) (by omega) (by omega) (Nat.le_refl _) hrb
set_option maxHeartbeats 4000000 in
set_option maxRecDepth 100000 in
theorem lc_55 {p : Program} {l : Launch} {e0 : Env} {s : State} {m : MethodId} {args : Array Value} {below : List Frame} {meth : Method} {c : Code} {cells slots : Nat} {Q : State → Prop} {cA : Nat → ClassId} {D : va_G} {N : Nat} {ad : Nat → Nat} {T : Knd} {A : Rfs} {nx : Nat} {I : Mem} {sx : Sx} {b L wx wm q : Nat} {xs : Nat → Int32} (S0 : CallFix p m c code 4 s args gT RL) (hK : va_K D vwCl (tyl cA) s) (hX : XX sx N s) (hAX : AX s) (hsc : SC N b L xs s) (hL : L ≤ 3072) (hq : q + 6 ≤ L) (hrb : RB A nx) (hbx : 1 ≤ wx ∧ wx ≤ nx) (hbm : 1 ≤ wm ∧ wm ≤ nx) (hcl : cells + 21 ≤ 600000 ∧ slots + 191 ≤ 7302250) {S2 : St} (hstep : ls_55 wx wm (xs (q + 1)).toInt (xs (q + 2)).toInt (xs (q + 3)).toInt (xs (q + 4)).toInt (xs (q + 5)).toInt T A nx I = some S2) (kk : ∀ (ad1 : Nat → Nat) (c2 s2 : Nat), (∀ i, i ≤ nx → ad1 i = ad i) → c2 ≤ cells + 21 → s2 ≤ slots + 191 → nx ≤ S2.2.2.1 → RB S2.2.1 S2.2.2.1 → G p l e0 room_1 s m args below meth c c2 s2 Q cA D N 4 ad1 S2.1 S2.2.1 S2.2.2.1 1965 [(0, .ref b), (1, rv ad1 wx), (2, rv ad1 wm), (3, iv (q : Int))] [] S2.2.2.2) : G p l e0 room_1 s m args below meth c cells slots Q cA D N 4 ad T A nx 1476 [(0, .ref b), (1, rv ad wx), (2, rv ad wm), (3, iv (q : Int))] [] I := by
  have hf : OK (ls_55 wx wm (xs (q + 1)).toInt (xs (q + 2)).toInt (xs (q + 3)).toInt (xs (q + 4)).toInt (xs (q + 5)).toInt T A nx I) (fun z => z = S2) := ⟨S2, hstep, rfl⟩
  unfold ls_55 at hf
  refine r_aload_n (pc := 1476) S0 1 dL_law_1476 rfl rfl ?_
  refine r_aload_n (pc := 1477) S0 0 dL_law_1477 rfl rfl ?_
  refine r_iload_n (pc := 1478) S0 3 dL_law_1478 rfl rfl ?_
  refine r_iconst (pc := 1479) S0 dL_law_1479 ?_
  refine r_iadd (pc := 1480) S0 dL_law_1480 ?_
  refine r_sld (pc := 1481) (j := q + 1) S0 hsc hL (lsi q 1 (by omega) (by omega)) (by omega) dL_law_1481 ?_
  obtain ⟨e1, h1, hf⟩ := ok_bind hf
  refine r_cV_I (pc := 1482) [iv ((xs (q + 1)).toInt)] S0 hK hX mv_L_238 (k_X11_blind h1) (c_X11_blind l cA D N sx ad T A nx I wx ((xs (q + 1)).toInt) (cn_toInt _) e1 h1) rfl rfl ⟨by decide, by decide⟩ (Nat.le_of_ble_eq_true rfl) (show cells ≤ 600000 ∧ slots ≤ 7302250 by omega) dL_law_1482 (fun c1 => ?_)
  refine r_aload_n (pc := 1485) S0 2 dL_law_1485 rfl rfl ?_
  refine r_aload_n (pc := 1486) S0 0 dL_law_1486 rfl rfl ?_
  refine r_iload_n (pc := 1487) S0 3 dL_law_1487 rfl rfl ?_
  refine r_iconst (pc := 1488) S0 dL_law_1488 ?_
  refine r_iadd (pc := 1489) S0 dL_law_1489 ?_
  refine r_sld (pc := 1490) (j := q + 1) S0 hsc hL (lsi q 1 (by omega) (by omega)) (by omega) dL_law_1490 ?_
  obtain ⟨e2, h2, hf⟩ := ok_bind hf
  refine r_cV_I (pc := 1491) [iv ((xs (q + 1)).toInt)] S0 hK hX mv_L_241 (k_X12_blind h2) (c_X12_blind l cA D N sx ad T A nx e1.2 wm ((xs (q + 1)).toInt) (cn_toInt _) e2 h2) rfl rfl ⟨by decide, by decide⟩ (Nat.le_of_ble_eq_true rfl) (show cells ≤ 600000 ∧ slots ≤ 7302250 by omega) dL_law_1491 (fun c2 => ?_)
  refine r_icmp_eq (pc := 1494) (tgt := 1965) S0 dL_law_1494 (by decide) c1 c2 hf (fun hf => ?_) (fun hf => (ok_none hf).elim)
  have hz := ok_some hf
  have hz : (T, A, nx, e2.2) = S2 := hz
  subst hz
  exact kk ad cells slots (fun _ _ => rfl) (by omega) (by omega) (Nat.le_refl _) hrb
set_option maxHeartbeats 4000000 in
set_option maxRecDepth 100000 in
theorem lc_56 {p : Program} {l : Launch} {e0 : Env} {s : State} {m : MethodId} {args : Array Value} {below : List Frame} {meth : Method} {c : Code} {cells slots : Nat} {Q : State → Prop} {cA : Nat → ClassId} {D : va_G} {N : Nat} {ad : Nat → Nat} {T : Knd} {A : Rfs} {nx : Nat} {I : Mem} {sx : Sx} {b L wx wm q : Nat} {xs : Nat → Int32} (S0 : CallFix p m c code 4 s args gT RL) (hK : va_K D vwCl (tyl cA) s) (hX : XX sx N s) (hAX : AX s) (hsc : SC N b L xs s) (hL : L ≤ 3072) (hq : q + 6 ≤ L) (hrb : RB A nx) (hbx : 1 ≤ wx ∧ wx ≤ nx) (hbm : 1 ≤ wm ∧ wm ≤ nx) (hcl : cells + 21 ≤ 600000 ∧ slots + 191 ≤ 7302250) {S2 : St} (hstep : ls_56 wx wm (xs (q + 1)).toInt (xs (q + 2)).toInt (xs (q + 3)).toInt (xs (q + 4)).toInt (xs (q + 5)).toInt T A nx I = some S2) (kk : ∀ (ad1 : Nat → Nat) (c2 s2 : Nat), (∀ i, i ≤ nx → ad1 i = ad i) → c2 ≤ cells + 21 → s2 ≤ slots + 191 → nx ≤ S2.2.2.1 → RB S2.2.1 S2.2.2.1 → G p l e0 room_1 s m args below meth c c2 s2 Q cA D N 4 ad1 S2.1 S2.2.1 S2.2.2.1 1965 [(0, .ref b), (1, rv ad1 wx), (2, rv ad1 wm), (3, iv (q : Int))] [] S2.2.2.2) : G p l e0 room_1 s m args below meth c cells slots Q cA D N 4 ad T A nx 1499 [(0, .ref b), (1, rv ad wx), (2, rv ad wm), (3, iv (q : Int))] [] I := by
  have hf : OK (ls_56 wx wm (xs (q + 1)).toInt (xs (q + 2)).toInt (xs (q + 3)).toInt (xs (q + 4)).toInt (xs (q + 5)).toInt T A nx I) (fun z => z = S2) := ⟨S2, hstep, rfl⟩
  unfold ls_56 at hf
  refine r_aload_n (pc := 1499) S0 1 dL_law_1499 rfl rfl ?_
  refine r_aload_n (pc := 1500) S0 0 dL_law_1500 rfl rfl ?_
  refine r_iload_n (pc := 1501) S0 3 dL_law_1501 rfl rfl ?_
  refine r_iconst (pc := 1502) S0 dL_law_1502 ?_
  refine r_iadd (pc := 1503) S0 dL_law_1503 ?_
  refine r_sld (pc := 1504) (j := q + 1) S0 hsc hL (lsi q 1 (by omega) (by omega)) (by omega) dL_law_1504 ?_
  obtain ⟨e1, h1, hf⟩ := ok_bind hf
  refine r_cV_I (pc := 1505) [iv ((xs (q + 1)).toInt)] S0 hK hX mv_L_242 (k_X11_tries h1) (c_X11_tries l cA D N sx ad T A nx I wx ((xs (q + 1)).toInt) (cn_toInt _) e1 h1) rfl rfl ⟨by decide, by decide⟩ (Nat.le_of_ble_eq_true rfl) (show cells ≤ 600000 ∧ slots ≤ 7302250 by omega) dL_law_1505 (fun c1 => ?_)
  refine r_aload_n (pc := 1508) S0 2 dL_law_1508 rfl rfl ?_
  refine r_aload_n (pc := 1509) S0 0 dL_law_1509 rfl rfl ?_
  refine r_iload_n (pc := 1510) S0 3 dL_law_1510 rfl rfl ?_
  refine r_iconst (pc := 1511) S0 dL_law_1511 ?_
  refine r_iadd (pc := 1512) S0 dL_law_1512 ?_
  refine r_sld (pc := 1513) (j := q + 1) S0 hsc hL (lsi q 1 (by omega) (by omega)) (by omega) dL_law_1513 ?_
  obtain ⟨e2, h2, hf⟩ := ok_bind hf
  refine r_cV_I (pc := 1514) [iv ((xs (q + 1)).toInt)] S0 hK hX mv_L_245 (k_X12_tries h2) (c_X12_tries l cA D N sx ad T A nx e1.2 wm ((xs (q + 1)).toInt) (cn_toInt _) e2 h2) rfl rfl ⟨by decide, by decide⟩ (Nat.le_of_ble_eq_true rfl) (show cells ≤ 600000 ∧ slots ≤ 7302250 by omega) dL_law_1514 (fun c2 => ?_)
  refine r_icmp_eq (pc := 1517) (tgt := 1965) S0 dL_law_1517 (by decide) c1 c2 hf (fun hf => ?_) (fun hf => (ok_none hf).elim)
  have hz := ok_some hf
  have hz : (T, A, nx, e2.2) = S2 := hz
  subst hz
  exact kk ad cells slots (fun _ _ => rfl) (by omega) (by omega) (Nat.le_refl _) hrb
set_option maxHeartbeats 4000000 in
set_option maxRecDepth 100000 in
theorem lc_57 {p : Program} {l : Launch} {e0 : Env} {s : State} {m : MethodId} {args : Array Value} {below : List Frame} {meth : Method} {c : Code} {cells slots : Nat} {Q : State → Prop} {cA : Nat → ClassId} {D : va_G} {N : Nat} {ad : Nat → Nat} {T : Knd} {A : Rfs} {nx : Nat} {I : Mem} {sx : Sx} {b L wx wm q : Nat} {xs : Nat → Int32} (S0 : CallFix p m c code 4 s args gT RL) (hK : va_K D vwCl (tyl cA) s) (hX : XX sx N s) (hAX : AX s) (hsc : SC N b L xs s) (hL : L ≤ 3072) (hq : q + 6 ≤ L) (hrb : RB A nx) (hbx : 1 ≤ wx ∧ wx ≤ nx) (hbm : 1 ≤ wm ∧ wm ≤ nx) (hcl : cells + 21 ≤ 600000 ∧ slots + 191 ≤ 7302250) {S2 : St} (hstep : ls_57 wx wm (xs (q + 1)).toInt (xs (q + 2)).toInt (xs (q + 3)).toInt (xs (q + 4)).toInt (xs (q + 5)).toInt T A nx I = some S2) (kk : ∀ (ad1 : Nat → Nat) (c2 s2 : Nat), (∀ i, i ≤ nx → ad1 i = ad i) → c2 ≤ cells + 21 → s2 ≤ slots + 191 → nx ≤ S2.2.2.1 → RB S2.2.1 S2.2.2.1 → G p l e0 room_1 s m args below meth c c2 s2 Q cA D N 4 ad1 S2.1 S2.2.1 S2.2.2.1 1965 [(0, .ref b), (1, rv ad1 wx), (2, rv ad1 wm), (3, iv (q : Int))] [] S2.2.2.2) : G p l e0 room_1 s m args below meth c cells slots Q cA D N 4 ad T A nx 1522 [(0, .ref b), (1, rv ad wx), (2, rv ad wm), (3, iv (q : Int))] [] I := by
  have hf : OK (ls_57 wx wm (xs (q + 1)).toInt (xs (q + 2)).toInt (xs (q + 3)).toInt (xs (q + 4)).toInt (xs (q + 5)).toInt T A nx I) (fun z => z = S2) := ⟨S2, hstep, rfl⟩
  unfold ls_57 at hf
  refine r_aload_n (pc := 1522) S0 1 dL_law_1522 rfl rfl ?_
  refine r_aload_n (pc := 1523) S0 0 dL_law_1523 rfl rfl ?_
  refine r_iload_n (pc := 1524) S0 3 dL_law_1524 rfl rfl ?_
  refine r_iconst (pc := 1525) S0 dL_law_1525 ?_
  refine r_iadd (pc := 1526) S0 dL_law_1526 ?_
  refine r_sld (pc := 1527) (j := q + 1) S0 hsc hL (lsi q 1 (by omega) (by omega)) (by omega) dL_law_1527 ?_
  refine r_aload_n (pc := 1528) S0 0 dL_law_1528 rfl rfl ?_
  refine r_iload_n (pc := 1529) S0 3 dL_law_1529 rfl rfl ?_
  refine r_iconst (pc := 1530) S0 dL_law_1530 ?_
  refine r_iadd (pc := 1531) S0 dL_law_1531 ?_
  refine r_sld (pc := 1532) (j := q + 2) S0 hsc hL (lsi q 2 (by omega) (by omega)) (by omega) dL_law_1532 ?_
  obtain ⟨e1, h1, hf⟩ := ok_bind hf
  refine r_cV_I (pc := 1533) [iv ((xs (q + 1)).toInt), iv ((xs (q + 2)).toInt)] S0 hK hX mv_L_246 (k_X11_luck h1) (c_X11_luck l cA D N sx ad T A nx I wx ((xs (q + 1)).toInt) ((xs (q + 2)).toInt) (cn_toInt _) (cn_toInt _) e1 h1) rfl rfl ⟨by decide, by decide⟩ (Nat.le_of_ble_eq_true rfl) (show cells ≤ 600000 ∧ slots ≤ 7302250 by omega) dL_law_1533 (fun c1 => ?_)
  refine r_aload_n (pc := 1536) S0 2 dL_law_1536 rfl rfl ?_
  refine r_aload_n (pc := 1537) S0 0 dL_law_1537 rfl rfl ?_
  refine r_iload_n (pc := 1538) S0 3 dL_law_1538 rfl rfl ?_
  refine r_iconst (pc := 1539) S0 dL_law_1539 ?_
  refine r_iadd (pc := 1540) S0 dL_law_1540 ?_
  refine r_sld (pc := 1541) (j := q + 1) S0 hsc hL (lsi q 1 (by omega) (by omega)) (by omega) dL_law_1541 ?_
  refine r_aload_n (pc := 1542) S0 0 dL_law_1542 rfl rfl ?_
  refine r_iload_n (pc := 1543) S0 3 dL_law_1543 rfl rfl ?_
  refine r_iconst (pc := 1544) S0 dL_law_1544 ?_
  refine r_iadd (pc := 1545) S0 dL_law_1545 ?_
  refine r_sld (pc := 1546) (j := q + 2) S0 hsc hL (lsi q 2 (by omega) (by omega)) (by omega) dL_law_1546 ?_
  obtain ⟨e2, h2, hf⟩ := ok_bind hf
  refine r_cV_I (pc := 1547) [iv ((xs (q + 1)).toInt), iv ((xs (q + 2)).toInt)] S0 hK hX mv_L_249 (k_X12_luck h2) (c_X12_luck l cA D N sx ad T A nx e1.2 wm ((xs (q + 1)).toInt) ((xs (q + 2)).toInt) (cn_toInt _) (cn_toInt _) e2 h2) rfl rfl ⟨by decide, by decide⟩ (Nat.le_of_ble_eq_true rfl) (show cells ≤ 600000 ∧ slots ≤ 7302250 by omega) dL_law_1547 (fun c2 => ?_)
  refine r_icmp_eq (pc := 1550) (tgt := 1965) S0 dL_law_1550 (by decide) c1 c2 hf (fun hf => ?_) (fun hf => (ok_none hf).elim)
  have hz := ok_some hf
  have hz : (T, A, nx, e2.2) = S2 := hz
  subst hz
  exact kk ad cells slots (fun _ _ => rfl) (by omega) (by omega) (Nat.le_refl _) hrb
set_option maxHeartbeats 4000000 in
set_option maxRecDepth 100000 in
theorem lc_58 {p : Program} {l : Launch} {e0 : Env} {s : State} {m : MethodId} {args : Array Value} {below : List Frame} {meth : Method} {c : Code} {cells slots : Nat} {Q : State → Prop} {cA : Nat → ClassId} {D : va_G} {N : Nat} {ad : Nat → Nat} {T : Knd} {A : Rfs} {nx : Nat} {I : Mem} {sx : Sx} {b L wx wm q : Nat} {xs : Nat → Int32} (S0 : CallFix p m c code 4 s args gT RL) (hK : va_K D vwCl (tyl cA) s) (hX : XX sx N s) (hAX : AX s) (hsc : SC N b L xs s) (hL : L ≤ 3072) (hq : q + 6 ≤ L) (hrb : RB A nx) (hbx : 1 ≤ wx ∧ wx ≤ nx) (hbm : 1 ≤ wm ∧ wm ≤ nx) (hcl : cells + 21 ≤ 600000 ∧ slots + 191 ≤ 7302250) {S2 : St} (hstep : ls_58 wx wm (xs (q + 1)).toInt (xs (q + 2)).toInt (xs (q + 3)).toInt (xs (q + 4)).toInt (xs (q + 5)).toInt T A nx I = some S2) (kk : ∀ (ad1 : Nat → Nat) (c2 s2 : Nat), (∀ i, i ≤ nx → ad1 i = ad i) → c2 ≤ cells + 21 → s2 ≤ slots + 191 → nx ≤ S2.2.2.1 → RB S2.2.1 S2.2.2.1 → G p l e0 room_1 s m args below meth c c2 s2 Q cA D N 4 ad1 S2.1 S2.2.1 S2.2.2.1 1965 [(0, .ref b), (1, rv ad1 wx), (2, rv ad1 wm), (3, iv (q : Int))] [] S2.2.2.2) : G p l e0 room_1 s m args below meth c cells slots Q cA D N 4 ad T A nx 1555 [(0, .ref b), (1, rv ad wx), (2, rv ad wm), (3, iv (q : Int))] [] I := by
  have hf : OK (ls_58 wx wm (xs (q + 1)).toInt (xs (q + 2)).toInt (xs (q + 3)).toInt (xs (q + 4)).toInt (xs (q + 5)).toInt T A nx I) (fun z => z = S2) := ⟨S2, hstep, rfl⟩
  unfold ls_58 at hf
  refine r_aload_n (pc := 1555) S0 1 dL_law_1555 rfl rfl ?_
  refine r_aload_n (pc := 1556) S0 0 dL_law_1556 rfl rfl ?_
  refine r_iload_n (pc := 1557) S0 3 dL_law_1557 rfl rfl ?_
  refine r_iconst (pc := 1558) S0 dL_law_1558 ?_
  refine r_iadd (pc := 1559) S0 dL_law_1559 ?_
  refine r_sld (pc := 1560) (j := q + 1) S0 hsc hL (lsi q 1 (by omega) (by omega)) (by omega) dL_law_1560 ?_
  refine r_aload_n (pc := 1561) S0 0 dL_law_1561 rfl rfl ?_
  refine r_iload_n (pc := 1562) S0 3 dL_law_1562 rfl rfl ?_
  refine r_iconst (pc := 1563) S0 dL_law_1563 ?_
  refine r_iadd (pc := 1564) S0 dL_law_1564 ?_
  refine r_sld (pc := 1565) (j := q + 2) S0 hsc hL (lsi q 2 (by omega) (by omega)) (by omega) dL_law_1565 ?_
  refine r_aload_n (pc := 1566) S0 0 dL_law_1566 rfl rfl ?_
  refine r_iload_n (pc := 1567) S0 3 dL_law_1567 rfl rfl ?_
  refine r_iconst (pc := 1568) S0 dL_law_1568 ?_
  refine r_iadd (pc := 1569) S0 dL_law_1569 ?_
  refine r_sld (pc := 1570) (j := q + 3) S0 hsc hL (lsi q 3 (by omega) (by omega)) (by omega) dL_law_1570 ?_
  obtain ⟨e1, h1, hf⟩ := ok_bind hf
  refine r_cV_I (pc := 1571) [iv ((xs (q + 1)).toInt), iv ((xs (q + 2)).toInt), iv ((xs (q + 3)).toInt)] S0 hK hX mv_L_250 (k_X11_worth h1) (c_X11_worth l cA D N sx ad T A nx I wx ((xs (q + 1)).toInt) ((xs (q + 2)).toInt) ((xs (q + 3)).toInt) (cn_toInt _) (cn_toInt _) (cn_toInt _) e1 h1) rfl rfl ⟨by decide, by decide⟩ (Nat.le_of_ble_eq_true rfl) (show cells ≤ 600000 ∧ slots ≤ 7302250 by omega) dL_law_1571 (fun c1 => ?_)
  refine r_aload_n (pc := 1574) S0 2 dL_law_1574 rfl rfl ?_
  refine r_aload_n (pc := 1575) S0 0 dL_law_1575 rfl rfl ?_
  refine r_iload_n (pc := 1576) S0 3 dL_law_1576 rfl rfl ?_
  refine r_iconst (pc := 1577) S0 dL_law_1577 ?_
  refine r_iadd (pc := 1578) S0 dL_law_1578 ?_
  refine r_sld (pc := 1579) (j := q + 1) S0 hsc hL (lsi q 1 (by omega) (by omega)) (by omega) dL_law_1579 ?_
  refine r_aload_n (pc := 1580) S0 0 dL_law_1580 rfl rfl ?_
  refine r_iload_n (pc := 1581) S0 3 dL_law_1581 rfl rfl ?_
  refine r_iconst (pc := 1582) S0 dL_law_1582 ?_
  refine r_iadd (pc := 1583) S0 dL_law_1583 ?_
  refine r_sld (pc := 1584) (j := q + 2) S0 hsc hL (lsi q 2 (by omega) (by omega)) (by omega) dL_law_1584 ?_
  refine r_aload_n (pc := 1585) S0 0 dL_law_1585 rfl rfl ?_
  refine r_iload_n (pc := 1586) S0 3 dL_law_1586 rfl rfl ?_
  refine r_iconst (pc := 1587) S0 dL_law_1587 ?_
  refine r_iadd (pc := 1588) S0 dL_law_1588 ?_
  refine r_sld (pc := 1589) (j := q + 3) S0 hsc hL (lsi q 3 (by omega) (by omega)) (by omega) dL_law_1589 ?_
  obtain ⟨e2, h2, hf⟩ := ok_bind hf
  refine r_cV_I (pc := 1590) [iv ((xs (q + 1)).toInt), iv ((xs (q + 2)).toInt), iv ((xs (q + 3)).toInt)] S0 hK hX mv_L_254 (k_X12_worth h2) (c_X12_worth l cA D N sx ad T A nx e1.2 wm ((xs (q + 1)).toInt) ((xs (q + 2)).toInt) ((xs (q + 3)).toInt) (cn_toInt _) (cn_toInt _) (cn_toInt _) e2 h2) rfl rfl ⟨by decide, by decide⟩ (Nat.le_of_ble_eq_true rfl) (show cells ≤ 600000 ∧ slots ≤ 7302250 by omega) dL_law_1590 (fun c2 => ?_)
  refine r_icmp_eq (pc := 1593) (tgt := 1965) S0 dL_law_1593 (by decide) c1 c2 hf (fun hf => ?_) (fun hf => (ok_none hf).elim)
  have hz := ok_some hf
  have hz : (T, A, nx, e2.2) = S2 := hz
  subst hz
  exact kk ad cells slots (fun _ _ => rfl) (by omega) (by omega) (Nat.le_refl _) hrb
set_option maxHeartbeats 4000000 in
set_option maxRecDepth 100000 in
theorem lc_59 {p : Program} {l : Launch} {e0 : Env} {s : State} {m : MethodId} {args : Array Value} {below : List Frame} {meth : Method} {c : Code} {cells slots : Nat} {Q : State → Prop} {cA : Nat → ClassId} {D : va_G} {N : Nat} {ad : Nat → Nat} {T : Knd} {A : Rfs} {nx : Nat} {I : Mem} {sx : Sx} {b L wx wm q : Nat} {xs : Nat → Int32} (S0 : CallFix p m c code 4 s args gT RL) (hK : va_K D vwCl (tyl cA) s) (hX : XX sx N s) (hAX : AX s) (hsc : SC N b L xs s) (hL : L ≤ 3072) (hq : q + 6 ≤ L) (hrb : RB A nx) (hbx : 1 ≤ wx ∧ wx ≤ nx) (hbm : 1 ≤ wm ∧ wm ≤ nx) (hcl : cells + 21 ≤ 600000 ∧ slots + 191 ≤ 7302250) {S2 : St} (hstep : ls_59 wx wm (xs (q + 1)).toInt (xs (q + 2)).toInt (xs (q + 3)).toInt (xs (q + 4)).toInt (xs (q + 5)).toInt T A nx I = some S2) (kk : ∀ (ad1 : Nat → Nat) (c2 s2 : Nat), (∀ i, i ≤ nx → ad1 i = ad i) → c2 ≤ cells + 21 → s2 ≤ slots + 191 → nx ≤ S2.2.2.1 → RB S2.2.1 S2.2.2.1 → G p l e0 room_1 s m args below meth c c2 s2 Q cA D N 4 ad1 S2.1 S2.2.1 S2.2.2.1 1965 [(0, .ref b), (1, rv ad1 wx), (2, rv ad1 wm), (3, iv (q : Int))] [] S2.2.2.2) : G p l e0 room_1 s m args below meth c cells slots Q cA D N 4 ad T A nx 1598 [(0, .ref b), (1, rv ad wx), (2, rv ad wm), (3, iv (q : Int))] [] I := by
  have hf : OK (ls_59 wx wm (xs (q + 1)).toInt (xs (q + 2)).toInt (xs (q + 3)).toInt (xs (q + 4)).toInt (xs (q + 5)).toInt T A nx I) (fun z => z = S2) := ⟨S2, hstep, rfl⟩
  unfold ls_59 at hf
  refine r_aload_n (pc := 1598) S0 1 dL_law_1598 rfl rfl ?_
  refine r_aload_n (pc := 1599) S0 0 dL_law_1599 rfl rfl ?_
  refine r_iload_n (pc := 1600) S0 3 dL_law_1600 rfl rfl ?_
  refine r_iconst (pc := 1601) S0 dL_law_1601 ?_
  refine r_iadd (pc := 1602) S0 dL_law_1602 ?_
  refine r_sld (pc := 1603) (j := q + 1) S0 hsc hL (lsi q 1 (by omega) (by omega)) (by omega) dL_law_1603 ?_
  refine r_aload_n (pc := 1604) S0 0 dL_law_1604 rfl rfl ?_
  refine r_iload_n (pc := 1605) S0 3 dL_law_1605 rfl rfl ?_
  refine r_iconst (pc := 1606) S0 dL_law_1606 ?_
  refine r_iadd (pc := 1607) S0 dL_law_1607 ?_
  refine r_sld (pc := 1608) (j := q + 2) S0 hsc hL (lsi q 2 (by omega) (by omega)) (by omega) dL_law_1608 ?_
  refine r_aload_n (pc := 1609) S0 0 dL_law_1609 rfl rfl ?_
  refine r_iload_n (pc := 1610) S0 3 dL_law_1610 rfl rfl ?_
  refine r_iconst (pc := 1611) S0 dL_law_1611 ?_
  refine r_iadd (pc := 1612) S0 dL_law_1612 ?_
  refine r_sld (pc := 1613) (j := q + 3) S0 hsc hL (lsi q 3 (by omega) (by omega)) (by omega) dL_law_1613 ?_
  refine r_aload_n (pc := 1614) S0 0 dL_law_1614 rfl rfl ?_
  refine r_iload_n (pc := 1615) S0 3 dL_law_1615 rfl rfl ?_
  refine r_iconst (pc := 1616) S0 dL_law_1616 ?_
  refine r_iadd (pc := 1617) S0 dL_law_1617 ?_
  refine r_sld (pc := 1618) (j := q + 4) S0 hsc hL (lsi q 4 (by omega) (by omega)) (by omega) dL_law_1618 ?_
  obtain ⟨e1, h1, hf⟩ := ok_bind hf
  refine r_cV_I (pc := 1619) [iv ((xs (q + 1)).toInt), iv ((xs (q + 2)).toInt), iv ((xs (q + 3)).toInt), iv ((xs (q + 4)).toInt)] S0 hK hX mv_L_255 (k_X11_ask h1) (c_X11_ask l cA D N sx ad T A nx I wx ((xs (q + 1)).toInt) ((xs (q + 2)).toInt) ((xs (q + 3)).toInt) ((xs (q + 4)).toInt) (cn_toInt _) (cn_toInt _) (cn_toInt _) (cn_toInt _) e1 h1) rfl rfl ⟨by decide, by decide⟩ (Nat.le_of_ble_eq_true rfl) (show cells ≤ 600000 ∧ slots ≤ 7302250 by omega) dL_law_1619 (fun c1 => ?_)
  refine r_aload_n (pc := 1622) S0 2 dL_law_1622 rfl rfl ?_
  refine r_aload_n (pc := 1623) S0 0 dL_law_1623 rfl rfl ?_
  refine r_iload_n (pc := 1624) S0 3 dL_law_1624 rfl rfl ?_
  refine r_iconst (pc := 1625) S0 dL_law_1625 ?_
  refine r_iadd (pc := 1626) S0 dL_law_1626 ?_
  refine r_sld (pc := 1627) (j := q + 1) S0 hsc hL (lsi q 1 (by omega) (by omega)) (by omega) dL_law_1627 ?_
  refine r_aload_n (pc := 1628) S0 0 dL_law_1628 rfl rfl ?_
  refine r_iload_n (pc := 1629) S0 3 dL_law_1629 rfl rfl ?_
  refine r_iconst (pc := 1630) S0 dL_law_1630 ?_
  refine r_iadd (pc := 1631) S0 dL_law_1631 ?_
  refine r_sld (pc := 1632) (j := q + 2) S0 hsc hL (lsi q 2 (by omega) (by omega)) (by omega) dL_law_1632 ?_
  refine r_aload_n (pc := 1633) S0 0 dL_law_1633 rfl rfl ?_
  refine r_iload_n (pc := 1634) S0 3 dL_law_1634 rfl rfl ?_
  refine r_iconst (pc := 1635) S0 dL_law_1635 ?_
  refine r_iadd (pc := 1636) S0 dL_law_1636 ?_
  refine r_sld (pc := 1637) (j := q + 3) S0 hsc hL (lsi q 3 (by omega) (by omega)) (by omega) dL_law_1637 ?_
  refine r_aload_n (pc := 1638) S0 0 dL_law_1638 rfl rfl ?_
  refine r_iload_n (pc := 1639) S0 3 dL_law_1639 rfl rfl ?_
  refine r_iconst (pc := 1640) S0 dL_law_1640 ?_
  refine r_iadd (pc := 1641) S0 dL_law_1641 ?_
  refine r_sld (pc := 1642) (j := q + 4) S0 hsc hL (lsi q 4 (by omega) (by omega)) (by omega) dL_law_1642 ?_
  obtain ⟨e2, h2, hf⟩ := ok_bind hf
  refine r_cV_I (pc := 1643) [iv ((xs (q + 1)).toInt), iv ((xs (q + 2)).toInt), iv ((xs (q + 3)).toInt), iv ((xs (q + 4)).toInt)] S0 hK hX mv_L_259 (k_X12_ask h2) (c_X12_ask l cA D N sx ad T A nx e1.2 wm ((xs (q + 1)).toInt) ((xs (q + 2)).toInt) ((xs (q + 3)).toInt) ((xs (q + 4)).toInt) (cn_toInt _) (cn_toInt _) (cn_toInt _) (cn_toInt _) e2 h2) rfl rfl ⟨by decide, by decide⟩ (Nat.le_of_ble_eq_true rfl) (show cells ≤ 600000 ∧ slots ≤ 7302250 by omega) dL_law_1643 (fun c2 => ?_)
  refine r_icmp_eq (pc := 1646) (tgt := 1965) S0 dL_law_1646 (by decide) c1 c2 hf (fun hf => ?_) (fun hf => (ok_none hf).elim)
  have hz := ok_some hf
  have hz : (T, A, nx, e2.2) = S2 := hz
  subst hz
  exact kk ad cells slots (fun _ _ => rfl) (by omega) (by omega) (Nat.le_refl _) hrb
set_option maxHeartbeats 4000000 in
set_option maxRecDepth 100000 in
theorem lc_60 {p : Program} {l : Launch} {e0 : Env} {s : State} {m : MethodId} {args : Array Value} {below : List Frame} {meth : Method} {c : Code} {cells slots : Nat} {Q : State → Prop} {cA : Nat → ClassId} {D : va_G} {N : Nat} {ad : Nat → Nat} {T : Knd} {A : Rfs} {nx : Nat} {I : Mem} {sx : Sx} {b L wx wm q : Nat} {xs : Nat → Int32} (S0 : CallFix p m c code 4 s args gT RL) (hK : va_K D vwCl (tyl cA) s) (hX : XX sx N s) (hAX : AX s) (hsc : SC N b L xs s) (hL : L ≤ 3072) (hq : q + 6 ≤ L) (hrb : RB A nx) (hbx : 1 ≤ wx ∧ wx ≤ nx) (hbm : 1 ≤ wm ∧ wm ≤ nx) (hcl : cells + 21 ≤ 600000 ∧ slots + 191 ≤ 7302250) {S2 : St} (hstep : ls_60 wx wm (xs (q + 1)).toInt (xs (q + 2)).toInt (xs (q + 3)).toInt (xs (q + 4)).toInt (xs (q + 5)).toInt T A nx I = some S2) (kk : ∀ (ad1 : Nat → Nat) (c2 s2 : Nat), (∀ i, i ≤ nx → ad1 i = ad i) → c2 ≤ cells + 21 → s2 ≤ slots + 191 → nx ≤ S2.2.2.1 → RB S2.2.1 S2.2.2.1 → G p l e0 room_1 s m args below meth c c2 s2 Q cA D N 4 ad1 S2.1 S2.2.1 S2.2.2.1 1965 [(0, .ref b), (1, rv ad1 wx), (2, rv ad1 wm), (3, iv (q : Int))] [] S2.2.2.2) : G p l e0 room_1 s m args below meth c cells slots Q cA D N 4 ad T A nx 1651 [(0, .ref b), (1, rv ad wx), (2, rv ad wm), (3, iv (q : Int))] [] I := by
  have hf : OK (ls_60 wx wm (xs (q + 1)).toInt (xs (q + 2)).toInt (xs (q + 3)).toInt (xs (q + 4)).toInt (xs (q + 5)).toInt T A nx I) (fun z => z = S2) := ⟨S2, hstep, rfl⟩
  unfold ls_60 at hf
  refine r_aload_n (pc := 1651) S0 1 dL_law_1651 rfl rfl ?_
  refine r_aload_n (pc := 1652) S0 0 dL_law_1652 rfl rfl ?_
  refine r_iload_n (pc := 1653) S0 3 dL_law_1653 rfl rfl ?_
  refine r_iconst (pc := 1654) S0 dL_law_1654 ?_
  refine r_iadd (pc := 1655) S0 dL_law_1655 ?_
  refine r_sld (pc := 1656) (j := q + 1) S0 hsc hL (lsi q 1 (by omega) (by omega)) (by omega) dL_law_1656 ?_
  refine r_aload_n (pc := 1657) S0 0 dL_law_1657 rfl rfl ?_
  refine r_iload_n (pc := 1658) S0 3 dL_law_1658 rfl rfl ?_
  refine r_iconst (pc := 1659) S0 dL_law_1659 ?_
  refine r_iadd (pc := 1660) S0 dL_law_1660 ?_
  refine r_sld (pc := 1661) (j := q + 2) S0 hsc hL (lsi q 2 (by omega) (by omega)) (by omega) dL_law_1661 ?_
  refine r_aload_n (pc := 1662) S0 0 dL_law_1662 rfl rfl ?_
  refine r_iload_n (pc := 1663) S0 3 dL_law_1663 rfl rfl ?_
  refine r_iconst (pc := 1664) S0 dL_law_1664 ?_
  refine r_iadd (pc := 1665) S0 dL_law_1665 ?_
  refine r_sld (pc := 1666) (j := q + 3) S0 hsc hL (lsi q 3 (by omega) (by omega)) (by omega) dL_law_1666 ?_
  obtain ⟨e1, h1, hf⟩ := ok_bind hf
  refine r_cV_I (pc := 1667) [iv ((xs (q + 1)).toInt), iv ((xs (q + 2)).toInt), iv ((xs (q + 3)).toInt)] S0 hK hX mv_L_260 (k_X11_leave h1) (c_X11_leave l cA D N sx ad T A nx I wx ((xs (q + 1)).toInt) ((xs (q + 2)).toInt) ((xs (q + 3)).toInt) (cn_toInt _) (cn_toInt _) (cn_toInt _) e1 h1) rfl rfl ⟨by decide, by decide⟩ (Nat.le_of_ble_eq_true rfl) (show cells ≤ 600000 ∧ slots ≤ 7302250 by omega) dL_law_1667 (fun c1 => ?_)
  refine r_aload_n (pc := 1670) S0 2 dL_law_1670 rfl rfl ?_
  refine r_aload_n (pc := 1671) S0 0 dL_law_1671 rfl rfl ?_
  refine r_iload_n (pc := 1672) S0 3 dL_law_1672 rfl rfl ?_
  refine r_iconst (pc := 1673) S0 dL_law_1673 ?_
  refine r_iadd (pc := 1674) S0 dL_law_1674 ?_
  refine r_sld (pc := 1675) (j := q + 1) S0 hsc hL (lsi q 1 (by omega) (by omega)) (by omega) dL_law_1675 ?_
  refine r_aload_n (pc := 1676) S0 0 dL_law_1676 rfl rfl ?_
  refine r_iload_n (pc := 1677) S0 3 dL_law_1677 rfl rfl ?_
  refine r_iconst (pc := 1678) S0 dL_law_1678 ?_
  refine r_iadd (pc := 1679) S0 dL_law_1679 ?_
  refine r_sld (pc := 1680) (j := q + 2) S0 hsc hL (lsi q 2 (by omega) (by omega)) (by omega) dL_law_1680 ?_
  refine r_aload_n (pc := 1681) S0 0 dL_law_1681 rfl rfl ?_
  refine r_iload_n (pc := 1682) S0 3 dL_law_1682 rfl rfl ?_
  refine r_iconst (pc := 1683) S0 dL_law_1683 ?_
  refine r_iadd (pc := 1684) S0 dL_law_1684 ?_
  refine r_sld (pc := 1685) (j := q + 3) S0 hsc hL (lsi q 3 (by omega) (by omega)) (by omega) dL_law_1685 ?_
  obtain ⟨e2, h2, hf⟩ := ok_bind hf
  refine r_cV_I (pc := 1686) [iv ((xs (q + 1)).toInt), iv ((xs (q + 2)).toInt), iv ((xs (q + 3)).toInt)] S0 hK hX mv_L_263 (k_X12_leave h2) (c_X12_leave l cA D N sx ad T A nx e1.2 wm ((xs (q + 1)).toInt) ((xs (q + 2)).toInt) ((xs (q + 3)).toInt) (cn_toInt _) (cn_toInt _) (cn_toInt _) e2 h2) rfl rfl ⟨by decide, by decide⟩ (Nat.le_of_ble_eq_true rfl) (show cells ≤ 600000 ∧ slots ≤ 7302250 by omega) dL_law_1686 (fun c2 => ?_)
  refine r_icmp_eq (pc := 1689) (tgt := 1965) S0 dL_law_1689 (by decide) c1 c2 hf (fun hf => ?_) (fun hf => (ok_none hf).elim)
  have hz := ok_some hf
  have hz : (T, A, nx, e2.2) = S2 := hz
  subst hz
  exact kk ad cells slots (fun _ _ => rfl) (by omega) (by omega) (Nat.le_refl _) hrb
set_option maxHeartbeats 4000000 in
set_option maxRecDepth 100000 in
theorem lc_61 {p : Program} {l : Launch} {e0 : Env} {s : State} {m : MethodId} {args : Array Value} {below : List Frame} {meth : Method} {c : Code} {cells slots : Nat} {Q : State → Prop} {cA : Nat → ClassId} {D : va_G} {N : Nat} {ad : Nat → Nat} {T : Knd} {A : Rfs} {nx : Nat} {I : Mem} {sx : Sx} {b L wx wm q : Nat} {xs : Nat → Int32} (S0 : CallFix p m c code 4 s args gT RL) (hK : va_K D vwCl (tyl cA) s) (hX : XX sx N s) (hAX : AX s) (hsc : SC N b L xs s) (hL : L ≤ 3072) (hq : q + 6 ≤ L) (hrb : RB A nx) (hbx : 1 ≤ wx ∧ wx ≤ nx) (hbm : 1 ≤ wm ∧ wm ≤ nx) (hcl : cells + 21 ≤ 600000 ∧ slots + 191 ≤ 7302250) {S2 : St} (hstep : ls_61 wx wm (xs (q + 1)).toInt (xs (q + 2)).toInt (xs (q + 3)).toInt (xs (q + 4)).toInt (xs (q + 5)).toInt T A nx I = some S2) (kk : ∀ (ad1 : Nat → Nat) (c2 s2 : Nat), (∀ i, i ≤ nx → ad1 i = ad i) → c2 ≤ cells + 21 → s2 ≤ slots + 191 → nx ≤ S2.2.2.1 → RB S2.2.1 S2.2.2.1 → G p l e0 room_1 s m args below meth c c2 s2 Q cA D N 4 ad1 S2.1 S2.2.1 S2.2.2.1 1965 [(0, .ref b), (1, rv ad1 wx), (2, rv ad1 wm), (3, iv (q : Int))] [] S2.2.2.2) : G p l e0 room_1 s m args below meth c cells slots Q cA D N 4 ad T A nx 1694 [(0, .ref b), (1, rv ad wx), (2, rv ad wm), (3, iv (q : Int))] [] I := by
  have hf : OK (ls_61 wx wm (xs (q + 1)).toInt (xs (q + 2)).toInt (xs (q + 3)).toInt (xs (q + 4)).toInt (xs (q + 5)).toInt T A nx I) (fun z => z = S2) := ⟨S2, hstep, rfl⟩
  unfold ls_61 at hf
  refine r_aload_n (pc := 1694) S0 1 dL_law_1694 rfl rfl ?_
  refine r_aload_n (pc := 1695) S0 0 dL_law_1695 rfl rfl ?_
  refine r_iload_n (pc := 1696) S0 3 dL_law_1696 rfl rfl ?_
  refine r_iconst (pc := 1697) S0 dL_law_1697 ?_
  refine r_iadd (pc := 1698) S0 dL_law_1698 ?_
  refine r_sld (pc := 1699) (j := q + 1) S0 hsc hL (lsi q 1 (by omega) (by omega)) (by omega) dL_law_1699 ?_
  obtain ⟨e1, h1, hf⟩ := ok_bind hf
  refine r_cV_I (pc := 1700) [iv ((xs (q + 1)).toInt)] S0 hK hX mv_L_264 (k_X11_wants h1) (c_X11_wants l cA D N sx ad T A nx I wx ((xs (q + 1)).toInt) (cn_toInt _) e1 h1) rfl rfl ⟨by decide, by decide⟩ (Nat.le_of_ble_eq_true rfl) (show cells ≤ 600000 ∧ slots ≤ 7302250 by omega) dL_law_1700 (fun c1 => ?_)
  refine r_aload_n (pc := 1703) S0 2 dL_law_1703 rfl rfl ?_
  refine r_aload_n (pc := 1704) S0 0 dL_law_1704 rfl rfl ?_
  refine r_iload_n (pc := 1705) S0 3 dL_law_1705 rfl rfl ?_
  refine r_iconst (pc := 1706) S0 dL_law_1706 ?_
  refine r_iadd (pc := 1707) S0 dL_law_1707 ?_
  refine r_sld (pc := 1708) (j := q + 1) S0 hsc hL (lsi q 1 (by omega) (by omega)) (by omega) dL_law_1708 ?_
  obtain ⟨e2, h2, hf⟩ := ok_bind hf
  refine r_cV_I (pc := 1709) [iv ((xs (q + 1)).toInt)] S0 hK hX mv_L_267 (k_X12_wants h2) (c_X12_wants l cA D N sx ad T A nx e1.2 wm ((xs (q + 1)).toInt) (cn_toInt _) e2 h2) rfl rfl ⟨by decide, by decide⟩ (Nat.le_of_ble_eq_true rfl) (show cells ≤ 600000 ∧ slots ≤ 7302250 by omega) dL_law_1709 (fun c2 => ?_)
  refine r_icmp_eq (pc := 1712) (tgt := 1965) S0 dL_law_1712 (by decide) c1 c2 hf (fun hf => ?_) (fun hf => (ok_none hf).elim)
  have hz := ok_some hf
  have hz : (T, A, nx, e2.2) = S2 := hz
  subst hz
  exact kk ad cells slots (fun _ _ => rfl) (by omega) (by omega) (Nat.le_refl _) hrb
set_option maxHeartbeats 4000000 in
set_option maxRecDepth 100000 in
theorem lc_62 {p : Program} {l : Launch} {e0 : Env} {s : State} {m : MethodId} {args : Array Value} {below : List Frame} {meth : Method} {c : Code} {cells slots : Nat} {Q : State → Prop} {cA : Nat → ClassId} {D : va_G} {N : Nat} {ad : Nat → Nat} {T : Knd} {A : Rfs} {nx : Nat} {I : Mem} {sx : Sx} {b L wx wm q : Nat} {xs : Nat → Int32} (S0 : CallFix p m c code 4 s args gT RL) (hK : va_K D vwCl (tyl cA) s) (hX : XX sx N s) (hAX : AX s) (hsc : SC N b L xs s) (hL : L ≤ 3072) (hq : q + 6 ≤ L) (hrb : RB A nx) (hbx : 1 ≤ wx ∧ wx ≤ nx) (hbm : 1 ≤ wm ∧ wm ≤ nx) (hcl : cells + 21 ≤ 600000 ∧ slots + 191 ≤ 7302250) {S2 : St} (hstep : ls_62 wx wm (xs (q + 1)).toInt (xs (q + 2)).toInt (xs (q + 3)).toInt (xs (q + 4)).toInt (xs (q + 5)).toInt T A nx I = some S2) (kk : ∀ (ad1 : Nat → Nat) (c2 s2 : Nat), (∀ i, i ≤ nx → ad1 i = ad i) → c2 ≤ cells + 21 → s2 ≤ slots + 191 → nx ≤ S2.2.2.1 → RB S2.2.1 S2.2.2.1 → G p l e0 room_1 s m args below meth c c2 s2 Q cA D N 4 ad1 S2.1 S2.2.1 S2.2.2.1 1965 [(0, .ref b), (1, rv ad1 wx), (2, rv ad1 wm), (3, iv (q : Int))] [] S2.2.2.2) : G p l e0 room_1 s m args below meth c cells slots Q cA D N 4 ad T A nx 1717 [(0, .ref b), (1, rv ad wx), (2, rv ad wm), (3, iv (q : Int))] [] I := by
  have hf : OK (ls_62 wx wm (xs (q + 1)).toInt (xs (q + 2)).toInt (xs (q + 3)).toInt (xs (q + 4)).toInt (xs (q + 5)).toInt T A nx I) (fun z => z = S2) := ⟨S2, hstep, rfl⟩
  unfold ls_62 at hf
  refine r_aload_n (pc := 1717) S0 1 dL_law_1717 rfl rfl ?_
  refine r_aload_n (pc := 1718) S0 0 dL_law_1718 rfl rfl ?_
  refine r_iload_n (pc := 1719) S0 3 dL_law_1719 rfl rfl ?_
  refine r_iconst (pc := 1720) S0 dL_law_1720 ?_
  refine r_iadd (pc := 1721) S0 dL_law_1721 ?_
  refine r_sld (pc := 1722) (j := q + 1) S0 hsc hL (lsi q 1 (by omega) (by omega)) (by omega) dL_law_1722 ?_
  obtain ⟨e1, h1, hf⟩ := ok_bind hf
  refine r_cV_I (pc := 1723) [iv ((xs (q + 1)).toInt)] S0 hK hX mv_L_268 (k_X11_count h1) (c_X11_count l cA D N sx ad T A nx I wx ((xs (q + 1)).toInt) (cn_toInt _) e1 h1) rfl rfl ⟨by decide, by decide⟩ (Nat.le_of_ble_eq_true rfl) (show cells ≤ 600000 ∧ slots ≤ 7302250 by omega) dL_law_1723 (fun c1 => ?_)
  refine r_aload_n (pc := 1726) S0 2 dL_law_1726 rfl rfl ?_
  refine r_aload_n (pc := 1727) S0 0 dL_law_1727 rfl rfl ?_
  refine r_iload_n (pc := 1728) S0 3 dL_law_1728 rfl rfl ?_
  refine r_iconst (pc := 1729) S0 dL_law_1729 ?_
  refine r_iadd (pc := 1730) S0 dL_law_1730 ?_
  refine r_sld (pc := 1731) (j := q + 1) S0 hsc hL (lsi q 1 (by omega) (by omega)) (by omega) dL_law_1731 ?_
  obtain ⟨e2, h2, hf⟩ := ok_bind hf
  refine r_cV_I (pc := 1732) [iv ((xs (q + 1)).toInt)] S0 hK hX mv_L_271 (k_X12_count h2) (c_X12_count l cA D N sx ad T A nx I wm ((xs (q + 1)).toInt) (cn_toInt _) e2 h2) rfl rfl ⟨by decide, by decide⟩ (Nat.le_of_ble_eq_true rfl) (show cells ≤ 600000 ∧ slots ≤ 7302250 by omega) dL_law_1732 (fun c2 => ?_)
  refine r_icmp_eq (pc := 1735) (tgt := 1965) S0 dL_law_1735 (by decide) c1 c2 hf (fun hf => ?_) (fun hf => (ok_none hf).elim)
  have hz := ok_some hf
  have hz : (T, A, nx, e2.2) = S2 := hz
  subst hz
  exact kk ad cells slots (fun _ _ => rfl) (by omega) (by omega) (Nat.le_refl _) hrb
set_option maxHeartbeats 4000000 in
set_option maxRecDepth 100000 in
theorem lc_63 {p : Program} {l : Launch} {e0 : Env} {s : State} {m : MethodId} {args : Array Value} {below : List Frame} {meth : Method} {c : Code} {cells slots : Nat} {Q : State → Prop} {cA : Nat → ClassId} {D : va_G} {N : Nat} {ad : Nat → Nat} {T : Knd} {A : Rfs} {nx : Nat} {I : Mem} {sx : Sx} {b L wx wm q : Nat} {xs : Nat → Int32} (S0 : CallFix p m c code 4 s args gT RL) (hK : va_K D vwCl (tyl cA) s) (hX : XX sx N s) (hAX : AX s) (hsc : SC N b L xs s) (hL : L ≤ 3072) (hq : q + 6 ≤ L) (hrb : RB A nx) (hbx : 1 ≤ wx ∧ wx ≤ nx) (hbm : 1 ≤ wm ∧ wm ≤ nx) (hcl : cells + 21 ≤ 600000 ∧ slots + 191 ≤ 7302250) {S2 : St} (hstep : ls_63 wx wm (xs (q + 1)).toInt (xs (q + 2)).toInt (xs (q + 3)).toInt (xs (q + 4)).toInt (xs (q + 5)).toInt T A nx I = some S2) (kk : ∀ (ad1 : Nat → Nat) (c2 s2 : Nat), (∀ i, i ≤ nx → ad1 i = ad i) → c2 ≤ cells + 21 → s2 ≤ slots + 191 → nx ≤ S2.2.2.1 → RB S2.2.1 S2.2.2.1 → G p l e0 room_1 s m args below meth c c2 s2 Q cA D N 4 ad1 S2.1 S2.2.1 S2.2.2.1 1965 [(0, .ref b), (1, rv ad1 wx), (2, rv ad1 wm), (3, iv (q : Int))] [] S2.2.2.2) : G p l e0 room_1 s m args below meth c cells slots Q cA D N 4 ad T A nx 1740 [(0, .ref b), (1, rv ad wx), (2, rv ad wm), (3, iv (q : Int))] [] I := by
  have hf : OK (ls_63 wx wm (xs (q + 1)).toInt (xs (q + 2)).toInt (xs (q + 3)).toInt (xs (q + 4)).toInt (xs (q + 5)).toInt T A nx I) (fun z => z = S2) := ⟨S2, hstep, rfl⟩
  unfold ls_63 at hf
  refine r_aload_n (pc := 1740) S0 1 dL_law_1740 rfl rfl ?_
  refine r_aload_n (pc := 1741) S0 0 dL_law_1741 rfl rfl ?_
  refine r_iload_n (pc := 1742) S0 3 dL_law_1742 rfl rfl ?_
  refine r_iconst (pc := 1743) S0 dL_law_1743 ?_
  refine r_iadd (pc := 1744) S0 dL_law_1744 ?_
  refine r_sld (pc := 1745) (j := q + 1) S0 hsc hL (lsi q 1 (by omega) (by omega)) (by omega) dL_law_1745 ?_
  obtain ⟨e1, h1, hf⟩ := ok_bind hf
  refine r_cVK (pc := 1746) [iv ((xs (q + 1)).toInt)] S0 hK hX hAX mv_L_272 (k_X11_keep h1) (c_X11_keep l cA D N sx ad T A nx I wx ((xs (q + 1)).toInt) (cn_toInt _) hrb hbx e1 h1) rfl rfl (fun ad => [(0, .ref b), (1, rv ad wx), (2, rv ad wm), (3, iv (q : Int))]) (fun ad => []) (fun ad1 h => by simp only [rv, h wx hbx.2, h wm hbm.2]) (fun ad1 h => rfl) ⟨by decide, by decide⟩ (Nat.le_of_ble_eq_true rfl) ⟨hcl.1, hcl.2⟩ dL_law_1746 (fun ad hag n1 hrb c1 => ?_)
  refine r_aload_n (pc := 1749) S0 2 dL_law_1749 rfl rfl ?_
  refine r_aload_n (pc := 1750) S0 0 dL_law_1750 rfl rfl ?_
  refine r_iload_n (pc := 1751) S0 3 dL_law_1751 rfl rfl ?_
  refine r_iconst (pc := 1752) S0 dL_law_1752 ?_
  refine r_iadd (pc := 1753) S0 dL_law_1753 ?_
  refine r_sld (pc := 1754) (j := q + 1) S0 hsc hL (lsi q 1 (by omega) (by omega)) (by omega) dL_law_1754 ?_
  obtain ⟨e2, h2, hf⟩ := ok_bind hf
  refine r_cV_I (pc := 1755) [iv ((xs (q + 1)).toInt)] S0 hK hX mv_L_275 (k_X12_keep h2) (c_X12_keep l cA D N sx ad e1.2.1 e1.2.2.1 e1.2.2.2.1 e1.2.2.2.2 wm ((xs (q + 1)).toInt) (cn_toInt _) e2 h2) rfl rfl ⟨by decide, by decide⟩ (Nat.le_of_ble_eq_true rfl) (show cells + 21 ≤ 600000 ∧ slots + 191 ≤ 7302250 by omega) dL_law_1755 (fun c2 => ?_)
  refine r_icmp_eq (pc := 1758) (tgt := 1965) S0 dL_law_1758 (by decide) c1 c2 hf (fun hf => ?_) (fun hf => (ok_none hf).elim)
  have hz := ok_some hf
  have hz : (e1.2.1, e1.2.2.1, e1.2.2.2.1, e2.2) = S2 := hz
  subst hz
  exact kk ad (cells + 21) (slots + 191) hag (Nat.le_refl _) (Nat.le_refl _) n1 hrb
set_option maxHeartbeats 4000000 in
set_option maxRecDepth 100000 in
theorem lc_64 {p : Program} {l : Launch} {e0 : Env} {s : State} {m : MethodId} {args : Array Value} {below : List Frame} {meth : Method} {c : Code} {cells slots : Nat} {Q : State → Prop} {cA : Nat → ClassId} {D : va_G} {N : Nat} {ad : Nat → Nat} {T : Knd} {A : Rfs} {nx : Nat} {I : Mem} {sx : Sx} {b L wx wm q : Nat} {xs : Nat → Int32} (S0 : CallFix p m c code 4 s args gT RL) (hK : va_K D vwCl (tyl cA) s) (hX : XX sx N s) (hAX : AX s) (hsc : SC N b L xs s) (hL : L ≤ 3072) (hq : q + 6 ≤ L) (hrb : RB A nx) (hbx : 1 ≤ wx ∧ wx ≤ nx) (hbm : 1 ≤ wm ∧ wm ≤ nx) (hcl : cells + 21 ≤ 600000 ∧ slots + 191 ≤ 7302250) {S2 : St} (hstep : ls_64 wx wm (xs (q + 1)).toInt (xs (q + 2)).toInt (xs (q + 3)).toInt (xs (q + 4)).toInt (xs (q + 5)).toInt T A nx I = some S2) (kk : ∀ (ad1 : Nat → Nat) (c2 s2 : Nat), (∀ i, i ≤ nx → ad1 i = ad i) → c2 ≤ cells + 21 → s2 ≤ slots + 191 → nx ≤ S2.2.2.1 → RB S2.2.1 S2.2.2.1 → G p l e0 room_1 s m args below meth c c2 s2 Q cA D N 4 ad1 S2.1 S2.2.1 S2.2.2.1 1965 [(0, .ref b), (1, rv ad1 wx), (2, rv ad1 wm), (3, iv (q : Int))] [] S2.2.2.2) : G p l e0 room_1 s m args below meth c cells slots Q cA D N 4 ad T A nx 1763 [(0, .ref b), (1, rv ad wx), (2, rv ad wm), (3, iv (q : Int))] [] I := by
  have hf : OK (ls_64 wx wm (xs (q + 1)).toInt (xs (q + 2)).toInt (xs (q + 3)).toInt (xs (q + 4)).toInt (xs (q + 5)).toInt T A nx I) (fun z => z = S2) := ⟨S2, hstep, rfl⟩
  unfold ls_64 at hf
  refine r_aload_n (pc := 1763) S0 1 dL_law_1763 rfl rfl ?_
  refine r_aload_n (pc := 1764) S0 0 dL_law_1764 rfl rfl ?_
  refine r_iload_n (pc := 1765) S0 3 dL_law_1765 rfl rfl ?_
  refine r_iconst (pc := 1766) S0 dL_law_1766 ?_
  refine r_iadd (pc := 1767) S0 dL_law_1767 ?_
  refine r_sld (pc := 1768) (j := q + 1) S0 hsc hL (lsi q 1 (by omega) (by omega)) (by omega) dL_law_1768 ?_
  obtain ⟨e1, h1, hf⟩ := ok_bind hf
  refine r_cV_I (pc := 1769) [iv ((xs (q + 1)).toInt)] S0 hK hX mv_L_276 (k_X11_back h1) (c_X11_back l cA D N sx ad T A nx I wx ((xs (q + 1)).toInt) (cn_toInt _) e1 h1) rfl rfl ⟨by decide, by decide⟩ (Nat.le_of_ble_eq_true rfl) (show cells ≤ 600000 ∧ slots ≤ 7302250 by omega) dL_law_1769 (fun c1 => ?_)
  refine r_aload_n (pc := 1772) S0 2 dL_law_1772 rfl rfl ?_
  refine r_aload_n (pc := 1773) S0 0 dL_law_1773 rfl rfl ?_
  refine r_iload_n (pc := 1774) S0 3 dL_law_1774 rfl rfl ?_
  refine r_iconst (pc := 1775) S0 dL_law_1775 ?_
  refine r_iadd (pc := 1776) S0 dL_law_1776 ?_
  refine r_sld (pc := 1777) (j := q + 1) S0 hsc hL (lsi q 1 (by omega) (by omega)) (by omega) dL_law_1777 ?_
  obtain ⟨e2, h2, hf⟩ := ok_bind hf
  refine r_cV_I (pc := 1778) [iv ((xs (q + 1)).toInt)] S0 hK hX mv_L_279 (k_X12_back h2) (c_X12_back l cA D N sx ad T A nx e1.2 wm ((xs (q + 1)).toInt) (cn_toInt _) e2 h2) rfl rfl ⟨by decide, by decide⟩ (Nat.le_of_ble_eq_true rfl) (show cells ≤ 600000 ∧ slots ≤ 7302250 by omega) dL_law_1778 (fun c2 => ?_)
  refine r_icmp_eq (pc := 1781) (tgt := 1965) S0 dL_law_1781 (by decide) c1 c2 hf (fun hf => ?_) (fun hf => (ok_none hf).elim)
  have hz := ok_some hf
  have hz : (T, A, nx, e2.2) = S2 := hz
  subst hz
  exact kk ad cells slots (fun _ _ => rfl) (by omega) (by omega) (Nat.le_refl _) hrb
set_option maxHeartbeats 4000000 in
set_option maxRecDepth 100000 in
theorem lc_65 {p : Program} {l : Launch} {e0 : Env} {s : State} {m : MethodId} {args : Array Value} {below : List Frame} {meth : Method} {c : Code} {cells slots : Nat} {Q : State → Prop} {cA : Nat → ClassId} {D : va_G} {N : Nat} {ad : Nat → Nat} {T : Knd} {A : Rfs} {nx : Nat} {I : Mem} {sx : Sx} {b L wx wm q : Nat} {xs : Nat → Int32} (S0 : CallFix p m c code 4 s args gT RL) (hK : va_K D vwCl (tyl cA) s) (hX : XX sx N s) (hAX : AX s) (hsc : SC N b L xs s) (hL : L ≤ 3072) (hq : q + 6 ≤ L) (hrb : RB A nx) (hbx : 1 ≤ wx ∧ wx ≤ nx) (hbm : 1 ≤ wm ∧ wm ≤ nx) (hcl : cells + 21 ≤ 600000 ∧ slots + 191 ≤ 7302250) {S2 : St} (hstep : ls_65 wx wm (xs (q + 1)).toInt (xs (q + 2)).toInt (xs (q + 3)).toInt (xs (q + 4)).toInt (xs (q + 5)).toInt T A nx I = some S2) (kk : ∀ (ad1 : Nat → Nat) (c2 s2 : Nat), (∀ i, i ≤ nx → ad1 i = ad i) → c2 ≤ cells + 21 → s2 ≤ slots + 191 → nx ≤ S2.2.2.1 → RB S2.2.1 S2.2.2.1 → G p l e0 room_1 s m args below meth c c2 s2 Q cA D N 4 ad1 S2.1 S2.2.1 S2.2.2.1 1965 [(0, .ref b), (1, rv ad1 wx), (2, rv ad1 wm), (3, iv (q : Int))] [] S2.2.2.2) : G p l e0 room_1 s m args below meth c cells slots Q cA D N 4 ad T A nx 1786 [(0, .ref b), (1, rv ad wx), (2, rv ad wm), (3, iv (q : Int))] [] I := by
  have hf : OK (ls_65 wx wm (xs (q + 1)).toInt (xs (q + 2)).toInt (xs (q + 3)).toInt (xs (q + 4)).toInt (xs (q + 5)).toInt T A nx I) (fun z => z = S2) := ⟨S2, hstep, rfl⟩
  unfold ls_65 at hf
  refine r_aload_n (pc := 1786) S0 1 dL_law_1786 rfl rfl ?_
  refine r_aload_n (pc := 1787) S0 0 dL_law_1787 rfl rfl ?_
  refine r_iload_n (pc := 1788) S0 3 dL_law_1788 rfl rfl ?_
  refine r_iconst (pc := 1789) S0 dL_law_1789 ?_
  refine r_iadd (pc := 1790) S0 dL_law_1790 ?_
  refine r_sld (pc := 1791) (j := q + 1) S0 hsc hL (lsi q 1 (by omega) (by omega)) (by omega) dL_law_1791 ?_
  refine r_aload_n (pc := 1792) S0 0 dL_law_1792 rfl rfl ?_
  refine r_iload_n (pc := 1793) S0 3 dL_law_1793 rfl rfl ?_
  refine r_iconst (pc := 1794) S0 dL_law_1794 ?_
  refine r_iadd (pc := 1795) S0 dL_law_1795 ?_
  refine r_sld (pc := 1796) (j := q + 2) S0 hsc hL (lsi q 2 (by omega) (by omega)) (by omega) dL_law_1796 ?_
  refine r_aload_n (pc := 1797) S0 0 dL_law_1797 rfl rfl ?_
  refine r_iload_n (pc := 1798) S0 3 dL_law_1798 rfl rfl ?_
  refine r_iconst (pc := 1799) S0 dL_law_1799 ?_
  refine r_iadd (pc := 1800) S0 dL_law_1800 ?_
  refine r_sld (pc := 1801) (j := q + 3) S0 hsc hL (lsi q 3 (by omega) (by omega)) (by omega) dL_law_1801 ?_
  obtain ⟨e1, h1, hf⟩ := ok_bind hf
  refine r_cV_I (pc := 1802) [iv ((xs (q + 1)).toInt), iv ((xs (q + 2)).toInt), iv ((xs (q + 3)).toInt)] S0 hK hX mv_L_280 (k_X11_row h1) (c_X11_row l cA D N sx ad T A nx I wx ((xs (q + 1)).toInt) ((xs (q + 2)).toInt) ((xs (q + 3)).toInt) (cn_toInt _) (cn_toInt _) (cn_toInt _) e1 h1) rfl rfl ⟨by decide, by decide⟩ (Nat.le_of_ble_eq_true rfl) (show cells ≤ 600000 ∧ slots ≤ 7302250 by omega) dL_law_1802 (fun c1 => ?_)
  refine r_aload_n (pc := 1805) S0 2 dL_law_1805 rfl rfl ?_
  refine r_aload_n (pc := 1806) S0 0 dL_law_1806 rfl rfl ?_
  refine r_iload_n (pc := 1807) S0 3 dL_law_1807 rfl rfl ?_
  refine r_iconst (pc := 1808) S0 dL_law_1808 ?_
  refine r_iadd (pc := 1809) S0 dL_law_1809 ?_
  refine r_sld (pc := 1810) (j := q + 1) S0 hsc hL (lsi q 1 (by omega) (by omega)) (by omega) dL_law_1810 ?_
  refine r_aload_n (pc := 1811) S0 0 dL_law_1811 rfl rfl ?_
  refine r_iload_n (pc := 1812) S0 3 dL_law_1812 rfl rfl ?_
  refine r_iconst (pc := 1813) S0 dL_law_1813 ?_
  refine r_iadd (pc := 1814) S0 dL_law_1814 ?_
  refine r_sld (pc := 1815) (j := q + 2) S0 hsc hL (lsi q 2 (by omega) (by omega)) (by omega) dL_law_1815 ?_
  refine r_aload_n (pc := 1816) S0 0 dL_law_1816 rfl rfl ?_
  refine r_iload_n (pc := 1817) S0 3 dL_law_1817 rfl rfl ?_
  refine r_iconst (pc := 1818) S0 dL_law_1818 ?_
  refine r_iadd (pc := 1819) S0 dL_law_1819 ?_
  refine r_sld (pc := 1820) (j := q + 3) S0 hsc hL (lsi q 3 (by omega) (by omega)) (by omega) dL_law_1820 ?_
  obtain ⟨e2, h2, hf⟩ := ok_bind hf
  refine r_cV_I (pc := 1821) [iv ((xs (q + 1)).toInt), iv ((xs (q + 2)).toInt), iv ((xs (q + 3)).toInt)] S0 hK hX mv_L_283 (k_X12_row h2) (c_X12_row l cA D N sx ad T A nx e1.2 wm ((xs (q + 1)).toInt) ((xs (q + 2)).toInt) ((xs (q + 3)).toInt) (cn_toInt _) (cn_toInt _) (cn_toInt _) e2 h2) rfl rfl ⟨by decide, by decide⟩ (Nat.le_of_ble_eq_true rfl) (show cells ≤ 600000 ∧ slots ≤ 7302250 by omega) dL_law_1821 (fun c2 => ?_)
  refine r_icmp_eq (pc := 1824) (tgt := 1965) S0 dL_law_1824 (by decide) c1 c2 hf (fun hf => ?_) (fun hf => (ok_none hf).elim)
  have hz := ok_some hf
  have hz : (T, A, nx, e2.2) = S2 := hz
  subst hz
  exact kk ad cells slots (fun _ _ => rfl) (by omega) (by omega) (Nat.le_refl _) hrb
set_option maxHeartbeats 4000000 in
set_option maxRecDepth 100000 in
theorem lc_66 {p : Program} {l : Launch} {e0 : Env} {s : State} {m : MethodId} {args : Array Value} {below : List Frame} {meth : Method} {c : Code} {cells slots : Nat} {Q : State → Prop} {cA : Nat → ClassId} {D : va_G} {N : Nat} {ad : Nat → Nat} {T : Knd} {A : Rfs} {nx : Nat} {I : Mem} {sx : Sx} {b L wx wm q : Nat} {xs : Nat → Int32} (S0 : CallFix p m c code 4 s args gT RL) (hK : va_K D vwCl (tyl cA) s) (hX : XX sx N s) (hAX : AX s) (hsc : SC N b L xs s) (hL : L ≤ 3072) (hq : q + 6 ≤ L) (hrb : RB A nx) (hbx : 1 ≤ wx ∧ wx ≤ nx) (hbm : 1 ≤ wm ∧ wm ≤ nx) (hcl : cells + 21 ≤ 600000 ∧ slots + 191 ≤ 7302250) {S2 : St} (hstep : ls_66 wx wm (xs (q + 1)).toInt (xs (q + 2)).toInt (xs (q + 3)).toInt (xs (q + 4)).toInt (xs (q + 5)).toInt T A nx I = some S2) (kk : ∀ (ad1 : Nat → Nat) (c2 s2 : Nat), (∀ i, i ≤ nx → ad1 i = ad i) → c2 ≤ cells + 21 → s2 ≤ slots + 191 → nx ≤ S2.2.2.1 → RB S2.2.1 S2.2.2.1 → G p l e0 room_1 s m args below meth c c2 s2 Q cA D N 4 ad1 S2.1 S2.2.1 S2.2.2.1 1965 [(0, .ref b), (1, rv ad1 wx), (2, rv ad1 wm), (3, iv (q : Int))] [] S2.2.2.2) : G p l e0 room_1 s m args below meth c cells slots Q cA D N 4 ad T A nx 1829 [(0, .ref b), (1, rv ad wx), (2, rv ad wm), (3, iv (q : Int))] [] I := by
  have hf : OK (ls_66 wx wm (xs (q + 1)).toInt (xs (q + 2)).toInt (xs (q + 3)).toInt (xs (q + 4)).toInt (xs (q + 5)).toInt T A nx I) (fun z => z = S2) := ⟨S2, hstep, rfl⟩
  unfold ls_66 at hf
  refine r_aload_n (pc := 1829) S0 1 dL_law_1829 rfl rfl ?_
  refine r_aload_n (pc := 1830) S0 0 dL_law_1830 rfl rfl ?_
  refine r_iload_n (pc := 1831) S0 3 dL_law_1831 rfl rfl ?_
  refine r_iconst (pc := 1832) S0 dL_law_1832 ?_
  refine r_iadd (pc := 1833) S0 dL_law_1833 ?_
  refine r_sld (pc := 1834) (j := q + 1) S0 hsc hL (lsi q 1 (by omega) (by omega)) (by omega) dL_law_1834 ?_
  refine r_aload_n (pc := 1835) S0 0 dL_law_1835 rfl rfl ?_
  refine r_iload_n (pc := 1836) S0 3 dL_law_1836 rfl rfl ?_
  refine r_iconst (pc := 1837) S0 dL_law_1837 ?_
  refine r_iadd (pc := 1838) S0 dL_law_1838 ?_
  refine r_sld (pc := 1839) (j := q + 2) S0 hsc hL (lsi q 2 (by omega) (by omega)) (by omega) dL_law_1839 ?_
  refine r_aload_n (pc := 1840) S0 0 dL_law_1840 rfl rfl ?_
  refine r_iload_n (pc := 1841) S0 3 dL_law_1841 rfl rfl ?_
  refine r_iconst (pc := 1842) S0 dL_law_1842 ?_
  refine r_iadd (pc := 1843) S0 dL_law_1843 ?_
  refine r_sld (pc := 1844) (j := q + 3) S0 hsc hL (lsi q 3 (by omega) (by omega)) (by omega) dL_law_1844 ?_
  refine r_i2l (pc := 1845) S0 dL_law_1845 (cn_toInt _) ?_
  refine r_bipush (pc := 1846) S0 dL_law_1846 (by decide) ?_
  refine r_lshl (pc := 1848) S0 dL_law_1848 ?_
  refine r_aload_n (pc := 1849) S0 0 dL_law_1849 rfl rfl ?_
  refine r_iload_n (pc := 1850) S0 3 dL_law_1850 rfl rfl ?_
  refine r_iconst (pc := 1851) S0 dL_law_1851 ?_
  refine r_iadd (pc := 1852) S0 dL_law_1852 ?_
  refine r_sld (pc := 1853) (j := q + 4) S0 hsc hL (lsi q 4 (by omega) (by omega)) (by omega) dL_law_1853 ?_
  refine r_i2l (pc := 1854) S0 dL_law_1854 (cn_toInt _) ?_
  refine r_ldc2 (pc := 1855) (z := 4294967295) S0 kl_L_284 dL_law_1855 (by decide) ?_
  refine r_land (pc := 1858) S0 dL_law_1858 ?_
  refine r_lor (pc := 1859) S0 dL_law_1859 ?_
  obtain ⟨e1, h1, hf⟩ := ok_bind hf
  refine r_cV_I (pc := 1860) [iv ((xs (q + 1)).toInt), iv ((xs (q + 2)).toInt), jv (ilor (ilshl ((xs (q + 3)).toInt) (32)) (iland ((xs (q + 4)).toInt) (4294967295)))] S0 hK hX mv_L_286 (k_X11_write h1) (c_X11_write l cA D N sx ad T A nx I wx ((xs (q + 1)).toInt) ((xs (q + 2)).toInt) (ilor (ilshl ((xs (q + 3)).toInt) (32)) (iland ((xs (q + 4)).toInt) (4294967295))) (cn_toInt _) (cn_toInt _) (cl_toInt _) e1 h1) rfl rfl ⟨by decide, by decide⟩ (Nat.le_of_ble_eq_true rfl) (show cells ≤ 600000 ∧ slots ≤ 7302250 by omega) dL_law_1860 (fun c1 => ?_)
  refine r_aload_n (pc := 1863) S0 2 dL_law_1863 rfl rfl ?_
  refine r_aload_n (pc := 1864) S0 0 dL_law_1864 rfl rfl ?_
  refine r_iload_n (pc := 1865) S0 3 dL_law_1865 rfl rfl ?_
  refine r_iconst (pc := 1866) S0 dL_law_1866 ?_
  refine r_iadd (pc := 1867) S0 dL_law_1867 ?_
  refine r_sld (pc := 1868) (j := q + 1) S0 hsc hL (lsi q 1 (by omega) (by omega)) (by omega) dL_law_1868 ?_
  refine r_aload_n (pc := 1869) S0 0 dL_law_1869 rfl rfl ?_
  refine r_iload_n (pc := 1870) S0 3 dL_law_1870 rfl rfl ?_
  refine r_iconst (pc := 1871) S0 dL_law_1871 ?_
  refine r_iadd (pc := 1872) S0 dL_law_1872 ?_
  refine r_sld (pc := 1873) (j := q + 2) S0 hsc hL (lsi q 2 (by omega) (by omega)) (by omega) dL_law_1873 ?_
  refine r_aload_n (pc := 1874) S0 0 dL_law_1874 rfl rfl ?_
  refine r_iload_n (pc := 1875) S0 3 dL_law_1875 rfl rfl ?_
  refine r_iconst (pc := 1876) S0 dL_law_1876 ?_
  refine r_iadd (pc := 1877) S0 dL_law_1877 ?_
  refine r_sld (pc := 1878) (j := q + 3) S0 hsc hL (lsi q 3 (by omega) (by omega)) (by omega) dL_law_1878 ?_
  refine r_i2l (pc := 1879) S0 dL_law_1879 (cn_toInt _) ?_
  refine r_bipush (pc := 1880) S0 dL_law_1880 (by decide) ?_
  refine r_lshl (pc := 1882) S0 dL_law_1882 ?_
  refine r_aload_n (pc := 1883) S0 0 dL_law_1883 rfl rfl ?_
  refine r_iload_n (pc := 1884) S0 3 dL_law_1884 rfl rfl ?_
  refine r_iconst (pc := 1885) S0 dL_law_1885 ?_
  refine r_iadd (pc := 1886) S0 dL_law_1886 ?_
  refine r_sld (pc := 1887) (j := q + 4) S0 hsc hL (lsi q 4 (by omega) (by omega)) (by omega) dL_law_1887 ?_
  refine r_i2l (pc := 1888) S0 dL_law_1888 (cn_toInt _) ?_
  refine r_ldc2 (pc := 1889) (z := 4294967295) S0 kl_L_284 dL_law_1889 (by decide) ?_
  refine r_land (pc := 1892) S0 dL_law_1892 ?_
  refine r_lor (pc := 1893) S0 dL_law_1893 ?_
  obtain ⟨e2, h2, hf⟩ := ok_bind hf
  refine r_cV_I (pc := 1894) [iv ((xs (q + 1)).toInt), iv ((xs (q + 2)).toInt), jv (ilor (ilshl ((xs (q + 3)).toInt) (32)) (iland ((xs (q + 4)).toInt) (4294967295)))] S0 hK hX mv_L_290 (k_X12_write h2) (c_X12_write l cA D N sx ad T A nx e1.2 wm ((xs (q + 1)).toInt) ((xs (q + 2)).toInt) (ilor (ilshl ((xs (q + 3)).toInt) (32)) (iland ((xs (q + 4)).toInt) (4294967295))) (cn_toInt _) (cn_toInt _) (cl_toInt _) e2 h2) rfl rfl ⟨by decide, by decide⟩ (Nat.le_of_ble_eq_true rfl) (show cells ≤ 600000 ∧ slots ≤ 7302250 by omega) dL_law_1894 (fun c2 => ?_)
  refine r_icmp_eq (pc := 1897) (tgt := 1965) S0 dL_law_1897 (by decide) c1 c2 hf (fun hf => ?_) (fun hf => (ok_none hf).elim)
  have hz := ok_some hf
  have hz : (T, A, nx, e2.2) = S2 := hz
  subst hz
  exact kk ad cells slots (fun _ _ => rfl) (by omega) (by omega) (Nat.le_refl _) hrb
set_option maxHeartbeats 4000000 in
set_option maxRecDepth 100000 in
theorem lc_67 {p : Program} {l : Launch} {e0 : Env} {s : State} {m : MethodId} {args : Array Value} {below : List Frame} {meth : Method} {c : Code} {cells slots : Nat} {Q : State → Prop} {cA : Nat → ClassId} {D : va_G} {N : Nat} {ad : Nat → Nat} {T : Knd} {A : Rfs} {nx : Nat} {I : Mem} {sx : Sx} {b L wx wm q : Nat} {xs : Nat → Int32} (S0 : CallFix p m c code 4 s args gT RL) (hK : va_K D vwCl (tyl cA) s) (hX : XX sx N s) (hAX : AX s) (hsc : SC N b L xs s) (hL : L ≤ 3072) (hq : q + 6 ≤ L) (hrb : RB A nx) (hbx : 1 ≤ wx ∧ wx ≤ nx) (hbm : 1 ≤ wm ∧ wm ≤ nx) (hcl : cells + 21 ≤ 600000 ∧ slots + 191 ≤ 7302250) {S2 : St} (hstep : ls_67 wx wm (xs (q + 1)).toInt (xs (q + 2)).toInt (xs (q + 3)).toInt (xs (q + 4)).toInt (xs (q + 5)).toInt T A nx I = some S2) (kk : ∀ (ad1 : Nat → Nat) (c2 s2 : Nat), (∀ i, i ≤ nx → ad1 i = ad i) → c2 ≤ cells + 21 → s2 ≤ slots + 191 → nx ≤ S2.2.2.1 → RB S2.2.1 S2.2.2.1 → G p l e0 room_1 s m args below meth c c2 s2 Q cA D N 4 ad1 S2.1 S2.2.1 S2.2.2.1 1965 [(0, .ref b), (1, rv ad1 wx), (2, rv ad1 wm), (3, iv (q : Int))] [] S2.2.2.2) : G p l e0 room_1 s m args below meth c cells slots Q cA D N 4 ad T A nx 1902 [(0, .ref b), (1, rv ad wx), (2, rv ad wm), (3, iv (q : Int))] [] I := by
  have hf : OK (ls_67 wx wm (xs (q + 1)).toInt (xs (q + 2)).toInt (xs (q + 3)).toInt (xs (q + 4)).toInt (xs (q + 5)).toInt T A nx I) (fun z => z = S2) := ⟨S2, hstep, rfl⟩
  unfold ls_67 at hf
  refine r_aload_n (pc := 1902) S0 1 dL_law_1902 rfl rfl ?_
  refine r_aload_n (pc := 1903) S0 0 dL_law_1903 rfl rfl ?_
  refine r_iload_n (pc := 1904) S0 3 dL_law_1904 rfl rfl ?_
  refine r_iconst (pc := 1905) S0 dL_law_1905 ?_
  refine r_iadd (pc := 1906) S0 dL_law_1906 ?_
  refine r_sld (pc := 1907) (j := q + 1) S0 hsc hL (lsi q 1 (by omega) (by omega)) (by omega) dL_law_1907 ?_
  refine r_aload_n (pc := 1908) S0 0 dL_law_1908 rfl rfl ?_
  refine r_iload_n (pc := 1909) S0 3 dL_law_1909 rfl rfl ?_
  refine r_iconst (pc := 1910) S0 dL_law_1910 ?_
  refine r_iadd (pc := 1911) S0 dL_law_1911 ?_
  refine r_sld (pc := 1912) (j := q + 2) S0 hsc hL (lsi q 2 (by omega) (by omega)) (by omega) dL_law_1912 ?_
  refine r_aload_n (pc := 1913) S0 0 dL_law_1913 rfl rfl ?_
  refine r_iload_n (pc := 1914) S0 3 dL_law_1914 rfl rfl ?_
  refine r_iconst (pc := 1915) S0 dL_law_1915 ?_
  refine r_iadd (pc := 1916) S0 dL_law_1916 ?_
  refine r_sld (pc := 1917) (j := q + 3) S0 hsc hL (lsi q 3 (by omega) (by omega)) (by omega) dL_law_1917 ?_
  refine r_aload_n (pc := 1918) S0 0 dL_law_1918 rfl rfl ?_
  refine r_iload_n (pc := 1919) S0 3 dL_law_1919 rfl rfl ?_
  refine r_iconst (pc := 1920) S0 dL_law_1920 ?_
  refine r_iadd (pc := 1921) S0 dL_law_1921 ?_
  refine r_sld (pc := 1922) (j := q + 4) S0 hsc hL (lsi q 4 (by omega) (by omega)) (by omega) dL_law_1922 ?_
  refine r_aload_n (pc := 1923) S0 0 dL_law_1923 rfl rfl ?_
  refine r_iload_n (pc := 1924) S0 3 dL_law_1924 rfl rfl ?_
  refine r_iconst (pc := 1925) S0 dL_law_1925 ?_
  refine r_iadd (pc := 1926) S0 dL_law_1926 ?_
  refine r_sld (pc := 1927) (j := q + 5) S0 hsc hL (lsi q 5 (by omega) (by omega)) (by omega) dL_law_1927 ?_
  obtain ⟨e1, h1, hf⟩ := ok_bind hf
  refine r_cV_I (pc := 1928) [iv ((xs (q + 1)).toInt), iv ((xs (q + 2)).toInt), iv ((xs (q + 3)).toInt), iv ((xs (q + 4)).toInt), iv ((xs (q + 5)).toInt)] S0 hK hX mv_L_291 (k_X11_paste h1) (c_X11_paste l cA D N sx ad T A nx I wx ((xs (q + 1)).toInt) ((xs (q + 2)).toInt) ((xs (q + 3)).toInt) ((xs (q + 4)).toInt) ((xs (q + 5)).toInt) (cn_toInt _) (cn_toInt _) (cn_toInt _) (cn_toInt _) (cn_toInt _) e1 h1) rfl rfl ⟨by decide, by decide⟩ (Nat.le_of_ble_eq_true rfl) (show cells ≤ 600000 ∧ slots ≤ 7302250 by omega) dL_law_1928 (fun c1 => ?_)
  refine r_aload_n (pc := 1931) S0 2 dL_law_1931 rfl rfl ?_
  refine r_aload_n (pc := 1932) S0 0 dL_law_1932 rfl rfl ?_
  refine r_iload_n (pc := 1933) S0 3 dL_law_1933 rfl rfl ?_
  refine r_iconst (pc := 1934) S0 dL_law_1934 ?_
  refine r_iadd (pc := 1935) S0 dL_law_1935 ?_
  refine r_sld (pc := 1936) (j := q + 1) S0 hsc hL (lsi q 1 (by omega) (by omega)) (by omega) dL_law_1936 ?_
  refine r_aload_n (pc := 1937) S0 0 dL_law_1937 rfl rfl ?_
  refine r_iload_n (pc := 1938) S0 3 dL_law_1938 rfl rfl ?_
  refine r_iconst (pc := 1939) S0 dL_law_1939 ?_
  refine r_iadd (pc := 1940) S0 dL_law_1940 ?_
  refine r_sld (pc := 1941) (j := q + 2) S0 hsc hL (lsi q 2 (by omega) (by omega)) (by omega) dL_law_1941 ?_
  refine r_aload_n (pc := 1942) S0 0 dL_law_1942 rfl rfl ?_
  refine r_iload_n (pc := 1943) S0 3 dL_law_1943 rfl rfl ?_
  refine r_iconst (pc := 1944) S0 dL_law_1944 ?_
  refine r_iadd (pc := 1945) S0 dL_law_1945 ?_
  refine r_sld (pc := 1946) (j := q + 3) S0 hsc hL (lsi q 3 (by omega) (by omega)) (by omega) dL_law_1946 ?_
  refine r_aload_n (pc := 1947) S0 0 dL_law_1947 rfl rfl ?_
  refine r_iload_n (pc := 1948) S0 3 dL_law_1948 rfl rfl ?_
  refine r_iconst (pc := 1949) S0 dL_law_1949 ?_
  refine r_iadd (pc := 1950) S0 dL_law_1950 ?_
  refine r_sld (pc := 1951) (j := q + 4) S0 hsc hL (lsi q 4 (by omega) (by omega)) (by omega) dL_law_1951 ?_
  refine r_aload_n (pc := 1952) S0 0 dL_law_1952 rfl rfl ?_
  refine r_iload_n (pc := 1953) S0 3 dL_law_1953 rfl rfl ?_
  refine r_iconst (pc := 1954) S0 dL_law_1954 ?_
  refine r_iadd (pc := 1955) S0 dL_law_1955 ?_
  refine r_sld (pc := 1956) (j := q + 5) S0 hsc hL (lsi q 5 (by omega) (by omega)) (by omega) dL_law_1956 ?_
  obtain ⟨e2, h2, hf⟩ := ok_bind hf
  refine r_cV_I (pc := 1957) [iv ((xs (q + 1)).toInt), iv ((xs (q + 2)).toInt), iv ((xs (q + 3)).toInt), iv ((xs (q + 4)).toInt), iv ((xs (q + 5)).toInt)] S0 hK hX mv_L_294 (k_X12_paste h2) (c_X12_paste l cA D N sx ad T A nx e1.2 wm ((xs (q + 1)).toInt) ((xs (q + 2)).toInt) ((xs (q + 3)).toInt) ((xs (q + 4)).toInt) ((xs (q + 5)).toInt) (cn_toInt _) (cn_toInt _) (cn_toInt _) (cn_toInt _) (cn_toInt _) e2 h2) rfl rfl ⟨by decide, by decide⟩ (Nat.le_of_ble_eq_true rfl) (show cells ≤ 600000 ∧ slots ≤ 7302250 by omega) dL_law_1957 (fun c2 => ?_)
  refine r_icmp_eq (pc := 1960) (tgt := 1965) S0 dL_law_1960 (by decide) c1 c2 hf (fun hf => ?_) (fun hf => (ok_none hf).elim)
  have hz := ok_some hf
  have hz : (T, A, nx, e2.2) = S2 := hz
  subst hz
  exact kk ad cells slots (fun _ _ => rfl) (by omega) (by omega) (Nat.le_refl _) hrb
