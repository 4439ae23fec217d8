/-! The law's rows: the script is read, keep is called; then a theorem a case. -/
def SC (N b L : Nat) (xs : Nat → Int32) (s : State) : Prop := va_X b L xs s s.heap ∧ b < s.heap.size ∧ b < N
theorem lsi (q k : Nat) (hq : q ≤ 3072) (hk : k ≤ 6) : ia (q : Int) (k : Int) = ((q + k : Nat) : Int) := by
  unfold ia wrap
  omega
theorem ok_lcmp {x y : Int} {Z : Type} {a : Option Z} {fin : Z → Prop} (hf : OK (if x = y then a else none) fin) : OK (if ilcmp x y = 0 then a else none) fin := by
  obtain ⟨h1, h2⟩ := ok_grd hf
  subst h1
  have : ilcmp x x = 0 := by unfold ilcmp; rw [if_neg (by omega), if_pos rfl]
  rw [if_pos this]
  exact h2
section GRL
variable {p : Program} {l : Launch} {e : Env} {R : Room} {s : State} {m : MethodId} {args : Array Value} {below : List Frame} {meth : Method} {c : Code} {cells slots : Nat} {Q : State → Prop} {cA : Nat → ClassId} {D : va_G} {N nL : Nat} {ad : Nat → Nat} {T : Knd} {A : Rfs} {nx : Nat} {pc : Nat} {lv lv' : List (Nat × Value)} {st : List Value} {I : Mem}
variable {cc : ByteArray} {own : String} {sx : Sx}
theorem r_sld {b L j : Nat} {xs : Nat → Int32} {z : Int} (S : CallFix p m c cc nL s args gT own) (hsc : SC N b L xs s) (hL : L ≤ 3072) (hz : z = (j : Int)) (hj : j < L) (hd : decode cc pc = .ok (.iaload, 1)) (kk : G p l e R s m args below meth c cells slots Q cA D N nL ad T A nx (pc + 1) lv (iv (xs j).toInt :: st) I) : G p l e R s m args below meth c cells slots Q cA D N nL ad T A nx pc lv (iv z :: .ref b :: st) I := fun H locs ls hH hS hl => by
  subst hz
  have cj : cn (j : Int) := ⟨by omega, by omega⟩
  refine va_sld S.1 S.2.1 hsc.1 hsc.2.1 (by have := hsc.2.2; unfold A0; omega) hS (vin cj (by omega) (by omega)) hd ?_
  rw [tnc cj]
  have e1 : ((j : Int)).toNat = j := by omega
  rw [e1]
  have h := kk H locs ls hH hS hl
  rwa [iv, ofInt_toInt32] at h
theorem r_slx {b L : Nat} {xs : Nat → Int32} (S : CallFix p m c cc nL s args gT own) (hsc : SC N b L xs s) (hd : decode cc pc = .ok (.arraylength, 1)) (kk : G p l e R s m args below meth c cells slots Q cA D N nL ad T A nx (pc + 1) lv (iv (L : Int) :: st) I) : G p l e R s m args below meth c cells slots Q cA D N nL ad T A nx pc lv (.ref b :: st) I := fun H locs ls hH hS hl =>
  va_slen S.1 S.2.1 hsc.1 hsc.2.1 (by have := hsc.2.2; unfold A0; omega) hS hd (kk H locs ls hH hS hl)
theorem r_cVK {y : MethodName} {bytes : ByteArray} {maxL n index fr mc ms lo ci a : Nat} (As : List Value) (S : CallFix p m c cc nL s args gT own) (hK : va_K D vwCl (tyl cA) s) (hX : XX sx N s) (hAX : AX s) (hm : MV own index ci y bytes maxL (some .int) n) (hTa : (T a).1 = ci) {st0 : List Value} {e1 : Int × St} (hM : CtK l y bytes maxL fr mc ms lo cA D N sx ad T A nx (rv ad a :: As) I e1) (hn : As.length = n) (hst : st0 = As.reverse ++ rv ad a :: st) (L : (Nat → Nat) → List (Nat × Value)) (Sf : (Nat → Nat) → List Value) (hL : ∀ ad1 : Nat → Nat, (∀ i, i ≤ nx → ad1 i = ad i) → lv = L ad1) (hSf : ∀ ad1 : Nat → Nat, (∀ i, i ≤ nx → ad1 i = ad i) → st = Sf ad1) (hR : fr + 1 ≤ R.frames ∧ 8 + (maxL + 11) + lo ≤ R.locals) (hcat : (st.map fun v => v.category).sum ≤ 8) (hcs : cells + mc ≤ R.cells ∧ slots + ms ≤ R.slots) (hd : decode cc pc = .ok (.invokevirtual index, 3)) (kk : ∀ ad1 : Nat → Nat, (∀ i, i ≤ nx → ad1 i = ad i) → nx ≤ e1.2.2.2.1 → RB e1.2.2.1 e1.2.2.2.1 → cn e1.1 → G p l e R s m args below meth c (cells + mc) (slots + ms) Q cA D N nL ad1 e1.2.1 e1.2.2.1 e1.2.2.2.1 (pc + 3) (L ad1) (iv e1.1 :: Sf ad1) e1.2.2.2.2) : G p l e R s m args below meth c cells slots Q cA D N nL ad T A nx pc lv st0 I := by
  intro H locs ls hH hS hl
  obtain ⟨TT, hc⟩ := hm.2.2.1
  obtain ⟨b1, b2⟩ := hH.2.2.1 a (by have := hm.2.1; omega)
  have hrecv := va_recv (D := D) (cl := vwCl) (a := ad a) hK hH.1 hc ((wl_get b1 b2).trans (congrArg (fun z => some (ad a, z)) (ent_cls hTa hm.2.1)))
  refine va_calli (va_runV (As := As) (rest := st) (C := y.cls) ⟨S.1, S.2.1, S.2.2.1, S.2.2.2.1, S.2.2.2.2⟩ hM ⟨callB_of n S.2.2.2.2 (gT_good hm.1.2.1) rfl rfl rfl (S.2.2.2.2 _ hm.1.2.2.1) (S.2.2.2.2 _ hm.1.1) ⟨hm.1.2.2.2.1, hm.1.2.2.2.2.1, hm.1.2.2.2.2.2⟩ hR, S.2.2.2.2 _ hm.2.2.2.1, S.2.2.2.2 _ hm.2.2.2.2⟩ ⟨preA_blind, hrecv, fun U hU hW => ⟨rfl, pre_here hX hK hH hS hU hW, hAX.moved hW.alike⟩⟩ rfl hn hl.1 hst (lv_room hcat) hd hcs) hS (fun q _ h => h) (fun q h => h) (fun r0 u t H1 locs1 ht hvm hw hB hz1 hk1 hS1 => ?_)
  obtain ⟨g1, g2, g3, g4⟩ := hB
  have hg := kk u g1 g2 g3 hw.2
  rw [← hL _ g1, ← hSf _ g1] at hg
  rw [hw.1]
  exact hg H1 locs1 ls (by rw [← ht]; exact g4) hS1 hl
end GRL
set_option maxHeartbeats 4000000 in
set_option maxRecDepth 100000 in
theorem lc_0 {p : Program} {l : Launch} {e0 : Env} {s : State} {m : MethodId} {args : Array Value} {below : List Frame} {meth : Method} {c : Code} {cells slots : Nat} {Q : State → Prop} {cA : Nat → ClassId} {D : va_G} {N : Nat} {ad : Nat → Nat} {T : Knd} {A : Rfs} {nx : Nat} {I : Mem} {sx : Sx} {b L wx wm q : Nat} {xs : Nat → Int32} (S0 : CallFix p m c code 4 s args gT RL) (hK : va_K D vwCl (tyl cA) s) (hX : XX sx N s) (hAX : AX s) (hsc : SC N b L xs s) (hL : L ≤ 3072) (hq : q + 6 ≤ L) (hrb : RB A nx) (hbx : 1 ≤ wx ∧ wx ≤ nx) (hbm : 1 ≤ wm ∧ wm ≤ nx) (hcl : cells + 21 ≤ 600000 ∧ slots + 191 ≤ 7302250) {S2 : St} (hstep : ls_0 wx wm (xs (q + 1)).toInt (xs (q + 2)).toInt (xs (q + 3)).toInt (xs (q + 4)).toInt (xs (q + 5)).toInt T A nx I = some S2) (kk : ∀ (ad1 : Nat → Nat) (c2 s2 : Nat), (∀ i, i ≤ nx → ad1 i = ad i) → c2 ≤ cells + 21 → s2 ≤ slots + 191 → nx ≤ S2.2.2.1 → RB S2.2.1 S2.2.2.1 → G p l e0 room_1 s m args below meth c c2 s2 Q cA D N 4 ad1 S2.1 S2.2.1 S2.2.2.1 1965 [(0, .ref b), (1, rv ad1 wx), (2, rv ad1 wm), (3, iv (q : Int))] [] S2.2.2.2) : G p l e0 room_1 s m args below meth c cells slots Q cA D N 4 ad T A nx 320 [(0, .ref b), (1, rv ad wx), (2, rv ad wm), (3, iv (q : Int))] [] I := by
  have hf : OK (ls_0 wx wm (xs (q + 1)).toInt (xs (q + 2)).toInt (xs (q + 3)).toInt (xs (q + 4)).toInt (xs (q + 5)).toInt T A nx I) (fun z => z = S2) := ⟨S2, hstep, rfl⟩
  unfold ls_0 at hf
  refine r_aload_n (pc := 320) S0 1 dL_law_320 rfl rfl ?_
  refine r_aload_n (pc := 321) S0 0 dL_law_321 rfl rfl ?_
  refine r_iload_n (pc := 322) S0 3 dL_law_322 rfl rfl ?_
  refine r_iconst (pc := 323) S0 dL_law_323 ?_
  refine r_iadd (pc := 324) S0 dL_law_324 ?_
  refine r_sld (pc := 325) (j := q + 1) S0 hsc hL (lsi q 1 (by omega) (by omega)) (by omega) dL_law_325 ?_
  refine r_aload_n (pc := 326) S0 0 dL_law_326 rfl rfl ?_
  refine r_iload_n (pc := 327) S0 3 dL_law_327 rfl rfl ?_
  refine r_iconst (pc := 328) S0 dL_law_328 ?_
  refine r_iadd (pc := 329) S0 dL_law_329 ?_
  refine r_sld (pc := 330) (j := q + 2) S0 hsc hL (lsi q 2 (by omega) (by omega)) (by omega) dL_law_330 ?_
  refine r_aload_n (pc := 331) S0 0 dL_law_331 rfl rfl ?_
  refine r_iload_n (pc := 332) S0 3 dL_law_332 rfl rfl ?_
  refine r_iconst (pc := 333) S0 dL_law_333 ?_
  refine r_iadd (pc := 334) S0 dL_law_334 ?_
  refine r_sld (pc := 335) (j := q + 3) S0 hsc hL (lsi q 3 (by omega) (by omega)) (by omega) dL_law_335 ?_
  refine r_aload_n (pc := 336) S0 0 dL_law_336 rfl rfl ?_
  refine r_iload_n (pc := 337) S0 3 dL_law_337 rfl rfl ?_
  refine r_iconst (pc := 338) S0 dL_law_338 ?_
  refine r_iadd (pc := 339) S0 dL_law_339 ?_
  refine r_sld (pc := 340) (j := q + 4) S0 hsc hL (lsi q 4 (by omega) (by omega)) (by omega) dL_law_340 ?_
  refine r_aload_n (pc := 341) S0 0 dL_law_341 rfl rfl ?_
  refine r_iload_n (pc := 342) S0 3 dL_law_342 rfl rfl ?_
  refine r_iconst (pc := 343) S0 dL_law_343 ?_
  refine r_iadd (pc := 344) S0 dL_law_344 ?_
  refine r_sld (pc := 345) (j := q + 5) S0 hsc hL (lsi q 5 (by omega) (by omega)) (by omega) dL_law_345 ?_
  obtain ⟨e1, h1, hf⟩ := ok_bind hf
  refine r_cV_I (pc := 346) [iv ((xs (q + 1)).toInt), iv ((xs (q + 2)).toInt), iv ((xs (q + 3)).toInt), iv ((xs (q + 4)).toInt), iv ((xs (q + 5)).toInt)] S0 hK hX mv_L_13 (k_X11_feed h1) (c_X11_feed l cA D N sx ad T A nx I wx ((xs (q + 1)).toInt) ((xs (q + 2)).toInt) ((xs (q + 3)).toInt) ((xs (q + 4)).toInt) ((xs (q + 5)).toInt) (cn_toInt _) (cn_toInt _) (cn_toInt _) (cn_toInt _) (cn_toInt _) e1 h1) rfl rfl ⟨by decide, by decide⟩ (Nat.le_of_ble_eq_true rfl) (show cells ≤ 600000 ∧ slots ≤ 7302250 by omega) dL_law_346 (fun c1 => ?_)
  refine r_aload_n (pc := 349) S0 2 dL_law_349 rfl rfl ?_
  refine r_aload_n (pc := 350) S0 0 dL_law_350 rfl rfl ?_
  refine r_iload_n (pc := 351) S0 3 dL_law_351 rfl rfl ?_
  refine r_iconst (pc := 352) S0 dL_law_352 ?_
  refine r_iadd (pc := 353) S0 dL_law_353 ?_
  refine r_sld (pc := 354) (j := q + 1) S0 hsc hL (lsi q 1 (by omega) (by omega)) (by omega) dL_law_354 ?_
  refine r_aload_n (pc := 355) S0 0 dL_law_355 rfl rfl ?_
  refine r_iload_n (pc := 356) S0 3 dL_law_356 rfl rfl ?_
  refine r_iconst (pc := 357) S0 dL_law_357 ?_
  refine r_iadd (pc := 358) S0 dL_law_358 ?_
  refine r_sld (pc := 359) (j := q + 2) S0 hsc hL (lsi q 2 (by omega) (by omega)) (by omega) dL_law_359 ?_
  refine r_aload_n (pc := 360) S0 0 dL_law_360 rfl rfl ?_
  refine r_iload_n (pc := 361) S0 3 dL_law_361 rfl rfl ?_
  refine r_iconst (pc := 362) S0 dL_law_362 ?_
  refine r_iadd (pc := 363) S0 dL_law_363 ?_
  refine r_sld (pc := 364) (j := q + 3) S0 hsc hL (lsi q 3 (by omega) (by omega)) (by omega) dL_law_364 ?_
  refine r_aload_n (pc := 365) S0 0 dL_law_365 rfl rfl ?_
  refine r_iload_n (pc := 366) S0 3 dL_law_366 rfl rfl ?_
  refine r_iconst (pc := 367) S0 dL_law_367 ?_
  refine r_iadd (pc := 368) S0 dL_law_368 ?_
  refine r_sld (pc := 369) (j := q + 4) S0 hsc hL (lsi q 4 (by omega) (by omega)) (by omega) dL_law_369 ?_
  refine r_aload_n (pc := 370) S0 0 dL_law_370 rfl rfl ?_
  refine r_iload_n (pc := 371) S0 3 dL_law_371 rfl rfl ?_
  refine r_iconst (pc := 372) S0 dL_law_372 ?_
  refine r_iadd (pc := 373) S0 dL_law_373 ?_
  refine r_sld (pc := 374) (j := q + 5) S0 hsc hL (lsi q 5 (by omega) (by omega)) (by omega) dL_law_374 ?_
  obtain ⟨e2, h2, hf⟩ := ok_bind hf
  refine r_cV_I (pc := 375) [iv ((xs (q + 1)).toInt), iv ((xs (q + 2)).toInt), iv ((xs (q + 3)).toInt), iv ((xs (q + 4)).toInt), iv ((xs (q + 5)).toInt)] S0 hK hX mv_L_17 (k_X12_feed h2) (c_X12_feed l cA D N sx ad T A nx e1.2 wm ((xs (q + 1)).toInt) ((xs (q + 2)).toInt) ((xs (q + 3)).toInt) ((xs (q + 4)).toInt) ((xs (q + 5)).toInt) (cn_toInt _) (cn_toInt _) (cn_toInt _) (cn_toInt _) (cn_toInt _) e2 h2) rfl rfl ⟨by decide, by decide⟩ (Nat.le_of_ble_eq_true rfl) (show cells ≤ 600000 ∧ slots ≤ 7302250 by omega) dL_law_375 (fun c2 => ?_)
  refine r_icmp_eq (pc := 378) (tgt := 1965) S0 dL_law_378 (by decide) c1 c2 hf (fun hf => ?_) (fun hf => (ok_none hf).elim)
  have hz := ok_some hf
  have hz : (T, A, nx, e2.2) = S2 := hz
  subst hz
  exact kk ad cells slots (fun _ _ => rfl) (by omega) (by omega) (Nat.le_refl _) hrb
set_option maxHeartbeats 4000000 in
set_option maxRecDepth 100000 in
theorem lc_1 {p : Program} {l : Launch} {e0 : Env} {s : State} {m : MethodId} {args : Array Value} {below : List Frame} {meth : Method} {c : Code} {cells slots : Nat} {Q : State → Prop} {cA : Nat → ClassId} {D : va_G} {N : Nat} {ad : Nat → Nat} {T : Knd} {A : Rfs} {nx : Nat} {I : Mem} {sx : Sx} {b L wx wm q : Nat} {xs : Nat → Int32} (S0 : CallFix p m c code 4 s args gT RL) (hK : va_K D vwCl (tyl cA) s) (hX : XX sx N s) (hAX : AX s) (hsc : SC N b L xs s) (hL : L ≤ 3072) (hq : q + 6 ≤ L) (hrb : RB A nx) (hbx : 1 ≤ wx ∧ wx ≤ nx) (hbm : 1 ≤ wm ∧ wm ≤ nx) (hcl : cells + 21 ≤ 600000 ∧ slots + 191 ≤ 7302250) {S2 : St} (hstep : ls_1 wx wm (xs (q + 1)).toInt (xs (q + 2)).toInt (xs (q + 3)).toInt (xs (q + 4)).toInt (xs (q + 5)).toInt T A nx I = some S2) (kk : ∀ (ad1 : Nat → Nat) (c2 s2 : Nat), (∀ i, i ≤ nx → ad1 i = ad i) → c2 ≤ cells + 21 → s2 ≤ slots + 191 → nx ≤ S2.2.2.1 → RB S2.2.1 S2.2.2.1 → G p l e0 room_1 s m args below meth c c2 s2 Q cA D N 4 ad1 S2.1 S2.2.1 S2.2.2.1 1965 [(0, .ref b), (1, rv ad1 wx), (2, rv ad1 wm), (3, iv (q : Int))] [] S2.2.2.2) : G p l e0 room_1 s m args below meth c cells slots Q cA D N 4 ad T A nx 383 [(0, .ref b), (1, rv ad wx), (2, rv ad wm), (3, iv (q : Int))] [] I := by
  have hf : OK (ls_1 wx wm (xs (q + 1)).toInt (xs (q + 2)).toInt (xs (q + 3)).toInt (xs (q + 4)).toInt (xs (q + 5)).toInt T A nx I) (fun z => z = S2) := ⟨S2, hstep, rfl⟩
  unfold ls_1 at hf
  refine r_aload_n (pc := 383) S0 1 dL_law_383 rfl rfl ?_
  refine r_aload_n (pc := 384) S0 0 dL_law_384 rfl rfl ?_
  refine r_iload_n (pc := 385) S0 3 dL_law_385 rfl rfl ?_
  refine r_iconst (pc := 386) S0 dL_law_386 ?_
  refine r_iadd (pc := 387) S0 dL_law_387 ?_
  refine r_sld (pc := 388) (j := q + 1) S0 hsc hL (lsi q 1 (by omega) (by omega)) (by omega) dL_law_388 ?_
  obtain ⟨e1, h1, hf⟩ := ok_bind hf
  refine r_cV_I (pc := 389) [iv ((xs (q + 1)).toInt)] S0 hK hX mv_L_18 (k_X11_end h1) (c_X11_end l cA D N sx ad T A nx I wx ((xs (q + 1)).toInt) (cn_toInt _) e1 h1) rfl rfl ⟨by decide, by decide⟩ (Nat.le_of_ble_eq_true rfl) (show cells ≤ 600000 ∧ slots ≤ 7302250 by omega) dL_law_389 (fun c1 => ?_)
  refine r_aload_n (pc := 392) S0 2 dL_law_392 rfl rfl ?_
  refine r_aload_n (pc := 393) S0 0 dL_law_393 rfl rfl ?_
  refine r_iload_n (pc := 394) S0 3 dL_law_394 rfl rfl ?_
  refine r_iconst (pc := 395) S0 dL_law_395 ?_
  refine r_iadd (pc := 396) S0 dL_law_396 ?_
  refine r_sld (pc := 397) (j := q + 1) S0 hsc hL (lsi q 1 (by omega) (by omega)) (by omega) dL_law_397 ?_
  obtain ⟨e2, h2, hf⟩ := ok_bind hf
  refine r_cV_I (pc := 398) [iv ((xs (q + 1)).toInt)] S0 hK hX mv_L_22 (k_X12_end h2) (c_X12_end l cA D N sx ad T A nx e1.2 wm ((xs (q + 1)).toInt) (cn_toInt _) e2 h2) rfl rfl ⟨by decide, by decide⟩ (Nat.le_of_ble_eq_true rfl) (show cells ≤ 600000 ∧ slots ≤ 7302250 by omega) dL_law_398 (fun c2 => ?_)
  refine r_icmp_eq (pc := 401) (tgt := 1965) S0 dL_law_401 (by decide) c1 c2 hf (fun hf => ?_) (fun hf => (ok_none hf).elim)
  have hz := ok_some hf
  have hz : (T, A, nx, e2.2) = S2 := hz
  subst hz
  exact kk ad cells slots (fun _ _ => rfl) (by omega) (by omega) (Nat.le_refl _) hrb
set_option maxHeartbeats 4000000 in
set_option maxRecDepth 100000 in
theorem lc_2 {p : Program} {l : Launch} {e0 : Env} {s : State} {m : MethodId} {args : Array Value} {below : List Frame} {meth : Method} {c : Code} {cells slots : Nat} {Q : State → Prop} {cA : Nat → ClassId} {D : va_G} {N : Nat} {ad : Nat → Nat} {T : Knd} {A : Rfs} {nx : Nat} {I : Mem} {sx : Sx} {b L wx wm q : Nat} {xs : Nat → Int32} (S0 : CallFix p m c code 4 s args gT RL) (hK : va_K D vwCl (tyl cA) s) (hX : XX sx N s) (hAX : AX s) (hsc : SC N b L xs s) (hL : L ≤ 3072) (hq : q + 6 ≤ L) (hrb : RB A nx) (hbx : 1 ≤ wx ∧ wx ≤ nx) (hbm : 1 ≤ wm ∧ wm ≤ nx) (hcl : cells + 21 ≤ 600000 ∧ slots + 191 ≤ 7302250) {S2 : St} (hstep : ls_2 wx wm (xs (q + 1)).toInt (xs (q + 2)).toInt (xs (q + 3)).toInt (xs (q + 4)).toInt (xs (q + 5)).toInt T A nx I = some S2) (kk : ∀ (ad1 : Nat → Nat) (c2 s2 : Nat), (∀ i, i ≤ nx → ad1 i = ad i) → c2 ≤ cells + 21 → s2 ≤ slots + 191 → nx ≤ S2.2.2.1 → RB S2.2.1 S2.2.2.1 → G p l e0 room_1 s m args below meth c c2 s2 Q cA D N 4 ad1 S2.1 S2.2.1 S2.2.2.1 1965 [(0, .ref b), (1, rv ad1 wx), (2, rv ad1 wm), (3, iv (q : Int))] [] S2.2.2.2) : G p l e0 room_1 s m args below meth c cells slots Q cA D N 4 ad T A nx 406 [(0, .ref b), (1, rv ad wx), (2, rv ad wm), (3, iv (q : Int))] [] I := by
  have hf : OK (ls_2 wx wm (xs (q + 1)).toInt (xs (q + 2)).toInt (xs (q + 3)).toInt (xs (q + 4)).toInt (xs (q + 5)).toInt T A nx I) (fun z => z = S2) := ⟨S2, hstep, rfl⟩
  unfold ls_2 at hf
  refine r_aload_n (pc := 406) S0 1 dL_law_406 rfl rfl ?_
  obtain ⟨e1, h1, hf⟩ := ok_bind hf
  refine r_cV_I (pc := 407) [] S0 hK hX mv_L_23 (k_X11_office h1) (c_X11_office l cA D N sx ad T A nx I wx e1 h1) rfl rfl ⟨by decide, by decide⟩ (Nat.le_of_ble_eq_true rfl) (show cells ≤ 600000 ∧ slots ≤ 7302250 by omega) dL_law_407 (fun c1 => ?_)
  refine r_aload_n (pc := 410) S0 2 dL_law_410 rfl rfl ?_
  obtain ⟨e2, h2, hf⟩ := ok_bind hf
  refine r_cV_I (pc := 411) [] S0 hK hX mv_L_27 (k_X12_office h2) (c_X12_office l cA D N sx ad T A nx e1.2 wm e2 h2) rfl rfl ⟨by decide, by decide⟩ (Nat.le_of_ble_eq_true rfl) (show cells ≤ 600000 ∧ slots ≤ 7302250 by omega) dL_law_411 (fun c2 => ?_)
  refine r_icmp_eq (pc := 414) (tgt := 1965) S0 dL_law_414 (by decide) c1 c2 hf (fun hf => ?_) (fun hf => (ok_none hf).elim)
  have hz := ok_some hf
  have hz : (T, A, nx, e2.2) = S2 := hz
  subst hz
  exact kk ad cells slots (fun _ _ => rfl) (by omega) (by omega) (Nat.le_refl _) hrb
set_option maxHeartbeats 4000000 in
set_option maxRecDepth 100000 in
theorem lc_3 {p : Program} {l : Launch} {e0 : Env} {s : State} {m : MethodId} {args : Array Value} {below : List Frame} {meth : Method} {c : Code} {cells slots : Nat} {Q : State → Prop} {cA : Nat → ClassId} {D : va_G} {N : Nat} {ad : Nat → Nat} {T : Knd} {A : Rfs} {nx : Nat} {I : Mem} {sx : Sx} {b L wx wm q : Nat} {xs : Nat → Int32} (S0 : CallFix p m c code 4 s args gT RL) (hK : va_K D vwCl (tyl cA) s) (hX : XX sx N s) (hAX : AX s) (hsc : SC N b L xs s) (hL : L ≤ 3072) (hq : q + 6 ≤ L) (hrb : RB A nx) (hbx : 1 ≤ wx ∧ wx ≤ nx) (hbm : 1 ≤ wm ∧ wm ≤ nx) (hcl : cells + 21 ≤ 600000 ∧ slots + 191 ≤ 7302250) {S2 : St} (hstep : ls_3 wx wm (xs (q + 1)).toInt (xs (q + 2)).toInt (xs (q + 3)).toInt (xs (q + 4)).toInt (xs (q + 5)).toInt T A nx I = some S2) (kk : ∀ (ad1 : Nat → Nat) (c2 s2 : Nat), (∀ i, i ≤ nx → ad1 i = ad i) → c2 ≤ cells + 21 → s2 ≤ slots + 191 → nx ≤ S2.2.2.1 → RB S2.2.1 S2.2.2.1 → G p l e0 room_1 s m args below meth c c2 s2 Q cA D N 4 ad1 S2.1 S2.2.1 S2.2.2.1 1965 [(0, .ref b), (1, rv ad1 wx), (2, rv ad1 wm), (3, iv (q : Int))] [] S2.2.2.2) : G p l e0 room_1 s m args below meth c cells slots Q cA D N 4 ad T A nx 419 [(0, .ref b), (1, rv ad wx), (2, rv ad wm), (3, iv (q : Int))] [] I := by
  have hf : OK (ls_3 wx wm (xs (q + 1)).toInt (xs (q + 2)).toInt (xs (q + 3)).toInt (xs (q + 4)).toInt (xs (q + 5)).toInt T A nx I) (fun z => z = S2) := ⟨S2, hstep, rfl⟩
  unfold ls_3 at hf
  refine r_aload_n (pc := 419) S0 1 dL_law_419 rfl rfl ?_
  refine r_aload_n (pc := 420) S0 0 dL_law_420 rfl rfl ?_
  refine r_iload_n (pc := 421) S0 3 dL_law_421 rfl rfl ?_
  refine r_iconst (pc := 422) S0 dL_law_422 ?_
  refine r_iadd (pc := 423) S0 dL_law_423 ?_
  refine r_sld (pc := 424) (j := q + 1) S0 hsc hL (lsi q 1 (by omega) (by omega)) (by omega) dL_law_424 ?_
  obtain ⟨e1, h1, hf⟩ := ok_bind hf
  refine r_cV_I (pc := 425) [iv ((xs (q + 1)).toInt)] S0 hK hX mv_L_28 (k_X11_fault h1) (c_X11_fault l cA D N sx ad T A nx I wx ((xs (q + 1)).toInt) (cn_toInt _) e1 h1) rfl rfl ⟨by decide, by decide⟩ (Nat.le_of_ble_eq_true rfl) (show cells ≤ 600000 ∧ slots ≤ 7302250 by omega) dL_law_425 (fun c1 => ?_)
  refine r_aload_n (pc := 428) S0 2 dL_law_428 rfl rfl ?_
  refine r_aload_n (pc := 429) S0 0 dL_law_429 rfl rfl ?_
  refine r_iload_n (pc := 430) S0 3 dL_law_430 rfl rfl ?_
  refine r_iconst (pc := 431) S0 dL_law_431 ?_
  refine r_iadd (pc := 432) S0 dL_law_432 ?_
  refine r_sld (pc := 433) (j := q + 1) S0 hsc hL (lsi q 1 (by omega) (by omega)) (by omega) dL_law_433 ?_
  obtain ⟨e2, h2, hf⟩ := ok_bind hf
  refine r_cV_I (pc := 434) [iv ((xs (q + 1)).toInt)] S0 hK hX mv_L_31 (k_X12_fault h2) (c_X12_fault l cA D N sx ad T A nx I wm ((xs (q + 1)).toInt) (cn_toInt _) e2 h2) rfl rfl ⟨by decide, by decide⟩ (Nat.le_of_ble_eq_true rfl) (show cells ≤ 600000 ∧ slots ≤ 7302250 by omega) dL_law_434 (fun c2 => ?_)
  refine r_icmp_eq (pc := 437) (tgt := 1965) S0 dL_law_437 (by decide) c1 c2 hf (fun hf => ?_) (fun hf => (ok_none hf).elim)
  have hz := ok_some hf
  have hz : (T, A, nx, e2.2) = S2 := hz
  subst hz
  exact kk ad cells slots (fun _ _ => rfl) (by omega) (by omega) (Nat.le_refl _) hrb
set_option maxHeartbeats 4000000 in
set_option maxRecDepth 100000 in
theorem lc_4 {p : Program} {l : Launch} {e0 : Env} {s : State} {m : MethodId} {args : Array Value} {below : List Frame} {meth : Method} {c : Code} {cells slots : Nat} {Q : State → Prop} {cA : Nat → ClassId} {D : va_G} {N : Nat} {ad : Nat → Nat} {T : Knd} {A : Rfs} {nx : Nat} {I : Mem} {sx : Sx} {b L wx wm q : Nat} {xs : Nat → Int32} (S0 : CallFix p m c code 4 s args gT RL) (hK : va_K D vwCl (tyl cA) s) (hX : XX sx N s) (hAX : AX s) (hsc : SC N b L xs s) (hL : L ≤ 3072) (hq : q + 6 ≤ L) (hrb : RB A nx) (hbx : 1 ≤ wx ∧ wx ≤ nx) (hbm : 1 ≤ wm ∧ wm ≤ nx) (hcl : cells + 21 ≤ 600000 ∧ slots + 191 ≤ 7302250) {S2 : St} (hstep : ls_4 wx wm (xs (q + 1)).toInt (xs (q + 2)).toInt (xs (q + 3)).toInt (xs (q + 4)).toInt (xs (q + 5)).toInt T A nx I = some S2) (kk : ∀ (ad1 : Nat → Nat) (c2 s2 : Nat), (∀ i, i ≤ nx → ad1 i = ad i) → c2 ≤ cells + 21 → s2 ≤ slots + 191 → nx ≤ S2.2.2.1 → RB S2.2.1 S2.2.2.1 → G p l e0 room_1 s m args below meth c c2 s2 Q cA D N 4 ad1 S2.1 S2.2.1 S2.2.2.1 1965 [(0, .ref b), (1, rv ad1 wx), (2, rv ad1 wm), (3, iv (q : Int))] [] S2.2.2.2) : G p l e0 room_1 s m args below meth c cells slots Q cA D N 4 ad T A nx 442 [(0, .ref b), (1, rv ad wx), (2, rv ad wm), (3, iv (q : Int))] [] I := by
  have hf : OK (ls_4 wx wm (xs (q + 1)).toInt (xs (q + 2)).toInt (xs (q + 3)).toInt (xs (q + 4)).toInt (xs (q + 5)).toInt T A nx I) (fun z => z = S2) := ⟨S2, hstep, rfl⟩
  unfold ls_4 at hf
  refine r_aload_n (pc := 442) S0 1 dL_law_442 rfl rfl ?_
  refine r_aload_n (pc := 443) S0 0 dL_law_443 rfl rfl ?_
  refine r_iload_n (pc := 444) S0 3 dL_law_444 rfl rfl ?_
  refine r_iconst (pc := 445) S0 dL_law_445 ?_
  refine r_iadd (pc := 446) S0 dL_law_446 ?_
  refine r_sld (pc := 447) (j := q + 1) S0 hsc hL (lsi q 1 (by omega) (by omega)) (by omega) dL_law_447 ?_
  refine r_aload_n (pc := 448) S0 0 dL_law_448 rfl rfl ?_
  refine r_iload_n (pc := 449) S0 3 dL_law_449 rfl rfl ?_
  refine r_iconst (pc := 450) S0 dL_law_450 ?_
  refine r_iadd (pc := 451) S0 dL_law_451 ?_
  refine r_sld (pc := 452) (j := q + 2) S0 hsc hL (lsi q 2 (by omega) (by omega)) (by omega) dL_law_452 ?_
  obtain ⟨e1, h1, hf⟩ := ok_bind hf
  refine r_cV_I (pc := 453) [iv ((xs (q + 1)).toInt), iv ((xs (q + 2)).toInt)] S0 hK hX mv_L_32 (k_X11_official h1) (c_X11_official l cA D N sx ad T A nx I wx ((xs (q + 1)).toInt) ((xs (q + 2)).toInt) (cn_toInt _) (cn_toInt _) e1 h1) rfl rfl ⟨by decide, by decide⟩ (Nat.le_of_ble_eq_true rfl) (show cells ≤ 600000 ∧ slots ≤ 7302250 by omega) dL_law_453 (fun c1 => ?_)
  refine r_aload_n (pc := 456) S0 2 dL_law_456 rfl rfl ?_
  refine r_aload_n (pc := 457) S0 0 dL_law_457 rfl rfl ?_
  refine r_iload_n (pc := 458) S0 3 dL_law_458 rfl rfl ?_
  refine r_iconst (pc := 459) S0 dL_law_459 ?_
  refine r_iadd (pc := 460) S0 dL_law_460 ?_
  refine r_sld (pc := 461) (j := q + 1) S0 hsc hL (lsi q 1 (by omega) (by omega)) (by omega) dL_law_461 ?_
  refine r_aload_n (pc := 462) S0 0 dL_law_462 rfl rfl ?_
  refine r_iload_n (pc := 463) S0 3 dL_law_463 rfl rfl ?_
  refine r_iconst (pc := 464) S0 dL_law_464 ?_
  refine r_iadd (pc := 465) S0 dL_law_465 ?_
  refine r_sld (pc := 466) (j := q + 2) S0 hsc hL (lsi q 2 (by omega) (by omega)) (by omega) dL_law_466 ?_
  obtain ⟨e2, h2, hf⟩ := ok_bind hf
  refine r_cV_I (pc := 467) [iv ((xs (q + 1)).toInt), iv ((xs (q + 2)).toInt)] S0 hK hX mv_L_36 (k_X12_official h2) (c_X12_official l cA D N sx ad T A nx I wm ((xs (q + 1)).toInt) ((xs (q + 2)).toInt) (cn_toInt _) (cn_toInt _) e2 h2) rfl rfl ⟨by decide, by decide⟩ (Nat.le_of_ble_eq_true rfl) (show cells ≤ 600000 ∧ slots ≤ 7302250 by omega) dL_law_467 (fun c2 => ?_)
  refine r_icmp_eq (pc := 470) (tgt := 1965) S0 dL_law_470 (by decide) c1 c2 hf (fun hf => ?_) (fun hf => (ok_none hf).elim)
  have hz := ok_some hf
  have hz : (T, A, nx, e2.2) = S2 := hz
  subst hz
  exact kk ad cells slots (fun _ _ => rfl) (by omega) (by omega) (Nat.le_refl _) hrb
set_option maxHeartbeats 4000000 in
set_option maxRecDepth 100000 in
theorem lc_5 {p : Program} {l : Launch} {e0 : Env} {s : State} {m : MethodId} {args : Array Value} {below : List Frame} {meth : Method} {c : Code} {cells slots : Nat} {Q : State → Prop} {cA : Nat → ClassId} {D : va_G} {N : Nat} {ad : Nat → Nat} {T : Knd} {A : Rfs} {nx : Nat} {I : Mem} {sx : Sx} {b L wx wm q : Nat} {xs : Nat → Int32} (S0 : CallFix p m c code 4 s args gT RL) (hK : va_K D vwCl (tyl cA) s) (hX : XX sx N s) (hAX : AX s) (hsc : SC N b L xs s) (hL : L ≤ 3072) (hq : q + 6 ≤ L) (hrb : RB A nx) (hbx : 1 ≤ wx ∧ wx ≤ nx) (hbm : 1 ≤ wm ∧ wm ≤ nx) (hcl : cells + 21 ≤ 600000 ∧ slots + 191 ≤ 7302250) {S2 : St} (hstep : ls_5 wx wm (xs (q + 1)).toInt (xs (q + 2)).toInt (xs (q + 3)).toInt (xs (q + 4)).toInt (xs (q + 5)).toInt T A nx I = some S2) (kk : ∀ (ad1 : Nat → Nat) (c2 s2 : Nat), (∀ i, i ≤ nx → ad1 i = ad i) → c2 ≤ cells + 21 → s2 ≤ slots + 191 → nx ≤ S2.2.2.1 → RB S2.2.1 S2.2.2.1 → G p l e0 room_1 s m args below meth c c2 s2 Q cA D N 4 ad1 S2.1 S2.2.1 S2.2.2.1 1965 [(0, .ref b), (1, rv ad1 wx), (2, rv ad1 wm), (3, iv (q : Int))] [] S2.2.2.2) : G p l e0 room_1 s m args below meth c cells slots Q cA D N 4 ad T A nx 475 [(0, .ref b), (1, rv ad wx), (2, rv ad wm), (3, iv (q : Int))] [] I := by
  have hf : OK (ls_5 wx wm (xs (q + 1)).toInt (xs (q + 2)).toInt (xs (q + 3)).toInt (xs (q + 4)).toInt (xs (q + 5)).toInt T A nx I) (fun z => z = S2) := ⟨S2, hstep, rfl⟩
  unfold ls_5 at hf
  refine r_aload_n (pc := 475) S0 1 dL_law_475 rfl rfl ?_
  refine r_aload_n (pc := 476) S0 0 dL_law_476 rfl rfl ?_
  refine r_iload_n (pc := 477) S0 3 dL_law_477 rfl rfl ?_
  refine r_iconst (pc := 478) S0 dL_law_478 ?_
  refine r_iadd (pc := 479) S0 dL_law_479 ?_
  refine r_sld (pc := 480) (j := q + 1) S0 hsc hL (lsi q 1 (by omega) (by omega)) (by omega) dL_law_480 ?_
  refine r_aload_n (pc := 481) S0 0 dL_law_481 rfl rfl ?_
  refine r_iload_n (pc := 482) S0 3 dL_law_482 rfl rfl ?_
  refine r_iconst (pc := 483) S0 dL_law_483 ?_
  refine r_iadd (pc := 484) S0 dL_law_484 ?_
  refine r_sld (pc := 485) (j := q + 2) S0 hsc hL (lsi q 2 (by omega) (by omega)) (by omega) dL_law_485 ?_
  obtain ⟨e1, h1, hf⟩ := ok_bind hf
  refine r_cV_I (pc := 486) [iv ((xs (q + 1)).toInt), iv ((xs (q + 2)).toInt)] S0 hK hX mv_L_37 (k_X11_asks h1) (c_X11_asks l cA D N sx ad T A nx I wx ((xs (q + 1)).toInt) ((xs (q + 2)).toInt) (cn_toInt _) (cn_toInt _) e1 h1) rfl rfl ⟨by decide, by decide⟩ (Nat.le_of_ble_eq_true rfl) (show cells ≤ 600000 ∧ slots ≤ 7302250 by omega) dL_law_486 (fun c1 => ?_)
  refine r_aload_n (pc := 489) S0 2 dL_law_489 rfl rfl ?_
  refine r_aload_n (pc := 490) S0 0 dL_law_490 rfl rfl ?_
  refine r_iload_n (pc := 491) S0 3 dL_law_491 rfl rfl ?_
  refine r_iconst (pc := 492) S0 dL_law_492 ?_
  refine r_iadd (pc := 493) S0 dL_law_493 ?_
  refine r_sld (pc := 494) (j := q + 1) S0 hsc hL (lsi q 1 (by omega) (by omega)) (by omega) dL_law_494 ?_
  refine r_aload_n (pc := 495) S0 0 dL_law_495 rfl rfl ?_
  refine r_iload_n (pc := 496) S0 3 dL_law_496 rfl rfl ?_
  refine r_iconst (pc := 497) S0 dL_law_497 ?_
  refine r_iadd (pc := 498) S0 dL_law_498 ?_
  refine r_sld (pc := 499) (j := q + 2) S0 hsc hL (lsi q 2 (by omega) (by omega)) (by omega) dL_law_499 ?_
  obtain ⟨e2, h2, hf⟩ := ok_bind hf
  refine r_cV_I (pc := 500) [iv ((xs (q + 1)).toInt), iv ((xs (q + 2)).toInt)] S0 hK hX mv_L_40 (k_X12_asks_ h2) (c_X12_asks_ l cA D N sx ad T A nx I wm ((xs (q + 1)).toInt) ((xs (q + 2)).toInt) (cn_toInt _) (cn_toInt _) e2 h2) rfl rfl ⟨by decide, by decide⟩ (Nat.le_of_ble_eq_true rfl) (show cells ≤ 600000 ∧ slots ≤ 7302250 by omega) dL_law_500 (fun c2 => ?_)
  refine r_icmp_eq (pc := 503) (tgt := 1965) S0 dL_law_503 (by decide) c1 c2 hf (fun hf => ?_) (fun hf => (ok_none hf).elim)
  have hz := ok_some hf
  have hz : (T, A, nx, e2.2) = S2 := hz
  subst hz
  exact kk ad cells slots (fun _ _ => rfl) (by omega) (by omega) (Nat.le_refl _) hrb
set_option maxHeartbeats 4000000 in
set_option maxRecDepth 100000 in
theorem lc_6 {p : Program} {l : Launch} {e0 : Env} {s : State} {m : MethodId} {args : Array Value} {below : List Frame} {meth : Method} {c : Code} {cells slots : Nat} {Q : State → Prop} {cA : Nat → ClassId} {D : va_G} {N : Nat} {ad : Nat → Nat} {T : Knd} {A : Rfs} {nx : Nat} {I : Mem} {sx : Sx} {b L wx wm q : Nat} {xs : Nat → Int32} (S0 : CallFix p m c code 4 s args gT RL) (hK : va_K D vwCl (tyl cA) s) (hX : XX sx N s) (hAX : AX s) (hsc : SC N b L xs s) (hL : L ≤ 3072) (hq : q + 6 ≤ L) (hrb : RB A nx) (hbx : 1 ≤ wx ∧ wx ≤ nx) (hbm : 1 ≤ wm ∧ wm ≤ nx) (hcl : cells + 21 ≤ 600000 ∧ slots + 191 ≤ 7302250) {S2 : St} (hstep : ls_6 wx wm (xs (q + 1)).toInt (xs (q + 2)).toInt (xs (q + 3)).toInt (xs (q + 4)).toInt (xs (q + 5)).toInt T A nx I = some S2) (kk : ∀ (ad1 : Nat → Nat) (c2 s2 : Nat), (∀ i, i ≤ nx → ad1 i = ad i) → c2 ≤ cells + 21 → s2 ≤ slots + 191 → nx ≤ S2.2.2.1 → RB S2.2.1 S2.2.2.1 → G p l e0 room_1 s m args below meth c c2 s2 Q cA D N 4 ad1 S2.1 S2.2.1 S2.2.2.1 1965 [(0, .ref b), (1, rv ad1 wx), (2, rv ad1 wm), (3, iv (q : Int))] [] S2.2.2.2) : G p l e0 room_1 s m args below meth c cells slots Q cA D N 4 ad T A nx 508 [(0, .ref b), (1, rv ad wx), (2, rv ad wm), (3, iv (q : Int))] [] I := by
  have hf : OK (ls_6 wx wm (xs (q + 1)).toInt (xs (q + 2)).toInt (xs (q + 3)).toInt (xs (q + 4)).toInt (xs (q + 5)).toInt T A nx I) (fun z => z = S2) := ⟨S2, hstep, rfl⟩
  unfold ls_6 at hf
  refine r_aload_n (pc := 508) S0 1 dL_law_508 rfl rfl ?_
  refine r_aload_n (pc := 509) S0 0 dL_law_509 rfl rfl ?_
  refine r_iload_n (pc := 510) S0 3 dL_law_510 rfl rfl ?_
  refine r_iconst (pc := 511) S0 dL_law_511 ?_
  refine r_iadd (pc := 512) S0 dL_law_512 ?_
  refine r_sld (pc := 513) (j := q + 1) S0 hsc hL (lsi q 1 (by omega) (by omega)) (by omega) dL_law_513 ?_
  refine r_aload_n (pc := 514) S0 0 dL_law_514 rfl rfl ?_
  refine r_iload_n (pc := 515) S0 3 dL_law_515 rfl rfl ?_
  refine r_iconst (pc := 516) S0 dL_law_516 ?_
  refine r_iadd (pc := 517) S0 dL_law_517 ?_
  refine r_sld (pc := 518) (j := q + 2) S0 hsc hL (lsi q 2 (by omega) (by omega)) (by omega) dL_law_518 ?_
  obtain ⟨e1, h1, hf⟩ := ok_bind hf
  refine r_cV_I (pc := 519) [iv ((xs (q + 1)).toInt), iv ((xs (q + 2)).toInt)] S0 hK hX mv_L_41 (k_X11_asked h1) (c_X11_asked l cA D N sx ad T A nx I wx ((xs (q + 1)).toInt) ((xs (q + 2)).toInt) (cn_toInt _) (cn_toInt _) e1 h1) rfl rfl ⟨by decide, by decide⟩ (Nat.le_of_ble_eq_true rfl) (show cells ≤ 600000 ∧ slots ≤ 7302250 by omega) dL_law_519 (fun c1 => ?_)
  refine r_aload_n (pc := 522) S0 2 dL_law_522 rfl rfl ?_
  refine r_aload_n (pc := 523) S0 0 dL_law_523 rfl rfl ?_
  refine r_iload_n (pc := 524) S0 3 dL_law_524 rfl rfl ?_
  refine r_iconst (pc := 525) S0 dL_law_525 ?_
  refine r_iadd (pc := 526) S0 dL_law_526 ?_
  refine r_sld (pc := 527) (j := q + 1) S0 hsc hL (lsi q 1 (by omega) (by omega)) (by omega) dL_law_527 ?_
  refine r_aload_n (pc := 528) S0 0 dL_law_528 rfl rfl ?_
  refine r_iload_n (pc := 529) S0 3 dL_law_529 rfl rfl ?_
  refine r_iconst (pc := 530) S0 dL_law_530 ?_
  refine r_iadd (pc := 531) S0 dL_law_531 ?_
  refine r_sld (pc := 532) (j := q + 2) S0 hsc hL (lsi q 2 (by omega) (by omega)) (by omega) dL_law_532 ?_
  obtain ⟨e2, h2, hf⟩ := ok_bind hf
  refine r_cV_I (pc := 533) [iv ((xs (q + 1)).toInt), iv ((xs (q + 2)).toInt)] S0 hK hX mv_L_44 (k_X12_asked h2) (c_X12_asked l cA D N sx ad T A nx I wm ((xs (q + 1)).toInt) ((xs (q + 2)).toInt) (cn_toInt _) (cn_toInt _) e2 h2) rfl rfl ⟨by decide, by decide⟩ (Nat.le_of_ble_eq_true rfl) (show cells ≤ 600000 ∧ slots ≤ 7302250 by omega) dL_law_533 (fun c2 => ?_)
  refine r_icmp_eq (pc := 536) (tgt := 1965) S0 dL_law_536 (by decide) c1 c2 hf (fun hf => ?_) (fun hf => (ok_none hf).elim)
  have hz := ok_some hf
  have hz : (T, A, nx, e2.2) = S2 := hz
  subst hz
  exact kk ad cells slots (fun _ _ => rfl) (by omega) (by omega) (Nat.le_refl _) hrb
set_option maxHeartbeats 4000000 in
set_option maxRecDepth 100000 in
theorem lc_7 {p : Program} {l : Launch} {e0 : Env} {s : State} {m : MethodId} {args : Array Value} {below : List Frame} {meth : Method} {c : Code} {cells slots : Nat} {Q : State → Prop} {cA : Nat → ClassId} {D : va_G} {N : Nat} {ad : Nat → Nat} {T : Knd} {A : Rfs} {nx : Nat} {I : Mem} {sx : Sx} {b L wx wm q : Nat} {xs : Nat → Int32} (S0 : CallFix p m c code 4 s args gT RL) (hK : va_K D vwCl (tyl cA) s) (hX : XX sx N s) (hAX : AX s) (hsc : SC N b L xs s) (hL : L ≤ 3072) (hq : q + 6 ≤ L) (hrb : RB A nx) (hbx : 1 ≤ wx ∧ wx ≤ nx) (hbm : 1 ≤ wm ∧ wm ≤ nx) (hcl : cells + 21 ≤ 600000 ∧ slots + 191 ≤ 7302250) {S2 : St} (hstep : ls_7 wx wm (xs (q + 1)).toInt (xs (q + 2)).toInt (xs (q + 3)).toInt (xs (q + 4)).toInt (xs (q + 5)).toInt T A nx I = some S2) (kk : ∀ (ad1 : Nat → Nat) (c2 s2 : Nat), (∀ i, i ≤ nx → ad1 i = ad i) → c2 ≤ cells + 21 → s2 ≤ slots + 191 → nx ≤ S2.2.2.1 → RB S2.2.1 S2.2.2.1 → G p l e0 room_1 s m args below meth c c2 s2 Q cA D N 4 ad1 S2.1 S2.2.1 S2.2.2.1 1965 [(0, .ref b), (1, rv ad1 wx), (2, rv ad1 wm), (3, iv (q : Int))] [] S2.2.2.2) : G p l e0 room_1 s m args below meth c cells slots Q cA D N 4 ad T A nx 541 [(0, .ref b), (1, rv ad wx), (2, rv ad wm), (3, iv (q : Int))] [] I := by
  have hf : OK (ls_7 wx wm (xs (q + 1)).toInt (xs (q + 2)).toInt (xs (q + 3)).toInt (xs (q + 4)).toInt (xs (q + 5)).toInt T A nx I) (fun z => z = S2) := ⟨S2, hstep, rfl⟩
  unfold ls_7 at hf
  refine r_aload_n (pc := 541) S0 1 dL_law_541 rfl rfl ?_
  refine r_aload_n (pc := 542) S0 0 dL_law_542 rfl rfl ?_
  refine r_iload_n (pc := 543) S0 3 dL_law_543 rfl rfl ?_
  refine r_iconst (pc := 544) S0 dL_law_544 ?_
  refine r_iadd (pc := 545) S0 dL_law_545 ?_
  refine r_sld (pc := 546) (j := q + 1) S0 hsc hL (lsi q 1 (by omega) (by omega)) (by omega) dL_law_546 ?_
  refine r_aload_n (pc := 547) S0 0 dL_law_547 rfl rfl ?_
  refine r_iload_n (pc := 548) S0 3 dL_law_548 rfl rfl ?_
  refine r_iconst (pc := 549) S0 dL_law_549 ?_
  refine r_iadd (pc := 550) S0 dL_law_550 ?_
  refine r_sld (pc := 551) (j := q + 2) S0 hsc hL (lsi q 2 (by omega) (by omega)) (by omega) dL_law_551 ?_
  obtain ⟨e1, h1, hf⟩ := ok_bind hf
  refine r_cV_I (pc := 552) [iv ((xs (q + 1)).toInt), iv ((xs (q + 2)).toInt)] S0 hK hX mv_L_45 (k_X11_open h1) (c_X11_open l cA D N sx ad T A nx I wx ((xs (q + 1)).toInt) ((xs (q + 2)).toInt) (cn_toInt _) (cn_toInt _) e1 h1) rfl rfl ⟨by decide, by decide⟩ (Nat.le_of_ble_eq_true rfl) (show cells ≤ 600000 ∧ slots ≤ 7302250 by omega) dL_law_552 (fun c1 => ?_)
  refine r_aload_n (pc := 555) S0 2 dL_law_555 rfl rfl ?_
  refine r_aload_n (pc := 556) S0 0 dL_law_556 rfl rfl ?_
  refine r_iload_n (pc := 557) S0 3 dL_law_557 rfl rfl ?_
  refine r_iconst (pc := 558) S0 dL_law_558 ?_
  refine r_iadd (pc := 559) S0 dL_law_559 ?_
  refine r_sld (pc := 560) (j := q + 1) S0 hsc hL (lsi q 1 (by omega) (by omega)) (by omega) dL_law_560 ?_
  refine r_aload_n (pc := 561) S0 0 dL_law_561 rfl rfl ?_
  refine r_iload_n (pc := 562) S0 3 dL_law_562 rfl rfl ?_
  refine r_iconst (pc := 563) S0 dL_law_563 ?_
  refine r_iadd (pc := 564) S0 dL_law_564 ?_
  refine r_sld (pc := 565) (j := q + 2) S0 hsc hL (lsi q 2 (by omega) (by omega)) (by omega) dL_law_565 ?_
  obtain ⟨e2, h2, hf⟩ := ok_bind hf
  refine r_cV_I (pc := 566) [iv ((xs (q + 1)).toInt), iv ((xs (q + 2)).toInt)] S0 hK hX mv_L_48 (k_X12_open h2) (c_X12_open l cA D N sx ad T A nx I wm ((xs (q + 1)).toInt) ((xs (q + 2)).toInt) (cn_toInt _) (cn_toInt _) e2 h2) rfl rfl ⟨by decide, by decide⟩ (Nat.le_of_ble_eq_true rfl) (show cells ≤ 600000 ∧ slots ≤ 7302250 by omega) dL_law_566 (fun c2 => ?_)
  refine r_icmp_eq (pc := 569) (tgt := 1965) S0 dL_law_569 (by decide) c1 c2 hf (fun hf => ?_) (fun hf => (ok_none hf).elim)
  have hz := ok_some hf
  have hz : (T, A, nx, e2.2) = S2 := hz
  subst hz
  exact kk ad cells slots (fun _ _ => rfl) (by omega) (by omega) (Nat.le_refl _) hrb
set_option maxHeartbeats 4000000 in
set_option maxRecDepth 100000 in
theorem lc_8 {p : Program} {l : Launch} {e0 : Env} {s : State} {m : MethodId} {args : Array Value} {below : List Frame} {meth : Method} {c : Code} {cells slots : Nat} {Q : State → Prop} {cA : Nat → ClassId} {D : va_G} {N : Nat} {ad : Nat → Nat} {T : Knd} {A : Rfs} {nx : Nat} {I : Mem} {sx : Sx} {b L wx wm q : Nat} {xs : Nat → Int32} (S0 : CallFix p m c code 4 s args gT RL) (hK : va_K D vwCl (tyl cA) s) (hX : XX sx N s) (hAX : AX s) (hsc : SC N b L xs s) (hL : L ≤ 3072) (hq : q + 6 ≤ L) (hrb : RB A nx) (hbx : 1 ≤ wx ∧ wx ≤ nx) (hbm : 1 ≤ wm ∧ wm ≤ nx) (hcl : cells + 21 ≤ 600000 ∧ slots + 191 ≤ 7302250) {S2 : St} (hstep : ls_8 wx wm (xs (q + 1)).toInt (xs (q + 2)).toInt (xs (q + 3)).toInt (xs (q + 4)).toInt (xs (q + 5)).toInt T A nx I = some S2) (kk : ∀ (ad1 : Nat → Nat) (c2 s2 : Nat), (∀ i, i ≤ nx → ad1 i = ad i) → c2 ≤ cells + 21 → s2 ≤ slots + 191 → nx ≤ S2.2.2.1 → RB S2.2.1 S2.2.2.1 → G p l e0 room_1 s m args below meth c c2 s2 Q cA D N 4 ad1 S2.1 S2.2.1 S2.2.2.1 1965 [(0, .ref b), (1, rv ad1 wx), (2, rv ad1 wm), (3, iv (q : Int))] [] S2.2.2.2) : G p l e0 room_1 s m args below meth c cells slots Q cA D N 4 ad T A nx 574 [(0, .ref b), (1, rv ad wx), (2, rv ad wm), (3, iv (q : Int))] [] I := by
  have hf : OK (ls_8 wx wm (xs (q + 1)).toInt (xs (q + 2)).toInt (xs (q + 3)).toInt (xs (q + 4)).toInt (xs (q + 5)).toInt T A nx I) (fun z => z = S2) := ⟨S2, hstep, rfl⟩
  unfold ls_8 at hf
  refine r_aload_n (pc := 574) S0 1 dL_law_574 rfl rfl ?_
  refine r_aload_n (pc := 575) S0 0 dL_law_575 rfl rfl ?_
  refine r_iload_n (pc := 576) S0 3 dL_law_576 rfl rfl ?_
  refine r_iconst (pc := 577) S0 dL_law_577 ?_
  refine r_iadd (pc := 578) S0 dL_law_578 ?_
  refine r_sld (pc := 579) (j := q + 1) S0 hsc hL (lsi q 1 (by omega) (by omega)) (by omega) dL_law_579 ?_
  refine r_aload_n (pc := 580) S0 0 dL_law_580 rfl rfl ?_
  refine r_iload_n (pc := 581) S0 3 dL_law_581 rfl rfl ?_
  refine r_iconst (pc := 582) S0 dL_law_582 ?_
  refine r_iadd (pc := 583) S0 dL_law_583 ?_
  refine r_sld (pc := 584) (j := q + 2) S0 hsc hL (lsi q 2 (by omega) (by omega)) (by omega) dL_law_584 ?_
  obtain ⟨e1, h1, hf⟩ := ok_bind hf
  refine r_cV_I (pc := 585) [iv ((xs (q + 1)).toInt), iv ((xs (q + 2)).toInt)] S0 hK hX mv_L_49 (k_X11_opens h1) (c_X11_opens l cA D N sx ad T A nx I wx ((xs (q + 1)).toInt) ((xs (q + 2)).toInt) (cn_toInt _) (cn_toInt _) e1 h1) rfl rfl ⟨by decide, by decide⟩ (Nat.le_of_ble_eq_true rfl) (show cells ≤ 600000 ∧ slots ≤ 7302250 by omega) dL_law_585 (fun c1 => ?_)
  refine r_aload_n (pc := 588) S0 2 dL_law_588 rfl rfl ?_
  refine r_aload_n (pc := 589) S0 0 dL_law_589 rfl rfl ?_
  refine r_iload_n (pc := 590) S0 3 dL_law_590 rfl rfl ?_
  refine r_iconst (pc := 591) S0 dL_law_591 ?_
  refine r_iadd (pc := 592) S0 dL_law_592 ?_
  refine r_sld (pc := 593) (j := q + 1) S0 hsc hL (lsi q 1 (by omega) (by omega)) (by omega) dL_law_593 ?_
  refine r_aload_n (pc := 594) S0 0 dL_law_594 rfl rfl ?_
  refine r_iload_n (pc := 595) S0 3 dL_law_595 rfl rfl ?_
  refine r_iconst (pc := 596) S0 dL_law_596 ?_
  refine r_iadd (pc := 597) S0 dL_law_597 ?_
  refine r_sld (pc := 598) (j := q + 2) S0 hsc hL (lsi q 2 (by omega) (by omega)) (by omega) dL_law_598 ?_
  obtain ⟨e2, h2, hf⟩ := ok_bind hf
  refine r_cV_I (pc := 599) [iv ((xs (q + 1)).toInt), iv ((xs (q + 2)).toInt)] S0 hK hX mv_L_52 (k_X12_opens h2) (c_X12_opens l cA D N sx ad T A nx I wm ((xs (q + 1)).toInt) ((xs (q + 2)).toInt) (cn_toInt _) (cn_toInt _) e2 h2) rfl rfl ⟨by decide, by decide⟩ (Nat.le_of_ble_eq_true rfl) (show cells ≤ 600000 ∧ slots ≤ 7302250 by omega) dL_law_599 (fun c2 => ?_)
  refine r_icmp_eq (pc := 602) (tgt := 1965) S0 dL_law_602 (by decide) c1 c2 hf (fun hf => ?_) (fun hf => (ok_none hf).elim)
  have hz := ok_some hf
  have hz : (T, A, nx, e2.2) = S2 := hz
  subst hz
  exact kk ad cells slots (fun _ _ => rfl) (by omega) (by omega) (Nat.le_refl _) hrb
set_option maxHeartbeats 4000000 in
set_option maxRecDepth 100000 in
theorem lc_9 {p : Program} {l : Launch} {e0 : Env} {s : State} {m : MethodId} {args : Array Value} {below : List Frame} {meth : Method} {c : Code} {cells slots : Nat} {Q : State → Prop} {cA : Nat → ClassId} {D : va_G} {N : Nat} {ad : Nat → Nat} {T : Knd} {A : Rfs} {nx : Nat} {I : Mem} {sx : Sx} {b L wx wm q : Nat} {xs : Nat → Int32} (S0 : CallFix p m c code 4 s args gT RL) (hK : va_K D vwCl (tyl cA) s) (hX : XX sx N s) (hAX : AX s) (hsc : SC N b L xs s) (hL : L ≤ 3072) (hq : q + 6 ≤ L) (hrb : RB A nx) (hbx : 1 ≤ wx ∧ wx ≤ nx) (hbm : 1 ≤ wm ∧ wm ≤ nx) (hcl : cells + 21 ≤ 600000 ∧ slots + 191 ≤ 7302250) {S2 : St} (hstep : ls_9 wx wm (xs (q + 1)).toInt (xs (q + 2)).toInt (xs (q + 3)).toInt (xs (q + 4)).toInt (xs (q + 5)).toInt T A nx I = some S2) (kk : ∀ (ad1 : Nat → Nat) (c2 s2 : Nat), (∀ i, i ≤ nx → ad1 i = ad i) → c2 ≤ cells + 21 → s2 ≤ slots + 191 → nx ≤ S2.2.2.1 → RB S2.2.1 S2.2.2.1 → G p l e0 room_1 s m args below meth c c2 s2 Q cA D N 4 ad1 S2.1 S2.2.1 S2.2.2.1 1965 [(0, .ref b), (1, rv ad1 wx), (2, rv ad1 wm), (3, iv (q : Int))] [] S2.2.2.2) : G p l e0 room_1 s m args below meth c cells slots Q cA D N 4 ad T A nx 607 [(0, .ref b), (1, rv ad wx), (2, rv ad wm), (3, iv (q : Int))] [] I := by
  have hf : OK (ls_9 wx wm (xs (q + 1)).toInt (xs (q + 2)).toInt (xs (q + 3)).toInt (xs (q + 4)).toInt (xs (q + 5)).toInt T A nx I) (fun z => z = S2) := ⟨S2, hstep, rfl⟩
  unfold ls_9 at hf
  refine r_aload_n (pc := 607) S0 1 dL_law_607 rfl rfl ?_
  refine r_aload_n (pc := 608) S0 0 dL_law_608 rfl rfl ?_
  refine r_iload_n (pc := 609) S0 3 dL_law_609 rfl rfl ?_
  refine r_iconst (pc := 610) S0 dL_law_610 ?_
  refine r_iadd (pc := 611) S0 dL_law_611 ?_
  refine r_sld (pc := 612) (j := q + 1) S0 hsc hL (lsi q 1 (by omega) (by omega)) (by omega) dL_law_612 ?_
  obtain ⟨e1, h1, hf⟩ := ok_bind hf
  refine r_cV_I (pc := 613) [iv ((xs (q + 1)).toInt)] S0 hK hX mv_L_53 (k_X11_week h1) (c_X11_week l cA D N sx ad T A nx I wx ((xs (q + 1)).toInt) (cn_toInt _) e1 h1) rfl rfl ⟨by decide, by decide⟩ (Nat.le_of_ble_eq_true rfl) (show cells ≤ 600000 ∧ slots ≤ 7302250 by omega) dL_law_613 (fun c1 => ?_)
  refine r_aload_n (pc := 616) S0 2 dL_law_616 rfl rfl ?_
  refine r_aload_n (pc := 617) S0 0 dL_law_617 rfl rfl ?_
  refine r_iload_n (pc := 618) S0 3 dL_law_618 rfl rfl ?_
  refine r_iconst (pc := 619) S0 dL_law_619 ?_
  refine r_iadd (pc := 620) S0 dL_law_620 ?_
  refine r_sld (pc := 621) (j := q + 1) S0 hsc hL (lsi q 1 (by omega) (by omega)) (by omega) dL_law_621 ?_
  obtain ⟨e2, h2, hf⟩ := ok_bind hf
  refine r_cV_I (pc := 622) [iv ((xs (q + 1)).toInt)] S0 hK hX mv_L_56 (k_X12_week h2) (c_X12_week l cA D N sx ad T A nx I wm ((xs (q + 1)).toInt) (cn_toInt _) e2 h2) rfl rfl ⟨by decide, by decide⟩ (Nat.le_of_ble_eq_true rfl) (show cells ≤ 600000 ∧ slots ≤ 7302250 by omega) dL_law_622 (fun c2 => ?_)
  refine r_icmp_eq (pc := 625) (tgt := 1965) S0 dL_law_625 (by decide) c1 c2 hf (fun hf => ?_) (fun hf => (ok_none hf).elim)
  have hz := ok_some hf
  have hz : (T, A, nx, e2.2) = S2 := hz
  subst hz
  exact kk ad cells slots (fun _ _ => rfl) (by omega) (by omega) (Nat.le_refl _) hrb
set_option maxHeartbeats 4000000 in
set_option maxRecDepth 100000 in
theorem lc_10 {p : Program} {l : Launch} {e0 : Env} {s : State} {m : MethodId} {args : Array Value} {below : List Frame} {meth : Method} {c : Code} {cells slots : Nat} {Q : State → Prop} {cA : Nat → ClassId} {D : va_G} {N : Nat} {ad : Nat → Nat} {T : Knd} {A : Rfs} {nx : Nat} {I : Mem} {sx : Sx} {b L wx wm q : Nat} {xs : Nat → Int32} (S0 : CallFix p m c code 4 s args gT RL) (hK : va_K D vwCl (tyl cA) s) (hX : XX sx N s) (hAX : AX s) (hsc : SC N b L xs s) (hL : L ≤ 3072) (hq : q + 6 ≤ L) (hrb : RB A nx) (hbx : 1 ≤ wx ∧ wx ≤ nx) (hbm : 1 ≤ wm ∧ wm ≤ nx) (hcl : cells + 21 ≤ 600000 ∧ slots + 191 ≤ 7302250) {S2 : St} (hstep : ls_10 wx wm (xs (q + 1)).toInt (xs (q + 2)).toInt (xs (q + 3)).toInt (xs (q + 4)).toInt (xs (q + 5)).toInt T A nx I = some S2) (kk : ∀ (ad1 : Nat → Nat) (c2 s2 : Nat), (∀ i, i ≤ nx → ad1 i = ad i) → c2 ≤ cells + 21 → s2 ≤ slots + 191 → nx ≤ S2.2.2.1 → RB S2.2.1 S2.2.2.1 → G p l e0 room_1 s m args below meth c c2 s2 Q cA D N 4 ad1 S2.1 S2.2.1 S2.2.2.1 1965 [(0, .ref b), (1, rv ad1 wx), (2, rv ad1 wm), (3, iv (q : Int))] [] S2.2.2.2) : G p l e0 room_1 s m args below meth c cells slots Q cA D N 4 ad T A nx 630 [(0, .ref b), (1, rv ad wx), (2, rv ad wm), (3, iv (q : Int))] [] I := by
  have hf : OK (ls_10 wx wm (xs (q + 1)).toInt (xs (q + 2)).toInt (xs (q + 3)).toInt (xs (q + 4)).toInt (xs (q + 5)).toInt T A nx I) (fun z => z = S2) := ⟨S2, hstep, rfl⟩
  unfold ls_10 at hf
  refine r_aload_n (pc := 630) S0 1 dL_law_630 rfl rfl ?_
  refine r_aload_n (pc := 631) S0 0 dL_law_631 rfl rfl ?_
  refine r_iload_n (pc := 632) S0 3 dL_law_632 rfl rfl ?_
  refine r_iconst (pc := 633) S0 dL_law_633 ?_
  refine r_iadd (pc := 634) S0 dL_law_634 ?_
  refine r_sld (pc := 635) (j := q + 1) S0 hsc hL (lsi q 1 (by omega) (by omega)) (by omega) dL_law_635 ?_
  refine r_aload_n (pc := 636) S0 0 dL_law_636 rfl rfl ?_
  refine r_iload_n (pc := 637) S0 3 dL_law_637 rfl rfl ?_
  refine r_iconst (pc := 638) S0 dL_law_638 ?_
  refine r_iadd (pc := 639) S0 dL_law_639 ?_
  refine r_sld (pc := 640) (j := q + 2) S0 hsc hL (lsi q 2 (by omega) (by omega)) (by omega) dL_law_640 ?_
  obtain ⟨e1, h1, hf⟩ := ok_bind hf
  refine r_cV_I (pc := 641) [iv ((xs (q + 1)).toInt), iv ((xs (q + 2)).toInt)] S0 hK hX mv_L_57 (k_X11_walk h1) (c_X11_walk l cA D N sx ad T A nx I wx ((xs (q + 1)).toInt) ((xs (q + 2)).toInt) (cn_toInt _) (cn_toInt _) e1 h1) rfl rfl ⟨by decide, by decide⟩ (Nat.le_of_ble_eq_true rfl) (show cells ≤ 600000 ∧ slots ≤ 7302250 by omega) dL_law_641 (fun c1 => ?_)
  refine r_aload_n (pc := 644) S0 2 dL_law_644 rfl rfl ?_
  refine r_aload_n (pc := 645) S0 0 dL_law_645 rfl rfl ?_
  refine r_iload_n (pc := 646) S0 3 dL_law_646 rfl rfl ?_
  refine r_iconst (pc := 647) S0 dL_law_647 ?_
  refine r_iadd (pc := 648) S0 dL_law_648 ?_
  refine r_sld (pc := 649) (j := q + 1) S0 hsc hL (lsi q 1 (by omega) (by omega)) (by omega) dL_law_649 ?_
  refine r_aload_n (pc := 650) S0 0 dL_law_650 rfl rfl ?_
  refine r_iload_n (pc := 651) S0 3 dL_law_651 rfl rfl ?_
  refine r_iconst (pc := 652) S0 dL_law_652 ?_
  refine r_iadd (pc := 653) S0 dL_law_653 ?_
  refine r_sld (pc := 654) (j := q + 2) S0 hsc hL (lsi q 2 (by omega) (by omega)) (by omega) dL_law_654 ?_
  obtain ⟨e2, h2, hf⟩ := ok_bind hf
  refine r_cV_I (pc := 655) [iv ((xs (q + 1)).toInt), iv ((xs (q + 2)).toInt)] S0 hK hX mv_L_60 (k_X12_walk h2) (c_X12_walk l cA D N sx ad T A nx I wm ((xs (q + 1)).toInt) ((xs (q + 2)).toInt) (cn_toInt _) (cn_toInt _) e2 h2) rfl rfl ⟨by decide, by decide⟩ (Nat.le_of_ble_eq_true rfl) (show cells ≤ 600000 ∧ slots ≤ 7302250 by omega) dL_law_655 (fun c2 => ?_)
  refine r_icmp_eq (pc := 658) (tgt := 1965) S0 dL_law_658 (by decide) c1 c2 hf (fun hf => ?_) (fun hf => (ok_none hf).elim)
  have hz := ok_some hf
  have hz : (T, A, nx, e2.2) = S2 := hz
  subst hz
  exact kk ad cells slots (fun _ _ => rfl) (by omega) (by omega) (Nat.le_refl _) hrb
set_option maxHeartbeats 4000000 in
set_option maxRecDepth 100000 in
theorem lc_11 {p : Program} {l : Launch} {e0 : Env} {s : State} {m : MethodId} {args : Array Value} {below : List Frame} {meth : Method} {c : Code} {cells slots : Nat} {Q : State → Prop} {cA : Nat → ClassId} {D : va_G} {N : Nat} {ad : Nat → Nat} {T : Knd} {A : Rfs} {nx : Nat} {I : Mem} {sx : Sx} {b L wx wm q : Nat} {xs : Nat → Int32} (S0 : CallFix p m c code 4 s args gT RL) (hK : va_K D vwCl (tyl cA) s) (hX : XX sx N s) (hAX : AX s) (hsc : SC N b L xs s) (hL : L ≤ 3072) (hq : q + 6 ≤ L) (hrb : RB A nx) (hbx : 1 ≤ wx ∧ wx ≤ nx) (hbm : 1 ≤ wm ∧ wm ≤ nx) (hcl : cells + 21 ≤ 600000 ∧ slots + 191 ≤ 7302250) {S2 : St} (hstep : ls_11 wx wm (xs (q + 1)).toInt (xs (q + 2)).toInt (xs (q + 3)).toInt (xs (q + 4)).toInt (xs (q + 5)).toInt T A nx I = some S2) (kk : ∀ (ad1 : Nat → Nat) (c2 s2 : Nat), (∀ i, i ≤ nx → ad1 i = ad i) → c2 ≤ cells + 21 → s2 ≤ slots + 191 → nx ≤ S2.2.2.1 → RB S2.2.1 S2.2.2.1 → G p l e0 room_1 s m args below meth c c2 s2 Q cA D N 4 ad1 S2.1 S2.2.1 S2.2.2.1 1965 [(0, .ref b), (1, rv ad1 wx), (2, rv ad1 wm), (3, iv (q : Int))] [] S2.2.2.2) : G p l e0 room_1 s m args below meth c cells slots Q cA D N 4 ad T A nx 663 [(0, .ref b), (1, rv ad wx), (2, rv ad wm), (3, iv (q : Int))] [] I := by
  have hf : OK (ls_11 wx wm (xs (q + 1)).toInt (xs (q + 2)).toInt (xs (q + 3)).toInt (xs (q + 4)).toInt (xs (q + 5)).toInt T A nx I) (fun z => z = S2) := ⟨S2, hstep, rfl⟩
  unfold ls_11 at hf
  refine r_aload_n (pc := 663) S0 1 dL_law_663 rfl rfl ?_
  obtain ⟨e1, h1, hf⟩ := ok_bind hf
  refine r_cV_I (pc := 664) [] S0 hK hX mv_L_61 (k_X11_permit h1) (c_X11_permit l cA D N sx ad T A nx I wx e1 h1) rfl rfl ⟨by decide, by decide⟩ (Nat.le_of_ble_eq_true rfl) (show cells ≤ 600000 ∧ slots ≤ 7302250 by omega) dL_law_664 (fun c1 => ?_)
  refine r_aload_n (pc := 667) S0 2 dL_law_667 rfl rfl ?_
  obtain ⟨e2, h2, hf⟩ := ok_bind hf
  refine r_cV_I (pc := 668) [] S0 hK hX mv_L_64 (k_X12_permit h2) (c_X12_permit l cA D N sx ad T A nx I wm e2 h2) rfl rfl ⟨by decide, by decide⟩ (Nat.le_of_ble_eq_true rfl) (show cells ≤ 600000 ∧ slots ≤ 7302250 by omega) dL_law_668 (fun c2 => ?_)
  refine r_icmp_eq (pc := 671) (tgt := 1965) S0 dL_law_671 (by decide) c1 c2 hf (fun hf => ?_) (fun hf => (ok_none hf).elim)
  have hz := ok_some hf
  have hz : (T, A, nx, e2.2) = S2 := hz
  subst hz
  exact kk ad cells slots (fun _ _ => rfl) (by omega) (by omega) (Nat.le_refl _) hrb
set_option maxHeartbeats 4000000 in
set_option maxRecDepth 100000 in
theorem lc_12 {p : Program} {l : Launch} {e0 : Env} {s : State} {m : MethodId} {args : Array Value} {below : List Frame} {meth : Method} {c : Code} {cells slots : Nat} {Q : State → Prop} {cA : Nat → ClassId} {D : va_G} {N : Nat} {ad : Nat → Nat} {T : Knd} {A : Rfs} {nx : Nat} {I : Mem} {sx : Sx} {b L wx wm q : Nat} {xs : Nat → Int32} (S0 : CallFix p m c code 4 s args gT RL) (hK : va_K D vwCl (tyl cA) s) (hX : XX sx N s) (hAX : AX s) (hsc : SC N b L xs s) (hL : L ≤ 3072) (hq : q + 6 ≤ L) (hrb : RB A nx) (hbx : 1 ≤ wx ∧ wx ≤ nx) (hbm : 1 ≤ wm ∧ wm ≤ nx) (hcl : cells + 21 ≤ 600000 ∧ slots + 191 ≤ 7302250) {S2 : St} (hstep : ls_12 wx wm (xs (q + 1)).toInt (xs (q + 2)).toInt (xs (q + 3)).toInt (xs (q + 4)).toInt (xs (q + 5)).toInt T A nx I = some S2) (kk : ∀ (ad1 : Nat → Nat) (c2 s2 : Nat), (∀ i, i ≤ nx → ad1 i = ad i) → c2 ≤ cells + 21 → s2 ≤ slots + 191 → nx ≤ S2.2.2.1 → RB S2.2.1 S2.2.2.1 → G p l e0 room_1 s m args below meth c c2 s2 Q cA D N 4 ad1 S2.1 S2.2.1 S2.2.2.1 1965 [(0, .ref b), (1, rv ad1 wx), (2, rv ad1 wm), (3, iv (q : Int))] [] S2.2.2.2) : G p l e0 room_1 s m args below meth c cells slots Q cA D N 4 ad T A nx 676 [(0, .ref b), (1, rv ad wx), (2, rv ad wm), (3, iv (q : Int))] [] I := by
  have hf : OK (ls_12 wx wm (xs (q + 1)).toInt (xs (q + 2)).toInt (xs (q + 3)).toInt (xs (q + 4)).toInt (xs (q + 5)).toInt T A nx I) (fun z => z = S2) := ⟨S2, hstep, rfl⟩
  unfold ls_12 at hf
  refine r_aload_n (pc := 676) S0 1 dL_law_676 rfl rfl ?_
  obtain ⟨e1, h1, hf⟩ := ok_bind hf
  refine r_cV_I (pc := 677) [] S0 hK hX mv_L_65 (k_X11_now h1) (c_X11_now l cA D N sx ad T A nx I wx e1 h1) rfl rfl ⟨by decide, by decide⟩ (Nat.le_of_ble_eq_true rfl) (show cells ≤ 600000 ∧ slots ≤ 7302250 by omega) dL_law_677 (fun c1 => ?_)
  refine r_aload_n (pc := 680) S0 2 dL_law_680 rfl rfl ?_
  obtain ⟨e2, h2, hf⟩ := ok_bind hf
  refine r_cV_I (pc := 681) [] S0 hK hX mv_L_68 (k_X12_now h2) (c_X12_now l cA D N sx ad T A nx I wm e2 h2) rfl rfl ⟨by decide, by decide⟩ (Nat.le_of_ble_eq_true rfl) (show cells ≤ 600000 ∧ slots ≤ 7302250 by omega) dL_law_681 (fun c2 => ?_)
  refine r_icmp_eq (pc := 684) (tgt := 1965) S0 dL_law_684 (by decide) c1 c2 hf (fun hf => ?_) (fun hf => (ok_none hf).elim)
  have hz := ok_some hf
  have hz : (T, A, nx, e2.2) = S2 := hz
  subst hz
  exact kk ad cells slots (fun _ _ => rfl) (by omega) (by omega) (Nat.le_refl _) hrb
set_option maxHeartbeats 4000000 in
set_option maxRecDepth 100000 in
theorem lc_13 {p : Program} {l : Launch} {e0 : Env} {s : State} {m : MethodId} {args : Array Value} {below : List Frame} {meth : Method} {c : Code} {cells slots : Nat} {Q : State → Prop} {cA : Nat → ClassId} {D : va_G} {N : Nat} {ad : Nat → Nat} {T : Knd} {A : Rfs} {nx : Nat} {I : Mem} {sx : Sx} {b L wx wm q : Nat} {xs : Nat → Int32} (S0 : CallFix p m c code 4 s args gT RL) (hK : va_K D vwCl (tyl cA) s) (hX : XX sx N s) (hAX : AX s) (hsc : SC N b L xs s) (hL : L ≤ 3072) (hq : q + 6 ≤ L) (hrb : RB A nx) (hbx : 1 ≤ wx ∧ wx ≤ nx) (hbm : 1 ≤ wm ∧ wm ≤ nx) (hcl : cells + 21 ≤ 600000 ∧ slots + 191 ≤ 7302250) {S2 : St} (hstep : ls_13 wx wm (xs (q + 1)).toInt (xs (q + 2)).toInt (xs (q + 3)).toInt (xs (q + 4)).toInt (xs (q + 5)).toInt T A nx I = some S2) (kk : ∀ (ad1 : Nat → Nat) (c2 s2 : Nat), (∀ i, i ≤ nx → ad1 i = ad i) → c2 ≤ cells + 21 → s2 ≤ slots + 191 → nx ≤ S2.2.2.1 → RB S2.2.1 S2.2.2.1 → G p l e0 room_1 s m args below meth c c2 s2 Q cA D N 4 ad1 S2.1 S2.2.1 S2.2.2.1 1965 [(0, .ref b), (1, rv ad1 wx), (2, rv ad1 wm), (3, iv (q : Int))] [] S2.2.2.2) : G p l e0 room_1 s m args below meth c cells slots Q cA D N 4 ad T A nx 689 [(0, .ref b), (1, rv ad wx), (2, rv ad wm), (3, iv (q : Int))] [] I := by
  have hf : OK (ls_13 wx wm (xs (q + 1)).toInt (xs (q + 2)).toInt (xs (q + 3)).toInt (xs (q + 4)).toInt (xs (q + 5)).toInt T A nx I) (fun z => z = S2) := ⟨S2, hstep, rfl⟩
  unfold ls_13 at hf
  refine r_aload_n (pc := 689) S0 1 dL_law_689 rfl rfl ?_
  obtain ⟨e1, h1, hf⟩ := ok_bind hf
  refine r_cV_I (pc := 690) [] S0 hK hX mv_L_69 (k_X11_room h1) (c_X11_room l cA D N sx ad T A nx I wx e1 h1) rfl rfl ⟨by decide, by decide⟩ (Nat.le_of_ble_eq_true rfl) (show cells ≤ 600000 ∧ slots ≤ 7302250 by omega) dL_law_690 (fun c1 => ?_)
  refine r_aload_n (pc := 693) S0 2 dL_law_693 rfl rfl ?_
  obtain ⟨e2, h2, hf⟩ := ok_bind hf
  refine r_cV_I (pc := 694) [] S0 hK hX mv_L_72 (k_X12_room h2) (c_X12_room l cA D N sx ad T A nx I wm e2 h2) rfl rfl ⟨by decide, by decide⟩ (Nat.le_of_ble_eq_true rfl) (show cells ≤ 600000 ∧ slots ≤ 7302250 by omega) dL_law_694 (fun c2 => ?_)
  refine r_icmp_eq (pc := 697) (tgt := 1965) S0 dL_law_697 (by decide) c1 c2 hf (fun hf => ?_) (fun hf => (ok_none hf).elim)
  have hz := ok_some hf
  have hz : (T, A, nx, e2.2) = S2 := hz
  subst hz
  exact kk ad cells slots (fun _ _ => rfl) (by omega) (by omega) (Nat.le_refl _) hrb
set_option maxHeartbeats 4000000 in
set_option maxRecDepth 100000 in
theorem lc_14 {p : Program} {l : Launch} {e0 : Env} {s : State} {m : MethodId} {args : Array Value} {below : List Frame} {meth : Method} {c : Code} {cells slots : Nat} {Q : State → Prop} {cA : Nat → ClassId} {D : va_G} {N : Nat} {ad : Nat → Nat} {T : Knd} {A : Rfs} {nx : Nat} {I : Mem} {sx : Sx} {b L wx wm q : Nat} {xs : Nat → Int32} (S0 : CallFix p m c code 4 s args gT RL) (hK : va_K D vwCl (tyl cA) s) (hX : XX sx N s) (hAX : AX s) (hsc : SC N b L xs s) (hL : L ≤ 3072) (hq : q + 6 ≤ L) (hrb : RB A nx) (hbx : 1 ≤ wx ∧ wx ≤ nx) (hbm : 1 ≤ wm ∧ wm ≤ nx) (hcl : cells + 21 ≤ 600000 ∧ slots + 191 ≤ 7302250) {S2 : St} (hstep : ls_14 wx wm (xs (q + 1)).toInt (xs (q + 2)).toInt (xs (q + 3)).toInt (xs (q + 4)).toInt (xs (q + 5)).toInt T A nx I = some S2) (kk : ∀ (ad1 : Nat → Nat) (c2 s2 : Nat), (∀ i, i ≤ nx → ad1 i = ad i) → c2 ≤ cells + 21 → s2 ≤ slots + 191 → nx ≤ S2.2.2.1 → RB S2.2.1 S2.2.2.1 → G p l e0 room_1 s m args below meth c c2 s2 Q cA D N 4 ad1 S2.1 S2.2.1 S2.2.2.1 1965 [(0, .ref b), (1, rv ad1 wx), (2, rv ad1 wm), (3, iv (q : Int))] [] S2.2.2.2) : G p l e0 room_1 s m args below meth c cells slots Q cA D N 4 ad T A nx 702 [(0, .ref b), (1, rv ad wx), (2, rv ad wm), (3, iv (q : Int))] [] I := by
  have hf : OK (ls_14 wx wm (xs (q + 1)).toInt (xs (q + 2)).toInt (xs (q + 3)).toInt (xs (q + 4)).toInt (xs (q + 5)).toInt T A nx I) (fun z => z = S2) := ⟨S2, hstep, rfl⟩
  unfold ls_14 at hf
  refine r_aload_n (pc := 702) S0 1 dL_law_702 rfl rfl ?_
  obtain ⟨e1, h1, hf⟩ := ok_bind hf
  refine r_cV_I (pc := 703) [] S0 hK hX mv_L_73 (k_X11_held h1) (c_X11_held l cA D N sx ad T A nx I wx e1 h1) rfl rfl ⟨by decide, by decide⟩ (Nat.le_of_ble_eq_true rfl) (show cells ≤ 600000 ∧ slots ≤ 7302250 by omega) dL_law_703 (fun c1 => ?_)
  refine r_aload_n (pc := 706) S0 2 dL_law_706 rfl rfl ?_
  obtain ⟨e2, h2, hf⟩ := ok_bind hf
  refine r_cV_I (pc := 707) [] S0 hK hX mv_L_76 (k_X12_held h2) (c_X12_held l cA D N sx ad T A nx I wm e2 h2) rfl rfl ⟨by decide, by decide⟩ (Nat.le_of_ble_eq_true rfl) (show cells ≤ 600000 ∧ slots ≤ 7302250 by omega) dL_law_707 (fun c2 => ?_)
  refine r_icmp_eq (pc := 710) (tgt := 1965) S0 dL_law_710 (by decide) c1 c2 hf (fun hf => ?_) (fun hf => (ok_none hf).elim)
  have hz := ok_some hf
  have hz : (T, A, nx, e2.2) = S2 := hz
  subst hz
  exact kk ad cells slots (fun _ _ => rfl) (by omega) (by omega) (Nat.le_refl _) hrb
set_option maxHeartbeats 4000000 in
set_option maxRecDepth 100000 in
theorem lc_15 {p : Program} {l : Launch} {e0 : Env} {s : State} {m : MethodId} {args : Array Value} {below : List Frame} {meth : Method} {c : Code} {cells slots : Nat} {Q : State → Prop} {cA : Nat → ClassId} {D : va_G} {N : Nat} {ad : Nat → Nat} {T : Knd} {A : Rfs} {nx : Nat} {I : Mem} {sx : Sx} {b L wx wm q : Nat} {xs : Nat → Int32} (S0 : CallFix p m c code 4 s args gT RL) (hK : va_K D vwCl (tyl cA) s) (hX : XX sx N s) (hAX : AX s) (hsc : SC N b L xs s) (hL : L ≤ 3072) (hq : q + 6 ≤ L) (hrb : RB A nx) (hbx : 1 ≤ wx ∧ wx ≤ nx) (hbm : 1 ≤ wm ∧ wm ≤ nx) (hcl : cells + 21 ≤ 600000 ∧ slots + 191 ≤ 7302250) {S2 : St} (hstep : ls_15 wx wm (xs (q + 1)).toInt (xs (q + 2)).toInt (xs (q + 3)).toInt (xs (q + 4)).toInt (xs (q + 5)).toInt T A nx I = some S2) (kk : ∀ (ad1 : Nat → Nat) (c2 s2 : Nat), (∀ i, i ≤ nx → ad1 i = ad i) → c2 ≤ cells + 21 → s2 ≤ slots + 191 → nx ≤ S2.2.2.1 → RB S2.2.1 S2.2.2.1 → G p l e0 room_1 s m args below meth c c2 s2 Q cA D N 4 ad1 S2.1 S2.2.1 S2.2.2.1 1965 [(0, .ref b), (1, rv ad1 wx), (2, rv ad1 wm), (3, iv (q : Int))] [] S2.2.2.2) : G p l e0 room_1 s m args below meth c cells slots Q cA D N 4 ad T A nx 715 [(0, .ref b), (1, rv ad wx), (2, rv ad wm), (3, iv (q : Int))] [] I := by
  have hf : OK (ls_15 wx wm (xs (q + 1)).toInt (xs (q + 2)).toInt (xs (q + 3)).toInt (xs (q + 4)).toInt (xs (q + 5)).toInt T A nx I) (fun z => z = S2) := ⟨S2, hstep, rfl⟩
  unfold ls_15 at hf
  refine r_aload_n (pc := 715) S0 1 dL_law_715 rfl rfl ?_
  refine r_aload_n (pc := 716) S0 0 dL_law_716 rfl rfl ?_
  refine r_iload_n (pc := 717) S0 3 dL_law_717 rfl rfl ?_
  refine r_iconst (pc := 718) S0 dL_law_718 ?_
  refine r_iadd (pc := 719) S0 dL_law_719 ?_
  refine r_sld (pc := 720) (j := q + 1) S0 hsc hL (lsi q 1 (by omega) (by omega)) (by omega) dL_law_720 ?_
  obtain ⟨e1, h1, hf⟩ := ok_bind hf
  refine r_cV_I (pc := 721) [iv ((xs (q + 1)).toInt)] S0 hK hX mv_L_77 (k_X11_until h1) (c_X11_until l cA D N sx ad T A nx I wx ((xs (q + 1)).toInt) (cn_toInt _) e1 h1) rfl rfl ⟨by decide, by decide⟩ (Nat.le_of_ble_eq_true rfl) (show cells ≤ 600000 ∧ slots ≤ 7302250 by omega) dL_law_721 (fun c1 => ?_)
  refine r_aload_n (pc := 724) S0 2 dL_law_724 rfl rfl ?_
  refine r_aload_n (pc := 725) S0 0 dL_law_725 rfl rfl ?_
  refine r_iload_n (pc := 726) S0 3 dL_law_726 rfl rfl ?_
  refine r_iconst (pc := 727) S0 dL_law_727 ?_
  refine r_iadd (pc := 728) S0 dL_law_728 ?_
  refine r_sld (pc := 729) (j := q + 1) S0 hsc hL (lsi q 1 (by omega) (by omega)) (by omega) dL_law_729 ?_
  obtain ⟨e2, h2, hf⟩ := ok_bind hf
  refine r_cV_I (pc := 730) [iv ((xs (q + 1)).toInt)] S0 hK hX mv_L_80 (k_X12_until h2) (c_X12_until l cA D N sx ad T A nx I wm ((xs (q + 1)).toInt) (cn_toInt _) e2 h2) rfl rfl ⟨by decide, by decide⟩ (Nat.le_of_ble_eq_true rfl) (show cells ≤ 600000 ∧ slots ≤ 7302250 by omega) dL_law_730 (fun c2 => ?_)
  refine r_icmp_eq (pc := 733) (tgt := 1965) S0 dL_law_733 (by decide) c1 c2 hf (fun hf => ?_) (fun hf => (ok_none hf).elim)
  have hz := ok_some hf
  have hz : (T, A, nx, e2.2) = S2 := hz
  subst hz
  exact kk ad cells slots (fun _ _ => rfl) (by omega) (by omega) (Nat.le_refl _) hrb
set_option maxHeartbeats 4000000 in
set_option maxRecDepth 100000 in
theorem lc_16 {p : Program} {l : Launch} {e0 : Env} {s : State} {m : MethodId} {args : Array Value} {below : List Frame} {meth : Method} {c : Code} {cells slots : Nat} {Q : State → Prop} {cA : Nat → ClassId} {D : va_G} {N : Nat} {ad : Nat → Nat} {T : Knd} {A : Rfs} {nx : Nat} {I : Mem} {sx : Sx} {b L wx wm q : Nat} {xs : Nat → Int32} (S0 : CallFix p m c code 4 s args gT RL) (hK : va_K D vwCl (tyl cA) s) (hX : XX sx N s) (hAX : AX s) (hsc : SC N b L xs s) (hL : L ≤ 3072) (hq : q + 6 ≤ L) (hrb : RB A nx) (hbx : 1 ≤ wx ∧ wx ≤ nx) (hbm : 1 ≤ wm ∧ wm ≤ nx) (hcl : cells + 21 ≤ 600000 ∧ slots + 191 ≤ 7302250) {S2 : St} (hstep : ls_16 wx wm (xs (q + 1)).toInt (xs (q + 2)).toInt (xs (q + 3)).toInt (xs (q + 4)).toInt (xs (q + 5)).toInt T A nx I = some S2) (kk : ∀ (ad1 : Nat → Nat) (c2 s2 : Nat), (∀ i, i ≤ nx → ad1 i = ad i) → c2 ≤ cells + 21 → s2 ≤ slots + 191 → nx ≤ S2.2.2.1 → RB S2.2.1 S2.2.2.1 → G p l e0 room_1 s m args below meth c c2 s2 Q cA D N 4 ad1 S2.1 S2.2.1 S2.2.2.1 1965 [(0, .ref b), (1, rv ad1 wx), (2, rv ad1 wm), (3, iv (q : Int))] [] S2.2.2.2) : G p l e0 room_1 s m args below meth c cells slots Q cA D N 4 ad T A nx 738 [(0, .ref b), (1, rv ad wx), (2, rv ad wm), (3, iv (q : Int))] [] I := by
  have hf : OK (ls_16 wx wm (xs (q + 1)).toInt (xs (q + 2)).toInt (xs (q + 3)).toInt (xs (q + 4)).toInt (xs (q + 5)).toInt T A nx I) (fun z => z = S2) := ⟨S2, hstep, rfl⟩
  unfold ls_16 at hf
  refine r_aload_n (pc := 738) S0 1 dL_law_738 rfl rfl ?_
  refine r_aload_n (pc := 739) S0 0 dL_law_739 rfl rfl ?_
  refine r_iload_n (pc := 740) S0 3 dL_law_740 rfl rfl ?_
  refine r_iconst (pc := 741) S0 dL_law_741 ?_
  refine r_iadd (pc := 742) S0 dL_law_742 ?_
  refine r_sld (pc := 743) (j := q + 1) S0 hsc hL (lsi q 1 (by omega) (by omega)) (by omega) dL_law_743 ?_
  obtain ⟨e1, h1, hf⟩ := ok_bind hf
  refine r_cV_I (pc := 744) [iv ((xs (q + 1)).toInt)] S0 hK hX mv_L_81 (k_X11_when h1) (c_X11_when l cA D N sx ad T A nx I wx ((xs (q + 1)).toInt) (cn_toInt _) e1 h1) rfl rfl ⟨by decide, by decide⟩ (Nat.le_of_ble_eq_true rfl) (show cells ≤ 600000 ∧ slots ≤ 7302250 by omega) dL_law_744 (fun c1 => ?_)
  refine r_aload_n (pc := 747) S0 2 dL_law_747 rfl rfl ?_
  refine r_aload_n (pc := 748) S0 0 dL_law_748 rfl rfl ?_
  refine r_iload_n (pc := 749) S0 3 dL_law_749 rfl rfl ?_
  refine r_iconst (pc := 750) S0 dL_law_750 ?_
  refine r_iadd (pc := 751) S0 dL_law_751 ?_
  refine r_sld (pc := 752) (j := q + 1) S0 hsc hL (lsi q 1 (by omega) (by omega)) (by omega) dL_law_752 ?_
  obtain ⟨e2, h2, hf⟩ := ok_bind hf
  refine r_cV_I (pc := 753) [iv ((xs (q + 1)).toInt)] S0 hK hX mv_L_84 (k_X12_when h2) (c_X12_when l cA D N sx ad T A nx I wm ((xs (q + 1)).toInt) (cn_toInt _) e2 h2) rfl rfl ⟨by decide, by decide⟩ (Nat.le_of_ble_eq_true rfl) (show cells ≤ 600000 ∧ slots ≤ 7302250 by omega) dL_law_753 (fun c2 => ?_)
  refine r_icmp_eq (pc := 756) (tgt := 1965) S0 dL_law_756 (by decide) c1 c2 hf (fun hf => ?_) (fun hf => (ok_none hf).elim)
  have hz := ok_some hf
  have hz : (T, A, nx, e2.2) = S2 := hz
  subst hz
  exact kk ad cells slots (fun _ _ => rfl) (by omega) (by omega) (Nat.le_refl _) hrb
set_option maxHeartbeats 4000000 in
set_option maxRecDepth 100000 in
theorem lc_17 {p : Program} {l : Launch} {e0 : Env} {s : State} {m : MethodId} {args : Array Value} {below : List Frame} {meth : Method} {c : Code} {cells slots : Nat} {Q : State → Prop} {cA : Nat → ClassId} {D : va_G} {N : Nat} {ad : Nat → Nat} {T : Knd} {A : Rfs} {nx : Nat} {I : Mem} {sx : Sx} {b L wx wm q : Nat} {xs : Nat → Int32} (S0 : CallFix p m c code 4 s args gT RL) (hK : va_K D vwCl (tyl cA) s) (hX : XX sx N s) (hAX : AX s) (hsc : SC N b L xs s) (hL : L ≤ 3072) (hq : q + 6 ≤ L) (hrb : RB A nx) (hbx : 1 ≤ wx ∧ wx ≤ nx) (hbm : 1 ≤ wm ∧ wm ≤ nx) (hcl : cells + 21 ≤ 600000 ∧ slots + 191 ≤ 7302250) {S2 : St} (hstep : ls_17 wx wm (xs (q + 1)).toInt (xs (q + 2)).toInt (xs (q + 3)).toInt (xs (q + 4)).toInt (xs (q + 5)).toInt T A nx I = some S2) (kk : ∀ (ad1 : Nat → Nat) (c2 s2 : Nat), (∀ i, i ≤ nx → ad1 i = ad i) → c2 ≤ cells + 21 → s2 ≤ slots + 191 → nx ≤ S2.2.2.1 → RB S2.2.1 S2.2.2.1 → G p l e0 room_1 s m args below meth c c2 s2 Q cA D N 4 ad1 S2.1 S2.2.1 S2.2.2.1 1965 [(0, .ref b), (1, rv ad1 wx), (2, rv ad1 wm), (3, iv (q : Int))] [] S2.2.2.2) : G p l e0 room_1 s m args below meth c cells slots Q cA D N 4 ad T A nx 761 [(0, .ref b), (1, rv ad wx), (2, rv ad wm), (3, iv (q : Int))] [] I := by
  have hf : OK (ls_17 wx wm (xs (q + 1)).toInt (xs (q + 2)).toInt (xs (q + 3)).toInt (xs (q + 4)).toInt (xs (q + 5)).toInt T A nx I) (fun z => z = S2) := ⟨S2, hstep, rfl⟩
  unfold ls_17 at hf
  refine r_aload_n (pc := 761) S0 1 dL_law_761 rfl rfl ?_
  refine r_aload_n (pc := 762) S0 0 dL_law_762 rfl rfl ?_
  refine r_iload_n (pc := 763) S0 3 dL_law_763 rfl rfl ?_
  refine r_iconst (pc := 764) S0 dL_law_764 ?_
  refine r_iadd (pc := 765) S0 dL_law_765 ?_
  refine r_sld (pc := 766) (j := q + 1) S0 hsc hL (lsi q 1 (by omega) (by omega)) (by omega) dL_law_766 ?_
  obtain ⟨e1, h1, hf⟩ := ok_bind hf
  refine r_cV_I (pc := 767) [iv ((xs (q + 1)).toInt)] S0 hK hX mv_L_85 (k_X11_why h1) (c_X11_why l cA D N sx ad T A nx I wx ((xs (q + 1)).toInt) (cn_toInt _) e1 h1) rfl rfl ⟨by decide, by decide⟩ (Nat.le_of_ble_eq_true rfl) (show cells ≤ 600000 ∧ slots ≤ 7302250 by omega) dL_law_767 (fun c1 => ?_)
  refine r_aload_n (pc := 770) S0 2 dL_law_770 rfl rfl ?_
  refine r_aload_n (pc := 771) S0 0 dL_law_771 rfl rfl ?_
  refine r_iload_n (pc := 772) S0 3 dL_law_772 rfl rfl ?_
  refine r_iconst (pc := 773) S0 dL_law_773 ?_
  refine r_iadd (pc := 774) S0 dL_law_774 ?_
  refine r_sld (pc := 775) (j := q + 1) S0 hsc hL (lsi q 1 (by omega) (by omega)) (by omega) dL_law_775 ?_
  obtain ⟨e2, h2, hf⟩ := ok_bind hf
  refine r_cV_I (pc := 776) [iv ((xs (q + 1)).toInt)] S0 hK hX mv_L_88 (k_X12_why h2) (c_X12_why l cA D N sx ad T A nx I wm ((xs (q + 1)).toInt) (cn_toInt _) e2 h2) rfl rfl ⟨by decide, by decide⟩ (Nat.le_of_ble_eq_true rfl) (show cells ≤ 600000 ∧ slots ≤ 7302250 by omega) dL_law_776 (fun c2 => ?_)
  refine r_icmp_eq (pc := 779) (tgt := 1965) S0 dL_law_779 (by decide) c1 c2 hf (fun hf => ?_) (fun hf => (ok_none hf).elim)
  have hz := ok_some hf
  have hz : (T, A, nx, e2.2) = S2 := hz
  subst hz
  exact kk ad cells slots (fun _ _ => rfl) (by omega) (by omega) (Nat.le_refl _) hrb
set_option maxHeartbeats 4000000 in
set_option maxRecDepth 100000 in
theorem lc_18 {p : Program} {l : Launch} {e0 : Env} {s : State} {m : MethodId} {args : Array Value} {below : List Frame} {meth : Method} {c : Code} {cells slots : Nat} {Q : State → Prop} {cA : Nat → ClassId} {D : va_G} {N : Nat} {ad : Nat → Nat} {T : Knd} {A : Rfs} {nx : Nat} {I : Mem} {sx : Sx} {b L wx wm q : Nat} {xs : Nat → Int32} (S0 : CallFix p m c code 4 s args gT RL) (hK : va_K D vwCl (tyl cA) s) (hX : XX sx N s) (hAX : AX s) (hsc : SC N b L xs s) (hL : L ≤ 3072) (hq : q + 6 ≤ L) (hrb : RB A nx) (hbx : 1 ≤ wx ∧ wx ≤ nx) (hbm : 1 ≤ wm ∧ wm ≤ nx) (hcl : cells + 21 ≤ 600000 ∧ slots + 191 ≤ 7302250) {S2 : St} (hstep : ls_18 wx wm (xs (q + 1)).toInt (xs (q + 2)).toInt (xs (q + 3)).toInt (xs (q + 4)).toInt (xs (q + 5)).toInt T A nx I = some S2) (kk : ∀ (ad1 : Nat → Nat) (c2 s2 : Nat), (∀ i, i ≤ nx → ad1 i = ad i) → c2 ≤ cells + 21 → s2 ≤ slots + 191 → nx ≤ S2.2.2.1 → RB S2.2.1 S2.2.2.1 → G p l e0 room_1 s m args below meth c c2 s2 Q cA D N 4 ad1 S2.1 S2.2.1 S2.2.2.1 1965 [(0, .ref b), (1, rv ad1 wx), (2, rv ad1 wm), (3, iv (q : Int))] [] S2.2.2.2) : G p l e0 room_1 s m args below meth c cells slots Q cA D N 4 ad T A nx 784 [(0, .ref b), (1, rv ad wx), (2, rv ad wm), (3, iv (q : Int))] [] I := by
  have hf : OK (ls_18 wx wm (xs (q + 1)).toInt (xs (q + 2)).toInt (xs (q + 3)).toInt (xs (q + 4)).toInt (xs (q + 5)).toInt T A nx I) (fun z => z = S2) := ⟨S2, hstep, rfl⟩
  unfold ls_18 at hf
  refine r_aload_n (pc := 784) S0 1 dL_law_784 rfl rfl ?_
  obtain ⟨e1, h1, hf⟩ := ok_bind hf
  refine r_cV_I (pc := 785) [] S0 hK hX mv_L_89 (k_X11_can h1) (c_X11_can l cA D N sx ad T A nx I wx e1 h1) rfl rfl ⟨by decide, by decide⟩ (Nat.le_of_ble_eq_true rfl) (show cells ≤ 600000 ∧ slots ≤ 7302250 by omega) dL_law_785 (fun c1 => ?_)
  refine r_aload_n (pc := 788) S0 2 dL_law_788 rfl rfl ?_
  obtain ⟨e2, h2, hf⟩ := ok_bind hf
  refine r_cV_I (pc := 789) [] S0 hK hX mv_L_92 (k_X12_can h2) (c_X12_can l cA D N sx ad T A nx I wm e2 h2) rfl rfl ⟨by decide, by decide⟩ (Nat.le_of_ble_eq_true rfl) (show cells ≤ 600000 ∧ slots ≤ 7302250 by omega) dL_law_789 (fun c2 => ?_)
  refine r_icmp_eq (pc := 792) (tgt := 1965) S0 dL_law_792 (by decide) c1 c2 hf (fun hf => ?_) (fun hf => (ok_none hf).elim)
  have hz := ok_some hf
  have hz : (T, A, nx, e2.2) = S2 := hz
  subst hz
  exact kk ad cells slots (fun _ _ => rfl) (by omega) (by omega) (Nat.le_refl _) hrb
set_option maxHeartbeats 4000000 in
set_option maxRecDepth 100000 in
theorem lc_19 {p : Program} {l : Launch} {e0 : Env} {s : State} {m : MethodId} {args : Array Value} {below : List Frame} {meth : Method} {c : Code} {cells slots : Nat} {Q : State → Prop} {cA : Nat → ClassId} {D : va_G} {N : Nat} {ad : Nat → Nat} {T : Knd} {A : Rfs} {nx : Nat} {I : Mem} {sx : Sx} {b L wx wm q : Nat} {xs : Nat → Int32} (S0 : CallFix p m c code 4 s args gT RL) (hK : va_K D vwCl (tyl cA) s) (hX : XX sx N s) (hAX : AX s) (hsc : SC N b L xs s) (hL : L ≤ 3072) (hq : q + 6 ≤ L) (hrb : RB A nx) (hbx : 1 ≤ wx ∧ wx ≤ nx) (hbm : 1 ≤ wm ∧ wm ≤ nx) (hcl : cells + 21 ≤ 600000 ∧ slots + 191 ≤ 7302250) {S2 : St} (hstep : ls_19 wx wm (xs (q + 1)).toInt (xs (q + 2)).toInt (xs (q + 3)).toInt (xs (q + 4)).toInt (xs (q + 5)).toInt T A nx I = some S2) (kk : ∀ (ad1 : Nat → Nat) (c2 s2 : Nat), (∀ i, i ≤ nx → ad1 i = ad i) → c2 ≤ cells + 21 → s2 ≤ slots + 191 → nx ≤ S2.2.2.1 → RB S2.2.1 S2.2.2.1 → G p l e0 room_1 s m args below meth c c2 s2 Q cA D N 4 ad1 S2.1 S2.2.1 S2.2.2.1 1965 [(0, .ref b), (1, rv ad1 wx), (2, rv ad1 wm), (3, iv (q : Int))] [] S2.2.2.2) : G p l e0 room_1 s m args below meth c cells slots Q cA D N 4 ad T A nx 797 [(0, .ref b), (1, rv ad wx), (2, rv ad wm), (3, iv (q : Int))] [] I := by
  have hf : OK (ls_19 wx wm (xs (q + 1)).toInt (xs (q + 2)).toInt (xs (q + 3)).toInt (xs (q + 4)).toInt (xs (q + 5)).toInt T A nx I) (fun z => z = S2) := ⟨S2, hstep, rfl⟩
  unfold ls_19 at hf
  refine r_aload_n (pc := 797) S0 1 dL_law_797 rfl rfl ?_
  refine r_aload_n (pc := 798) S0 0 dL_law_798 rfl rfl ?_
  refine r_iload_n (pc := 799) S0 3 dL_law_799 rfl rfl ?_
  refine r_iconst (pc := 800) S0 dL_law_800 ?_
  refine r_iadd (pc := 801) S0 dL_law_801 ?_
  refine r_sld (pc := 802) (j := q + 1) S0 hsc hL (lsi q 1 (by omega) (by omega)) (by omega) dL_law_802 ?_
  obtain ⟨e1, h1, hf⟩ := ok_bind hf
  refine r_cV_I (pc := 803) [iv ((xs (q + 1)).toInt)] S0 hK hX mv_L_93 (k_X11_go h1) (c_X11_go l cA D N sx ad T A nx I wx ((xs (q + 1)).toInt) (cn_toInt _) e1 h1) rfl rfl ⟨by decide, by decide⟩ (Nat.le_of_ble_eq_true rfl) (show cells ≤ 600000 ∧ slots ≤ 7302250 by omega) dL_law_803 (fun c1 => ?_)
  refine r_aload_n (pc := 806) S0 2 dL_law_806 rfl rfl ?_
  refine r_aload_n (pc := 807) S0 0 dL_law_807 rfl rfl ?_
  refine r_iload_n (pc := 808) S0 3 dL_law_808 rfl rfl ?_
  refine r_iconst (pc := 809) S0 dL_law_809 ?_
  refine r_iadd (pc := 810) S0 dL_law_810 ?_
  refine r_sld (pc := 811) (j := q + 1) S0 hsc hL (lsi q 1 (by omega) (by omega)) (by omega) dL_law_811 ?_
  obtain ⟨e2, h2, hf⟩ := ok_bind hf
  refine r_cV_I (pc := 812) [iv ((xs (q + 1)).toInt)] S0 hK hX mv_L_96 (k_X12_go h2) (c_X12_go l cA D N sx ad T A nx e1.2 wm ((xs (q + 1)).toInt) (cn_toInt _) e2 h2) rfl rfl ⟨by decide, by decide⟩ (Nat.le_of_ble_eq_true rfl) (show cells ≤ 600000 ∧ slots ≤ 7302250 by omega) dL_law_812 (fun c2 => ?_)
  refine r_icmp_eq (pc := 815) (tgt := 1965) S0 dL_law_815 (by decide) c1 c2 hf (fun hf => ?_) (fun hf => (ok_none hf).elim)
  have hz := ok_some hf
  have hz : (T, A, nx, e2.2) = S2 := hz
  subst hz
  exact kk ad cells slots (fun _ _ => rfl) (by omega) (by omega) (Nat.le_refl _) hrb
set_option maxHeartbeats 4000000 in
set_option maxRecDepth 100000 in
theorem lc_20 {p : Program} {l : Launch} {e0 : Env} {s : State} {m : MethodId} {args : Array Value} {below : List Frame} {meth : Method} {c : Code} {cells slots : Nat} {Q : State → Prop} {cA : Nat → ClassId} {D : va_G} {N : Nat} {ad : Nat → Nat} {T : Knd} {A : Rfs} {nx : Nat} {I : Mem} {sx : Sx} {b L wx wm q : Nat} {xs : Nat → Int32} (S0 : CallFix p m c code 4 s args gT RL) (hK : va_K D vwCl (tyl cA) s) (hX : XX sx N s) (hAX : AX s) (hsc : SC N b L xs s) (hL : L ≤ 3072) (hq : q + 6 ≤ L) (hrb : RB A nx) (hbx : 1 ≤ wx ∧ wx ≤ nx) (hbm : 1 ≤ wm ∧ wm ≤ nx) (hcl : cells + 21 ≤ 600000 ∧ slots + 191 ≤ 7302250) {S2 : St} (hstep : ls_20 wx wm (xs (q + 1)).toInt (xs (q + 2)).toInt (xs (q + 3)).toInt (xs (q + 4)).toInt (xs (q + 5)).toInt T A nx I = some S2) (kk : ∀ (ad1 : Nat → Nat) (c2 s2 : Nat), (∀ i, i ≤ nx → ad1 i = ad i) → c2 ≤ cells + 21 → s2 ≤ slots + 191 → nx ≤ S2.2.2.1 → RB S2.2.1 S2.2.2.1 → G p l e0 room_1 s m args below meth c c2 s2 Q cA D N 4 ad1 S2.1 S2.2.1 S2.2.2.1 1965 [(0, .ref b), (1, rv ad1 wx), (2, rv ad1 wm), (3, iv (q : Int))] [] S2.2.2.2) : G p l e0 room_1 s m args below meth c cells slots Q cA D N 4 ad T A nx 820 [(0, .ref b), (1, rv ad wx), (2, rv ad wm), (3, iv (q : Int))] [] I := by
  have hf : OK (ls_20 wx wm (xs (q + 1)).toInt (xs (q + 2)).toInt (xs (q + 3)).toInt (xs (q + 4)).toInt (xs (q + 5)).toInt T A nx I) (fun z => z = S2) := ⟨S2, hstep, rfl⟩
  unfold ls_20 at hf
  refine r_aload_n (pc := 820) S0 1 dL_law_820 rfl rfl ?_
  refine r_aload_n (pc := 821) S0 0 dL_law_821 rfl rfl ?_
  refine r_iload_n (pc := 822) S0 3 dL_law_822 rfl rfl ?_
  refine r_iconst (pc := 823) S0 dL_law_823 ?_
  refine r_iadd (pc := 824) S0 dL_law_824 ?_
  refine r_sld (pc := 825) (j := q + 1) S0 hsc hL (lsi q 1 (by omega) (by omega)) (by omega) dL_law_825 ?_
  obtain ⟨e1, h1, hf⟩ := ok_bind hf
  refine r_cV_I (pc := 826) [iv ((xs (q + 1)).toInt)] S0 hK hX mv_L_97 (k_X11_waits h1) (c_X11_waits l cA D N sx ad T A nx I wx ((xs (q + 1)).toInt) (cn_toInt _) e1 h1) rfl rfl ⟨by decide, by decide⟩ (Nat.le_of_ble_eq_true rfl) (show cells ≤ 600000 ∧ slots ≤ 7302250 by omega) dL_law_826 (fun c1 => ?_)
  refine r_aload_n (pc := 829) S0 2 dL_law_829 rfl rfl ?_
  refine r_aload_n (pc := 830) S0 0 dL_law_830 rfl rfl ?_
  refine r_iload_n (pc := 831) S0 3 dL_law_831 rfl rfl ?_
  refine r_iconst (pc := 832) S0 dL_law_832 ?_
  refine r_iadd (pc := 833) S0 dL_law_833 ?_
  refine r_sld (pc := 834) (j := q + 1) S0 hsc hL (lsi q 1 (by omega) (by omega)) (by omega) dL_law_834 ?_
  obtain ⟨e2, h2, hf⟩ := ok_bind hf
  refine r_cV_I (pc := 835) [iv ((xs (q + 1)).toInt)] S0 hK hX mv_L_100 (k_X12_waits h2) (c_X12_waits l cA D N sx ad T A nx e1.2 wm ((xs (q + 1)).toInt) (cn_toInt _) e2 h2) rfl rfl ⟨by decide, by decide⟩ (Nat.le_of_ble_eq_true rfl) (show cells ≤ 600000 ∧ slots ≤ 7302250 by omega) dL_law_835 (fun c2 => ?_)
  refine r_icmp_eq (pc := 838) (tgt := 1965) S0 dL_law_838 (by decide) c1 c2 hf (fun hf => ?_) (fun hf => (ok_none hf).elim)
  have hz := ok_some hf
  have hz : (T, A, nx, e2.2) = S2 := hz
  subst hz
  exact kk ad cells slots (fun _ _ => rfl) (by omega) (by omega) (Nat.le_refl _) hrb
set_option maxHeartbeats 4000000 in
set_option maxRecDepth 100000 in
theorem lc_21 {p : Program} {l : Launch} {e0 : Env} {s : State} {m : MethodId} {args : Array Value} {below : List Frame} {meth : Method} {c : Code} {cells slots : Nat} {Q : State → Prop} {cA : Nat → ClassId} {D : va_G} {N : Nat} {ad : Nat → Nat} {T : Knd} {A : Rfs} {nx : Nat} {I : Mem} {sx : Sx} {b L wx wm q : Nat} {xs : Nat → Int32} (S0 : CallFix p m c code 4 s args gT RL) (hK : va_K D vwCl (tyl cA) s) (hX : XX sx N s) (hAX : AX s) (hsc : SC N b L xs s) (hL : L ≤ 3072) (hq : q + 6 ≤ L) (hrb : RB A nx) (hbx : 1 ≤ wx ∧ wx ≤ nx) (hbm : 1 ≤ wm ∧ wm ≤ nx) (hcl : cells + 21 ≤ 600000 ∧ slots + 191 ≤ 7302250) {S2 : St} (hstep : ls_21 wx wm (xs (q + 1)).toInt (xs (q + 2)).toInt (xs (q + 3)).toInt (xs (q + 4)).toInt (xs (q + 5)).toInt T A nx I = some S2) (kk : ∀ (ad1 : Nat → Nat) (c2 s2 : Nat), (∀ i, i ≤ nx → ad1 i = ad i) → c2 ≤ cells + 21 → s2 ≤ slots + 191 → nx ≤ S2.2.2.1 → RB S2.2.1 S2.2.2.1 → G p l e0 room_1 s m args below meth c c2 s2 Q cA D N 4 ad1 S2.1 S2.2.1 S2.2.2.1 1965 [(0, .ref b), (1, rv ad1 wx), (2, rv ad1 wm), (3, iv (q : Int))] [] S2.2.2.2) : G p l e0 room_1 s m args below meth c cells slots Q cA D N 4 ad T A nx 843 [(0, .ref b), (1, rv ad wx), (2, rv ad wm), (3, iv (q : Int))] [] I := by
  have hf : OK (ls_21 wx wm (xs (q + 1)).toInt (xs (q + 2)).toInt (xs (q + 3)).toInt (xs (q + 4)).toInt (xs (q + 5)).toInt T A nx I) (fun z => z = S2) := ⟨S2, hstep, rfl⟩
  unfold ls_21 at hf
  refine r_aload_n (pc := 843) S0 1 dL_law_843 rfl rfl ?_
  obtain ⟨e1, h1, hf⟩ := ok_bind hf
  refine r_cV_I (pc := 844) [] S0 hK hX mv_L_101 (k_X11_undo h1) (c_X11_undo l cA D N sx ad T A nx I wx e1 h1) rfl rfl ⟨by decide, by decide⟩ (Nat.le_of_ble_eq_true rfl) (show cells ≤ 600000 ∧ slots ≤ 7302250 by omega) dL_law_844 (fun c1 => ?_)
  refine r_aload_n (pc := 847) S0 2 dL_law_847 rfl rfl ?_
  obtain ⟨e2, h2, hf⟩ := ok_bind hf
  refine r_cV_I (pc := 848) [] S0 hK hX mv_L_104 (k_X12_undo h2) (c_X12_undo l cA D N sx ad T A nx e1.2 wm e2 h2) rfl rfl ⟨by decide, by decide⟩ (Nat.le_of_ble_eq_true rfl) (show cells ≤ 600000 ∧ slots ≤ 7302250 by omega) dL_law_848 (fun c2 => ?_)
  refine r_icmp_eq (pc := 851) (tgt := 1965) S0 dL_law_851 (by decide) c1 c2 hf (fun hf => ?_) (fun hf => (ok_none hf).elim)
  have hz := ok_some hf
  have hz : (T, A, nx, e2.2) = S2 := hz
  subst hz
  exact kk ad cells slots (fun _ _ => rfl) (by omega) (by omega) (Nat.le_refl _) hrb
set_option maxHeartbeats 4000000 in
set_option maxRecDepth 100000 in
theorem lc_22 {p : Program} {l : Launch} {e0 : Env} {s : State} {m : MethodId} {args : Array Value} {below : List Frame} {meth : Method} {c : Code} {cells slots : Nat} {Q : State → Prop} {cA : Nat → ClassId} {D : va_G} {N : Nat} {ad : Nat → Nat} {T : Knd} {A : Rfs} {nx : Nat} {I : Mem} {sx : Sx} {b L wx wm q : Nat} {xs : Nat → Int32} (S0 : CallFix p m c code 4 s args gT RL) (hK : va_K D vwCl (tyl cA) s) (hX : XX sx N s) (hAX : AX s) (hsc : SC N b L xs s) (hL : L ≤ 3072) (hq : q + 6 ≤ L) (hrb : RB A nx) (hbx : 1 ≤ wx ∧ wx ≤ nx) (hbm : 1 ≤ wm ∧ wm ≤ nx) (hcl : cells + 21 ≤ 600000 ∧ slots + 191 ≤ 7302250) {S2 : St} (hstep : ls_22 wx wm (xs (q + 1)).toInt (xs (q + 2)).toInt (xs (q + 3)).toInt (xs (q + 4)).toInt (xs (q + 5)).toInt T A nx I = some S2) (kk : ∀ (ad1 : Nat → Nat) (c2 s2 : Nat), (∀ i, i ≤ nx → ad1 i = ad i) → c2 ≤ cells + 21 → s2 ≤ slots + 191 → nx ≤ S2.2.2.1 → RB S2.2.1 S2.2.2.1 → G p l e0 room_1 s m args below meth c c2 s2 Q cA D N 4 ad1 S2.1 S2.2.1 S2.2.2.1 1965 [(0, .ref b), (1, rv ad1 wx), (2, rv ad1 wm), (3, iv (q : Int))] [] S2.2.2.2) : G p l e0 room_1 s m args below meth c cells slots Q cA D N 4 ad T A nx 856 [(0, .ref b), (1, rv ad wx), (2, rv ad wm), (3, iv (q : Int))] [] I := by
  have hf : OK (ls_22 wx wm (xs (q + 1)).toInt (xs (q + 2)).toInt (xs (q + 3)).toInt (xs (q + 4)).toInt (xs (q + 5)).toInt T A nx I) (fun z => z = S2) := ⟨S2, hstep, rfl⟩
  unfold ls_22 at hf
  refine r_aload_n (pc := 856) S0 1 dL_law_856 rfl rfl ?_
  obtain ⟨e1, h1, hf⟩ := ok_bind hf
  refine r_cV_I (pc := 857) [] S0 hK hX mv_L_105 (k_X11_anew h1) (c_X11_anew l cA D N sx ad T A nx I wx e1 h1) rfl rfl ⟨by decide, by decide⟩ (Nat.le_of_ble_eq_true rfl) (show cells ≤ 600000 ∧ slots ≤ 7302250 by omega) dL_law_857 (fun c1 => ?_)
  refine r_aload_n (pc := 860) S0 2 dL_law_860 rfl rfl ?_
  obtain ⟨e2, h2, hf⟩ := ok_bind hf
  refine r_cV_I (pc := 861) [] S0 hK hX mv_L_108 (k_X12_anew h2) (c_X12_anew l cA D N sx ad T A nx e1.2 wm e2 h2) rfl rfl ⟨by decide, by decide⟩ (Nat.le_of_ble_eq_true rfl) (show cells ≤ 600000 ∧ slots ≤ 7302250 by omega) dL_law_861 (fun c2 => ?_)
  refine r_icmp_eq (pc := 864) (tgt := 1965) S0 dL_law_864 (by decide) c1 c2 hf (fun hf => ?_) (fun hf => (ok_none hf).elim)
  have hz := ok_some hf
  have hz : (T, A, nx, e2.2) = S2 := hz
  subst hz
  exact kk ad cells slots (fun _ _ => rfl) (by omega) (by omega) (Nat.le_refl _) hrb
