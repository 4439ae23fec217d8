/-! The law's cases, on. -/
set_option maxHeartbeats 4000000 in
set_option maxRecDepth 100000 in
theorem lc_23 {p : Program} {l : Launch} {e0 : Env} {s : State} {m : MethodId} {args : Array Value} {below : List Frame} {meth : Method} {c : Code} {cells slots : Nat} {Q : State → Prop} {cA : Nat → ClassId} {D : va_G} {N : Nat} {ad : Nat → Nat} {T : Knd} {A : Rfs} {nx : Nat} {I : Mem} {sx : Sx} {b L wx wm q : Nat} {xs : Nat → Int32} (S0 : CallFix p m c code 4 s args gT RL) (hK : va_K D vwCl (tyl cA) s) (hX : XX sx N s) (hAX : AX s) (hsc : SC N b L xs s) (hL : L ≤ 3072) (hq : q + 6 ≤ L) (hrb : RB A nx) (hbx : 1 ≤ wx ∧ wx ≤ nx) (hbm : 1 ≤ wm ∧ wm ≤ nx) (hcl : cells + 21 ≤ 600000 ∧ slots + 191 ≤ 7302250) {S2 : St} (hstep : ls_23 wx wm (xs (q + 1)).toInt (xs (q + 2)).toInt (xs (q + 3)).toInt (xs (q + 4)).toInt (xs (q + 5)).toInt T A nx I = some S2) (kk : ∀ (ad1 : Nat → Nat) (c2 s2 : Nat), (∀ i, i ≤ nx → ad1 i = ad i) → c2 ≤ cells + 21 → s2 ≤ slots + 191 → nx ≤ S2.2.2.1 → RB S2.2.1 S2.2.2.1 → G p l e0 room_1 s m args below meth c c2 s2 Q cA D N 4 ad1 S2.1 S2.2.1 S2.2.2.1 1965 [(0, .ref b), (1, rv ad1 wx), (2, rv ad1 wm), (3, iv (q : Int))] [] S2.2.2.2) : G p l e0 room_1 s m args below meth c cells slots Q cA D N 4 ad T A nx 869 [(0, .ref b), (1, rv ad wx), (2, rv ad wm), (3, iv (q : Int))] [] I := by
  have hf : OK (ls_23 wx wm (xs (q + 1)).toInt (xs (q + 2)).toInt (xs (q + 3)).toInt (xs (q + 4)).toInt (xs (q + 5)).toInt T A nx I) (fun z => z = S2) := ⟨S2, hstep, rfl⟩
  unfold ls_23 at hf
  refine r_aload_n (pc := 869) S0 1 dL_law_869 rfl rfl ?_
  refine r_aload_n (pc := 870) S0 0 dL_law_870 rfl rfl ?_
  refine r_iload_n (pc := 871) S0 3 dL_law_871 rfl rfl ?_
  refine r_iconst (pc := 872) S0 dL_law_872 ?_
  refine r_iadd (pc := 873) S0 dL_law_873 ?_
  refine r_sld (pc := 874) (j := q + 1) S0 hsc hL (lsi q 1 (by omega) (by omega)) (by omega) dL_law_874 ?_
  obtain ⟨e1, h1, hf⟩ := ok_bind hf
  refine r_cV_I (pc := 875) [iv ((xs (q + 1)).toInt)] S0 hK hX mv_L_109 (k_X11_led h1) (c_X11_led l cA D N sx ad T A nx I wx ((xs (q + 1)).toInt) (cn_toInt _) e1 h1) rfl rfl ⟨by decide, by decide⟩ (Nat.le_of_ble_eq_true rfl) (show cells ≤ 600000 ∧ slots ≤ 7302250 by omega) dL_law_875 (fun c1 => ?_)
  refine r_aload_n (pc := 878) S0 2 dL_law_878 rfl rfl ?_
  refine r_aload_n (pc := 879) S0 0 dL_law_879 rfl rfl ?_
  refine r_iload_n (pc := 880) S0 3 dL_law_880 rfl rfl ?_
  refine r_iconst (pc := 881) S0 dL_law_881 ?_
  refine r_iadd (pc := 882) S0 dL_law_882 ?_
  refine r_sld (pc := 883) (j := q + 1) S0 hsc hL (lsi q 1 (by omega) (by omega)) (by omega) dL_law_883 ?_
  obtain ⟨e2, h2, hf⟩ := ok_bind hf
  refine r_cV_I (pc := 884) [iv ((xs (q + 1)).toInt)] S0 hK hX mv_L_112 (k_X12_led h2) (c_X12_led l cA D N sx ad T A nx I wm ((xs (q + 1)).toInt) (cn_toInt _) e2 h2) rfl rfl ⟨by decide, by decide⟩ (Nat.le_of_ble_eq_true rfl) (show cells ≤ 600000 ∧ slots ≤ 7302250 by omega) dL_law_884 (fun c2 => ?_)
  refine r_icmp_eq (pc := 887) (tgt := 1965) S0 dL_law_887 (by decide) c1 c2 hf (fun hf => ?_) (fun hf => (ok_none hf).elim)
  have hz := ok_some hf
  have hz : (T, A, nx, e2.2) = S2 := hz
  subst hz
  exact kk ad cells slots (fun _ _ => rfl) (by omega) (by omega) (Nat.le_refl _) hrb
set_option maxHeartbeats 4000000 in
set_option maxRecDepth 100000 in
theorem lc_24 {p : Program} {l : Launch} {e0 : Env} {s : State} {m : MethodId} {args : Array Value} {below : List Frame} {meth : Method} {c : Code} {cells slots : Nat} {Q : State → Prop} {cA : Nat → ClassId} {D : va_G} {N : Nat} {ad : Nat → Nat} {T : Knd} {A : Rfs} {nx : Nat} {I : Mem} {sx : Sx} {b L wx wm q : Nat} {xs : Nat → Int32} (S0 : CallFix p m c code 4 s args gT RL) (hK : va_K D vwCl (tyl cA) s) (hX : XX sx N s) (hAX : AX s) (hsc : SC N b L xs s) (hL : L ≤ 3072) (hq : q + 6 ≤ L) (hrb : RB A nx) (hbx : 1 ≤ wx ∧ wx ≤ nx) (hbm : 1 ≤ wm ∧ wm ≤ nx) (hcl : cells + 21 ≤ 600000 ∧ slots + 191 ≤ 7302250) {S2 : St} (hstep : ls_24 wx wm (xs (q + 1)).toInt (xs (q + 2)).toInt (xs (q + 3)).toInt (xs (q + 4)).toInt (xs (q + 5)).toInt T A nx I = some S2) (kk : ∀ (ad1 : Nat → Nat) (c2 s2 : Nat), (∀ i, i ≤ nx → ad1 i = ad i) → c2 ≤ cells + 21 → s2 ≤ slots + 191 → nx ≤ S2.2.2.1 → RB S2.2.1 S2.2.2.1 → G p l e0 room_1 s m args below meth c c2 s2 Q cA D N 4 ad1 S2.1 S2.2.1 S2.2.2.1 1965 [(0, .ref b), (1, rv ad1 wx), (2, rv ad1 wm), (3, iv (q : Int))] [] S2.2.2.2) : G p l e0 room_1 s m args below meth c cells slots Q cA D N 4 ad T A nx 892 [(0, .ref b), (1, rv ad wx), (2, rv ad wm), (3, iv (q : Int))] [] I := by
  have hf : OK (ls_24 wx wm (xs (q + 1)).toInt (xs (q + 2)).toInt (xs (q + 3)).toInt (xs (q + 4)).toInt (xs (q + 5)).toInt T A nx I) (fun z => z = S2) := ⟨S2, hstep, rfl⟩
  unfold ls_24 at hf
  refine r_aload_n (pc := 892) S0 1 dL_law_892 rfl rfl ?_
  obtain ⟨e1, h1, hf⟩ := ok_bind hf
  refine r_cV_I (pc := 893) [] S0 hK hX mv_L_113 (k_X11_shoes h1) (c_X11_shoes l cA D N sx ad T A nx I wx e1 h1) rfl rfl ⟨by decide, by decide⟩ (Nat.le_of_ble_eq_true rfl) (show cells ≤ 600000 ∧ slots ≤ 7302250 by omega) dL_law_893 (fun c1 => ?_)
  refine r_aload_n (pc := 896) S0 2 dL_law_896 rfl rfl ?_
  obtain ⟨e2, h2, hf⟩ := ok_bind hf
  refine r_cV_I (pc := 897) [] S0 hK hX mv_L_116 (k_X12_shoes h2) (c_X12_shoes l cA D N sx ad T A nx I wm e2 h2) rfl rfl ⟨by decide, by decide⟩ (Nat.le_of_ble_eq_true rfl) (show cells ≤ 600000 ∧ slots ≤ 7302250 by omega) dL_law_897 (fun c2 => ?_)
  refine r_icmp_eq (pc := 900) (tgt := 1965) S0 dL_law_900 (by decide) c1 c2 hf (fun hf => ?_) (fun hf => (ok_none hf).elim)
  have hz := ok_some hf
  have hz : (T, A, nx, e2.2) = S2 := hz
  subst hz
  exact kk ad cells slots (fun _ _ => rfl) (by omega) (by omega) (Nat.le_refl _) hrb
set_option maxHeartbeats 4000000 in
set_option maxRecDepth 100000 in
theorem lc_25 {p : Program} {l : Launch} {e0 : Env} {s : State} {m : MethodId} {args : Array Value} {below : List Frame} {meth : Method} {c : Code} {cells slots : Nat} {Q : State → Prop} {cA : Nat → ClassId} {D : va_G} {N : Nat} {ad : Nat → Nat} {T : Knd} {A : Rfs} {nx : Nat} {I : Mem} {sx : Sx} {b L wx wm q : Nat} {xs : Nat → Int32} (S0 : CallFix p m c code 4 s args gT RL) (hK : va_K D vwCl (tyl cA) s) (hX : XX sx N s) (hAX : AX s) (hsc : SC N b L xs s) (hL : L ≤ 3072) (hq : q + 6 ≤ L) (hrb : RB A nx) (hbx : 1 ≤ wx ∧ wx ≤ nx) (hbm : 1 ≤ wm ∧ wm ≤ nx) (hcl : cells + 21 ≤ 600000 ∧ slots + 191 ≤ 7302250) {S2 : St} (hstep : ls_25 wx wm (xs (q + 1)).toInt (xs (q + 2)).toInt (xs (q + 3)).toInt (xs (q + 4)).toInt (xs (q + 5)).toInt T A nx I = some S2) (kk : ∀ (ad1 : Nat → Nat) (c2 s2 : Nat), (∀ i, i ≤ nx → ad1 i = ad i) → c2 ≤ cells + 21 → s2 ≤ slots + 191 → nx ≤ S2.2.2.1 → RB S2.2.1 S2.2.2.1 → G p l e0 room_1 s m args below meth c c2 s2 Q cA D N 4 ad1 S2.1 S2.2.1 S2.2.2.1 1965 [(0, .ref b), (1, rv ad1 wx), (2, rv ad1 wm), (3, iv (q : Int))] [] S2.2.2.2) : G p l e0 room_1 s m args below meth c cells slots Q cA D N 4 ad T A nx 905 [(0, .ref b), (1, rv ad wx), (2, rv ad wm), (3, iv (q : Int))] [] I := by
  have hf : OK (ls_25 wx wm (xs (q + 1)).toInt (xs (q + 2)).toInt (xs (q + 3)).toInt (xs (q + 4)).toInt (xs (q + 5)).toInt T A nx I) (fun z => z = S2) := ⟨S2, hstep, rfl⟩
  unfold ls_25 at hf
  refine r_aload_n (pc := 905) S0 1 dL_law_905 rfl rfl ?_
  obtain ⟨e1, h1, hf⟩ := ok_bind hf
  refine r_cV_I (pc := 906) [] S0 hK hX mv_L_117 (k_X11_paid h1) (c_X11_paid l cA D N sx ad T A nx I wx e1 h1) rfl rfl ⟨by decide, by decide⟩ (Nat.le_of_ble_eq_true rfl) (show cells ≤ 600000 ∧ slots ≤ 7302250 by omega) dL_law_906 (fun c1 => ?_)
  refine r_aload_n (pc := 909) S0 2 dL_law_909 rfl rfl ?_
  obtain ⟨e2, h2, hf⟩ := ok_bind hf
  refine r_cV_I (pc := 910) [] S0 hK hX mv_L_120 (k_X12_paid h2) (c_X12_paid l cA D N sx ad T A nx I wm e2 h2) rfl rfl ⟨by decide, by decide⟩ (Nat.le_of_ble_eq_true rfl) (show cells ≤ 600000 ∧ slots ≤ 7302250 by omega) dL_law_910 (fun c2 => ?_)
  refine r_icmp_eq (pc := 913) (tgt := 1965) S0 dL_law_913 (by decide) c1 c2 hf (fun hf => ?_) (fun hf => (ok_none hf).elim)
  have hz := ok_some hf
  have hz : (T, A, nx, e2.2) = S2 := hz
  subst hz
  exact kk ad cells slots (fun _ _ => rfl) (by omega) (by omega) (Nat.le_refl _) hrb
set_option maxHeartbeats 4000000 in
set_option maxRecDepth 100000 in
theorem lc_26 {p : Program} {l : Launch} {e0 : Env} {s : State} {m : MethodId} {args : Array Value} {below : List Frame} {meth : Method} {c : Code} {cells slots : Nat} {Q : State → Prop} {cA : Nat → ClassId} {D : va_G} {N : Nat} {ad : Nat → Nat} {T : Knd} {A : Rfs} {nx : Nat} {I : Mem} {sx : Sx} {b L wx wm q : Nat} {xs : Nat → Int32} (S0 : CallFix p m c code 4 s args gT RL) (hK : va_K D vwCl (tyl cA) s) (hX : XX sx N s) (hAX : AX s) (hsc : SC N b L xs s) (hL : L ≤ 3072) (hq : q + 6 ≤ L) (hrb : RB A nx) (hbx : 1 ≤ wx ∧ wx ≤ nx) (hbm : 1 ≤ wm ∧ wm ≤ nx) (hcl : cells + 21 ≤ 600000 ∧ slots + 191 ≤ 7302250) {S2 : St} (hstep : ls_26 wx wm (xs (q + 1)).toInt (xs (q + 2)).toInt (xs (q + 3)).toInt (xs (q + 4)).toInt (xs (q + 5)).toInt T A nx I = some S2) (kk : ∀ (ad1 : Nat → Nat) (c2 s2 : Nat), (∀ i, i ≤ nx → ad1 i = ad i) → c2 ≤ cells + 21 → s2 ≤ slots + 191 → nx ≤ S2.2.2.1 → RB S2.2.1 S2.2.2.1 → G p l e0 room_1 s m args below meth c c2 s2 Q cA D N 4 ad1 S2.1 S2.2.1 S2.2.2.1 1965 [(0, .ref b), (1, rv ad1 wx), (2, rv ad1 wm), (3, iv (q : Int))] [] S2.2.2.2) : G p l e0 room_1 s m args below meth c cells slots Q cA D N 4 ad T A nx 918 [(0, .ref b), (1, rv ad wx), (2, rv ad wm), (3, iv (q : Int))] [] I := by
  have hf : OK (ls_26 wx wm (xs (q + 1)).toInt (xs (q + 2)).toInt (xs (q + 3)).toInt (xs (q + 4)).toInt (xs (q + 5)).toInt T A nx I) (fun z => z = S2) := ⟨S2, hstep, rfl⟩
  unfold ls_26 at hf
  refine r_aload_n (pc := 918) S0 1 dL_law_918 rfl rfl ?_
  obtain ⟨e1, h1, hf⟩ := ok_bind hf
  refine r_cV_I (pc := 919) [] S0 hK hX mv_L_121 (k_X11_done h1) (c_X11_done l cA D N sx ad T A nx I wx e1 h1) rfl rfl ⟨by decide, by decide⟩ (Nat.le_of_ble_eq_true rfl) (show cells ≤ 600000 ∧ slots ≤ 7302250 by omega) dL_law_919 (fun c1 => ?_)
  refine r_aload_n (pc := 922) S0 2 dL_law_922 rfl rfl ?_
  obtain ⟨e2, h2, hf⟩ := ok_bind hf
  refine r_cV_I (pc := 923) [] S0 hK hX mv_L_124 (k_X12_done h2) (c_X12_done l cA D N sx ad T A nx I wm e2 h2) rfl rfl ⟨by decide, by decide⟩ (Nat.le_of_ble_eq_true rfl) (show cells ≤ 600000 ∧ slots ≤ 7302250 by omega) dL_law_923 (fun c2 => ?_)
  refine r_icmp_eq (pc := 926) (tgt := 1965) S0 dL_law_926 (by decide) c1 c2 hf (fun hf => ?_) (fun hf => (ok_none hf).elim)
  have hz := ok_some hf
  have hz : (T, A, nx, e2.2) = S2 := hz
  subst hz
  exact kk ad cells slots (fun _ _ => rfl) (by omega) (by omega) (Nat.le_refl _) hrb
set_option maxHeartbeats 4000000 in
set_option maxRecDepth 100000 in
theorem lc_27 {p : Program} {l : Launch} {e0 : Env} {s : State} {m : MethodId} {args : Array Value} {below : List Frame} {meth : Method} {c : Code} {cells slots : Nat} {Q : State → Prop} {cA : Nat → ClassId} {D : va_G} {N : Nat} {ad : Nat → Nat} {T : Knd} {A : Rfs} {nx : Nat} {I : Mem} {sx : Sx} {b L wx wm q : Nat} {xs : Nat → Int32} (S0 : CallFix p m c code 4 s args gT RL) (hK : va_K D vwCl (tyl cA) s) (hX : XX sx N s) (hAX : AX s) (hsc : SC N b L xs s) (hL : L ≤ 3072) (hq : q + 6 ≤ L) (hrb : RB A nx) (hbx : 1 ≤ wx ∧ wx ≤ nx) (hbm : 1 ≤ wm ∧ wm ≤ nx) (hcl : cells + 21 ≤ 600000 ∧ slots + 191 ≤ 7302250) {S2 : St} (hstep : ls_27 wx wm (xs (q + 1)).toInt (xs (q + 2)).toInt (xs (q + 3)).toInt (xs (q + 4)).toInt (xs (q + 5)).toInt T A nx I = some S2) (kk : ∀ (ad1 : Nat → Nat) (c2 s2 : Nat), (∀ i, i ≤ nx → ad1 i = ad i) → c2 ≤ cells + 21 → s2 ≤ slots + 191 → nx ≤ S2.2.2.1 → RB S2.2.1 S2.2.2.1 → G p l e0 room_1 s m args below meth c c2 s2 Q cA D N 4 ad1 S2.1 S2.2.1 S2.2.2.1 1965 [(0, .ref b), (1, rv ad1 wx), (2, rv ad1 wm), (3, iv (q : Int))] [] S2.2.2.2) : G p l e0 room_1 s m args below meth c cells slots Q cA D N 4 ad T A nx 931 [(0, .ref b), (1, rv ad wx), (2, rv ad wm), (3, iv (q : Int))] [] I := by
  have hf : OK (ls_27 wx wm (xs (q + 1)).toInt (xs (q + 2)).toInt (xs (q + 3)).toInt (xs (q + 4)).toInt (xs (q + 5)).toInt T A nx I) (fun z => z = S2) := ⟨S2, hstep, rfl⟩
  unfold ls_27 at hf
  refine r_aload_n (pc := 931) S0 1 dL_law_931 rfl rfl ?_
  obtain ⟨e1, h1, hf⟩ := ok_bind hf
  refine r_cV_I (pc := 932) [] S0 hK hX mv_L_125 (k_X11_soonest h1) (c_X11_soonest l cA D N sx ad T A nx I wx e1 h1) rfl rfl ⟨by decide, by decide⟩ (Nat.le_of_ble_eq_true rfl) (show cells ≤ 600000 ∧ slots ≤ 7302250 by omega) dL_law_932 (fun c1 => ?_)
  refine r_aload_n (pc := 935) S0 2 dL_law_935 rfl rfl ?_
  obtain ⟨e2, h2, hf⟩ := ok_bind hf
  refine r_cV_I (pc := 936) [] S0 hK hX mv_L_128 (k_X12_soonest h2) (c_X12_soonest l cA D N sx ad T A nx e1.2 wm e2 h2) rfl rfl ⟨by decide, by decide⟩ (Nat.le_of_ble_eq_true rfl) (show cells ≤ 600000 ∧ slots ≤ 7302250 by omega) dL_law_936 (fun c2 => ?_)
  refine r_icmp_eq (pc := 939) (tgt := 1965) S0 dL_law_939 (by decide) c1 c2 hf (fun hf => ?_) (fun hf => (ok_none hf).elim)
  have hz := ok_some hf
  have hz : (T, A, nx, e2.2) = S2 := hz
  subst hz
  exact kk ad cells slots (fun _ _ => rfl) (by omega) (by omega) (Nat.le_refl _) hrb
set_option maxHeartbeats 4000000 in
set_option maxRecDepth 100000 in
theorem lc_28 {p : Program} {l : Launch} {e0 : Env} {s : State} {m : MethodId} {args : Array Value} {below : List Frame} {meth : Method} {c : Code} {cells slots : Nat} {Q : State → Prop} {cA : Nat → ClassId} {D : va_G} {N : Nat} {ad : Nat → Nat} {T : Knd} {A : Rfs} {nx : Nat} {I : Mem} {sx : Sx} {b L wx wm q : Nat} {xs : Nat → Int32} (S0 : CallFix p m c code 4 s args gT RL) (hK : va_K D vwCl (tyl cA) s) (hX : XX sx N s) (hAX : AX s) (hsc : SC N b L xs s) (hL : L ≤ 3072) (hq : q + 6 ≤ L) (hrb : RB A nx) (hbx : 1 ≤ wx ∧ wx ≤ nx) (hbm : 1 ≤ wm ∧ wm ≤ nx) (hcl : cells + 21 ≤ 600000 ∧ slots + 191 ≤ 7302250) {S2 : St} (hstep : ls_28 wx wm (xs (q + 1)).toInt (xs (q + 2)).toInt (xs (q + 3)).toInt (xs (q + 4)).toInt (xs (q + 5)).toInt T A nx I = some S2) (kk : ∀ (ad1 : Nat → Nat) (c2 s2 : Nat), (∀ i, i ≤ nx → ad1 i = ad i) → c2 ≤ cells + 21 → s2 ≤ slots + 191 → nx ≤ S2.2.2.1 → RB S2.2.1 S2.2.2.1 → G p l e0 room_1 s m args below meth c c2 s2 Q cA D N 4 ad1 S2.1 S2.2.1 S2.2.2.1 1965 [(0, .ref b), (1, rv ad1 wx), (2, rv ad1 wm), (3, iv (q : Int))] [] S2.2.2.2) : G p l e0 room_1 s m args below meth c cells slots Q cA D N 4 ad T A nx 944 [(0, .ref b), (1, rv ad wx), (2, rv ad wm), (3, iv (q : Int))] [] I := by
  have hf : OK (ls_28 wx wm (xs (q + 1)).toInt (xs (q + 2)).toInt (xs (q + 3)).toInt (xs (q + 4)).toInt (xs (q + 5)).toInt T A nx I) (fun z => z = S2) := ⟨S2, hstep, rfl⟩
  unfold ls_28 at hf
  refine r_aload_n (pc := 944) S0 1 dL_law_944 rfl rfl ?_
  refine r_aload_n (pc := 945) S0 0 dL_law_945 rfl rfl ?_
  refine r_iload_n (pc := 946) S0 3 dL_law_946 rfl rfl ?_
  refine r_iconst (pc := 947) S0 dL_law_947 ?_
  refine r_iadd (pc := 948) S0 dL_law_948 ?_
  refine r_sld (pc := 949) (j := q + 1) S0 hsc hL (lsi q 1 (by omega) (by omega)) (by omega) dL_law_949 ?_
  obtain ⟨e1, h1, hf⟩ := ok_bind hf
  refine r_cV_I (pc := 950) [iv ((xs (q + 1)).toInt)] S0 hK hX mv_L_129 (k_X11_step h1) (c_X11_step l cA D N sx ad T A nx I wx ((xs (q + 1)).toInt) (cn_toInt _) e1 h1) rfl rfl ⟨by decide, by decide⟩ (Nat.le_of_ble_eq_true rfl) (show cells ≤ 600000 ∧ slots ≤ 7302250 by omega) dL_law_950 (fun c1 => ?_)
  refine r_aload_n (pc := 953) S0 2 dL_law_953 rfl rfl ?_
  refine r_aload_n (pc := 954) S0 0 dL_law_954 rfl rfl ?_
  refine r_iload_n (pc := 955) S0 3 dL_law_955 rfl rfl ?_
  refine r_iconst (pc := 956) S0 dL_law_956 ?_
  refine r_iadd (pc := 957) S0 dL_law_957 ?_
  refine r_sld (pc := 958) (j := q + 1) S0 hsc hL (lsi q 1 (by omega) (by omega)) (by omega) dL_law_958 ?_
  obtain ⟨e2, h2, hf⟩ := ok_bind hf
  refine r_cV_I (pc := 959) [iv ((xs (q + 1)).toInt)] S0 hK hX mv_L_132 (k_X12_step h2) (c_X12_step l cA D N sx ad T A nx e1.2 wm ((xs (q + 1)).toInt) (cn_toInt _) e2 h2) rfl rfl ⟨by decide, by decide⟩ (Nat.le_of_ble_eq_true rfl) (show cells ≤ 600000 ∧ slots ≤ 7302250 by omega) dL_law_959 (fun c2 => ?_)
  refine r_icmp_eq (pc := 962) (tgt := 1965) S0 dL_law_962 (by decide) c1 c2 hf (fun hf => ?_) (fun hf => (ok_none hf).elim)
  have hz := ok_some hf
  have hz : (T, A, nx, e2.2) = S2 := hz
  subst hz
  exact kk ad cells slots (fun _ _ => rfl) (by omega) (by omega) (Nat.le_refl _) hrb
set_option maxHeartbeats 4000000 in
set_option maxRecDepth 100000 in
theorem lc_29 {p : Program} {l : Launch} {e0 : Env} {s : State} {m : MethodId} {args : Array Value} {below : List Frame} {meth : Method} {c : Code} {cells slots : Nat} {Q : State → Prop} {cA : Nat → ClassId} {D : va_G} {N : Nat} {ad : Nat → Nat} {T : Knd} {A : Rfs} {nx : Nat} {I : Mem} {sx : Sx} {b L wx wm q : Nat} {xs : Nat → Int32} (S0 : CallFix p m c code 4 s args gT RL) (hK : va_K D vwCl (tyl cA) s) (hX : XX sx N s) (hAX : AX s) (hsc : SC N b L xs s) (hL : L ≤ 3072) (hq : q + 6 ≤ L) (hrb : RB A nx) (hbx : 1 ≤ wx ∧ wx ≤ nx) (hbm : 1 ≤ wm ∧ wm ≤ nx) (hcl : cells + 21 ≤ 600000 ∧ slots + 191 ≤ 7302250) {S2 : St} (hstep : ls_29 wx wm (xs (q + 1)).toInt (xs (q + 2)).toInt (xs (q + 3)).toInt (xs (q + 4)).toInt (xs (q + 5)).toInt T A nx I = some S2) (kk : ∀ (ad1 : Nat → Nat) (c2 s2 : Nat), (∀ i, i ≤ nx → ad1 i = ad i) → c2 ≤ cells + 21 → s2 ≤ slots + 191 → nx ≤ S2.2.2.1 → RB S2.2.1 S2.2.2.1 → G p l e0 room_1 s m args below meth c c2 s2 Q cA D N 4 ad1 S2.1 S2.2.1 S2.2.2.1 1965 [(0, .ref b), (1, rv ad1 wx), (2, rv ad1 wm), (3, iv (q : Int))] [] S2.2.2.2) : G p l e0 room_1 s m args below meth c cells slots Q cA D N 4 ad T A nx 967 [(0, .ref b), (1, rv ad wx), (2, rv ad wm), (3, iv (q : Int))] [] I := by
  have hf : OK (ls_29 wx wm (xs (q + 1)).toInt (xs (q + 2)).toInt (xs (q + 3)).toInt (xs (q + 4)).toInt (xs (q + 5)).toInt T A nx I) (fun z => z = S2) := ⟨S2, hstep, rfl⟩
  unfold ls_29 at hf
  refine r_aload_n (pc := 967) S0 1 dL_law_967 rfl rfl ?_
  obtain ⟨e1, h1, hf⟩ := ok_bind hf
  refine r_cV_I (pc := 968) [] S0 hK hX mv_L_133 (k_X11_fewest h1) (c_X11_fewest l cA D N sx ad T A nx I wx e1 h1) rfl rfl ⟨by decide, by decide⟩ (Nat.le_of_ble_eq_true rfl) (show cells ≤ 600000 ∧ slots ≤ 7302250 by omega) dL_law_968 (fun c1 => ?_)
  refine r_aload_n (pc := 971) S0 2 dL_law_971 rfl rfl ?_
  obtain ⟨e2, h2, hf⟩ := ok_bind hf
  refine r_cV_I (pc := 972) [] S0 hK hX mv_L_136 (k_X12_fewest h2) (c_X12_fewest l cA D N sx ad T A nx e1.2 wm e2 h2) rfl rfl ⟨by decide, by decide⟩ (Nat.le_of_ble_eq_true rfl) (show cells ≤ 600000 ∧ slots ≤ 7302250 by omega) dL_law_972 (fun c2 => ?_)
  refine r_icmp_eq (pc := 975) (tgt := 1965) S0 dL_law_975 (by decide) c1 c2 hf (fun hf => ?_) (fun hf => (ok_none hf).elim)
  have hz := ok_some hf
  have hz : (T, A, nx, e2.2) = S2 := hz
  subst hz
  exact kk ad cells slots (fun _ _ => rfl) (by omega) (by omega) (Nat.le_refl _) hrb
set_option maxHeartbeats 4000000 in
set_option maxRecDepth 100000 in
theorem lc_30 {p : Program} {l : Launch} {e0 : Env} {s : State} {m : MethodId} {args : Array Value} {below : List Frame} {meth : Method} {c : Code} {cells slots : Nat} {Q : State → Prop} {cA : Nat → ClassId} {D : va_G} {N : Nat} {ad : Nat → Nat} {T : Knd} {A : Rfs} {nx : Nat} {I : Mem} {sx : Sx} {b L wx wm q : Nat} {xs : Nat → Int32} (S0 : CallFix p m c code 4 s args gT RL) (hK : va_K D vwCl (tyl cA) s) (hX : XX sx N s) (hAX : AX s) (hsc : SC N b L xs s) (hL : L ≤ 3072) (hq : q + 6 ≤ L) (hrb : RB A nx) (hbx : 1 ≤ wx ∧ wx ≤ nx) (hbm : 1 ≤ wm ∧ wm ≤ nx) (hcl : cells + 21 ≤ 600000 ∧ slots + 191 ≤ 7302250) {S2 : St} (hstep : ls_30 wx wm (xs (q + 1)).toInt (xs (q + 2)).toInt (xs (q + 3)).toInt (xs (q + 4)).toInt (xs (q + 5)).toInt T A nx I = some S2) (kk : ∀ (ad1 : Nat → Nat) (c2 s2 : Nat), (∀ i, i ≤ nx → ad1 i = ad i) → c2 ≤ cells + 21 → s2 ≤ slots + 191 → nx ≤ S2.2.2.1 → RB S2.2.1 S2.2.2.1 → G p l e0 room_1 s m args below meth c c2 s2 Q cA D N 4 ad1 S2.1 S2.2.1 S2.2.2.1 1965 [(0, .ref b), (1, rv ad1 wx), (2, rv ad1 wm), (3, iv (q : Int))] [] S2.2.2.2) : G p l e0 room_1 s m args below meth c cells slots Q cA D N 4 ad T A nx 980 [(0, .ref b), (1, rv ad wx), (2, rv ad wm), (3, iv (q : Int))] [] I := by
  have hf : OK (ls_30 wx wm (xs (q + 1)).toInt (xs (q + 2)).toInt (xs (q + 3)).toInt (xs (q + 4)).toInt (xs (q + 5)).toInt T A nx I) (fun z => z = S2) := ⟨S2, hstep, rfl⟩
  unfold ls_30 at hf
  refine r_aload_n (pc := 980) S0 1 dL_law_980 rfl rfl ?_
  obtain ⟨e1, h1, hf⟩ := ok_bind hf
  refine r_cV_I (pc := 981) [] S0 hK hX mv_L_137 (k_X11_least h1) (c_X11_least l cA D N sx ad T A nx I wx e1 h1) rfl rfl ⟨by decide, by decide⟩ (Nat.le_of_ble_eq_true rfl) (show cells ≤ 600000 ∧ slots ≤ 7302250 by omega) dL_law_981 (fun c1 => ?_)
  refine r_aload_n (pc := 984) S0 2 dL_law_984 rfl rfl ?_
  obtain ⟨e2, h2, hf⟩ := ok_bind hf
  refine r_cV_I (pc := 985) [] S0 hK hX mv_L_140 (k_X12_least h2) (c_X12_least l cA D N sx ad T A nx e1.2 wm e2 h2) rfl rfl ⟨by decide, by decide⟩ (Nat.le_of_ble_eq_true rfl) (show cells ≤ 600000 ∧ slots ≤ 7302250 by omega) dL_law_985 (fun c2 => ?_)
  refine r_icmp_eq (pc := 988) (tgt := 1965) S0 dL_law_988 (by decide) c1 c2 hf (fun hf => ?_) (fun hf => (ok_none hf).elim)
  have hz := ok_some hf
  have hz : (T, A, nx, e2.2) = S2 := hz
  subst hz
  exact kk ad cells slots (fun _ _ => rfl) (by omega) (by omega) (Nat.le_refl _) hrb
set_option maxHeartbeats 4000000 in
set_option maxRecDepth 100000 in
theorem lc_31 {p : Program} {l : Launch} {e0 : Env} {s : State} {m : MethodId} {args : Array Value} {below : List Frame} {meth : Method} {c : Code} {cells slots : Nat} {Q : State → Prop} {cA : Nat → ClassId} {D : va_G} {N : Nat} {ad : Nat → Nat} {T : Knd} {A : Rfs} {nx : Nat} {I : Mem} {sx : Sx} {b L wx wm q : Nat} {xs : Nat → Int32} (S0 : CallFix p m c code 4 s args gT RL) (hK : va_K D vwCl (tyl cA) s) (hX : XX sx N s) (hAX : AX s) (hsc : SC N b L xs s) (hL : L ≤ 3072) (hq : q + 6 ≤ L) (hrb : RB A nx) (hbx : 1 ≤ wx ∧ wx ≤ nx) (hbm : 1 ≤ wm ∧ wm ≤ nx) (hcl : cells + 21 ≤ 600000 ∧ slots + 191 ≤ 7302250) {S2 : St} (hstep : ls_31 wx wm (xs (q + 1)).toInt (xs (q + 2)).toInt (xs (q + 3)).toInt (xs (q + 4)).toInt (xs (q + 5)).toInt T A nx I = some S2) (kk : ∀ (ad1 : Nat → Nat) (c2 s2 : Nat), (∀ i, i ≤ nx → ad1 i = ad i) → c2 ≤ cells + 21 → s2 ≤ slots + 191 → nx ≤ S2.2.2.1 → RB S2.2.1 S2.2.2.1 → G p l e0 room_1 s m args below meth c c2 s2 Q cA D N 4 ad1 S2.1 S2.2.1 S2.2.2.1 1965 [(0, .ref b), (1, rv ad1 wx), (2, rv ad1 wm), (3, iv (q : Int))] [] S2.2.2.2) : G p l e0 room_1 s m args below meth c cells slots Q cA D N 4 ad T A nx 993 [(0, .ref b), (1, rv ad wx), (2, rv ad wm), (3, iv (q : Int))] [] I := by
  have hf : OK (ls_31 wx wm (xs (q + 1)).toInt (xs (q + 2)).toInt (xs (q + 3)).toInt (xs (q + 4)).toInt (xs (q + 5)).toInt T A nx I) (fun z => z = S2) := ⟨S2, hstep, rfl⟩
  unfold ls_31 at hf
  refine r_aload_n (pc := 993) S0 1 dL_law_993 rfl rfl ?_
  refine r_aload_n (pc := 994) S0 0 dL_law_994 rfl rfl ?_
  refine r_iload_n (pc := 995) S0 3 dL_law_995 rfl rfl ?_
  refine r_iconst (pc := 996) S0 dL_law_996 ?_
  refine r_iadd (pc := 997) S0 dL_law_997 ?_
  refine r_sld (pc := 998) (j := q + 1) S0 hsc hL (lsi q 1 (by omega) (by omega)) (by omega) dL_law_998 ?_
  obtain ⟨e1, h1, hf⟩ := ok_bind hf
  refine r_cV_I (pc := 999) [iv ((xs (q + 1)).toInt)] S0 hK hX mv_L_141 (k_X11_tread h1) (c_X11_tread l cA D N sx ad T A nx I wx ((xs (q + 1)).toInt) (cn_toInt _) e1 h1) rfl rfl ⟨by decide, by decide⟩ (Nat.le_of_ble_eq_true rfl) (show cells ≤ 600000 ∧ slots ≤ 7302250 by omega) dL_law_999 (fun c1 => ?_)
  refine r_aload_n (pc := 1002) S0 2 dL_law_1002 rfl rfl ?_
  refine r_aload_n (pc := 1003) S0 0 dL_law_1003 rfl rfl ?_
  refine r_iload_n (pc := 1004) S0 3 dL_law_1004 rfl rfl ?_
  refine r_iconst (pc := 1005) S0 dL_law_1005 ?_
  refine r_iadd (pc := 1006) S0 dL_law_1006 ?_
  refine r_sld (pc := 1007) (j := q + 1) S0 hsc hL (lsi q 1 (by omega) (by omega)) (by omega) dL_law_1007 ?_
  obtain ⟨e2, h2, hf⟩ := ok_bind hf
  refine r_cV_I (pc := 1008) [iv ((xs (q + 1)).toInt)] S0 hK hX mv_L_144 (k_X12_tread h2) (c_X12_tread l cA D N sx ad T A nx e1.2 wm ((xs (q + 1)).toInt) (cn_toInt _) e2 h2) rfl rfl ⟨by decide, by decide⟩ (Nat.le_of_ble_eq_true rfl) (show cells ≤ 600000 ∧ slots ≤ 7302250 by omega) dL_law_1008 (fun c2 => ?_)
  refine r_icmp_eq (pc := 1011) (tgt := 1965) S0 dL_law_1011 (by decide) c1 c2 hf (fun hf => ?_) (fun hf => (ok_none hf).elim)
  have hz := ok_some hf
  have hz : (T, A, nx, e2.2) = S2 := hz
  subst hz
  exact kk ad cells slots (fun _ _ => rfl) (by omega) (by omega) (Nat.le_refl _) hrb
set_option maxHeartbeats 4000000 in
set_option maxRecDepth 100000 in
theorem lc_32 {p : Program} {l : Launch} {e0 : Env} {s : State} {m : MethodId} {args : Array Value} {below : List Frame} {meth : Method} {c : Code} {cells slots : Nat} {Q : State → Prop} {cA : Nat → ClassId} {D : va_G} {N : Nat} {ad : Nat → Nat} {T : Knd} {A : Rfs} {nx : Nat} {I : Mem} {sx : Sx} {b L wx wm q : Nat} {xs : Nat → Int32} (S0 : CallFix p m c code 4 s args gT RL) (hK : va_K D vwCl (tyl cA) s) (hX : XX sx N s) (hAX : AX s) (hsc : SC N b L xs s) (hL : L ≤ 3072) (hq : q + 6 ≤ L) (hrb : RB A nx) (hbx : 1 ≤ wx ∧ wx ≤ nx) (hbm : 1 ≤ wm ∧ wm ≤ nx) (hcl : cells + 21 ≤ 600000 ∧ slots + 191 ≤ 7302250) {S2 : St} (hstep : ls_32 wx wm (xs (q + 1)).toInt (xs (q + 2)).toInt (xs (q + 3)).toInt (xs (q + 4)).toInt (xs (q + 5)).toInt T A nx I = some S2) (kk : ∀ (ad1 : Nat → Nat) (c2 s2 : Nat), (∀ i, i ≤ nx → ad1 i = ad i) → c2 ≤ cells + 21 → s2 ≤ slots + 191 → nx ≤ S2.2.2.1 → RB S2.2.1 S2.2.2.1 → G p l e0 room_1 s m args below meth c c2 s2 Q cA D N 4 ad1 S2.1 S2.2.1 S2.2.2.1 1965 [(0, .ref b), (1, rv ad1 wx), (2, rv ad1 wm), (3, iv (q : Int))] [] S2.2.2.2) : G p l e0 room_1 s m args below meth c cells slots Q cA D N 4 ad T A nx 1016 [(0, .ref b), (1, rv ad wx), (2, rv ad wm), (3, iv (q : Int))] [] I := by
  have hf : OK (ls_32 wx wm (xs (q + 1)).toInt (xs (q + 2)).toInt (xs (q + 3)).toInt (xs (q + 4)).toInt (xs (q + 5)).toInt T A nx I) (fun z => z = S2) := ⟨S2, hstep, rfl⟩
  unfold ls_32 at hf
  refine r_aload_n (pc := 1016) S0 1 dL_law_1016 rfl rfl ?_
  obtain ⟨e1, h1, hf⟩ := ok_bind hf
  refine r_cV_I (pc := 1017) [] S0 hK hX mv_L_145 (k_X11_cheapest h1) (c_X11_cheapest l cA D N sx ad T A nx I wx e1 h1) rfl rfl ⟨by decide, by decide⟩ (Nat.le_of_ble_eq_true rfl) (show cells ≤ 600000 ∧ slots ≤ 7302250 by omega) dL_law_1017 (fun c1 => ?_)
  refine r_aload_n (pc := 1020) S0 2 dL_law_1020 rfl rfl ?_
  obtain ⟨e2, h2, hf⟩ := ok_bind hf
  refine r_cV_I (pc := 1021) [] S0 hK hX mv_L_148 (k_X12_cheapest h2) (c_X12_cheapest l cA D N sx ad T A nx e1.2 wm e2 h2) rfl rfl ⟨by decide, by decide⟩ (Nat.le_of_ble_eq_true rfl) (show cells ≤ 600000 ∧ slots ≤ 7302250 by omega) dL_law_1021 (fun c2 => ?_)
  refine r_icmp_eq (pc := 1024) (tgt := 1965) S0 dL_law_1024 (by decide) c1 c2 hf (fun hf => ?_) (fun hf => (ok_none hf).elim)
  have hz := ok_some hf
  have hz : (T, A, nx, e2.2) = S2 := hz
  subst hz
  exact kk ad cells slots (fun _ _ => rfl) (by omega) (by omega) (Nat.le_refl _) hrb
set_option maxHeartbeats 4000000 in
set_option maxRecDepth 100000 in
theorem lc_33 {p : Program} {l : Launch} {e0 : Env} {s : State} {m : MethodId} {args : Array Value} {below : List Frame} {meth : Method} {c : Code} {cells slots : Nat} {Q : State → Prop} {cA : Nat → ClassId} {D : va_G} {N : Nat} {ad : Nat → Nat} {T : Knd} {A : Rfs} {nx : Nat} {I : Mem} {sx : Sx} {b L wx wm q : Nat} {xs : Nat → Int32} (S0 : CallFix p m c code 4 s args gT RL) (hK : va_K D vwCl (tyl cA) s) (hX : XX sx N s) (hAX : AX s) (hsc : SC N b L xs s) (hL : L ≤ 3072) (hq : q + 6 ≤ L) (hrb : RB A nx) (hbx : 1 ≤ wx ∧ wx ≤ nx) (hbm : 1 ≤ wm ∧ wm ≤ nx) (hcl : cells + 21 ≤ 600000 ∧ slots + 191 ≤ 7302250) {S2 : St} (hstep : ls_33 wx wm (xs (q + 1)).toInt (xs (q + 2)).toInt (xs (q + 3)).toInt (xs (q + 4)).toInt (xs (q + 5)).toInt T A nx I = some S2) (kk : ∀ (ad1 : Nat → Nat) (c2 s2 : Nat), (∀ i, i ≤ nx → ad1 i = ad i) → c2 ≤ cells + 21 → s2 ≤ slots + 191 → nx ≤ S2.2.2.1 → RB S2.2.1 S2.2.2.1 → G p l e0 room_1 s m args below meth c c2 s2 Q cA D N 4 ad1 S2.1 S2.2.1 S2.2.2.1 1965 [(0, .ref b), (1, rv ad1 wx), (2, rv ad1 wm), (3, iv (q : Int))] [] S2.2.2.2) : G p l e0 room_1 s m args below meth c cells slots Q cA D N 4 ad T A nx 1029 [(0, .ref b), (1, rv ad wx), (2, rv ad wm), (3, iv (q : Int))] [] I := by
  have hf : OK (ls_33 wx wm (xs (q + 1)).toInt (xs (q + 2)).toInt (xs (q + 3)).toInt (xs (q + 4)).toInt (xs (q + 5)).toInt T A nx I) (fun z => z = S2) := ⟨S2, hstep, rfl⟩
  unfold ls_33 at hf
  refine r_aload_n (pc := 1029) S0 1 dL_law_1029 rfl rfl ?_
  obtain ⟨e1, h1, hf⟩ := ok_bind hf
  refine r_cV_I (pc := 1030) [] S0 hK hX mv_L_149 (k_X11_whom h1) (c_X11_whom l cA D N sx ad T A nx I wx e1 h1) rfl rfl ⟨by decide, by decide⟩ (Nat.le_of_ble_eq_true rfl) (show cells ≤ 600000 ∧ slots ≤ 7302250 by omega) dL_law_1030 (fun c1 => ?_)
  refine r_aload_n (pc := 1033) S0 2 dL_law_1033 rfl rfl ?_
  obtain ⟨e2, h2, hf⟩ := ok_bind hf
  refine r_cV_I (pc := 1034) [] S0 hK hX mv_L_152 (k_X12_whom h2) (c_X12_whom l cA D N sx ad T A nx e1.2 wm e2 h2) rfl rfl ⟨by decide, by decide⟩ (Nat.le_of_ble_eq_true rfl) (show cells ≤ 600000 ∧ slots ≤ 7302250 by omega) dL_law_1034 (fun c2 => ?_)
  refine r_icmp_eq (pc := 1037) (tgt := 1965) S0 dL_law_1037 (by decide) c1 c2 hf (fun hf => ?_) (fun hf => (ok_none hf).elim)
  have hz := ok_some hf
  have hz : (T, A, nx, e2.2) = S2 := hz
  subst hz
  exact kk ad cells slots (fun _ _ => rfl) (by omega) (by omega) (Nat.le_refl _) hrb
set_option maxHeartbeats 4000000 in
set_option maxRecDepth 100000 in
theorem lc_34 {p : Program} {l : Launch} {e0 : Env} {s : State} {m : MethodId} {args : Array Value} {below : List Frame} {meth : Method} {c : Code} {cells slots : Nat} {Q : State → Prop} {cA : Nat → ClassId} {D : va_G} {N : Nat} {ad : Nat → Nat} {T : Knd} {A : Rfs} {nx : Nat} {I : Mem} {sx : Sx} {b L wx wm q : Nat} {xs : Nat → Int32} (S0 : CallFix p m c code 4 s args gT RL) (hK : va_K D vwCl (tyl cA) s) (hX : XX sx N s) (hAX : AX s) (hsc : SC N b L xs s) (hL : L ≤ 3072) (hq : q + 6 ≤ L) (hrb : RB A nx) (hbx : 1 ≤ wx ∧ wx ≤ nx) (hbm : 1 ≤ wm ∧ wm ≤ nx) (hcl : cells + 21 ≤ 600000 ∧ slots + 191 ≤ 7302250) {S2 : St} (hstep : ls_34 wx wm (xs (q + 1)).toInt (xs (q + 2)).toInt (xs (q + 3)).toInt (xs (q + 4)).toInt (xs (q + 5)).toInt T A nx I = some S2) (kk : ∀ (ad1 : Nat → Nat) (c2 s2 : Nat), (∀ i, i ≤ nx → ad1 i = ad i) → c2 ≤ cells + 21 → s2 ≤ slots + 191 → nx ≤ S2.2.2.1 → RB S2.2.1 S2.2.2.1 → G p l e0 room_1 s m args below meth c c2 s2 Q cA D N 4 ad1 S2.1 S2.2.1 S2.2.2.1 1965 [(0, .ref b), (1, rv ad1 wx), (2, rv ad1 wm), (3, iv (q : Int))] [] S2.2.2.2) : G p l e0 room_1 s m args below meth c cells slots Q cA D N 4 ad T A nx 1042 [(0, .ref b), (1, rv ad wx), (2, rv ad wm), (3, iv (q : Int))] [] I := by
  have hf : OK (ls_34 wx wm (xs (q + 1)).toInt (xs (q + 2)).toInt (xs (q + 3)).toInt (xs (q + 4)).toInt (xs (q + 5)).toInt T A nx I) (fun z => z = S2) := ⟨S2, hstep, rfl⟩
  unfold ls_34 at hf
  refine r_aload_n (pc := 1042) S0 1 dL_law_1042 rfl rfl ?_
  obtain ⟨e1, h1, hf⟩ := ok_bind hf
  refine r_cV_I (pc := 1043) [] S0 hK hX mv_L_153 (k_X11_ways h1) (c_X11_ways l cA D N sx ad T A nx I wx e1 h1) rfl rfl ⟨by decide, by decide⟩ (Nat.le_of_ble_eq_true rfl) (show cells ≤ 600000 ∧ slots ≤ 7302250 by omega) dL_law_1043 (fun c1 => ?_)
  refine r_aload_n (pc := 1046) S0 2 dL_law_1046 rfl rfl ?_
  obtain ⟨e2, h2, hf⟩ := ok_bind hf
  refine r_cV_I (pc := 1047) [] S0 hK hX mv_L_156 (k_X12_ways h2) (c_X12_ways l cA D N sx ad T A nx e1.2 wm e2 h2) rfl rfl ⟨by decide, by decide⟩ (Nat.le_of_ble_eq_true rfl) (show cells ≤ 600000 ∧ slots ≤ 7302250 by omega) dL_law_1047 (fun c2 => ?_)
  refine r_icmp_eq (pc := 1050) (tgt := 1965) S0 dL_law_1050 (by decide) c1 c2 hf (fun hf => ?_) (fun hf => (ok_none hf).elim)
  have hz := ok_some hf
  have hz : (T, A, nx, e2.2) = S2 := hz
  subst hz
  exact kk ad cells slots (fun _ _ => rfl) (by omega) (by omega) (Nat.le_refl _) hrb
set_option maxHeartbeats 4000000 in
set_option maxRecDepth 100000 in
theorem lc_35 {p : Program} {l : Launch} {e0 : Env} {s : State} {m : MethodId} {args : Array Value} {below : List Frame} {meth : Method} {c : Code} {cells slots : Nat} {Q : State → Prop} {cA : Nat → ClassId} {D : va_G} {N : Nat} {ad : Nat → Nat} {T : Knd} {A : Rfs} {nx : Nat} {I : Mem} {sx : Sx} {b L wx wm q : Nat} {xs : Nat → Int32} (S0 : CallFix p m c code 4 s args gT RL) (hK : va_K D vwCl (tyl cA) s) (hX : XX sx N s) (hAX : AX s) (hsc : SC N b L xs s) (hL : L ≤ 3072) (hq : q + 6 ≤ L) (hrb : RB A nx) (hbx : 1 ≤ wx ∧ wx ≤ nx) (hbm : 1 ≤ wm ∧ wm ≤ nx) (hcl : cells + 21 ≤ 600000 ∧ slots + 191 ≤ 7302250) {S2 : St} (hstep : ls_35 wx wm (xs (q + 1)).toInt (xs (q + 2)).toInt (xs (q + 3)).toInt (xs (q + 4)).toInt (xs (q + 5)).toInt T A nx I = some S2) (kk : ∀ (ad1 : Nat → Nat) (c2 s2 : Nat), (∀ i, i ≤ nx → ad1 i = ad i) → c2 ≤ cells + 21 → s2 ≤ slots + 191 → nx ≤ S2.2.2.1 → RB S2.2.1 S2.2.2.1 → G p l e0 room_1 s m args below meth c c2 s2 Q cA D N 4 ad1 S2.1 S2.2.1 S2.2.2.1 1965 [(0, .ref b), (1, rv ad1 wx), (2, rv ad1 wm), (3, iv (q : Int))] [] S2.2.2.2) : G p l e0 room_1 s m args below meth c cells slots Q cA D N 4 ad T A nx 1055 [(0, .ref b), (1, rv ad wx), (2, rv ad wm), (3, iv (q : Int))] [] I := by
  have hf : OK (ls_35 wx wm (xs (q + 1)).toInt (xs (q + 2)).toInt (xs (q + 3)).toInt (xs (q + 4)).toInt (xs (q + 5)).toInt T A nx I) (fun z => z = S2) := ⟨S2, hstep, rfl⟩
  unfold ls_35 at hf
  refine r_aload_n (pc := 1055) S0 1 dL_law_1055 rfl rfl ?_
  refine r_aload_n (pc := 1056) S0 0 dL_law_1056 rfl rfl ?_
  refine r_iload_n (pc := 1057) S0 3 dL_law_1057 rfl rfl ?_
  refine r_iconst (pc := 1058) S0 dL_law_1058 ?_
  refine r_iadd (pc := 1059) S0 dL_law_1059 ?_
  refine r_sld (pc := 1060) (j := q + 1) S0 hsc hL (lsi q 1 (by omega) (by omega)) (by omega) dL_law_1060 ?_
  obtain ⟨e1, h1, hf⟩ := ok_bind hf
  refine r_cV_I (pc := 1061) [iv ((xs (q + 1)).toInt)] S0 hK hX mv_L_157 (k_X11_always h1) (c_X11_always l cA D N sx ad T A nx I wx ((xs (q + 1)).toInt) (cn_toInt _) e1 h1) rfl rfl ⟨by decide, by decide⟩ (Nat.le_of_ble_eq_true rfl) (show cells ≤ 600000 ∧ slots ≤ 7302250 by omega) dL_law_1061 (fun c1 => ?_)
  refine r_aload_n (pc := 1064) S0 2 dL_law_1064 rfl rfl ?_
  refine r_aload_n (pc := 1065) S0 0 dL_law_1065 rfl rfl ?_
  refine r_iload_n (pc := 1066) S0 3 dL_law_1066 rfl rfl ?_
  refine r_iconst (pc := 1067) S0 dL_law_1067 ?_
  refine r_iadd (pc := 1068) S0 dL_law_1068 ?_
  refine r_sld (pc := 1069) (j := q + 1) S0 hsc hL (lsi q 1 (by omega) (by omega)) (by omega) dL_law_1069 ?_
  obtain ⟨e2, h2, hf⟩ := ok_bind hf
  refine r_cV_I (pc := 1070) [iv ((xs (q + 1)).toInt)] S0 hK hX mv_L_160 (k_X12_always h2) (c_X12_always l cA D N sx ad T A nx e1.2 wm ((xs (q + 1)).toInt) (cn_toInt _) e2 h2) rfl rfl ⟨by decide, by decide⟩ (Nat.le_of_ble_eq_true rfl) (show cells ≤ 600000 ∧ slots ≤ 7302250 by omega) dL_law_1070 (fun c2 => ?_)
  refine r_icmp_eq (pc := 1073) (tgt := 1965) S0 dL_law_1073 (by decide) c1 c2 hf (fun hf => ?_) (fun hf => (ok_none hf).elim)
  have hz := ok_some hf
  have hz : (T, A, nx, e2.2) = S2 := hz
  subst hz
  exact kk ad cells slots (fun _ _ => rfl) (by omega) (by omega) (Nat.le_refl _) hrb
set_option maxHeartbeats 4000000 in
set_option maxRecDepth 100000 in
theorem lc_36 {p : Program} {l : Launch} {e0 : Env} {s : State} {m : MethodId} {args : Array Value} {below : List Frame} {meth : Method} {c : Code} {cells slots : Nat} {Q : State → Prop} {cA : Nat → ClassId} {D : va_G} {N : Nat} {ad : Nat → Nat} {T : Knd} {A : Rfs} {nx : Nat} {I : Mem} {sx : Sx} {b L wx wm q : Nat} {xs : Nat → Int32} (S0 : CallFix p m c code 4 s args gT RL) (hK : va_K D vwCl (tyl cA) s) (hX : XX sx N s) (hAX : AX s) (hsc : SC N b L xs s) (hL : L ≤ 3072) (hq : q + 6 ≤ L) (hrb : RB A nx) (hbx : 1 ≤ wx ∧ wx ≤ nx) (hbm : 1 ≤ wm ∧ wm ≤ nx) (hcl : cells + 21 ≤ 600000 ∧ slots + 191 ≤ 7302250) {S2 : St} (hstep : ls_36 wx wm (xs (q + 1)).toInt (xs (q + 2)).toInt (xs (q + 3)).toInt (xs (q + 4)).toInt (xs (q + 5)).toInt T A nx I = some S2) (kk : ∀ (ad1 : Nat → Nat) (c2 s2 : Nat), (∀ i, i ≤ nx → ad1 i = ad i) → c2 ≤ cells + 21 → s2 ≤ slots + 191 → nx ≤ S2.2.2.1 → RB S2.2.1 S2.2.2.1 → G p l e0 room_1 s m args below meth c c2 s2 Q cA D N 4 ad1 S2.1 S2.2.1 S2.2.2.1 1965 [(0, .ref b), (1, rv ad1 wx), (2, rv ad1 wm), (3, iv (q : Int))] [] S2.2.2.2) : G p l e0 room_1 s m args below meth c cells slots Q cA D N 4 ad T A nx 1078 [(0, .ref b), (1, rv ad wx), (2, rv ad wm), (3, iv (q : Int))] [] I := by
  have hf : OK (ls_36 wx wm (xs (q + 1)).toInt (xs (q + 2)).toInt (xs (q + 3)).toInt (xs (q + 4)).toInt (xs (q + 5)).toInt T A nx I) (fun z => z = S2) := ⟨S2, hstep, rfl⟩
  unfold ls_36 at hf
  refine r_aload_n (pc := 1078) S0 1 dL_law_1078 rfl rfl ?_
  refine r_aload_n (pc := 1079) S0 0 dL_law_1079 rfl rfl ?_
  refine r_iload_n (pc := 1080) S0 3 dL_law_1080 rfl rfl ?_
  refine r_iconst (pc := 1081) S0 dL_law_1081 ?_
  refine r_iadd (pc := 1082) S0 dL_law_1082 ?_
  refine r_sld (pc := 1083) (j := q + 1) S0 hsc hL (lsi q 1 (by omega) (by omega)) (by omega) dL_law_1083 ?_
  obtain ⟨e1, h1, hf⟩ := ok_bind hf
  refine r_cV_I (pc := 1084) [iv ((xs (q + 1)).toInt)] S0 hK hX mv_L_161 (k_X11_slack h1) (c_X11_slack l cA D N sx ad T A nx I wx ((xs (q + 1)).toInt) (cn_toInt _) e1 h1) rfl rfl ⟨by decide, by decide⟩ (Nat.le_of_ble_eq_true rfl) (show cells ≤ 600000 ∧ slots ≤ 7302250 by omega) dL_law_1084 (fun c1 => ?_)
  refine r_aload_n (pc := 1087) S0 2 dL_law_1087 rfl rfl ?_
  refine r_aload_n (pc := 1088) S0 0 dL_law_1088 rfl rfl ?_
  refine r_iload_n (pc := 1089) S0 3 dL_law_1089 rfl rfl ?_
  refine r_iconst (pc := 1090) S0 dL_law_1090 ?_
  refine r_iadd (pc := 1091) S0 dL_law_1091 ?_
  refine r_sld (pc := 1092) (j := q + 1) S0 hsc hL (lsi q 1 (by omega) (by omega)) (by omega) dL_law_1092 ?_
  obtain ⟨e2, h2, hf⟩ := ok_bind hf
  refine r_cV_I (pc := 1093) [iv ((xs (q + 1)).toInt)] S0 hK hX mv_L_164 (k_X12_slack h2) (c_X12_slack l cA D N sx ad T A nx e1.2 wm ((xs (q + 1)).toInt) (cn_toInt _) e2 h2) rfl rfl ⟨by decide, by decide⟩ (Nat.le_of_ble_eq_true rfl) (show cells ≤ 600000 ∧ slots ≤ 7302250 by omega) dL_law_1093 (fun c2 => ?_)
  refine r_icmp_eq (pc := 1096) (tgt := 1965) S0 dL_law_1096 (by decide) c1 c2 hf (fun hf => ?_) (fun hf => (ok_none hf).elim)
  have hz := ok_some hf
  have hz : (T, A, nx, e2.2) = S2 := hz
  subst hz
  exact kk ad cells slots (fun _ _ => rfl) (by omega) (by omega) (Nat.le_refl _) hrb
set_option maxHeartbeats 4000000 in
set_option maxRecDepth 100000 in
theorem lc_37 {p : Program} {l : Launch} {e0 : Env} {s : State} {m : MethodId} {args : Array Value} {below : List Frame} {meth : Method} {c : Code} {cells slots : Nat} {Q : State → Prop} {cA : Nat → ClassId} {D : va_G} {N : Nat} {ad : Nat → Nat} {T : Knd} {A : Rfs} {nx : Nat} {I : Mem} {sx : Sx} {b L wx wm q : Nat} {xs : Nat → Int32} (S0 : CallFix p m c code 4 s args gT RL) (hK : va_K D vwCl (tyl cA) s) (hX : XX sx N s) (hAX : AX s) (hsc : SC N b L xs s) (hL : L ≤ 3072) (hq : q + 6 ≤ L) (hrb : RB A nx) (hbx : 1 ≤ wx ∧ wx ≤ nx) (hbm : 1 ≤ wm ∧ wm ≤ nx) (hcl : cells + 21 ≤ 600000 ∧ slots + 191 ≤ 7302250) {S2 : St} (hstep : ls_37 wx wm (xs (q + 1)).toInt (xs (q + 2)).toInt (xs (q + 3)).toInt (xs (q + 4)).toInt (xs (q + 5)).toInt T A nx I = some S2) (kk : ∀ (ad1 : Nat → Nat) (c2 s2 : Nat), (∀ i, i ≤ nx → ad1 i = ad i) → c2 ≤ cells + 21 → s2 ≤ slots + 191 → nx ≤ S2.2.2.1 → RB S2.2.1 S2.2.2.1 → G p l e0 room_1 s m args below meth c c2 s2 Q cA D N 4 ad1 S2.1 S2.2.1 S2.2.2.1 1965 [(0, .ref b), (1, rv ad1 wx), (2, rv ad1 wm), (3, iv (q : Int))] [] S2.2.2.2) : G p l e0 room_1 s m args below meth c cells slots Q cA D N 4 ad T A nx 1101 [(0, .ref b), (1, rv ad wx), (2, rv ad wm), (3, iv (q : Int))] [] I := by
  have hf : OK (ls_37 wx wm (xs (q + 1)).toInt (xs (q + 2)).toInt (xs (q + 3)).toInt (xs (q + 4)).toInt (xs (q + 5)).toInt T A nx I) (fun z => z = S2) := ⟨S2, hstep, rfl⟩
  unfold ls_37 at hf
  refine r_aload_n (pc := 1101) S0 1 dL_law_1101 rfl rfl ?_
  refine r_aload_n (pc := 1102) S0 0 dL_law_1102 rfl rfl ?_
  refine r_iload_n (pc := 1103) S0 3 dL_law_1103 rfl rfl ?_
  refine r_iconst (pc := 1104) S0 dL_law_1104 ?_
  refine r_iadd (pc := 1105) S0 dL_law_1105 ?_
  refine r_sld (pc := 1106) (j := q + 1) S0 hsc hL (lsi q 1 (by omega) (by omega)) (by omega) dL_law_1106 ?_
  obtain ⟨e1, h1, hf⟩ := ok_bind hf
  refine r_cV_I (pc := 1107) [iv ((xs (q + 1)).toInt)] S0 hK hX mv_L_165 (k_X11_start h1) (c_X11_start l cA D N sx ad T A nx I wx ((xs (q + 1)).toInt) (cn_toInt _) e1 h1) rfl rfl ⟨by decide, by decide⟩ (Nat.le_of_ble_eq_true rfl) (show cells ≤ 600000 ∧ slots ≤ 7302250 by omega) dL_law_1107 (fun c1 => ?_)
  refine r_aload_n (pc := 1110) S0 2 dL_law_1110 rfl rfl ?_
  refine r_aload_n (pc := 1111) S0 0 dL_law_1111 rfl rfl ?_
  refine r_iload_n (pc := 1112) S0 3 dL_law_1112 rfl rfl ?_
  refine r_iconst (pc := 1113) S0 dL_law_1113 ?_
  refine r_iadd (pc := 1114) S0 dL_law_1114 ?_
  refine r_sld (pc := 1115) (j := q + 1) S0 hsc hL (lsi q 1 (by omega) (by omega)) (by omega) dL_law_1115 ?_
  obtain ⟨e2, h2, hf⟩ := ok_bind hf
  refine r_cV_I (pc := 1116) [iv ((xs (q + 1)).toInt)] S0 hK hX mv_L_168 (k_X12_start h2) (c_X12_start l cA D N sx ad T A nx e1.2 wm ((xs (q + 1)).toInt) (cn_toInt _) e2 h2) rfl rfl ⟨by decide, by decide⟩ (Nat.le_of_ble_eq_true rfl) (show cells ≤ 600000 ∧ slots ≤ 7302250 by omega) dL_law_1116 (fun c2 => ?_)
  refine r_icmp_eq (pc := 1119) (tgt := 1965) S0 dL_law_1119 (by decide) c1 c2 hf (fun hf => ?_) (fun hf => (ok_none hf).elim)
  have hz := ok_some hf
  have hz : (T, A, nx, e2.2) = S2 := hz
  subst hz
  exact kk ad cells slots (fun _ _ => rfl) (by omega) (by omega) (Nat.le_refl _) hrb
set_option maxHeartbeats 4000000 in
set_option maxRecDepth 100000 in
theorem lc_38 {p : Program} {l : Launch} {e0 : Env} {s : State} {m : MethodId} {args : Array Value} {below : List Frame} {meth : Method} {c : Code} {cells slots : Nat} {Q : State → Prop} {cA : Nat → ClassId} {D : va_G} {N : Nat} {ad : Nat → Nat} {T : Knd} {A : Rfs} {nx : Nat} {I : Mem} {sx : Sx} {b L wx wm q : Nat} {xs : Nat → Int32} (S0 : CallFix p m c code 4 s args gT RL) (hK : va_K D vwCl (tyl cA) s) (hX : XX sx N s) (hAX : AX s) (hsc : SC N b L xs s) (hL : L ≤ 3072) (hq : q + 6 ≤ L) (hrb : RB A nx) (hbx : 1 ≤ wx ∧ wx ≤ nx) (hbm : 1 ≤ wm ∧ wm ≤ nx) (hcl : cells + 21 ≤ 600000 ∧ slots + 191 ≤ 7302250) {S2 : St} (hstep : ls_38 wx wm (xs (q + 1)).toInt (xs (q + 2)).toInt (xs (q + 3)).toInt (xs (q + 4)).toInt (xs (q + 5)).toInt T A nx I = some S2) (kk : ∀ (ad1 : Nat → Nat) (c2 s2 : Nat), (∀ i, i ≤ nx → ad1 i = ad i) → c2 ≤ cells + 21 → s2 ≤ slots + 191 → nx ≤ S2.2.2.1 → RB S2.2.1 S2.2.2.1 → G p l e0 room_1 s m args below meth c c2 s2 Q cA D N 4 ad1 S2.1 S2.2.1 S2.2.2.1 1965 [(0, .ref b), (1, rv ad1 wx), (2, rv ad1 wm), (3, iv (q : Int))] [] S2.2.2.2) : G p l e0 room_1 s m args below meth c cells slots Q cA D N 4 ad T A nx 1124 [(0, .ref b), (1, rv ad wx), (2, rv ad wm), (3, iv (q : Int))] [] I := by
  have hf : OK (ls_38 wx wm (xs (q + 1)).toInt (xs (q + 2)).toInt (xs (q + 3)).toInt (xs (q + 4)).toInt (xs (q + 5)).toInt T A nx I) (fun z => z = S2) := ⟨S2, hstep, rfl⟩
  unfold ls_38 at hf
  refine r_aload_n (pc := 1124) S0 1 dL_law_1124 rfl rfl ?_
  refine r_aload_n (pc := 1125) S0 0 dL_law_1125 rfl rfl ?_
  refine r_iload_n (pc := 1126) S0 3 dL_law_1126 rfl rfl ?_
  refine r_iconst (pc := 1127) S0 dL_law_1127 ?_
  refine r_iadd (pc := 1128) S0 dL_law_1128 ?_
  refine r_sld (pc := 1129) (j := q + 1) S0 hsc hL (lsi q 1 (by omega) (by omega)) (by omega) dL_law_1129 ?_
  obtain ⟨e1, h1, hf⟩ := ok_bind hf
  refine r_cV_I (pc := 1130) [iv ((xs (q + 1)).toInt)] S0 hK hX mv_L_169 (k_X11_forged h1) (c_X11_forged l cA D N sx ad T A nx I wx ((xs (q + 1)).toInt) (cn_toInt _) e1 h1) rfl rfl ⟨by decide, by decide⟩ (Nat.le_of_ble_eq_true rfl) (show cells ≤ 600000 ∧ slots ≤ 7302250 by omega) dL_law_1130 (fun c1 => ?_)
  refine r_aload_n (pc := 1133) S0 2 dL_law_1133 rfl rfl ?_
  refine r_aload_n (pc := 1134) S0 0 dL_law_1134 rfl rfl ?_
  refine r_iload_n (pc := 1135) S0 3 dL_law_1135 rfl rfl ?_
  refine r_iconst (pc := 1136) S0 dL_law_1136 ?_
  refine r_iadd (pc := 1137) S0 dL_law_1137 ?_
  refine r_sld (pc := 1138) (j := q + 1) S0 hsc hL (lsi q 1 (by omega) (by omega)) (by omega) dL_law_1138 ?_
  obtain ⟨e2, h2, hf⟩ := ok_bind hf
  refine r_cV_I (pc := 1139) [iv ((xs (q + 1)).toInt)] S0 hK hX mv_L_172 (k_X12_forged h2) (c_X12_forged l cA D N sx ad T A nx e1.2 wm ((xs (q + 1)).toInt) (cn_toInt _) e2 h2) rfl rfl ⟨by decide, by decide⟩ (Nat.le_of_ble_eq_true rfl) (show cells ≤ 600000 ∧ slots ≤ 7302250 by omega) dL_law_1139 (fun c2 => ?_)
  refine r_icmp_eq (pc := 1142) (tgt := 1965) S0 dL_law_1142 (by decide) c1 c2 hf (fun hf => ?_) (fun hf => (ok_none hf).elim)
  have hz := ok_some hf
  have hz : (T, A, nx, e2.2) = S2 := hz
  subst hz
  exact kk ad cells slots (fun _ _ => rfl) (by omega) (by omega) (Nat.le_refl _) hrb
set_option maxHeartbeats 4000000 in
set_option maxRecDepth 100000 in
theorem lc_39 {p : Program} {l : Launch} {e0 : Env} {s : State} {m : MethodId} {args : Array Value} {below : List Frame} {meth : Method} {c : Code} {cells slots : Nat} {Q : State → Prop} {cA : Nat → ClassId} {D : va_G} {N : Nat} {ad : Nat → Nat} {T : Knd} {A : Rfs} {nx : Nat} {I : Mem} {sx : Sx} {b L wx wm q : Nat} {xs : Nat → Int32} (S0 : CallFix p m c code 4 s args gT RL) (hK : va_K D vwCl (tyl cA) s) (hX : XX sx N s) (hAX : AX s) (hsc : SC N b L xs s) (hL : L ≤ 3072) (hq : q + 6 ≤ L) (hrb : RB A nx) (hbx : 1 ≤ wx ∧ wx ≤ nx) (hbm : 1 ≤ wm ∧ wm ≤ nx) (hcl : cells + 21 ≤ 600000 ∧ slots + 191 ≤ 7302250) {S2 : St} (hstep : ls_39 wx wm (xs (q + 1)).toInt (xs (q + 2)).toInt (xs (q + 3)).toInt (xs (q + 4)).toInt (xs (q + 5)).toInt T A nx I = some S2) (kk : ∀ (ad1 : Nat → Nat) (c2 s2 : Nat), (∀ i, i ≤ nx → ad1 i = ad i) → c2 ≤ cells + 21 → s2 ≤ slots + 191 → nx ≤ S2.2.2.1 → RB S2.2.1 S2.2.2.1 → G p l e0 room_1 s m args below meth c c2 s2 Q cA D N 4 ad1 S2.1 S2.2.1 S2.2.2.1 1965 [(0, .ref b), (1, rv ad1 wx), (2, rv ad1 wm), (3, iv (q : Int))] [] S2.2.2.2) : G p l e0 room_1 s m args below meth c cells slots Q cA D N 4 ad T A nx 1147 [(0, .ref b), (1, rv ad wx), (2, rv ad wm), (3, iv (q : Int))] [] I := by
  have hf : OK (ls_39 wx wm (xs (q + 1)).toInt (xs (q + 2)).toInt (xs (q + 3)).toInt (xs (q + 4)).toInt (xs (q + 5)).toInt T A nx I) (fun z => z = S2) := ⟨S2, hstep, rfl⟩
  unfold ls_39 at hf
  refine r_aload_n (pc := 1147) S0 1 dL_law_1147 rfl rfl ?_
  obtain ⟨e1, h1, hf⟩ := ok_bind hf
  refine r_cV_I (pc := 1148) [] S0 hK hX mv_L_173 (k_X11_fake h1) (c_X11_fake l cA D N sx ad T A nx I wx e1 h1) rfl rfl ⟨by decide, by decide⟩ (Nat.le_of_ble_eq_true rfl) (show cells ≤ 600000 ∧ slots ≤ 7302250 by omega) dL_law_1148 (fun c1 => ?_)
  refine r_aload_n (pc := 1151) S0 2 dL_law_1151 rfl rfl ?_
  obtain ⟨e2, h2, hf⟩ := ok_bind hf
  refine r_cV_I (pc := 1152) [] S0 hK hX mv_L_176 (k_X12_fake h2) (c_X12_fake l cA D N sx ad T A nx e1.2 wm e2 h2) rfl rfl ⟨by decide, by decide⟩ (Nat.le_of_ble_eq_true rfl) (show cells ≤ 600000 ∧ slots ≤ 7302250 by omega) dL_law_1152 (fun c2 => ?_)
  refine r_icmp_eq (pc := 1155) (tgt := 1965) S0 dL_law_1155 (by decide) c1 c2 hf (fun hf => ?_) (fun hf => (ok_none hf).elim)
  have hz := ok_some hf
  have hz : (T, A, nx, e2.2) = S2 := hz
  subst hz
  exact kk ad cells slots (fun _ _ => rfl) (by omega) (by omega) (Nat.le_refl _) hrb
set_option maxHeartbeats 4000000 in
set_option maxRecDepth 100000 in
theorem lc_40 {p : Program} {l : Launch} {e0 : Env} {s : State} {m : MethodId} {args : Array Value} {below : List Frame} {meth : Method} {c : Code} {cells slots : Nat} {Q : State → Prop} {cA : Nat → ClassId} {D : va_G} {N : Nat} {ad : Nat → Nat} {T : Knd} {A : Rfs} {nx : Nat} {I : Mem} {sx : Sx} {b L wx wm q : Nat} {xs : Nat → Int32} (S0 : CallFix p m c code 4 s args gT RL) (hK : va_K D vwCl (tyl cA) s) (hX : XX sx N s) (hAX : AX s) (hsc : SC N b L xs s) (hL : L ≤ 3072) (hq : q + 6 ≤ L) (hrb : RB A nx) (hbx : 1 ≤ wx ∧ wx ≤ nx) (hbm : 1 ≤ wm ∧ wm ≤ nx) (hcl : cells + 21 ≤ 600000 ∧ slots + 191 ≤ 7302250) {S2 : St} (hstep : ls_40 wx wm (xs (q + 1)).toInt (xs (q + 2)).toInt (xs (q + 3)).toInt (xs (q + 4)).toInt (xs (q + 5)).toInt T A nx I = some S2) (kk : ∀ (ad1 : Nat → Nat) (c2 s2 : Nat), (∀ i, i ≤ nx → ad1 i = ad i) → c2 ≤ cells + 21 → s2 ≤ slots + 191 → nx ≤ S2.2.2.1 → RB S2.2.1 S2.2.2.1 → G p l e0 room_1 s m args below meth c c2 s2 Q cA D N 4 ad1 S2.1 S2.2.1 S2.2.2.1 1965 [(0, .ref b), (1, rv ad1 wx), (2, rv ad1 wm), (3, iv (q : Int))] [] S2.2.2.2) : G p l e0 room_1 s m args below meth c cells slots Q cA D N 4 ad T A nx 1160 [(0, .ref b), (1, rv ad wx), (2, rv ad wm), (3, iv (q : Int))] [] I := by
  have hf : OK (ls_40 wx wm (xs (q + 1)).toInt (xs (q + 2)).toInt (xs (q + 3)).toInt (xs (q + 4)).toInt (xs (q + 5)).toInt T A nx I) (fun z => z = S2) := ⟨S2, hstep, rfl⟩
  unfold ls_40 at hf
  refine r_aload_n (pc := 1160) S0 1 dL_law_1160 rfl rfl ?_
  refine r_aload_n (pc := 1161) S0 0 dL_law_1161 rfl rfl ?_
  refine r_iload_n (pc := 1162) S0 3 dL_law_1162 rfl rfl ?_
  refine r_iconst (pc := 1163) S0 dL_law_1163 ?_
  refine r_iadd (pc := 1164) S0 dL_law_1164 ?_
  refine r_sld (pc := 1165) (j := q + 1) S0 hsc hL (lsi q 1 (by omega) (by omega)) (by omega) dL_law_1165 ?_
  obtain ⟨e1, h1, hf⟩ := ok_bind hf
  refine r_cV_I (pc := 1166) [iv ((xs (q + 1)).toInt)] S0 hK hX mv_L_177 (k_X11_possible h1) (c_X11_possible l cA D N sx ad T A nx I wx ((xs (q + 1)).toInt) (cn_toInt _) e1 h1) rfl rfl ⟨by decide, by decide⟩ (Nat.le_of_ble_eq_true rfl) (show cells ≤ 600000 ∧ slots ≤ 7302250 by omega) dL_law_1166 (fun c1 => ?_)
  refine r_aload_n (pc := 1169) S0 2 dL_law_1169 rfl rfl ?_
  refine r_aload_n (pc := 1170) S0 0 dL_law_1170 rfl rfl ?_
  refine r_iload_n (pc := 1171) S0 3 dL_law_1171 rfl rfl ?_
  refine r_iconst (pc := 1172) S0 dL_law_1172 ?_
  refine r_iadd (pc := 1173) S0 dL_law_1173 ?_
  refine r_sld (pc := 1174) (j := q + 1) S0 hsc hL (lsi q 1 (by omega) (by omega)) (by omega) dL_law_1174 ?_
  obtain ⟨e2, h2, hf⟩ := ok_bind hf
  refine r_cV_I (pc := 1175) [iv ((xs (q + 1)).toInt)] S0 hK hX mv_L_180 (k_X12_possible h2) (c_X12_possible l cA D N sx ad T A nx e1.2 wm ((xs (q + 1)).toInt) (cn_toInt _) e2 h2) rfl rfl ⟨by decide, by decide⟩ (Nat.le_of_ble_eq_true rfl) (show cells ≤ 600000 ∧ slots ≤ 7302250 by omega) dL_law_1175 (fun c2 => ?_)
  refine r_icmp_eq (pc := 1178) (tgt := 1965) S0 dL_law_1178 (by decide) c1 c2 hf (fun hf => ?_) (fun hf => (ok_none hf).elim)
  have hz := ok_some hf
  have hz : (T, A, nx, e2.2) = S2 := hz
  subst hz
  exact kk ad cells slots (fun _ _ => rfl) (by omega) (by omega) (Nat.le_refl _) hrb
set_option maxHeartbeats 4000000 in
set_option maxRecDepth 100000 in
theorem lc_41 {p : Program} {l : Launch} {e0 : Env} {s : State} {m : MethodId} {args : Array Value} {below : List Frame} {meth : Method} {c : Code} {cells slots : Nat} {Q : State → Prop} {cA : Nat → ClassId} {D : va_G} {N : Nat} {ad : Nat → Nat} {T : Knd} {A : Rfs} {nx : Nat} {I : Mem} {sx : Sx} {b L wx wm q : Nat} {xs : Nat → Int32} (S0 : CallFix p m c code 4 s args gT RL) (hK : va_K D vwCl (tyl cA) s) (hX : XX sx N s) (hAX : AX s) (hsc : SC N b L xs s) (hL : L ≤ 3072) (hq : q + 6 ≤ L) (hrb : RB A nx) (hbx : 1 ≤ wx ∧ wx ≤ nx) (hbm : 1 ≤ wm ∧ wm ≤ nx) (hcl : cells + 21 ≤ 600000 ∧ slots + 191 ≤ 7302250) {S2 : St} (hstep : ls_41 wx wm (xs (q + 1)).toInt (xs (q + 2)).toInt (xs (q + 3)).toInt (xs (q + 4)).toInt (xs (q + 5)).toInt T A nx I = some S2) (kk : ∀ (ad1 : Nat → Nat) (c2 s2 : Nat), (∀ i, i ≤ nx → ad1 i = ad i) → c2 ≤ cells + 21 → s2 ≤ slots + 191 → nx ≤ S2.2.2.1 → RB S2.2.1 S2.2.2.1 → G p l e0 room_1 s m args below meth c c2 s2 Q cA D N 4 ad1 S2.1 S2.2.1 S2.2.2.1 1965 [(0, .ref b), (1, rv ad1 wx), (2, rv ad1 wm), (3, iv (q : Int))] [] S2.2.2.2) : G p l e0 room_1 s m args below meth c cells slots Q cA D N 4 ad T A nx 1183 [(0, .ref b), (1, rv ad wx), (2, rv ad wm), (3, iv (q : Int))] [] I := by
  have hf : OK (ls_41 wx wm (xs (q + 1)).toInt (xs (q + 2)).toInt (xs (q + 3)).toInt (xs (q + 4)).toInt (xs (q + 5)).toInt T A nx I) (fun z => z = S2) := ⟨S2, hstep, rfl⟩
  unfold ls_41 at hf
  refine r_aload_n (pc := 1183) S0 1 dL_law_1183 rfl rfl ?_
  obtain ⟨e1, h1, hf⟩ := ok_bind hf
  refine r_cV_I (pc := 1184) [] S0 hK hX mv_L_181 (k_X11_sets h1) (c_X11_sets l cA D N sx ad T A nx I wx e1 h1) rfl rfl ⟨by decide, by decide⟩ (Nat.le_of_ble_eq_true rfl) (show cells ≤ 600000 ∧ slots ≤ 7302250 by omega) dL_law_1184 (fun c1 => ?_)
  refine r_aload_n (pc := 1187) S0 2 dL_law_1187 rfl rfl ?_
  obtain ⟨e2, h2, hf⟩ := ok_bind hf
  refine r_cV_I (pc := 1188) [] S0 hK hX mv_L_184 (k_X12_sets h2) (c_X12_sets l cA D N sx ad T A nx e1.2 wm e2 h2) rfl rfl ⟨by decide, by decide⟩ (Nat.le_of_ble_eq_true rfl) (show cells ≤ 600000 ∧ slots ≤ 7302250 by omega) dL_law_1188 (fun c2 => ?_)
  refine r_icmp_eq (pc := 1191) (tgt := 1965) S0 dL_law_1191 (by decide) c1 c2 hf (fun hf => ?_) (fun hf => (ok_none hf).elim)
  have hz := ok_some hf
  have hz : (T, A, nx, e2.2) = S2 := hz
  subst hz
  exact kk ad cells slots (fun _ _ => rfl) (by omega) (by omega) (Nat.le_refl _) hrb
set_option maxHeartbeats 4000000 in
set_option maxRecDepth 100000 in
theorem lc_42 {p : Program} {l : Launch} {e0 : Env} {s : State} {m : MethodId} {args : Array Value} {below : List Frame} {meth : Method} {c : Code} {cells slots : Nat} {Q : State → Prop} {cA : Nat → ClassId} {D : va_G} {N : Nat} {ad : Nat → Nat} {T : Knd} {A : Rfs} {nx : Nat} {I : Mem} {sx : Sx} {b L wx wm q : Nat} {xs : Nat → Int32} (S0 : CallFix p m c code 4 s args gT RL) (hK : va_K D vwCl (tyl cA) s) (hX : XX sx N s) (hAX : AX s) (hsc : SC N b L xs s) (hL : L ≤ 3072) (hq : q + 6 ≤ L) (hrb : RB A nx) (hbx : 1 ≤ wx ∧ wx ≤ nx) (hbm : 1 ≤ wm ∧ wm ≤ nx) (hcl : cells + 21 ≤ 600000 ∧ slots + 191 ≤ 7302250) {S2 : St} (hstep : ls_42 wx wm (xs (q + 1)).toInt (xs (q + 2)).toInt (xs (q + 3)).toInt (xs (q + 4)).toInt (xs (q + 5)).toInt T A nx I = some S2) (kk : ∀ (ad1 : Nat → Nat) (c2 s2 : Nat), (∀ i, i ≤ nx → ad1 i = ad i) → c2 ≤ cells + 21 → s2 ≤ slots + 191 → nx ≤ S2.2.2.1 → RB S2.2.1 S2.2.2.1 → G p l e0 room_1 s m args below meth c c2 s2 Q cA D N 4 ad1 S2.1 S2.2.1 S2.2.2.1 1965 [(0, .ref b), (1, rv ad1 wx), (2, rv ad1 wm), (3, iv (q : Int))] [] S2.2.2.2) : G p l e0 room_1 s m args below meth c cells slots Q cA D N 4 ad T A nx 1196 [(0, .ref b), (1, rv ad wx), (2, rv ad wm), (3, iv (q : Int))] [] I := by
  have hf : OK (ls_42 wx wm (xs (q + 1)).toInt (xs (q + 2)).toInt (xs (q + 3)).toInt (xs (q + 4)).toInt (xs (q + 5)).toInt T A nx I) (fun z => z = S2) := ⟨S2, hstep, rfl⟩
  unfold ls_42 at hf
  refine r_aload_n (pc := 1196) S0 1 dL_law_1196 rfl rfl ?_
  obtain ⟨e1, h1, hf⟩ := ok_bind hf
  refine r_cV_I (pc := 1197) [] S0 hK hX mv_L_185 (k_X11_never h1) (c_X11_never l cA D N sx ad T A nx I wx e1 h1) rfl rfl ⟨by decide, by decide⟩ (Nat.le_of_ble_eq_true rfl) (show cells ≤ 600000 ∧ slots ≤ 7302250 by omega) dL_law_1197 (fun c1 => ?_)
  refine r_aload_n (pc := 1200) S0 2 dL_law_1200 rfl rfl ?_
  obtain ⟨e2, h2, hf⟩ := ok_bind hf
  refine r_cV_I (pc := 1201) [] S0 hK hX mv_L_188 (k_X12_never h2) (c_X12_never l cA D N sx ad T A nx e1.2 wm e2 h2) rfl rfl ⟨by decide, by decide⟩ (Nat.le_of_ble_eq_true rfl) (show cells ≤ 600000 ∧ slots ≤ 7302250 by omega) dL_law_1201 (fun c2 => ?_)
  refine r_icmp_eq (pc := 1204) (tgt := 1965) S0 dL_law_1204 (by decide) c1 c2 hf (fun hf => ?_) (fun hf => (ok_none hf).elim)
  have hz := ok_some hf
  have hz : (T, A, nx, e2.2) = S2 := hz
  subst hz
  exact kk ad cells slots (fun _ _ => rfl) (by omega) (by omega) (Nat.le_refl _) hrb
set_option maxHeartbeats 4000000 in
set_option maxRecDepth 100000 in
theorem lc_43 {p : Program} {l : Launch} {e0 : Env} {s : State} {m : MethodId} {args : Array Value} {below : List Frame} {meth : Method} {c : Code} {cells slots : Nat} {Q : State → Prop} {cA : Nat → ClassId} {D : va_G} {N : Nat} {ad : Nat → Nat} {T : Knd} {A : Rfs} {nx : Nat} {I : Mem} {sx : Sx} {b L wx wm q : Nat} {xs : Nat → Int32} (S0 : CallFix p m c code 4 s args gT RL) (hK : va_K D vwCl (tyl cA) s) (hX : XX sx N s) (hAX : AX s) (hsc : SC N b L xs s) (hL : L ≤ 3072) (hq : q + 6 ≤ L) (hrb : RB A nx) (hbx : 1 ≤ wx ∧ wx ≤ nx) (hbm : 1 ≤ wm ∧ wm ≤ nx) (hcl : cells + 21 ≤ 600000 ∧ slots + 191 ≤ 7302250) {S2 : St} (hstep : ls_43 wx wm (xs (q + 1)).toInt (xs (q + 2)).toInt (xs (q + 3)).toInt (xs (q + 4)).toInt (xs (q + 5)).toInt T A nx I = some S2) (kk : ∀ (ad1 : Nat → Nat) (c2 s2 : Nat), (∀ i, i ≤ nx → ad1 i = ad i) → c2 ≤ cells + 21 → s2 ≤ slots + 191 → nx ≤ S2.2.2.1 → RB S2.2.1 S2.2.2.1 → G p l e0 room_1 s m args below meth c c2 s2 Q cA D N 4 ad1 S2.1 S2.2.1 S2.2.2.1 1965 [(0, .ref b), (1, rv ad1 wx), (2, rv ad1 wm), (3, iv (q : Int))] [] S2.2.2.2) : G p l e0 room_1 s m args below meth c cells slots Q cA D N 4 ad T A nx 1209 [(0, .ref b), (1, rv ad wx), (2, rv ad wm), (3, iv (q : Int))] [] I := by
  have hf : OK (ls_43 wx wm (xs (q + 1)).toInt (xs (q + 2)).toInt (xs (q + 3)).toInt (xs (q + 4)).toInt (xs (q + 5)).toInt T A nx I) (fun z => z = S2) := ⟨S2, hstep, rfl⟩
  unfold ls_43 at hf
  refine r_aload_n (pc := 1209) S0 1 dL_law_1209 rfl rfl ?_
  obtain ⟨e1, h1, hf⟩ := ok_bind hf
  refine r_cV_I (pc := 1210) [] S0 hK hX mv_L_189 (k_X11_ring h1) (c_X11_ring l cA D N sx ad T A nx I wx e1 h1) rfl rfl ⟨by decide, by decide⟩ (Nat.le_of_ble_eq_true rfl) (show cells ≤ 600000 ∧ slots ≤ 7302250 by omega) dL_law_1210 (fun c1 => ?_)
  refine r_aload_n (pc := 1213) S0 2 dL_law_1213 rfl rfl ?_
  obtain ⟨e2, h2, hf⟩ := ok_bind hf
  refine r_cV_I (pc := 1214) [] S0 hK hX mv_L_192 (k_X12_ring h2) (c_X12_ring l cA D N sx ad T A nx e1.2 wm e2 h2) rfl rfl ⟨by decide, by decide⟩ (Nat.le_of_ble_eq_true rfl) (show cells ≤ 600000 ∧ slots ≤ 7302250 by omega) dL_law_1214 (fun c2 => ?_)
  refine r_icmp_eq (pc := 1217) (tgt := 1965) S0 dL_law_1217 (by decide) c1 c2 hf (fun hf => ?_) (fun hf => (ok_none hf).elim)
  have hz := ok_some hf
  have hz : (T, A, nx, e2.2) = S2 := hz
  subst hz
  exact kk ad cells slots (fun _ _ => rfl) (by omega) (by omega) (Nat.le_refl _) hrb
set_option maxHeartbeats 4000000 in
set_option maxRecDepth 100000 in
theorem lc_44 {p : Program} {l : Launch} {e0 : Env} {s : State} {m : MethodId} {args : Array Value} {below : List Frame} {meth : Method} {c : Code} {cells slots : Nat} {Q : State → Prop} {cA : Nat → ClassId} {D : va_G} {N : Nat} {ad : Nat → Nat} {T : Knd} {A : Rfs} {nx : Nat} {I : Mem} {sx : Sx} {b L wx wm q : Nat} {xs : Nat → Int32} (S0 : CallFix p m c code 4 s args gT RL) (hK : va_K D vwCl (tyl cA) s) (hX : XX sx N s) (hAX : AX s) (hsc : SC N b L xs s) (hL : L ≤ 3072) (hq : q + 6 ≤ L) (hrb : RB A nx) (hbx : 1 ≤ wx ∧ wx ≤ nx) (hbm : 1 ≤ wm ∧ wm ≤ nx) (hcl : cells + 21 ≤ 600000 ∧ slots + 191 ≤ 7302250) {S2 : St} (hstep : ls_44 wx wm (xs (q + 1)).toInt (xs (q + 2)).toInt (xs (q + 3)).toInt (xs (q + 4)).toInt (xs (q + 5)).toInt T A nx I = some S2) (kk : ∀ (ad1 : Nat → Nat) (c2 s2 : Nat), (∀ i, i ≤ nx → ad1 i = ad i) → c2 ≤ cells + 21 → s2 ≤ slots + 191 → nx ≤ S2.2.2.1 → RB S2.2.1 S2.2.2.1 → G p l e0 room_1 s m args below meth c c2 s2 Q cA D N 4 ad1 S2.1 S2.2.1 S2.2.2.1 1965 [(0, .ref b), (1, rv ad1 wx), (2, rv ad1 wm), (3, iv (q : Int))] [] S2.2.2.2) : G p l e0 room_1 s m args below meth c cells slots Q cA D N 4 ad T A nx 1222 [(0, .ref b), (1, rv ad wx), (2, rv ad wm), (3, iv (q : Int))] [] I := by
  have hf : OK (ls_44 wx wm (xs (q + 1)).toInt (xs (q + 2)).toInt (xs (q + 3)).toInt (xs (q + 4)).toInt (xs (q + 5)).toInt T A nx I) (fun z => z = S2) := ⟨S2, hstep, rfl⟩
  unfold ls_44 at hf
  refine r_aload_n (pc := 1222) S0 1 dL_law_1222 rfl rfl ?_
  refine r_aload_n (pc := 1223) S0 0 dL_law_1223 rfl rfl ?_
  refine r_iload_n (pc := 1224) S0 3 dL_law_1224 rfl rfl ?_
  refine r_iconst (pc := 1225) S0 dL_law_1225 ?_
  refine r_iadd (pc := 1226) S0 dL_law_1226 ?_
  refine r_sld (pc := 1227) (j := q + 1) S0 hsc hL (lsi q 1 (by omega) (by omega)) (by omega) dL_law_1227 ?_
  obtain ⟨e1, h1, hf⟩ := ok_bind hf
  refine r_cV_I (pc := 1228) [iv ((xs (q + 1)).toInt)] S0 hK hX mv_L_193 (k_X11_depth h1) (c_X11_depth l cA D N sx ad T A nx I wx ((xs (q + 1)).toInt) (cn_toInt _) e1 h1) rfl rfl ⟨by decide, by decide⟩ (Nat.le_of_ble_eq_true rfl) (show cells ≤ 600000 ∧ slots ≤ 7302250 by omega) dL_law_1228 (fun c1 => ?_)
  refine r_aload_n (pc := 1231) S0 2 dL_law_1231 rfl rfl ?_
  refine r_aload_n (pc := 1232) S0 0 dL_law_1232 rfl rfl ?_
  refine r_iload_n (pc := 1233) S0 3 dL_law_1233 rfl rfl ?_
  refine r_iconst (pc := 1234) S0 dL_law_1234 ?_
  refine r_iadd (pc := 1235) S0 dL_law_1235 ?_
  refine r_sld (pc := 1236) (j := q + 1) S0 hsc hL (lsi q 1 (by omega) (by omega)) (by omega) dL_law_1236 ?_
  obtain ⟨e2, h2, hf⟩ := ok_bind hf
  refine r_cV_I (pc := 1237) [iv ((xs (q + 1)).toInt)] S0 hK hX mv_L_196 (k_X12_depth h2) (c_X12_depth l cA D N sx ad T A nx e1.2 wm ((xs (q + 1)).toInt) (cn_toInt _) e2 h2) rfl rfl ⟨by decide, by decide⟩ (Nat.le_of_ble_eq_true rfl) (show cells ≤ 600000 ∧ slots ≤ 7302250 by omega) dL_law_1237 (fun c2 => ?_)
  refine r_icmp_eq (pc := 1240) (tgt := 1965) S0 dL_law_1240 (by decide) c1 c2 hf (fun hf => ?_) (fun hf => (ok_none hf).elim)
  have hz := ok_some hf
  have hz : (T, A, nx, e2.2) = S2 := hz
  subst hz
  exact kk ad cells slots (fun _ _ => rfl) (by omega) (by omega) (Nat.le_refl _) hrb
set_option maxHeartbeats 4000000 in
set_option maxRecDepth 100000 in
theorem lc_45 {p : Program} {l : Launch} {e0 : Env} {s : State} {m : MethodId} {args : Array Value} {below : List Frame} {meth : Method} {c : Code} {cells slots : Nat} {Q : State → Prop} {cA : Nat → ClassId} {D : va_G} {N : Nat} {ad : Nat → Nat} {T : Knd} {A : Rfs} {nx : Nat} {I : Mem} {sx : Sx} {b L wx wm q : Nat} {xs : Nat → Int32} (S0 : CallFix p m c code 4 s args gT RL) (hK : va_K D vwCl (tyl cA) s) (hX : XX sx N s) (hAX : AX s) (hsc : SC N b L xs s) (hL : L ≤ 3072) (hq : q + 6 ≤ L) (hrb : RB A nx) (hbx : 1 ≤ wx ∧ wx ≤ nx) (hbm : 1 ≤ wm ∧ wm ≤ nx) (hcl : cells + 21 ≤ 600000 ∧ slots + 191 ≤ 7302250) {S2 : St} (hstep : ls_45 wx wm (xs (q + 1)).toInt (xs (q + 2)).toInt (xs (q + 3)).toInt (xs (q + 4)).toInt (xs (q + 5)).toInt T A nx I = some S2) (kk : ∀ (ad1 : Nat → Nat) (c2 s2 : Nat), (∀ i, i ≤ nx → ad1 i = ad i) → c2 ≤ cells + 21 → s2 ≤ slots + 191 → nx ≤ S2.2.2.1 → RB S2.2.1 S2.2.2.1 → G p l e0 room_1 s m args below meth c c2 s2 Q cA D N 4 ad1 S2.1 S2.2.1 S2.2.2.1 1965 [(0, .ref b), (1, rv ad1 wx), (2, rv ad1 wm), (3, iv (q : Int))] [] S2.2.2.2) : G p l e0 room_1 s m args below meth c cells slots Q cA D N 4 ad T A nx 1245 [(0, .ref b), (1, rv ad wx), (2, rv ad wm), (3, iv (q : Int))] [] I := by
  have hf : OK (ls_45 wx wm (xs (q + 1)).toInt (xs (q + 2)).toInt (xs (q + 3)).toInt (xs (q + 4)).toInt (xs (q + 5)).toInt T A nx I) (fun z => z = S2) := ⟨S2, hstep, rfl⟩
  unfold ls_45 at hf
  refine r_aload_n (pc := 1245) S0 1 dL_law_1245 rfl rfl ?_
  refine r_aload_n (pc := 1246) S0 0 dL_law_1246 rfl rfl ?_
  refine r_iload_n (pc := 1247) S0 3 dL_law_1247 rfl rfl ?_
  refine r_iconst (pc := 1248) S0 dL_law_1248 ?_
  refine r_iadd (pc := 1249) S0 dL_law_1249 ?_
  refine r_sld (pc := 1250) (j := q + 1) S0 hsc hL (lsi q 1 (by omega) (by omega)) (by omega) dL_law_1250 ?_
  obtain ⟨e1, h1, hf⟩ := ok_bind hf
  refine r_cV_J (pc := 1251) [iv ((xs (q + 1)).toInt)] S0 hK hX mv_L_197 (k_X11_orders h1) (c_X11_orders l cA D N sx ad T A nx I wx ((xs (q + 1)).toInt) (cn_toInt _) e1 h1) rfl rfl ⟨by decide, by decide⟩ (Nat.le_of_ble_eq_true rfl) (show cells ≤ 600000 ∧ slots ≤ 7302250 by omega) dL_law_1251 (fun c1 => ?_)
  refine r_aload_n (pc := 1254) S0 2 dL_law_1254 rfl rfl ?_
  refine r_aload_n (pc := 1255) S0 0 dL_law_1255 rfl rfl ?_
  refine r_iload_n (pc := 1256) S0 3 dL_law_1256 rfl rfl ?_
  refine r_iconst (pc := 1257) S0 dL_law_1257 ?_
  refine r_iadd (pc := 1258) S0 dL_law_1258 ?_
  refine r_sld (pc := 1259) (j := q + 1) S0 hsc hL (lsi q 1 (by omega) (by omega)) (by omega) dL_law_1259 ?_
  obtain ⟨e2, h2, hf⟩ := ok_bind hf
  refine r_cV_J (pc := 1260) [iv ((xs (q + 1)).toInt)] S0 hK hX mv_L_201 (k_X12_orders h2) (c_X12_orders l cA D N sx ad T A nx e1.2 wm ((xs (q + 1)).toInt) (cn_toInt _) e2 h2) rfl rfl ⟨by decide, by decide⟩ (Nat.le_of_ble_eq_true rfl) (show cells ≤ 600000 ∧ slots ≤ 7302250 by omega) dL_law_1260 (fun c2 => ?_)
  refine r_lcmp (pc := 1263) S0 dL_law_1263 c1 c2 ?_
  refine r_if_eq (pc := 1264) (tgt := 1965) S0 dL_law_1264 (by decide) (cn_lcmp _ _) (a := some (T, A, nx, e2.2)) (b := none) (ok_lcmp hf) (fun hf => ?_) (fun hf => (ok_none hf).elim)
  have hz := ok_some hf
  have hz : (T, A, nx, e2.2) = S2 := hz
  subst hz
  exact kk ad cells slots (fun _ _ => rfl) (by omega) (by omega) (Nat.le_refl _) hrb
