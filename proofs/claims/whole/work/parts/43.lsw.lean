/-! The law's switch, a case a theorem. -/
theorem tsn {x k : Int} (h : x < 0 ∨ k - 1 < x) (h2 : ¬ x = k) : x < 0 ∨ k < x := by omega
set_option maxHeartbeats 4000000 in
set_option maxRecDepth 100000 in
theorem sw_67 {p : Program} {l : Launch} {e0 : Env} {s : State} {m : MethodId} {args : Array Value} {below : List Frame} {meth : Method} {c : Code} {cells slots : Nat} {Q : State → Prop} {cA : Nat → ClassId} {D : va_G} {N : Nat} {ad : Nat → Nat} {T : Knd} {A : Rfs} {nx : Nat} {I : Mem} {sx : Sx} {b L wx wm q : Nat} {xs : Nat → Int32} (S0 : CallFix p m c code 4 s args gT RL) (hK : va_K D vwCl (tyl cA) s) (hX : XX sx N s) (hAX : AX s) (hsc : SC N b L xs s) (hL : L ≤ 3072) (hq : q + 6 ≤ L) (hrb : RB A nx) (hbx : 1 ≤ wx ∧ wx ≤ nx) (hbm : 1 ≤ wm ∧ wm ≤ nx) (hcl : cells + 21 ≤ 600000 ∧ slots + 191 ≤ 7302250) {S2 : St} {x : Int} (cx : cn x) (hg : x < 0 ∨ (67 : Int) - 1 < x) (hs : lst_67 wx wm x (xs (q + 1)).toInt (xs (q + 2)).toInt (xs (q + 3)).toInt (xs (q + 4)).toInt (xs (q + 5)).toInt T A nx I = some S2) (kk : ∀ (ad1 : Nat → Nat) (c2 s2 : Nat), (∀ i, i ≤ nx → ad1 i = ad i) → c2 ≤ cells + 21 → s2 ≤ slots + 191 → nx ≤ S2.2.2.1 → RB S2.2.1 S2.2.2.1 → G p l e0 room_1 s m args below meth c c2 s2 Q cA D N 4 ad1 S2.1 S2.2.1 S2.2.2.1 1965 [(0, .ref b), (1, rv ad1 wx), (2, rv ad1 wm), (3, iv (q : Int))] [] S2.2.2.2) : G p l e0 room_1 s m args below meth c cells slots Q cA D N 4 ad T A nx 33 [(0, .ref b), (1, rv ad wx), (2, rv ad wm), (3, iv (q : Int))] [iv x] I := by
  have hf : OK (lst_67 wx wm x (xs (q + 1)).toInt (xs (q + 2)).toInt (xs (q + 3)).toInt (xs (q + 4)).toInt (xs (q + 5)).toInt T A nx I) (fun z => z = S2) := ⟨S2, hs, rfl⟩
  unfold lst_67 at hf
  refine r_tsw (pc := 33) 67 1902 S0 67 dL_law_33 cx rfl (by decide) rfl (by decide) hf (fun hf => ?_) (fun hx hf => ?_)
  · obtain ⟨z, h1, rfl⟩ := hf
    exact lc_67 S0 hK hX hAX hsc hL hq hrb hbx hbm hcl h1 kk
  · have hz := ok_some hf
    have hz : (T, A, nx, I) = S2 := hz
    subst hz
    refine r_tswD (pc := 33) 1965 S0 dL_law_33 cx (tsn hg hx) (by decide) ?_
    exact kk ad cells slots (fun _ _ => rfl) (Nat.le_add_right _ _) (Nat.le_add_right _ _) (Nat.le_refl _) hrb
set_option maxHeartbeats 4000000 in
set_option maxRecDepth 100000 in
theorem sw_66 {p : Program} {l : Launch} {e0 : Env} {s : State} {m : MethodId} {args : Array Value} {below : List Frame} {meth : Method} {c : Code} {cells slots : Nat} {Q : State → Prop} {cA : Nat → ClassId} {D : va_G} {N : Nat} {ad : Nat → Nat} {T : Knd} {A : Rfs} {nx : Nat} {I : Mem} {sx : Sx} {b L wx wm q : Nat} {xs : Nat → Int32} (S0 : CallFix p m c code 4 s args gT RL) (hK : va_K D vwCl (tyl cA) s) (hX : XX sx N s) (hAX : AX s) (hsc : SC N b L xs s) (hL : L ≤ 3072) (hq : q + 6 ≤ L) (hrb : RB A nx) (hbx : 1 ≤ wx ∧ wx ≤ nx) (hbm : 1 ≤ wm ∧ wm ≤ nx) (hcl : cells + 21 ≤ 600000 ∧ slots + 191 ≤ 7302250) {S2 : St} {x : Int} (cx : cn x) (hg : x < 0 ∨ (66 : Int) - 1 < x) (hs : lst_66 wx wm x (xs (q + 1)).toInt (xs (q + 2)).toInt (xs (q + 3)).toInt (xs (q + 4)).toInt (xs (q + 5)).toInt T A nx I = some S2) (kk : ∀ (ad1 : Nat → Nat) (c2 s2 : Nat), (∀ i, i ≤ nx → ad1 i = ad i) → c2 ≤ cells + 21 → s2 ≤ slots + 191 → nx ≤ S2.2.2.1 → RB S2.2.1 S2.2.2.1 → G p l e0 room_1 s m args below meth c c2 s2 Q cA D N 4 ad1 S2.1 S2.2.1 S2.2.2.1 1965 [(0, .ref b), (1, rv ad1 wx), (2, rv ad1 wm), (3, iv (q : Int))] [] S2.2.2.2) : G p l e0 room_1 s m args below meth c cells slots Q cA D N 4 ad T A nx 33 [(0, .ref b), (1, rv ad wx), (2, rv ad wm), (3, iv (q : Int))] [iv x] I := by
  have hf : OK (lst_66 wx wm x (xs (q + 1)).toInt (xs (q + 2)).toInt (xs (q + 3)).toInt (xs (q + 4)).toInt (xs (q + 5)).toInt T A nx I) (fun z => z = S2) := ⟨S2, hs, rfl⟩
  unfold lst_66 at hf
  refine r_tsw (pc := 33) 66 1829 S0 66 dL_law_33 cx rfl (by decide) rfl (by decide) hf (fun hf => ?_) (fun hx hf => ?_)
  · obtain ⟨z, h1, rfl⟩ := hf
    exact lc_66 S0 hK hX hAX hsc hL hq hrb hbx hbm hcl h1 kk
  · obtain ⟨z, h1, rfl⟩ := hf
    exact sw_67 S0 hK hX hAX hsc hL hq hrb hbx hbm hcl cx (by have := tsn hg hx; omega) h1 kk
set_option maxHeartbeats 4000000 in
set_option maxRecDepth 100000 in
theorem sw_65 {p : Program} {l : Launch} {e0 : Env} {s : State} {m : MethodId} {args : Array Value} {below : List Frame} {meth : Method} {c : Code} {cells slots : Nat} {Q : State → Prop} {cA : Nat → ClassId} {D : va_G} {N : Nat} {ad : Nat → Nat} {T : Knd} {A : Rfs} {nx : Nat} {I : Mem} {sx : Sx} {b L wx wm q : Nat} {xs : Nat → Int32} (S0 : CallFix p m c code 4 s args gT RL) (hK : va_K D vwCl (tyl cA) s) (hX : XX sx N s) (hAX : AX s) (hsc : SC N b L xs s) (hL : L ≤ 3072) (hq : q + 6 ≤ L) (hrb : RB A nx) (hbx : 1 ≤ wx ∧ wx ≤ nx) (hbm : 1 ≤ wm ∧ wm ≤ nx) (hcl : cells + 21 ≤ 600000 ∧ slots + 191 ≤ 7302250) {S2 : St} {x : Int} (cx : cn x) (hg : x < 0 ∨ (65 : Int) - 1 < x) (hs : lst_65 wx wm x (xs (q + 1)).toInt (xs (q + 2)).toInt (xs (q + 3)).toInt (xs (q + 4)).toInt (xs (q + 5)).toInt T A nx I = some S2) (kk : ∀ (ad1 : Nat → Nat) (c2 s2 : Nat), (∀ i, i ≤ nx → ad1 i = ad i) → c2 ≤ cells + 21 → s2 ≤ slots + 191 → nx ≤ S2.2.2.1 → RB S2.2.1 S2.2.2.1 → G p l e0 room_1 s m args below meth c c2 s2 Q cA D N 4 ad1 S2.1 S2.2.1 S2.2.2.1 1965 [(0, .ref b), (1, rv ad1 wx), (2, rv ad1 wm), (3, iv (q : Int))] [] S2.2.2.2) : G p l e0 room_1 s m args below meth c cells slots Q cA D N 4 ad T A nx 33 [(0, .ref b), (1, rv ad wx), (2, rv ad wm), (3, iv (q : Int))] [iv x] I := by
  have hf : OK (lst_65 wx wm x (xs (q + 1)).toInt (xs (q + 2)).toInt (xs (q + 3)).toInt (xs (q + 4)).toInt (xs (q + 5)).toInt T A nx I) (fun z => z = S2) := ⟨S2, hs, rfl⟩
  unfold lst_65 at hf
  refine r_tsw (pc := 33) 65 1786 S0 65 dL_law_33 cx rfl (by decide) rfl (by decide) hf (fun hf => ?_) (fun hx hf => ?_)
  · obtain ⟨z, h1, rfl⟩ := hf
    exact lc_65 S0 hK hX hAX hsc hL hq hrb hbx hbm hcl h1 kk
  · obtain ⟨z, h1, rfl⟩ := hf
    exact sw_66 S0 hK hX hAX hsc hL hq hrb hbx hbm hcl cx (by have := tsn hg hx; omega) h1 kk
set_option maxHeartbeats 4000000 in
set_option maxRecDepth 100000 in
theorem sw_64 {p : Program} {l : Launch} {e0 : Env} {s : State} {m : MethodId} {args : Array Value} {below : List Frame} {meth : Method} {c : Code} {cells slots : Nat} {Q : State → Prop} {cA : Nat → ClassId} {D : va_G} {N : Nat} {ad : Nat → Nat} {T : Knd} {A : Rfs} {nx : Nat} {I : Mem} {sx : Sx} {b L wx wm q : Nat} {xs : Nat → Int32} (S0 : CallFix p m c code 4 s args gT RL) (hK : va_K D vwCl (tyl cA) s) (hX : XX sx N s) (hAX : AX s) (hsc : SC N b L xs s) (hL : L ≤ 3072) (hq : q + 6 ≤ L) (hrb : RB A nx) (hbx : 1 ≤ wx ∧ wx ≤ nx) (hbm : 1 ≤ wm ∧ wm ≤ nx) (hcl : cells + 21 ≤ 600000 ∧ slots + 191 ≤ 7302250) {S2 : St} {x : Int} (cx : cn x) (hg : x < 0 ∨ (64 : Int) - 1 < x) (hs : lst_64 wx wm x (xs (q + 1)).toInt (xs (q + 2)).toInt (xs (q + 3)).toInt (xs (q + 4)).toInt (xs (q + 5)).toInt T A nx I = some S2) (kk : ∀ (ad1 : Nat → Nat) (c2 s2 : Nat), (∀ i, i ≤ nx → ad1 i = ad i) → c2 ≤ cells + 21 → s2 ≤ slots + 191 → nx ≤ S2.2.2.1 → RB S2.2.1 S2.2.2.1 → G p l e0 room_1 s m args below meth c c2 s2 Q cA D N 4 ad1 S2.1 S2.2.1 S2.2.2.1 1965 [(0, .ref b), (1, rv ad1 wx), (2, rv ad1 wm), (3, iv (q : Int))] [] S2.2.2.2) : G p l e0 room_1 s m args below meth c cells slots Q cA D N 4 ad T A nx 33 [(0, .ref b), (1, rv ad wx), (2, rv ad wm), (3, iv (q : Int))] [iv x] I := by
  have hf : OK (lst_64 wx wm x (xs (q + 1)).toInt (xs (q + 2)).toInt (xs (q + 3)).toInt (xs (q + 4)).toInt (xs (q + 5)).toInt T A nx I) (fun z => z = S2) := ⟨S2, hs, rfl⟩
  unfold lst_64 at hf
  refine r_tsw (pc := 33) 64 1763 S0 64 dL_law_33 cx rfl (by decide) rfl (by decide) hf (fun hf => ?_) (fun hx hf => ?_)
  · obtain ⟨z, h1, rfl⟩ := hf
    exact lc_64 S0 hK hX hAX hsc hL hq hrb hbx hbm hcl h1 kk
  · obtain ⟨z, h1, rfl⟩ := hf
    exact sw_65 S0 hK hX hAX hsc hL hq hrb hbx hbm hcl cx (by have := tsn hg hx; omega) h1 kk
set_option maxHeartbeats 4000000 in
set_option maxRecDepth 100000 in
theorem sw_63 {p : Program} {l : Launch} {e0 : Env} {s : State} {m : MethodId} {args : Array Value} {below : List Frame} {meth : Method} {c : Code} {cells slots : Nat} {Q : State → Prop} {cA : Nat → ClassId} {D : va_G} {N : Nat} {ad : Nat → Nat} {T : Knd} {A : Rfs} {nx : Nat} {I : Mem} {sx : Sx} {b L wx wm q : Nat} {xs : Nat → Int32} (S0 : CallFix p m c code 4 s args gT RL) (hK : va_K D vwCl (tyl cA) s) (hX : XX sx N s) (hAX : AX s) (hsc : SC N b L xs s) (hL : L ≤ 3072) (hq : q + 6 ≤ L) (hrb : RB A nx) (hbx : 1 ≤ wx ∧ wx ≤ nx) (hbm : 1 ≤ wm ∧ wm ≤ nx) (hcl : cells + 21 ≤ 600000 ∧ slots + 191 ≤ 7302250) {S2 : St} {x : Int} (cx : cn x) (hg : x < 0 ∨ (63 : Int) - 1 < x) (hs : lst_63 wx wm x (xs (q + 1)).toInt (xs (q + 2)).toInt (xs (q + 3)).toInt (xs (q + 4)).toInt (xs (q + 5)).toInt T A nx I = some S2) (kk : ∀ (ad1 : Nat → Nat) (c2 s2 : Nat), (∀ i, i ≤ nx → ad1 i = ad i) → c2 ≤ cells + 21 → s2 ≤ slots + 191 → nx ≤ S2.2.2.1 → RB S2.2.1 S2.2.2.1 → G p l e0 room_1 s m args below meth c c2 s2 Q cA D N 4 ad1 S2.1 S2.2.1 S2.2.2.1 1965 [(0, .ref b), (1, rv ad1 wx), (2, rv ad1 wm), (3, iv (q : Int))] [] S2.2.2.2) : G p l e0 room_1 s m args below meth c cells slots Q cA D N 4 ad T A nx 33 [(0, .ref b), (1, rv ad wx), (2, rv ad wm), (3, iv (q : Int))] [iv x] I := by
  have hf : OK (lst_63 wx wm x (xs (q + 1)).toInt (xs (q + 2)).toInt (xs (q + 3)).toInt (xs (q + 4)).toInt (xs (q + 5)).toInt T A nx I) (fun z => z = S2) := ⟨S2, hs, rfl⟩
  unfold lst_63 at hf
  refine r_tsw (pc := 33) 63 1740 S0 63 dL_law_33 cx rfl (by decide) rfl (by decide) hf (fun hf => ?_) (fun hx hf => ?_)
  · obtain ⟨z, h1, rfl⟩ := hf
    exact lc_63 S0 hK hX hAX hsc hL hq hrb hbx hbm hcl h1 kk
  · obtain ⟨z, h1, rfl⟩ := hf
    exact sw_64 S0 hK hX hAX hsc hL hq hrb hbx hbm hcl cx (by have := tsn hg hx; omega) h1 kk
set_option maxHeartbeats 4000000 in
set_option maxRecDepth 100000 in
theorem sw_62 {p : Program} {l : Launch} {e0 : Env} {s : State} {m : MethodId} {args : Array Value} {below : List Frame} {meth : Method} {c : Code} {cells slots : Nat} {Q : State → Prop} {cA : Nat → ClassId} {D : va_G} {N : Nat} {ad : Nat → Nat} {T : Knd} {A : Rfs} {nx : Nat} {I : Mem} {sx : Sx} {b L wx wm q : Nat} {xs : Nat → Int32} (S0 : CallFix p m c code 4 s args gT RL) (hK : va_K D vwCl (tyl cA) s) (hX : XX sx N s) (hAX : AX s) (hsc : SC N b L xs s) (hL : L ≤ 3072) (hq : q + 6 ≤ L) (hrb : RB A nx) (hbx : 1 ≤ wx ∧ wx ≤ nx) (hbm : 1 ≤ wm ∧ wm ≤ nx) (hcl : cells + 21 ≤ 600000 ∧ slots + 191 ≤ 7302250) {S2 : St} {x : Int} (cx : cn x) (hg : x < 0 ∨ (62 : Int) - 1 < x) (hs : lst_62 wx wm x (xs (q + 1)).toInt (xs (q + 2)).toInt (xs (q + 3)).toInt (xs (q + 4)).toInt (xs (q + 5)).toInt T A nx I = some S2) (kk : ∀ (ad1 : Nat → Nat) (c2 s2 : Nat), (∀ i, i ≤ nx → ad1 i = ad i) → c2 ≤ cells + 21 → s2 ≤ slots + 191 → nx ≤ S2.2.2.1 → RB S2.2.1 S2.2.2.1 → G p l e0 room_1 s m args below meth c c2 s2 Q cA D N 4 ad1 S2.1 S2.2.1 S2.2.2.1 1965 [(0, .ref b), (1, rv ad1 wx), (2, rv ad1 wm), (3, iv (q : Int))] [] S2.2.2.2) : G p l e0 room_1 s m args below meth c cells slots Q cA D N 4 ad T A nx 33 [(0, .ref b), (1, rv ad wx), (2, rv ad wm), (3, iv (q : Int))] [iv x] I := by
  have hf : OK (lst_62 wx wm x (xs (q + 1)).toInt (xs (q + 2)).toInt (xs (q + 3)).toInt (xs (q + 4)).toInt (xs (q + 5)).toInt T A nx I) (fun z => z = S2) := ⟨S2, hs, rfl⟩
  unfold lst_62 at hf
  refine r_tsw (pc := 33) 62 1717 S0 62 dL_law_33 cx rfl (by decide) rfl (by decide) hf (fun hf => ?_) (fun hx hf => ?_)
  · obtain ⟨z, h1, rfl⟩ := hf
    exact lc_62 S0 hK hX hAX hsc hL hq hrb hbx hbm hcl h1 kk
  · obtain ⟨z, h1, rfl⟩ := hf
    exact sw_63 S0 hK hX hAX hsc hL hq hrb hbx hbm hcl cx (by have := tsn hg hx; omega) h1 kk
set_option maxHeartbeats 4000000 in
set_option maxRecDepth 100000 in
theorem sw_61 {p : Program} {l : Launch} {e0 : Env} {s : State} {m : MethodId} {args : Array Value} {below : List Frame} {meth : Method} {c : Code} {cells slots : Nat} {Q : State → Prop} {cA : Nat → ClassId} {D : va_G} {N : Nat} {ad : Nat → Nat} {T : Knd} {A : Rfs} {nx : Nat} {I : Mem} {sx : Sx} {b L wx wm q : Nat} {xs : Nat → Int32} (S0 : CallFix p m c code 4 s args gT RL) (hK : va_K D vwCl (tyl cA) s) (hX : XX sx N s) (hAX : AX s) (hsc : SC N b L xs s) (hL : L ≤ 3072) (hq : q + 6 ≤ L) (hrb : RB A nx) (hbx : 1 ≤ wx ∧ wx ≤ nx) (hbm : 1 ≤ wm ∧ wm ≤ nx) (hcl : cells + 21 ≤ 600000 ∧ slots + 191 ≤ 7302250) {S2 : St} {x : Int} (cx : cn x) (hg : x < 0 ∨ (61 : Int) - 1 < x) (hs : lst_61 wx wm x (xs (q + 1)).toInt (xs (q + 2)).toInt (xs (q + 3)).toInt (xs (q + 4)).toInt (xs (q + 5)).toInt T A nx I = some S2) (kk : ∀ (ad1 : Nat → Nat) (c2 s2 : Nat), (∀ i, i ≤ nx → ad1 i = ad i) → c2 ≤ cells + 21 → s2 ≤ slots + 191 → nx ≤ S2.2.2.1 → RB S2.2.1 S2.2.2.1 → G p l e0 room_1 s m args below meth c c2 s2 Q cA D N 4 ad1 S2.1 S2.2.1 S2.2.2.1 1965 [(0, .ref b), (1, rv ad1 wx), (2, rv ad1 wm), (3, iv (q : Int))] [] S2.2.2.2) : G p l e0 room_1 s m args below meth c cells slots Q cA D N 4 ad T A nx 33 [(0, .ref b), (1, rv ad wx), (2, rv ad wm), (3, iv (q : Int))] [iv x] I := by
  have hf : OK (lst_61 wx wm x (xs (q + 1)).toInt (xs (q + 2)).toInt (xs (q + 3)).toInt (xs (q + 4)).toInt (xs (q + 5)).toInt T A nx I) (fun z => z = S2) := ⟨S2, hs, rfl⟩
  unfold lst_61 at hf
  refine r_tsw (pc := 33) 61 1694 S0 61 dL_law_33 cx rfl (by decide) rfl (by decide) hf (fun hf => ?_) (fun hx hf => ?_)
  · obtain ⟨z, h1, rfl⟩ := hf
    exact lc_61 S0 hK hX hAX hsc hL hq hrb hbx hbm hcl h1 kk
  · obtain ⟨z, h1, rfl⟩ := hf
    exact sw_62 S0 hK hX hAX hsc hL hq hrb hbx hbm hcl cx (by have := tsn hg hx; omega) h1 kk
set_option maxHeartbeats 4000000 in
set_option maxRecDepth 100000 in
theorem sw_60 {p : Program} {l : Launch} {e0 : Env} {s : State} {m : MethodId} {args : Array Value} {below : List Frame} {meth : Method} {c : Code} {cells slots : Nat} {Q : State → Prop} {cA : Nat → ClassId} {D : va_G} {N : Nat} {ad : Nat → Nat} {T : Knd} {A : Rfs} {nx : Nat} {I : Mem} {sx : Sx} {b L wx wm q : Nat} {xs : Nat → Int32} (S0 : CallFix p m c code 4 s args gT RL) (hK : va_K D vwCl (tyl cA) s) (hX : XX sx N s) (hAX : AX s) (hsc : SC N b L xs s) (hL : L ≤ 3072) (hq : q + 6 ≤ L) (hrb : RB A nx) (hbx : 1 ≤ wx ∧ wx ≤ nx) (hbm : 1 ≤ wm ∧ wm ≤ nx) (hcl : cells + 21 ≤ 600000 ∧ slots + 191 ≤ 7302250) {S2 : St} {x : Int} (cx : cn x) (hg : x < 0 ∨ (60 : Int) - 1 < x) (hs : lst_60 wx wm x (xs (q + 1)).toInt (xs (q + 2)).toInt (xs (q + 3)).toInt (xs (q + 4)).toInt (xs (q + 5)).toInt T A nx I = some S2) (kk : ∀ (ad1 : Nat → Nat) (c2 s2 : Nat), (∀ i, i ≤ nx → ad1 i = ad i) → c2 ≤ cells + 21 → s2 ≤ slots + 191 → nx ≤ S2.2.2.1 → RB S2.2.1 S2.2.2.1 → G p l e0 room_1 s m args below meth c c2 s2 Q cA D N 4 ad1 S2.1 S2.2.1 S2.2.2.1 1965 [(0, .ref b), (1, rv ad1 wx), (2, rv ad1 wm), (3, iv (q : Int))] [] S2.2.2.2) : G p l e0 room_1 s m args below meth c cells slots Q cA D N 4 ad T A nx 33 [(0, .ref b), (1, rv ad wx), (2, rv ad wm), (3, iv (q : Int))] [iv x] I := by
  have hf : OK (lst_60 wx wm x (xs (q + 1)).toInt (xs (q + 2)).toInt (xs (q + 3)).toInt (xs (q + 4)).toInt (xs (q + 5)).toInt T A nx I) (fun z => z = S2) := ⟨S2, hs, rfl⟩
  unfold lst_60 at hf
  refine r_tsw (pc := 33) 60 1651 S0 60 dL_law_33 cx rfl (by decide) rfl (by decide) hf (fun hf => ?_) (fun hx hf => ?_)
  · obtain ⟨z, h1, rfl⟩ := hf
    exact lc_60 S0 hK hX hAX hsc hL hq hrb hbx hbm hcl h1 kk
  · obtain ⟨z, h1, rfl⟩ := hf
    exact sw_61 S0 hK hX hAX hsc hL hq hrb hbx hbm hcl cx (by have := tsn hg hx; omega) h1 kk
set_option maxHeartbeats 4000000 in
set_option maxRecDepth 100000 in
theorem sw_59 {p : Program} {l : Launch} {e0 : Env} {s : State} {m : MethodId} {args : Array Value} {below : List Frame} {meth : Method} {c : Code} {cells slots : Nat} {Q : State → Prop} {cA : Nat → ClassId} {D : va_G} {N : Nat} {ad : Nat → Nat} {T : Knd} {A : Rfs} {nx : Nat} {I : Mem} {sx : Sx} {b L wx wm q : Nat} {xs : Nat → Int32} (S0 : CallFix p m c code 4 s args gT RL) (hK : va_K D vwCl (tyl cA) s) (hX : XX sx N s) (hAX : AX s) (hsc : SC N b L xs s) (hL : L ≤ 3072) (hq : q + 6 ≤ L) (hrb : RB A nx) (hbx : 1 ≤ wx ∧ wx ≤ nx) (hbm : 1 ≤ wm ∧ wm ≤ nx) (hcl : cells + 21 ≤ 600000 ∧ slots + 191 ≤ 7302250) {S2 : St} {x : Int} (cx : cn x) (hg : x < 0 ∨ (59 : Int) - 1 < x) (hs : lst_59 wx wm x (xs (q + 1)).toInt (xs (q + 2)).toInt (xs (q + 3)).toInt (xs (q + 4)).toInt (xs (q + 5)).toInt T A nx I = some S2) (kk : ∀ (ad1 : Nat → Nat) (c2 s2 : Nat), (∀ i, i ≤ nx → ad1 i = ad i) → c2 ≤ cells + 21 → s2 ≤ slots + 191 → nx ≤ S2.2.2.1 → RB S2.2.1 S2.2.2.1 → G p l e0 room_1 s m args below meth c c2 s2 Q cA D N 4 ad1 S2.1 S2.2.1 S2.2.2.1 1965 [(0, .ref b), (1, rv ad1 wx), (2, rv ad1 wm), (3, iv (q : Int))] [] S2.2.2.2) : G p l e0 room_1 s m args below meth c cells slots Q cA D N 4 ad T A nx 33 [(0, .ref b), (1, rv ad wx), (2, rv ad wm), (3, iv (q : Int))] [iv x] I := by
  have hf : OK (lst_59 wx wm x (xs (q + 1)).toInt (xs (q + 2)).toInt (xs (q + 3)).toInt (xs (q + 4)).toInt (xs (q + 5)).toInt T A nx I) (fun z => z = S2) := ⟨S2, hs, rfl⟩
  unfold lst_59 at hf
  refine r_tsw (pc := 33) 59 1598 S0 59 dL_law_33 cx rfl (by decide) rfl (by decide) hf (fun hf => ?_) (fun hx hf => ?_)
  · obtain ⟨z, h1, rfl⟩ := hf
    exact lc_59 S0 hK hX hAX hsc hL hq hrb hbx hbm hcl h1 kk
  · obtain ⟨z, h1, rfl⟩ := hf
    exact sw_60 S0 hK hX hAX hsc hL hq hrb hbx hbm hcl cx (by have := tsn hg hx; omega) h1 kk
set_option maxHeartbeats 4000000 in
set_option maxRecDepth 100000 in
theorem sw_58 {p : Program} {l : Launch} {e0 : Env} {s : State} {m : MethodId} {args : Array Value} {below : List Frame} {meth : Method} {c : Code} {cells slots : Nat} {Q : State → Prop} {cA : Nat → ClassId} {D : va_G} {N : Nat} {ad : Nat → Nat} {T : Knd} {A : Rfs} {nx : Nat} {I : Mem} {sx : Sx} {b L wx wm q : Nat} {xs : Nat → Int32} (S0 : CallFix p m c code 4 s args gT RL) (hK : va_K D vwCl (tyl cA) s) (hX : XX sx N s) (hAX : AX s) (hsc : SC N b L xs s) (hL : L ≤ 3072) (hq : q + 6 ≤ L) (hrb : RB A nx) (hbx : 1 ≤ wx ∧ wx ≤ nx) (hbm : 1 ≤ wm ∧ wm ≤ nx) (hcl : cells + 21 ≤ 600000 ∧ slots + 191 ≤ 7302250) {S2 : St} {x : Int} (cx : cn x) (hg : x < 0 ∨ (58 : Int) - 1 < x) (hs : lst_58 wx wm x (xs (q + 1)).toInt (xs (q + 2)).toInt (xs (q + 3)).toInt (xs (q + 4)).toInt (xs (q + 5)).toInt T A nx I = some S2) (kk : ∀ (ad1 : Nat → Nat) (c2 s2 : Nat), (∀ i, i ≤ nx → ad1 i = ad i) → c2 ≤ cells + 21 → s2 ≤ slots + 191 → nx ≤ S2.2.2.1 → RB S2.2.1 S2.2.2.1 → G p l e0 room_1 s m args below meth c c2 s2 Q cA D N 4 ad1 S2.1 S2.2.1 S2.2.2.1 1965 [(0, .ref b), (1, rv ad1 wx), (2, rv ad1 wm), (3, iv (q : Int))] [] S2.2.2.2) : G p l e0 room_1 s m args below meth c cells slots Q cA D N 4 ad T A nx 33 [(0, .ref b), (1, rv ad wx), (2, rv ad wm), (3, iv (q : Int))] [iv x] I := by
  have hf : OK (lst_58 wx wm x (xs (q + 1)).toInt (xs (q + 2)).toInt (xs (q + 3)).toInt (xs (q + 4)).toInt (xs (q + 5)).toInt T A nx I) (fun z => z = S2) := ⟨S2, hs, rfl⟩
  unfold lst_58 at hf
  refine r_tsw (pc := 33) 58 1555 S0 58 dL_law_33 cx rfl (by decide) rfl (by decide) hf (fun hf => ?_) (fun hx hf => ?_)
  · obtain ⟨z, h1, rfl⟩ := hf
    exact lc_58 S0 hK hX hAX hsc hL hq hrb hbx hbm hcl h1 kk
  · obtain ⟨z, h1, rfl⟩ := hf
    exact sw_59 S0 hK hX hAX hsc hL hq hrb hbx hbm hcl cx (by have := tsn hg hx; omega) h1 kk
set_option maxHeartbeats 4000000 in
set_option maxRecDepth 100000 in
theorem sw_57 {p : Program} {l : Launch} {e0 : Env} {s : State} {m : MethodId} {args : Array Value} {below : List Frame} {meth : Method} {c : Code} {cells slots : Nat} {Q : State → Prop} {cA : Nat → ClassId} {D : va_G} {N : Nat} {ad : Nat → Nat} {T : Knd} {A : Rfs} {nx : Nat} {I : Mem} {sx : Sx} {b L wx wm q : Nat} {xs : Nat → Int32} (S0 : CallFix p m c code 4 s args gT RL) (hK : va_K D vwCl (tyl cA) s) (hX : XX sx N s) (hAX : AX s) (hsc : SC N b L xs s) (hL : L ≤ 3072) (hq : q + 6 ≤ L) (hrb : RB A nx) (hbx : 1 ≤ wx ∧ wx ≤ nx) (hbm : 1 ≤ wm ∧ wm ≤ nx) (hcl : cells + 21 ≤ 600000 ∧ slots + 191 ≤ 7302250) {S2 : St} {x : Int} (cx : cn x) (hg : x < 0 ∨ (57 : Int) - 1 < x) (hs : lst_57 wx wm x (xs (q + 1)).toInt (xs (q + 2)).toInt (xs (q + 3)).toInt (xs (q + 4)).toInt (xs (q + 5)).toInt T A nx I = some S2) (kk : ∀ (ad1 : Nat → Nat) (c2 s2 : Nat), (∀ i, i ≤ nx → ad1 i = ad i) → c2 ≤ cells + 21 → s2 ≤ slots + 191 → nx ≤ S2.2.2.1 → RB S2.2.1 S2.2.2.1 → G p l e0 room_1 s m args below meth c c2 s2 Q cA D N 4 ad1 S2.1 S2.2.1 S2.2.2.1 1965 [(0, .ref b), (1, rv ad1 wx), (2, rv ad1 wm), (3, iv (q : Int))] [] S2.2.2.2) : G p l e0 room_1 s m args below meth c cells slots Q cA D N 4 ad T A nx 33 [(0, .ref b), (1, rv ad wx), (2, rv ad wm), (3, iv (q : Int))] [iv x] I := by
  have hf : OK (lst_57 wx wm x (xs (q + 1)).toInt (xs (q + 2)).toInt (xs (q + 3)).toInt (xs (q + 4)).toInt (xs (q + 5)).toInt T A nx I) (fun z => z = S2) := ⟨S2, hs, rfl⟩
  unfold lst_57 at hf
  refine r_tsw (pc := 33) 57 1522 S0 57 dL_law_33 cx rfl (by decide) rfl (by decide) hf (fun hf => ?_) (fun hx hf => ?_)
  · obtain ⟨z, h1, rfl⟩ := hf
    exact lc_57 S0 hK hX hAX hsc hL hq hrb hbx hbm hcl h1 kk
  · obtain ⟨z, h1, rfl⟩ := hf
    exact sw_58 S0 hK hX hAX hsc hL hq hrb hbx hbm hcl cx (by have := tsn hg hx; omega) h1 kk
set_option maxHeartbeats 4000000 in
set_option maxRecDepth 100000 in
theorem sw_56 {p : Program} {l : Launch} {e0 : Env} {s : State} {m : MethodId} {args : Array Value} {below : List Frame} {meth : Method} {c : Code} {cells slots : Nat} {Q : State → Prop} {cA : Nat → ClassId} {D : va_G} {N : Nat} {ad : Nat → Nat} {T : Knd} {A : Rfs} {nx : Nat} {I : Mem} {sx : Sx} {b L wx wm q : Nat} {xs : Nat → Int32} (S0 : CallFix p m c code 4 s args gT RL) (hK : va_K D vwCl (tyl cA) s) (hX : XX sx N s) (hAX : AX s) (hsc : SC N b L xs s) (hL : L ≤ 3072) (hq : q + 6 ≤ L) (hrb : RB A nx) (hbx : 1 ≤ wx ∧ wx ≤ nx) (hbm : 1 ≤ wm ∧ wm ≤ nx) (hcl : cells + 21 ≤ 600000 ∧ slots + 191 ≤ 7302250) {S2 : St} {x : Int} (cx : cn x) (hg : x < 0 ∨ (56 : Int) - 1 < x) (hs : lst_56 wx wm x (xs (q + 1)).toInt (xs (q + 2)).toInt (xs (q + 3)).toInt (xs (q + 4)).toInt (xs (q + 5)).toInt T A nx I = some S2) (kk : ∀ (ad1 : Nat → Nat) (c2 s2 : Nat), (∀ i, i ≤ nx → ad1 i = ad i) → c2 ≤ cells + 21 → s2 ≤ slots + 191 → nx ≤ S2.2.2.1 → RB S2.2.1 S2.2.2.1 → G p l e0 room_1 s m args below meth c c2 s2 Q cA D N 4 ad1 S2.1 S2.2.1 S2.2.2.1 1965 [(0, .ref b), (1, rv ad1 wx), (2, rv ad1 wm), (3, iv (q : Int))] [] S2.2.2.2) : G p l e0 room_1 s m args below meth c cells slots Q cA D N 4 ad T A nx 33 [(0, .ref b), (1, rv ad wx), (2, rv ad wm), (3, iv (q : Int))] [iv x] I := by
  have hf : OK (lst_56 wx wm x (xs (q + 1)).toInt (xs (q + 2)).toInt (xs (q + 3)).toInt (xs (q + 4)).toInt (xs (q + 5)).toInt T A nx I) (fun z => z = S2) := ⟨S2, hs, rfl⟩
  unfold lst_56 at hf
  refine r_tsw (pc := 33) 56 1499 S0 56 dL_law_33 cx rfl (by decide) rfl (by decide) hf (fun hf => ?_) (fun hx hf => ?_)
  · obtain ⟨z, h1, rfl⟩ := hf
    exact lc_56 S0 hK hX hAX hsc hL hq hrb hbx hbm hcl h1 kk
  · obtain ⟨z, h1, rfl⟩ := hf
    exact sw_57 S0 hK hX hAX hsc hL hq hrb hbx hbm hcl cx (by have := tsn hg hx; omega) h1 kk
set_option maxHeartbeats 4000000 in
set_option maxRecDepth 100000 in
theorem sw_55 {p : Program} {l : Launch} {e0 : Env} {s : State} {m : MethodId} {args : Array Value} {below : List Frame} {meth : Method} {c : Code} {cells slots : Nat} {Q : State → Prop} {cA : Nat → ClassId} {D : va_G} {N : Nat} {ad : Nat → Nat} {T : Knd} {A : Rfs} {nx : Nat} {I : Mem} {sx : Sx} {b L wx wm q : Nat} {xs : Nat → Int32} (S0 : CallFix p m c code 4 s args gT RL) (hK : va_K D vwCl (tyl cA) s) (hX : XX sx N s) (hAX : AX s) (hsc : SC N b L xs s) (hL : L ≤ 3072) (hq : q + 6 ≤ L) (hrb : RB A nx) (hbx : 1 ≤ wx ∧ wx ≤ nx) (hbm : 1 ≤ wm ∧ wm ≤ nx) (hcl : cells + 21 ≤ 600000 ∧ slots + 191 ≤ 7302250) {S2 : St} {x : Int} (cx : cn x) (hg : x < 0 ∨ (55 : Int) - 1 < x) (hs : lst_55 wx wm x (xs (q + 1)).toInt (xs (q + 2)).toInt (xs (q + 3)).toInt (xs (q + 4)).toInt (xs (q + 5)).toInt T A nx I = some S2) (kk : ∀ (ad1 : Nat → Nat) (c2 s2 : Nat), (∀ i, i ≤ nx → ad1 i = ad i) → c2 ≤ cells + 21 → s2 ≤ slots + 191 → nx ≤ S2.2.2.1 → RB S2.2.1 S2.2.2.1 → G p l e0 room_1 s m args below meth c c2 s2 Q cA D N 4 ad1 S2.1 S2.2.1 S2.2.2.1 1965 [(0, .ref b), (1, rv ad1 wx), (2, rv ad1 wm), (3, iv (q : Int))] [] S2.2.2.2) : G p l e0 room_1 s m args below meth c cells slots Q cA D N 4 ad T A nx 33 [(0, .ref b), (1, rv ad wx), (2, rv ad wm), (3, iv (q : Int))] [iv x] I := by
  have hf : OK (lst_55 wx wm x (xs (q + 1)).toInt (xs (q + 2)).toInt (xs (q + 3)).toInt (xs (q + 4)).toInt (xs (q + 5)).toInt T A nx I) (fun z => z = S2) := ⟨S2, hs, rfl⟩
  unfold lst_55 at hf
  refine r_tsw (pc := 33) 55 1476 S0 55 dL_law_33 cx rfl (by decide) rfl (by decide) hf (fun hf => ?_) (fun hx hf => ?_)
  · obtain ⟨z, h1, rfl⟩ := hf
    exact lc_55 S0 hK hX hAX hsc hL hq hrb hbx hbm hcl h1 kk
  · obtain ⟨z, h1, rfl⟩ := hf
    exact sw_56 S0 hK hX hAX hsc hL hq hrb hbx hbm hcl cx (by have := tsn hg hx; omega) h1 kk
set_option maxHeartbeats 4000000 in
set_option maxRecDepth 100000 in
theorem sw_54 {p : Program} {l : Launch} {e0 : Env} {s : State} {m : MethodId} {args : Array Value} {below : List Frame} {meth : Method} {c : Code} {cells slots : Nat} {Q : State → Prop} {cA : Nat → ClassId} {D : va_G} {N : Nat} {ad : Nat → Nat} {T : Knd} {A : Rfs} {nx : Nat} {I : Mem} {sx : Sx} {b L wx wm q : Nat} {xs : Nat → Int32} (S0 : CallFix p m c code 4 s args gT RL) (hK : va_K D vwCl (tyl cA) s) (hX : XX sx N s) (hAX : AX s) (hsc : SC N b L xs s) (hL : L ≤ 3072) (hq : q + 6 ≤ L) (hrb : RB A nx) (hbx : 1 ≤ wx ∧ wx ≤ nx) (hbm : 1 ≤ wm ∧ wm ≤ nx) (hcl : cells + 21 ≤ 600000 ∧ slots + 191 ≤ 7302250) {S2 : St} {x : Int} (cx : cn x) (hg : x < 0 ∨ (54 : Int) - 1 < x) (hs : lst_54 wx wm x (xs (q + 1)).toInt (xs (q + 2)).toInt (xs (q + 3)).toInt (xs (q + 4)).toInt (xs (q + 5)).toInt T A nx I = some S2) (kk : ∀ (ad1 : Nat → Nat) (c2 s2 : Nat), (∀ i, i ≤ nx → ad1 i = ad i) → c2 ≤ cells + 21 → s2 ≤ slots + 191 → nx ≤ S2.2.2.1 → RB S2.2.1 S2.2.2.1 → G p l e0 room_1 s m args below meth c c2 s2 Q cA D N 4 ad1 S2.1 S2.2.1 S2.2.2.1 1965 [(0, .ref b), (1, rv ad1 wx), (2, rv ad1 wm), (3, iv (q : Int))] [] S2.2.2.2) : G p l e0 room_1 s m args below meth c cells slots Q cA D N 4 ad T A nx 33 [(0, .ref b), (1, rv ad wx), (2, rv ad wm), (3, iv (q : Int))] [iv x] I := by
  have hf : OK (lst_54 wx wm x (xs (q + 1)).toInt (xs (q + 2)).toInt (xs (q + 3)).toInt (xs (q + 4)).toInt (xs (q + 5)).toInt T A nx I) (fun z => z = S2) := ⟨S2, hs, rfl⟩
  unfold lst_54 at hf
  refine r_tsw (pc := 33) 54 1453 S0 54 dL_law_33 cx rfl (by decide) rfl (by decide) hf (fun hf => ?_) (fun hx hf => ?_)
  · obtain ⟨z, h1, rfl⟩ := hf
    exact lc_54 S0 hK hX hAX hsc hL hq hrb hbx hbm hcl h1 kk
  · obtain ⟨z, h1, rfl⟩ := hf
    exact sw_55 S0 hK hX hAX hsc hL hq hrb hbx hbm hcl cx (by have := tsn hg hx; omega) h1 kk
set_option maxHeartbeats 4000000 in
set_option maxRecDepth 100000 in
theorem sw_53 {p : Program} {l : Launch} {e0 : Env} {s : State} {m : MethodId} {args : Array Value} {below : List Frame} {meth : Method} {c : Code} {cells slots : Nat} {Q : State → Prop} {cA : Nat → ClassId} {D : va_G} {N : Nat} {ad : Nat → Nat} {T : Knd} {A : Rfs} {nx : Nat} {I : Mem} {sx : Sx} {b L wx wm q : Nat} {xs : Nat → Int32} (S0 : CallFix p m c code 4 s args gT RL) (hK : va_K D vwCl (tyl cA) s) (hX : XX sx N s) (hAX : AX s) (hsc : SC N b L xs s) (hL : L ≤ 3072) (hq : q + 6 ≤ L) (hrb : RB A nx) (hbx : 1 ≤ wx ∧ wx ≤ nx) (hbm : 1 ≤ wm ∧ wm ≤ nx) (hcl : cells + 21 ≤ 600000 ∧ slots + 191 ≤ 7302250) {S2 : St} {x : Int} (cx : cn x) (hg : x < 0 ∨ (53 : Int) - 1 < x) (hs : lst_53 wx wm x (xs (q + 1)).toInt (xs (q + 2)).toInt (xs (q + 3)).toInt (xs (q + 4)).toInt (xs (q + 5)).toInt T A nx I = some S2) (kk : ∀ (ad1 : Nat → Nat) (c2 s2 : Nat), (∀ i, i ≤ nx → ad1 i = ad i) → c2 ≤ cells + 21 → s2 ≤ slots + 191 → nx ≤ S2.2.2.1 → RB S2.2.1 S2.2.2.1 → G p l e0 room_1 s m args below meth c c2 s2 Q cA D N 4 ad1 S2.1 S2.2.1 S2.2.2.1 1965 [(0, .ref b), (1, rv ad1 wx), (2, rv ad1 wm), (3, iv (q : Int))] [] S2.2.2.2) : G p l e0 room_1 s m args below meth c cells slots Q cA D N 4 ad T A nx 33 [(0, .ref b), (1, rv ad wx), (2, rv ad wm), (3, iv (q : Int))] [iv x] I := by
  have hf : OK (lst_53 wx wm x (xs (q + 1)).toInt (xs (q + 2)).toInt (xs (q + 3)).toInt (xs (q + 4)).toInt (xs (q + 5)).toInt T A nx I) (fun z => z = S2) := ⟨S2, hs, rfl⟩
  unfold lst_53 at hf
  refine r_tsw (pc := 33) 53 1420 S0 53 dL_law_33 cx rfl (by decide) rfl (by decide) hf (fun hf => ?_) (fun hx hf => ?_)
  · obtain ⟨z, h1, rfl⟩ := hf
    exact lc_53 S0 hK hX hAX hsc hL hq hrb hbx hbm hcl h1 kk
  · obtain ⟨z, h1, rfl⟩ := hf
    exact sw_54 S0 hK hX hAX hsc hL hq hrb hbx hbm hcl cx (by have := tsn hg hx; omega) h1 kk
set_option maxHeartbeats 4000000 in
set_option maxRecDepth 100000 in
theorem sw_52 {p : Program} {l : Launch} {e0 : Env} {s : State} {m : MethodId} {args : Array Value} {below : List Frame} {meth : Method} {c : Code} {cells slots : Nat} {Q : State → Prop} {cA : Nat → ClassId} {D : va_G} {N : Nat} {ad : Nat → Nat} {T : Knd} {A : Rfs} {nx : Nat} {I : Mem} {sx : Sx} {b L wx wm q : Nat} {xs : Nat → Int32} (S0 : CallFix p m c code 4 s args gT RL) (hK : va_K D vwCl (tyl cA) s) (hX : XX sx N s) (hAX : AX s) (hsc : SC N b L xs s) (hL : L ≤ 3072) (hq : q + 6 ≤ L) (hrb : RB A nx) (hbx : 1 ≤ wx ∧ wx ≤ nx) (hbm : 1 ≤ wm ∧ wm ≤ nx) (hcl : cells + 21 ≤ 600000 ∧ slots + 191 ≤ 7302250) {S2 : St} {x : Int} (cx : cn x) (hg : x < 0 ∨ (52 : Int) - 1 < x) (hs : lst_52 wx wm x (xs (q + 1)).toInt (xs (q + 2)).toInt (xs (q + 3)).toInt (xs (q + 4)).toInt (xs (q + 5)).toInt T A nx I = some S2) (kk : ∀ (ad1 : Nat → Nat) (c2 s2 : Nat), (∀ i, i ≤ nx → ad1 i = ad i) → c2 ≤ cells + 21 → s2 ≤ slots + 191 → nx ≤ S2.2.2.1 → RB S2.2.1 S2.2.2.1 → G p l e0 room_1 s m args below meth c c2 s2 Q cA D N 4 ad1 S2.1 S2.2.1 S2.2.2.1 1965 [(0, .ref b), (1, rv ad1 wx), (2, rv ad1 wm), (3, iv (q : Int))] [] S2.2.2.2) : G p l e0 room_1 s m args below meth c cells slots Q cA D N 4 ad T A nx 33 [(0, .ref b), (1, rv ad wx), (2, rv ad wm), (3, iv (q : Int))] [iv x] I := by
  have hf : OK (lst_52 wx wm x (xs (q + 1)).toInt (xs (q + 2)).toInt (xs (q + 3)).toInt (xs (q + 4)).toInt (xs (q + 5)).toInt T A nx I) (fun z => z = S2) := ⟨S2, hs, rfl⟩
  unfold lst_52 at hf
  refine r_tsw (pc := 33) 52 1387 S0 52 dL_law_33 cx rfl (by decide) rfl (by decide) hf (fun hf => ?_) (fun hx hf => ?_)
  · obtain ⟨z, h1, rfl⟩ := hf
    exact lc_52 S0 hK hX hAX hsc hL hq hrb hbx hbm hcl h1 kk
  · obtain ⟨z, h1, rfl⟩ := hf
    exact sw_53 S0 hK hX hAX hsc hL hq hrb hbx hbm hcl cx (by have := tsn hg hx; omega) h1 kk
set_option maxHeartbeats 4000000 in
set_option maxRecDepth 100000 in
theorem sw_51 {p : Program} {l : Launch} {e0 : Env} {s : State} {m : MethodId} {args : Array Value} {below : List Frame} {meth : Method} {c : Code} {cells slots : Nat} {Q : State → Prop} {cA : Nat → ClassId} {D : va_G} {N : Nat} {ad : Nat → Nat} {T : Knd} {A : Rfs} {nx : Nat} {I : Mem} {sx : Sx} {b L wx wm q : Nat} {xs : Nat → Int32} (S0 : CallFix p m c code 4 s args gT RL) (hK : va_K D vwCl (tyl cA) s) (hX : XX sx N s) (hAX : AX s) (hsc : SC N b L xs s) (hL : L ≤ 3072) (hq : q + 6 ≤ L) (hrb : RB A nx) (hbx : 1 ≤ wx ∧ wx ≤ nx) (hbm : 1 ≤ wm ∧ wm ≤ nx) (hcl : cells + 21 ≤ 600000 ∧ slots + 191 ≤ 7302250) {S2 : St} {x : Int} (cx : cn x) (hg : x < 0 ∨ (51 : Int) - 1 < x) (hs : lst_51 wx wm x (xs (q + 1)).toInt (xs (q + 2)).toInt (xs (q + 3)).toInt (xs (q + 4)).toInt (xs (q + 5)).toInt T A nx I = some S2) (kk : ∀ (ad1 : Nat → Nat) (c2 s2 : Nat), (∀ i, i ≤ nx → ad1 i = ad i) → c2 ≤ cells + 21 → s2 ≤ slots + 191 → nx ≤ S2.2.2.1 → RB S2.2.1 S2.2.2.1 → G p l e0 room_1 s m args below meth c c2 s2 Q cA D N 4 ad1 S2.1 S2.2.1 S2.2.2.1 1965 [(0, .ref b), (1, rv ad1 wx), (2, rv ad1 wm), (3, iv (q : Int))] [] S2.2.2.2) : G p l e0 room_1 s m args below meth c cells slots Q cA D N 4 ad T A nx 33 [(0, .ref b), (1, rv ad wx), (2, rv ad wm), (3, iv (q : Int))] [iv x] I := by
  have hf : OK (lst_51 wx wm x (xs (q + 1)).toInt (xs (q + 2)).toInt (xs (q + 3)).toInt (xs (q + 4)).toInt (xs (q + 5)).toInt T A nx I) (fun z => z = S2) := ⟨S2, hs, rfl⟩
  unfold lst_51 at hf
  refine r_tsw (pc := 33) 51 1364 S0 51 dL_law_33 cx rfl (by decide) rfl (by decide) hf (fun hf => ?_) (fun hx hf => ?_)
  · obtain ⟨z, h1, rfl⟩ := hf
    exact lc_51 S0 hK hX hAX hsc hL hq hrb hbx hbm hcl h1 kk
  · obtain ⟨z, h1, rfl⟩ := hf
    exact sw_52 S0 hK hX hAX hsc hL hq hrb hbx hbm hcl cx (by have := tsn hg hx; omega) h1 kk
set_option maxHeartbeats 4000000 in
set_option maxRecDepth 100000 in
theorem sw_50 {p : Program} {l : Launch} {e0 : Env} {s : State} {m : MethodId} {args : Array Value} {below : List Frame} {meth : Method} {c : Code} {cells slots : Nat} {Q : State → Prop} {cA : Nat → ClassId} {D : va_G} {N : Nat} {ad : Nat → Nat} {T : Knd} {A : Rfs} {nx : Nat} {I : Mem} {sx : Sx} {b L wx wm q : Nat} {xs : Nat → Int32} (S0 : CallFix p m c code 4 s args gT RL) (hK : va_K D vwCl (tyl cA) s) (hX : XX sx N s) (hAX : AX s) (hsc : SC N b L xs s) (hL : L ≤ 3072) (hq : q + 6 ≤ L) (hrb : RB A nx) (hbx : 1 ≤ wx ∧ wx ≤ nx) (hbm : 1 ≤ wm ∧ wm ≤ nx) (hcl : cells + 21 ≤ 600000 ∧ slots + 191 ≤ 7302250) {S2 : St} {x : Int} (cx : cn x) (hg : x < 0 ∨ (50 : Int) - 1 < x) (hs : lst_50 wx wm x (xs (q + 1)).toInt (xs (q + 2)).toInt (xs (q + 3)).toInt (xs (q + 4)).toInt (xs (q + 5)).toInt T A nx I = some S2) (kk : ∀ (ad1 : Nat → Nat) (c2 s2 : Nat), (∀ i, i ≤ nx → ad1 i = ad i) → c2 ≤ cells + 21 → s2 ≤ slots + 191 → nx ≤ S2.2.2.1 → RB S2.2.1 S2.2.2.1 → G p l e0 room_1 s m args below meth c c2 s2 Q cA D N 4 ad1 S2.1 S2.2.1 S2.2.2.1 1965 [(0, .ref b), (1, rv ad1 wx), (2, rv ad1 wm), (3, iv (q : Int))] [] S2.2.2.2) : G p l e0 room_1 s m args below meth c cells slots Q cA D N 4 ad T A nx 33 [(0, .ref b), (1, rv ad wx), (2, rv ad wm), (3, iv (q : Int))] [iv x] I := by
  have hf : OK (lst_50 wx wm x (xs (q + 1)).toInt (xs (q + 2)).toInt (xs (q + 3)).toInt (xs (q + 4)).toInt (xs (q + 5)).toInt T A nx I) (fun z => z = S2) := ⟨S2, hs, rfl⟩
  unfold lst_50 at hf
  refine r_tsw (pc := 33) 50 1341 S0 50 dL_law_33 cx rfl (by decide) rfl (by decide) hf (fun hf => ?_) (fun hx hf => ?_)
  · obtain ⟨z, h1, rfl⟩ := hf
    exact lc_50 S0 hK hX hAX hsc hL hq hrb hbx hbm hcl h1 kk
  · obtain ⟨z, h1, rfl⟩ := hf
    exact sw_51 S0 hK hX hAX hsc hL hq hrb hbx hbm hcl cx (by have := tsn hg hx; omega) h1 kk
set_option maxHeartbeats 4000000 in
set_option maxRecDepth 100000 in
theorem sw_49 {p : Program} {l : Launch} {e0 : Env} {s : State} {m : MethodId} {args : Array Value} {below : List Frame} {meth : Method} {c : Code} {cells slots : Nat} {Q : State → Prop} {cA : Nat → ClassId} {D : va_G} {N : Nat} {ad : Nat → Nat} {T : Knd} {A : Rfs} {nx : Nat} {I : Mem} {sx : Sx} {b L wx wm q : Nat} {xs : Nat → Int32} (S0 : CallFix p m c code 4 s args gT RL) (hK : va_K D vwCl (tyl cA) s) (hX : XX sx N s) (hAX : AX s) (hsc : SC N b L xs s) (hL : L ≤ 3072) (hq : q + 6 ≤ L) (hrb : RB A nx) (hbx : 1 ≤ wx ∧ wx ≤ nx) (hbm : 1 ≤ wm ∧ wm ≤ nx) (hcl : cells + 21 ≤ 600000 ∧ slots + 191 ≤ 7302250) {S2 : St} {x : Int} (cx : cn x) (hg : x < 0 ∨ (49 : Int) - 1 < x) (hs : lst_49 wx wm x (xs (q + 1)).toInt (xs (q + 2)).toInt (xs (q + 3)).toInt (xs (q + 4)).toInt (xs (q + 5)).toInt T A nx I = some S2) (kk : ∀ (ad1 : Nat → Nat) (c2 s2 : Nat), (∀ i, i ≤ nx → ad1 i = ad i) → c2 ≤ cells + 21 → s2 ≤ slots + 191 → nx ≤ S2.2.2.1 → RB S2.2.1 S2.2.2.1 → G p l e0 room_1 s m args below meth c c2 s2 Q cA D N 4 ad1 S2.1 S2.2.1 S2.2.2.1 1965 [(0, .ref b), (1, rv ad1 wx), (2, rv ad1 wm), (3, iv (q : Int))] [] S2.2.2.2) : G p l e0 room_1 s m args below meth c cells slots Q cA D N 4 ad T A nx 33 [(0, .ref b), (1, rv ad wx), (2, rv ad wm), (3, iv (q : Int))] [iv x] I := by
  have hf : OK (lst_49 wx wm x (xs (q + 1)).toInt (xs (q + 2)).toInt (xs (q + 3)).toInt (xs (q + 4)).toInt (xs (q + 5)).toInt T A nx I) (fun z => z = S2) := ⟨S2, hs, rfl⟩
  unfold lst_49 at hf
  refine r_tsw (pc := 33) 49 1318 S0 49 dL_law_33 cx rfl (by decide) rfl (by decide) hf (fun hf => ?_) (fun hx hf => ?_)
  · obtain ⟨z, h1, rfl⟩ := hf
    exact lc_49 S0 hK hX hAX hsc hL hq hrb hbx hbm hcl h1 kk
  · obtain ⟨z, h1, rfl⟩ := hf
    exact sw_50 S0 hK hX hAX hsc hL hq hrb hbx hbm hcl cx (by have := tsn hg hx; omega) h1 kk
set_option maxHeartbeats 4000000 in
set_option maxRecDepth 100000 in
theorem sw_48 {p : Program} {l : Launch} {e0 : Env} {s : State} {m : MethodId} {args : Array Value} {below : List Frame} {meth : Method} {c : Code} {cells slots : Nat} {Q : State → Prop} {cA : Nat → ClassId} {D : va_G} {N : Nat} {ad : Nat → Nat} {T : Knd} {A : Rfs} {nx : Nat} {I : Mem} {sx : Sx} {b L wx wm q : Nat} {xs : Nat → Int32} (S0 : CallFix p m c code 4 s args gT RL) (hK : va_K D vwCl (tyl cA) s) (hX : XX sx N s) (hAX : AX s) (hsc : SC N b L xs s) (hL : L ≤ 3072) (hq : q + 6 ≤ L) (hrb : RB A nx) (hbx : 1 ≤ wx ∧ wx ≤ nx) (hbm : 1 ≤ wm ∧ wm ≤ nx) (hcl : cells + 21 ≤ 600000 ∧ slots + 191 ≤ 7302250) {S2 : St} {x : Int} (cx : cn x) (hg : x < 0 ∨ (48 : Int) - 1 < x) (hs : lst_48 wx wm x (xs (q + 1)).toInt (xs (q + 2)).toInt (xs (q + 3)).toInt (xs (q + 4)).toInt (xs (q + 5)).toInt T A nx I = some S2) (kk : ∀ (ad1 : Nat → Nat) (c2 s2 : Nat), (∀ i, i ≤ nx → ad1 i = ad i) → c2 ≤ cells + 21 → s2 ≤ slots + 191 → nx ≤ S2.2.2.1 → RB S2.2.1 S2.2.2.1 → G p l e0 room_1 s m args below meth c c2 s2 Q cA D N 4 ad1 S2.1 S2.2.1 S2.2.2.1 1965 [(0, .ref b), (1, rv ad1 wx), (2, rv ad1 wm), (3, iv (q : Int))] [] S2.2.2.2) : G p l e0 room_1 s m args below meth c cells slots Q cA D N 4 ad T A nx 33 [(0, .ref b), (1, rv ad wx), (2, rv ad wm), (3, iv (q : Int))] [iv x] I := by
  have hf : OK (lst_48 wx wm x (xs (q + 1)).toInt (xs (q + 2)).toInt (xs (q + 3)).toInt (xs (q + 4)).toInt (xs (q + 5)).toInt T A nx I) (fun z => z = S2) := ⟨S2, hs, rfl⟩
  unfold lst_48 at hf
  refine r_tsw (pc := 33) 48 1305 S0 48 dL_law_33 cx rfl (by decide) rfl (by decide) hf (fun hf => ?_) (fun hx hf => ?_)
  · obtain ⟨z, h1, rfl⟩ := hf
    exact lc_48 S0 hK hX hAX hsc hL hq hrb hbx hbm hcl h1 kk
  · obtain ⟨z, h1, rfl⟩ := hf
    exact sw_49 S0 hK hX hAX hsc hL hq hrb hbx hbm hcl cx (by have := tsn hg hx; omega) h1 kk
set_option maxHeartbeats 4000000 in
set_option maxRecDepth 100000 in
theorem sw_47 {p : Program} {l : Launch} {e0 : Env} {s : State} {m : MethodId} {args : Array Value} {below : List Frame} {meth : Method} {c : Code} {cells slots : Nat} {Q : State → Prop} {cA : Nat → ClassId} {D : va_G} {N : Nat} {ad : Nat → Nat} {T : Knd} {A : Rfs} {nx : Nat} {I : Mem} {sx : Sx} {b L wx wm q : Nat} {xs : Nat → Int32} (S0 : CallFix p m c code 4 s args gT RL) (hK : va_K D vwCl (tyl cA) s) (hX : XX sx N s) (hAX : AX s) (hsc : SC N b L xs s) (hL : L ≤ 3072) (hq : q + 6 ≤ L) (hrb : RB A nx) (hbx : 1 ≤ wx ∧ wx ≤ nx) (hbm : 1 ≤ wm ∧ wm ≤ nx) (hcl : cells + 21 ≤ 600000 ∧ slots + 191 ≤ 7302250) {S2 : St} {x : Int} (cx : cn x) (hg : x < 0 ∨ (47 : Int) - 1 < x) (hs : lst_47 wx wm x (xs (q + 1)).toInt (xs (q + 2)).toInt (xs (q + 3)).toInt (xs (q + 4)).toInt (xs (q + 5)).toInt T A nx I = some S2) (kk : ∀ (ad1 : Nat → Nat) (c2 s2 : Nat), (∀ i, i ≤ nx → ad1 i = ad i) → c2 ≤ cells + 21 → s2 ≤ slots + 191 → nx ≤ S2.2.2.1 → RB S2.2.1 S2.2.2.1 → G p l e0 room_1 s m args below meth c c2 s2 Q cA D N 4 ad1 S2.1 S2.2.1 S2.2.2.1 1965 [(0, .ref b), (1, rv ad1 wx), (2, rv ad1 wm), (3, iv (q : Int))] [] S2.2.2.2) : G p l e0 room_1 s m args below meth c cells slots Q cA D N 4 ad T A nx 33 [(0, .ref b), (1, rv ad wx), (2, rv ad wm), (3, iv (q : Int))] [iv x] I := by
  have hf : OK (lst_47 wx wm x (xs (q + 1)).toInt (xs (q + 2)).toInt (xs (q + 3)).toInt (xs (q + 4)).toInt (xs (q + 5)).toInt T A nx I) (fun z => z = S2) := ⟨S2, hs, rfl⟩
  unfold lst_47 at hf
  refine r_tsw (pc := 33) 47 1282 S0 47 dL_law_33 cx rfl (by decide) rfl (by decide) hf (fun hf => ?_) (fun hx hf => ?_)
  · obtain ⟨z, h1, rfl⟩ := hf
    exact lc_47 S0 hK hX hAX hsc hL hq hrb hbx hbm hcl h1 kk
  · obtain ⟨z, h1, rfl⟩ := hf
    exact sw_48 S0 hK hX hAX hsc hL hq hrb hbx hbm hcl cx (by have := tsn hg hx; omega) h1 kk
set_option maxHeartbeats 4000000 in
set_option maxRecDepth 100000 in
theorem sw_46 {p : Program} {l : Launch} {e0 : Env} {s : State} {m : MethodId} {args : Array Value} {below : List Frame} {meth : Method} {c : Code} {cells slots : Nat} {Q : State → Prop} {cA : Nat → ClassId} {D : va_G} {N : Nat} {ad : Nat → Nat} {T : Knd} {A : Rfs} {nx : Nat} {I : Mem} {sx : Sx} {b L wx wm q : Nat} {xs : Nat → Int32} (S0 : CallFix p m c code 4 s args gT RL) (hK : va_K D vwCl (tyl cA) s) (hX : XX sx N s) (hAX : AX s) (hsc : SC N b L xs s) (hL : L ≤ 3072) (hq : q + 6 ≤ L) (hrb : RB A nx) (hbx : 1 ≤ wx ∧ wx ≤ nx) (hbm : 1 ≤ wm ∧ wm ≤ nx) (hcl : cells + 21 ≤ 600000 ∧ slots + 191 ≤ 7302250) {S2 : St} {x : Int} (cx : cn x) (hg : x < 0 ∨ (46 : Int) - 1 < x) (hs : lst_46 wx wm x (xs (q + 1)).toInt (xs (q + 2)).toInt (xs (q + 3)).toInt (xs (q + 4)).toInt (xs (q + 5)).toInt T A nx I = some S2) (kk : ∀ (ad1 : Nat → Nat) (c2 s2 : Nat), (∀ i, i ≤ nx → ad1 i = ad i) → c2 ≤ cells + 21 → s2 ≤ slots + 191 → nx ≤ S2.2.2.1 → RB S2.2.1 S2.2.2.1 → G p l e0 room_1 s m args below meth c c2 s2 Q cA D N 4 ad1 S2.1 S2.2.1 S2.2.2.1 1965 [(0, .ref b), (1, rv ad1 wx), (2, rv ad1 wm), (3, iv (q : Int))] [] S2.2.2.2) : G p l e0 room_1 s m args below meth c cells slots Q cA D N 4 ad T A nx 33 [(0, .ref b), (1, rv ad wx), (2, rv ad wm), (3, iv (q : Int))] [iv x] I := by
  have hf : OK (lst_46 wx wm x (xs (q + 1)).toInt (xs (q + 2)).toInt (xs (q + 3)).toInt (xs (q + 4)).toInt (xs (q + 5)).toInt T A nx I) (fun z => z = S2) := ⟨S2, hs, rfl⟩
  unfold lst_46 at hf
  refine r_tsw (pc := 33) 46 1269 S0 46 dL_law_33 cx rfl (by decide) rfl (by decide) hf (fun hf => ?_) (fun hx hf => ?_)
  · obtain ⟨z, h1, rfl⟩ := hf
    exact lc_46 S0 hK hX hAX hsc hL hq hrb hbx hbm hcl h1 kk
  · obtain ⟨z, h1, rfl⟩ := hf
    exact sw_47 S0 hK hX hAX hsc hL hq hrb hbx hbm hcl cx (by have := tsn hg hx; omega) h1 kk
set_option maxHeartbeats 4000000 in
set_option maxRecDepth 100000 in
theorem sw_45 {p : Program} {l : Launch} {e0 : Env} {s : State} {m : MethodId} {args : Array Value} {below : List Frame} {meth : Method} {c : Code} {cells slots : Nat} {Q : State → Prop} {cA : Nat → ClassId} {D : va_G} {N : Nat} {ad : Nat → Nat} {T : Knd} {A : Rfs} {nx : Nat} {I : Mem} {sx : Sx} {b L wx wm q : Nat} {xs : Nat → Int32} (S0 : CallFix p m c code 4 s args gT RL) (hK : va_K D vwCl (tyl cA) s) (hX : XX sx N s) (hAX : AX s) (hsc : SC N b L xs s) (hL : L ≤ 3072) (hq : q + 6 ≤ L) (hrb : RB A nx) (hbx : 1 ≤ wx ∧ wx ≤ nx) (hbm : 1 ≤ wm ∧ wm ≤ nx) (hcl : cells + 21 ≤ 600000 ∧ slots + 191 ≤ 7302250) {S2 : St} {x : Int} (cx : cn x) (hg : x < 0 ∨ (45 : Int) - 1 < x) (hs : lst_45 wx wm x (xs (q + 1)).toInt (xs (q + 2)).toInt (xs (q + 3)).toInt (xs (q + 4)).toInt (xs (q + 5)).toInt T A nx I = some S2) (kk : ∀ (ad1 : Nat → Nat) (c2 s2 : Nat), (∀ i, i ≤ nx → ad1 i = ad i) → c2 ≤ cells + 21 → s2 ≤ slots + 191 → nx ≤ S2.2.2.1 → RB S2.2.1 S2.2.2.1 → G p l e0 room_1 s m args below meth c c2 s2 Q cA D N 4 ad1 S2.1 S2.2.1 S2.2.2.1 1965 [(0, .ref b), (1, rv ad1 wx), (2, rv ad1 wm), (3, iv (q : Int))] [] S2.2.2.2) : G p l e0 room_1 s m args below meth c cells slots Q cA D N 4 ad T A nx 33 [(0, .ref b), (1, rv ad wx), (2, rv ad wm), (3, iv (q : Int))] [iv x] I := by
  have hf : OK (lst_45 wx wm x (xs (q + 1)).toInt (xs (q + 2)).toInt (xs (q + 3)).toInt (xs (q + 4)).toInt (xs (q + 5)).toInt T A nx I) (fun z => z = S2) := ⟨S2, hs, rfl⟩
  unfold lst_45 at hf
  refine r_tsw (pc := 33) 45 1245 S0 45 dL_law_33 cx rfl (by decide) rfl (by decide) hf (fun hf => ?_) (fun hx hf => ?_)
  · obtain ⟨z, h1, rfl⟩ := hf
    exact lc_45 S0 hK hX hAX hsc hL hq hrb hbx hbm hcl h1 kk
  · obtain ⟨z, h1, rfl⟩ := hf
    exact sw_46 S0 hK hX hAX hsc hL hq hrb hbx hbm hcl cx (by have := tsn hg hx; omega) h1 kk
set_option maxHeartbeats 4000000 in
set_option maxRecDepth 100000 in
theorem sw_44 {p : Program} {l : Launch} {e0 : Env} {s : State} {m : MethodId} {args : Array Value} {below : List Frame} {meth : Method} {c : Code} {cells slots : Nat} {Q : State → Prop} {cA : Nat → ClassId} {D : va_G} {N : Nat} {ad : Nat → Nat} {T : Knd} {A : Rfs} {nx : Nat} {I : Mem} {sx : Sx} {b L wx wm q : Nat} {xs : Nat → Int32} (S0 : CallFix p m c code 4 s args gT RL) (hK : va_K D vwCl (tyl cA) s) (hX : XX sx N s) (hAX : AX s) (hsc : SC N b L xs s) (hL : L ≤ 3072) (hq : q + 6 ≤ L) (hrb : RB A nx) (hbx : 1 ≤ wx ∧ wx ≤ nx) (hbm : 1 ≤ wm ∧ wm ≤ nx) (hcl : cells + 21 ≤ 600000 ∧ slots + 191 ≤ 7302250) {S2 : St} {x : Int} (cx : cn x) (hg : x < 0 ∨ (44 : Int) - 1 < x) (hs : lst_44 wx wm x (xs (q + 1)).toInt (xs (q + 2)).toInt (xs (q + 3)).toInt (xs (q + 4)).toInt (xs (q + 5)).toInt T A nx I = some S2) (kk : ∀ (ad1 : Nat → Nat) (c2 s2 : Nat), (∀ i, i ≤ nx → ad1 i = ad i) → c2 ≤ cells + 21 → s2 ≤ slots + 191 → nx ≤ S2.2.2.1 → RB S2.2.1 S2.2.2.1 → G p l e0 room_1 s m args below meth c c2 s2 Q cA D N 4 ad1 S2.1 S2.2.1 S2.2.2.1 1965 [(0, .ref b), (1, rv ad1 wx), (2, rv ad1 wm), (3, iv (q : Int))] [] S2.2.2.2) : G p l e0 room_1 s m args below meth c cells slots Q cA D N 4 ad T A nx 33 [(0, .ref b), (1, rv ad wx), (2, rv ad wm), (3, iv (q : Int))] [iv x] I := by
  have hf : OK (lst_44 wx wm x (xs (q + 1)).toInt (xs (q + 2)).toInt (xs (q + 3)).toInt (xs (q + 4)).toInt (xs (q + 5)).toInt T A nx I) (fun z => z = S2) := ⟨S2, hs, rfl⟩
  unfold lst_44 at hf
  refine r_tsw (pc := 33) 44 1222 S0 44 dL_law_33 cx rfl (by decide) rfl (by decide) hf (fun hf => ?_) (fun hx hf => ?_)
  · obtain ⟨z, h1, rfl⟩ := hf
    exact lc_44 S0 hK hX hAX hsc hL hq hrb hbx hbm hcl h1 kk
  · obtain ⟨z, h1, rfl⟩ := hf
    exact sw_45 S0 hK hX hAX hsc hL hq hrb hbx hbm hcl cx (by have := tsn hg hx; omega) h1 kk
set_option maxHeartbeats 4000000 in
set_option maxRecDepth 100000 in
theorem sw_43 {p : Program} {l : Launch} {e0 : Env} {s : State} {m : MethodId} {args : Array Value} {below : List Frame} {meth : Method} {c : Code} {cells slots : Nat} {Q : State → Prop} {cA : Nat → ClassId} {D : va_G} {N : Nat} {ad : Nat → Nat} {T : Knd} {A : Rfs} {nx : Nat} {I : Mem} {sx : Sx} {b L wx wm q : Nat} {xs : Nat → Int32} (S0 : CallFix p m c code 4 s args gT RL) (hK : va_K D vwCl (tyl cA) s) (hX : XX sx N s) (hAX : AX s) (hsc : SC N b L xs s) (hL : L ≤ 3072) (hq : q + 6 ≤ L) (hrb : RB A nx) (hbx : 1 ≤ wx ∧ wx ≤ nx) (hbm : 1 ≤ wm ∧ wm ≤ nx) (hcl : cells + 21 ≤ 600000 ∧ slots + 191 ≤ 7302250) {S2 : St} {x : Int} (cx : cn x) (hg : x < 0 ∨ (43 : Int) - 1 < x) (hs : lst_43 wx wm x (xs (q + 1)).toInt (xs (q + 2)).toInt (xs (q + 3)).toInt (xs (q + 4)).toInt (xs (q + 5)).toInt T A nx I = some S2) (kk : ∀ (ad1 : Nat → Nat) (c2 s2 : Nat), (∀ i, i ≤ nx → ad1 i = ad i) → c2 ≤ cells + 21 → s2 ≤ slots + 191 → nx ≤ S2.2.2.1 → RB S2.2.1 S2.2.2.1 → G p l e0 room_1 s m args below meth c c2 s2 Q cA D N 4 ad1 S2.1 S2.2.1 S2.2.2.1 1965 [(0, .ref b), (1, rv ad1 wx), (2, rv ad1 wm), (3, iv (q : Int))] [] S2.2.2.2) : G p l e0 room_1 s m args below meth c cells slots Q cA D N 4 ad T A nx 33 [(0, .ref b), (1, rv ad wx), (2, rv ad wm), (3, iv (q : Int))] [iv x] I := by
  have hf : OK (lst_43 wx wm x (xs (q + 1)).toInt (xs (q + 2)).toInt (xs (q + 3)).toInt (xs (q + 4)).toInt (xs (q + 5)).toInt T A nx I) (fun z => z = S2) := ⟨S2, hs, rfl⟩
  unfold lst_43 at hf
  refine r_tsw (pc := 33) 43 1209 S0 43 dL_law_33 cx rfl (by decide) rfl (by decide) hf (fun hf => ?_) (fun hx hf => ?_)
  · obtain ⟨z, h1, rfl⟩ := hf
    exact lc_43 S0 hK hX hAX hsc hL hq hrb hbx hbm hcl h1 kk
  · obtain ⟨z, h1, rfl⟩ := hf
    exact sw_44 S0 hK hX hAX hsc hL hq hrb hbx hbm hcl cx (by have := tsn hg hx; omega) h1 kk
set_option maxHeartbeats 4000000 in
set_option maxRecDepth 100000 in
theorem sw_42 {p : Program} {l : Launch} {e0 : Env} {s : State} {m : MethodId} {args : Array Value} {below : List Frame} {meth : Method} {c : Code} {cells slots : Nat} {Q : State → Prop} {cA : Nat → ClassId} {D : va_G} {N : Nat} {ad : Nat → Nat} {T : Knd} {A : Rfs} {nx : Nat} {I : Mem} {sx : Sx} {b L wx wm q : Nat} {xs : Nat → Int32} (S0 : CallFix p m c code 4 s args gT RL) (hK : va_K D vwCl (tyl cA) s) (hX : XX sx N s) (hAX : AX s) (hsc : SC N b L xs s) (hL : L ≤ 3072) (hq : q + 6 ≤ L) (hrb : RB A nx) (hbx : 1 ≤ wx ∧ wx ≤ nx) (hbm : 1 ≤ wm ∧ wm ≤ nx) (hcl : cells + 21 ≤ 600000 ∧ slots + 191 ≤ 7302250) {S2 : St} {x : Int} (cx : cn x) (hg : x < 0 ∨ (42 : Int) - 1 < x) (hs : lst_42 wx wm x (xs (q + 1)).toInt (xs (q + 2)).toInt (xs (q + 3)).toInt (xs (q + 4)).toInt (xs (q + 5)).toInt T A nx I = some S2) (kk : ∀ (ad1 : Nat → Nat) (c2 s2 : Nat), (∀ i, i ≤ nx → ad1 i = ad i) → c2 ≤ cells + 21 → s2 ≤ slots + 191 → nx ≤ S2.2.2.1 → RB S2.2.1 S2.2.2.1 → G p l e0 room_1 s m args below meth c c2 s2 Q cA D N 4 ad1 S2.1 S2.2.1 S2.2.2.1 1965 [(0, .ref b), (1, rv ad1 wx), (2, rv ad1 wm), (3, iv (q : Int))] [] S2.2.2.2) : G p l e0 room_1 s m args below meth c cells slots Q cA D N 4 ad T A nx 33 [(0, .ref b), (1, rv ad wx), (2, rv ad wm), (3, iv (q : Int))] [iv x] I := by
  have hf : OK (lst_42 wx wm x (xs (q + 1)).toInt (xs (q + 2)).toInt (xs (q + 3)).toInt (xs (q + 4)).toInt (xs (q + 5)).toInt T A nx I) (fun z => z = S2) := ⟨S2, hs, rfl⟩
  unfold lst_42 at hf
  refine r_tsw (pc := 33) 42 1196 S0 42 dL_law_33 cx rfl (by decide) rfl (by decide) hf (fun hf => ?_) (fun hx hf => ?_)
  · obtain ⟨z, h1, rfl⟩ := hf
    exact lc_42 S0 hK hX hAX hsc hL hq hrb hbx hbm hcl h1 kk
  · obtain ⟨z, h1, rfl⟩ := hf
    exact sw_43 S0 hK hX hAX hsc hL hq hrb hbx hbm hcl cx (by have := tsn hg hx; omega) h1 kk
set_option maxHeartbeats 4000000 in
set_option maxRecDepth 100000 in
theorem sw_41 {p : Program} {l : Launch} {e0 : Env} {s : State} {m : MethodId} {args : Array Value} {below : List Frame} {meth : Method} {c : Code} {cells slots : Nat} {Q : State → Prop} {cA : Nat → ClassId} {D : va_G} {N : Nat} {ad : Nat → Nat} {T : Knd} {A : Rfs} {nx : Nat} {I : Mem} {sx : Sx} {b L wx wm q : Nat} {xs : Nat → Int32} (S0 : CallFix p m c code 4 s args gT RL) (hK : va_K D vwCl (tyl cA) s) (hX : XX sx N s) (hAX : AX s) (hsc : SC N b L xs s) (hL : L ≤ 3072) (hq : q + 6 ≤ L) (hrb : RB A nx) (hbx : 1 ≤ wx ∧ wx ≤ nx) (hbm : 1 ≤ wm ∧ wm ≤ nx) (hcl : cells + 21 ≤ 600000 ∧ slots + 191 ≤ 7302250) {S2 : St} {x : Int} (cx : cn x) (hg : x < 0 ∨ (41 : Int) - 1 < x) (hs : lst_41 wx wm x (xs (q + 1)).toInt (xs (q + 2)).toInt (xs (q + 3)).toInt (xs (q + 4)).toInt (xs (q + 5)).toInt T A nx I = some S2) (kk : ∀ (ad1 : Nat → Nat) (c2 s2 : Nat), (∀ i, i ≤ nx → ad1 i = ad i) → c2 ≤ cells + 21 → s2 ≤ slots + 191 → nx ≤ S2.2.2.1 → RB S2.2.1 S2.2.2.1 → G p l e0 room_1 s m args below meth c c2 s2 Q cA D N 4 ad1 S2.1 S2.2.1 S2.2.2.1 1965 [(0, .ref b), (1, rv ad1 wx), (2, rv ad1 wm), (3, iv (q : Int))] [] S2.2.2.2) : G p l e0 room_1 s m args below meth c cells slots Q cA D N 4 ad T A nx 33 [(0, .ref b), (1, rv ad wx), (2, rv ad wm), (3, iv (q : Int))] [iv x] I := by
  have hf : OK (lst_41 wx wm x (xs (q + 1)).toInt (xs (q + 2)).toInt (xs (q + 3)).toInt (xs (q + 4)).toInt (xs (q + 5)).toInt T A nx I) (fun z => z = S2) := ⟨S2, hs, rfl⟩
  unfold lst_41 at hf
  refine r_tsw (pc := 33) 41 1183 S0 41 dL_law_33 cx rfl (by decide) rfl (by decide) hf (fun hf => ?_) (fun hx hf => ?_)
  · obtain ⟨z, h1, rfl⟩ := hf
    exact lc_41 S0 hK hX hAX hsc hL hq hrb hbx hbm hcl h1 kk
  · obtain ⟨z, h1, rfl⟩ := hf
    exact sw_42 S0 hK hX hAX hsc hL hq hrb hbx hbm hcl cx (by have := tsn hg hx; omega) h1 kk
set_option maxHeartbeats 4000000 in
set_option maxRecDepth 100000 in
theorem sw_40 {p : Program} {l : Launch} {e0 : Env} {s : State} {m : MethodId} {args : Array Value} {below : List Frame} {meth : Method} {c : Code} {cells slots : Nat} {Q : State → Prop} {cA : Nat → ClassId} {D : va_G} {N : Nat} {ad : Nat → Nat} {T : Knd} {A : Rfs} {nx : Nat} {I : Mem} {sx : Sx} {b L wx wm q : Nat} {xs : Nat → Int32} (S0 : CallFix p m c code 4 s args gT RL) (hK : va_K D vwCl (tyl cA) s) (hX : XX sx N s) (hAX : AX s) (hsc : SC N b L xs s) (hL : L ≤ 3072) (hq : q + 6 ≤ L) (hrb : RB A nx) (hbx : 1 ≤ wx ∧ wx ≤ nx) (hbm : 1 ≤ wm ∧ wm ≤ nx) (hcl : cells + 21 ≤ 600000 ∧ slots + 191 ≤ 7302250) {S2 : St} {x : Int} (cx : cn x) (hg : x < 0 ∨ (40 : Int) - 1 < x) (hs : lst_40 wx wm x (xs (q + 1)).toInt (xs (q + 2)).toInt (xs (q + 3)).toInt (xs (q + 4)).toInt (xs (q + 5)).toInt T A nx I = some S2) (kk : ∀ (ad1 : Nat → Nat) (c2 s2 : Nat), (∀ i, i ≤ nx → ad1 i = ad i) → c2 ≤ cells + 21 → s2 ≤ slots + 191 → nx ≤ S2.2.2.1 → RB S2.2.1 S2.2.2.1 → G p l e0 room_1 s m args below meth c c2 s2 Q cA D N 4 ad1 S2.1 S2.2.1 S2.2.2.1 1965 [(0, .ref b), (1, rv ad1 wx), (2, rv ad1 wm), (3, iv (q : Int))] [] S2.2.2.2) : G p l e0 room_1 s m args below meth c cells slots Q cA D N 4 ad T A nx 33 [(0, .ref b), (1, rv ad wx), (2, rv ad wm), (3, iv (q : Int))] [iv x] I := by
  have hf : OK (lst_40 wx wm x (xs (q + 1)).toInt (xs (q + 2)).toInt (xs (q + 3)).toInt (xs (q + 4)).toInt (xs (q + 5)).toInt T A nx I) (fun z => z = S2) := ⟨S2, hs, rfl⟩
  unfold lst_40 at hf
  refine r_tsw (pc := 33) 40 1160 S0 40 dL_law_33 cx rfl (by decide) rfl (by decide) hf (fun hf => ?_) (fun hx hf => ?_)
  · obtain ⟨z, h1, rfl⟩ := hf
    exact lc_40 S0 hK hX hAX hsc hL hq hrb hbx hbm hcl h1 kk
  · obtain ⟨z, h1, rfl⟩ := hf
    exact sw_41 S0 hK hX hAX hsc hL hq hrb hbx hbm hcl cx (by have := tsn hg hx; omega) h1 kk
set_option maxHeartbeats 4000000 in
set_option maxRecDepth 100000 in
theorem sw_39 {p : Program} {l : Launch} {e0 : Env} {s : State} {m : MethodId} {args : Array Value} {below : List Frame} {meth : Method} {c : Code} {cells slots : Nat} {Q : State → Prop} {cA : Nat → ClassId} {D : va_G} {N : Nat} {ad : Nat → Nat} {T : Knd} {A : Rfs} {nx : Nat} {I : Mem} {sx : Sx} {b L wx wm q : Nat} {xs : Nat → Int32} (S0 : CallFix p m c code 4 s args gT RL) (hK : va_K D vwCl (tyl cA) s) (hX : XX sx N s) (hAX : AX s) (hsc : SC N b L xs s) (hL : L ≤ 3072) (hq : q + 6 ≤ L) (hrb : RB A nx) (hbx : 1 ≤ wx ∧ wx ≤ nx) (hbm : 1 ≤ wm ∧ wm ≤ nx) (hcl : cells + 21 ≤ 600000 ∧ slots + 191 ≤ 7302250) {S2 : St} {x : Int} (cx : cn x) (hg : x < 0 ∨ (39 : Int) - 1 < x) (hs : lst_39 wx wm x (xs (q + 1)).toInt (xs (q + 2)).toInt (xs (q + 3)).toInt (xs (q + 4)).toInt (xs (q + 5)).toInt T A nx I = some S2) (kk : ∀ (ad1 : Nat → Nat) (c2 s2 : Nat), (∀ i, i ≤ nx → ad1 i = ad i) → c2 ≤ cells + 21 → s2 ≤ slots + 191 → nx ≤ S2.2.2.1 → RB S2.2.1 S2.2.2.1 → G p l e0 room_1 s m args below meth c c2 s2 Q cA D N 4 ad1 S2.1 S2.2.1 S2.2.2.1 1965 [(0, .ref b), (1, rv ad1 wx), (2, rv ad1 wm), (3, iv (q : Int))] [] S2.2.2.2) : G p l e0 room_1 s m args below meth c cells slots Q cA D N 4 ad T A nx 33 [(0, .ref b), (1, rv ad wx), (2, rv ad wm), (3, iv (q : Int))] [iv x] I := by
  have hf : OK (lst_39 wx wm x (xs (q + 1)).toInt (xs (q + 2)).toInt (xs (q + 3)).toInt (xs (q + 4)).toInt (xs (q + 5)).toInt T A nx I) (fun z => z = S2) := ⟨S2, hs, rfl⟩
  unfold lst_39 at hf
  refine r_tsw (pc := 33) 39 1147 S0 39 dL_law_33 cx rfl (by decide) rfl (by decide) hf (fun hf => ?_) (fun hx hf => ?_)
  · obtain ⟨z, h1, rfl⟩ := hf
    exact lc_39 S0 hK hX hAX hsc hL hq hrb hbx hbm hcl h1 kk
  · obtain ⟨z, h1, rfl⟩ := hf
    exact sw_40 S0 hK hX hAX hsc hL hq hrb hbx hbm hcl cx (by have := tsn hg hx; omega) h1 kk
set_option maxHeartbeats 4000000 in
set_option maxRecDepth 100000 in
theorem sw_38 {p : Program} {l : Launch} {e0 : Env} {s : State} {m : MethodId} {args : Array Value} {below : List Frame} {meth : Method} {c : Code} {cells slots : Nat} {Q : State → Prop} {cA : Nat → ClassId} {D : va_G} {N : Nat} {ad : Nat → Nat} {T : Knd} {A : Rfs} {nx : Nat} {I : Mem} {sx : Sx} {b L wx wm q : Nat} {xs : Nat → Int32} (S0 : CallFix p m c code 4 s args gT RL) (hK : va_K D vwCl (tyl cA) s) (hX : XX sx N s) (hAX : AX s) (hsc : SC N b L xs s) (hL : L ≤ 3072) (hq : q + 6 ≤ L) (hrb : RB A nx) (hbx : 1 ≤ wx ∧ wx ≤ nx) (hbm : 1 ≤ wm ∧ wm ≤ nx) (hcl : cells + 21 ≤ 600000 ∧ slots + 191 ≤ 7302250) {S2 : St} {x : Int} (cx : cn x) (hg : x < 0 ∨ (38 : Int) - 1 < x) (hs : lst_38 wx wm x (xs (q + 1)).toInt (xs (q + 2)).toInt (xs (q + 3)).toInt (xs (q + 4)).toInt (xs (q + 5)).toInt T A nx I = some S2) (kk : ∀ (ad1 : Nat → Nat) (c2 s2 : Nat), (∀ i, i ≤ nx → ad1 i = ad i) → c2 ≤ cells + 21 → s2 ≤ slots + 191 → nx ≤ S2.2.2.1 → RB S2.2.1 S2.2.2.1 → G p l e0 room_1 s m args below meth c c2 s2 Q cA D N 4 ad1 S2.1 S2.2.1 S2.2.2.1 1965 [(0, .ref b), (1, rv ad1 wx), (2, rv ad1 wm), (3, iv (q : Int))] [] S2.2.2.2) : G p l e0 room_1 s m args below meth c cells slots Q cA D N 4 ad T A nx 33 [(0, .ref b), (1, rv ad wx), (2, rv ad wm), (3, iv (q : Int))] [iv x] I := by
  have hf : OK (lst_38 wx wm x (xs (q + 1)).toInt (xs (q + 2)).toInt (xs (q + 3)).toInt (xs (q + 4)).toInt (xs (q + 5)).toInt T A nx I) (fun z => z = S2) := ⟨S2, hs, rfl⟩
  unfold lst_38 at hf
  refine r_tsw (pc := 33) 38 1124 S0 38 dL_law_33 cx rfl (by decide) rfl (by decide) hf (fun hf => ?_) (fun hx hf => ?_)
  · obtain ⟨z, h1, rfl⟩ := hf
    exact lc_38 S0 hK hX hAX hsc hL hq hrb hbx hbm hcl h1 kk
  · obtain ⟨z, h1, rfl⟩ := hf
    exact sw_39 S0 hK hX hAX hsc hL hq hrb hbx hbm hcl cx (by have := tsn hg hx; omega) h1 kk
set_option maxHeartbeats 4000000 in
set_option maxRecDepth 100000 in
theorem sw_37 {p : Program} {l : Launch} {e0 : Env} {s : State} {m : MethodId} {args : Array Value} {below : List Frame} {meth : Method} {c : Code} {cells slots : Nat} {Q : State → Prop} {cA : Nat → ClassId} {D : va_G} {N : Nat} {ad : Nat → Nat} {T : Knd} {A : Rfs} {nx : Nat} {I : Mem} {sx : Sx} {b L wx wm q : Nat} {xs : Nat → Int32} (S0 : CallFix p m c code 4 s args gT RL) (hK : va_K D vwCl (tyl cA) s) (hX : XX sx N s) (hAX : AX s) (hsc : SC N b L xs s) (hL : L ≤ 3072) (hq : q + 6 ≤ L) (hrb : RB A nx) (hbx : 1 ≤ wx ∧ wx ≤ nx) (hbm : 1 ≤ wm ∧ wm ≤ nx) (hcl : cells + 21 ≤ 600000 ∧ slots + 191 ≤ 7302250) {S2 : St} {x : Int} (cx : cn x) (hg : x < 0 ∨ (37 : Int) - 1 < x) (hs : lst_37 wx wm x (xs (q + 1)).toInt (xs (q + 2)).toInt (xs (q + 3)).toInt (xs (q + 4)).toInt (xs (q + 5)).toInt T A nx I = some S2) (kk : ∀ (ad1 : Nat → Nat) (c2 s2 : Nat), (∀ i, i ≤ nx → ad1 i = ad i) → c2 ≤ cells + 21 → s2 ≤ slots + 191 → nx ≤ S2.2.2.1 → RB S2.2.1 S2.2.2.1 → G p l e0 room_1 s m args below meth c c2 s2 Q cA D N 4 ad1 S2.1 S2.2.1 S2.2.2.1 1965 [(0, .ref b), (1, rv ad1 wx), (2, rv ad1 wm), (3, iv (q : Int))] [] S2.2.2.2) : G p l e0 room_1 s m args below meth c cells slots Q cA D N 4 ad T A nx 33 [(0, .ref b), (1, rv ad wx), (2, rv ad wm), (3, iv (q : Int))] [iv x] I := by
  have hf : OK (lst_37 wx wm x (xs (q + 1)).toInt (xs (q + 2)).toInt (xs (q + 3)).toInt (xs (q + 4)).toInt (xs (q + 5)).toInt T A nx I) (fun z => z = S2) := ⟨S2, hs, rfl⟩
  unfold lst_37 at hf
  refine r_tsw (pc := 33) 37 1101 S0 37 dL_law_33 cx rfl (by decide) rfl (by decide) hf (fun hf => ?_) (fun hx hf => ?_)
  · obtain ⟨z, h1, rfl⟩ := hf
    exact lc_37 S0 hK hX hAX hsc hL hq hrb hbx hbm hcl h1 kk
  · obtain ⟨z, h1, rfl⟩ := hf
    exact sw_38 S0 hK hX hAX hsc hL hq hrb hbx hbm hcl cx (by have := tsn hg hx; omega) h1 kk
set_option maxHeartbeats 4000000 in
set_option maxRecDepth 100000 in
theorem sw_36 {p : Program} {l : Launch} {e0 : Env} {s : State} {m : MethodId} {args : Array Value} {below : List Frame} {meth : Method} {c : Code} {cells slots : Nat} {Q : State → Prop} {cA : Nat → ClassId} {D : va_G} {N : Nat} {ad : Nat → Nat} {T : Knd} {A : Rfs} {nx : Nat} {I : Mem} {sx : Sx} {b L wx wm q : Nat} {xs : Nat → Int32} (S0 : CallFix p m c code 4 s args gT RL) (hK : va_K D vwCl (tyl cA) s) (hX : XX sx N s) (hAX : AX s) (hsc : SC N b L xs s) (hL : L ≤ 3072) (hq : q + 6 ≤ L) (hrb : RB A nx) (hbx : 1 ≤ wx ∧ wx ≤ nx) (hbm : 1 ≤ wm ∧ wm ≤ nx) (hcl : cells + 21 ≤ 600000 ∧ slots + 191 ≤ 7302250) {S2 : St} {x : Int} (cx : cn x) (hg : x < 0 ∨ (36 : Int) - 1 < x) (hs : lst_36 wx wm x (xs (q + 1)).toInt (xs (q + 2)).toInt (xs (q + 3)).toInt (xs (q + 4)).toInt (xs (q + 5)).toInt T A nx I = some S2) (kk : ∀ (ad1 : Nat → Nat) (c2 s2 : Nat), (∀ i, i ≤ nx → ad1 i = ad i) → c2 ≤ cells + 21 → s2 ≤ slots + 191 → nx ≤ S2.2.2.1 → RB S2.2.1 S2.2.2.1 → G p l e0 room_1 s m args below meth c c2 s2 Q cA D N 4 ad1 S2.1 S2.2.1 S2.2.2.1 1965 [(0, .ref b), (1, rv ad1 wx), (2, rv ad1 wm), (3, iv (q : Int))] [] S2.2.2.2) : G p l e0 room_1 s m args below meth c cells slots Q cA D N 4 ad T A nx 33 [(0, .ref b), (1, rv ad wx), (2, rv ad wm), (3, iv (q : Int))] [iv x] I := by
  have hf : OK (lst_36 wx wm x (xs (q + 1)).toInt (xs (q + 2)).toInt (xs (q + 3)).toInt (xs (q + 4)).toInt (xs (q + 5)).toInt T A nx I) (fun z => z = S2) := ⟨S2, hs, rfl⟩
  unfold lst_36 at hf
  refine r_tsw (pc := 33) 36 1078 S0 36 dL_law_33 cx rfl (by decide) rfl (by decide) hf (fun hf => ?_) (fun hx hf => ?_)
  · obtain ⟨z, h1, rfl⟩ := hf
    exact lc_36 S0 hK hX hAX hsc hL hq hrb hbx hbm hcl h1 kk
  · obtain ⟨z, h1, rfl⟩ := hf
    exact sw_37 S0 hK hX hAX hsc hL hq hrb hbx hbm hcl cx (by have := tsn hg hx; omega) h1 kk
set_option maxHeartbeats 4000000 in
set_option maxRecDepth 100000 in
theorem sw_35 {p : Program} {l : Launch} {e0 : Env} {s : State} {m : MethodId} {args : Array Value} {below : List Frame} {meth : Method} {c : Code} {cells slots : Nat} {Q : State → Prop} {cA : Nat → ClassId} {D : va_G} {N : Nat} {ad : Nat → Nat} {T : Knd} {A : Rfs} {nx : Nat} {I : Mem} {sx : Sx} {b L wx wm q : Nat} {xs : Nat → Int32} (S0 : CallFix p m c code 4 s args gT RL) (hK : va_K D vwCl (tyl cA) s) (hX : XX sx N s) (hAX : AX s) (hsc : SC N b L xs s) (hL : L ≤ 3072) (hq : q + 6 ≤ L) (hrb : RB A nx) (hbx : 1 ≤ wx ∧ wx ≤ nx) (hbm : 1 ≤ wm ∧ wm ≤ nx) (hcl : cells + 21 ≤ 600000 ∧ slots + 191 ≤ 7302250) {S2 : St} {x : Int} (cx : cn x) (hg : x < 0 ∨ (35 : Int) - 1 < x) (hs : lst_35 wx wm x (xs (q + 1)).toInt (xs (q + 2)).toInt (xs (q + 3)).toInt (xs (q + 4)).toInt (xs (q + 5)).toInt T A nx I = some S2) (kk : ∀ (ad1 : Nat → Nat) (c2 s2 : Nat), (∀ i, i ≤ nx → ad1 i = ad i) → c2 ≤ cells + 21 → s2 ≤ slots + 191 → nx ≤ S2.2.2.1 → RB S2.2.1 S2.2.2.1 → G p l e0 room_1 s m args below meth c c2 s2 Q cA D N 4 ad1 S2.1 S2.2.1 S2.2.2.1 1965 [(0, .ref b), (1, rv ad1 wx), (2, rv ad1 wm), (3, iv (q : Int))] [] S2.2.2.2) : G p l e0 room_1 s m args below meth c cells slots Q cA D N 4 ad T A nx 33 [(0, .ref b), (1, rv ad wx), (2, rv ad wm), (3, iv (q : Int))] [iv x] I := by
  have hf : OK (lst_35 wx wm x (xs (q + 1)).toInt (xs (q + 2)).toInt (xs (q + 3)).toInt (xs (q + 4)).toInt (xs (q + 5)).toInt T A nx I) (fun z => z = S2) := ⟨S2, hs, rfl⟩
  unfold lst_35 at hf
  refine r_tsw (pc := 33) 35 1055 S0 35 dL_law_33 cx rfl (by decide) rfl (by decide) hf (fun hf => ?_) (fun hx hf => ?_)
  · obtain ⟨z, h1, rfl⟩ := hf
    exact lc_35 S0 hK hX hAX hsc hL hq hrb hbx hbm hcl h1 kk
  · obtain ⟨z, h1, rfl⟩ := hf
    exact sw_36 S0 hK hX hAX hsc hL hq hrb hbx hbm hcl cx (by have := tsn hg hx; omega) h1 kk
set_option maxHeartbeats 4000000 in
set_option maxRecDepth 100000 in
theorem sw_34 {p : Program} {l : Launch} {e0 : Env} {s : State} {m : MethodId} {args : Array Value} {below : List Frame} {meth : Method} {c : Code} {cells slots : Nat} {Q : State → Prop} {cA : Nat → ClassId} {D : va_G} {N : Nat} {ad : Nat → Nat} {T : Knd} {A : Rfs} {nx : Nat} {I : Mem} {sx : Sx} {b L wx wm q : Nat} {xs : Nat → Int32} (S0 : CallFix p m c code 4 s args gT RL) (hK : va_K D vwCl (tyl cA) s) (hX : XX sx N s) (hAX : AX s) (hsc : SC N b L xs s) (hL : L ≤ 3072) (hq : q + 6 ≤ L) (hrb : RB A nx) (hbx : 1 ≤ wx ∧ wx ≤ nx) (hbm : 1 ≤ wm ∧ wm ≤ nx) (hcl : cells + 21 ≤ 600000 ∧ slots + 191 ≤ 7302250) {S2 : St} {x : Int} (cx : cn x) (hg : x < 0 ∨ (34 : Int) - 1 < x) (hs : lst_34 wx wm x (xs (q + 1)).toInt (xs (q + 2)).toInt (xs (q + 3)).toInt (xs (q + 4)).toInt (xs (q + 5)).toInt T A nx I = some S2) (kk : ∀ (ad1 : Nat → Nat) (c2 s2 : Nat), (∀ i, i ≤ nx → ad1 i = ad i) → c2 ≤ cells + 21 → s2 ≤ slots + 191 → nx ≤ S2.2.2.1 → RB S2.2.1 S2.2.2.1 → G p l e0 room_1 s m args below meth c c2 s2 Q cA D N 4 ad1 S2.1 S2.2.1 S2.2.2.1 1965 [(0, .ref b), (1, rv ad1 wx), (2, rv ad1 wm), (3, iv (q : Int))] [] S2.2.2.2) : G p l e0 room_1 s m args below meth c cells slots Q cA D N 4 ad T A nx 33 [(0, .ref b), (1, rv ad wx), (2, rv ad wm), (3, iv (q : Int))] [iv x] I := by
  have hf : OK (lst_34 wx wm x (xs (q + 1)).toInt (xs (q + 2)).toInt (xs (q + 3)).toInt (xs (q + 4)).toInt (xs (q + 5)).toInt T A nx I) (fun z => z = S2) := ⟨S2, hs, rfl⟩
  unfold lst_34 at hf
  refine r_tsw (pc := 33) 34 1042 S0 34 dL_law_33 cx rfl (by decide) rfl (by decide) hf (fun hf => ?_) (fun hx hf => ?_)
  · obtain ⟨z, h1, rfl⟩ := hf
    exact lc_34 S0 hK hX hAX hsc hL hq hrb hbx hbm hcl h1 kk
  · obtain ⟨z, h1, rfl⟩ := hf
    exact sw_35 S0 hK hX hAX hsc hL hq hrb hbx hbm hcl cx (by have := tsn hg hx; omega) h1 kk
set_option maxHeartbeats 4000000 in
set_option maxRecDepth 100000 in
theorem sw_33 {p : Program} {l : Launch} {e0 : Env} {s : State} {m : MethodId} {args : Array Value} {below : List Frame} {meth : Method} {c : Code} {cells slots : Nat} {Q : State → Prop} {cA : Nat → ClassId} {D : va_G} {N : Nat} {ad : Nat → Nat} {T : Knd} {A : Rfs} {nx : Nat} {I : Mem} {sx : Sx} {b L wx wm q : Nat} {xs : Nat → Int32} (S0 : CallFix p m c code 4 s args gT RL) (hK : va_K D vwCl (tyl cA) s) (hX : XX sx N s) (hAX : AX s) (hsc : SC N b L xs s) (hL : L ≤ 3072) (hq : q + 6 ≤ L) (hrb : RB A nx) (hbx : 1 ≤ wx ∧ wx ≤ nx) (hbm : 1 ≤ wm ∧ wm ≤ nx) (hcl : cells + 21 ≤ 600000 ∧ slots + 191 ≤ 7302250) {S2 : St} {x : Int} (cx : cn x) (hg : x < 0 ∨ (33 : Int) - 1 < x) (hs : lst_33 wx wm x (xs (q + 1)).toInt (xs (q + 2)).toInt (xs (q + 3)).toInt (xs (q + 4)).toInt (xs (q + 5)).toInt T A nx I = some S2) (kk : ∀ (ad1 : Nat → Nat) (c2 s2 : Nat), (∀ i, i ≤ nx → ad1 i = ad i) → c2 ≤ cells + 21 → s2 ≤ slots + 191 → nx ≤ S2.2.2.1 → RB S2.2.1 S2.2.2.1 → G p l e0 room_1 s m args below meth c c2 s2 Q cA D N 4 ad1 S2.1 S2.2.1 S2.2.2.1 1965 [(0, .ref b), (1, rv ad1 wx), (2, rv ad1 wm), (3, iv (q : Int))] [] S2.2.2.2) : G p l e0 room_1 s m args below meth c cells slots Q cA D N 4 ad T A nx 33 [(0, .ref b), (1, rv ad wx), (2, rv ad wm), (3, iv (q : Int))] [iv x] I := by
  have hf : OK (lst_33 wx wm x (xs (q + 1)).toInt (xs (q + 2)).toInt (xs (q + 3)).toInt (xs (q + 4)).toInt (xs (q + 5)).toInt T A nx I) (fun z => z = S2) := ⟨S2, hs, rfl⟩
  unfold lst_33 at hf
  refine r_tsw (pc := 33) 33 1029 S0 33 dL_law_33 cx rfl (by decide) rfl (by decide) hf (fun hf => ?_) (fun hx hf => ?_)
  · obtain ⟨z, h1, rfl⟩ := hf
    exact lc_33 S0 hK hX hAX hsc hL hq hrb hbx hbm hcl h1 kk
  · obtain ⟨z, h1, rfl⟩ := hf
    exact sw_34 S0 hK hX hAX hsc hL hq hrb hbx hbm hcl cx (by have := tsn hg hx; omega) h1 kk
set_option maxHeartbeats 4000000 in
set_option maxRecDepth 100000 in
theorem sw_32 {p : Program} {l : Launch} {e0 : Env} {s : State} {m : MethodId} {args : Array Value} {below : List Frame} {meth : Method} {c : Code} {cells slots : Nat} {Q : State → Prop} {cA : Nat → ClassId} {D : va_G} {N : Nat} {ad : Nat → Nat} {T : Knd} {A : Rfs} {nx : Nat} {I : Mem} {sx : Sx} {b L wx wm q : Nat} {xs : Nat → Int32} (S0 : CallFix p m c code 4 s args gT RL) (hK : va_K D vwCl (tyl cA) s) (hX : XX sx N s) (hAX : AX s) (hsc : SC N b L xs s) (hL : L ≤ 3072) (hq : q + 6 ≤ L) (hrb : RB A nx) (hbx : 1 ≤ wx ∧ wx ≤ nx) (hbm : 1 ≤ wm ∧ wm ≤ nx) (hcl : cells + 21 ≤ 600000 ∧ slots + 191 ≤ 7302250) {S2 : St} {x : Int} (cx : cn x) (hg : x < 0 ∨ (32 : Int) - 1 < x) (hs : lst_32 wx wm x (xs (q + 1)).toInt (xs (q + 2)).toInt (xs (q + 3)).toInt (xs (q + 4)).toInt (xs (q + 5)).toInt T A nx I = some S2) (kk : ∀ (ad1 : Nat → Nat) (c2 s2 : Nat), (∀ i, i ≤ nx → ad1 i = ad i) → c2 ≤ cells + 21 → s2 ≤ slots + 191 → nx ≤ S2.2.2.1 → RB S2.2.1 S2.2.2.1 → G p l e0 room_1 s m args below meth c c2 s2 Q cA D N 4 ad1 S2.1 S2.2.1 S2.2.2.1 1965 [(0, .ref b), (1, rv ad1 wx), (2, rv ad1 wm), (3, iv (q : Int))] [] S2.2.2.2) : G p l e0 room_1 s m args below meth c cells slots Q cA D N 4 ad T A nx 33 [(0, .ref b), (1, rv ad wx), (2, rv ad wm), (3, iv (q : Int))] [iv x] I := by
  have hf : OK (lst_32 wx wm x (xs (q + 1)).toInt (xs (q + 2)).toInt (xs (q + 3)).toInt (xs (q + 4)).toInt (xs (q + 5)).toInt T A nx I) (fun z => z = S2) := ⟨S2, hs, rfl⟩
  unfold lst_32 at hf
  refine r_tsw (pc := 33) 32 1016 S0 32 dL_law_33 cx rfl (by decide) rfl (by decide) hf (fun hf => ?_) (fun hx hf => ?_)
  · obtain ⟨z, h1, rfl⟩ := hf
    exact lc_32 S0 hK hX hAX hsc hL hq hrb hbx hbm hcl h1 kk
  · obtain ⟨z, h1, rfl⟩ := hf
    exact sw_33 S0 hK hX hAX hsc hL hq hrb hbx hbm hcl cx (by have := tsn hg hx; omega) h1 kk
set_option maxHeartbeats 4000000 in
set_option maxRecDepth 100000 in
theorem sw_31 {p : Program} {l : Launch} {e0 : Env} {s : State} {m : MethodId} {args : Array Value} {below : List Frame} {meth : Method} {c : Code} {cells slots : Nat} {Q : State → Prop} {cA : Nat → ClassId} {D : va_G} {N : Nat} {ad : Nat → Nat} {T : Knd} {A : Rfs} {nx : Nat} {I : Mem} {sx : Sx} {b L wx wm q : Nat} {xs : Nat → Int32} (S0 : CallFix p m c code 4 s args gT RL) (hK : va_K D vwCl (tyl cA) s) (hX : XX sx N s) (hAX : AX s) (hsc : SC N b L xs s) (hL : L ≤ 3072) (hq : q + 6 ≤ L) (hrb : RB A nx) (hbx : 1 ≤ wx ∧ wx ≤ nx) (hbm : 1 ≤ wm ∧ wm ≤ nx) (hcl : cells + 21 ≤ 600000 ∧ slots + 191 ≤ 7302250) {S2 : St} {x : Int} (cx : cn x) (hg : x < 0 ∨ (31 : Int) - 1 < x) (hs : lst_31 wx wm x (xs (q + 1)).toInt (xs (q + 2)).toInt (xs (q + 3)).toInt (xs (q + 4)).toInt (xs (q + 5)).toInt T A nx I = some S2) (kk : ∀ (ad1 : Nat → Nat) (c2 s2 : Nat), (∀ i, i ≤ nx → ad1 i = ad i) → c2 ≤ cells + 21 → s2 ≤ slots + 191 → nx ≤ S2.2.2.1 → RB S2.2.1 S2.2.2.1 → G p l e0 room_1 s m args below meth c c2 s2 Q cA D N 4 ad1 S2.1 S2.2.1 S2.2.2.1 1965 [(0, .ref b), (1, rv ad1 wx), (2, rv ad1 wm), (3, iv (q : Int))] [] S2.2.2.2) : G p l e0 room_1 s m args below meth c cells slots Q cA D N 4 ad T A nx 33 [(0, .ref b), (1, rv ad wx), (2, rv ad wm), (3, iv (q : Int))] [iv x] I := by
  have hf : OK (lst_31 wx wm x (xs (q + 1)).toInt (xs (q + 2)).toInt (xs (q + 3)).toInt (xs (q + 4)).toInt (xs (q + 5)).toInt T A nx I) (fun z => z = S2) := ⟨S2, hs, rfl⟩
  unfold lst_31 at hf
  refine r_tsw (pc := 33) 31 993 S0 31 dL_law_33 cx rfl (by decide) rfl (by decide) hf (fun hf => ?_) (fun hx hf => ?_)
  · obtain ⟨z, h1, rfl⟩ := hf
    exact lc_31 S0 hK hX hAX hsc hL hq hrb hbx hbm hcl h1 kk
  · obtain ⟨z, h1, rfl⟩ := hf
    exact sw_32 S0 hK hX hAX hsc hL hq hrb hbx hbm hcl cx (by have := tsn hg hx; omega) h1 kk
set_option maxHeartbeats 4000000 in
set_option maxRecDepth 100000 in
theorem sw_30 {p : Program} {l : Launch} {e0 : Env} {s : State} {m : MethodId} {args : Array Value} {below : List Frame} {meth : Method} {c : Code} {cells slots : Nat} {Q : State → Prop} {cA : Nat → ClassId} {D : va_G} {N : Nat} {ad : Nat → Nat} {T : Knd} {A : Rfs} {nx : Nat} {I : Mem} {sx : Sx} {b L wx wm q : Nat} {xs : Nat → Int32} (S0 : CallFix p m c code 4 s args gT RL) (hK : va_K D vwCl (tyl cA) s) (hX : XX sx N s) (hAX : AX s) (hsc : SC N b L xs s) (hL : L ≤ 3072) (hq : q + 6 ≤ L) (hrb : RB A nx) (hbx : 1 ≤ wx ∧ wx ≤ nx) (hbm : 1 ≤ wm ∧ wm ≤ nx) (hcl : cells + 21 ≤ 600000 ∧ slots + 191 ≤ 7302250) {S2 : St} {x : Int} (cx : cn x) (hg : x < 0 ∨ (30 : Int) - 1 < x) (hs : lst_30 wx wm x (xs (q + 1)).toInt (xs (q + 2)).toInt (xs (q + 3)).toInt (xs (q + 4)).toInt (xs (q + 5)).toInt T A nx I = some S2) (kk : ∀ (ad1 : Nat → Nat) (c2 s2 : Nat), (∀ i, i ≤ nx → ad1 i = ad i) → c2 ≤ cells + 21 → s2 ≤ slots + 191 → nx ≤ S2.2.2.1 → RB S2.2.1 S2.2.2.1 → G p l e0 room_1 s m args below meth c c2 s2 Q cA D N 4 ad1 S2.1 S2.2.1 S2.2.2.1 1965 [(0, .ref b), (1, rv ad1 wx), (2, rv ad1 wm), (3, iv (q : Int))] [] S2.2.2.2) : G p l e0 room_1 s m args below meth c cells slots Q cA D N 4 ad T A nx 33 [(0, .ref b), (1, rv ad wx), (2, rv ad wm), (3, iv (q : Int))] [iv x] I := by
  have hf : OK (lst_30 wx wm x (xs (q + 1)).toInt (xs (q + 2)).toInt (xs (q + 3)).toInt (xs (q + 4)).toInt (xs (q + 5)).toInt T A nx I) (fun z => z = S2) := ⟨S2, hs, rfl⟩
  unfold lst_30 at hf
  refine r_tsw (pc := 33) 30 980 S0 30 dL_law_33 cx rfl (by decide) rfl (by decide) hf (fun hf => ?_) (fun hx hf => ?_)
  · obtain ⟨z, h1, rfl⟩ := hf
    exact lc_30 S0 hK hX hAX hsc hL hq hrb hbx hbm hcl h1 kk
  · obtain ⟨z, h1, rfl⟩ := hf
    exact sw_31 S0 hK hX hAX hsc hL hq hrb hbx hbm hcl cx (by have := tsn hg hx; omega) h1 kk
set_option maxHeartbeats 4000000 in
set_option maxRecDepth 100000 in
theorem sw_29 {p : Program} {l : Launch} {e0 : Env} {s : State} {m : MethodId} {args : Array Value} {below : List Frame} {meth : Method} {c : Code} {cells slots : Nat} {Q : State → Prop} {cA : Nat → ClassId} {D : va_G} {N : Nat} {ad : Nat → Nat} {T : Knd} {A : Rfs} {nx : Nat} {I : Mem} {sx : Sx} {b L wx wm q : Nat} {xs : Nat → Int32} (S0 : CallFix p m c code 4 s args gT RL) (hK : va_K D vwCl (tyl cA) s) (hX : XX sx N s) (hAX : AX s) (hsc : SC N b L xs s) (hL : L ≤ 3072) (hq : q + 6 ≤ L) (hrb : RB A nx) (hbx : 1 ≤ wx ∧ wx ≤ nx) (hbm : 1 ≤ wm ∧ wm ≤ nx) (hcl : cells + 21 ≤ 600000 ∧ slots + 191 ≤ 7302250) {S2 : St} {x : Int} (cx : cn x) (hg : x < 0 ∨ (29 : Int) - 1 < x) (hs : lst_29 wx wm x (xs (q + 1)).toInt (xs (q + 2)).toInt (xs (q + 3)).toInt (xs (q + 4)).toInt (xs (q + 5)).toInt T A nx I = some S2) (kk : ∀ (ad1 : Nat → Nat) (c2 s2 : Nat), (∀ i, i ≤ nx → ad1 i = ad i) → c2 ≤ cells + 21 → s2 ≤ slots + 191 → nx ≤ S2.2.2.1 → RB S2.2.1 S2.2.2.1 → G p l e0 room_1 s m args below meth c c2 s2 Q cA D N 4 ad1 S2.1 S2.2.1 S2.2.2.1 1965 [(0, .ref b), (1, rv ad1 wx), (2, rv ad1 wm), (3, iv (q : Int))] [] S2.2.2.2) : G p l e0 room_1 s m args below meth c cells slots Q cA D N 4 ad T A nx 33 [(0, .ref b), (1, rv ad wx), (2, rv ad wm), (3, iv (q : Int))] [iv x] I := by
  have hf : OK (lst_29 wx wm x (xs (q + 1)).toInt (xs (q + 2)).toInt (xs (q + 3)).toInt (xs (q + 4)).toInt (xs (q + 5)).toInt T A nx I) (fun z => z = S2) := ⟨S2, hs, rfl⟩
  unfold lst_29 at hf
  refine r_tsw (pc := 33) 29 967 S0 29 dL_law_33 cx rfl (by decide) rfl (by decide) hf (fun hf => ?_) (fun hx hf => ?_)
  · obtain ⟨z, h1, rfl⟩ := hf
    exact lc_29 S0 hK hX hAX hsc hL hq hrb hbx hbm hcl h1 kk
  · obtain ⟨z, h1, rfl⟩ := hf
    exact sw_30 S0 hK hX hAX hsc hL hq hrb hbx hbm hcl cx (by have := tsn hg hx; omega) h1 kk
set_option maxHeartbeats 4000000 in
set_option maxRecDepth 100000 in
theorem sw_28 {p : Program} {l : Launch} {e0 : Env} {s : State} {m : MethodId} {args : Array Value} {below : List Frame} {meth : Method} {c : Code} {cells slots : Nat} {Q : State → Prop} {cA : Nat → ClassId} {D : va_G} {N : Nat} {ad : Nat → Nat} {T : Knd} {A : Rfs} {nx : Nat} {I : Mem} {sx : Sx} {b L wx wm q : Nat} {xs : Nat → Int32} (S0 : CallFix p m c code 4 s args gT RL) (hK : va_K D vwCl (tyl cA) s) (hX : XX sx N s) (hAX : AX s) (hsc : SC N b L xs s) (hL : L ≤ 3072) (hq : q + 6 ≤ L) (hrb : RB A nx) (hbx : 1 ≤ wx ∧ wx ≤ nx) (hbm : 1 ≤ wm ∧ wm ≤ nx) (hcl : cells + 21 ≤ 600000 ∧ slots + 191 ≤ 7302250) {S2 : St} {x : Int} (cx : cn x) (hg : x < 0 ∨ (28 : Int) - 1 < x) (hs : lst_28 wx wm x (xs (q + 1)).toInt (xs (q + 2)).toInt (xs (q + 3)).toInt (xs (q + 4)).toInt (xs (q + 5)).toInt T A nx I = some S2) (kk : ∀ (ad1 : Nat → Nat) (c2 s2 : Nat), (∀ i, i ≤ nx → ad1 i = ad i) → c2 ≤ cells + 21 → s2 ≤ slots + 191 → nx ≤ S2.2.2.1 → RB S2.2.1 S2.2.2.1 → G p l e0 room_1 s m args below meth c c2 s2 Q cA D N 4 ad1 S2.1 S2.2.1 S2.2.2.1 1965 [(0, .ref b), (1, rv ad1 wx), (2, rv ad1 wm), (3, iv (q : Int))] [] S2.2.2.2) : G p l e0 room_1 s m args below meth c cells slots Q cA D N 4 ad T A nx 33 [(0, .ref b), (1, rv ad wx), (2, rv ad wm), (3, iv (q : Int))] [iv x] I := by
  have hf : OK (lst_28 wx wm x (xs (q + 1)).toInt (xs (q + 2)).toInt (xs (q + 3)).toInt (xs (q + 4)).toInt (xs (q + 5)).toInt T A nx I) (fun z => z = S2) := ⟨S2, hs, rfl⟩
  unfold lst_28 at hf
  refine r_tsw (pc := 33) 28 944 S0 28 dL_law_33 cx rfl (by decide) rfl (by decide) hf (fun hf => ?_) (fun hx hf => ?_)
  · obtain ⟨z, h1, rfl⟩ := hf
    exact lc_28 S0 hK hX hAX hsc hL hq hrb hbx hbm hcl h1 kk
  · obtain ⟨z, h1, rfl⟩ := hf
    exact sw_29 S0 hK hX hAX hsc hL hq hrb hbx hbm hcl cx (by have := tsn hg hx; omega) h1 kk
set_option maxHeartbeats 4000000 in
set_option maxRecDepth 100000 in
theorem sw_27 {p : Program} {l : Launch} {e0 : Env} {s : State} {m : MethodId} {args : Array Value} {below : List Frame} {meth : Method} {c : Code} {cells slots : Nat} {Q : State → Prop} {cA : Nat → ClassId} {D : va_G} {N : Nat} {ad : Nat → Nat} {T : Knd} {A : Rfs} {nx : Nat} {I : Mem} {sx : Sx} {b L wx wm q : Nat} {xs : Nat → Int32} (S0 : CallFix p m c code 4 s args gT RL) (hK : va_K D vwCl (tyl cA) s) (hX : XX sx N s) (hAX : AX s) (hsc : SC N b L xs s) (hL : L ≤ 3072) (hq : q + 6 ≤ L) (hrb : RB A nx) (hbx : 1 ≤ wx ∧ wx ≤ nx) (hbm : 1 ≤ wm ∧ wm ≤ nx) (hcl : cells + 21 ≤ 600000 ∧ slots + 191 ≤ 7302250) {S2 : St} {x : Int} (cx : cn x) (hg : x < 0 ∨ (27 : Int) - 1 < x) (hs : lst_27 wx wm x (xs (q + 1)).toInt (xs (q + 2)).toInt (xs (q + 3)).toInt (xs (q + 4)).toInt (xs (q + 5)).toInt T A nx I = some S2) (kk : ∀ (ad1 : Nat → Nat) (c2 s2 : Nat), (∀ i, i ≤ nx → ad1 i = ad i) → c2 ≤ cells + 21 → s2 ≤ slots + 191 → nx ≤ S2.2.2.1 → RB S2.2.1 S2.2.2.1 → G p l e0 room_1 s m args below meth c c2 s2 Q cA D N 4 ad1 S2.1 S2.2.1 S2.2.2.1 1965 [(0, .ref b), (1, rv ad1 wx), (2, rv ad1 wm), (3, iv (q : Int))] [] S2.2.2.2) : G p l e0 room_1 s m args below meth c cells slots Q cA D N 4 ad T A nx 33 [(0, .ref b), (1, rv ad wx), (2, rv ad wm), (3, iv (q : Int))] [iv x] I := by
  have hf : OK (lst_27 wx wm x (xs (q + 1)).toInt (xs (q + 2)).toInt (xs (q + 3)).toInt (xs (q + 4)).toInt (xs (q + 5)).toInt T A nx I) (fun z => z = S2) := ⟨S2, hs, rfl⟩
  unfold lst_27 at hf
  refine r_tsw (pc := 33) 27 931 S0 27 dL_law_33 cx rfl (by decide) rfl (by decide) hf (fun hf => ?_) (fun hx hf => ?_)
  · obtain ⟨z, h1, rfl⟩ := hf
    exact lc_27 S0 hK hX hAX hsc hL hq hrb hbx hbm hcl h1 kk
  · obtain ⟨z, h1, rfl⟩ := hf
    exact sw_28 S0 hK hX hAX hsc hL hq hrb hbx hbm hcl cx (by have := tsn hg hx; omega) h1 kk
set_option maxHeartbeats 4000000 in
set_option maxRecDepth 100000 in
theorem sw_26 {p : Program} {l : Launch} {e0 : Env} {s : State} {m : MethodId} {args : Array Value} {below : List Frame} {meth : Method} {c : Code} {cells slots : Nat} {Q : State → Prop} {cA : Nat → ClassId} {D : va_G} {N : Nat} {ad : Nat → Nat} {T : Knd} {A : Rfs} {nx : Nat} {I : Mem} {sx : Sx} {b L wx wm q : Nat} {xs : Nat → Int32} (S0 : CallFix p m c code 4 s args gT RL) (hK : va_K D vwCl (tyl cA) s) (hX : XX sx N s) (hAX : AX s) (hsc : SC N b L xs s) (hL : L ≤ 3072) (hq : q + 6 ≤ L) (hrb : RB A nx) (hbx : 1 ≤ wx ∧ wx ≤ nx) (hbm : 1 ≤ wm ∧ wm ≤ nx) (hcl : cells + 21 ≤ 600000 ∧ slots + 191 ≤ 7302250) {S2 : St} {x : Int} (cx : cn x) (hg : x < 0 ∨ (26 : Int) - 1 < x) (hs : lst_26 wx wm x (xs (q + 1)).toInt (xs (q + 2)).toInt (xs (q + 3)).toInt (xs (q + 4)).toInt (xs (q + 5)).toInt T A nx I = some S2) (kk : ∀ (ad1 : Nat → Nat) (c2 s2 : Nat), (∀ i, i ≤ nx → ad1 i = ad i) → c2 ≤ cells + 21 → s2 ≤ slots + 191 → nx ≤ S2.2.2.1 → RB S2.2.1 S2.2.2.1 → G p l e0 room_1 s m args below meth c c2 s2 Q cA D N 4 ad1 S2.1 S2.2.1 S2.2.2.1 1965 [(0, .ref b), (1, rv ad1 wx), (2, rv ad1 wm), (3, iv (q : Int))] [] S2.2.2.2) : G p l e0 room_1 s m args below meth c cells slots Q cA D N 4 ad T A nx 33 [(0, .ref b), (1, rv ad wx), (2, rv ad wm), (3, iv (q : Int))] [iv x] I := by
  have hf : OK (lst_26 wx wm x (xs (q + 1)).toInt (xs (q + 2)).toInt (xs (q + 3)).toInt (xs (q + 4)).toInt (xs (q + 5)).toInt T A nx I) (fun z => z = S2) := ⟨S2, hs, rfl⟩
  unfold lst_26 at hf
  refine r_tsw (pc := 33) 26 918 S0 26 dL_law_33 cx rfl (by decide) rfl (by decide) hf (fun hf => ?_) (fun hx hf => ?_)
  · obtain ⟨z, h1, rfl⟩ := hf
    exact lc_26 S0 hK hX hAX hsc hL hq hrb hbx hbm hcl h1 kk
  · obtain ⟨z, h1, rfl⟩ := hf
    exact sw_27 S0 hK hX hAX hsc hL hq hrb hbx hbm hcl cx (by have := tsn hg hx; omega) h1 kk
set_option maxHeartbeats 4000000 in
set_option maxRecDepth 100000 in
theorem sw_25 {p : Program} {l : Launch} {e0 : Env} {s : State} {m : MethodId} {args : Array Value} {below : List Frame} {meth : Method} {c : Code} {cells slots : Nat} {Q : State → Prop} {cA : Nat → ClassId} {D : va_G} {N : Nat} {ad : Nat → Nat} {T : Knd} {A : Rfs} {nx : Nat} {I : Mem} {sx : Sx} {b L wx wm q : Nat} {xs : Nat → Int32} (S0 : CallFix p m c code 4 s args gT RL) (hK : va_K D vwCl (tyl cA) s) (hX : XX sx N s) (hAX : AX s) (hsc : SC N b L xs s) (hL : L ≤ 3072) (hq : q + 6 ≤ L) (hrb : RB A nx) (hbx : 1 ≤ wx ∧ wx ≤ nx) (hbm : 1 ≤ wm ∧ wm ≤ nx) (hcl : cells + 21 ≤ 600000 ∧ slots + 191 ≤ 7302250) {S2 : St} {x : Int} (cx : cn x) (hg : x < 0 ∨ (25 : Int) - 1 < x) (hs : lst_25 wx wm x (xs (q + 1)).toInt (xs (q + 2)).toInt (xs (q + 3)).toInt (xs (q + 4)).toInt (xs (q + 5)).toInt T A nx I = some S2) (kk : ∀ (ad1 : Nat → Nat) (c2 s2 : Nat), (∀ i, i ≤ nx → ad1 i = ad i) → c2 ≤ cells + 21 → s2 ≤ slots + 191 → nx ≤ S2.2.2.1 → RB S2.2.1 S2.2.2.1 → G p l e0 room_1 s m args below meth c c2 s2 Q cA D N 4 ad1 S2.1 S2.2.1 S2.2.2.1 1965 [(0, .ref b), (1, rv ad1 wx), (2, rv ad1 wm), (3, iv (q : Int))] [] S2.2.2.2) : G p l e0 room_1 s m args below meth c cells slots Q cA D N 4 ad T A nx 33 [(0, .ref b), (1, rv ad wx), (2, rv ad wm), (3, iv (q : Int))] [iv x] I := by
  have hf : OK (lst_25 wx wm x (xs (q + 1)).toInt (xs (q + 2)).toInt (xs (q + 3)).toInt (xs (q + 4)).toInt (xs (q + 5)).toInt T A nx I) (fun z => z = S2) := ⟨S2, hs, rfl⟩
  unfold lst_25 at hf
  refine r_tsw (pc := 33) 25 905 S0 25 dL_law_33 cx rfl (by decide) rfl (by decide) hf (fun hf => ?_) (fun hx hf => ?_)
  · obtain ⟨z, h1, rfl⟩ := hf
    exact lc_25 S0 hK hX hAX hsc hL hq hrb hbx hbm hcl h1 kk
  · obtain ⟨z, h1, rfl⟩ := hf
    exact sw_26 S0 hK hX hAX hsc hL hq hrb hbx hbm hcl cx (by have := tsn hg hx; omega) h1 kk
set_option maxHeartbeats 4000000 in
set_option maxRecDepth 100000 in
theorem sw_24 {p : Program} {l : Launch} {e0 : Env} {s : State} {m : MethodId} {args : Array Value} {below : List Frame} {meth : Method} {c : Code} {cells slots : Nat} {Q : State → Prop} {cA : Nat → ClassId} {D : va_G} {N : Nat} {ad : Nat → Nat} {T : Knd} {A : Rfs} {nx : Nat} {I : Mem} {sx : Sx} {b L wx wm q : Nat} {xs : Nat → Int32} (S0 : CallFix p m c code 4 s args gT RL) (hK : va_K D vwCl (tyl cA) s) (hX : XX sx N s) (hAX : AX s) (hsc : SC N b L xs s) (hL : L ≤ 3072) (hq : q + 6 ≤ L) (hrb : RB A nx) (hbx : 1 ≤ wx ∧ wx ≤ nx) (hbm : 1 ≤ wm ∧ wm ≤ nx) (hcl : cells + 21 ≤ 600000 ∧ slots + 191 ≤ 7302250) {S2 : St} {x : Int} (cx : cn x) (hg : x < 0 ∨ (24 : Int) - 1 < x) (hs : lst_24 wx wm x (xs (q + 1)).toInt (xs (q + 2)).toInt (xs (q + 3)).toInt (xs (q + 4)).toInt (xs (q + 5)).toInt T A nx I = some S2) (kk : ∀ (ad1 : Nat → Nat) (c2 s2 : Nat), (∀ i, i ≤ nx → ad1 i = ad i) → c2 ≤ cells + 21 → s2 ≤ slots + 191 → nx ≤ S2.2.2.1 → RB S2.2.1 S2.2.2.1 → G p l e0 room_1 s m args below meth c c2 s2 Q cA D N 4 ad1 S2.1 S2.2.1 S2.2.2.1 1965 [(0, .ref b), (1, rv ad1 wx), (2, rv ad1 wm), (3, iv (q : Int))] [] S2.2.2.2) : G p l e0 room_1 s m args below meth c cells slots Q cA D N 4 ad T A nx 33 [(0, .ref b), (1, rv ad wx), (2, rv ad wm), (3, iv (q : Int))] [iv x] I := by
  have hf : OK (lst_24 wx wm x (xs (q + 1)).toInt (xs (q + 2)).toInt (xs (q + 3)).toInt (xs (q + 4)).toInt (xs (q + 5)).toInt T A nx I) (fun z => z = S2) := ⟨S2, hs, rfl⟩
  unfold lst_24 at hf
  refine r_tsw (pc := 33) 24 892 S0 24 dL_law_33 cx rfl (by decide) rfl (by decide) hf (fun hf => ?_) (fun hx hf => ?_)
  · obtain ⟨z, h1, rfl⟩ := hf
    exact lc_24 S0 hK hX hAX hsc hL hq hrb hbx hbm hcl h1 kk
  · obtain ⟨z, h1, rfl⟩ := hf
    exact sw_25 S0 hK hX hAX hsc hL hq hrb hbx hbm hcl cx (by have := tsn hg hx; omega) h1 kk
set_option maxHeartbeats 4000000 in
set_option maxRecDepth 100000 in
theorem sw_23 {p : Program} {l : Launch} {e0 : Env} {s : State} {m : MethodId} {args : Array Value} {below : List Frame} {meth : Method} {c : Code} {cells slots : Nat} {Q : State → Prop} {cA : Nat → ClassId} {D : va_G} {N : Nat} {ad : Nat → Nat} {T : Knd} {A : Rfs} {nx : Nat} {I : Mem} {sx : Sx} {b L wx wm q : Nat} {xs : Nat → Int32} (S0 : CallFix p m c code 4 s args gT RL) (hK : va_K D vwCl (tyl cA) s) (hX : XX sx N s) (hAX : AX s) (hsc : SC N b L xs s) (hL : L ≤ 3072) (hq : q + 6 ≤ L) (hrb : RB A nx) (hbx : 1 ≤ wx ∧ wx ≤ nx) (hbm : 1 ≤ wm ∧ wm ≤ nx) (hcl : cells + 21 ≤ 600000 ∧ slots + 191 ≤ 7302250) {S2 : St} {x : Int} (cx : cn x) (hg : x < 0 ∨ (23 : Int) - 1 < x) (hs : lst_23 wx wm x (xs (q + 1)).toInt (xs (q + 2)).toInt (xs (q + 3)).toInt (xs (q + 4)).toInt (xs (q + 5)).toInt T A nx I = some S2) (kk : ∀ (ad1 : Nat → Nat) (c2 s2 : Nat), (∀ i, i ≤ nx → ad1 i = ad i) → c2 ≤ cells + 21 → s2 ≤ slots + 191 → nx ≤ S2.2.2.1 → RB S2.2.1 S2.2.2.1 → G p l e0 room_1 s m args below meth c c2 s2 Q cA D N 4 ad1 S2.1 S2.2.1 S2.2.2.1 1965 [(0, .ref b), (1, rv ad1 wx), (2, rv ad1 wm), (3, iv (q : Int))] [] S2.2.2.2) : G p l e0 room_1 s m args below meth c cells slots Q cA D N 4 ad T A nx 33 [(0, .ref b), (1, rv ad wx), (2, rv ad wm), (3, iv (q : Int))] [iv x] I := by
  have hf : OK (lst_23 wx wm x (xs (q + 1)).toInt (xs (q + 2)).toInt (xs (q + 3)).toInt (xs (q + 4)).toInt (xs (q + 5)).toInt T A nx I) (fun z => z = S2) := ⟨S2, hs, rfl⟩
  unfold lst_23 at hf
  refine r_tsw (pc := 33) 23 869 S0 23 dL_law_33 cx rfl (by decide) rfl (by decide) hf (fun hf => ?_) (fun hx hf => ?_)
  · obtain ⟨z, h1, rfl⟩ := hf
    exact lc_23 S0 hK hX hAX hsc hL hq hrb hbx hbm hcl h1 kk
  · obtain ⟨z, h1, rfl⟩ := hf
    exact sw_24 S0 hK hX hAX hsc hL hq hrb hbx hbm hcl cx (by have := tsn hg hx; omega) h1 kk
set_option maxHeartbeats 4000000 in
set_option maxRecDepth 100000 in
theorem sw_22 {p : Program} {l : Launch} {e0 : Env} {s : State} {m : MethodId} {args : Array Value} {below : List Frame} {meth : Method} {c : Code} {cells slots : Nat} {Q : State → Prop} {cA : Nat → ClassId} {D : va_G} {N : Nat} {ad : Nat → Nat} {T : Knd} {A : Rfs} {nx : Nat} {I : Mem} {sx : Sx} {b L wx wm q : Nat} {xs : Nat → Int32} (S0 : CallFix p m c code 4 s args gT RL) (hK : va_K D vwCl (tyl cA) s) (hX : XX sx N s) (hAX : AX s) (hsc : SC N b L xs s) (hL : L ≤ 3072) (hq : q + 6 ≤ L) (hrb : RB A nx) (hbx : 1 ≤ wx ∧ wx ≤ nx) (hbm : 1 ≤ wm ∧ wm ≤ nx) (hcl : cells + 21 ≤ 600000 ∧ slots + 191 ≤ 7302250) {S2 : St} {x : Int} (cx : cn x) (hg : x < 0 ∨ (22 : Int) - 1 < x) (hs : lst_22 wx wm x (xs (q + 1)).toInt (xs (q + 2)).toInt (xs (q + 3)).toInt (xs (q + 4)).toInt (xs (q + 5)).toInt T A nx I = some S2) (kk : ∀ (ad1 : Nat → Nat) (c2 s2 : Nat), (∀ i, i ≤ nx → ad1 i = ad i) → c2 ≤ cells + 21 → s2 ≤ slots + 191 → nx ≤ S2.2.2.1 → RB S2.2.1 S2.2.2.1 → G p l e0 room_1 s m args below meth c c2 s2 Q cA D N 4 ad1 S2.1 S2.2.1 S2.2.2.1 1965 [(0, .ref b), (1, rv ad1 wx), (2, rv ad1 wm), (3, iv (q : Int))] [] S2.2.2.2) : G p l e0 room_1 s m args below meth c cells slots Q cA D N 4 ad T A nx 33 [(0, .ref b), (1, rv ad wx), (2, rv ad wm), (3, iv (q : Int))] [iv x] I := by
  have hf : OK (lst_22 wx wm x (xs (q + 1)).toInt (xs (q + 2)).toInt (xs (q + 3)).toInt (xs (q + 4)).toInt (xs (q + 5)).toInt T A nx I) (fun z => z = S2) := ⟨S2, hs, rfl⟩
  unfold lst_22 at hf
  refine r_tsw (pc := 33) 22 856 S0 22 dL_law_33 cx rfl (by decide) rfl (by decide) hf (fun hf => ?_) (fun hx hf => ?_)
  · obtain ⟨z, h1, rfl⟩ := hf
    exact lc_22 S0 hK hX hAX hsc hL hq hrb hbx hbm hcl h1 kk
  · obtain ⟨z, h1, rfl⟩ := hf
    exact sw_23 S0 hK hX hAX hsc hL hq hrb hbx hbm hcl cx (by have := tsn hg hx; omega) h1 kk
set_option maxHeartbeats 4000000 in
set_option maxRecDepth 100000 in
theorem sw_21 {p : Program} {l : Launch} {e0 : Env} {s : State} {m : MethodId} {args : Array Value} {below : List Frame} {meth : Method} {c : Code} {cells slots : Nat} {Q : State → Prop} {cA : Nat → ClassId} {D : va_G} {N : Nat} {ad : Nat → Nat} {T : Knd} {A : Rfs} {nx : Nat} {I : Mem} {sx : Sx} {b L wx wm q : Nat} {xs : Nat → Int32} (S0 : CallFix p m c code 4 s args gT RL) (hK : va_K D vwCl (tyl cA) s) (hX : XX sx N s) (hAX : AX s) (hsc : SC N b L xs s) (hL : L ≤ 3072) (hq : q + 6 ≤ L) (hrb : RB A nx) (hbx : 1 ≤ wx ∧ wx ≤ nx) (hbm : 1 ≤ wm ∧ wm ≤ nx) (hcl : cells + 21 ≤ 600000 ∧ slots + 191 ≤ 7302250) {S2 : St} {x : Int} (cx : cn x) (hg : x < 0 ∨ (21 : Int) - 1 < x) (hs : lst_21 wx wm x (xs (q + 1)).toInt (xs (q + 2)).toInt (xs (q + 3)).toInt (xs (q + 4)).toInt (xs (q + 5)).toInt T A nx I = some S2) (kk : ∀ (ad1 : Nat → Nat) (c2 s2 : Nat), (∀ i, i ≤ nx → ad1 i = ad i) → c2 ≤ cells + 21 → s2 ≤ slots + 191 → nx ≤ S2.2.2.1 → RB S2.2.1 S2.2.2.1 → G p l e0 room_1 s m args below meth c c2 s2 Q cA D N 4 ad1 S2.1 S2.2.1 S2.2.2.1 1965 [(0, .ref b), (1, rv ad1 wx), (2, rv ad1 wm), (3, iv (q : Int))] [] S2.2.2.2) : G p l e0 room_1 s m args below meth c cells slots Q cA D N 4 ad T A nx 33 [(0, .ref b), (1, rv ad wx), (2, rv ad wm), (3, iv (q : Int))] [iv x] I := by
  have hf : OK (lst_21 wx wm x (xs (q + 1)).toInt (xs (q + 2)).toInt (xs (q + 3)).toInt (xs (q + 4)).toInt (xs (q + 5)).toInt T A nx I) (fun z => z = S2) := ⟨S2, hs, rfl⟩
  unfold lst_21 at hf
  refine r_tsw (pc := 33) 21 843 S0 21 dL_law_33 cx rfl (by decide) rfl (by decide) hf (fun hf => ?_) (fun hx hf => ?_)
  · obtain ⟨z, h1, rfl⟩ := hf
    exact lc_21 S0 hK hX hAX hsc hL hq hrb hbx hbm hcl h1 kk
  · obtain ⟨z, h1, rfl⟩ := hf
    exact sw_22 S0 hK hX hAX hsc hL hq hrb hbx hbm hcl cx (by have := tsn hg hx; omega) h1 kk
set_option maxHeartbeats 4000000 in
set_option maxRecDepth 100000 in
theorem sw_20 {p : Program} {l : Launch} {e0 : Env} {s : State} {m : MethodId} {args : Array Value} {below : List Frame} {meth : Method} {c : Code} {cells slots : Nat} {Q : State → Prop} {cA : Nat → ClassId} {D : va_G} {N : Nat} {ad : Nat → Nat} {T : Knd} {A : Rfs} {nx : Nat} {I : Mem} {sx : Sx} {b L wx wm q : Nat} {xs : Nat → Int32} (S0 : CallFix p m c code 4 s args gT RL) (hK : va_K D vwCl (tyl cA) s) (hX : XX sx N s) (hAX : AX s) (hsc : SC N b L xs s) (hL : L ≤ 3072) (hq : q + 6 ≤ L) (hrb : RB A nx) (hbx : 1 ≤ wx ∧ wx ≤ nx) (hbm : 1 ≤ wm ∧ wm ≤ nx) (hcl : cells + 21 ≤ 600000 ∧ slots + 191 ≤ 7302250) {S2 : St} {x : Int} (cx : cn x) (hg : x < 0 ∨ (20 : Int) - 1 < x) (hs : lst_20 wx wm x (xs (q + 1)).toInt (xs (q + 2)).toInt (xs (q + 3)).toInt (xs (q + 4)).toInt (xs (q + 5)).toInt T A nx I = some S2) (kk : ∀ (ad1 : Nat → Nat) (c2 s2 : Nat), (∀ i, i ≤ nx → ad1 i = ad i) → c2 ≤ cells + 21 → s2 ≤ slots + 191 → nx ≤ S2.2.2.1 → RB S2.2.1 S2.2.2.1 → G p l e0 room_1 s m args below meth c c2 s2 Q cA D N 4 ad1 S2.1 S2.2.1 S2.2.2.1 1965 [(0, .ref b), (1, rv ad1 wx), (2, rv ad1 wm), (3, iv (q : Int))] [] S2.2.2.2) : G p l e0 room_1 s m args below meth c cells slots Q cA D N 4 ad T A nx 33 [(0, .ref b), (1, rv ad wx), (2, rv ad wm), (3, iv (q : Int))] [iv x] I := by
  have hf : OK (lst_20 wx wm x (xs (q + 1)).toInt (xs (q + 2)).toInt (xs (q + 3)).toInt (xs (q + 4)).toInt (xs (q + 5)).toInt T A nx I) (fun z => z = S2) := ⟨S2, hs, rfl⟩
  unfold lst_20 at hf
  refine r_tsw (pc := 33) 20 820 S0 20 dL_law_33 cx rfl (by decide) rfl (by decide) hf (fun hf => ?_) (fun hx hf => ?_)
  · obtain ⟨z, h1, rfl⟩ := hf
    exact lc_20 S0 hK hX hAX hsc hL hq hrb hbx hbm hcl h1 kk
  · obtain ⟨z, h1, rfl⟩ := hf
    exact sw_21 S0 hK hX hAX hsc hL hq hrb hbx hbm hcl cx (by have := tsn hg hx; omega) h1 kk
set_option maxHeartbeats 4000000 in
set_option maxRecDepth 100000 in
theorem sw_19 {p : Program} {l : Launch} {e0 : Env} {s : State} {m : MethodId} {args : Array Value} {below : List Frame} {meth : Method} {c : Code} {cells slots : Nat} {Q : State → Prop} {cA : Nat → ClassId} {D : va_G} {N : Nat} {ad : Nat → Nat} {T : Knd} {A : Rfs} {nx : Nat} {I : Mem} {sx : Sx} {b L wx wm q : Nat} {xs : Nat → Int32} (S0 : CallFix p m c code 4 s args gT RL) (hK : va_K D vwCl (tyl cA) s) (hX : XX sx N s) (hAX : AX s) (hsc : SC N b L xs s) (hL : L ≤ 3072) (hq : q + 6 ≤ L) (hrb : RB A nx) (hbx : 1 ≤ wx ∧ wx ≤ nx) (hbm : 1 ≤ wm ∧ wm ≤ nx) (hcl : cells + 21 ≤ 600000 ∧ slots + 191 ≤ 7302250) {S2 : St} {x : Int} (cx : cn x) (hg : x < 0 ∨ (19 : Int) - 1 < x) (hs : lst_19 wx wm x (xs (q + 1)).toInt (xs (q + 2)).toInt (xs (q + 3)).toInt (xs (q + 4)).toInt (xs (q + 5)).toInt T A nx I = some S2) (kk : ∀ (ad1 : Nat → Nat) (c2 s2 : Nat), (∀ i, i ≤ nx → ad1 i = ad i) → c2 ≤ cells + 21 → s2 ≤ slots + 191 → nx ≤ S2.2.2.1 → RB S2.2.1 S2.2.2.1 → G p l e0 room_1 s m args below meth c c2 s2 Q cA D N 4 ad1 S2.1 S2.2.1 S2.2.2.1 1965 [(0, .ref b), (1, rv ad1 wx), (2, rv ad1 wm), (3, iv (q : Int))] [] S2.2.2.2) : G p l e0 room_1 s m args below meth c cells slots Q cA D N 4 ad T A nx 33 [(0, .ref b), (1, rv ad wx), (2, rv ad wm), (3, iv (q : Int))] [iv x] I := by
  have hf : OK (lst_19 wx wm x (xs (q + 1)).toInt (xs (q + 2)).toInt (xs (q + 3)).toInt (xs (q + 4)).toInt (xs (q + 5)).toInt T A nx I) (fun z => z = S2) := ⟨S2, hs, rfl⟩
  unfold lst_19 at hf
  refine r_tsw (pc := 33) 19 797 S0 19 dL_law_33 cx rfl (by decide) rfl (by decide) hf (fun hf => ?_) (fun hx hf => ?_)
  · obtain ⟨z, h1, rfl⟩ := hf
    exact lc_19 S0 hK hX hAX hsc hL hq hrb hbx hbm hcl h1 kk
  · obtain ⟨z, h1, rfl⟩ := hf
    exact sw_20 S0 hK hX hAX hsc hL hq hrb hbx hbm hcl cx (by have := tsn hg hx; omega) h1 kk
set_option maxHeartbeats 4000000 in
set_option maxRecDepth 100000 in
theorem sw_18 {p : Program} {l : Launch} {e0 : Env} {s : State} {m : MethodId} {args : Array Value} {below : List Frame} {meth : Method} {c : Code} {cells slots : Nat} {Q : State → Prop} {cA : Nat → ClassId} {D : va_G} {N : Nat} {ad : Nat → Nat} {T : Knd} {A : Rfs} {nx : Nat} {I : Mem} {sx : Sx} {b L wx wm q : Nat} {xs : Nat → Int32} (S0 : CallFix p m c code 4 s args gT RL) (hK : va_K D vwCl (tyl cA) s) (hX : XX sx N s) (hAX : AX s) (hsc : SC N b L xs s) (hL : L ≤ 3072) (hq : q + 6 ≤ L) (hrb : RB A nx) (hbx : 1 ≤ wx ∧ wx ≤ nx) (hbm : 1 ≤ wm ∧ wm ≤ nx) (hcl : cells + 21 ≤ 600000 ∧ slots + 191 ≤ 7302250) {S2 : St} {x : Int} (cx : cn x) (hg : x < 0 ∨ (18 : Int) - 1 < x) (hs : lst_18 wx wm x (xs (q + 1)).toInt (xs (q + 2)).toInt (xs (q + 3)).toInt (xs (q + 4)).toInt (xs (q + 5)).toInt T A nx I = some S2) (kk : ∀ (ad1 : Nat → Nat) (c2 s2 : Nat), (∀ i, i ≤ nx → ad1 i = ad i) → c2 ≤ cells + 21 → s2 ≤ slots + 191 → nx ≤ S2.2.2.1 → RB S2.2.1 S2.2.2.1 → G p l e0 room_1 s m args below meth c c2 s2 Q cA D N 4 ad1 S2.1 S2.2.1 S2.2.2.1 1965 [(0, .ref b), (1, rv ad1 wx), (2, rv ad1 wm), (3, iv (q : Int))] [] S2.2.2.2) : G p l e0 room_1 s m args below meth c cells slots Q cA D N 4 ad T A nx 33 [(0, .ref b), (1, rv ad wx), (2, rv ad wm), (3, iv (q : Int))] [iv x] I := by
  have hf : OK (lst_18 wx wm x (xs (q + 1)).toInt (xs (q + 2)).toInt (xs (q + 3)).toInt (xs (q + 4)).toInt (xs (q + 5)).toInt T A nx I) (fun z => z = S2) := ⟨S2, hs, rfl⟩
  unfold lst_18 at hf
  refine r_tsw (pc := 33) 18 784 S0 18 dL_law_33 cx rfl (by decide) rfl (by decide) hf (fun hf => ?_) (fun hx hf => ?_)
  · obtain ⟨z, h1, rfl⟩ := hf
    exact lc_18 S0 hK hX hAX hsc hL hq hrb hbx hbm hcl h1 kk
  · obtain ⟨z, h1, rfl⟩ := hf
    exact sw_19 S0 hK hX hAX hsc hL hq hrb hbx hbm hcl cx (by have := tsn hg hx; omega) h1 kk
set_option maxHeartbeats 4000000 in
set_option maxRecDepth 100000 in
theorem sw_17 {p : Program} {l : Launch} {e0 : Env} {s : State} {m : MethodId} {args : Array Value} {below : List Frame} {meth : Method} {c : Code} {cells slots : Nat} {Q : State → Prop} {cA : Nat → ClassId} {D : va_G} {N : Nat} {ad : Nat → Nat} {T : Knd} {A : Rfs} {nx : Nat} {I : Mem} {sx : Sx} {b L wx wm q : Nat} {xs : Nat → Int32} (S0 : CallFix p m c code 4 s args gT RL) (hK : va_K D vwCl (tyl cA) s) (hX : XX sx N s) (hAX : AX s) (hsc : SC N b L xs s) (hL : L ≤ 3072) (hq : q + 6 ≤ L) (hrb : RB A nx) (hbx : 1 ≤ wx ∧ wx ≤ nx) (hbm : 1 ≤ wm ∧ wm ≤ nx) (hcl : cells + 21 ≤ 600000 ∧ slots + 191 ≤ 7302250) {S2 : St} {x : Int} (cx : cn x) (hg : x < 0 ∨ (17 : Int) - 1 < x) (hs : lst_17 wx wm x (xs (q + 1)).toInt (xs (q + 2)).toInt (xs (q + 3)).toInt (xs (q + 4)).toInt (xs (q + 5)).toInt T A nx I = some S2) (kk : ∀ (ad1 : Nat → Nat) (c2 s2 : Nat), (∀ i, i ≤ nx → ad1 i = ad i) → c2 ≤ cells + 21 → s2 ≤ slots + 191 → nx ≤ S2.2.2.1 → RB S2.2.1 S2.2.2.1 → G p l e0 room_1 s m args below meth c c2 s2 Q cA D N 4 ad1 S2.1 S2.2.1 S2.2.2.1 1965 [(0, .ref b), (1, rv ad1 wx), (2, rv ad1 wm), (3, iv (q : Int))] [] S2.2.2.2) : G p l e0 room_1 s m args below meth c cells slots Q cA D N 4 ad T A nx 33 [(0, .ref b), (1, rv ad wx), (2, rv ad wm), (3, iv (q : Int))] [iv x] I := by
  have hf : OK (lst_17 wx wm x (xs (q + 1)).toInt (xs (q + 2)).toInt (xs (q + 3)).toInt (xs (q + 4)).toInt (xs (q + 5)).toInt T A nx I) (fun z => z = S2) := ⟨S2, hs, rfl⟩
  unfold lst_17 at hf
  refine r_tsw (pc := 33) 17 761 S0 17 dL_law_33 cx rfl (by decide) rfl (by decide) hf (fun hf => ?_) (fun hx hf => ?_)
  · obtain ⟨z, h1, rfl⟩ := hf
    exact lc_17 S0 hK hX hAX hsc hL hq hrb hbx hbm hcl h1 kk
  · obtain ⟨z, h1, rfl⟩ := hf
    exact sw_18 S0 hK hX hAX hsc hL hq hrb hbx hbm hcl cx (by have := tsn hg hx; omega) h1 kk
set_option maxHeartbeats 4000000 in
set_option maxRecDepth 100000 in
theorem sw_16 {p : Program} {l : Launch} {e0 : Env} {s : State} {m : MethodId} {args : Array Value} {below : List Frame} {meth : Method} {c : Code} {cells slots : Nat} {Q : State → Prop} {cA : Nat → ClassId} {D : va_G} {N : Nat} {ad : Nat → Nat} {T : Knd} {A : Rfs} {nx : Nat} {I : Mem} {sx : Sx} {b L wx wm q : Nat} {xs : Nat → Int32} (S0 : CallFix p m c code 4 s args gT RL) (hK : va_K D vwCl (tyl cA) s) (hX : XX sx N s) (hAX : AX s) (hsc : SC N b L xs s) (hL : L ≤ 3072) (hq : q + 6 ≤ L) (hrb : RB A nx) (hbx : 1 ≤ wx ∧ wx ≤ nx) (hbm : 1 ≤ wm ∧ wm ≤ nx) (hcl : cells + 21 ≤ 600000 ∧ slots + 191 ≤ 7302250) {S2 : St} {x : Int} (cx : cn x) (hg : x < 0 ∨ (16 : Int) - 1 < x) (hs : lst_16 wx wm x (xs (q + 1)).toInt (xs (q + 2)).toInt (xs (q + 3)).toInt (xs (q + 4)).toInt (xs (q + 5)).toInt T A nx I = some S2) (kk : ∀ (ad1 : Nat → Nat) (c2 s2 : Nat), (∀ i, i ≤ nx → ad1 i = ad i) → c2 ≤ cells + 21 → s2 ≤ slots + 191 → nx ≤ S2.2.2.1 → RB S2.2.1 S2.2.2.1 → G p l e0 room_1 s m args below meth c c2 s2 Q cA D N 4 ad1 S2.1 S2.2.1 S2.2.2.1 1965 [(0, .ref b), (1, rv ad1 wx), (2, rv ad1 wm), (3, iv (q : Int))] [] S2.2.2.2) : G p l e0 room_1 s m args below meth c cells slots Q cA D N 4 ad T A nx 33 [(0, .ref b), (1, rv ad wx), (2, rv ad wm), (3, iv (q : Int))] [iv x] I := by
  have hf : OK (lst_16 wx wm x (xs (q + 1)).toInt (xs (q + 2)).toInt (xs (q + 3)).toInt (xs (q + 4)).toInt (xs (q + 5)).toInt T A nx I) (fun z => z = S2) := ⟨S2, hs, rfl⟩
  unfold lst_16 at hf
  refine r_tsw (pc := 33) 16 738 S0 16 dL_law_33 cx rfl (by decide) rfl (by decide) hf (fun hf => ?_) (fun hx hf => ?_)
  · obtain ⟨z, h1, rfl⟩ := hf
    exact lc_16 S0 hK hX hAX hsc hL hq hrb hbx hbm hcl h1 kk
  · obtain ⟨z, h1, rfl⟩ := hf
    exact sw_17 S0 hK hX hAX hsc hL hq hrb hbx hbm hcl cx (by have := tsn hg hx; omega) h1 kk
set_option maxHeartbeats 4000000 in
set_option maxRecDepth 100000 in
theorem sw_15 {p : Program} {l : Launch} {e0 : Env} {s : State} {m : MethodId} {args : Array Value} {below : List Frame} {meth : Method} {c : Code} {cells slots : Nat} {Q : State → Prop} {cA : Nat → ClassId} {D : va_G} {N : Nat} {ad : Nat → Nat} {T : Knd} {A : Rfs} {nx : Nat} {I : Mem} {sx : Sx} {b L wx wm q : Nat} {xs : Nat → Int32} (S0 : CallFix p m c code 4 s args gT RL) (hK : va_K D vwCl (tyl cA) s) (hX : XX sx N s) (hAX : AX s) (hsc : SC N b L xs s) (hL : L ≤ 3072) (hq : q + 6 ≤ L) (hrb : RB A nx) (hbx : 1 ≤ wx ∧ wx ≤ nx) (hbm : 1 ≤ wm ∧ wm ≤ nx) (hcl : cells + 21 ≤ 600000 ∧ slots + 191 ≤ 7302250) {S2 : St} {x : Int} (cx : cn x) (hg : x < 0 ∨ (15 : Int) - 1 < x) (hs : lst_15 wx wm x (xs (q + 1)).toInt (xs (q + 2)).toInt (xs (q + 3)).toInt (xs (q + 4)).toInt (xs (q + 5)).toInt T A nx I = some S2) (kk : ∀ (ad1 : Nat → Nat) (c2 s2 : Nat), (∀ i, i ≤ nx → ad1 i = ad i) → c2 ≤ cells + 21 → s2 ≤ slots + 191 → nx ≤ S2.2.2.1 → RB S2.2.1 S2.2.2.1 → G p l e0 room_1 s m args below meth c c2 s2 Q cA D N 4 ad1 S2.1 S2.2.1 S2.2.2.1 1965 [(0, .ref b), (1, rv ad1 wx), (2, rv ad1 wm), (3, iv (q : Int))] [] S2.2.2.2) : G p l e0 room_1 s m args below meth c cells slots Q cA D N 4 ad T A nx 33 [(0, .ref b), (1, rv ad wx), (2, rv ad wm), (3, iv (q : Int))] [iv x] I := by
  have hf : OK (lst_15 wx wm x (xs (q + 1)).toInt (xs (q + 2)).toInt (xs (q + 3)).toInt (xs (q + 4)).toInt (xs (q + 5)).toInt T A nx I) (fun z => z = S2) := ⟨S2, hs, rfl⟩
  unfold lst_15 at hf
  refine r_tsw (pc := 33) 15 715 S0 15 dL_law_33 cx rfl (by decide) rfl (by decide) hf (fun hf => ?_) (fun hx hf => ?_)
  · obtain ⟨z, h1, rfl⟩ := hf
    exact lc_15 S0 hK hX hAX hsc hL hq hrb hbx hbm hcl h1 kk
  · obtain ⟨z, h1, rfl⟩ := hf
    exact sw_16 S0 hK hX hAX hsc hL hq hrb hbx hbm hcl cx (by have := tsn hg hx; omega) h1 kk
set_option maxHeartbeats 4000000 in
set_option maxRecDepth 100000 in
theorem sw_14 {p : Program} {l : Launch} {e0 : Env} {s : State} {m : MethodId} {args : Array Value} {below : List Frame} {meth : Method} {c : Code} {cells slots : Nat} {Q : State → Prop} {cA : Nat → ClassId} {D : va_G} {N : Nat} {ad : Nat → Nat} {T : Knd} {A : Rfs} {nx : Nat} {I : Mem} {sx : Sx} {b L wx wm q : Nat} {xs : Nat → Int32} (S0 : CallFix p m c code 4 s args gT RL) (hK : va_K D vwCl (tyl cA) s) (hX : XX sx N s) (hAX : AX s) (hsc : SC N b L xs s) (hL : L ≤ 3072) (hq : q + 6 ≤ L) (hrb : RB A nx) (hbx : 1 ≤ wx ∧ wx ≤ nx) (hbm : 1 ≤ wm ∧ wm ≤ nx) (hcl : cells + 21 ≤ 600000 ∧ slots + 191 ≤ 7302250) {S2 : St} {x : Int} (cx : cn x) (hg : x < 0 ∨ (14 : Int) - 1 < x) (hs : lst_14 wx wm x (xs (q + 1)).toInt (xs (q + 2)).toInt (xs (q + 3)).toInt (xs (q + 4)).toInt (xs (q + 5)).toInt T A nx I = some S2) (kk : ∀ (ad1 : Nat → Nat) (c2 s2 : Nat), (∀ i, i ≤ nx → ad1 i = ad i) → c2 ≤ cells + 21 → s2 ≤ slots + 191 → nx ≤ S2.2.2.1 → RB S2.2.1 S2.2.2.1 → G p l e0 room_1 s m args below meth c c2 s2 Q cA D N 4 ad1 S2.1 S2.2.1 S2.2.2.1 1965 [(0, .ref b), (1, rv ad1 wx), (2, rv ad1 wm), (3, iv (q : Int))] [] S2.2.2.2) : G p l e0 room_1 s m args below meth c cells slots Q cA D N 4 ad T A nx 33 [(0, .ref b), (1, rv ad wx), (2, rv ad wm), (3, iv (q : Int))] [iv x] I := by
  have hf : OK (lst_14 wx wm x (xs (q + 1)).toInt (xs (q + 2)).toInt (xs (q + 3)).toInt (xs (q + 4)).toInt (xs (q + 5)).toInt T A nx I) (fun z => z = S2) := ⟨S2, hs, rfl⟩
  unfold lst_14 at hf
  refine r_tsw (pc := 33) 14 702 S0 14 dL_law_33 cx rfl (by decide) rfl (by decide) hf (fun hf => ?_) (fun hx hf => ?_)
  · obtain ⟨z, h1, rfl⟩ := hf
    exact lc_14 S0 hK hX hAX hsc hL hq hrb hbx hbm hcl h1 kk
  · obtain ⟨z, h1, rfl⟩ := hf
    exact sw_15 S0 hK hX hAX hsc hL hq hrb hbx hbm hcl cx (by have := tsn hg hx; omega) h1 kk
set_option maxHeartbeats 4000000 in
set_option maxRecDepth 100000 in
theorem sw_13 {p : Program} {l : Launch} {e0 : Env} {s : State} {m : MethodId} {args : Array Value} {below : List Frame} {meth : Method} {c : Code} {cells slots : Nat} {Q : State → Prop} {cA : Nat → ClassId} {D : va_G} {N : Nat} {ad : Nat → Nat} {T : Knd} {A : Rfs} {nx : Nat} {I : Mem} {sx : Sx} {b L wx wm q : Nat} {xs : Nat → Int32} (S0 : CallFix p m c code 4 s args gT RL) (hK : va_K D vwCl (tyl cA) s) (hX : XX sx N s) (hAX : AX s) (hsc : SC N b L xs s) (hL : L ≤ 3072) (hq : q + 6 ≤ L) (hrb : RB A nx) (hbx : 1 ≤ wx ∧ wx ≤ nx) (hbm : 1 ≤ wm ∧ wm ≤ nx) (hcl : cells + 21 ≤ 600000 ∧ slots + 191 ≤ 7302250) {S2 : St} {x : Int} (cx : cn x) (hg : x < 0 ∨ (13 : Int) - 1 < x) (hs : lst_13 wx wm x (xs (q + 1)).toInt (xs (q + 2)).toInt (xs (q + 3)).toInt (xs (q + 4)).toInt (xs (q + 5)).toInt T A nx I = some S2) (kk : ∀ (ad1 : Nat → Nat) (c2 s2 : Nat), (∀ i, i ≤ nx → ad1 i = ad i) → c2 ≤ cells + 21 → s2 ≤ slots + 191 → nx ≤ S2.2.2.1 → RB S2.2.1 S2.2.2.1 → G p l e0 room_1 s m args below meth c c2 s2 Q cA D N 4 ad1 S2.1 S2.2.1 S2.2.2.1 1965 [(0, .ref b), (1, rv ad1 wx), (2, rv ad1 wm), (3, iv (q : Int))] [] S2.2.2.2) : G p l e0 room_1 s m args below meth c cells slots Q cA D N 4 ad T A nx 33 [(0, .ref b), (1, rv ad wx), (2, rv ad wm), (3, iv (q : Int))] [iv x] I := by
  have hf : OK (lst_13 wx wm x (xs (q + 1)).toInt (xs (q + 2)).toInt (xs (q + 3)).toInt (xs (q + 4)).toInt (xs (q + 5)).toInt T A nx I) (fun z => z = S2) := ⟨S2, hs, rfl⟩
  unfold lst_13 at hf
  refine r_tsw (pc := 33) 13 689 S0 13 dL_law_33 cx rfl (by decide) rfl (by decide) hf (fun hf => ?_) (fun hx hf => ?_)
  · obtain ⟨z, h1, rfl⟩ := hf
    exact lc_13 S0 hK hX hAX hsc hL hq hrb hbx hbm hcl h1 kk
  · obtain ⟨z, h1, rfl⟩ := hf
    exact sw_14 S0 hK hX hAX hsc hL hq hrb hbx hbm hcl cx (by have := tsn hg hx; omega) h1 kk
set_option maxHeartbeats 4000000 in
set_option maxRecDepth 100000 in
theorem sw_12 {p : Program} {l : Launch} {e0 : Env} {s : State} {m : MethodId} {args : Array Value} {below : List Frame} {meth : Method} {c : Code} {cells slots : Nat} {Q : State → Prop} {cA : Nat → ClassId} {D : va_G} {N : Nat} {ad : Nat → Nat} {T : Knd} {A : Rfs} {nx : Nat} {I : Mem} {sx : Sx} {b L wx wm q : Nat} {xs : Nat → Int32} (S0 : CallFix p m c code 4 s args gT RL) (hK : va_K D vwCl (tyl cA) s) (hX : XX sx N s) (hAX : AX s) (hsc : SC N b L xs s) (hL : L ≤ 3072) (hq : q + 6 ≤ L) (hrb : RB A nx) (hbx : 1 ≤ wx ∧ wx ≤ nx) (hbm : 1 ≤ wm ∧ wm ≤ nx) (hcl : cells + 21 ≤ 600000 ∧ slots + 191 ≤ 7302250) {S2 : St} {x : Int} (cx : cn x) (hg : x < 0 ∨ (12 : Int) - 1 < x) (hs : lst_12 wx wm x (xs (q + 1)).toInt (xs (q + 2)).toInt (xs (q + 3)).toInt (xs (q + 4)).toInt (xs (q + 5)).toInt T A nx I = some S2) (kk : ∀ (ad1 : Nat → Nat) (c2 s2 : Nat), (∀ i, i ≤ nx → ad1 i = ad i) → c2 ≤ cells + 21 → s2 ≤ slots + 191 → nx ≤ S2.2.2.1 → RB S2.2.1 S2.2.2.1 → G p l e0 room_1 s m args below meth c c2 s2 Q cA D N 4 ad1 S2.1 S2.2.1 S2.2.2.1 1965 [(0, .ref b), (1, rv ad1 wx), (2, rv ad1 wm), (3, iv (q : Int))] [] S2.2.2.2) : G p l e0 room_1 s m args below meth c cells slots Q cA D N 4 ad T A nx 33 [(0, .ref b), (1, rv ad wx), (2, rv ad wm), (3, iv (q : Int))] [iv x] I := by
  have hf : OK (lst_12 wx wm x (xs (q + 1)).toInt (xs (q + 2)).toInt (xs (q + 3)).toInt (xs (q + 4)).toInt (xs (q + 5)).toInt T A nx I) (fun z => z = S2) := ⟨S2, hs, rfl⟩
  unfold lst_12 at hf
  refine r_tsw (pc := 33) 12 676 S0 12 dL_law_33 cx rfl (by decide) rfl (by decide) hf (fun hf => ?_) (fun hx hf => ?_)
  · obtain ⟨z, h1, rfl⟩ := hf
    exact lc_12 S0 hK hX hAX hsc hL hq hrb hbx hbm hcl h1 kk
  · obtain ⟨z, h1, rfl⟩ := hf
    exact sw_13 S0 hK hX hAX hsc hL hq hrb hbx hbm hcl cx (by have := tsn hg hx; omega) h1 kk
set_option maxHeartbeats 4000000 in
set_option maxRecDepth 100000 in
theorem sw_11 {p : Program} {l : Launch} {e0 : Env} {s : State} {m : MethodId} {args : Array Value} {below : List Frame} {meth : Method} {c : Code} {cells slots : Nat} {Q : State → Prop} {cA : Nat → ClassId} {D : va_G} {N : Nat} {ad : Nat → Nat} {T : Knd} {A : Rfs} {nx : Nat} {I : Mem} {sx : Sx} {b L wx wm q : Nat} {xs : Nat → Int32} (S0 : CallFix p m c code 4 s args gT RL) (hK : va_K D vwCl (tyl cA) s) (hX : XX sx N s) (hAX : AX s) (hsc : SC N b L xs s) (hL : L ≤ 3072) (hq : q + 6 ≤ L) (hrb : RB A nx) (hbx : 1 ≤ wx ∧ wx ≤ nx) (hbm : 1 ≤ wm ∧ wm ≤ nx) (hcl : cells + 21 ≤ 600000 ∧ slots + 191 ≤ 7302250) {S2 : St} {x : Int} (cx : cn x) (hg : x < 0 ∨ (11 : Int) - 1 < x) (hs : lst_11 wx wm x (xs (q + 1)).toInt (xs (q + 2)).toInt (xs (q + 3)).toInt (xs (q + 4)).toInt (xs (q + 5)).toInt T A nx I = some S2) (kk : ∀ (ad1 : Nat → Nat) (c2 s2 : Nat), (∀ i, i ≤ nx → ad1 i = ad i) → c2 ≤ cells + 21 → s2 ≤ slots + 191 → nx ≤ S2.2.2.1 → RB S2.2.1 S2.2.2.1 → G p l e0 room_1 s m args below meth c c2 s2 Q cA D N 4 ad1 S2.1 S2.2.1 S2.2.2.1 1965 [(0, .ref b), (1, rv ad1 wx), (2, rv ad1 wm), (3, iv (q : Int))] [] S2.2.2.2) : G p l e0 room_1 s m args below meth c cells slots Q cA D N 4 ad T A nx 33 [(0, .ref b), (1, rv ad wx), (2, rv ad wm), (3, iv (q : Int))] [iv x] I := by
  have hf : OK (lst_11 wx wm x (xs (q + 1)).toInt (xs (q + 2)).toInt (xs (q + 3)).toInt (xs (q + 4)).toInt (xs (q + 5)).toInt T A nx I) (fun z => z = S2) := ⟨S2, hs, rfl⟩
  unfold lst_11 at hf
  refine r_tsw (pc := 33) 11 663 S0 11 dL_law_33 cx rfl (by decide) rfl (by decide) hf (fun hf => ?_) (fun hx hf => ?_)
  · obtain ⟨z, h1, rfl⟩ := hf
    exact lc_11 S0 hK hX hAX hsc hL hq hrb hbx hbm hcl h1 kk
  · obtain ⟨z, h1, rfl⟩ := hf
    exact sw_12 S0 hK hX hAX hsc hL hq hrb hbx hbm hcl cx (by have := tsn hg hx; omega) h1 kk
set_option maxHeartbeats 4000000 in
set_option maxRecDepth 100000 in
theorem sw_10 {p : Program} {l : Launch} {e0 : Env} {s : State} {m : MethodId} {args : Array Value} {below : List Frame} {meth : Method} {c : Code} {cells slots : Nat} {Q : State → Prop} {cA : Nat → ClassId} {D : va_G} {N : Nat} {ad : Nat → Nat} {T : Knd} {A : Rfs} {nx : Nat} {I : Mem} {sx : Sx} {b L wx wm q : Nat} {xs : Nat → Int32} (S0 : CallFix p m c code 4 s args gT RL) (hK : va_K D vwCl (tyl cA) s) (hX : XX sx N s) (hAX : AX s) (hsc : SC N b L xs s) (hL : L ≤ 3072) (hq : q + 6 ≤ L) (hrb : RB A nx) (hbx : 1 ≤ wx ∧ wx ≤ nx) (hbm : 1 ≤ wm ∧ wm ≤ nx) (hcl : cells + 21 ≤ 600000 ∧ slots + 191 ≤ 7302250) {S2 : St} {x : Int} (cx : cn x) (hg : x < 0 ∨ (10 : Int) - 1 < x) (hs : lst_10 wx wm x (xs (q + 1)).toInt (xs (q + 2)).toInt (xs (q + 3)).toInt (xs (q + 4)).toInt (xs (q + 5)).toInt T A nx I = some S2) (kk : ∀ (ad1 : Nat → Nat) (c2 s2 : Nat), (∀ i, i ≤ nx → ad1 i = ad i) → c2 ≤ cells + 21 → s2 ≤ slots + 191 → nx ≤ S2.2.2.1 → RB S2.2.1 S2.2.2.1 → G p l e0 room_1 s m args below meth c c2 s2 Q cA D N 4 ad1 S2.1 S2.2.1 S2.2.2.1 1965 [(0, .ref b), (1, rv ad1 wx), (2, rv ad1 wm), (3, iv (q : Int))] [] S2.2.2.2) : G p l e0 room_1 s m args below meth c cells slots Q cA D N 4 ad T A nx 33 [(0, .ref b), (1, rv ad wx), (2, rv ad wm), (3, iv (q : Int))] [iv x] I := by
  have hf : OK (lst_10 wx wm x (xs (q + 1)).toInt (xs (q + 2)).toInt (xs (q + 3)).toInt (xs (q + 4)).toInt (xs (q + 5)).toInt T A nx I) (fun z => z = S2) := ⟨S2, hs, rfl⟩
  unfold lst_10 at hf
  refine r_tsw (pc := 33) 10 630 S0 10 dL_law_33 cx rfl (by decide) rfl (by decide) hf (fun hf => ?_) (fun hx hf => ?_)
  · obtain ⟨z, h1, rfl⟩ := hf
    exact lc_10 S0 hK hX hAX hsc hL hq hrb hbx hbm hcl h1 kk
  · obtain ⟨z, h1, rfl⟩ := hf
    exact sw_11 S0 hK hX hAX hsc hL hq hrb hbx hbm hcl cx (by have := tsn hg hx; omega) h1 kk
set_option maxHeartbeats 4000000 in
set_option maxRecDepth 100000 in
theorem sw_9 {p : Program} {l : Launch} {e0 : Env} {s : State} {m : MethodId} {args : Array Value} {below : List Frame} {meth : Method} {c : Code} {cells slots : Nat} {Q : State → Prop} {cA : Nat → ClassId} {D : va_G} {N : Nat} {ad : Nat → Nat} {T : Knd} {A : Rfs} {nx : Nat} {I : Mem} {sx : Sx} {b L wx wm q : Nat} {xs : Nat → Int32} (S0 : CallFix p m c code 4 s args gT RL) (hK : va_K D vwCl (tyl cA) s) (hX : XX sx N s) (hAX : AX s) (hsc : SC N b L xs s) (hL : L ≤ 3072) (hq : q + 6 ≤ L) (hrb : RB A nx) (hbx : 1 ≤ wx ∧ wx ≤ nx) (hbm : 1 ≤ wm ∧ wm ≤ nx) (hcl : cells + 21 ≤ 600000 ∧ slots + 191 ≤ 7302250) {S2 : St} {x : Int} (cx : cn x) (hg : x < 0 ∨ (9 : Int) - 1 < x) (hs : lst_9 wx wm x (xs (q + 1)).toInt (xs (q + 2)).toInt (xs (q + 3)).toInt (xs (q + 4)).toInt (xs (q + 5)).toInt T A nx I = some S2) (kk : ∀ (ad1 : Nat → Nat) (c2 s2 : Nat), (∀ i, i ≤ nx → ad1 i = ad i) → c2 ≤ cells + 21 → s2 ≤ slots + 191 → nx ≤ S2.2.2.1 → RB S2.2.1 S2.2.2.1 → G p l e0 room_1 s m args below meth c c2 s2 Q cA D N 4 ad1 S2.1 S2.2.1 S2.2.2.1 1965 [(0, .ref b), (1, rv ad1 wx), (2, rv ad1 wm), (3, iv (q : Int))] [] S2.2.2.2) : G p l e0 room_1 s m args below meth c cells slots Q cA D N 4 ad T A nx 33 [(0, .ref b), (1, rv ad wx), (2, rv ad wm), (3, iv (q : Int))] [iv x] I := by
  have hf : OK (lst_9 wx wm x (xs (q + 1)).toInt (xs (q + 2)).toInt (xs (q + 3)).toInt (xs (q + 4)).toInt (xs (q + 5)).toInt T A nx I) (fun z => z = S2) := ⟨S2, hs, rfl⟩
  unfold lst_9 at hf
  refine r_tsw (pc := 33) 9 607 S0 9 dL_law_33 cx rfl (by decide) rfl (by decide) hf (fun hf => ?_) (fun hx hf => ?_)
  · obtain ⟨z, h1, rfl⟩ := hf
    exact lc_9 S0 hK hX hAX hsc hL hq hrb hbx hbm hcl h1 kk
  · obtain ⟨z, h1, rfl⟩ := hf
    exact sw_10 S0 hK hX hAX hsc hL hq hrb hbx hbm hcl cx (by have := tsn hg hx; omega) h1 kk
set_option maxHeartbeats 4000000 in
set_option maxRecDepth 100000 in
theorem sw_8 {p : Program} {l : Launch} {e0 : Env} {s : State} {m : MethodId} {args : Array Value} {below : List Frame} {meth : Method} {c : Code} {cells slots : Nat} {Q : State → Prop} {cA : Nat → ClassId} {D : va_G} {N : Nat} {ad : Nat → Nat} {T : Knd} {A : Rfs} {nx : Nat} {I : Mem} {sx : Sx} {b L wx wm q : Nat} {xs : Nat → Int32} (S0 : CallFix p m c code 4 s args gT RL) (hK : va_K D vwCl (tyl cA) s) (hX : XX sx N s) (hAX : AX s) (hsc : SC N b L xs s) (hL : L ≤ 3072) (hq : q + 6 ≤ L) (hrb : RB A nx) (hbx : 1 ≤ wx ∧ wx ≤ nx) (hbm : 1 ≤ wm ∧ wm ≤ nx) (hcl : cells + 21 ≤ 600000 ∧ slots + 191 ≤ 7302250) {S2 : St} {x : Int} (cx : cn x) (hg : x < 0 ∨ (8 : Int) - 1 < x) (hs : lst_8 wx wm x (xs (q + 1)).toInt (xs (q + 2)).toInt (xs (q + 3)).toInt (xs (q + 4)).toInt (xs (q + 5)).toInt T A nx I = some S2) (kk : ∀ (ad1 : Nat → Nat) (c2 s2 : Nat), (∀ i, i ≤ nx → ad1 i = ad i) → c2 ≤ cells + 21 → s2 ≤ slots + 191 → nx ≤ S2.2.2.1 → RB S2.2.1 S2.2.2.1 → G p l e0 room_1 s m args below meth c c2 s2 Q cA D N 4 ad1 S2.1 S2.2.1 S2.2.2.1 1965 [(0, .ref b), (1, rv ad1 wx), (2, rv ad1 wm), (3, iv (q : Int))] [] S2.2.2.2) : G p l e0 room_1 s m args below meth c cells slots Q cA D N 4 ad T A nx 33 [(0, .ref b), (1, rv ad wx), (2, rv ad wm), (3, iv (q : Int))] [iv x] I := by
  have hf : OK (lst_8 wx wm x (xs (q + 1)).toInt (xs (q + 2)).toInt (xs (q + 3)).toInt (xs (q + 4)).toInt (xs (q + 5)).toInt T A nx I) (fun z => z = S2) := ⟨S2, hs, rfl⟩
  unfold lst_8 at hf
  refine r_tsw (pc := 33) 8 574 S0 8 dL_law_33 cx rfl (by decide) rfl (by decide) hf (fun hf => ?_) (fun hx hf => ?_)
  · obtain ⟨z, h1, rfl⟩ := hf
    exact lc_8 S0 hK hX hAX hsc hL hq hrb hbx hbm hcl h1 kk
  · obtain ⟨z, h1, rfl⟩ := hf
    exact sw_9 S0 hK hX hAX hsc hL hq hrb hbx hbm hcl cx (by have := tsn hg hx; omega) h1 kk
set_option maxHeartbeats 4000000 in
set_option maxRecDepth 100000 in
theorem sw_7 {p : Program} {l : Launch} {e0 : Env} {s : State} {m : MethodId} {args : Array Value} {below : List Frame} {meth : Method} {c : Code} {cells slots : Nat} {Q : State → Prop} {cA : Nat → ClassId} {D : va_G} {N : Nat} {ad : Nat → Nat} {T : Knd} {A : Rfs} {nx : Nat} {I : Mem} {sx : Sx} {b L wx wm q : Nat} {xs : Nat → Int32} (S0 : CallFix p m c code 4 s args gT RL) (hK : va_K D vwCl (tyl cA) s) (hX : XX sx N s) (hAX : AX s) (hsc : SC N b L xs s) (hL : L ≤ 3072) (hq : q + 6 ≤ L) (hrb : RB A nx) (hbx : 1 ≤ wx ∧ wx ≤ nx) (hbm : 1 ≤ wm ∧ wm ≤ nx) (hcl : cells + 21 ≤ 600000 ∧ slots + 191 ≤ 7302250) {S2 : St} {x : Int} (cx : cn x) (hg : x < 0 ∨ (7 : Int) - 1 < x) (hs : lst_7 wx wm x (xs (q + 1)).toInt (xs (q + 2)).toInt (xs (q + 3)).toInt (xs (q + 4)).toInt (xs (q + 5)).toInt T A nx I = some S2) (kk : ∀ (ad1 : Nat → Nat) (c2 s2 : Nat), (∀ i, i ≤ nx → ad1 i = ad i) → c2 ≤ cells + 21 → s2 ≤ slots + 191 → nx ≤ S2.2.2.1 → RB S2.2.1 S2.2.2.1 → G p l e0 room_1 s m args below meth c c2 s2 Q cA D N 4 ad1 S2.1 S2.2.1 S2.2.2.1 1965 [(0, .ref b), (1, rv ad1 wx), (2, rv ad1 wm), (3, iv (q : Int))] [] S2.2.2.2) : G p l e0 room_1 s m args below meth c cells slots Q cA D N 4 ad T A nx 33 [(0, .ref b), (1, rv ad wx), (2, rv ad wm), (3, iv (q : Int))] [iv x] I := by
  have hf : OK (lst_7 wx wm x (xs (q + 1)).toInt (xs (q + 2)).toInt (xs (q + 3)).toInt (xs (q + 4)).toInt (xs (q + 5)).toInt T A nx I) (fun z => z = S2) := ⟨S2, hs, rfl⟩
  unfold lst_7 at hf
  refine r_tsw (pc := 33) 7 541 S0 7 dL_law_33 cx rfl (by decide) rfl (by decide) hf (fun hf => ?_) (fun hx hf => ?_)
  · obtain ⟨z, h1, rfl⟩ := hf
    exact lc_7 S0 hK hX hAX hsc hL hq hrb hbx hbm hcl h1 kk
  · obtain ⟨z, h1, rfl⟩ := hf
    exact sw_8 S0 hK hX hAX hsc hL hq hrb hbx hbm hcl cx (by have := tsn hg hx; omega) h1 kk
set_option maxHeartbeats 4000000 in
set_option maxRecDepth 100000 in
theorem sw_6 {p : Program} {l : Launch} {e0 : Env} {s : State} {m : MethodId} {args : Array Value} {below : List Frame} {meth : Method} {c : Code} {cells slots : Nat} {Q : State → Prop} {cA : Nat → ClassId} {D : va_G} {N : Nat} {ad : Nat → Nat} {T : Knd} {A : Rfs} {nx : Nat} {I : Mem} {sx : Sx} {b L wx wm q : Nat} {xs : Nat → Int32} (S0 : CallFix p m c code 4 s args gT RL) (hK : va_K D vwCl (tyl cA) s) (hX : XX sx N s) (hAX : AX s) (hsc : SC N b L xs s) (hL : L ≤ 3072) (hq : q + 6 ≤ L) (hrb : RB A nx) (hbx : 1 ≤ wx ∧ wx ≤ nx) (hbm : 1 ≤ wm ∧ wm ≤ nx) (hcl : cells + 21 ≤ 600000 ∧ slots + 191 ≤ 7302250) {S2 : St} {x : Int} (cx : cn x) (hg : x < 0 ∨ (6 : Int) - 1 < x) (hs : lst_6 wx wm x (xs (q + 1)).toInt (xs (q + 2)).toInt (xs (q + 3)).toInt (xs (q + 4)).toInt (xs (q + 5)).toInt T A nx I = some S2) (kk : ∀ (ad1 : Nat → Nat) (c2 s2 : Nat), (∀ i, i ≤ nx → ad1 i = ad i) → c2 ≤ cells + 21 → s2 ≤ slots + 191 → nx ≤ S2.2.2.1 → RB S2.2.1 S2.2.2.1 → G p l e0 room_1 s m args below meth c c2 s2 Q cA D N 4 ad1 S2.1 S2.2.1 S2.2.2.1 1965 [(0, .ref b), (1, rv ad1 wx), (2, rv ad1 wm), (3, iv (q : Int))] [] S2.2.2.2) : G p l e0 room_1 s m args below meth c cells slots Q cA D N 4 ad T A nx 33 [(0, .ref b), (1, rv ad wx), (2, rv ad wm), (3, iv (q : Int))] [iv x] I := by
  have hf : OK (lst_6 wx wm x (xs (q + 1)).toInt (xs (q + 2)).toInt (xs (q + 3)).toInt (xs (q + 4)).toInt (xs (q + 5)).toInt T A nx I) (fun z => z = S2) := ⟨S2, hs, rfl⟩
  unfold lst_6 at hf
  refine r_tsw (pc := 33) 6 508 S0 6 dL_law_33 cx rfl (by decide) rfl (by decide) hf (fun hf => ?_) (fun hx hf => ?_)
  · obtain ⟨z, h1, rfl⟩ := hf
    exact lc_6 S0 hK hX hAX hsc hL hq hrb hbx hbm hcl h1 kk
  · obtain ⟨z, h1, rfl⟩ := hf
    exact sw_7 S0 hK hX hAX hsc hL hq hrb hbx hbm hcl cx (by have := tsn hg hx; omega) h1 kk
set_option maxHeartbeats 4000000 in
set_option maxRecDepth 100000 in
theorem sw_5 {p : Program} {l : Launch} {e0 : Env} {s : State} {m : MethodId} {args : Array Value} {below : List Frame} {meth : Method} {c : Code} {cells slots : Nat} {Q : State → Prop} {cA : Nat → ClassId} {D : va_G} {N : Nat} {ad : Nat → Nat} {T : Knd} {A : Rfs} {nx : Nat} {I : Mem} {sx : Sx} {b L wx wm q : Nat} {xs : Nat → Int32} (S0 : CallFix p m c code 4 s args gT RL) (hK : va_K D vwCl (tyl cA) s) (hX : XX sx N s) (hAX : AX s) (hsc : SC N b L xs s) (hL : L ≤ 3072) (hq : q + 6 ≤ L) (hrb : RB A nx) (hbx : 1 ≤ wx ∧ wx ≤ nx) (hbm : 1 ≤ wm ∧ wm ≤ nx) (hcl : cells + 21 ≤ 600000 ∧ slots + 191 ≤ 7302250) {S2 : St} {x : Int} (cx : cn x) (hg : x < 0 ∨ (5 : Int) - 1 < x) (hs : lst_5 wx wm x (xs (q + 1)).toInt (xs (q + 2)).toInt (xs (q + 3)).toInt (xs (q + 4)).toInt (xs (q + 5)).toInt T A nx I = some S2) (kk : ∀ (ad1 : Nat → Nat) (c2 s2 : Nat), (∀ i, i ≤ nx → ad1 i = ad i) → c2 ≤ cells + 21 → s2 ≤ slots + 191 → nx ≤ S2.2.2.1 → RB S2.2.1 S2.2.2.1 → G p l e0 room_1 s m args below meth c c2 s2 Q cA D N 4 ad1 S2.1 S2.2.1 S2.2.2.1 1965 [(0, .ref b), (1, rv ad1 wx), (2, rv ad1 wm), (3, iv (q : Int))] [] S2.2.2.2) : G p l e0 room_1 s m args below meth c cells slots Q cA D N 4 ad T A nx 33 [(0, .ref b), (1, rv ad wx), (2, rv ad wm), (3, iv (q : Int))] [iv x] I := by
  have hf : OK (lst_5 wx wm x (xs (q + 1)).toInt (xs (q + 2)).toInt (xs (q + 3)).toInt (xs (q + 4)).toInt (xs (q + 5)).toInt T A nx I) (fun z => z = S2) := ⟨S2, hs, rfl⟩
  unfold lst_5 at hf
  refine r_tsw (pc := 33) 5 475 S0 5 dL_law_33 cx rfl (by decide) rfl (by decide) hf (fun hf => ?_) (fun hx hf => ?_)
  · obtain ⟨z, h1, rfl⟩ := hf
    exact lc_5 S0 hK hX hAX hsc hL hq hrb hbx hbm hcl h1 kk
  · obtain ⟨z, h1, rfl⟩ := hf
    exact sw_6 S0 hK hX hAX hsc hL hq hrb hbx hbm hcl cx (by have := tsn hg hx; omega) h1 kk
set_option maxHeartbeats 4000000 in
set_option maxRecDepth 100000 in
theorem sw_4 {p : Program} {l : Launch} {e0 : Env} {s : State} {m : MethodId} {args : Array Value} {below : List Frame} {meth : Method} {c : Code} {cells slots : Nat} {Q : State → Prop} {cA : Nat → ClassId} {D : va_G} {N : Nat} {ad : Nat → Nat} {T : Knd} {A : Rfs} {nx : Nat} {I : Mem} {sx : Sx} {b L wx wm q : Nat} {xs : Nat → Int32} (S0 : CallFix p m c code 4 s args gT RL) (hK : va_K D vwCl (tyl cA) s) (hX : XX sx N s) (hAX : AX s) (hsc : SC N b L xs s) (hL : L ≤ 3072) (hq : q + 6 ≤ L) (hrb : RB A nx) (hbx : 1 ≤ wx ∧ wx ≤ nx) (hbm : 1 ≤ wm ∧ wm ≤ nx) (hcl : cells + 21 ≤ 600000 ∧ slots + 191 ≤ 7302250) {S2 : St} {x : Int} (cx : cn x) (hg : x < 0 ∨ (4 : Int) - 1 < x) (hs : lst_4 wx wm x (xs (q + 1)).toInt (xs (q + 2)).toInt (xs (q + 3)).toInt (xs (q + 4)).toInt (xs (q + 5)).toInt T A nx I = some S2) (kk : ∀ (ad1 : Nat → Nat) (c2 s2 : Nat), (∀ i, i ≤ nx → ad1 i = ad i) → c2 ≤ cells + 21 → s2 ≤ slots + 191 → nx ≤ S2.2.2.1 → RB S2.2.1 S2.2.2.1 → G p l e0 room_1 s m args below meth c c2 s2 Q cA D N 4 ad1 S2.1 S2.2.1 S2.2.2.1 1965 [(0, .ref b), (1, rv ad1 wx), (2, rv ad1 wm), (3, iv (q : Int))] [] S2.2.2.2) : G p l e0 room_1 s m args below meth c cells slots Q cA D N 4 ad T A nx 33 [(0, .ref b), (1, rv ad wx), (2, rv ad wm), (3, iv (q : Int))] [iv x] I := by
  have hf : OK (lst_4 wx wm x (xs (q + 1)).toInt (xs (q + 2)).toInt (xs (q + 3)).toInt (xs (q + 4)).toInt (xs (q + 5)).toInt T A nx I) (fun z => z = S2) := ⟨S2, hs, rfl⟩
  unfold lst_4 at hf
  refine r_tsw (pc := 33) 4 442 S0 4 dL_law_33 cx rfl (by decide) rfl (by decide) hf (fun hf => ?_) (fun hx hf => ?_)
  · obtain ⟨z, h1, rfl⟩ := hf
    exact lc_4 S0 hK hX hAX hsc hL hq hrb hbx hbm hcl h1 kk
  · obtain ⟨z, h1, rfl⟩ := hf
    exact sw_5 S0 hK hX hAX hsc hL hq hrb hbx hbm hcl cx (by have := tsn hg hx; omega) h1 kk
set_option maxHeartbeats 4000000 in
set_option maxRecDepth 100000 in
theorem sw_3 {p : Program} {l : Launch} {e0 : Env} {s : State} {m : MethodId} {args : Array Value} {below : List Frame} {meth : Method} {c : Code} {cells slots : Nat} {Q : State → Prop} {cA : Nat → ClassId} {D : va_G} {N : Nat} {ad : Nat → Nat} {T : Knd} {A : Rfs} {nx : Nat} {I : Mem} {sx : Sx} {b L wx wm q : Nat} {xs : Nat → Int32} (S0 : CallFix p m c code 4 s args gT RL) (hK : va_K D vwCl (tyl cA) s) (hX : XX sx N s) (hAX : AX s) (hsc : SC N b L xs s) (hL : L ≤ 3072) (hq : q + 6 ≤ L) (hrb : RB A nx) (hbx : 1 ≤ wx ∧ wx ≤ nx) (hbm : 1 ≤ wm ∧ wm ≤ nx) (hcl : cells + 21 ≤ 600000 ∧ slots + 191 ≤ 7302250) {S2 : St} {x : Int} (cx : cn x) (hg : x < 0 ∨ (3 : Int) - 1 < x) (hs : lst_3 wx wm x (xs (q + 1)).toInt (xs (q + 2)).toInt (xs (q + 3)).toInt (xs (q + 4)).toInt (xs (q + 5)).toInt T A nx I = some S2) (kk : ∀ (ad1 : Nat → Nat) (c2 s2 : Nat), (∀ i, i ≤ nx → ad1 i = ad i) → c2 ≤ cells + 21 → s2 ≤ slots + 191 → nx ≤ S2.2.2.1 → RB S2.2.1 S2.2.2.1 → G p l e0 room_1 s m args below meth c c2 s2 Q cA D N 4 ad1 S2.1 S2.2.1 S2.2.2.1 1965 [(0, .ref b), (1, rv ad1 wx), (2, rv ad1 wm), (3, iv (q : Int))] [] S2.2.2.2) : G p l e0 room_1 s m args below meth c cells slots Q cA D N 4 ad T A nx 33 [(0, .ref b), (1, rv ad wx), (2, rv ad wm), (3, iv (q : Int))] [iv x] I := by
  have hf : OK (lst_3 wx wm x (xs (q + 1)).toInt (xs (q + 2)).toInt (xs (q + 3)).toInt (xs (q + 4)).toInt (xs (q + 5)).toInt T A nx I) (fun z => z = S2) := ⟨S2, hs, rfl⟩
  unfold lst_3 at hf
  refine r_tsw (pc := 33) 3 419 S0 3 dL_law_33 cx rfl (by decide) rfl (by decide) hf (fun hf => ?_) (fun hx hf => ?_)
  · obtain ⟨z, h1, rfl⟩ := hf
    exact lc_3 S0 hK hX hAX hsc hL hq hrb hbx hbm hcl h1 kk
  · obtain ⟨z, h1, rfl⟩ := hf
    exact sw_4 S0 hK hX hAX hsc hL hq hrb hbx hbm hcl cx (by have := tsn hg hx; omega) h1 kk
set_option maxHeartbeats 4000000 in
set_option maxRecDepth 100000 in
theorem sw_2 {p : Program} {l : Launch} {e0 : Env} {s : State} {m : MethodId} {args : Array Value} {below : List Frame} {meth : Method} {c : Code} {cells slots : Nat} {Q : State → Prop} {cA : Nat → ClassId} {D : va_G} {N : Nat} {ad : Nat → Nat} {T : Knd} {A : Rfs} {nx : Nat} {I : Mem} {sx : Sx} {b L wx wm q : Nat} {xs : Nat → Int32} (S0 : CallFix p m c code 4 s args gT RL) (hK : va_K D vwCl (tyl cA) s) (hX : XX sx N s) (hAX : AX s) (hsc : SC N b L xs s) (hL : L ≤ 3072) (hq : q + 6 ≤ L) (hrb : RB A nx) (hbx : 1 ≤ wx ∧ wx ≤ nx) (hbm : 1 ≤ wm ∧ wm ≤ nx) (hcl : cells + 21 ≤ 600000 ∧ slots + 191 ≤ 7302250) {S2 : St} {x : Int} (cx : cn x) (hg : x < 0 ∨ (2 : Int) - 1 < x) (hs : lst_2 wx wm x (xs (q + 1)).toInt (xs (q + 2)).toInt (xs (q + 3)).toInt (xs (q + 4)).toInt (xs (q + 5)).toInt T A nx I = some S2) (kk : ∀ (ad1 : Nat → Nat) (c2 s2 : Nat), (∀ i, i ≤ nx → ad1 i = ad i) → c2 ≤ cells + 21 → s2 ≤ slots + 191 → nx ≤ S2.2.2.1 → RB S2.2.1 S2.2.2.1 → G p l e0 room_1 s m args below meth c c2 s2 Q cA D N 4 ad1 S2.1 S2.2.1 S2.2.2.1 1965 [(0, .ref b), (1, rv ad1 wx), (2, rv ad1 wm), (3, iv (q : Int))] [] S2.2.2.2) : G p l e0 room_1 s m args below meth c cells slots Q cA D N 4 ad T A nx 33 [(0, .ref b), (1, rv ad wx), (2, rv ad wm), (3, iv (q : Int))] [iv x] I := by
  have hf : OK (lst_2 wx wm x (xs (q + 1)).toInt (xs (q + 2)).toInt (xs (q + 3)).toInt (xs (q + 4)).toInt (xs (q + 5)).toInt T A nx I) (fun z => z = S2) := ⟨S2, hs, rfl⟩
  unfold lst_2 at hf
  refine r_tsw (pc := 33) 2 406 S0 2 dL_law_33 cx rfl (by decide) rfl (by decide) hf (fun hf => ?_) (fun hx hf => ?_)
  · obtain ⟨z, h1, rfl⟩ := hf
    exact lc_2 S0 hK hX hAX hsc hL hq hrb hbx hbm hcl h1 kk
  · obtain ⟨z, h1, rfl⟩ := hf
    exact sw_3 S0 hK hX hAX hsc hL hq hrb hbx hbm hcl cx (by have := tsn hg hx; omega) h1 kk
set_option maxHeartbeats 4000000 in
set_option maxRecDepth 100000 in
theorem sw_1 {p : Program} {l : Launch} {e0 : Env} {s : State} {m : MethodId} {args : Array Value} {below : List Frame} {meth : Method} {c : Code} {cells slots : Nat} {Q : State → Prop} {cA : Nat → ClassId} {D : va_G} {N : Nat} {ad : Nat → Nat} {T : Knd} {A : Rfs} {nx : Nat} {I : Mem} {sx : Sx} {b L wx wm q : Nat} {xs : Nat → Int32} (S0 : CallFix p m c code 4 s args gT RL) (hK : va_K D vwCl (tyl cA) s) (hX : XX sx N s) (hAX : AX s) (hsc : SC N b L xs s) (hL : L ≤ 3072) (hq : q + 6 ≤ L) (hrb : RB A nx) (hbx : 1 ≤ wx ∧ wx ≤ nx) (hbm : 1 ≤ wm ∧ wm ≤ nx) (hcl : cells + 21 ≤ 600000 ∧ slots + 191 ≤ 7302250) {S2 : St} {x : Int} (cx : cn x) (hg : x < 0 ∨ (1 : Int) - 1 < x) (hs : lst_1 wx wm x (xs (q + 1)).toInt (xs (q + 2)).toInt (xs (q + 3)).toInt (xs (q + 4)).toInt (xs (q + 5)).toInt T A nx I = some S2) (kk : ∀ (ad1 : Nat → Nat) (c2 s2 : Nat), (∀ i, i ≤ nx → ad1 i = ad i) → c2 ≤ cells + 21 → s2 ≤ slots + 191 → nx ≤ S2.2.2.1 → RB S2.2.1 S2.2.2.1 → G p l e0 room_1 s m args below meth c c2 s2 Q cA D N 4 ad1 S2.1 S2.2.1 S2.2.2.1 1965 [(0, .ref b), (1, rv ad1 wx), (2, rv ad1 wm), (3, iv (q : Int))] [] S2.2.2.2) : G p l e0 room_1 s m args below meth c cells slots Q cA D N 4 ad T A nx 33 [(0, .ref b), (1, rv ad wx), (2, rv ad wm), (3, iv (q : Int))] [iv x] I := by
  have hf : OK (lst_1 wx wm x (xs (q + 1)).toInt (xs (q + 2)).toInt (xs (q + 3)).toInt (xs (q + 4)).toInt (xs (q + 5)).toInt T A nx I) (fun z => z = S2) := ⟨S2, hs, rfl⟩
  unfold lst_1 at hf
  refine r_tsw (pc := 33) 1 383 S0 1 dL_law_33 cx rfl (by decide) rfl (by decide) hf (fun hf => ?_) (fun hx hf => ?_)
  · obtain ⟨z, h1, rfl⟩ := hf
    exact lc_1 S0 hK hX hAX hsc hL hq hrb hbx hbm hcl h1 kk
  · obtain ⟨z, h1, rfl⟩ := hf
    exact sw_2 S0 hK hX hAX hsc hL hq hrb hbx hbm hcl cx (by have := tsn hg hx; omega) h1 kk
set_option maxHeartbeats 4000000 in
set_option maxRecDepth 100000 in
theorem sw_0 {p : Program} {l : Launch} {e0 : Env} {s : State} {m : MethodId} {args : Array Value} {below : List Frame} {meth : Method} {c : Code} {cells slots : Nat} {Q : State → Prop} {cA : Nat → ClassId} {D : va_G} {N : Nat} {ad : Nat → Nat} {T : Knd} {A : Rfs} {nx : Nat} {I : Mem} {sx : Sx} {b L wx wm q : Nat} {xs : Nat → Int32} (S0 : CallFix p m c code 4 s args gT RL) (hK : va_K D vwCl (tyl cA) s) (hX : XX sx N s) (hAX : AX s) (hsc : SC N b L xs s) (hL : L ≤ 3072) (hq : q + 6 ≤ L) (hrb : RB A nx) (hbx : 1 ≤ wx ∧ wx ≤ nx) (hbm : 1 ≤ wm ∧ wm ≤ nx) (hcl : cells + 21 ≤ 600000 ∧ slots + 191 ≤ 7302250) {S2 : St} {x : Int} (cx : cn x) (hg : x < 0 ∨ (0 : Int) - 1 < x) (hs : lst_0 wx wm x (xs (q + 1)).toInt (xs (q + 2)).toInt (xs (q + 3)).toInt (xs (q + 4)).toInt (xs (q + 5)).toInt T A nx I = some S2) (kk : ∀ (ad1 : Nat → Nat) (c2 s2 : Nat), (∀ i, i ≤ nx → ad1 i = ad i) → c2 ≤ cells + 21 → s2 ≤ slots + 191 → nx ≤ S2.2.2.1 → RB S2.2.1 S2.2.2.1 → G p l e0 room_1 s m args below meth c c2 s2 Q cA D N 4 ad1 S2.1 S2.2.1 S2.2.2.1 1965 [(0, .ref b), (1, rv ad1 wx), (2, rv ad1 wm), (3, iv (q : Int))] [] S2.2.2.2) : G p l e0 room_1 s m args below meth c cells slots Q cA D N 4 ad T A nx 33 [(0, .ref b), (1, rv ad wx), (2, rv ad wm), (3, iv (q : Int))] [iv x] I := by
  have hf : OK (lst_0 wx wm x (xs (q + 1)).toInt (xs (q + 2)).toInt (xs (q + 3)).toInt (xs (q + 4)).toInt (xs (q + 5)).toInt T A nx I) (fun z => z = S2) := ⟨S2, hs, rfl⟩
  unfold lst_0 at hf
  refine r_tsw (pc := 33) 0 320 S0 0 dL_law_33 cx rfl (by decide) rfl (by decide) hf (fun hf => ?_) (fun hx hf => ?_)
  · obtain ⟨z, h1, rfl⟩ := hf
    exact lc_0 S0 hK hX hAX hsc hL hq hrb hbx hbm hcl h1 kk
  · obtain ⟨z, h1, rfl⟩ := hf
    exact sw_1 S0 hK hX hAX hsc hL hq hrb hbx hbm hcl cx (by have := tsn hg hx; omega) h1 kk
