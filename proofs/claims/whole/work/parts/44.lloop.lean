/-! The law's loop: each turn is a step of lstep; what holds of the state (Inv) is B's. -/
theorem lq1 {q L : Nat} (hL : L ≤ 3072) (h : ¬ q + 6 ≤ L) : ¬ (q : Int) ≤ isb (L : Int) 6 := by unfold isb wrap; omega
theorem lq2 {q L : Nat} (hL : L ≤ 3072) (h : q + 6 ≤ L) : (q : Int) ≤ isb (L : Int) 6 := by unfold isb wrap; omega
theorem larith {q n L cells slots c2 s2 : Nat} (hL : L ≤ 3072) (hn : L ≤ q + (n + 1)) (hq6 : q + 6 ≤ L) (hc1 : cells ≤ 200 + 21 * q) (hc2 : slots ≤ 14000 + 191 * q) (g1 : c2 ≤ cells + 21) (g2 : s2 ≤ slots + 191) : L ≤ q + 6 + n ∧ q + 6 ≤ 3078 ∧ c2 ≤ 200 + 21 * (q + 6) ∧ s2 ≤ 14000 + 191 * (q + 6) := ⟨by omega, by omega, by omega, by omega⟩
theorem larith2 {q L cells slots : Nat} (hL : L ≤ 3072) (hq6 : q + 6 ≤ L) (hc1 : cells ≤ 200 + 21 * q) (hc2 : slots ≤ 14000 + 191 * q) : cells + 21 ≤ 600000 ∧ slots + 191 ≤ 7302250 := ⟨by omega, by omega⟩
set_option maxHeartbeats 4000000 in
set_option maxRecDepth 100000 in
theorem law_loop {p : Program} {l : Launch} {e0 : Env} {s : State} {m : MethodId} {args : Array Value} {below : List Frame} {meth : Method} {c : Code} {Q : State → Prop} {cA : Nat → ClassId} {D : va_G} {N : Nat} {sx : Sx} {b L wx wm : Nat} {xs : Nat → Int32} (S0 : CallFix p m c code 4 s args gT RL) (hK : va_K D vwCl (tyl cA) s) (hX : XX sx N s) (hAX : AX s) (hsc : SC N b L xs s) (hL : L ≤ 3072) (Inv : Knd → Rfs → Nat → Mem → Prop)
    (hstep : ∀ (op a1 a2 a3 a4 a5 : Int) (T : Knd) (A : Rfs) (nx : Nat) (I : Mem), cn a1 → cn a2 → cn a3 → cn a4 → cn a5 → Inv T A nx I → ∃ S2 : St, lstep wx wm op a1 a2 a3 a4 a5 T A nx I = some S2 ∧ Inv S2.1 S2.2.1 S2.2.2.1 S2.2.2.2)
    (hend : ∀ (ad : Nat → Nat) (T : Knd) (A : Rfs) (nx : Nat) (I : Mem) (cells slots q : Nat), cells ≤ 600000 → slots ≤ 7302250 → G p l e0 room_1 s m args below meth c cells slots Q cA D N 4 ad T A nx 1971 [(0, .ref b), (1, rv ad wx), (2, rv ad wm), (3, iv (q : Int))] [] I) :
    ∀ (n q : Nat) (ad : Nat → Nat) (T : Knd) (A : Rfs) (nx : Nat) (I : Mem) (cells slots : Nat), L ≤ q + n → q ≤ 3078 → Inv T A nx I → RB A nx → (1 ≤ wx ∧ wx ≤ nx) → (1 ≤ wm ∧ wm ≤ nx) → cells ≤ 200 + 21 * q → slots ≤ 14000 + 191 * q →
      G p l e0 room_1 s m args below meth c cells slots Q cA D N 4 ad T A nx 18 [(0, .ref b), (1, rv ad wx), (2, rv ad wm), (3, iv (q : Int))] [] I := by
  intro n
  induction n with
  | zero =>
    intro q ad T A nx I cells slots hn hq hI hrb hbx hbm hc1 hc2
    have cq : cn (q : Int) := ⟨by omega, by omega⟩
    refine r_iload_n (pc := 18) S0 3 dL_law_18 rfl rfl ?_
    refine r_aload_n (pc := 19) S0 0 dL_law_19 rfl rfl ?_
    refine r_slx (pc := 20) S0 hsc dL_law_20 ?_
    refine r_bipush (pc := 21) S0 dL_law_21 (by decide) ?_
    refine r_isub (pc := 23) S0 dL_law_23 ?_
    refine r_icmp_gt (pc := 24) (tgt := 1971) S0 dL_law_24 (by decide) cq (cn_wrap _) (ok_f (c := (q : Int) ≤ isb (L : Int) 6) (lq1 hL (by omega))) (fun _ => ?_) (fun hf => (ok_none hf).elim)
    exact hend ad T A nx I cells slots q (by omega) (by omega)
  | succ n ih =>
    intro q ad T A nx I cells slots hn hq hI hrb hbx hbm hc1 hc2
    have cq : cn (q : Int) := ⟨by omega, by omega⟩
    refine r_iload_n (pc := 18) S0 3 dL_law_18 rfl rfl ?_
    refine r_aload_n (pc := 19) S0 0 dL_law_19 rfl rfl ?_
    refine r_slx (pc := 20) S0 hsc dL_law_20 ?_
    refine r_bipush (pc := 21) S0 dL_law_21 (by decide) ?_
    refine r_isub (pc := 23) S0 dL_law_23 ?_

    by_cases hq6 : q + 6 ≤ L
    · refine r_icmp_gt (pc := 24) (tgt := 1971) S0 dL_law_24 (by decide) cq (cn_wrap _) (ok_t (c := (q : Int) ≤ isb (L : Int) 6) (lq2 hL hq6)) (fun hf => (ok_none hf).elim) (fun _ => ?_)
      refine r_aload_n (pc := 27) S0 0 dL_law_27 rfl rfl ?_
      refine r_iload_n (pc := 28) S0 3 dL_law_28 rfl rfl ?_
      refine r_sld (pc := 29) (j := q) S0 hsc hL rfl (by omega) dL_law_29 ?_
      refine r_bipush (pc := 30) S0 dL_law_30 (by decide) ?_
      refine r_iand (pc := 32) S0 dL_law_32 ?_
      obtain ⟨S2, hs, hI2⟩ := hstep (iand (xs q).toInt 127) (xs (q + 1)).toInt (xs (q + 2)).toInt (xs (q + 3)).toInt (xs (q + 4)).toInt (xs (q + 5)).toInt T A nx I (cn_toInt _) (cn_toInt _) (cn_toInt _) (cn_toInt _) (cn_toInt _) hI
      have hcl := larith2 hL hq6 hc1 hc2
      have hg : iand (xs q).toInt 127 < 0 ∨ (0 : Int) - 1 < iand (xs q).toInt 127 := by omega
      refine sw_0 S0 hK hX hAX hsc hL hq6 hrb hbx hbm hcl (cn_toInt _) hg hs (fun ad1 c2 s2 hag g1 g2 g3 g4 => ?_)
      refine r_iinc (pc := 1965) (lv' := [(3, iv (ia (q : Int) 6)), (0, .ref b), (1, rv ad1 wx), (2, rv ad1 wm)]) S0 3 dL_law_1965 rfl (by decide) rfl ?_
      refine r_goto (pc := 1968) (tgt := 18) S0 dL_law_1968 (by decide) ?_
      refine r_lv [1, 2, 3, 0] rfl ?_
      have e6 : ia (q : Int) 6 = ((q + 6 : Nat) : Int) := lsi q 6 (by omega) (by omega)
      rw [e6]
      obtain ⟨z1, z2, z3, z4⟩ := larith hL hn hq6 hc1 hc2 g1 g2
      exact ih (q + 6) ad1 S2.1 S2.2.1 S2.2.2.1 S2.2.2.2 c2 s2 z1 z2 hI2 g4 ⟨hbx.1, Nat.le_trans hbx.2 g3⟩ ⟨hbm.1, Nat.le_trans hbm.2 g3⟩ z3 z4
    · refine r_icmp_gt (pc := 24) (tgt := 1971) S0 dL_law_24 (by decide) cq (cn_wrap _) (ok_f (c := (q : Int) ≤ isb (L : Int) 6) (lq1 hL hq6)) (fun _ => ?_) (fun hf => (ok_none hf).elim)
      exact hend ad T A nx I cells slots q (by omega) (by omega)
