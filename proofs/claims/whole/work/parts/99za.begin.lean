/-! B: the end. -/
theorem some_getD {α : Type} {o : Option α} {d : α} (h : o.isSome = true) : o = some (o.getD d) := by
  cases o with
  | none => exact absurd h Bool.false_ne_true
  | some a => rfl
theorem e1_B : f_X11_init P0v.1 P0v.2.1 P0v.2.2.1 (0 + 1) P0v.2.2.2 = some S1v := some_getD (d := P0v) s1_some
theorem e2_B : f_X12_init P1v.1 P1v.2.1 P1v.2.2.1 (S1v.2.2.1 + 1) P1v.2.2.2 = some S2v := some_getD (d := P1v) s2_some
theorem e0_B : nwO 11 (kn0, rf0, 0, mm0) = some P0v := rfl
theorem nwO_12 (S : St) : nwO 12 (S.1, S.2.1, S.2.2.1, S.2.2.2) = some (nwC (12, 0) S) := rfl
theorem e3_B : nwO 12 (S1v.1, S1v.2.1, S1v.2.2.1, S1v.2.2.2) = some P1v := nwO_12 S1v
/-- YOUR PART: from the entry, for every script of at most 3072 ints, the law comes to its end with true ('hflags': the launch's flags, for a law that throws: no stack traces) -/
theorem whole_start {p : Program} {e : Env} {s : State} {m : MethodId} {below : List Frame} {meth : Method} {c : Code} (l : Launch) (hflags : l.flags = flags0) {b L : Nat} {xs : Nat → Int32} (hL : L ≤ 3072) (C0 : lw_At p s m meth c b L xs) : W p l e room_1 s m #[Value.ref b] below meth c s.heap [] 0 0 (lw_Z below #[Value.ref b] s) (entryFrame m ([Value.ref b] : List Value).toArray 4) := by
  exact whole_of l hL C0 InvB e0_B e1_B e3_B e2_B inv_0 hstep_B
