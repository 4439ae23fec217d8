/-! What a method finds when it is called, contracts, calls, ends. -/
def gT : List Cond := lw_tbl.filter goodWord
def isNest (w : Cond) : Bool := match w with
  | .methodLinkNest .. => true
  | _ => false
def nstW : List Cond := lw_tbl.filter isNest
/-- the Reader's String constants: place in the pool, text; their lengths, their bytes -/
def strs : List (Nat × String) := [(43, "office"), (93, "rooms"), (101, "in"), (106, "at"), (59, "official"), (114, "room"), (120, "from"), (122, "to"), (124, "days"), (126, "lunch"), (132, "fades"), (134, "price"), (64, "way"), (69, "needs"), (75, "bars"), (77, "leave"), (82, "permit")]
def lenS : List Nat := [6, 5, 2, 2, 8, 4, 4, 2, 4, 5, 5, 5, 3, 5, 4, 5, 6]
def bytS : List (List Int32) := [[111, 102, 102, 105, 99, 101], [114, 111, 111, 109, 115], [105, 110], [97, 116], [111, 102, 102, 105, 99, 105, 97, 108], [114, 111, 111, 109], [102, 114, 111, 109], [116, 111], [100, 97, 121, 115], [108, 117, 110, 99, 104], [102, 97, 100, 101, 115], [112, 114, 105, 99, 101], [119, 97, 121], [110, 101, 101, 100, 115], [98, 97, 114, 115], [108, 101, 97, 118, 101], [112, 101, 114, 109, 105, 116]]
abbrev Sx : Type := (Nat → Nat) × (Nat → Nat)
def SX (sx : Sx) (N : Nat) (U : State) : Prop := vk_S 17 lenS bytS sx.1 sx.2 (A0 N) U U.heap ∧ (∀ (i : Nat) (q : Nat × String), strs[i]? = some q → vk_R RX4 q.1 q.2 (sx.1 i) U) ∧ va_Z "java/lang/String" "COMPACT_STRINGS" "Z" (.int 1) (A0 N) U U.heap ∧ ∃ v, va_Z "jdk/internal/util/Preconditions" "SIOOBE_FORMATTER" "Ljava/util/function/BiFunction;" (va_rf v) (A0 N) U U.heap
def XX (sx : Sx) (N : Nat) (U : State) : Prop := (∀ w ∈ nstW, va_Nw w U) ∧ SX sx N U
theorem nst_is {w : Cond} (h : w ∈ nstW) : ∃ a i x b, w = .methodLinkNest a i x b := by
  have h2 : isNest w = true := (List.mem_filter.mp h).2
  cases w <;> first | exact ⟨_, _, _, _, rfl⟩ | cases h2
theorem XX_same {sx : Sx} {N : Nat} {u U : State} (h : XX sx N u) (hv : U.vm = u.vm) (hh : U.heap = u.heap) : XX sx N U := by
  obtain ⟨h1, h2, h3, h4, v, h5⟩ := h
  have ha : u.vm.Alike U.vm := by rw [hv]; exact Vm.Alike.refl _
  refine ⟨fun w hw => ?_, by rw [hh]; exact h2.moved ha, fun i q hq => vk_R.same hv (h3 i q hq), by rw [hh]; exact h4.moved ha, v, by rw [hh]; exact h5.moved ha⟩
  obtain ⟨a, i, x, b, rfl⟩ := nst_is hw
  exact va_Nw.same rfl hv.symm (h1 _ hw)
theorem XX_warm {sx : Sx} {N : Nat} {s U : State} (h : XX sx N s) (hW : s.WarmedH U.vm) (hq : ∀ a : Nat, a < s.heap.size → ¬ A0 N a → U.heap[a]? = s.heap[a]?) : XX sx N U := by
  obtain ⟨h1, h2, h3, h4, v, h5⟩ := h
  refine ⟨fun w hw => ?_, (h2.kept hq).moved hW.alike, fun i q hi => vk_R.warm hW (h3 i q hi), (h4.kept hq).moved hW.alike, v, (h5.kept hq).moved hW.alike⟩
  obtain ⟨a, i, x, b, rfl⟩ := nst_is hw
  exact va_Nw.warmM hW (h1 _ hw)
/-- at a call -/
def Pre (cA : Nat → ClassId) (D : va_G) (N : Nat) (sx : Sx) (ad : Nat → Nat) (T : Knd) (A : Rfs) (nx : Nat) (I : Mem) (U : State) : Prop := HP cA D ad T A nx N I U.heap ∧ va_K D vwCl (tyl cA) U ∧ XX sx N U
theorem pre_blind {cA : Nat → ClassId} {D : va_G} {N : Nat} {sx : Sx} {ad : Nat → Nat} {T : Knd} {A : Rfs} {nx : Nat} {I : Mem} {av : List Value} : FrameBlind (va_Pc av (Pre cA D N sx ad T A nx I)) := fun a U g mk h => ⟨h.1, h.2.1, va_K.moved (u := U) (U := U.calling g mk a) (Vm.Alike.refl U.vm) h.2.2.1, XX_same (u := U) (U := U.calling g mk a) h.2.2.2 rfl rfl⟩
abbrev rmx (fr lo : Nat) : Room := { frames := fr, cells := 0, slots := 0, locals := lo }
section CT
variable (l : Launch) (y : MethodName) (cc : ByteArray) (nL : Nat) (ret : Option FieldType) (fr lo : Nat) (cA : Nat → ClassId) (D : va_G) (N : Nat) (sx : Sx) (ad : Nat → Nat) (T : Knd) (A : Rfs) (nx : Nat) (av : List Value) (I : Mem)
/-- contracts: an int (boolean) comes back, a long, nothing, an object -/
def CtI (I' : Mem) (r : Int) : Prop := Met l y (.code y cc nL ret :: gT) (rmx fr lo) (va_Pc av (Pre cA D N sx ad T A nx I)) (va_Qi (S := Unit) (fun z _ => z = Int32.ofInt r ∧ cn r) (fun _ t => HP cA D ad T A nx N I' t.heap) (A0 N)) 0 0 (A0 N)
def CtJ (I' : Mem) (r : Int) : Prop := Met l y (.code y cc nL ret :: gT) (rmx fr lo) (va_Pc av (Pre cA D N sx ad T A nx I)) (va_Ql (S := Unit) (fun z _ => z = Int64.ofInt r ∧ cl r) (fun _ t => HP cA D ad T A nx N I' t.heap) (A0 N)) 0 0 (A0 N)
def CtV (I' : Mem) : Prop := Met l y (.code y cc nL ret :: gT) (rmx fr lo) (va_Pc av (Pre cA D N sx ad T A nx I)) (va_Qv (S := Unit) (fun _ => True) (fun _ t => HP cA D ad T A nx N I' t.heap) (A0 N)) 0 0 (A0 N)
def CtR (I' : Mem) (r : Nat) : Prop := Met l y (.code y cc nL ret :: gT) (rmx fr lo) (va_Pc av (Pre cA D N sx ad T A nx I)) (va_Qr (S := Unit) (fun _ => True) (fun _ a t => a = ad r ∧ HP cA D ad T A nx N I' t.heap) (A0 N)) 0 0 (A0 N)
end CT
theorem gm {w : Cond} (i : Nat) (h : tables_1[i]? = some w) (hg : goodWord w = true) : w ∈ gT := List.mem_filter.mpr ⟨List.mem_append_right _ (List.mem_of_getElem? h), hg⟩
theorem gmp {w : Cond} (i : Nat) (h : (k2_sels lw_privs)[i]? = some w) (hg : goodWord w = true) : w ∈ gT := List.mem_filter.mpr ⟨List.mem_append_left _ (List.mem_of_getElem? h), hg⟩
theorem gmn {w : Cond} (i : Nat) (h : tables_1[i]? = some w) (hg : isNest w = true) : w ∈ nstW := List.mem_filter.mpr ⟨List.mem_append_right _ (List.mem_of_getElem? h), hg⟩
theorem cn_lcmp (x y : Int) : cn (ilcmp x y) := by
  unfold ilcmp
  split
  · exact ⟨by decide, by decide⟩
  · split
    · exact ⟨by decide, by decide⟩
    · exact ⟨by decide, by decide⟩
theorem gT_good {c : Cond} (hc : c ∈ gT) : GoodIn gT (c :: gT) := by
  intro w hw
  have h : w ∈ gT := by
    rcases List.mem_cons.mp hw with h | h
    · rw [h]; exact hc
    · exact h
  exact ⟨h, good_of_word (List.mem_filter.mp h).2⟩
/-- a call site's words: virtual, static, of a nest mate -/
def MB (own : String) (index : Nat) (y : MethodName) (bytes : ByteArray) (maxL : Nat) (ret : Option FieldType) (n : Nat) : Prop := Cond.methodLink own index y ∈ gT ∧ Cond.code y bytes maxL ret ∈ gT ∧ Cond.initialized y.cls ∈ gT ∧ y.cls ≠ "java/lang/invoke/MethodHandle" ∧ y.cls ≠ "java/lang/invoke/VarHandle" ∧ (parseMethodDescriptor y.desc).map (fun d => d.parameters.length) = some n
def MV (own : String) (index : Nat) (ci : Nat) (y : MethodName) (bytes : ByteArray) (maxL : Nat) (ret : Option FieldType) (n : Nat) : Prop := MB own index y bytes maxL ret n ∧ ci < 13 ∧ (∃ TT, vwCl[ci]? = some (y.cls, TT, (ftc ci).length)) ∧ Cond.instanceMethod y ∈ gT ∧ Cond.selects y.cls y y ∈ gT
def MS (own : String) (index : Nat) (y : MethodName) (bytes : ByteArray) (maxL : Nat) (ret : Option FieldType) (n : Nat) : Prop := MB own index y bytes maxL ret n ∧ Cond.static y ∈ gT
def MN (own : String) (index : Nat) (y : MethodName) (host : String) (bytes : ByteArray) (maxL : Nat) (ret : Option FieldType) (n : Nat) : Prop := Cond.methodLinkNest own index y host ∈ nstW ∧ Cond.code y bytes maxL ret ∈ gT ∧ Cond.initialized y.cls ∈ gT ∧ y.cls ≠ "java/lang/invoke/MethodHandle" ∧ y.cls ≠ "java/lang/invoke/VarHandle" ∧ (parseMethodDescriptor y.desc).map (fun d => d.parameters.length) = some n ∧ Cond.static y ∈ gT
section GR4
variable {p : Program} {l : Launch} {e : Env} {R : Room} {s : State} {m : MethodId} {args : Array Value} {below : List Frame} {meth : Method} {c : Code} {cells slots : Nat} {Q : State → Prop} {cA : Nat → ClassId} {D : va_G} {N nL : Nat} {ad : Nat → Nat} {T : Knd} {A : Rfs} {nx : Nat} {pc : Nat} {lv lv' : List (Nat × Value)} {st : List Value} {I : Mem}
variable {cc : ByteArray} {own : String} {sx : Sx}

theorem cb_of {y : MethodName} {bytes : ByteArray} {maxL n index fr lo : Nat} {ret : Option FieldType} (ht : ∀ w ∈ gT, w.before args s = true) (h : MB own index y bytes maxL ret n) (hR : fr + 1 ≤ R.frames ∧ 8 + (maxL + 11) + lo ≤ R.locals) : CallB R s args own index y bytes maxL ret (.code y bytes maxL ret :: gT) (rmx fr lo) 0 0 n := by
  obtain ⟨h1, h2, h3, h4, h5, h6⟩ := h
  exact callB_of n ht (gT_good h2) rfl rfl rfl (ht _ h3) (ht _ h1) ⟨h4, h5, h6⟩ hR
theorem pre_here (hX : XX sx N s) (hK : va_K D vwCl (tyl cA) s) {H : Heap} {locs : List Loc} (hH : HP cA D ad T A nx N I H) (hS : va_S (A0 N) s.heap H locs) {U : State} (hU : U.heap = H) (hW : s.WarmedH U.vm) : Pre cA D N sx ad T A nx I U := ⟨by rw [hU]; exact hH, va_K.moved hW.alike hK, XX_warm hX hW (fun a h1 h2 => by rw [hU]; exact hS.2.1 a h1 h2)⟩
theorem r_cV_I (As : List Value) (S : CallFix p m c cc nL s args gT own) (hK : va_K D vwCl (tyl cA) s) (hX : XX sx N s) {y : MethodName} {bytes : ByteArray} {maxL n index fr lo : Nat} {ret : Option FieldType} {ci a : Nat}  {st0 : List Value} {I' : Mem} {r : Int} (hm : MV own index ci y bytes maxL ret n) (hTa : (T a).1 = ci) (hM : CtI l y bytes maxL ret fr lo cA D N sx ad T A nx (rv ad a :: As) I I' r) (hn : As.length = n) (hst : st0 = As.reverse ++ rv ad a :: st) (hR : fr + 1 ≤ R.frames ∧ 8 + (maxL + 11) + lo ≤ R.locals) (hcat : (st.map fun v => v.category).sum ≤ 8) (hcs : cells ≤ R.cells ∧ slots ≤ R.slots) (hd : decode cc pc = .ok (.invokevirtual index, 3)) (kk : cn r → G p l e R s m args below meth c cells slots Q cA D N nL ad T A nx (pc + 3) lv (iv r :: st) I') : G p l e R s m args below meth c cells slots Q cA D N nL ad T A nx (pc) lv (st0) I := by
  intro H locs ls hH hS hl
  obtain ⟨TT, hc⟩ := hm.2.2.1
  obtain ⟨b1, b2⟩ := hH.2.2.1 a (by have := hm.2.1; omega)
  have hrecv := va_recv (D := D) (cl := vwCl) (a := ad a) hK hH.1 hc ((wl_get b1 b2).trans (congrArg (fun z => some (ad a, z)) (ent_cls hTa hm.2.1)))
  refine va_calli (va_runV (As := As) (rest := st) (C := y.cls) ⟨S.1, S.2.1, S.2.2.1, S.2.2.2.1, S.2.2.2.2⟩ hM ⟨cb_of S.2.2.2.2 hm.1 hR, S.2.2.2.2 _ hm.2.2.2.1, S.2.2.2.2 _ hm.2.2.2.2⟩ ⟨pre_blind, hrecv, fun U hU hW => ⟨rfl, pre_here hX hK hH hS hU hW⟩⟩ rfl hn hl.1 hst (lv_room hcat) hd hcs) hS (fun q _ h => h) (fun q h => h) (fun r0 u t H1 locs1 ht hvm hw hB hz1 hk1 hS1 => ?_)
  rw [hw.1]
  exact kk hw.2 H1 locs1 ls (by rw [← ht]; exact hB) hS1 hl
theorem r_cV_J (As : List Value) (S : CallFix p m c cc nL s args gT own) (hK : va_K D vwCl (tyl cA) s) (hX : XX sx N s) {y : MethodName} {bytes : ByteArray} {maxL n index fr lo : Nat} {ret : Option FieldType} {ci a : Nat}  {st0 : List Value} {I' : Mem} {r : Int} (hm : MV own index ci y bytes maxL ret n) (hTa : (T a).1 = ci) (hM : CtJ l y bytes maxL ret fr lo cA D N sx ad T A nx (rv ad a :: As) I I' r) (hn : As.length = n) (hst : st0 = As.reverse ++ rv ad a :: st) (hR : fr + 1 ≤ R.frames ∧ 8 + (maxL + 11) + lo ≤ R.locals) (hcat : (st.map fun v => v.category).sum ≤ 8) (hcs : cells ≤ R.cells ∧ slots ≤ R.slots) (hd : decode cc pc = .ok (.invokevirtual index, 3)) (kk : cl r → G p l e R s m args below meth c cells slots Q cA D N nL ad T A nx (pc + 3) lv (jv r :: st) I') : G p l e R s m args below meth c cells slots Q cA D N nL ad T A nx (pc) lv (st0) I := by
  intro H locs ls hH hS hl
  obtain ⟨TT, hc⟩ := hm.2.2.1
  obtain ⟨b1, b2⟩ := hH.2.2.1 a (by have := hm.2.1; omega)
  have hrecv := va_recv (D := D) (cl := vwCl) (a := ad a) hK hH.1 hc ((wl_get b1 b2).trans (congrArg (fun z => some (ad a, z)) (ent_cls hTa hm.2.1)))
  refine va_calll (va_runV (As := As) (rest := st) (C := y.cls) ⟨S.1, S.2.1, S.2.2.1, S.2.2.2.1, S.2.2.2.2⟩ hM ⟨cb_of S.2.2.2.2 hm.1 hR, S.2.2.2.2 _ hm.2.2.2.1, S.2.2.2.2 _ hm.2.2.2.2⟩ ⟨pre_blind, hrecv, fun U hU hW => ⟨rfl, pre_here hX hK hH hS hU hW⟩⟩ rfl hn hl.1 hst (lv_room hcat) hd hcs) hS (fun q _ h => h) (fun q h => h) (fun r0 u t H1 locs1 ht hvm hw hB hz1 hk1 hS1 => ?_)
  rw [hw.1]
  exact kk hw.2 H1 locs1 ls (by rw [← ht]; exact hB) hS1 hl
theorem r_cV_V (As : List Value) (S : CallFix p m c cc nL s args gT own) (hK : va_K D vwCl (tyl cA) s) (hX : XX sx N s) {y : MethodName} {bytes : ByteArray} {maxL n index fr lo : Nat} {ret : Option FieldType} {ci a : Nat}  {st0 : List Value} {I' : Mem} (hm : MV own index ci y bytes maxL ret n) (hTa : (T a).1 = ci) (hM : CtV l y bytes maxL ret fr lo cA D N sx ad T A nx (rv ad a :: As) I I') (hn : As.length = n) (hst : st0 = As.reverse ++ rv ad a :: st) (hR : fr + 1 ≤ R.frames ∧ 8 + (maxL + 11) + lo ≤ R.locals) (hcat : (st.map fun v => v.category).sum ≤ 8) (hcs : cells ≤ R.cells ∧ slots ≤ R.slots) (hd : decode cc pc = .ok (.invokevirtual index, 3)) (kk : G p l e R s m args below meth c cells slots Q cA D N nL ad T A nx (pc + 3) lv (st) I') : G p l e R s m args below meth c cells slots Q cA D N nL ad T A nx (pc) lv (st0) I := by
  intro H locs ls hH hS hl
  obtain ⟨TT, hc⟩ := hm.2.2.1
  obtain ⟨b1, b2⟩ := hH.2.2.1 a (by have := hm.2.1; omega)
  have hrecv := va_recv (D := D) (cl := vwCl) (a := ad a) hK hH.1 hc ((wl_get b1 b2).trans (congrArg (fun z => some (ad a, z)) (ent_cls hTa hm.2.1)))
  refine va_callv (va_runV (As := As) (rest := st) (C := y.cls) ⟨S.1, S.2.1, S.2.2.1, S.2.2.2.1, S.2.2.2.2⟩ hM ⟨cb_of S.2.2.2.2 hm.1 hR, S.2.2.2.2 _ hm.2.2.2.1, S.2.2.2.2 _ hm.2.2.2.2⟩ ⟨pre_blind, hrecv, fun U hU hW => ⟨rfl, pre_here hX hK hH hS hU hW⟩⟩ rfl hn hl.1 hst (lv_room hcat) hd hcs) hS (fun q _ h => h) (fun q h => h) (fun u t H1 locs1 ht hvm hw hB hz1 hk1 hS1 => ?_)
  exact kk H1 locs1 ls (by rw [← ht]; exact hB) hS1 hl
theorem r_cV_R (As : List Value) (S : CallFix p m c cc nL s args gT own) (hK : va_K D vwCl (tyl cA) s) (hX : XX sx N s) {y : MethodName} {bytes : ByteArray} {maxL n index fr lo : Nat} {ret : Option FieldType} {ci a : Nat}  {st0 : List Value} {I' : Mem} {r : Nat} (hm : MV own index ci y bytes maxL ret n) (hTa : (T a).1 = ci) (hM : CtR l y bytes maxL ret fr lo cA D N sx ad T A nx (rv ad a :: As) I I' r) (hn : As.length = n) (hst : st0 = As.reverse ++ rv ad a :: st) (hR : fr + 1 ≤ R.frames ∧ 8 + (maxL + 11) + lo ≤ R.locals) (hcat : (st.map fun v => v.category).sum ≤ 8) (hcs : cells ≤ R.cells ∧ slots ≤ R.slots) (hd : decode cc pc = .ok (.invokevirtual index, 3)) (kk : G p l e R s m args below meth c cells slots Q cA D N nL ad T A nx (pc + 3) lv (rv ad r :: st) I') : G p l e R s m args below meth c cells slots Q cA D N nL ad T A nx (pc) lv (st0) I := by
  intro H locs ls hH hS hl
  obtain ⟨TT, hc⟩ := hm.2.2.1
  obtain ⟨b1, b2⟩ := hH.2.2.1 a (by have := hm.2.1; omega)
  have hrecv := va_recv (D := D) (cl := vwCl) (a := ad a) hK hH.1 hc ((wl_get b1 b2).trans (congrArg (fun z => some (ad a, z)) (ent_cls hTa hm.2.1)))
  refine va_callr (va_runV (As := As) (rest := st) (C := y.cls) ⟨S.1, S.2.1, S.2.2.1, S.2.2.2.1, S.2.2.2.2⟩ hM ⟨cb_of S.2.2.2.2 hm.1 hR, S.2.2.2.2 _ hm.2.2.2.1, S.2.2.2.2 _ hm.2.2.2.2⟩ ⟨pre_blind, hrecv, fun U hU hW => ⟨rfl, pre_here hX hK hH hS hU hW⟩⟩ rfl hn hl.1 hst (lv_room hcat) hd hcs) hS (fun q _ h => h) (fun q h => h) (fun u ra t H1 locs1 ht hvm hw hB hz1 hk1 hS1 => ?_)
  rw [hB.1]
  exact kk H1 locs1 ls (by rw [← ht]; exact hB.2) hS1 hl
theorem r_cS_I (As : List Value) (S : CallFix p m c cc nL s args gT own) (hK : va_K D vwCl (tyl cA) s) (hX : XX sx N s) {y : MethodName} {bytes : ByteArray} {maxL n index fr lo : Nat} {ret : Option FieldType}  {st0 : List Value} {I' : Mem} {r : Int} (hm : MS own index y bytes maxL ret n) (hM : CtI l y bytes maxL ret fr lo cA D N sx ad T A nx As I I' r) (hn : As.length = n) (hst : st0 = As.reverse ++ st) (hR : fr + 1 ≤ R.frames ∧ 8 + (maxL + 11) + lo ≤ R.locals) (hcat : (st.map fun v => v.category).sum ≤ 8) (hcs : cells ≤ R.cells ∧ slots ≤ R.slots) (hd : decode cc pc = .ok (.invokestatic index, 3)) (kk : cn r → G p l e R s m args below meth c cells slots Q cA D N nL ad T A nx (pc + 3) lv (iv r :: st) I') : G p l e R s m args below meth c cells slots Q cA D N nL ad T A nx (pc) lv (st0) I := by
  intro H locs ls hH hS hl
  refine va_calli (va_runS (As := As) (rest := st) ⟨S.1, S.2.1, S.2.2.1, S.2.2.2.1, S.2.2.2.2⟩ hM ⟨cb_of S.2.2.2.2 hm.1 hR, S.2.2.2.2 _ hm.2⟩ ⟨pre_blind, fun U hU hW => ⟨rfl, pre_here hX hK hH hS hU hW⟩⟩ rfl hn hl.1 hst (lv_room hcat) hd hcs) hS (fun q _ h => h) (fun q h => h) (fun r0 u t H1 locs1 ht hvm hw hB hz1 hk1 hS1 => ?_)
  rw [hw.1]
  exact kk hw.2 H1 locs1 ls (by rw [← ht]; exact hB) hS1 hl
theorem r_cS_J (As : List Value) (S : CallFix p m c cc nL s args gT own) (hK : va_K D vwCl (tyl cA) s) (hX : XX sx N s) {y : MethodName} {bytes : ByteArray} {maxL n index fr lo : Nat} {ret : Option FieldType}  {st0 : List Value} {I' : Mem} {r : Int} (hm : MS own index y bytes maxL ret n) (hM : CtJ l y bytes maxL ret fr lo cA D N sx ad T A nx As I I' r) (hn : As.length = n) (hst : st0 = As.reverse ++ st) (hR : fr + 1 ≤ R.frames ∧ 8 + (maxL + 11) + lo ≤ R.locals) (hcat : (st.map fun v => v.category).sum ≤ 8) (hcs : cells ≤ R.cells ∧ slots ≤ R.slots) (hd : decode cc pc = .ok (.invokestatic index, 3)) (kk : cl r → G p l e R s m args below meth c cells slots Q cA D N nL ad T A nx (pc + 3) lv (jv r :: st) I') : G p l e R s m args below meth c cells slots Q cA D N nL ad T A nx (pc) lv (st0) I := by
  intro H locs ls hH hS hl
  refine va_calll (va_runS (As := As) (rest := st) ⟨S.1, S.2.1, S.2.2.1, S.2.2.2.1, S.2.2.2.2⟩ hM ⟨cb_of S.2.2.2.2 hm.1 hR, S.2.2.2.2 _ hm.2⟩ ⟨pre_blind, fun U hU hW => ⟨rfl, pre_here hX hK hH hS hU hW⟩⟩ rfl hn hl.1 hst (lv_room hcat) hd hcs) hS (fun q _ h => h) (fun q h => h) (fun r0 u t H1 locs1 ht hvm hw hB hz1 hk1 hS1 => ?_)
  rw [hw.1]
  exact kk hw.2 H1 locs1 ls (by rw [← ht]; exact hB) hS1 hl
theorem r_cS_V (As : List Value) (S : CallFix p m c cc nL s args gT own) (hK : va_K D vwCl (tyl cA) s) (hX : XX sx N s) {y : MethodName} {bytes : ByteArray} {maxL n index fr lo : Nat} {ret : Option FieldType}  {st0 : List Value} {I' : Mem} (hm : MS own index y bytes maxL ret n) (hM : CtV l y bytes maxL ret fr lo cA D N sx ad T A nx As I I') (hn : As.length = n) (hst : st0 = As.reverse ++ st) (hR : fr + 1 ≤ R.frames ∧ 8 + (maxL + 11) + lo ≤ R.locals) (hcat : (st.map fun v => v.category).sum ≤ 8) (hcs : cells ≤ R.cells ∧ slots ≤ R.slots) (hd : decode cc pc = .ok (.invokestatic index, 3)) (kk : G p l e R s m args below meth c cells slots Q cA D N nL ad T A nx (pc + 3) lv (st) I') : G p l e R s m args below meth c cells slots Q cA D N nL ad T A nx (pc) lv (st0) I := by
  intro H locs ls hH hS hl
  refine va_callv (va_runS (As := As) (rest := st) ⟨S.1, S.2.1, S.2.2.1, S.2.2.2.1, S.2.2.2.2⟩ hM ⟨cb_of S.2.2.2.2 hm.1 hR, S.2.2.2.2 _ hm.2⟩ ⟨pre_blind, fun U hU hW => ⟨rfl, pre_here hX hK hH hS hU hW⟩⟩ rfl hn hl.1 hst (lv_room hcat) hd hcs) hS (fun q _ h => h) (fun q h => h) (fun u t H1 locs1 ht hvm hw hB hz1 hk1 hS1 => ?_)
  exact kk H1 locs1 ls (by rw [← ht]; exact hB) hS1 hl
theorem r_cS_R (As : List Value) (S : CallFix p m c cc nL s args gT own) (hK : va_K D vwCl (tyl cA) s) (hX : XX sx N s) {y : MethodName} {bytes : ByteArray} {maxL n index fr lo : Nat} {ret : Option FieldType}  {st0 : List Value} {I' : Mem} {r : Nat} (hm : MS own index y bytes maxL ret n) (hM : CtR l y bytes maxL ret fr lo cA D N sx ad T A nx As I I' r) (hn : As.length = n) (hst : st0 = As.reverse ++ st) (hR : fr + 1 ≤ R.frames ∧ 8 + (maxL + 11) + lo ≤ R.locals) (hcat : (st.map fun v => v.category).sum ≤ 8) (hcs : cells ≤ R.cells ∧ slots ≤ R.slots) (hd : decode cc pc = .ok (.invokestatic index, 3)) (kk : G p l e R s m args below meth c cells slots Q cA D N nL ad T A nx (pc + 3) lv (rv ad r :: st) I') : G p l e R s m args below meth c cells slots Q cA D N nL ad T A nx (pc) lv (st0) I := by
  intro H locs ls hH hS hl
  refine va_callr (va_runS (As := As) (rest := st) ⟨S.1, S.2.1, S.2.2.1, S.2.2.2.1, S.2.2.2.2⟩ hM ⟨cb_of S.2.2.2.2 hm.1 hR, S.2.2.2.2 _ hm.2⟩ ⟨pre_blind, fun U hU hW => ⟨rfl, pre_here hX hK hH hS hU hW⟩⟩ rfl hn hl.1 hst (lv_room hcat) hd hcs) hS (fun q _ h => h) (fun q h => h) (fun u ra t H1 locs1 ht hvm hw hB hz1 hk1 hS1 => ?_)
  rw [hB.1]
  exact kk H1 locs1 ls (by rw [← ht]; exact hB.2) hS1 hl
theorem r_cN_I (As : List Value) (S : CallFix p m c cc nL s args gT own) (hK : va_K D vwCl (tyl cA) s) (hX : XX sx N s) {y : MethodName} {bytes : ByteArray} {maxL n index fr lo : Nat} {ret : Option FieldType} {host : String}  {st0 : List Value} {I' : Mem} {r : Int} (hm : MN own index y host bytes maxL ret n) (hM : CtI l y bytes maxL ret fr lo cA D N sx ad T A nx As I I' r) (hn : As.length = n) (hst : st0 = As.reverse ++ st) (hR : fr + 1 ≤ R.frames ∧ 8 + (maxL + 11) + lo ≤ R.locals) (hcat : (st.map fun v => v.category).sum ≤ 8) (hcs : cells ≤ R.cells ∧ slots ≤ R.slots) (hd : decode cc pc = .ok (.invokestatic index, 3)) (kk : cn r → G p l e R s m args below meth c cells slots Q cA D N nL ad T A nx (pc + 3) lv (iv r :: st) I') : G p l e R s m args below meth c cells slots Q cA D N nL ad T A nx (pc) lv (st0) I := by
  intro H locs ls hH hS hl
  refine va_calli (va_runSN (As := As) (rest := st) ⟨S.1, S.2.1, S.2.2.1, S.2.2.2.1, S.2.2.2.2⟩ hM ⟨va_cnB n S.2.2.2.2 (gT_good hm.2.1) rfl rfl rfl (hX.1 _ hm.1) (S.2.2.2.2 _ hm.2.2.1) ⟨hm.2.2.2.1, hm.2.2.2.2.1, hm.2.2.2.2.2.1⟩ hR, S.2.2.2.2 _ hm.2.2.2.2.2.2, trivial⟩ ⟨pre_blind, fun U hU hW => ⟨rfl, pre_here hX hK hH hS hU hW⟩⟩ rfl hn hl.1 hst (lv_room hcat) hd hcs) hS (fun q _ h => h) (fun q h => h) (fun r0 u t H1 locs1 ht hvm hw hB hz1 hk1 hS1 => ?_)
  rw [hw.1]
  exact kk hw.2 H1 locs1 ls (by rw [← ht]; exact hB) hS1 hl
theorem r_cN_J (As : List Value) (S : CallFix p m c cc nL s args gT own) (hK : va_K D vwCl (tyl cA) s) (hX : XX sx N s) {y : MethodName} {bytes : ByteArray} {maxL n index fr lo : Nat} {ret : Option FieldType} {host : String}  {st0 : List Value} {I' : Mem} {r : Int} (hm : MN own index y host bytes maxL ret n) (hM : CtJ l y bytes maxL ret fr lo cA D N sx ad T A nx As I I' r) (hn : As.length = n) (hst : st0 = As.reverse ++ st) (hR : fr + 1 ≤ R.frames ∧ 8 + (maxL + 11) + lo ≤ R.locals) (hcat : (st.map fun v => v.category).sum ≤ 8) (hcs : cells ≤ R.cells ∧ slots ≤ R.slots) (hd : decode cc pc = .ok (.invokestatic index, 3)) (kk : cl r → G p l e R s m args below meth c cells slots Q cA D N nL ad T A nx (pc + 3) lv (jv r :: st) I') : G p l e R s m args below meth c cells slots Q cA D N nL ad T A nx (pc) lv (st0) I := by
  intro H locs ls hH hS hl
  refine va_calll (va_runSN (As := As) (rest := st) ⟨S.1, S.2.1, S.2.2.1, S.2.2.2.1, S.2.2.2.2⟩ hM ⟨va_cnB n S.2.2.2.2 (gT_good hm.2.1) rfl rfl rfl (hX.1 _ hm.1) (S.2.2.2.2 _ hm.2.2.1) ⟨hm.2.2.2.1, hm.2.2.2.2.1, hm.2.2.2.2.2.1⟩ hR, S.2.2.2.2 _ hm.2.2.2.2.2.2, trivial⟩ ⟨pre_blind, fun U hU hW => ⟨rfl, pre_here hX hK hH hS hU hW⟩⟩ rfl hn hl.1 hst (lv_room hcat) hd hcs) hS (fun q _ h => h) (fun q h => h) (fun r0 u t H1 locs1 ht hvm hw hB hz1 hk1 hS1 => ?_)
  rw [hw.1]
  exact kk hw.2 H1 locs1 ls (by rw [← ht]; exact hB) hS1 hl
theorem r_cN_V (As : List Value) (S : CallFix p m c cc nL s args gT own) (hK : va_K D vwCl (tyl cA) s) (hX : XX sx N s) {y : MethodName} {bytes : ByteArray} {maxL n index fr lo : Nat} {ret : Option FieldType} {host : String}  {st0 : List Value} {I' : Mem} (hm : MN own index y host bytes maxL ret n) (hM : CtV l y bytes maxL ret fr lo cA D N sx ad T A nx As I I') (hn : As.length = n) (hst : st0 = As.reverse ++ st) (hR : fr + 1 ≤ R.frames ∧ 8 + (maxL + 11) + lo ≤ R.locals) (hcat : (st.map fun v => v.category).sum ≤ 8) (hcs : cells ≤ R.cells ∧ slots ≤ R.slots) (hd : decode cc pc = .ok (.invokestatic index, 3)) (kk : G p l e R s m args below meth c cells slots Q cA D N nL ad T A nx (pc + 3) lv (st) I') : G p l e R s m args below meth c cells slots Q cA D N nL ad T A nx (pc) lv (st0) I := by
  intro H locs ls hH hS hl
  refine va_callv (va_runSN (As := As) (rest := st) ⟨S.1, S.2.1, S.2.2.1, S.2.2.2.1, S.2.2.2.2⟩ hM ⟨va_cnB n S.2.2.2.2 (gT_good hm.2.1) rfl rfl rfl (hX.1 _ hm.1) (S.2.2.2.2 _ hm.2.2.1) ⟨hm.2.2.2.1, hm.2.2.2.2.1, hm.2.2.2.2.2.1⟩ hR, S.2.2.2.2 _ hm.2.2.2.2.2.2, trivial⟩ ⟨pre_blind, fun U hU hW => ⟨rfl, pre_here hX hK hH hS hU hW⟩⟩ rfl hn hl.1 hst (lv_room hcat) hd hcs) hS (fun q _ h => h) (fun q h => h) (fun u t H1 locs1 ht hvm hw hB hz1 hk1 hS1 => ?_)
  exact kk H1 locs1 ls (by rw [← ht]; exact hB) hS1 hl
theorem r_cN_R (As : List Value) (S : CallFix p m c cc nL s args gT own) (hK : va_K D vwCl (tyl cA) s) (hX : XX sx N s) {y : MethodName} {bytes : ByteArray} {maxL n index fr lo : Nat} {ret : Option FieldType} {host : String}  {st0 : List Value} {I' : Mem} {r : Nat} (hm : MN own index y host bytes maxL ret n) (hM : CtR l y bytes maxL ret fr lo cA D N sx ad T A nx As I I' r) (hn : As.length = n) (hst : st0 = As.reverse ++ st) (hR : fr + 1 ≤ R.frames ∧ 8 + (maxL + 11) + lo ≤ R.locals) (hcat : (st.map fun v => v.category).sum ≤ 8) (hcs : cells ≤ R.cells ∧ slots ≤ R.slots) (hd : decode cc pc = .ok (.invokestatic index, 3)) (kk : G p l e R s m args below meth c cells slots Q cA D N nL ad T A nx (pc + 3) lv (rv ad r :: st) I') : G p l e R s m args below meth c cells slots Q cA D N nL ad T A nx (pc) lv (st0) I := by
  intro H locs ls hH hS hl
  refine va_callr (va_runSN (As := As) (rest := st) ⟨S.1, S.2.1, S.2.2.1, S.2.2.2.1, S.2.2.2.2⟩ hM ⟨va_cnB n S.2.2.2.2 (gT_good hm.2.1) rfl rfl rfl (hX.1 _ hm.1) (S.2.2.2.2 _ hm.2.2.1) ⟨hm.2.2.2.1, hm.2.2.2.2.1, hm.2.2.2.2.2.1⟩ hR, S.2.2.2.2 _ hm.2.2.2.2.2.2, trivial⟩ ⟨pre_blind, fun U hU hW => ⟨rfl, pre_here hX hK hH hS hU hW⟩⟩ rfl hn hl.1 hst (lv_room hcat) hd hcs) hS (fun q _ h => h) (fun q h => h) (fun u ra t H1 locs1 ht hvm hw hB hz1 hk1 hS1 => ?_)
  rw [hB.1]
  exact kk H1 locs1 ls (by rw [← ht]; exact hB.2) hS1 hl
theorem met_of {y : MethodName} {bytes : ByteArray} {maxL fr lo : Nat} {ret : Option FieldType} {av : List Value} {lv0 : List (Nat × Value)} {Qc : Array Value → State → Outcome → State → Prop} (hy : plainName y.cls = true) (hlen : (lg_sl av).length ≤ maxL) (hlv : lv_args 0 av = lv0)
    (body : ∀ (p : Program) (e : Env) (s : State) (m : MethodId) (args : Array Value) (below : List Frame) (meth : Method) (c : Code), CallFix p m c bytes maxL s args gT y.cls → va_K D vwCl (tyl cA) s → XX sx N s → meth.sig.returnType = ret → meth.locks = false → ∀ Q, Q = MQ below Qc args s 0 0 (A0 N) → G p l e (rmx fr lo) s m args below meth c 0 0 Q cA D N maxL ad T A nx 0 lv0 [] I) : Met l y (.code y bytes maxL ret :: gT) (rmx fr lo) (va_Pc av (Pre cA D N sx ad T A nx I)) Qc 0 0 (A0 N) := by
  refine Met.ofW (cc := bytes) (maxL := maxL) (ret := ret) hy rfl ?_
  intro p e s m args below meth c s₁ B hml hv
  obtain ⟨rfl, hH, hK, hX⟩ := hv
  have hts := atoms_spec (ws := .code y bytes maxL ret :: gT) B.pre
  have hown : s.vm.findClass y.cls = some m.cls := findClass_of_methodNamed B.named
  have h := body p e s m av.toArray below meth c ⟨B.exec, B.bytes, hml, hown, fun w hw => hts w (List.mem_cons_of_mem _ hw)⟩ hK hX B.returns B.notSynchronized _ rfl
  have hl := lv_entry av (n := maxL) hlen
  rw [lg_entry_eq]
  rw [hlv] at hl
  exact h s.heap [] _ hH va_S.rf hl
theorem r_iret {r : Int} (S : CallFix p m c cc nL s args gT own) (hr : meth.sig.returnType = some .int) (hlk : meth.locks = false) (cr : cn r) (hd : decode cc pc = .ok (.ireturn, 1)) : G p l e R s m args below meth c cells slots (MQ below (va_Qi (S := Unit) (fun z _ => z = Int32.ofInt r ∧ cn r) (fun _ t => HP cA D ad T A nx N I t.heap) (A0 N)) args s cells slots (A0 N)) cA D N nL ad T A nx pc lv [iv r] I :=
  fun H locs ls hH hS hl => W.iret S.1 S.2.1 hr (fun t ht hW => ⟨⟨Int32.ofInt r, (), rfl, ⟨rfl, cr⟩, by show HP cA D ad T A nx N I t.heap; rw [ht]; exact hH⟩, hS.F ht⟩) hS.2.2 hd
theorem r_zret {r : Int} (S : CallFix p m c cc nL s args gT own) (hr : meth.sig.returnType = some .boolean) (hlk : meth.locks = false) (hz : r = 0 ∨ r = 1) (hd : decode cc pc = .ok (.ireturn, 1)) : G p l e R s m args below meth c cells slots (MQ below (va_Qi (S := Unit) (fun z _ => z = Int32.ofInt r ∧ cn r) (fun _ t => HP cA D ad T A nx N I t.heap) (A0 N)) args s cells slots (A0 N)) cA D N nL ad T A nx pc lv [iv r] I :=
  fun H locs ls hH hS hl => W.zret S.1 S.2.1 hr (by rcases hz with h | h <;> subst h <;> rfl) (fun t ht hW => ⟨⟨Int32.ofInt r, (), rfl, ⟨rfl, by rcases hz with h | h <;> subst h <;> exact ⟨by decide, by decide⟩⟩, by show HP cA D ad T A nx N I t.heap; rw [ht]; exact hH⟩, hS.F ht⟩) hS.2.2 hd
theorem r_lret {r : Int} (S : CallFix p m c cc nL s args gT own) (hr : meth.sig.returnType = some .long) (hlk : meth.locks = false) (cr : cl r) (hd : decode cc pc = .ok (.lreturn, 1)) : G p l e R s m args below meth c cells slots (MQ below (va_Ql (S := Unit) (fun z _ => z = Int64.ofInt r ∧ cl r) (fun _ t => HP cA D ad T A nx N I t.heap) (A0 N)) args s cells slots (A0 N)) cA D N nL ad T A nx pc lv [jv r] I :=
  fun H locs ls hH hS hl => W.lret S.1 S.2.1 hr (fun t ht hW => ⟨⟨Int64.ofInt r, (), rfl, ⟨rfl, cr⟩, by show HP cA D ad T A nx N I t.heap; rw [ht]; exact hH⟩, hS.F ht⟩) hS.2.2 hd
theorem r_vret (S : CallFix p m c cc nL s args gT own) (hr : meth.sig.returnType = none) (hlk : meth.locks = false) (hd : decode cc pc = .ok (.return_, 1)) : G p l e R s m args below meth c cells slots (MQ below (va_Qv (S := Unit) (fun _ => True) (fun _ t => HP cA D ad T A nx N I t.heap) (A0 N)) args s cells slots (A0 N)) cA D N nL ad T A nx pc lv [] I :=
  fun H locs ls hH hS hl => W.vret S.1 S.2.1 hr (fun t ht hW => ⟨⟨(), rfl, trivial, by show HP cA D ad T A nx N I t.heap; rw [ht]; exact hH⟩, hS.F ht⟩) hS.2.2 hd
theorem r_aret {r : Nat} {C : String} (S : CallFix p m c cc nL s args gT own) (hr : meth.sig.returnType = some (.object C)) (hlk : meth.locks = false) (hd : decode cc pc = .ok (.areturn, 1)) : G p l e R s m args below meth c cells slots (MQ below (va_Qr (S := Unit) (fun _ => True) (fun _ a t => a = ad r ∧ HP cA D ad T A nx N I t.heap) (A0 N)) args s cells slots (A0 N)) cA D N nL ad T A nx pc lv [rv ad r] I :=
  fun H locs ls hH hS hl => W.aret S.1 S.2.1 hr (Or.inl ⟨_, rfl⟩) (Or.inr ⟨_, rfl⟩) (fun t ht hW => ⟨⟨(), ad r, rfl, trivial, rfl, by show HP cA D ad T A nx N I t.heap; rw [ht]; exact hH⟩, hS.F ht⟩) hS.2.2 hd
end GR4
