/-! More of what makes cells: a row of Plans, a final field, Object(), a call of a constructor, its start and end. -/
section GR9
variable {p : Program} {l : Launch} {e : Env} {R : Room} {s : State} {m : MethodId} {args : Array Value} {below : List Frame} {meth : Method} {c : Code} {cells slots : Nat} {Q : State → Prop} {cA : Nat → ClassId} {D : va_G} {N nL : Nat} {ad : Nat → Nat} {T : Knd} {A : Rfs} {nx : Nat} {pc : Nat} {lv lv' : List (Nat × Value)} {st : List Value} {I : Mem}
variable {cc : ByteArray} {own : String} {sx : Sx}

theorem r_nwq (S : CallFix p m c cc nL s args gT own) (hK : va_K D vwCl (tyl cA) s) (hov : va_AO RX2 s) {index : Nat} (hcl : Cond.classLink own index RX2 ∈ gT) (hN : N ≤ s.heap.size) (hrb : RB A nx) (L : (Nat → Nat) → List (Nat × Value)) (Sf : (Nat → Nat) → List Value) (hL : ∀ ad1 : Nat → Nat, (∀ i, i ≤ nx → ad1 i = ad i) → lv = L ad1) (hSf : ∀ ad1 : Nat → Nat, (∀ i, i ≤ nx → ad1 i = ad i) → st = Sf ad1) {n : Int} (cn' : cn n) {Z : Type} {K : St → Option Z} {fin : Z → Prop} (hd : decode cc pc = .ok (.anewarray index, 3)) (c2 s2 : Nat) (hcs : cells + 1 = c2 ∧ slots + n.toNat = s2 ∧ c2 ≤ R.cells ∧ s2 ≤ R.slots) (hf : OK ((nwA 26 n (T, A, nx, I)).bind K) fin) (kk : ∀ (ad1 : Nat → Nat) (S1 : St), (∀ i, i ≤ nx → ad1 i = ad i) → S1.2.2.1 = nx + 1 → RB S1.2.1 S1.2.2.1 → OK (K S1) fin → G p l e R s m args below meth c (c2) (s2) Q cA D N nL ad1 S1.1 S1.2.1 (S1.2.2.1) (pc + 3) (L ad1) (rv ad1 (nx + 1) :: Sf ad1) S1.2.2.2) : G p l e R s m args below meth c (cells) (slots) Q cA D N nL ad T A (nx) (pc) (lv) (iv n :: st) I := by
  obtain ⟨rfl, rfl, hcs1, hcs2⟩ := hcs
  obtain ⟨S1, h1, h2⟩ := ok_bind hf
  by_cases hn : 0 ≤ n ∧ n < 100000
  · rw [nwA, if_pos hn] at h1
    cases h1
    intro H locs ls hH hS hl
    obtain ⟨hP, hD, hw⟩ := id hH
    refine va_newq (N' := n.toNat) S.1 S.2.1 S.2.2.2.1 (S.2.2.2.2 _ hcl) hov hK hP hD hS (fun q h => Nat.le_trans hN h) (nneg cn' hn.1) (tnc cn') (by omega) hcs1 hcs2 hd (fun q c9 H1 hK1 hP1 hD1 hS1 => ?_)
    have hc9 : c9 = cA 26 := by
      obtain ⟨-, -, -, -, -, h3⟩ := (hK1.2 7 (c9, .object RX2) rfl).2
      obtain ⟨-, -, -, -, -, h4⟩ := (hK.2 6 _ rfl).2
      exact Option.some.inj (h3.symm.trans h4)
    subst hc9
    have ha : ∀ i, i ≤ nx → adx ad nx (fun _ => q) i = ad i := fun i hi => adx_le hi
    have e : wl cA (adx ad nx (fun _ => q)) (nwC (26, n.toNat) (T, A, nx, I)).1 (nwC (26, n.toNat) (T, A, nx, I)).2.1 (nx + 1) (nwC (26, n.toNat) (T, A, nx, I)).2.2.2 = wl cA ad T A nx I ++ [(q, .inl (cA 26, n.toNat, .inr (.inr (.inr (.inr (fun _ => none))))))] := by
      rw [wl_app 1 ha (nwC_T _ _ _ _ _) (nwC_A _ _ _ _ _) (nwC_I _ _ _ _ _) hrb]
      congr 1
      have e1 : (nwC (26, n.toNat) (T, A, nx, I)).1 (nx + 1) = (26, n.toNat) := if_pos rfl
      show [(adx ad nx (fun _ => q) (nx + 1 + 0), ent cA _ _ _ _ (nx + 1 + 0))] = _
      rw [adx_gt, Nat.add_zero, ent_r (c := 26) (by rw [e1]) (by decide), e1]
      have e3 : ∀ j, (nwC (26, n.toNat) (T, A, nx, I)).2.1 (nx + 1) j = 0 := fun j => if_pos rfl
      simp only [e3]
      rfl
    have hP2 : va_P D vwCl (wl cA (adx ad nx (fun _ => q)) (nwC (26, n.toNat) (T, A, nx, I)).1 (nwC (26, n.toNat) (T, A, nx, I)).2.1 (nx + 1) (nwC (26, n.toNat) (T, A, nx, I)).2.2.2) H1 := by rw [e]; exact hP1
    have hD2 : va_D (A0 N) (wl cA (adx ad nx (fun _ => q)) (nwC (26, n.toNat) (T, A, nx, I)).1 (nwC (26, n.toNat) (T, A, nx, I)).2.1 (nx + 1) (nwC (26, n.toNat) (T, A, nx, I)).2.2.2) := by rw [e]; exact hD1
    have hg := kk (adx ad nx (fun _ => q)) (nwC (26, n.toNat) (T, A, nx, I)) ha rfl (RB_nwC hrb) h2
    have eq1 : adx ad nx (fun _ => q) (nx + 1) = q := adx_gt (i := 0)
    rw [show rv (adx ad nx (fun _ => q)) (nx + 1) = .ref q from by rw [rv, eq1], ← hL _ ha, ← hSf _ ha] at hg
    exact hg H1 locs ls ⟨hP2, hD2, wt_nwC (A := A) hw (show n.toNat < 2147483648 by omega)⟩ hS1 hl
  · rw [nwA, if_neg hn] at h1
    cases h1
theorem wl_set2 {cA : Nat → ClassId} {ad : Nat → Nat} {T : Knd} {A A' : Rfs} {nx a : Nat} {I : Mem} {e : va_E} (h1 : 1 ≤ a) (he : ent cA ad T A' I a = e) (ho : ∀ b, b ≠ a → ent cA ad T A' I b = ent cA ad T A I b) : (wl cA ad T A nx I).set (a - 1) (ad a, e) = wl cA ad T A' nx I := by
  unfold wl
  apply map_range_set
  · have e1 : a - 1 + 1 = a := by omega
    rw [e1, he]
  · intro j hj
    rw [ho (j + 1) (by omega)]
theorem r_putR (S : CallFix p m c cc nL s args gT own) (hK : va_K D vwCl (tyl cA) s) (hin2 : meth.name = "<init>") (hrb : RB A nx) {index ci k a v : Nat} (hLk : FL gT own index ci k 2) (how : (vwCl[ci]?).map (fun q => q.1) = some own) {ty : FieldType} (hfy : fty ci k = some ty) (hff : ffin ci k = some true) (hn : ∀ x, narrow ty (.ref x) = .ref x) (hfit : ∀ x, fits ty (.ref x) = true) {Z : Type} {K : St → Option Z} {fin : Z → Prop} (hd : decode cc pc = .ok (.putfield index, 3)) (hf : OK ((pr ci k a v (T, A, nx, I)).bind K) fin) (kk : ∀ S1 : St, S1.2.2.1 = nx → RB S1.2.1 S1.2.2.1 → OK (K S1) fin → G p l e R s m args below meth c (cells) (slots) Q cA D N nL ad S1.1 S1.2.1 (S1.2.2.1) (pc + 3) (lv) (st) S1.2.2.2) : G p l e R s m args below meth c (cells) (slots) Q cA D N nL ad T A (nx) (pc) (lv) (rv ad v :: rv ad a :: st) I := by
  obtain ⟨S1, h1, h2⟩ := ok_bind hf
  by_cases q : (T a).1 = ci ∧ 1 ≤ v ∧ v ≤ nx
  · rw [pr, if_pos q] at h1
    cases h1
    obtain ⟨hT, hv1, hv2⟩ := q
    obtain ⟨C, TT, ty0, hc, h13, hin, ht, hlk, hC, hty, hnm⟩ := hLk
    have hk := (List.getElem?_eq_some_iff.mp ht).1
    have hfy2 : parseFieldDescriptor (TT k).2.2.1 = some ty := by simpa [fty, hc] using hfy
    have hff2 : (TT k).2.2.2 = true := by simpa [ffin, hc] using hff
    have hCo : C = own := by simpa [hc] using how
    intro H locs ls hH hS hl
    obtain ⟨hP, hD, hw⟩ := id hH
    obtain ⟨b1, b2⟩ := hw.1 a (by omega)
    refine va_putF S.1 S.2.1 S.2.2.2.2 hin ty0 hty hnm S.2.2.2.1 hK hP hD hS (a - 1) ((wl_get b1 b2).trans (congrArg (fun z => some (ad a, z)) (ent_cls hT h13))) hc k hk (S.2.2.2.2 _ hlk) (fun x h => by rw [← hC]; exact h) hff2 hin2 (hC.trans hCo) hfy2 (hn _) (hfit _) (by rw [flds_len]; exact hk) hd (fun H1 locs1 hP1 hD1 hS1 => ?_)
    have em : muA A a k v a k = v := if_pos ⟨rfl, rfl⟩
    have en : ∀ b j, b ≠ a → muA A a k v b j = A b j := fun b j hb => if_neg (fun z => hb z.1)
    have ek : ∀ j, j ≠ k → muA A a k v a j = A a j := fun j hj => if_neg (fun z => hj z.2)
    have e := wl_set2 (cA := cA) (ad := ad) (T := T) (A := A) (A' := muA A a k v) (nx := nx) (I := I) (e := .inr (ci, (flds ad A I ci a).set k (rv ad v))) b1 ((ent_cls hT h13).trans (by
      have hd9 : (ftc ci).getD k 9 = 2 := by simp [List.getD, ht]
      congr 2
      symm
      unfold flds
      apply map_range_set
      · rw [hd9]
        show va_rf (ro ad (muA A a k v a k)) = _
        rw [em, ro_pos hv1]
        rfl
      · intro j hj
        unfold fv
        rw [ek j hj])) (fun b hb => ent_congr2 (fun i _ => rfl) rfl (fun j => en b j hb) (fun j => rfl) hrb)
    rw [e] at hP1 hD1
    refine kk (T, muA A a k v, nx, I) rfl (fun b j => ?_) h2 H1 locs1 ls ⟨hP1, hD1, hw⟩ hS1 hl
    show (if _ then _ else _) ≤ nx
    split
    · exact hv2
    · exact hrb b j
  · rw [pr, if_neg q] at h1
    cases h1
def OI (own : String) (index : Nat) : Prop := Cond.methodLink own index objectInit ∈ gT ∧ Cond.instanceMethod objectInit ∈ gT ∧ Cond.code objectInit ⟨#[0xb1]⟩ 1 none ∈ gT
theorem r_obj (S : CallFix p m c cc nL s args gT own) {index : Nat} (hm : OI own index) {x : Nat} (hd : decode cc pc = .ok (.invokespecial index, 3)) (hR : 1 ≤ R.frames ∧ (st.map fun v => v.category).sum + 12 ≤ R.locals) (kk : G p l e R s m args below meth c (cells) (slots) Q cA D N nL ad T A (nx) (pc + 3) (lv) (st) I) : G p l e R s m args below meth c (cells) (slots) Q cA D N nL ad T A (nx) (pc) (lv) (.ref x :: st) I := fun H locs ls hH hS hl => by
  refine W.objInit S.1 S.2.1 S.2.2.2.1 (S.2.2.2.2 _ hm.1) (S.2.2.2.2 _ hm.2.1) (S.2.2.2.2 _ hm.2.2) rfl (by rw [S.2.2.1]; exact hl.1) rfl hd hR.1 (by show 2 * 0 + _ + 12 ≤ _; omega) ?_
  exact W.eq (g2 := F0 m (pc + 3) ls st) rfl (kk H locs ls hH hS hl)
/-- a constructor's words at a call; at a call of a nest mate's private one -/
def MI (own : String) (index : Nat) (y : MethodName) (bytes : ByteArray) (maxL n : Nat) : Prop := MB own index y bytes maxL none n ∧ y.name = "<init>" ∧ Cond.instanceMethod y ∈ gT
def MIN (own : String) (index : Nat) (y : MethodName) (host : String) (bytes : ByteArray) (maxL n : Nat) : Prop := (Cond.methodLinkNest own index y host ∈ nstW ∧ Cond.code y bytes maxL none ∈ gT ∧ Cond.initialized y.cls ∈ gT ∧ y.cls ≠ "java/lang/invoke/MethodHandle" ∧ y.cls ≠ "java/lang/invoke/VarHandle" ∧ (parseMethodDescriptor y.desc).map (fun d => d.parameters.length) = some n) ∧ y.name = "<init>" ∧ Cond.instanceMethod y ∈ gT
theorem r_cI {y : MethodName} {bytes : ByteArray} {maxL n index fr mc ms lo a : Nat} (As : List Value) (S : CallFix p m c cc nL s args gT own) (hK : va_K D vwCl (tyl cA) s) (hX : XX sx N s) (hAX : AX s) (hm : MI own index y bytes maxL n) {st0 : List Value} {S2 : St} (hM : CtA l y bytes maxL fr mc ms lo cA D N sx ad T A nx (rv ad a :: As) I S2) (hn : As.length = n) (hst : st0 = As.reverse ++ rv ad a :: st) (L : (Nat → Nat) → List (Nat × Value)) (Sf : (Nat → Nat) → List Value) (hL : ∀ ad1 : Nat → Nat, (∀ i, i ≤ nx → ad1 i = ad i) → lv = L ad1) (hSf : ∀ ad1 : Nat → Nat, (∀ i, i ≤ nx → ad1 i = ad i) → st = Sf ad1) (hR : fr + 1 ≤ R.frames ∧ 8 + (maxL + 11) + lo ≤ R.locals) (hcat : (st.map fun v => v.category).sum ≤ 8) (c2 s2 : Nat) (hcs : cells + mc = c2 ∧ slots + ms = s2 ∧ c2 ≤ R.cells ∧ s2 ≤ R.slots) (hd : decode cc pc = .ok (.invokespecial index, 3)) (kk : ∀ ad1 : Nat → Nat, (∀ i, i ≤ nx → ad1 i = ad i) → nx ≤ S2.2.2.1 → RB S2.2.1 S2.2.2.1 → G p l e R s m args below meth c (c2) (s2) Q cA D N nL ad1 S2.1 S2.2.1 (S2.2.2.1) (pc + 3) (L ad1) (Sf ad1) S2.2.2.2) : G p l e R s m args below meth c (cells) (slots) Q cA D N nL ad T A (nx) (pc) (lv) (st0) I := by
  obtain ⟨rfl, rfl, hcs1, hcs2⟩ := hcs
  intro H locs ls hH hS hl
  refine va_callv (va_runI (As := As) (rest := st) ⟨S.1, S.2.1, S.2.2.1, S.2.2.2.1, S.2.2.2.2⟩ hM ⟨callB_of n S.2.2.2.2 (gT_good hm.1.2.1) rfl rfl rfl (S.2.2.2.2 _ hm.1.2.2.1) (S.2.2.2.2 _ hm.1.1) ⟨hm.1.2.2.2.1, hm.1.2.2.2.2.1, hm.1.2.2.2.2.2⟩ hR, hm.2.1, S.2.2.2.2 _ hm.2.2⟩ ⟨preA_blind, fun U hU hW => ⟨rfl, pre_here hX hK hH hS hU hW, hAX.moved hW.alike⟩⟩ rfl hn hl.1 hst (lv_room hcat) hd ⟨hcs1, hcs2⟩) hS (fun q _ h => h) (fun q h => h) (fun u t H1 locs1 ht hvm hw hB hz1 hk1 hS1 => ?_)
  obtain ⟨g1, g2, g3, g4⟩ := hB
  have hg := kk u g1 g2 g3
  rw [← hL _ g1, ← hSf _ g1] at hg
  exact hg H1 locs1 ls (by rw [← ht]; exact g4) hS1 hl
theorem r_cIN {y : MethodName} {bytes : ByteArray} {maxL n index fr mc ms lo a : Nat} (As : List Value) (S : CallFix p m c cc nL s args gT own) (hK : va_K D vwCl (tyl cA) s) (hX : XX sx N s) (hAX : AX s) {host : String} (hm : MIN own index y host bytes maxL n) {st0 : List Value} {S2 : St} (hM : CtA l y bytes maxL fr mc ms lo cA D N sx ad T A nx (rv ad a :: As) I S2) (hn : As.length = n) (hst : st0 = As.reverse ++ rv ad a :: st) (L : (Nat → Nat) → List (Nat × Value)) (Sf : (Nat → Nat) → List Value) (hL : ∀ ad1 : Nat → Nat, (∀ i, i ≤ nx → ad1 i = ad i) → lv = L ad1) (hSf : ∀ ad1 : Nat → Nat, (∀ i, i ≤ nx → ad1 i = ad i) → st = Sf ad1) (hR : fr + 1 ≤ R.frames ∧ 8 + (maxL + 11) + lo ≤ R.locals) (hcat : (st.map fun v => v.category).sum ≤ 8) (c2 s2 : Nat) (hcs : cells + mc = c2 ∧ slots + ms = s2 ∧ c2 ≤ R.cells ∧ s2 ≤ R.slots) (hd : decode cc pc = .ok (.invokespecial index, 3)) (kk : ∀ ad1 : Nat → Nat, (∀ i, i ≤ nx → ad1 i = ad i) → nx ≤ S2.2.2.1 → RB S2.2.1 S2.2.2.1 → G p l e R s m args below meth c (c2) (s2) Q cA D N nL ad1 S2.1 S2.2.1 (S2.2.2.1) (pc + 3) (L ad1) (Sf ad1) S2.2.2.2) : G p l e R s m args below meth c (cells) (slots) Q cA D N nL ad T A (nx) (pc) (lv) (st0) I := by
  obtain ⟨rfl, rfl, hcs1, hcs2⟩ := hcs
  intro H locs ls hH hS hl
  refine va_callv (va_runIN (As := As) (rest := st) ⟨S.1, S.2.1, S.2.2.1, S.2.2.2.1, S.2.2.2.2⟩ hM ⟨va_cnB n S.2.2.2.2 (gT_good hm.1.2.1) rfl rfl rfl (hX.1 _ hm.1.1) (S.2.2.2.2 _ hm.1.2.2.1) ⟨hm.1.2.2.2.1, hm.1.2.2.2.2.1, hm.1.2.2.2.2.2⟩ hR, hm.2.1, S.2.2.2.2 _ hm.2.2⟩ ⟨preA_blind, fun U hU hW => ⟨rfl, pre_here hX hK hH hS hU hW, hAX.moved hW.alike⟩⟩ rfl hn hl.1 hst (lv_room hcat) hd ⟨hcs1, hcs2⟩) hS (fun q _ h => h) (fun q h => h) (fun u t H1 locs1 ht hvm hw hB hz1 hk1 hS1 => ?_)
  obtain ⟨g1, g2, g3, g4⟩ := hB
  have hg := kk u g1 g2 g3
  rw [← hL _ g1, ← hSf _ g1] at hg
  exact hg H1 locs1 ls (by rw [← ht]; exact g4) hS1 hl
theorem met_ofA {y : MethodName} {bytes : ByteArray} {maxL fr mc ms lo : Nat} {ret : Option FieldType} {av : List Value} {lv0 : List (Nat × Value)} {Qc : Array Value → State → Outcome → State → Prop} (hy : plainName y.cls = true) (hlen : (lg_sl av).length ≤ maxL) (hlv : lv_args 0 av = lv0) (h1 : 1 ≤ nx)
    (body : ∀ (p : Program) (e : Env) (s : State) (m : MethodId) (args : Array Value) (below : List Frame) (meth : Method) (c : Code), CallFix p m c bytes maxL s args gT y.cls → va_K D vwCl (tyl cA) s → XX sx N s → AX s → N ≤ s.heap.size → meth.name = y.name → meth.sig.returnType = ret → meth.locks = false → ∀ Q, Q = MQ below Qc args s mc ms (A0 N) → G p l e (rmy fr mc ms lo) s m args below meth c 0 0 Q cA D N maxL ad T A nx 0 lv0 [] I) : Met l y (.code y bytes maxL ret :: gT) (rmy fr mc ms lo) (va_Pc av (PreA cA D N sx ad T A nx I)) Qc mc ms (A0 N) := by
  refine Met.ofW (cc := bytes) (maxL := maxL) (ret := ret) hy rfl ?_
  intro p e s m args below meth c s₁ B hml hv
  obtain ⟨rfl, ⟨hH, hK, hX⟩, hAX⟩ := hv
  have hts := atoms_spec (ws := .code y bytes maxL ret :: gT) B.pre
  have hown : s.vm.findClass y.cls = some m.cls := findClass_of_methodNamed B.named
  have hN : N ≤ s.heap.size := by
    have g := wl_get (cA := cA) (ad := ad) (T := T) (A := A) (I := I) (Nat.le_refl 1) h1
    have g2 : N ≤ ad 1 := hH.2.1.2 _ _ g
    have g3 : ad 1 < s.heap.size := (hH.1 _ _ g).lt
    omega
  have h := body p e s m av.toArray below meth c ⟨B.exec, B.bytes, hml, hown, fun w hw => hts w (List.mem_cons_of_mem _ hw)⟩ hK hX hAX hN (name_of_methodNamed B.named B.method).1 B.returns B.notSynchronized _ rfl
  have hl := lv_entry av (n := maxL) hlen
  rw [lg_entry_eq]
  rw [hlv] at hl
  exact h s.heap [] _ hH va_S.rf hl
theorem r_vretA {ad0 : Nat → Nat} {nx0 : Nat} (S : CallFix p m c cc nL s args gT own) (hr : meth.sig.returnType = none) (hlk : meth.locks = false) (hag : ∀ i, i ≤ nx0 → ad i = ad0 i) (hnx : nx0 ≤ nx) (hrb : RB A nx) (hd : decode cc pc = .ok (.return_, 1)) : G p l e R s m args below meth c cells slots (MQ below (va_Qv (S := Nat → Nat) (fun _ => True) (fun ad1 t => (∀ i, i ≤ nx0 → ad1 i = ad0 i) ∧ nx0 ≤ (T, A, nx, I).2.2.1 ∧ RB (T, A, nx, I).2.1 (T, A, nx, I).2.2.1 ∧ HP cA D ad1 (T, A, nx, I).1 (T, A, nx, I).2.1 (T, A, nx, I).2.2.1 N (T, A, nx, I).2.2.2 t.heap) (A0 N)) args s cells slots (A0 N)) cA D N nL ad T A nx pc lv [] I :=
  fun H locs ls hH hS hl => W.vret S.1 S.2.1 hr (fun t ht hW => ⟨⟨ad, rfl, trivial, hag, hnx, hrb, by show HP cA D ad T A nx N I t.heap; rw [ht]; exact hH⟩, hS.F ht⟩) hS.2.2 hd
theorem r_getRb (S : CallFix p m c cc nL s args gT own) (hK : va_K D vwCl (tyl cA) s) (hrb : RB A nx) {index ci k a : Nat} (hL : FL gT own index ci k 2) {Z : Type} {K : Nat → Option Z} {fin : Z → Prop} (hd : decode cc pc = .ok (.getfield index, 3)) (hf : OK ((gr T A ci k a).bind K) fin) (kk : ∀ x, 1 ≤ x ∧ x ≤ nx → OK (K x) fin → G p l e R s m args below meth c (cells) (slots) Q cA D N nL ad T A (nx) (pc + 3) (lv) (rv ad x :: st) I) : G p l e R s m args below meth c (cells) (slots) Q cA D N nL ad T A (nx) (pc) (lv) (rv ad a :: st) I := by
  by_cases q : (T a).1 = ci ∧ A a k ≠ 0
  · exact r_getR S hK hL (K := fun x => if x = A a k then K x else none) hd (by rw [gr, if_pos q] at hf ⊢; obtain ⟨z, h1, h2⟩ := hf; exact ⟨z, by simpa using h1, h2⟩) (fun x hx => by
      obtain ⟨e, h2⟩ := ok_grd hx
      subst e
      have := hrb a k
      exact kk _ ⟨by omega, this⟩ h2)
  · rw [gr, if_neg q] at hf
    exact (ok_none hf).elim
end GR9
