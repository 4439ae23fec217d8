/-! What makes cells: new objects, rows, rows of rows. A state that grows: kinds, references, how many, numbers. -/
abbrev St : Type := Knd × Rfs × Nat × Mem
def RB (A : Rfs) (nx : Nat) : Prop := ∀ a k, A a k ≤ nx
def nwC (q : Nat × Nat) (S : St) : St := (fun a => if a = S.2.2.1 + 1 then q else S.1 a, fun a k => if a = S.2.2.1 + 1 then 0 else S.2.1 a k, S.2.2.1 + 1, fun a k => if a = S.2.2.1 + 1 then 0 else S.2.2.2 a k)
def nwO (ci : Nat) (S : St) : Option St := some (nwC (ci, 0) S)
def nwA (kd : Nat) (n : Int) (S : St) : Option St := if 0 ≤ n ∧ n < 100000 then some (nwC (kd, n.toNat) S) else none
/-- n rows of m places, and the row of them -/
def nwM (kd ki : Nat) (n m : Int) (S : St) : Option St := if 0 ≤ n ∧ n < 1000 ∧ 0 ≤ m ∧ m < 1000 then some
  (fun a => if a = S.2.2.1 + 1 then (kd, n.toNat) else if S.2.2.1 + 1 < a ∧ a < S.2.2.1 + 2 + n.toNat then (ki, m.toNat) else S.1 a,
   fun a k => if a = S.2.2.1 + 1 then (if k < n.toNat then S.2.2.1 + 2 + k else 0) else if S.2.2.1 + 1 < a ∧ a < S.2.2.1 + 2 + n.toNat then 0 else S.2.1 a k,
   S.2.2.1 + 1 + n.toNat,
   fun a k => if S.2.2.1 < a ∧ a < S.2.2.1 + 2 + n.toNat then 0 else S.2.2.2 a k) else none
def muA (A : Rfs) (a k v : Nat) : Rfs := fun b j => if b = a ∧ j = k then v else A b j
/-- a field that is a reference is set -/
def pr (c k a v : Nat) (S : St) : Option St := if (S.1 a).1 = c ∧ 1 ≤ v ∧ v ≤ S.2.2.1 then some (S.1, muA S.2.1 a k v, S.2.2.1, S.2.2.2) else none
theorem ent_congr2 {cA : Nat → ClassId} {ad ad1 : Nat → Nat} {T T' : Knd} {A A' : Rfs} {I I' : Mem} {b nx : Nat} (ha : ∀ i, i ≤ nx → ad1 i = ad i) (hT : T' b = T b) (hA : ∀ k, A' b k = A b k) (hI : ∀ k, I' b k = I b k) (hr : RB A nx) : ent cA ad1 T' A' I' b = ent cA ad T A I b := by
  have h : ∀ k, ro ad1 (A' b k) = ro ad (A b k) := fun k => by
    unfold ro
    rw [hA k, ha _ (hr b k)]
  unfold ent flds cont fv
  simp only [hT, hI, h]
theorem wl_app {cA : Nat → ClassId} {ad ad1 : Nat → Nat} {T T' : Knd} {A A' : Rfs} {I I' : Mem} {nx : Nat} (d : Nat) (ha : ∀ i, i ≤ nx → ad1 i = ad i) (hT : ∀ b, b ≤ nx → T' b = T b) (hA : ∀ b, b ≤ nx → ∀ k, A' b k = A b k) (hI : ∀ b, b ≤ nx → ∀ k, I' b k = I b k) (hr : RB A nx) : wl cA ad1 T' A' (nx + d) I' = wl cA ad T A nx I ++ (List.range d).map (fun i => (ad1 (nx + 1 + i), ent cA ad1 T' A' I' (nx + 1 + i))) := by
  unfold wl
  rw [List.range_add, List.map_append, List.map_map]
  congr 1
  · apply List.map_congr_left
    intro i hi
    have hl := List.mem_range.mp hi
    rw [ha (i + 1) (by omega), ent_congr2 ha (hT _ (by omega)) (hA _ (by omega)) (hI _ (by omega)) hr]
  · apply List.map_congr_left
    intro i hi
    have e : nx + i + 1 = nx + 1 + i := by omega
    simp only [Function.comp, e]
/-- the new objects' addresses beside the old -/
def adx (ad : Nat → Nat) (nx : Nat) (r : Nat → Nat) : Nat → Nat := fun i => if i ≤ nx then ad i else r (i - nx - 1)
theorem adx_le {ad r : Nat → Nat} {nx i : Nat} (h : i ≤ nx) : adx ad nx r i = ad i := if_pos h
theorem adx_gt {ad r : Nat → Nat} {nx i : Nat} : adx ad nx r (nx + 1 + i) = r i := by
  unfold adx
  rw [if_neg (by omega)]
  congr 1
  omega
def dvv (t : Nat) : Value := if t = 0 then .int 0 else if t = 1 then .long 0 else .null
/-- what the tables say at a 'new' -/
def NW (own : String) (index ci : Nat) : Prop := ∃ (C : String) (TT : u_T) (ty0 : Nat → FieldType), vwCl[ci]? = some (C, TT, (ftc ci).length) ∧ ci < 13 ∧ (∀ w ∈ u_ws C TT (ftc ci).length, w ∈ gT) ∧ (∀ k, k < (ftc ci).length → parseFieldDescriptor (TT k).2.2.1 = some (ty0 k)) ∧ (∀ j, j < (ftc ci).length → defaultValue (ty0 j) = dvv ((ftc ci).getD j 9)) ∧ Cond.classLink own index C ∈ gT ∧ Cond.instantiable C (ftc ci).length ∈ gT ∧ Cond.initialized C ∈ gT
def AOA (ty : FieldType) (U : State) : Prop := (Cond.arrayOver (.array ty)).before #[] U = true
/-- what makers of cells find over and above -/
def AX (U : State) : Prop := AOA .int U ∧ AOA .long U ∧ va_AO RX2 U
theorem AOA.moved {ty : FieldType} {u U : State} (hvm : u.vm.Alike U.vm) (h0 : AOA ty u) : AOA ty U := by
  have h := h0
  unfold AOA Cond.before at h
  simp only [Cond.holds, Cond.value, beq_iff_eq] at h
  cases hc : u.vm.findClass (FieldType.array ty).toString with
  | none => simp [hc] at h
  | some comp =>
    simp only [hc, Option.bind_some, Option.bind_eq_some_iff, Option.map_eq_some_iff] at h
    obtain ⟨c, h2, k, h3, hb⟩ := h
    obtain ⟨k', hk', he⟩ := hvm.2.2 _ _ h3
    have b1 := (va_idx_bare u.vm comp).trans h2
    first | rw [hvm.bare_eq] at b1 | rw [← hvm.bare_eq] at b1
    have hi := (va_idx_bare U.vm comp).symm.trans b1
    have f1 : U.vm.findClass (FieldType.array ty).toString = some comp := by rw [hvm.findClass]; exact hc
    unfold AOA Cond.before Cond.holds
    simp only [Cond.value]
    rw [f1, Option.bind_some]
    refine (congrArg (fun o : Option Nat => (o.bind (fun c => (U.vm.classes[c]?).map fun (k : Class) => match k.kind with | .array _ ty' => decide (ty' = FieldType.array ty) && decide (U.vm.findClass ("[" ++ (FieldType.array ty).toString) = some c) | _ => false) == some true)) hi).trans ?_
    cases hkind : k.kind with
    | array component ty2 =>
      rw [hkind] at hb
      simp at hb
      have hkind' : k'.kind = .array component ty2 := by rw [he]; exact hkind
      have f2 : U.vm.findClass ("[" ++ (FieldType.array ty).toString) = some c := by rw [hvm.findClass]; exact hb.2
      simp [hk', hkind', hb.1, f2]
    | _ => rw [hkind] at hb; simp at hb
theorem AX.moved {u U : State} (hvm : u.vm.Alike U.vm) (h : AX u) : AX U := ⟨h.1.moved hvm, h.2.1.moved hvm, va_AO.moved hvm h.2.2⟩
theorem AOA.use {ty : FieldType} {U : State} {A : Array Value} (h : AOA ty U) : (Cond.arrayOver (.array ty)).before A U = true := h
def PreA (cA : Nat → ClassId) (D : va_G) (N : Nat) (sx : Sx) (ad : Nat → Nat) (T : Knd) (A : Rfs) (nx : Nat) (I : Mem) (U : State) : Prop := Pre cA D N sx ad T A nx I U ∧ AX U
theorem preA_blind {cA : Nat → ClassId} {D : va_G} {N : Nat} {sx : Sx} {ad : Nat → Nat} {T : Knd} {A : Rfs} {nx : Nat} {I : Mem} {av : List Value} : FrameBlind (va_Pc av (PreA cA D N sx ad T A nx I)) := fun a U g mk h => ⟨h.1, ⟨h.2.1.1, va_K.moved (u := U) (U := U.calling g mk a) (Vm.Alike.refl U.vm) h.2.1.2.1, XX_same (u := U) (U := U.calling g mk a) h.2.1.2.2 rfl rfl⟩, AX.moved (u := U) (U := U.calling g mk a) (Vm.Alike.refl U.vm) h.2.2⟩
abbrev rmy (fr mc ms lo : Nat) : Room := { frames := fr, cells := mc, slots := ms, locals := lo }
/-- a maker's contract: nothing comes back; the world has grown -/
def CtA (l : Launch) (y : MethodName) (cc : ByteArray) (nL : Nat) (fr mc ms lo : Nat) (cA : Nat → ClassId) (D : va_G) (N : Nat) (sx : Sx) (ad : Nat → Nat) (T : Knd) (A : Rfs) (nx : Nat) (av : List Value) (I : Mem) (S : St) : Prop := Met l y (.code y cc nL none :: gT) (rmy fr mc ms lo) (va_Pc av (PreA cA D N sx ad T A nx I)) (va_Qv (S := Nat → Nat) (fun _ => True) (fun ad1 t => (∀ i, i ≤ nx → ad1 i = ad i) ∧ nx ≤ S.2.2.1 ∧ RB S.2.1 S.2.2.1 ∧ HP cA D ad1 S.1 S.2.1 S.2.2.1 N S.2.2.2 t.heap) (A0 N)) mc ms (A0 N)
section GR8
variable {p : Program} {l : Launch} {e : Env} {R : Room} {s : State} {m : MethodId} {args : Array Value} {below : List Frame} {meth : Method} {c : Code} {cells slots : Nat} {Q : State → Prop} {cA : Nat → ClassId} {D : va_G} {N nL : Nat} {ad : Nat → Nat} {T : Knd} {A : Rfs} {nx : Nat} {pc : Nat} {lv lv' : List (Nat × Value)} {st : List Value} {I : Mem}
variable {cc : ByteArray} {own : String} {sx : Sx}

theorem wt_nwC {T : Knd} {A : Rfs} {nx : Nat} {I : Mem} {q : Nat × Nat} (hw : wt T nx I) (hq : q.2 < 2147483648) : wt (nwC q (T, A, nx, I)).1 (nx + 1) (nwC q (T, A, nx, I)).2.2.2 := by
  refine ⟨fun a h => ?_, fun a => ?_, fun a k => ?_⟩
  · show 1 ≤ a ∧ a ≤ nx + 1
    by_cases e : a = nx + 1
    · omega
    · have h2 : (T a).1 < 90 := by simpa [nwC, e] using h
      have := hw.1 a h2
      omega
  · by_cases e : a = nx + 1
    · simpa [nwC, e] using hq
    · simpa [nwC, e] using hw.2.1 a
  · by_cases e : a = nx + 1
    · simp only [nwC, e, if_true]
      exact ⟨cl_cn cn0, fun _ => cn0⟩
    · have := hw.2.2 a k
      simpa [nwC, e, isL] using this
theorem nwC_T (T : Knd) (A : Rfs) (nx : Nat) (I : Mem) (q : Nat × Nat) : ∀ b, b ≤ nx → (nwC q (T, A, nx, I)).1 b = T b := fun b hb => if_neg (by show ¬ b = nx + 1; omega)
theorem nwC_A (T : Knd) (A : Rfs) (nx : Nat) (I : Mem) (q : Nat × Nat) : ∀ b, b ≤ nx → ∀ k, (nwC q (T, A, nx, I)).2.1 b k = A b k := fun b hb k => if_neg (by show ¬ b = nx + 1; omega)
theorem nwC_I (T : Knd) (A : Rfs) (nx : Nat) (I : Mem) (q : Nat × Nat) : ∀ b, b ≤ nx → ∀ k, (nwC q (T, A, nx, I)).2.2.2 b k = I b k := fun b hb k => if_neg (by show ¬ b = nx + 1; omega)
theorem RB_nwC {T : Knd} {A : Rfs} {nx : Nat} {I : Mem} {q : Nat × Nat} (h : RB A nx) : RB (nwC q (T, A, nx, I)).2.1 (nx + 1) := fun a k => by
  show (if a = nx + 1 then 0 else A a k) ≤ nx + 1
  by_cases e : a = nx + 1
  · rw [if_pos e]; omega
  · rw [if_neg e]; have := h a k; omega
theorem r_new (S : CallFix p m c cc nL s args gT own) (hK : va_K D vwCl (tyl cA) s) {index ci : Nat} (hm : NW own index ci) (hN : N ≤ s.heap.size) (hrb : RB A nx) (L : (Nat → Nat) → List (Nat × Value)) (Sf : (Nat → Nat) → List Value) (hL : ∀ ad1 : Nat → Nat, (∀ i, i ≤ nx → ad1 i = ad i) → lv = L ad1) (hSf : ∀ ad1 : Nat → Nat, (∀ i, i ≤ nx → ad1 i = ad i) → st = Sf ad1) {Z : Type} {K : St → Option Z} {fin : Z → Prop} (hd : decode cc pc = .ok (.new index, 3)) (c2 s2 : Nat) (hcs : cells + 1 = c2 ∧ slots + (ftc ci).length = s2 ∧ c2 ≤ R.cells ∧ s2 ≤ R.slots) (hf : OK ((nwO ci (T, A, nx, I)).bind K) fin) (kk : ∀ (ad1 : Nat → Nat) (S1 : St), (∀ i, i ≤ nx → ad1 i = ad i) → S1.2.2.1 = nx + 1 → RB S1.2.1 S1.2.2.1 → OK (K S1) fin → G p l e R s m args below meth c (c2) (s2) Q cA D N nL ad1 S1.1 S1.2.1 (S1.2.2.1) (pc + 3) (L ad1) (rv ad1 (nx + 1) :: Sf ad1) S1.2.2.2) : G p l e R s m args below meth c (cells) (slots) Q cA D N nL ad T A (nx) (pc) (lv) (st) I := by
  obtain ⟨rfl, rfl, hcs1, hcs2⟩ := hcs
  obtain ⟨S1, h1, h2⟩ := ok_bind hf
  cases h1
  obtain ⟨C, TT, ty0, hc, h13, hin, hty, hdv, hcl, hin2, hini⟩ := hm
  intro H locs ls hH hS hl
  obtain ⟨hP, hD, hw⟩ := id hH
  refine va_new (fs := (List.range (ftc ci).length).map (fun k => dvv ((ftc ci).getD k 9))) S.1 S.2.1 S.2.2.2.2 hin ty0 hty S.2.2.2.1 (S.2.2.2.2 _ hcl) (S.2.2.2.2 _ hin2) (S.2.2.2.2 _ hini) hK hP hD hS (fun q h => Nat.le_trans hN h) hc (fun j hj => by rw [hdv j hj]; simp [vp_V, List.getD, hj]) hcs1 hcs2 hd (fun q H1 hP1 hD1 hS1 => ?_)
  have ha : ∀ i, i ≤ nx → adx ad nx (fun _ => q) i = ad i := fun i hi => adx_le hi
  have e : wl cA (adx ad nx (fun _ => q)) (nwC (ci, 0) (T, A, nx, I)).1 (nwC (ci, 0) (T, A, nx, I)).2.1 (nx + 1) (nwC (ci, 0) (T, A, nx, I)).2.2.2 = wl cA ad T A nx I ++ [(q, .inr (ci, (List.range (ftc ci).length).map (fun k => dvv ((ftc ci).getD k 9))))] := by
    rw [wl_app 1 ha (nwC_T _ _ _ _ _) (nwC_A _ _ _ _ _) (nwC_I _ _ _ _ _) hrb]
    congr 1
    have e1 : (nwC (ci, 0) (T, A, nx, I)).1 (nx + 1) = (ci, 0) := if_pos rfl
    show [(adx ad nx (fun _ => q) (nx + 1 + 0), ent cA _ _ _ _ (nx + 1 + 0))] = _
    rw [adx_gt, ent_cls (c := ci) (by rw [Nat.add_zero, e1]) h13]
    congr 4
    unfold flds
    apply List.map_congr_left
    intro k hk
    show fv _ (fun a k => if a = nx + 1 then 0 else A a k) (fun a k => if a = nx + 1 then 0 else I a k) (nx + 1) k _ = _
    unfold fv dvv
    simp only [if_true]
    split
    · rfl
    · split
      · rfl
      · rfl
  rw [← e] at hP1 hD1
  have hg := kk (adx ad nx (fun _ => q)) (nwC (ci, 0) (T, A, nx, I)) ha rfl (RB_nwC hrb) h2
  have eq1 : adx ad nx (fun _ => q) (nx + 1) = q := adx_gt (i := 0)
  rw [show rv (adx ad nx (fun _ => q)) (nx + 1) = .ref q from by rw [rv, eq1], ← hL _ ha, ← hSf _ ha] at hg
  exact hg H1 locs ls ⟨hP1, hD1, wt_nwC (A := A) hw (show (0 : Nat) < 2147483648 by omega)⟩ hS1 hl
theorem r_nwai (S : CallFix p m c cc nL s args gT own) (hK : va_K D vwCl (tyl cA) s) (hac : Cond.arrayClass .int ∈ gT) (hN : N ≤ s.heap.size) (hrb : RB A nx) (L : (Nat → Nat) → List (Nat × Value)) (Sf : (Nat → Nat) → List Value) (hL : ∀ ad1 : Nat → Nat, (∀ i, i ≤ nx → ad1 i = ad i) → lv = L ad1) (hSf : ∀ ad1 : Nat → Nat, (∀ i, i ≤ nx → ad1 i = ad i) → st = Sf ad1) {n : Int} (cn' : cn n) {Z : Type} {K : St → Option Z} {fin : Z → Prop} (hd : decode cc pc = .ok (.newarray .int, 2)) (c2 s2 : Nat) (hcs : cells + 1 = c2 ∧ slots + n.toNat = s2 ∧ c2 ≤ R.cells ∧ s2 ≤ R.slots) (hf : OK ((nwA 20 n (T, A, nx, I)).bind K) fin) (kk : ∀ (ad1 : Nat → Nat) (S1 : St), (∀ i, i ≤ nx → ad1 i = ad i) → S1.2.2.1 = nx + 1 → RB S1.2.1 S1.2.2.1 → OK (K S1) fin → G p l e R s m args below meth c (c2) (s2) Q cA D N nL ad1 S1.1 S1.2.1 (S1.2.2.1) (pc + 2) (L ad1) (rv ad1 (nx + 1) :: Sf ad1) S1.2.2.2) : G p l e R s m args below meth c (cells) (slots) Q cA D N nL ad T A (nx) (pc) (lv) (iv n :: st) I := by
  obtain ⟨rfl, rfl, hcs1, hcs2⟩ := hcs
  obtain ⟨S1, h1, h2⟩ := ok_bind hf
  by_cases hn : 0 ≤ n ∧ n < 100000
  · rw [nwA, if_pos hn] at h1
    cases h1
    intro H locs ls hH hS hl
    obtain ⟨hP, hD, hw⟩ := id hH
    have hb8 : componentBytes .int ≤ 8 := by decide
    have hby : n.toNat * componentBytes .int ≤ 536870912 := by
      have h3 := Nat.mul_le_mul_left n.toNat hb8
      omega
    refine va_newa (atype := .int) (N' := n.toNat) (a0 := (n.toNat, .inl (fun _ => Int32.ofInt 0))) S.1 S.2.1 (S.2.2.2.2 _ hac) (ty := .int) rfl hK hP hD hS (fun q h => Nat.le_trans hN h) (fun _ => rfl) (nneg cn' hn.1) (tnc cn') hby hcs1 hcs2 hd (fun q c9 H1 hK1 hP1 hD1 hS1 => ?_)
    have hc9 : c9 = cA 20 := by
      have h3 : s.vm.findClass _ = some c9 := (hK1.2 7 (c9, .int) rfl).2
      have h4 : s.vm.findClass _ = some (cA 20) := (hK.2 0 _ rfl).2
      exact Option.some.inj (h3.symm.trans h4)
    subst hc9
    have ha : ∀ i, i ≤ nx → adx ad nx (fun _ => q) i = ad i := fun i hi => adx_le hi
    have e : wl cA (adx ad nx (fun _ => q)) (nwC (20, n.toNat) (T, A, nx, I)).1 (nwC (20, n.toNat) (T, A, nx, I)).2.1 (nx + 1) (nwC (20, n.toNat) (T, A, nx, I)).2.2.2 = wl cA ad T A nx I ++ [(q, .inl (cA 20, (n.toNat, .inl (fun _ => Int32.ofInt 0))))] := by
      rw [wl_app 1 ha (nwC_T _ _ _ _ _) (nwC_A _ _ _ _ _) (nwC_I _ _ _ _ _) hrb]
      congr 1
      have e1 : (nwC (20, n.toNat) (T, A, nx, I)).1 (nx + 1) = (20, n.toNat) := if_pos rfl
      show [(adx ad nx (fun _ => q) (nx + 1 + 0), ent cA _ _ _ _ (nx + 1 + 0))] = _
      rw [adx_gt, Nat.add_zero]
      have e2 := ent_i (cA := cA) (ad := adx ad nx (fun _ => q)) (A := (nwC (20, n.toNat) (T, A, nx, I)).2.1) (I := (nwC (20, n.toNat) (T, A, nx, I)).2.2.2) (T := (nwC (20, n.toNat) (T, A, nx, I)).1) (a := nx + 1) (c := 20) (by rw [e1]) (by decide)
      rw [e2, e1]
      have e3 : ∀ j, (nwC (20, n.toNat) (T, A, nx, I)).2.2.2 (nx + 1) j = 0 := fun j => if_pos rfl
      simp only [e3]
    rw [← e] at hP1 hD1
    have hg := kk (adx ad nx (fun _ => q)) (nwC (20, n.toNat) (T, A, nx, I)) ha rfl (RB_nwC hrb) h2
    have eq1 : adx ad nx (fun _ => q) (nx + 1) = q := adx_gt (i := 0)
    rw [show rv (adx ad nx (fun _ => q)) (nx + 1) = .ref q from by rw [rv, eq1], ← hL _ ha, ← hSf _ ha] at hg
    exact hg H1 locs ls ⟨hP1, hD1, wt_nwC (A := A) hw (show n.toNat < 2147483648 by omega)⟩ hS1 hl
  · rw [nwA, if_neg hn] at h1
    cases h1
theorem r_nwaj (S : CallFix p m c cc nL s args gT own) (hK : va_K D vwCl (tyl cA) s) (hac : Cond.arrayClass .long ∈ gT) (hN : N ≤ s.heap.size) (hrb : RB A nx) (L : (Nat → Nat) → List (Nat × Value)) (Sf : (Nat → Nat) → List Value) (hL : ∀ ad1 : Nat → Nat, (∀ i, i ≤ nx → ad1 i = ad i) → lv = L ad1) (hSf : ∀ ad1 : Nat → Nat, (∀ i, i ≤ nx → ad1 i = ad i) → st = Sf ad1) {n : Int} (cn' : cn n) {Z : Type} {K : St → Option Z} {fin : Z → Prop} (hd : decode cc pc = .ok (.newarray .long, 2)) (c2 s2 : Nat) (hcs : cells + 1 = c2 ∧ slots + n.toNat = s2 ∧ c2 ≤ R.cells ∧ s2 ≤ R.slots) (hf : OK ((nwA 21 n (T, A, nx, I)).bind K) fin) (kk : ∀ (ad1 : Nat → Nat) (S1 : St), (∀ i, i ≤ nx → ad1 i = ad i) → S1.2.2.1 = nx + 1 → RB S1.2.1 S1.2.2.1 → OK (K S1) fin → G p l e R s m args below meth c (c2) (s2) Q cA D N nL ad1 S1.1 S1.2.1 (S1.2.2.1) (pc + 2) (L ad1) (rv ad1 (nx + 1) :: Sf ad1) S1.2.2.2) : G p l e R s m args below meth c (cells) (slots) Q cA D N nL ad T A (nx) (pc) (lv) (iv n :: st) I := by
  obtain ⟨rfl, rfl, hcs1, hcs2⟩ := hcs
  obtain ⟨S1, h1, h2⟩ := ok_bind hf
  by_cases hn : 0 ≤ n ∧ n < 100000
  · rw [nwA, if_pos hn] at h1
    cases h1
    intro H locs ls hH hS hl
    obtain ⟨hP, hD, hw⟩ := id hH
    have hb8 : componentBytes .long ≤ 8 := by decide
    have hby : n.toNat * componentBytes .long ≤ 536870912 := by
      have h3 := Nat.mul_le_mul_left n.toNat hb8
      omega
    refine va_newa (atype := .long) (N' := n.toNat) (a0 := (n.toNat, .inr (.inl (fun _ => Int64.ofInt 0)))) S.1 S.2.1 (S.2.2.2.2 _ hac) (ty := .long) rfl hK hP hD hS (fun q h => Nat.le_trans hN h) (fun _ => rfl) (nneg cn' hn.1) (tnc cn') hby hcs1 hcs2 hd (fun q c9 H1 hK1 hP1 hD1 hS1 => ?_)
    have hc9 : c9 = cA 21 := by
      have h3 : s.vm.findClass _ = some c9 := (hK1.2 7 (c9, .long) rfl).2
      have h4 : s.vm.findClass _ = some (cA 21) := (hK.2 1 _ rfl).2
      exact Option.some.inj (h3.symm.trans h4)
    subst hc9
    have ha : ∀ i, i ≤ nx → adx ad nx (fun _ => q) i = ad i := fun i hi => adx_le hi
    have e : wl cA (adx ad nx (fun _ => q)) (nwC (21, n.toNat) (T, A, nx, I)).1 (nwC (21, n.toNat) (T, A, nx, I)).2.1 (nx + 1) (nwC (21, n.toNat) (T, A, nx, I)).2.2.2 = wl cA ad T A nx I ++ [(q, .inl (cA 21, (n.toNat, .inr (.inl (fun _ => Int64.ofInt 0)))))] := by
      rw [wl_app 1 ha (nwC_T _ _ _ _ _) (nwC_A _ _ _ _ _) (nwC_I _ _ _ _ _) hrb]
      congr 1
      have e1 : (nwC (21, n.toNat) (T, A, nx, I)).1 (nx + 1) = (21, n.toNat) := if_pos rfl
      show [(adx ad nx (fun _ => q) (nx + 1 + 0), ent cA _ _ _ _ (nx + 1 + 0))] = _
      rw [adx_gt, Nat.add_zero]
      have e2 := ent_l (cA := cA) (ad := adx ad nx (fun _ => q)) (A := (nwC (21, n.toNat) (T, A, nx, I)).2.1) (I := (nwC (21, n.toNat) (T, A, nx, I)).2.2.2) (T := (nwC (21, n.toNat) (T, A, nx, I)).1) (a := nx + 1) (by rw [e1])
      rw [e2, e1]
      have e3 : ∀ j, (nwC (21, n.toNat) (T, A, nx, I)).2.2.2 (nx + 1) j = 0 := fun j => if_pos rfl
      simp only [e3]
    rw [← e] at hP1 hD1
    have hg := kk (adx ad nx (fun _ => q)) (nwC (21, n.toNat) (T, A, nx, I)) ha rfl (RB_nwC hrb) h2
    have eq1 : adx ad nx (fun _ => q) (nx + 1) = q := adx_gt (i := 0)
    rw [show rv (adx ad nx (fun _ => q)) (nx + 1) = .ref q from by rw [rv, eq1], ← hL _ ha, ← hSf _ ha] at hg
    exact hg H1 locs ls ⟨hP1, hD1, wt_nwC (A := A) hw (show n.toNat < 2147483648 by omega)⟩ hS1 hl
  · rw [nwA, if_neg hn] at h1
    cases h1
theorem r_nwab (S : CallFix p m c cc nL s args gT own) (hK : va_K D vwCl (tyl cA) s) (hac : Cond.arrayClass .byte ∈ gT) (hN : N ≤ s.heap.size) (hrb : RB A nx) (L : (Nat → Nat) → List (Nat × Value)) (Sf : (Nat → Nat) → List Value) (hL : ∀ ad1 : Nat → Nat, (∀ i, i ≤ nx → ad1 i = ad i) → lv = L ad1) (hSf : ∀ ad1 : Nat → Nat, (∀ i, i ≤ nx → ad1 i = ad i) → st = Sf ad1) {n : Int} (cn' : cn n) {Z : Type} {K : St → Option Z} {fin : Z → Prop} (hd : decode cc pc = .ok (.newarray .byte, 2)) (c2 s2 : Nat) (hcs : cells + 1 = c2 ∧ slots + n.toNat = s2 ∧ c2 ≤ R.cells ∧ s2 ≤ R.slots) (hf : OK ((nwA 22 n (T, A, nx, I)).bind K) fin) (kk : ∀ (ad1 : Nat → Nat) (S1 : St), (∀ i, i ≤ nx → ad1 i = ad i) → S1.2.2.1 = nx + 1 → RB S1.2.1 S1.2.2.1 → OK (K S1) fin → G p l e R s m args below meth c (c2) (s2) Q cA D N nL ad1 S1.1 S1.2.1 (S1.2.2.1) (pc + 2) (L ad1) (rv ad1 (nx + 1) :: Sf ad1) S1.2.2.2) : G p l e R s m args below meth c (cells) (slots) Q cA D N nL ad T A (nx) (pc) (lv) (iv n :: st) I := by
  obtain ⟨rfl, rfl, hcs1, hcs2⟩ := hcs
  obtain ⟨S1, h1, h2⟩ := ok_bind hf
  by_cases hn : 0 ≤ n ∧ n < 100000
  · rw [nwA, if_pos hn] at h1
    cases h1
    intro H locs ls hH hS hl
    obtain ⟨hP, hD, hw⟩ := id hH
    have hb8 : componentBytes .byte ≤ 8 := by decide
    have hby : n.toNat * componentBytes .byte ≤ 536870912 := by
      have h3 := Nat.mul_le_mul_left n.toNat hb8
      omega
    refine va_newa (atype := .byte) (N' := n.toNat) (a0 := (n.toNat, .inl (fun _ => Int32.ofInt 0))) S.1 S.2.1 (S.2.2.2.2 _ hac) (ty := .byte) rfl hK hP hD hS (fun q h => Nat.le_trans hN h) (fun _ => rfl) (nneg cn' hn.1) (tnc cn') hby hcs1 hcs2 hd (fun q c9 H1 hK1 hP1 hD1 hS1 => ?_)
    have hc9 : c9 = cA 22 := by
      have h3 : s.vm.findClass _ = some c9 := (hK1.2 7 (c9, .byte) rfl).2
      have h4 : s.vm.findClass _ = some (cA 22) := (hK.2 2 _ rfl).2
      exact Option.some.inj (h3.symm.trans h4)
    subst hc9
    have ha : ∀ i, i ≤ nx → adx ad nx (fun _ => q) i = ad i := fun i hi => adx_le hi
    have e : wl cA (adx ad nx (fun _ => q)) (nwC (22, n.toNat) (T, A, nx, I)).1 (nwC (22, n.toNat) (T, A, nx, I)).2.1 (nx + 1) (nwC (22, n.toNat) (T, A, nx, I)).2.2.2 = wl cA ad T A nx I ++ [(q, .inl (cA 22, (n.toNat, .inl (fun _ => Int32.ofInt 0))))] := by
      rw [wl_app 1 ha (nwC_T _ _ _ _ _) (nwC_A _ _ _ _ _) (nwC_I _ _ _ _ _) hrb]
      congr 1
      have e1 : (nwC (22, n.toNat) (T, A, nx, I)).1 (nx + 1) = (22, n.toNat) := if_pos rfl
      show [(adx ad nx (fun _ => q) (nx + 1 + 0), ent cA _ _ _ _ (nx + 1 + 0))] = _
      rw [adx_gt, Nat.add_zero]
      have e2 := ent_i (cA := cA) (ad := adx ad nx (fun _ => q)) (A := (nwC (22, n.toNat) (T, A, nx, I)).2.1) (I := (nwC (22, n.toNat) (T, A, nx, I)).2.2.2) (T := (nwC (22, n.toNat) (T, A, nx, I)).1) (a := nx + 1) (c := 22) (by rw [e1]) (by decide)
      rw [e2, e1]
      have e3 : ∀ j, (nwC (22, n.toNat) (T, A, nx, I)).2.2.2 (nx + 1) j = 0 := fun j => if_pos rfl
      simp only [e3]
    rw [← e] at hP1 hD1
    have hg := kk (adx ad nx (fun _ => q)) (nwC (22, n.toNat) (T, A, nx, I)) ha rfl (RB_nwC hrb) h2
    have eq1 : adx ad nx (fun _ => q) (nx + 1) = q := adx_gt (i := 0)
    rw [show rv (adx ad nx (fun _ => q)) (nx + 1) = .ref q from by rw [rv, eq1], ← hL _ ha, ← hSf _ ha] at hg
    exact hg H1 locs ls ⟨hP1, hD1, wt_nwC (A := A) hw (show n.toNat < 2147483648 by omega)⟩ hS1 hl
  · rw [nwA, if_neg hn] at h1
    cases h1
theorem r_nwaz (S : CallFix p m c cc nL s args gT own) (hK : va_K D vwCl (tyl cA) s) (hac : Cond.arrayClass .boolean ∈ gT) (hN : N ≤ s.heap.size) (hrb : RB A nx) (L : (Nat → Nat) → List (Nat × Value)) (Sf : (Nat → Nat) → List Value) (hL : ∀ ad1 : Nat → Nat, (∀ i, i ≤ nx → ad1 i = ad i) → lv = L ad1) (hSf : ∀ ad1 : Nat → Nat, (∀ i, i ≤ nx → ad1 i = ad i) → st = Sf ad1) {n : Int} (cn' : cn n) {Z : Type} {K : St → Option Z} {fin : Z → Prop} (hd : decode cc pc = .ok (.newarray .boolean, 2)) (c2 s2 : Nat) (hcs : cells + 1 = c2 ∧ slots + n.toNat = s2 ∧ c2 ≤ R.cells ∧ s2 ≤ R.slots) (hf : OK ((nwA 23 n (T, A, nx, I)).bind K) fin) (kk : ∀ (ad1 : Nat → Nat) (S1 : St), (∀ i, i ≤ nx → ad1 i = ad i) → S1.2.2.1 = nx + 1 → RB S1.2.1 S1.2.2.1 → OK (K S1) fin → G p l e R s m args below meth c (c2) (s2) Q cA D N nL ad1 S1.1 S1.2.1 (S1.2.2.1) (pc + 2) (L ad1) (rv ad1 (nx + 1) :: Sf ad1) S1.2.2.2) : G p l e R s m args below meth c (cells) (slots) Q cA D N nL ad T A (nx) (pc) (lv) (iv n :: st) I := by
  obtain ⟨rfl, rfl, hcs1, hcs2⟩ := hcs
  obtain ⟨S1, h1, h2⟩ := ok_bind hf
  by_cases hn : 0 ≤ n ∧ n < 100000
  · rw [nwA, if_pos hn] at h1
    cases h1
    intro H locs ls hH hS hl
    obtain ⟨hP, hD, hw⟩ := id hH
    have hb8 : componentBytes .boolean ≤ 8 := by decide
    have hby : n.toNat * componentBytes .boolean ≤ 536870912 := by
      have h3 := Nat.mul_le_mul_left n.toNat hb8
      omega
    refine va_newa (atype := .boolean) (N' := n.toNat) (a0 := (n.toNat, .inl (fun _ => Int32.ofInt 0))) S.1 S.2.1 (S.2.2.2.2 _ hac) (ty := .boolean) rfl hK hP hD hS (fun q h => Nat.le_trans hN h) (fun _ => rfl) (nneg cn' hn.1) (tnc cn') hby hcs1 hcs2 hd (fun q c9 H1 hK1 hP1 hD1 hS1 => ?_)
    have hc9 : c9 = cA 23 := by
      have h3 : s.vm.findClass _ = some c9 := (hK1.2 7 (c9, .boolean) rfl).2
      have h4 : s.vm.findClass _ = some (cA 23) := (hK.2 3 _ rfl).2
      exact Option.some.inj (h3.symm.trans h4)
    subst hc9
    have ha : ∀ i, i ≤ nx → adx ad nx (fun _ => q) i = ad i := fun i hi => adx_le hi
    have e : wl cA (adx ad nx (fun _ => q)) (nwC (23, n.toNat) (T, A, nx, I)).1 (nwC (23, n.toNat) (T, A, nx, I)).2.1 (nx + 1) (nwC (23, n.toNat) (T, A, nx, I)).2.2.2 = wl cA ad T A nx I ++ [(q, .inl (cA 23, (n.toNat, .inl (fun _ => Int32.ofInt 0))))] := by
      rw [wl_app 1 ha (nwC_T _ _ _ _ _) (nwC_A _ _ _ _ _) (nwC_I _ _ _ _ _) hrb]
      congr 1
      have e1 : (nwC (23, n.toNat) (T, A, nx, I)).1 (nx + 1) = (23, n.toNat) := if_pos rfl
      show [(adx ad nx (fun _ => q) (nx + 1 + 0), ent cA _ _ _ _ (nx + 1 + 0))] = _
      rw [adx_gt, Nat.add_zero]
      have e2 := ent_i (cA := cA) (ad := adx ad nx (fun _ => q)) (A := (nwC (23, n.toNat) (T, A, nx, I)).2.1) (I := (nwC (23, n.toNat) (T, A, nx, I)).2.2.2) (T := (nwC (23, n.toNat) (T, A, nx, I)).1) (a := nx + 1) (c := 23) (by rw [e1]) (by decide)
      rw [e2, e1]
      have e3 : ∀ j, (nwC (23, n.toNat) (T, A, nx, I)).2.2.2 (nx + 1) j = 0 := fun j => if_pos rfl
      simp only [e3]
    rw [← e] at hP1 hD1
    have hg := kk (adx ad nx (fun _ => q)) (nwC (23, n.toNat) (T, A, nx, I)) ha rfl (RB_nwC hrb) h2
    have eq1 : adx ad nx (fun _ => q) (nx + 1) = q := adx_gt (i := 0)
    rw [show rv (adx ad nx (fun _ => q)) (nx + 1) = .ref q from by rw [rv, eq1], ← hL _ ha, ← hSf _ ha] at hg
    exact hg H1 locs ls ⟨hP1, hD1, wt_nwC (A := A) hw (show n.toNat < 2147483648 by omega)⟩ hS1 hl
  · rw [nwA, if_neg hn] at h1
    cases h1
theorem r_nwmi (S : CallFix p m c cc nL s args gT own) (hK : va_K D vwCl (tyl cA) s) (hov : AOA .int s) (hac : Cond.arrayClass .int ∈ gT) {index : Nat} (hcl : Cond.classLink own index ("[" ++ (FieldType.array .int).toString) ∈ gT) (hN : N ≤ s.heap.size) (hrb : RB A nx) (L : (Nat → Nat) → List (Nat × Value)) (Sf : (Nat → Nat) → List Value) (hL : ∀ ad1 : Nat → Nat, (∀ i, i ≤ nx → ad1 i = ad i) → lv = L ad1) (hSf : ∀ ad1 : Nat → Nat, (∀ i, i ≤ nx → ad1 i = ad i) → st = Sf ad1) {n k : Int} (cn' : cn n) (ck : cn k) {Z : Type} {K : St → Option Z} {fin : Z → Prop} (hd : decode cc pc = .ok (.multianewarray index 2, 4)) (c2 s2 : Nat) (hcs : cells + 1 + n.toNat = c2 ∧ slots + n.toNat + n.toNat * k.toNat = s2 ∧ c2 ≤ R.cells ∧ s2 ≤ R.slots) (hf : OK ((nwM 24 20 n k (T, A, nx, I)).bind K) fin) (kk : ∀ (ad1 : Nat → Nat) (S1 : St), (∀ i, i ≤ nx → ad1 i = ad i) → S1.2.2.1 = nx + 1 + n.toNat → RB S1.2.1 S1.2.2.1 → OK (K S1) fin → G p l e R s m args below meth c (c2) (s2) Q cA D N nL ad1 S1.1 S1.2.1 (S1.2.2.1) (pc + 4) (L ad1) (rv ad1 (nx + 1) :: Sf ad1) S1.2.2.2) : G p l e R s m args below meth c (cells) (slots) Q cA D N nL ad T A (nx) (pc) (lv) (iv k :: iv n :: st) I := by
  obtain ⟨rfl, rfl, hcs1, hcs2⟩ := hcs
  obtain ⟨S1, h1, h2⟩ := ok_bind hf
  by_cases hn : 0 ≤ n ∧ n < 1000 ∧ 0 ≤ k ∧ k < 1000
  · rw [nwM, if_pos hn] at h1
    have hS1e := Option.some.inj h1
    intro H locs ls hH hS hl
    obtain ⟨hP, hD, hw⟩ := id hH
    have hb8 : componentBytes .int ≤ 8 := by decide
    have hby : k.toNat * componentBytes .int ≤ 536870912 := by
      have h3 := Nat.mul_le_mul_left k.toNat hb8
      omega
    have hP' : va_P D vwCl (wl cA ad T A nx I ++ va_pl [] (fun _ => Sum.inr (0, []))) H := by simpa [va_pl] using hP
    have hD' : va_D (A0 N) (wl cA ad T A nx I ++ va_pl [] (fun _ => Sum.inr (0, []))) := by simpa [va_pl] using hD
    have hcy : s.vm.findClass (FieldType.array .int).toString = some (cA 20) := (hK.2 0 _ rfl).2
    refine va_mna (X := wl cA ad T A nx I) (L := []) (f := fun _ => Sum.inr (0, [])) (N' := n.toNat) (K' := k.toNat) (z := (k.toNat, .inl (fun _ => Int32.ofInt 0))) S.1 S.2.1 S.2.2.2.1 (S.2.2.2.2 _ hcl) hov.use (S.2.2.2.2 _ hac) hcy hK hP' hD' hS (fun q h => Nat.le_trans hN h) (nneg cn' hn.1) (nneg ck hn.2.2.1) (tnc cn') (tnc ck) (by omega) hby (by omega) rfl rfl (by rw [← Nat.add_assoc]; exact hcs1) (by rw [← Nat.add_assoc]; exact hcs2) (fun c => arrV_new c k.toNat (defaultValue .int)) hd (fun q r c9 H1 hr1 hr2 hK1 hP1 hD1 hS1 => ?_)
    have hc9 : c9 = cA 24 := by
      have h3 : s.vm.findClass _ = some c9 := (hK1.2 7 (c9, .array .int) rfl).2
      have h4 : s.vm.findClass _ = some (cA 24) := (hK.2 4 _ rfl).2
      exact Option.some.inj (h3.symm.trans h4)
    subst hc9
    have ha : ∀ i, i ≤ nx → adx ad nx (fun i => if i = 0 then q else r (i - 1)) i = ad i := fun i hi => adx_le hi
    have hT1 : ∀ b, b ≤ nx → S1.1 b = T b := fun b hb => by subst hS1e; show (if _ then _ else if _ then _ else _) = _; rw [if_neg (by show ¬ b = nx + 1; omega), if_neg (by show ¬ (nx + 1 < b ∧ _); omega)]
    have hA1 : ∀ b, b ≤ nx → ∀ j, S1.2.1 b j = A b j := fun b hb j => by subst hS1e; show (if _ then _ else if _ then _ else _) = _; rw [if_neg (by show ¬ b = nx + 1; omega), if_neg (by show ¬ (nx + 1 < b ∧ _); omega)]
    have hI1 : ∀ b, b ≤ nx → ∀ j, S1.2.2.2 b j = I b j := fun b hb j => by subst hS1e; show (if _ then _ else _) = _; rw [if_neg (by show ¬ (nx < b ∧ _); omega)]
    have hn1 : S1.2.2.1 = nx + (1 + n.toNat) := by subst hS1e; show nx + 1 + n.toNat = _; omega
    have t1 : S1.1 (nx + 1) = (24, n.toNat) := by subst hS1e; exact if_pos rfl
    have t2 : ∀ i, i < n.toNat → S1.1 (nx + 1 + (1 + i)) = (20, k.toNat) := fun i hi => by subst hS1e; show (if _ then _ else if _ then _ else _) = _; rw [if_neg (by show ¬ _ = nx + 1; omega), if_pos (by show nx + 1 < _ ∧ _ < nx + 2 + n.toNat; omega)]
    have a1 : ∀ j, S1.2.1 (nx + 1) j = if j < n.toNat then nx + 2 + j else 0 := fun j => by subst hS1e; exact if_pos rfl
    have i2 : ∀ i, i < n.toNat → ∀ j, S1.2.2.2 (nx + 1 + (1 + i)) j = 0 := fun i hi j => by subst hS1e; show (if _ then _ else _) = _; rw [if_pos (by show nx < _ ∧ _ < nx + 2 + n.toNat; omega)]
    have hrb1 : RB S1.2.1 S1.2.2.1 := fun a j => by
      rw [hn1]
      subst hS1e
      show (if _ then _ else if _ then _ else _) ≤ _
      split
      · show (if _ then _ else _) ≤ _
        split
        · show nx + 2 + j ≤ nx + (1 + n.toNat)
          omega
        · omega
      · split
        · omega
        · have h9 : A a j ≤ nx := hrb a j
          show A a j ≤ _
          omega
    have e : wl cA (adx ad nx (fun i => if i = 0 then q else r (i - 1))) S1.1 S1.2.1 S1.2.2.1 S1.2.2.2 = (wl cA ad T A nx I ++ [(q, .inl (cA 24, n.toNat, .inr (.inr (.inr (.inr (fun i => if i < n.toNat then some (r i) else none))))))]) ++ va_pl ([] ++ (List.range n.toNat).map r) (vr_up (fun _ => Sum.inr (0, [])) ([] ++ (List.range n.toNat).map r) (.inl (cA 20, (k.toNat, .inl (fun _ => Int32.ofInt 0))))) := by
      rw [hn1, wl_app (1 + n.toNat) ha hT1 hA1 hI1 hrb, List.append_assoc]
      congr 1
      rw [List.range_add, List.map_append]
      congr 1
      · show [(adx ad nx _ (nx + 1 + 0), ent cA _ _ _ _ (nx + 1 + 0))] = _
        rw [adx_gt, Nat.add_zero, ent_r (c := 24) (by rw [t1]) (by decide), t1]
        congr 9
        funext j
        rw [a1 j]
        by_cases hj : j < n.toNat
        · rw [if_pos hj, if_pos hj, ro_pos (by omega)]
          congr 1
          rw [show nx + 2 + j = nx + 1 + (1 + j) by omega, adx_gt, if_neg (by omega)]
          congr 1
          omega
        · rw [if_neg hj, if_neg hj]
          rfl
      · unfold va_pl
        rw [List.nil_append, List.map_map, List.map_map]
        apply List.map_congr_left
        intro i hi
        have hl2 := List.mem_range.mp hi
        have em : r i ∈ (List.range n.toNat).map r := List.mem_map.mpr ⟨i, hi, rfl⟩
        have e5 : adx ad nx (fun i => if i = 0 then q else r (i - 1)) (nx + 1 + (1 + i)) = r i := by
          rw [adx_gt, if_neg (by omega)]
          congr 1
          omega
        have e6 := ent_i (cA := cA) (ad := adx ad nx (fun i => if i = 0 then q else r (i - 1))) (A := S1.2.1) (I := S1.2.2.2) (T := S1.1) (a := nx + 1 + (1 + i)) (c := 20) (by rw [t2 i hl2]) (by decide)
        simp only [Function.comp]
        rw [e5, e6, vr_up_in em, t2 i hl2]
        simp only [i2 i hl2]
    have hP2 : va_P D vwCl (wl cA (adx ad nx (fun i => if i = 0 then q else r (i - 1))) S1.1 S1.2.1 S1.2.2.1 S1.2.2.2) H1 := by rw [e]; exact hP1
    have hD2 : va_D (A0 N) (wl cA (adx ad nx (fun i => if i = 0 then q else r (i - 1))) S1.1 S1.2.1 S1.2.2.1 S1.2.2.2) := by rw [e]; exact hD1
    have hg := kk (adx ad nx (fun i => if i = 0 then q else r (i - 1))) S1 ha (by rw [hn1]; omega) hrb1 h2
    have eq1 : adx ad nx (fun i => if i = 0 then q else r (i - 1)) (nx + 1) = q := adx_gt (i := 0)
    rw [show rv (adx ad nx (fun i => if i = 0 then q else r (i - 1))) (nx + 1) = .ref q from by rw [rv, eq1], ← hL _ ha, ← hSf _ ha] at hg
    refine hg H1 locs ls ⟨hP2, hD2, fun a h => ?_, fun a => ?_, fun a j => ?_⟩ hS1 hl
    · rw [hn1]
      by_cases h9 : a ≤ nx
      · rw [hT1 a h9] at h
        have := hw.1 a h
        omega
      · by_cases h8 : a < nx + 2 + n.toNat
        · omega
        · exfalso
          have e7 : S1.1 a = T a := by subst hS1e; show (if _ then _ else if _ then _ else _) = _; rw [if_neg (by show ¬ a = nx + 1; omega), if_neg (by show ¬ (nx + 1 < a ∧ a < nx + 2 + n.toNat); omega)]
          rw [e7] at h
          have := hw.1 a h
          omega
    · subst hS1e
      show (if _ then _ else if _ then _ else _ : Nat × Nat).2 < _
      split
      · show n.toNat < _
        omega
      · split
        · show k.toNat < _
          omega
        · exact hw.2.1 a
    · by_cases h9 : nx < a ∧ a < nx + 2 + n.toNat
      · have e7 : S1.2.2.2 a j = 0 := by subst hS1e; exact if_pos h9
        rw [e7]
        exact ⟨cl_cn cn0, fun _ => cn0⟩
      · have e7 : S1.2.2.2 a j = I a j := by subst hS1e; exact if_neg h9
        have e8 : S1.1 a = T a := by subst hS1e; show (if _ then _ else if _ then _ else _) = _; rw [if_neg (by show ¬ a = nx + 1; omega), if_neg (by show ¬ (nx + 1 < a ∧ a < nx + 2 + n.toNat); omega)]
        rw [e7]
        have := hw.2.2 a j
        simpa [isL, e8] using this
  · rw [nwM, if_neg hn] at h1
    cases h1
theorem r_nwmj (S : CallFix p m c cc nL s args gT own) (hK : va_K D vwCl (tyl cA) s) (hov : AOA .long s) (hac : Cond.arrayClass .long ∈ gT) {index : Nat} (hcl : Cond.classLink own index ("[" ++ (FieldType.array .long).toString) ∈ gT) (hN : N ≤ s.heap.size) (hrb : RB A nx) (L : (Nat → Nat) → List (Nat × Value)) (Sf : (Nat → Nat) → List Value) (hL : ∀ ad1 : Nat → Nat, (∀ i, i ≤ nx → ad1 i = ad i) → lv = L ad1) (hSf : ∀ ad1 : Nat → Nat, (∀ i, i ≤ nx → ad1 i = ad i) → st = Sf ad1) {n k : Int} (cn' : cn n) (ck : cn k) {Z : Type} {K : St → Option Z} {fin : Z → Prop} (hd : decode cc pc = .ok (.multianewarray index 2, 4)) (c2 s2 : Nat) (hcs : cells + 1 + n.toNat = c2 ∧ slots + n.toNat + n.toNat * k.toNat = s2 ∧ c2 ≤ R.cells ∧ s2 ≤ R.slots) (hf : OK ((nwM 25 21 n k (T, A, nx, I)).bind K) fin) (kk : ∀ (ad1 : Nat → Nat) (S1 : St), (∀ i, i ≤ nx → ad1 i = ad i) → S1.2.2.1 = nx + 1 + n.toNat → RB S1.2.1 S1.2.2.1 → OK (K S1) fin → G p l e R s m args below meth c (c2) (s2) Q cA D N nL ad1 S1.1 S1.2.1 (S1.2.2.1) (pc + 4) (L ad1) (rv ad1 (nx + 1) :: Sf ad1) S1.2.2.2) : G p l e R s m args below meth c (cells) (slots) Q cA D N nL ad T A (nx) (pc) (lv) (iv k :: iv n :: st) I := by
  obtain ⟨rfl, rfl, hcs1, hcs2⟩ := hcs
  obtain ⟨S1, h1, h2⟩ := ok_bind hf
  by_cases hn : 0 ≤ n ∧ n < 1000 ∧ 0 ≤ k ∧ k < 1000
  · rw [nwM, if_pos hn] at h1
    have hS1e := Option.some.inj h1
    intro H locs ls hH hS hl
    obtain ⟨hP, hD, hw⟩ := id hH
    have hb8 : componentBytes .long ≤ 8 := by decide
    have hby : k.toNat * componentBytes .long ≤ 536870912 := by
      have h3 := Nat.mul_le_mul_left k.toNat hb8
      omega
    have hP' : va_P D vwCl (wl cA ad T A nx I ++ va_pl [] (fun _ => Sum.inr (0, []))) H := by simpa [va_pl] using hP
    have hD' : va_D (A0 N) (wl cA ad T A nx I ++ va_pl [] (fun _ => Sum.inr (0, []))) := by simpa [va_pl] using hD
    have hcy : s.vm.findClass (FieldType.array .long).toString = some (cA 21) := (hK.2 1 _ rfl).2
    refine va_mna (X := wl cA ad T A nx I) (L := []) (f := fun _ => Sum.inr (0, [])) (N' := n.toNat) (K' := k.toNat) (z := (k.toNat, .inr (.inl (fun _ => Int64.ofInt 0)))) S.1 S.2.1 S.2.2.2.1 (S.2.2.2.2 _ hcl) hov.use (S.2.2.2.2 _ hac) hcy hK hP' hD' hS (fun q h => Nat.le_trans hN h) (nneg cn' hn.1) (nneg ck hn.2.2.1) (tnc cn') (tnc ck) (by omega) hby (by omega) rfl rfl (by rw [← Nat.add_assoc]; exact hcs1) (by rw [← Nat.add_assoc]; exact hcs2) (fun c => arrV_new c k.toNat (defaultValue .long)) hd (fun q r c9 H1 hr1 hr2 hK1 hP1 hD1 hS1 => ?_)
    have hc9 : c9 = cA 25 := by
      have h3 : s.vm.findClass _ = some c9 := (hK1.2 7 (c9, .array .long) rfl).2
      have h4 : s.vm.findClass _ = some (cA 25) := (hK.2 5 _ rfl).2
      exact Option.some.inj (h3.symm.trans h4)
    subst hc9
    have ha : ∀ i, i ≤ nx → adx ad nx (fun i => if i = 0 then q else r (i - 1)) i = ad i := fun i hi => adx_le hi
    have hT1 : ∀ b, b ≤ nx → S1.1 b = T b := fun b hb => by subst hS1e; show (if _ then _ else if _ then _ else _) = _; rw [if_neg (by show ¬ b = nx + 1; omega), if_neg (by show ¬ (nx + 1 < b ∧ _); omega)]
    have hA1 : ∀ b, b ≤ nx → ∀ j, S1.2.1 b j = A b j := fun b hb j => by subst hS1e; show (if _ then _ else if _ then _ else _) = _; rw [if_neg (by show ¬ b = nx + 1; omega), if_neg (by show ¬ (nx + 1 < b ∧ _); omega)]
    have hI1 : ∀ b, b ≤ nx → ∀ j, S1.2.2.2 b j = I b j := fun b hb j => by subst hS1e; show (if _ then _ else _) = _; rw [if_neg (by show ¬ (nx < b ∧ _); omega)]
    have hn1 : S1.2.2.1 = nx + (1 + n.toNat) := by subst hS1e; show nx + 1 + n.toNat = _; omega
    have t1 : S1.1 (nx + 1) = (25, n.toNat) := by subst hS1e; exact if_pos rfl
    have t2 : ∀ i, i < n.toNat → S1.1 (nx + 1 + (1 + i)) = (21, k.toNat) := fun i hi => by subst hS1e; show (if _ then _ else if _ then _ else _) = _; rw [if_neg (by show ¬ _ = nx + 1; omega), if_pos (by show nx + 1 < _ ∧ _ < nx + 2 + n.toNat; omega)]
    have a1 : ∀ j, S1.2.1 (nx + 1) j = if j < n.toNat then nx + 2 + j else 0 := fun j => by subst hS1e; exact if_pos rfl
    have i2 : ∀ i, i < n.toNat → ∀ j, S1.2.2.2 (nx + 1 + (1 + i)) j = 0 := fun i hi j => by subst hS1e; show (if _ then _ else _) = _; rw [if_pos (by show nx < _ ∧ _ < nx + 2 + n.toNat; omega)]
    have hrb1 : RB S1.2.1 S1.2.2.1 := fun a j => by
      rw [hn1]
      subst hS1e
      show (if _ then _ else if _ then _ else _) ≤ _
      split
      · show (if _ then _ else _) ≤ _
        split
        · show nx + 2 + j ≤ nx + (1 + n.toNat)
          omega
        · omega
      · split
        · omega
        · have h9 : A a j ≤ nx := hrb a j
          show A a j ≤ _
          omega
    have e : wl cA (adx ad nx (fun i => if i = 0 then q else r (i - 1))) S1.1 S1.2.1 S1.2.2.1 S1.2.2.2 = (wl cA ad T A nx I ++ [(q, .inl (cA 25, n.toNat, .inr (.inr (.inr (.inr (fun i => if i < n.toNat then some (r i) else none))))))]) ++ va_pl ([] ++ (List.range n.toNat).map r) (vr_up (fun _ => Sum.inr (0, [])) ([] ++ (List.range n.toNat).map r) (.inl (cA 21, (k.toNat, .inr (.inl (fun _ => Int64.ofInt 0)))))) := by
      rw [hn1, wl_app (1 + n.toNat) ha hT1 hA1 hI1 hrb, List.append_assoc]
      congr 1
      rw [List.range_add, List.map_append]
      congr 1
      · show [(adx ad nx _ (nx + 1 + 0), ent cA _ _ _ _ (nx + 1 + 0))] = _
        rw [adx_gt, Nat.add_zero, ent_r (c := 25) (by rw [t1]) (by decide), t1]
        congr 9
        funext j
        rw [a1 j]
        by_cases hj : j < n.toNat
        · rw [if_pos hj, if_pos hj, ro_pos (by omega)]
          congr 1
          rw [show nx + 2 + j = nx + 1 + (1 + j) by omega, adx_gt, if_neg (by omega)]
          congr 1
          omega
        · rw [if_neg hj, if_neg hj]
          rfl
      · unfold va_pl
        rw [List.nil_append, List.map_map, List.map_map]
        apply List.map_congr_left
        intro i hi
        have hl2 := List.mem_range.mp hi
        have em : r i ∈ (List.range n.toNat).map r := List.mem_map.mpr ⟨i, hi, rfl⟩
        have e5 : adx ad nx (fun i => if i = 0 then q else r (i - 1)) (nx + 1 + (1 + i)) = r i := by
          rw [adx_gt, if_neg (by omega)]
          congr 1
          omega
        have e6 := ent_l (cA := cA) (ad := adx ad nx (fun i => if i = 0 then q else r (i - 1))) (A := S1.2.1) (I := S1.2.2.2) (T := S1.1) (a := nx + 1 + (1 + i)) (by rw [t2 i hl2])
        simp only [Function.comp]
        rw [e5, e6, vr_up_in em, t2 i hl2]
        simp only [i2 i hl2]
    have hP2 : va_P D vwCl (wl cA (adx ad nx (fun i => if i = 0 then q else r (i - 1))) S1.1 S1.2.1 S1.2.2.1 S1.2.2.2) H1 := by rw [e]; exact hP1
    have hD2 : va_D (A0 N) (wl cA (adx ad nx (fun i => if i = 0 then q else r (i - 1))) S1.1 S1.2.1 S1.2.2.1 S1.2.2.2) := by rw [e]; exact hD1
    have hg := kk (adx ad nx (fun i => if i = 0 then q else r (i - 1))) S1 ha (by rw [hn1]; omega) hrb1 h2
    have eq1 : adx ad nx (fun i => if i = 0 then q else r (i - 1)) (nx + 1) = q := adx_gt (i := 0)
    rw [show rv (adx ad nx (fun i => if i = 0 then q else r (i - 1))) (nx + 1) = .ref q from by rw [rv, eq1], ← hL _ ha, ← hSf _ ha] at hg
    refine hg H1 locs ls ⟨hP2, hD2, fun a h => ?_, fun a => ?_, fun a j => ?_⟩ hS1 hl
    · rw [hn1]
      by_cases h9 : a ≤ nx
      · rw [hT1 a h9] at h
        have := hw.1 a h
        omega
      · by_cases h8 : a < nx + 2 + n.toNat
        · omega
        · exfalso
          have e7 : S1.1 a = T a := by subst hS1e; show (if _ then _ else if _ then _ else _) = _; rw [if_neg (by show ¬ a = nx + 1; omega), if_neg (by show ¬ (nx + 1 < a ∧ a < nx + 2 + n.toNat); omega)]
          rw [e7] at h
          have := hw.1 a h
          omega
    · subst hS1e
      show (if _ then _ else if _ then _ else _ : Nat × Nat).2 < _
      split
      · show n.toNat < _
        omega
      · split
        · show k.toNat < _
          omega
        · exact hw.2.1 a
    · by_cases h9 : nx < a ∧ a < nx + 2 + n.toNat
      · have e7 : S1.2.2.2 a j = 0 := by subst hS1e; exact if_pos h9
        rw [e7]
        exact ⟨cl_cn cn0, fun _ => cn0⟩
      · have e7 : S1.2.2.2 a j = I a j := by subst hS1e; exact if_neg h9
        have e8 : S1.1 a = T a := by subst hS1e; show (if _ then _ else if _ then _ else _) = _; rw [if_neg (by show ¬ a = nx + 1; omega), if_neg (by show ¬ (nx + 1 < a ∧ a < nx + 2 + n.toNat); omega)]
        rw [e7]
        have := hw.2.2 a j
        simpa [isL, e8] using this
  · rw [nwM, if_neg hn] at h1
    cases h1
end GR8
