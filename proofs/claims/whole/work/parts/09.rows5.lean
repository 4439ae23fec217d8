/-! Joins, switches, arraycopy, a test for null. -/
def iushr (a b : Int) : Int := ((Int32.ofInt a).toUInt32 >>> ((Int32.ofInt b).toUInt32 &&& Int32.toUInt32 31)).toInt32.toInt
def zck (x : Int) : Option Unit := if x = 0 ∨ x = 1 then some () else none
theorem cnz (z : Int) (h : (decide (-2147483648 ≤ z) && decide (z < 2147483648)) = true) : cn z := by
  simp only [Bool.and_eq_true, decide_eq_true_eq] at h
  exact h
theorem clz (z : Int) (h : (decide (-9223372036854775808 ≤ z) && decide (z < 9223372036854775808)) = true) : cl z := by
  simp only [Bool.and_eq_true, decide_eq_true_eq] at h
  exact h
theorem zck_some {x : Int} {u : Unit} (h : zck x = some u) : x = 0 ∨ x = 1 := by
  by_cases q : x = 0 ∨ x = 1
  · exact q
  · rw [zck, if_neg q] at h
    cases h
theorem ok_grd {Z : Type} {c : Prop} [Decidable c] {a : Option Z} {fin : Z → Prop} (hf : OK (if c then a else none) fin) : c ∧ OK a fin := by
  by_cases q : c
  · exact ⟨q, ok_pos q hf⟩
  · exact (ok_none (ok_neg q hf)).elim
theorem grd_some {Z : Type} {c : Prop} [Decidable c] {a : Option Z} {z : Z} (h : (if c then a else none) = some z) : c := by
  by_cases q : c
  · exact q
  · rw [if_neg q] at h
    cases h
theorem thn_rule {V X : Type} {o : Option (V ⊕ X)} {k : V → Option X} {fin : X → Prop} {P : V → Prop} {Gl : Prop} (hf : OK (thn o k) fin) (hJ : ∀ v, OK (k v) fin → P v) (main : (∀ v, OK (k v) fin → P v) → OK o (thf k fin) → Gl) : Gl := main hJ (ok_thn hf)
section GR5
variable {p : Program} {l : Launch} {e : Env} {R : Room} {s : State} {m : MethodId} {args : Array Value} {below : List Frame} {meth : Method} {c : Code} {cells slots : Nat} {Q : State → Prop} {cA : Nat → ClassId} {D : va_G} {N nL : Nat} {ad : Nat → Nat} {T : Knd} {A : Rfs} {nx : Nat} {pc : Nat} {lv lv' : List (Nat × Value)} {st : List Value} {I : Mem}
variable {cc : ByteArray} {Ts : List Cond} {own : String}

theorem r_iushr (S : CallFix p m c cc nL s args Ts own) {x y : Int} (hd : decode cc pc = .ok (.iushr, 1)) (kk : G p l e R s m args below meth c cells slots Q cA D N nL ad T A nx (pc + 1) lv (iv (iushr x y) :: st) I) : G p l e R s m args below meth c cells slots Q cA D N nL ad T A nx (pc) lv (iv y :: iv x :: st) I :=
  fun H locs ls hH hS hl => lv_iushr (v := Int32.ofInt (iushr x y)) S.1 S.2.1 hd (by unfold iushr; rw [ofInt_toInt32]) (kk H locs ls hH hS hl)
theorem r_tsw {Z : Type} {a b : Option Z} {fin : Z → Prop} (k : Nat) {off : Int} (tgt : Nat) (S : CallFix p m c cc nL s args Ts own) {dflt lo hi : Int} {offs : Array Int} {len : Nat} {x : Int} (v : Int) (hd : decode cc pc = .ok (.tableswitch dflt lo hi offs, len)) (cx : cn x) (hv : lo + (k : Int) = v) (hlo : v ≤ hi) (ho : offs[k]? = some off) (ht : (pc : Int) + off = (tgt : Int)) (hf : OK (if x = v then a else b) fin) (kt : OK a fin → G p l e R s m args below meth c cells slots Q cA D N nL ad T A nx (tgt) lv (st) I) (kf : ¬ x = v → OK b fin → G p l e R s m args below meth c cells slots Q cA D N nL ad T A nx (pc) lv (iv x :: st) I) : G p l e R s m args below meth c cells slots Q cA D N nL ad T A nx (pc) lv (iv x :: st) I := by
  by_cases h : x = v
  · have hg := kt (ok_pos h hf)
    intro H locs ls hH hS hl
    have ex : (Int32.ofInt x).toInt = x := toInt_ofInt32 cx
    refine lv_tableIn S.1 S.2.1 hd (by rw [ex]; omega) (by rw [ex]; omega) (off := off) ?_ ht (hg H locs ls hH hS hl)
    rw [ex]
    have e : (x - lo).toNat = k := by omega
    rw [e]
    exact ho
  · exact kf h (ok_neg h hf)
theorem r_tswD (tgt : Nat) (S : CallFix p m c cc nL s args Ts own) {dflt lo hi : Int} {offs : Array Int} {len : Nat} {x : Int} (hd : decode cc pc = .ok (.tableswitch dflt lo hi offs, len)) (cx : cn x) (hx : x < lo ∨ hi < x) (ht : (pc : Int) + dflt = (tgt : Int)) (kt : G p l e R s m args below meth c cells slots Q cA D N nL ad T A nx (tgt) lv (st) I) : G p l e R s m args below meth c cells slots Q cA D N nL ad T A nx (pc) lv (iv x :: st) I := by
  intro H locs ls hH hS hl
  have ex : (Int32.ofInt x).toInt = x := toInt_ofInt32 cx
  exact lv_tableOut S.1 S.2.1 hd (by rw [ex]; exact hx) ht (kt H locs ls hH hS hl)
theorem r_lrz (pc2 tgt : Nat) (S : CallFix p m c cc nL s args Ts own) (hK : va_K D vwCl (tyl cA) s) {a : Nat} {j : Int} {off : Int} {Z : Type} {x y : Option Z} {fin : Z → Prop} (hd : decode cc pc = .ok (.aaload, 1)) (hp : pc + 1 = pc2) (hd2 : decode cc pc2 = .ok (.ifnonnull off, 3)) (ht : (pc2 : Int) + off = (tgt : Int)) (cj : cn j) (hf : OK ((lrz T A 26 a j).bind (fun z => if z = true then x else y)) fin) (kf : OK x fin → G p l e R s m args below meth c cells slots Q cA D N nL ad T A nx (pc2 + 3) lv (st) I) (kt : OK y fin → G p l e R s m args below meth c cells slots Q cA D N nL ad T A nx (tgt) lv (st) I) : G p l e R s m args below meth c cells slots Q cA D N nL ad T A nx (pc) lv (iv j :: rv ad a :: st) I := by
  subst hp
  obtain ⟨z, h1, h2⟩ := ok_bind hf
  by_cases q : (T a).1 = 26 ∧ 0 ≤ j ∧ j < (T a).2
  · rw [lrz, if_pos q] at h1
    cases h1
    obtain ⟨g1, g2, g3⟩ := q
    intro H locs ls hH hS hl
    obtain ⟨hP, hD, hw⟩ := id hH
    obtain ⟨b1, b2⟩ := hw.1 a (by omega)
    have he := (wl_get (cA := cA) (ad := ad) (T := T) (A := A) (I := I) b1 b2).trans (congrArg (fun z => some (ad a, z)) (ent_r g1 (by decide)))
    have hlt : (Int32.ofInt j).toNatClampNeg < (T a).2 := by rw [tnc cj]; omega
    have hin := vin cj g2 g3
    refine W.aald (v := va_rf (ro ad (A a j.toNat))) (ty := .object RX2) S.1 S.2.1 (hP (a - 1) _ he) ((hK.2 6 _ rfl).1 (T a).2 (fun j => va_rf (ro ad (A a j)))) rfl (fun q => by cases q) (by show ¬ ((Int32.ofInt j) < 0 ∨ (arrV _ _ _).slots.size ≤ _); rw [arrV_size]; exact hin) (by show (arrV _ _ _).slots[_]? = _; rw [arrV_read _ _ hlt, tnc cj]) rfl rfl hd ?_
    by_cases hz : A a j.toNat = 0
    · have e : ro ad (A a j.toNat) = none := if_pos hz
      rw [e]
      exact lv_ifnonnullN S.1 S.2.1 hd2 (kf (ok_pos (by simp [hz]) h2) H locs ls hH hS hl)
    · rw [ro_pos (by omega)]
      exact lv_ifnonnull S.1 S.2.1 hd2 ht (kt (ok_neg (by simp [hz]) h2) H locs ls hH hS hl)
  · rw [lrz, if_neg q] at h1
    cases h1
/-- System.arraycopy's words -/
def MA (own : String) (index : Nat) : Prop := Cond.methodLink own index arraycopyName ∈ gT ∧ Cond.native arraycopyName ∈ gT ∧ Cond.static arraycopyName ∈ gT ∧ Cond.initialized "java/lang/System" ∈ gT
theorem nneg {z : Int} (c : cn z) (h : 0 ≤ z) : ¬ Int32.ofInt z < 0 := fun q => by have := (lt32 c cn0).mp q; omega
theorem acp_some {T : Knd} {kd a : Nat} {i : Int} {b : Nat} {k n : Int} {I I' : Mem} (h : acp T kd a i b k n I = some I') : ((T a).1 = kd ∧ (T b).1 = kd ∧ 0 ≤ i ∧ 0 ≤ k ∧ 0 ≤ n ∧ i + n ≤ (T a).2 ∧ k + n ≤ (T b).2) ∧ I' = (fun x j => if x = b ∧ k.toNat ≤ j ∧ j < k.toNat + n.toNat then I a (i.toNat + (j - k.toNat)) else I x j) := by
  by_cases q : (T a).1 = kd ∧ (T b).1 = kd ∧ 0 ≤ i ∧ 0 ≤ k ∧ 0 ≤ n ∧ i + n ≤ (T a).2 ∧ k + n ≤ (T b).2
  · rw [acp, if_pos q] at h
    cases h
    exact ⟨q, rfl⟩
  · rw [acp, if_neg q] at h
    cases h
theorem r_acpi (S : CallFix p m c cc nL s args gT own) (hK : va_K D vwCl (tyl cA) s) {index a b : Nat} {i k n : Int} {Z : Type} {K : Mem → Option Z} {fin : Z → Prop} (hm : MA own index) (hd : decode cc pc = .ok (.invokestatic index, 3)) (ci : cn i) (ck : cn k) (cn' : cn n) (hR : 1 ≤ R.frames ∧ (st.map fun v => v.category).sum + (nativeFrameWords "java/lang/System" "arraycopy" 5 + 11) ≤ R.locals) (hf : OK ((acp T 20 a i b k n I).bind K) fin) (kk : ∀ I', OK (K I') fin → G p l e R s m args below meth c cells slots Q cA D N nL ad T A nx (pc + 3) lv (st) I') : G p l e R s m args below meth c cells slots Q cA D N nL ad T A nx (pc) lv (iv n :: iv k :: rv ad b :: iv i :: rv ad a :: st) I := by
  obtain ⟨I', h1, h2⟩ := ok_bind hf
  obtain ⟨⟨g1, g2, g3, g4, g5, g6, g7⟩, e0⟩ := acp_some h1
  intro H locs ls hH hS hl
  obtain ⟨hP, hD, hw⟩ := id hH
  obtain ⟨b1, b2⟩ := hw.1 a (by omega)
  obtain ⟨d1, d2⟩ := hw.1 b (by omega)
  refine va_copyi S.1 S.2.1 (by rw [S.2.2.1, hl.1]) S.2.2.2.1 (S.2.2.2.2 _ hm.1) (S.2.2.2.2 _ hm.2.1) (S.2.2.2.2 _ hm.2.2.1) (S.2.2.2.2 _ hm.2.2.2) hK hP hD hS (a - 1) (b - 1) 0 0 ((wl_get b1 b2).trans (congrArg (fun z => some (ad a, z)) (ent_i g1 (by decide)))) ((wl_get d1 d2).trans (congrArg (fun z => some (ad b, z)) (ent_i g2 (by decide)))) rfl rfl rfl (nneg ci g3) (nneg ck g4) (nneg cn' g5) (by rw [tnc ci, tnc cn']; omega) (by rw [tnc ck, tnc cn']; omega) (fun _ _ => rfl) hR.1 hR.2 hd (fun H1 locs1 hP1 hD1 hS1 => ?_)
  rw [tnc ci, tnc ck, tnc cn'] at hP1 hD1
  have e := wl_set (cA := cA) (ad := ad) (T := T) (A := A) (nx := nx) (I := I) (I' := I') (e := .inl (cA 20, (T b).2, .inl (va_cpy (fun j => Int32.ofInt (I a j)) (fun j => Int32.ofInt (I b j)) i.toNat k.toNat n.toNat))) d1 ((ent_i g2 (by decide)).trans (by
    subst e0
    congr 3
    congr 1
    funext q
    unfold va_cpy
    dsimp only
    by_cases hq : k.toNat ≤ q ∧ q < k.toNat + n.toNat
    · rw [if_pos hq, if_pos ⟨rfl, hq⟩]
    · rw [if_neg hq, if_neg (fun z => hq z.2)])) (fun x hx => ent_congr (fun j => by subst e0; exact if_neg (fun z => hx z.1)))
  rw [e] at hP1 hD1
  refine kk _ h2 H1 locs1 ls ⟨hP1, hD1, ⟨hw.1, hw.2.1, fun x j => ?_⟩⟩ hS1 hl
  subst e0
  show cl (if _ then _ else _) ∧ (_ → cn (if _ then _ else _))
  by_cases hq : x = b ∧ k.toNat ≤ j ∧ j < k.toNat + n.toNat
  · rw [if_pos hq]
    exact ⟨(hw.2.2 a _).1, fun _ => (hw.2.2 a _).2 (isL_i g1 (by decide))⟩
  · rw [if_neg hq]
    exact hw.2.2 x j
theorem r_acpl (S : CallFix p m c cc nL s args gT own) (hK : va_K D vwCl (tyl cA) s) {index a b : Nat} {i k n : Int} {Z : Type} {K : Mem → Option Z} {fin : Z → Prop} (hm : MA own index) (hd : decode cc pc = .ok (.invokestatic index, 3)) (ci : cn i) (ck : cn k) (cn' : cn n) (hR : 1 ≤ R.frames ∧ (st.map fun v => v.category).sum + (nativeFrameWords "java/lang/System" "arraycopy" 5 + 11) ≤ R.locals) (hf : OK ((acp T 21 a i b k n I).bind K) fin) (kk : ∀ I', OK (K I') fin → G p l e R s m args below meth c cells slots Q cA D N nL ad T A nx (pc + 3) lv (st) I') : G p l e R s m args below meth c cells slots Q cA D N nL ad T A nx (pc) lv (iv n :: iv k :: rv ad b :: iv i :: rv ad a :: st) I := by
  obtain ⟨I', h1, h2⟩ := ok_bind hf
  obtain ⟨⟨g1, g2, g3, g4, g5, g6, g7⟩, e0⟩ := acp_some h1
  intro H locs ls hH hS hl
  obtain ⟨hP, hD, hw⟩ := id hH
  obtain ⟨b1, b2⟩ := hw.1 a (by omega)
  obtain ⟨d1, d2⟩ := hw.1 b (by omega)
  refine va_copyl S.1 S.2.1 (by rw [S.2.2.1, hl.1]) S.2.2.2.1 (S.2.2.2.2 _ hm.1) (S.2.2.2.2 _ hm.2.1) (S.2.2.2.2 _ hm.2.2.1) (S.2.2.2.2 _ hm.2.2.2) hK hP hD hS (a - 1) (b - 1) 1 1 ((wl_get b1 b2).trans (congrArg (fun z => some (ad a, z)) (ent_l g1))) ((wl_get d1 d2).trans (congrArg (fun z => some (ad b, z)) (ent_l g2))) rfl rfl rfl (nneg ci g3) (nneg ck g4) (nneg cn' g5) (by rw [tnc ci, tnc cn']; omega) (by rw [tnc ck, tnc cn']; omega) (fun _ _ => rfl) hR.1 hR.2 hd (fun H1 locs1 hP1 hD1 hS1 => ?_)
  rw [tnc ci, tnc ck, tnc cn'] at hP1 hD1
  have e := wl_set (cA := cA) (ad := ad) (T := T) (A := A) (nx := nx) (I := I) (I' := I') (e := .inl (cA 21, (T b).2, .inr (.inl (va_cpy (fun j => Int64.ofInt (I a j)) (fun j => Int64.ofInt (I b j)) i.toNat k.toNat n.toNat)))) d1 ((ent_l g2).trans (by
    subst e0
    congr 3
    congr 2
    funext q
    unfold va_cpy
    dsimp only
    by_cases hq : k.toNat ≤ q ∧ q < k.toNat + n.toNat
    · rw [if_pos hq, if_pos ⟨rfl, hq⟩]
    · rw [if_neg hq, if_neg (fun z => hq z.2)])) (fun x hx => ent_congr (fun j => by subst e0; exact if_neg (fun z => hx z.1)))
  rw [e] at hP1 hD1
  refine kk _ h2 H1 locs1 ls ⟨hP1, hD1, ⟨hw.1, hw.2.1, fun x j => ?_⟩⟩ hS1 hl
  subst e0
  show cl (if _ then _ else _) ∧ (_ → cn (if _ then _ else _))
  by_cases hq : x = b ∧ k.toNat ≤ j ∧ j < k.toNat + n.toNat
  · rw [if_pos hq]
    exact ⟨(hw.2.2 a _).1, fun q => by obtain ⟨hx, -⟩ := hq; subst hx; unfold isL at q; rw [g2] at q; cases q⟩
  · rw [if_neg hq]
    exact hw.2.2 x j
def imax (x y : Int) : Int := if x < y then y else x
def imin (x y : Int) : Int := if y < x then y else x
theorem cn_imax {x y : Int} (hx : cn x) (hy : cn y) : cn (imax x y) := by unfold imax; split <;> assumption
theorem cn_imin {x y : Int} (hx : cn x) (hy : cn y) : cn (imin x y) := by unfold imin; split <;> assumption
def MMX (own : String) (index : Nat) : Prop := Cond.methodLink own index Lib.Math.max.name ∈ gT ∧ Cond.static Lib.Math.max.name ∈ gT ∧ Cond.initialized "java/lang/Math" ∈ gT ∧ Cond.code Lib.Math.max.name Lib.Math.max.code 2 (some .int) ∈ gT
def MMN (own : String) (index : Nat) : Prop := Cond.methodLink own index Lib.Math.min.name ∈ gT ∧ Cond.static Lib.Math.min.name ∈ gT ∧ Cond.initialized "java/lang/Math" ∈ gT ∧ Cond.code Lib.Math.min.name Lib.Math.min.code 2 (some .int) ∈ gT
theorem r_mmax (S : CallFix p m c cc nL s args gT own) {index : Nat} (hm : MMX own index) {x y : Int} (hR : 1 ≤ R.frames ∧ (st.map fun v => v.category).sum + 13 ≤ R.locals) (hcs : cells ≤ R.cells ∧ slots ≤ R.slots) (hd : decode cc pc = .ok (.invokestatic index, 3)) (cx : cn x) (cy : cn y) (kk : G p l e R s m args below meth c cells slots Q cA D N nL ad T A nx (pc + 3) lv (iv (imax x y) :: st) I) : G p l e R s m args below meth c cells slots Q cA D N nL ad T A nx (pc) lv (iv y :: iv x :: st) I := fun H locs ls hH hS hl => by
  refine va_mmax S.1 S.2.1 (by rw [S.2.2.1, hl.1]) S.2.2.2.1 (S.2.2.2.2 _ hm.1) (S.2.2.2.2 _ hm.2.1) (S.2.2.2.2 _ hm.2.2.1) (S.2.2.2.2 _ hm.2.2.2) hR.1 hR.2 hcs.1 hcs.2 hd ?_
  have e : (if Int32.ofInt x < Int32.ofInt y then Int32.ofInt y else Int32.ofInt x) = Int32.ofInt (imax x y) := by
    unfold imax
    by_cases h : x < y
    · rw [if_pos ((lt32 cx cy).mpr h), if_pos h]
    · rw [if_neg (fun q => h ((lt32 cx cy).mp q)), if_neg h]
  rw [e]
  exact kk H locs ls hH hS hl
theorem r_mmin (S : CallFix p m c cc nL s args gT own) {index : Nat} (hm : MMN own index) {x y : Int} (hR : 1 ≤ R.frames ∧ (st.map fun v => v.category).sum + 13 ≤ R.locals) (hcs : cells ≤ R.cells ∧ slots ≤ R.slots) (hd : decode cc pc = .ok (.invokestatic index, 3)) (cx : cn x) (cy : cn y) (kk : G p l e R s m args below meth c cells slots Q cA D N nL ad T A nx (pc + 3) lv (iv (imin x y) :: st) I) : G p l e R s m args below meth c cells slots Q cA D N nL ad T A nx (pc) lv (iv y :: iv x :: st) I := fun H locs ls hH hS hl => by
  refine va_mmin S.1 S.2.1 (by rw [S.2.2.1, hl.1]) S.2.2.2.1 (S.2.2.2.2 _ hm.1) (S.2.2.2.2 _ hm.2.1) (S.2.2.2.2 _ hm.2.2.1) (S.2.2.2.2 _ hm.2.2.2) hR.1 hR.2 hcs.1 hcs.2 hd ?_
  have e : (if Int32.ofInt y < Int32.ofInt x then Int32.ofInt y else Int32.ofInt x) = Int32.ofInt (imin x y) := by
    unfold imin
    by_cases h : y < x
    · rw [if_pos ((lt32 cy cx).mpr h), if_pos h]
    · rw [if_neg (fun q => h ((lt32 cy cx).mp q)), if_neg h]
  rw [e]
  exact kk H locs ls hH hS hl
theorem r_ldcw {index : Nat} {v : Int32} {z : Int} (S : CallFix p m c cc nL s args Ts own) (hw : Cond.constant own index v ∈ Ts) (hd : decode cc pc = .ok (.ldc_w index, 3)) (hv : v = Int32.ofInt z) (kk : G p l e R s m args below meth c cells slots Q cA D N nL ad T A nx (pc + 3) lv (iv z :: st) I) : G p l e R s m args below meth c cells slots Q cA D N nL ad T A nx (pc) lv (st) I :=
  fun H locs ls hH hS hl => by subst hv; exact lv_ldcw S.1 S.2.1 S.2.2.2.1 (S.2.2.2.2 _ hw) hd (kk H locs ls hH hS hl)
end GR5
