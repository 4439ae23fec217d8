section GR3
variable {p : Program} {l : Launch} {e : Env} {R : Room} {s : State} {m : MethodId} {args : Array Value} {below : List Frame} {meth : Method} {c : Code} {cells slots : Nat} {Q : State → Prop} {cA : Nat → ClassId} {D : va_G} {N nL : Nat} {ad : Nat → Nat} {T : Knd} {A : Rfs} {nx : Nat} {pc : Nat} {lv lv' : List (Nat × Value)} {st : List Value} {I : Mem}
variable {cc : ByteArray} {Ts : List Cond} {own : String}

theorem tnc {j : Int} (h : cn j) : (Int32.ofInt j).toNatClampNeg = j.toNat := by
  show (Int32.ofInt j).toInt.toNat = _
  rw [toInt_ofInt32 h]
theorem vin {j : Int} {n : Nat} (h : cn j) (h1 : 0 ≤ j) (h2 : j < n) : vp_in (Int32.ofInt j) n := vp_in_iff.mpr (by rw [toInt_ofInt32 h]; exact ⟨h1, h2⟩)
theorem isL_i {T : Knd} {a k c : Nat} (h : (T a).1 = c) (hc : c = 20 ∨ c = 22 ∨ c = 23) : isL T a k = false := by
  unfold isL
  rw [h]
  rcases hc with h | h | h <;> subst h <;> rfl
theorem ld_some {T : Knd} {kd a : Nat} {j : Int} {I : Mem} {x : Int} (h : ld T kd a j I = some x) : (T a).1 = kd ∧ 0 ≤ j ∧ j < (T a).2 ∧ x = I a j.toNat := by
  by_cases q : (T a).1 = kd ∧ 0 ≤ j ∧ j < (T a).2
  · rw [ld, if_pos q] at h
    cases h
    exact ⟨q.1, q.2.1, q.2.2, rfl⟩
  · rw [ld, if_neg q] at h
    cases h
theorem sto_some {T : Knd} {kd a : Nat} {j v : Int} {I I' : Mem} (h : sto T kd a j v I = some I') : (T a).1 = kd ∧ 0 ≤ j ∧ j < (T a).2 ∧ I' = mu I a j.toNat v := by
  by_cases q : (T a).1 = kd ∧ 0 ≤ j ∧ j < (T a).2
  · rw [sto, if_pos q] at h
    cases h
    exact ⟨q.1, q.2.1, q.2.2, rfl⟩
  · rw [sto, if_neg q] at h
    cases h
theorem lr_some {T : Knd} {A : Rfs} {kd a : Nat} {j : Int} {x : Nat} (h : lr T A kd a j = some x) : (T a).1 = kd ∧ 0 ≤ j ∧ j < (T a).2 ∧ A a j.toNat ≠ 0 ∧ x = A a j.toNat := by
  by_cases q : (T a).1 = kd ∧ 0 ≤ j ∧ j < (T a).2 ∧ A a j.toNat ≠ 0
  · rw [lr, if_pos q] at h
    cases h
    exact ⟨q.1, q.2.1, q.2.2.1, q.2.2.2, rfl⟩
  · rw [lr, if_neg q] at h
    cases h
theorem r_iald (S : CallFix p m c cc nL s args Ts own) (hK : va_K D vwCl (tyl cA) s) {a : Nat} {j : Int} {Z : Type} {K : Int → Option Z} {fin : Z → Prop} (hd : decode cc pc = .ok (.iaload, 1)) (cj : cn j) (hf : OK ((ld T 20 a j I).bind K) fin) (kk : ∀ x, cn x → OK (K x) fin → G p l e R s m args below meth c cells slots Q cA D N nL ad T A nx (pc + 1) lv (iv x :: st) I) : G p l e R s m args below meth c cells slots Q cA D N nL ad T A nx (pc) lv (iv j :: rv ad a :: st) I := by
  obtain ⟨x, h1, h2⟩ := ok_bind hf
  obtain ⟨g1, g2, g3, rfl⟩ := ld_some h1
  intro H locs ls hH hS hl
  obtain ⟨hP, hD, hw⟩ := id hH
  obtain ⟨b1, b2⟩ := hw.1 a (by omega)
  refine va_iald S.1 S.2.1 hK hP (a - 1) 0 ((wl_get b1 b2).trans (congrArg (fun z => some (ad a, z)) (ent_i g1 (by decide)))) rfl (vin cj g2 g3) hd ?_
  rw [tnc cj]
  exact kk _ ((hw.2.2 a _).2 (isL_i g1 (by decide))) h2 H locs ls hH hS hl
theorem r_bald (S : CallFix p m c cc nL s args Ts own) (hK : va_K D vwCl (tyl cA) s) {a : Nat} {j : Int} {Z : Type} {K : Int → Option Z} {fin : Z → Prop} (hd : decode cc pc = .ok (.baload, 1)) (cj : cn j) (hf : OK ((ld T 22 a j I).bind K) fin) (kk : ∀ x, cn x → OK (K x) fin → G p l e R s m args below meth c cells slots Q cA D N nL ad T A nx (pc + 1) lv (iv x :: st) I) : G p l e R s m args below meth c cells slots Q cA D N nL ad T A nx (pc) lv (iv j :: rv ad a :: st) I := by
  obtain ⟨x, h1, h2⟩ := ok_bind hf
  obtain ⟨g1, g2, g3, rfl⟩ := ld_some h1
  intro H locs ls hH hS hl
  obtain ⟨hP, hD, hw⟩ := id hH
  obtain ⟨b1, b2⟩ := hw.1 a (by omega)
  refine va_bald S.1 S.2.1 hK hP (a - 1) 2 ((wl_get b1 b2).trans (congrArg (fun z => some (ad a, z)) (ent_i g1 (by decide)))) rfl (vin cj g2 g3) hd ?_
  rw [tnc cj]
  exact kk _ ((hw.2.2 a _).2 (isL_i g1 (by decide))) h2 H locs ls hH hS hl
theorem r_zald (S : CallFix p m c cc nL s args Ts own) (hK : va_K D vwCl (tyl cA) s) {a : Nat} {j : Int} {Z : Type} {K : Int → Option Z} {fin : Z → Prop} (hd : decode cc pc = .ok (.baload, 1)) (cj : cn j) (hf : OK ((ld T 23 a j I).bind K) fin) (kk : ∀ x, cn x → OK (K x) fin → G p l e R s m args below meth c cells slots Q cA D N nL ad T A nx (pc + 1) lv (iv x :: st) I) : G p l e R s m args below meth c cells slots Q cA D N nL ad T A nx (pc) lv (iv j :: rv ad a :: st) I := by
  obtain ⟨x, h1, h2⟩ := ok_bind hf
  obtain ⟨g1, g2, g3, rfl⟩ := ld_some h1
  intro H locs ls hH hS hl
  obtain ⟨hP, hD, hw⟩ := id hH
  obtain ⟨b1, b2⟩ := hw.1 a (by omega)
  refine va_zald S.1 S.2.1 hK hP (a - 1) 3 ((wl_get b1 b2).trans (congrArg (fun z => some (ad a, z)) (ent_i g1 (by decide)))) rfl (vin cj g2 g3) hd ?_
  rw [tnc cj]
  exact kk _ ((hw.2.2 a _).2 (isL_i g1 (by decide))) h2 H locs ls hH hS hl
theorem r_lald (S : CallFix p m c cc nL s args Ts own) (hK : va_K D vwCl (tyl cA) s) {a : Nat} {j : Int} {Z : Type} {K : Int → Option Z} {fin : Z → Prop} (hd : decode cc pc = .ok (.laload, 1)) (cj : cn j) (hf : OK ((ld T 21 a j I).bind K) fin) (kk : ∀ x, cl x → OK (K x) fin → G p l e R s m args below meth c cells slots Q cA D N nL ad T A nx (pc + 1) lv (jv x :: st) I) : G p l e R s m args below meth c cells slots Q cA D N nL ad T A nx (pc) lv (iv j :: rv ad a :: st) I := by
  obtain ⟨x, h1, h2⟩ := ok_bind hf
  obtain ⟨g1, g2, g3, rfl⟩ := ld_some h1
  intro H locs ls hH hS hl
  obtain ⟨hP, hD, hw⟩ := id hH
  obtain ⟨b1, b2⟩ := hw.1 a (by omega)
  refine va_lald S.1 S.2.1 hK hP (a - 1) 1 ((wl_get b1 b2).trans (congrArg (fun z => some (ad a, z)) (ent_l g1))) rfl (vin cj g2 g3) hd ?_
  rw [tnc cj]
  exact kk _ (hw.2.2 a _).1 h2 H locs ls hH hS hl
theorem r_aald (kd t0 : Nat) {ty : FieldType} (S : CallFix p m c cc nL s args Ts own) (hK : va_K D vwCl (tyl cA) s) (hkd : 24 ≤ kd ∧ kd < 90) (ht : (tyl cA)[t0]? = some (cA kd, ty)) (hty : ty.isReference = true) {a : Nat} {j : Int} {Z : Type} {K : Nat → Option Z} {fin : Z → Prop} (hd : decode cc pc = .ok (.aaload, 1)) (cj : cn j) (hf : OK ((lr T A kd a j).bind K) fin) (kk : ∀ x, OK (K x) fin → G p l e R s m args below meth c cells slots Q cA D N nL ad T A nx (pc + 1) lv (rv ad x :: st) I) : G p l e R s m args below meth c cells slots Q cA D N nL ad T A nx (pc) lv (iv j :: rv ad a :: st) I := by
  obtain ⟨x, h1, h2⟩ := ok_bind hf
  obtain ⟨g1, g2, g3, g4, rfl⟩ := lr_some h1
  intro H locs ls hH hS hl
  obtain ⟨hP, hD, hw⟩ := id hH
  obtain ⟨b1, b2⟩ := hw.1 a (by omega)
  have he := (wl_get (cA := cA) (ad := ad) (T := T) (A := A) (I := I) b1 b2).trans (congrArg (fun z => some (ad a, z)) (ent_r g1 hkd.1))
  have hlt : (Int32.ofInt j).toNatClampNeg < (T a).2 := by rw [tnc cj]; omega
  have hin := vin cj g2 g3
  refine W.aald (v := va_rf (ro ad (A a j.toNat))) (ty := ty) S.1 S.2.1 (hP (a - 1) _ he) ((hK.2 t0 _ ht).1 (T a).2 (fun j => va_rf (ro ad (A a j)))) hty (fun q => by cases q) (by show ¬ ((Int32.ofInt j) < 0 ∨ (arrV _ _ _).slots.size ≤ _); rw [arrV_size]; exact hin) (by show (arrV _ _ _).slots[_]? = _; rw [arrV_read _ _ hlt, tnc cj]) rfl rfl hd ?_
  rw [ro_pos (by omega)]
  exact kk _ h2 H locs ls hH hS hl
theorem r_aln (kd t0 : Nat) {ty : FieldType} (S : CallFix p m c cc nL s args Ts own) (hK : va_K D vwCl (tyl cA) s) (hkd : 13 ≤ kd ∧ kd < 90) (ht : (tyl cA)[t0]? = some (cA kd, ty)) {a : Nat} {Z : Type} {K : Int → Option Z} {fin : Z → Prop} (hd : decode cc pc = .ok (.arraylength, 1)) (hf : OK ((aln T kd a).bind K) fin) (kk : ∀ x, cn x → OK (K x) fin → G p l e R s m args below meth c cells slots Q cA D N nL ad T A nx (pc + 1) lv (iv x :: st) I) : G p l e R s m args below meth c cells slots Q cA D N nL ad T A nx (pc) lv (rv ad a :: st) I := by
  obtain ⟨x, h1, h2⟩ := ok_bind hf
  by_cases g1 : (T a).1 = kd
  · rw [aln, if_pos g1] at h1
    cases h1
    intro H locs ls hH hS hl
    obtain ⟨hP, hD, hw⟩ := id hH
    obtain ⟨b1, b2⟩ := hw.1 a (by omega)
    have he : (wl cA ad T A nx I)[a - 1]? = some (ad a, .inl (cA kd, (T a).2, cont ad A I kd a)) := (wl_get b1 b2).trans (congrArg (fun z => some (ad a, z)) (by unfold ent; rw [g1, if_neg (by omega)]))
    have hb := hw.2.1 a
    refine va_alen S.1 S.2.1 hK hP (a - 1) t0 he ht (v := Int32.ofInt ((T a).2 : Int)) rfl hd ?_
    exact kk _ ⟨by omega, by omega⟩ h2 H locs ls hH hS hl
  · rw [aln, if_neg g1] at h1
    cases h1
theorem r_iast (S : CallFix p m c cc nL s args Ts own) (hK : va_K D vwCl (tyl cA) s) {a : Nat} {j v : Int} {Z : Type} {K : Mem → Option Z} {fin : Z → Prop} (hd : decode cc pc = .ok (.iastore, 1)) (cj : cn j) (cv : cn v) (hf : OK ((sto T 20 a j v I).bind K) fin) (kk : ∀ I', OK (K I') fin → G p l e R s m args below meth c cells slots Q cA D N nL ad T A nx (pc + 1) lv (st) I') : G p l e R s m args below meth c cells slots Q cA D N nL ad T A nx (pc) lv (iv v :: iv j :: rv ad a :: st) I := by
  obtain ⟨x, h1, h2⟩ := ok_bind hf
  obtain ⟨g1, g2, g3, rfl⟩ := sto_some h1
  intro H locs ls hH hS hl
  obtain ⟨hP, hD, hw⟩ := id hH
  obtain ⟨b1, b2⟩ := hw.1 a (by omega)
  refine va_iast S.1 S.2.1 hK hP hD hS (a - 1) 0 ((wl_get b1 b2).trans (congrArg (fun z => some (ad a, z)) (ent_i g1 (by decide)))) rfl (vin cj g2 g3) hd (fun H1 locs1 hP1 hD1 hS1 => ?_)
  rw [tnc cj] at hP1 hD1
  have e := wl_set (cA := cA) (ad := ad) (T := T) (A := A) (nx := nx) (I := I) (I' := mu I a j.toNat v) (e := .inl (cA 20, (T a).2, .inl (upd (fun j => Int32.ofInt (I a j)) j.toNat (Int32.ofInt v)))) b1 ((ent_i g1 (by decide)).trans (by
    congr 3
    congr 1
    funext q
    unfold upd
    by_cases hq : q = j.toNat
    · subst hq; rw [mu_eq, if_pos rfl]
    · rw [mu_nk hq, if_neg hq])) mu_ent
  rw [e] at hP1 hD1
  exact kk _ h2 H1 locs1 ls ⟨hP1, hD1, wt_mu hw (cl_cn (cv)) (fun _ => cv)⟩ hS1 hl
theorem r_bast (S : CallFix p m c cc nL s args Ts own) (hK : va_K D vwCl (tyl cA) s) {a : Nat} {j v : Int} {Z : Type} {K : Mem → Option Z} {fin : Z → Prop} (hd : decode cc pc = .ok (.bastore, 1)) (cj : cn j) (cv : cn v) (hf : OK ((sto T 22 a j (i2b v) I).bind K) fin) (kk : ∀ I', OK (K I') fin → G p l e R s m args below meth c cells slots Q cA D N nL ad T A nx (pc + 1) lv (st) I') : G p l e R s m args below meth c cells slots Q cA D N nL ad T A nx (pc) lv (iv v :: iv j :: rv ad a :: st) I := by
  obtain ⟨x, h1, h2⟩ := ok_bind hf
  obtain ⟨g1, g2, g3, rfl⟩ := sto_some h1
  intro H locs ls hH hS hl
  obtain ⟨hP, hD, hw⟩ := id hH
  obtain ⟨b1, b2⟩ := hw.1 a (by omega)
  refine va_bast S.1 S.2.1 hK hP hD hS (a - 1) 2 ((wl_get b1 b2).trans (congrArg (fun z => some (ad a, z)) (ent_i g1 (by decide)))) rfl (vin cj g2 g3) hd (fun H1 locs1 hP1 hD1 hS1 => ?_)
  have en : vp_nar .byte (Int32.ofInt v) = Int32.ofInt (i2b v) := by unfold i2b; rw [ofInt_toInt32]; rfl
  rw [en] at hP1 hD1
  rw [tnc cj] at hP1 hD1
  have e := wl_set (cA := cA) (ad := ad) (T := T) (A := A) (nx := nx) (I := I) (I' := mu I a j.toNat (i2b v)) (e := .inl (cA 22, (T a).2, .inl (upd (fun j => Int32.ofInt (I a j)) j.toNat (Int32.ofInt (i2b v))))) b1 ((ent_i g1 (by decide)).trans (by
    congr 3
    congr 1
    funext q
    unfold upd
    by_cases hq : q = j.toNat
    · subst hq; rw [mu_eq, if_pos rfl]
    · rw [mu_nk hq, if_neg hq])) mu_ent
  rw [e] at hP1 hD1
  exact kk _ h2 H1 locs1 ls ⟨hP1, hD1, wt_mu hw (cl_cn (cn_toInt _)) (fun _ => cn_toInt _)⟩ hS1 hl
theorem r_zast (S : CallFix p m c cc nL s args Ts own) (hK : va_K D vwCl (tyl cA) s) {a : Nat} {j v : Int} {Z : Type} {K : Mem → Option Z} {fin : Z → Prop} (hd : decode cc pc = .ok (.bastore, 1)) (cj : cn j) (cv : cn v) (hf : OK ((sto T 23 a j (iand v 1) I).bind K) fin) (kk : ∀ I', OK (K I') fin → G p l e R s m args below meth c cells slots Q cA D N nL ad T A nx (pc + 1) lv (st) I') : G p l e R s m args below meth c cells slots Q cA D N nL ad T A nx (pc) lv (iv v :: iv j :: rv ad a :: st) I := by
  obtain ⟨x, h1, h2⟩ := ok_bind hf
  obtain ⟨g1, g2, g3, rfl⟩ := sto_some h1
  intro H locs ls hH hS hl
  obtain ⟨hP, hD, hw⟩ := id hH
  obtain ⟨b1, b2⟩ := hw.1 a (by omega)
  refine va_zast S.1 S.2.1 hK hP hD hS (a - 1) 3 ((wl_get b1 b2).trans (congrArg (fun z => some (ad a, z)) (ent_i g1 (by decide)))) rfl (vin cj g2 g3) hd (fun H1 locs1 hP1 hD1 hS1 => ?_)
  have en : vp_nar .boolean (Int32.ofInt v) = Int32.ofInt (iand v 1) := by unfold iand; rw [ofInt_toInt32]; rfl
  rw [en] at hP1 hD1
  rw [tnc cj] at hP1 hD1
  have e := wl_set (cA := cA) (ad := ad) (T := T) (A := A) (nx := nx) (I := I) (I' := mu I a j.toNat (iand v 1)) (e := .inl (cA 23, (T a).2, .inl (upd (fun j => Int32.ofInt (I a j)) j.toNat (Int32.ofInt (iand v 1))))) b1 ((ent_i g1 (by decide)).trans (by
    congr 3
    congr 1
    funext q
    unfold upd
    by_cases hq : q = j.toNat
    · subst hq; rw [mu_eq, if_pos rfl]
    · rw [mu_nk hq, if_neg hq])) mu_ent
  rw [e] at hP1 hD1
  exact kk _ h2 H1 locs1 ls ⟨hP1, hD1, wt_mu hw (cl_cn (cn_toInt _)) (fun _ => cn_toInt _)⟩ hS1 hl
theorem r_last (S : CallFix p m c cc nL s args Ts own) (hK : va_K D vwCl (tyl cA) s) {a : Nat} {j v : Int} {Z : Type} {K : Mem → Option Z} {fin : Z → Prop} (hd : decode cc pc = .ok (.lastore, 1)) (cj : cn j) (cv : cl v) (hf : OK ((sto T 21 a j v I).bind K) fin) (kk : ∀ I', OK (K I') fin → G p l e R s m args below meth c cells slots Q cA D N nL ad T A nx (pc + 1) lv (st) I') : G p l e R s m args below meth c cells slots Q cA D N nL ad T A nx (pc) lv (jv v :: iv j :: rv ad a :: st) I := by
  obtain ⟨x, h1, h2⟩ := ok_bind hf
  obtain ⟨g1, g2, g3, rfl⟩ := sto_some h1
  intro H locs ls hH hS hl
  obtain ⟨hP, hD, hw⟩ := id hH
  obtain ⟨b1, b2⟩ := hw.1 a (by omega)
  refine va_last S.1 S.2.1 hK hP hD hS (a - 1) 1 ((wl_get b1 b2).trans (congrArg (fun z => some (ad a, z)) (ent_l g1))) rfl (vin cj g2 g3) hd (fun H1 locs1 hP1 hD1 hS1 => ?_)
  rw [tnc cj] at hP1 hD1
  have e := wl_set (cA := cA) (ad := ad) (T := T) (A := A) (nx := nx) (I := I) (I' := mu I a j.toNat v) (e := .inl (cA 21, (T a).2, .inr (.inl (vp_updL (fun j => Int64.ofInt (I a j)) j.toNat (Int64.ofInt v))))) b1 ((ent_l g1).trans (by
    congr 3
    congr 2
    funext q
    unfold vp_updL
    by_cases hq : q = j.toNat
    · subst hq; rw [mu_eq, if_pos rfl]
    · rw [mu_nk hq, if_neg hq])) mu_ent
  rw [e] at hP1 hD1
  exact kk _ h2 H1 locs1 ls ⟨hP1, hD1, wt_mu hw cv (fun q => by unfold isL at q; rw [g1] at q; cases q)⟩ hS1 hl
end GR3
