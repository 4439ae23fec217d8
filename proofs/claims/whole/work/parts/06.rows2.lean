section GR2
variable {p : Program} {l : Launch} {e : Env} {R : Room} {s : State} {m : MethodId} {args : Array Value} {below : List Frame} {meth : Method} {c : Code} {cells slots : Nat} {Q : State → Prop} {cA : Nat → ClassId} {D : va_G} {N nL : Nat} {ad : Nat → Nat} {T : Knd} {A : Rfs} {nx : Nat} {pc : Nat} {lv lv' : List (Nat × Value)} {st : List Value} {I : Mem}
variable {cc : ByteArray} {Ts : List Cond} {own : String}

theorem lt32 {x y : Int} (hx : cn x) (hy : cn y) : Int32.ofInt x < Int32.ofInt y ↔ x < y := by rw [Int32.lt_iff_toInt_lt, toInt_ofInt32 hx, toInt_ofInt32 hy]
theorem le32 {x y : Int} (hx : cn x) (hy : cn y) : Int32.ofInt x ≤ Int32.ofInt y ↔ x ≤ y := by rw [Int32.le_iff_toInt_le, toInt_ofInt32 hx, toInt_ofInt32 hy]
theorem eq32 {x y : Int} (hx : cn x) (hy : cn y) : Int32.ofInt x = Int32.ofInt y ↔ x = y := by rw [← Int32.toInt_inj, toInt_ofInt32 hx, toInt_ofInt32 hy]
theorem lt64 {x y : Int} (hx : cl x) (hy : cl y) : Int64.ofInt x < Int64.ofInt y ↔ x < y := by rw [Int64.lt_iff_toInt_lt, toInt_ofInt64 hx, toInt_ofInt64 hy]
theorem eq64 {x y : Int} (hx : cl x) (hy : cl y) : Int64.ofInt x = Int64.ofInt y ↔ x = y := by rw [← Int64.toInt_inj, toInt_ofInt64 hx, toInt_ofInt64 hy]
theorem cn0 : cn 0 := ⟨by decide, by decide⟩
theorem r_if_eq (S : CallFix p m c cc nL s args Ts own) {Z : Type} {a b : Option Z} {fin : Z → Prop} {x : Int} {off : Int} {tgt : Nat} (hd : decode cc pc = .ok (.ifCond .eq off, 3)) (ht : (pc : Int) + off = (tgt : Int)) (cx : cn x) (hf : OK (if x = 0 then a else b) fin) (kt : OK a fin → G p l e R s m args below meth c cells slots Q cA D N nL ad T A nx (tgt) lv (st) I) (kf : OK b fin → G p l e R s m args below meth c cells slots Q cA D N nL ad T A nx (pc + 3) lv (st) I) : G p l e R s m args below meth c cells slots Q cA D N nL ad T A nx (pc) lv (iv x :: st) I :=
  fun H locs ls hH hS hl => lv_if_eq S.1 S.2.1 hd ht (fun h => kt (ok_pos ((eq32 cx cn0).mp h) hf) H locs ls hH hS hl) (fun h => kf (ok_neg (fun q => h ((eq32 cx cn0).mpr q)) hf) H locs ls hH hS hl)
theorem r_icmp_eq (S : CallFix p m c cc nL s args Ts own) {Z : Type} {a b : Option Z} {fin : Z → Prop} {x y : Int} {off : Int} {tgt : Nat} (hd : decode cc pc = .ok (.if_icmp .eq off, 3)) (ht : (pc : Int) + off = (tgt : Int)) (cx : cn x) (cy : cn y) (hf : OK (if x = y then a else b) fin) (kt : OK a fin → G p l e R s m args below meth c cells slots Q cA D N nL ad T A nx (tgt) lv (st) I) (kf : OK b fin → G p l e R s m args below meth c cells slots Q cA D N nL ad T A nx (pc + 3) lv (st) I) : G p l e R s m args below meth c cells slots Q cA D N nL ad T A nx (pc) lv (iv y :: iv x :: st) I :=
  fun H locs ls hH hS hl => lv_icmp_eq S.1 S.2.1 hd ht (fun h => kt (ok_pos ((eq32 cx cy).mp h) hf) H locs ls hH hS hl) (fun h => kf (ok_neg (fun q => h ((eq32 cx cy).mpr q)) hf) H locs ls hH hS hl)
theorem r_if_ne (S : CallFix p m c cc nL s args Ts own) {Z : Type} {a b : Option Z} {fin : Z → Prop} {x : Int} {off : Int} {tgt : Nat} (hd : decode cc pc = .ok (.ifCond .ne off, 3)) (ht : (pc : Int) + off = (tgt : Int)) (cx : cn x) (hf : OK (if x = 0 then a else b) fin) (kt : OK b fin → G p l e R s m args below meth c cells slots Q cA D N nL ad T A nx (tgt) lv (st) I) (kf : OK a fin → G p l e R s m args below meth c cells slots Q cA D N nL ad T A nx (pc + 3) lv (st) I) : G p l e R s m args below meth c cells slots Q cA D N nL ad T A nx (pc) lv (iv x :: st) I :=
  fun H locs ls hH hS hl => lv_if_ne S.1 S.2.1 hd ht (fun h => kt (ok_neg (fun q => h ((eq32 cx cn0).mpr q)) hf) H locs ls hH hS hl) (fun h => kf (ok_pos ((eq32 cx cn0).mp h) hf) H locs ls hH hS hl)
theorem r_icmp_ne (S : CallFix p m c cc nL s args Ts own) {Z : Type} {a b : Option Z} {fin : Z → Prop} {x y : Int} {off : Int} {tgt : Nat} (hd : decode cc pc = .ok (.if_icmp .ne off, 3)) (ht : (pc : Int) + off = (tgt : Int)) (cx : cn x) (cy : cn y) (hf : OK (if x = y then a else b) fin) (kt : OK b fin → G p l e R s m args below meth c cells slots Q cA D N nL ad T A nx (tgt) lv (st) I) (kf : OK a fin → G p l e R s m args below meth c cells slots Q cA D N nL ad T A nx (pc + 3) lv (st) I) : G p l e R s m args below meth c cells slots Q cA D N nL ad T A nx (pc) lv (iv y :: iv x :: st) I :=
  fun H locs ls hH hS hl => lv_icmp_ne S.1 S.2.1 hd ht (fun h => kt (ok_neg (fun q => h ((eq32 cx cy).mpr q)) hf) H locs ls hH hS hl) (fun h => kf (ok_pos ((eq32 cx cy).mp h) hf) H locs ls hH hS hl)
theorem r_if_lt (S : CallFix p m c cc nL s args Ts own) {Z : Type} {a b : Option Z} {fin : Z → Prop} {x : Int} {off : Int} {tgt : Nat} (hd : decode cc pc = .ok (.ifCond .lt off, 3)) (ht : (pc : Int) + off = (tgt : Int)) (cx : cn x) (hf : OK (if x < 0 then a else b) fin) (kt : OK a fin → G p l e R s m args below meth c cells slots Q cA D N nL ad T A nx (tgt) lv (st) I) (kf : OK b fin → G p l e R s m args below meth c cells slots Q cA D N nL ad T A nx (pc + 3) lv (st) I) : G p l e R s m args below meth c cells slots Q cA D N nL ad T A nx (pc) lv (iv x :: st) I :=
  fun H locs ls hH hS hl => lv_if_lt S.1 S.2.1 hd ht (fun h => kt (ok_pos ((lt32 cx cn0).mp h) hf) H locs ls hH hS hl) (fun h => kf (ok_neg (fun q => h ((lt32 cx cn0).mpr q)) hf) H locs ls hH hS hl)
theorem r_icmp_lt (S : CallFix p m c cc nL s args Ts own) {Z : Type} {a b : Option Z} {fin : Z → Prop} {x y : Int} {off : Int} {tgt : Nat} (hd : decode cc pc = .ok (.if_icmp .lt off, 3)) (ht : (pc : Int) + off = (tgt : Int)) (cx : cn x) (cy : cn y) (hf : OK (if x < y then a else b) fin) (kt : OK a fin → G p l e R s m args below meth c cells slots Q cA D N nL ad T A nx (tgt) lv (st) I) (kf : OK b fin → G p l e R s m args below meth c cells slots Q cA D N nL ad T A nx (pc + 3) lv (st) I) : G p l e R s m args below meth c cells slots Q cA D N nL ad T A nx (pc) lv (iv y :: iv x :: st) I :=
  fun H locs ls hH hS hl => lv_icmp_lt S.1 S.2.1 hd ht (fun h => kt (ok_pos ((lt32 cx cy).mp h) hf) H locs ls hH hS hl) (fun h => kf (ok_neg (fun q => h ((lt32 cx cy).mpr q)) hf) H locs ls hH hS hl)
theorem r_if_ge (S : CallFix p m c cc nL s args Ts own) {Z : Type} {a b : Option Z} {fin : Z → Prop} {x : Int} {off : Int} {tgt : Nat} (hd : decode cc pc = .ok (.ifCond .ge off, 3)) (ht : (pc : Int) + off = (tgt : Int)) (cx : cn x) (hf : OK (if x < 0 then a else b) fin) (kt : OK b fin → G p l e R s m args below meth c cells slots Q cA D N nL ad T A nx (tgt) lv (st) I) (kf : OK a fin → G p l e R s m args below meth c cells slots Q cA D N nL ad T A nx (pc + 3) lv (st) I) : G p l e R s m args below meth c cells slots Q cA D N nL ad T A nx (pc) lv (iv x :: st) I :=
  fun H locs ls hH hS hl => lv_if_ge S.1 S.2.1 hd ht (fun h => kt (ok_neg (fun q => by have := (le32 cn0 cx).mp h; omega) hf) H locs ls hH hS hl) (fun h => kf (ok_pos (by have q1 : ¬ 0 ≤ x := (fun q => h ((le32 cn0 cx).mpr q)); omega) hf) H locs ls hH hS hl)
theorem r_icmp_ge (S : CallFix p m c cc nL s args Ts own) {Z : Type} {a b : Option Z} {fin : Z → Prop} {x y : Int} {off : Int} {tgt : Nat} (hd : decode cc pc = .ok (.if_icmp .ge off, 3)) (ht : (pc : Int) + off = (tgt : Int)) (cx : cn x) (cy : cn y) (hf : OK (if x < y then a else b) fin) (kt : OK b fin → G p l e R s m args below meth c cells slots Q cA D N nL ad T A nx (tgt) lv (st) I) (kf : OK a fin → G p l e R s m args below meth c cells slots Q cA D N nL ad T A nx (pc + 3) lv (st) I) : G p l e R s m args below meth c cells slots Q cA D N nL ad T A nx (pc) lv (iv y :: iv x :: st) I :=
  fun H locs ls hH hS hl => lv_icmp_ge S.1 S.2.1 hd ht (fun h => kt (ok_neg (fun q => by have := (le32 cy cx).mp h; omega) hf) H locs ls hH hS hl) (fun h => kf (ok_pos (by have q1 : ¬ y ≤ x := (fun q => h ((le32 cy cx).mpr q)); omega) hf) H locs ls hH hS hl)
theorem r_if_le (S : CallFix p m c cc nL s args Ts own) {Z : Type} {a b : Option Z} {fin : Z → Prop} {x : Int} {off : Int} {tgt : Nat} (hd : decode cc pc = .ok (.ifCond .le off, 3)) (ht : (pc : Int) + off = (tgt : Int)) (cx : cn x) (hf : OK (if x ≤ 0 then a else b) fin) (kt : OK a fin → G p l e R s m args below meth c cells slots Q cA D N nL ad T A nx (tgt) lv (st) I) (kf : OK b fin → G p l e R s m args below meth c cells slots Q cA D N nL ad T A nx (pc + 3) lv (st) I) : G p l e R s m args below meth c cells slots Q cA D N nL ad T A nx (pc) lv (iv x :: st) I :=
  fun H locs ls hH hS hl => lv_if_le S.1 S.2.1 hd ht (fun h => kt (ok_pos ((le32 cx cn0).mp h) hf) H locs ls hH hS hl) (fun h => kf (ok_neg (fun q => h ((le32 cx cn0).mpr q)) hf) H locs ls hH hS hl)
theorem r_icmp_le (S : CallFix p m c cc nL s args Ts own) {Z : Type} {a b : Option Z} {fin : Z → Prop} {x y : Int} {off : Int} {tgt : Nat} (hd : decode cc pc = .ok (.if_icmp .le off, 3)) (ht : (pc : Int) + off = (tgt : Int)) (cx : cn x) (cy : cn y) (hf : OK (if x ≤ y then a else b) fin) (kt : OK a fin → G p l e R s m args below meth c cells slots Q cA D N nL ad T A nx (tgt) lv (st) I) (kf : OK b fin → G p l e R s m args below meth c cells slots Q cA D N nL ad T A nx (pc + 3) lv (st) I) : G p l e R s m args below meth c cells slots Q cA D N nL ad T A nx (pc) lv (iv y :: iv x :: st) I :=
  fun H locs ls hH hS hl => lv_icmp_le S.1 S.2.1 hd ht (fun h => kt (ok_pos ((le32 cx cy).mp h) hf) H locs ls hH hS hl) (fun h => kf (ok_neg (fun q => h ((le32 cx cy).mpr q)) hf) H locs ls hH hS hl)
theorem r_if_gt (S : CallFix p m c cc nL s args Ts own) {Z : Type} {a b : Option Z} {fin : Z → Prop} {x : Int} {off : Int} {tgt : Nat} (hd : decode cc pc = .ok (.ifCond .gt off, 3)) (ht : (pc : Int) + off = (tgt : Int)) (cx : cn x) (hf : OK (if x ≤ 0 then a else b) fin) (kt : OK b fin → G p l e R s m args below meth c cells slots Q cA D N nL ad T A nx (tgt) lv (st) I) (kf : OK a fin → G p l e R s m args below meth c cells slots Q cA D N nL ad T A nx (pc + 3) lv (st) I) : G p l e R s m args below meth c cells slots Q cA D N nL ad T A nx (pc) lv (iv x :: st) I :=
  fun H locs ls hH hS hl => lv_if_gt S.1 S.2.1 hd ht (fun h => kt (ok_neg (fun q => by have := (lt32 cn0 cx).mp h; omega) hf) H locs ls hH hS hl) (fun h => kf (ok_pos (by have q1 : ¬ 0 < x := (fun q => h ((lt32 cn0 cx).mpr q)); omega) hf) H locs ls hH hS hl)
theorem r_icmp_gt (S : CallFix p m c cc nL s args Ts own) {Z : Type} {a b : Option Z} {fin : Z → Prop} {x y : Int} {off : Int} {tgt : Nat} (hd : decode cc pc = .ok (.if_icmp .gt off, 3)) (ht : (pc : Int) + off = (tgt : Int)) (cx : cn x) (cy : cn y) (hf : OK (if x ≤ y then a else b) fin) (kt : OK b fin → G p l e R s m args below meth c cells slots Q cA D N nL ad T A nx (tgt) lv (st) I) (kf : OK a fin → G p l e R s m args below meth c cells slots Q cA D N nL ad T A nx (pc + 3) lv (st) I) : G p l e R s m args below meth c cells slots Q cA D N nL ad T A nx (pc) lv (iv y :: iv x :: st) I :=
  fun H locs ls hH hS hl => lv_icmp_gt S.1 S.2.1 hd ht (fun h => kt (ok_neg (fun q => by have := (lt32 cy cx).mp h; omega) hf) H locs ls hH hS hl) (fun h => kf (ok_pos (by have q1 : ¬ y < x := (fun q => h ((lt32 cy cx).mpr q)); omega) hf) H locs ls hH hS hl)
theorem r_ladd (S : CallFix p m c cc nL s args Ts own) {x y : Int} (hd : decode cc pc = .ok (.ladd, 1)) (kk : G p l e R s m args below meth c cells slots Q cA D N nL ad T A nx (pc + 1) lv (jv (ila x y) :: st) I) : G p l e R s m args below meth c cells slots Q cA D N nL ad T A nx (pc) lv (jv y :: jv x :: st) I :=
  fun H locs ls hH hS hl => lv_ladd S.1 S.2.1 hd (by have h := kk H locs ls hH hS hl; unfold ila at h; rwa [jv, ofInt_wrapl, Int64.ofInt_add] at h)
theorem r_lsub (S : CallFix p m c cc nL s args Ts own) {x y : Int} (hd : decode cc pc = .ok (.lsub, 1)) (kk : G p l e R s m args below meth c cells slots Q cA D N nL ad T A nx (pc + 1) lv (jv (ils x y) :: st) I) : G p l e R s m args below meth c cells slots Q cA D N nL ad T A nx (pc) lv (jv y :: jv x :: st) I :=
  fun H locs ls hH hS hl => lv_lsub S.1 S.2.1 hd (by have h := kk H locs ls hH hS hl; unfold ils at h; rwa [jv, ofInt_wrapl, Int64.ofInt_sub] at h)
theorem r_lmul (S : CallFix p m c cc nL s args Ts own) {x y : Int} (hd : decode cc pc = .ok (.lmul, 1)) (kk : G p l e R s m args below meth c cells slots Q cA D N nL ad T A nx (pc + 1) lv (jv (ilm x y) :: st) I) : G p l e R s m args below meth c cells slots Q cA D N nL ad T A nx (pc) lv (jv y :: jv x :: st) I :=
  fun H locs ls hH hS hl => lv_lmul S.1 S.2.1 hd (by have h := kk H locs ls hH hS hl; unfold ilm at h; rwa [jv, ofInt_wrapl, Int64.ofInt_mul] at h)
theorem r_land (S : CallFix p m c cc nL s args Ts own) {x y : Int} (hd : decode cc pc = .ok (.land, 1)) (kk : G p l e R s m args below meth c cells slots Q cA D N nL ad T A nx (pc + 1) lv (jv (iland x y) :: st) I) : G p l e R s m args below meth c cells slots Q cA D N nL ad T A nx (pc) lv (jv y :: jv x :: st) I :=
  fun H locs ls hH hS hl => lv_land S.1 S.2.1 hd (by have h := kk H locs ls hH hS hl; unfold iland at h; rwa [jv, ofInt_toInt64] at h)
theorem r_lor (S : CallFix p m c cc nL s args Ts own) {x y : Int} (hd : decode cc pc = .ok (.lor, 1)) (kk : G p l e R s m args below meth c cells slots Q cA D N nL ad T A nx (pc + 1) lv (jv (ilor x y) :: st) I) : G p l e R s m args below meth c cells slots Q cA D N nL ad T A nx (pc) lv (jv y :: jv x :: st) I :=
  fun H locs ls hH hS hl => lv_lor S.1 S.2.1 hd (by have h := kk H locs ls hH hS hl; unfold ilor at h; rwa [jv, ofInt_toInt64] at h)
theorem r_lshl (S : CallFix p m c cc nL s args Ts own) {x y : Int} (hd : decode cc pc = .ok (.lshl, 1)) (kk : G p l e R s m args below meth c cells slots Q cA D N nL ad T A nx (pc + 1) lv (jv (ilshl x y) :: st) I) : G p l e R s m args below meth c cells slots Q cA D N nL ad T A nx (pc) lv (iv y :: jv x :: st) I :=
  fun H locs ls hH hS hl => lv_lshl (v := Int64.ofInt (ilshl x y)) S.1 S.2.1 hd (by unfold ilshl; rw [ofInt_toInt64]) (kk H locs ls hH hS hl)
theorem r_idiv (S : CallFix p m c cc nL s args Ts own) {x y : Int} {Z : Type} {K : Unit → Option Z} {fin : Z → Prop} (hd : decode cc pc = .ok (.idiv, 1)) (cy : cn y) (hf : OK ((dvz y).bind K) fin) (kk : OK (K ()) fin → G p l e R s m args below meth c cells slots Q cA D N nL ad T A nx (pc + 1) lv (iv (idv x y) :: st) I) : G p l e R s m args below meth c cells slots Q cA D N nL ad T A nx (pc) lv (iv y :: iv x :: st) I := by
  obtain ⟨u, h1, h2⟩ := ok_bind hf
  have hy : ¬ y = 0 := fun q => by rw [dvz, if_pos q] at h1; cases h1
  exact fun H locs ls hH hS hl => lv_idiv S.1 S.2.1 hd (fun q => hy ((eq32 cy cn0).mp q)) (by have h := kk h2 H locs ls hH hS hl; unfold idv at h; rwa [iv, ofInt_toInt32] at h)
theorem r_irem (S : CallFix p m c cc nL s args Ts own) {x y : Int} {Z : Type} {K : Unit → Option Z} {fin : Z → Prop} (hd : decode cc pc = .ok (.irem, 1)) (cy : cn y) (hf : OK ((dvz y).bind K) fin) (kk : OK (K ()) fin → G p l e R s m args below meth c cells slots Q cA D N nL ad T A nx (pc + 1) lv (iv (irm x y) :: st) I) : G p l e R s m args below meth c cells slots Q cA D N nL ad T A nx (pc) lv (iv y :: iv x :: st) I := by
  obtain ⟨u, h1, h2⟩ := ok_bind hf
  have hy : ¬ y = 0 := fun q => by rw [dvz, if_pos q] at h1; cases h1
  exact fun H locs ls hH hS hl => lv_irem S.1 S.2.1 hd (fun q => hy ((eq32 cy cn0).mp q)) (by have h := kk h2 H locs ls hH hS hl; unfold irm at h; rwa [iv, ofInt_toInt32] at h)
theorem r_ldiv (S : CallFix p m c cc nL s args Ts own) {x y : Int} {Z : Type} {K : Unit → Option Z} {fin : Z → Prop} (hd : decode cc pc = .ok (.ldiv, 1)) (cy : cl y) (hf : OK ((dvz y).bind K) fin) (kk : OK (K ()) fin → G p l e R s m args below meth c cells slots Q cA D N nL ad T A nx (pc + 1) lv (jv (ildv x y) :: st) I) : G p l e R s m args below meth c cells slots Q cA D N nL ad T A nx (pc) lv (jv y :: jv x :: st) I := by
  obtain ⟨u, h1, h2⟩ := ok_bind hf
  have hy : ¬ y = 0 := fun q => by rw [dvz, if_pos q] at h1; cases h1
  exact fun H locs ls hH hS hl => lv_ldiv S.1 S.2.1 hd (fun q => hy ((eq64 cy (cl_cn cn0)).mp q)) (by have h := kk h2 H locs ls hH hS hl; unfold ildv at h; rwa [jv, ofInt_toInt64] at h)
theorem r_lrem (S : CallFix p m c cc nL s args Ts own) {x y : Int} {Z : Type} {K : Unit → Option Z} {fin : Z → Prop} (hd : decode cc pc = .ok (.lrem, 1)) (cy : cl y) (hf : OK ((dvz y).bind K) fin) (kk : OK (K ()) fin → G p l e R s m args below meth c cells slots Q cA D N nL ad T A nx (pc + 1) lv (jv (ilrm x y) :: st) I) : G p l e R s m args below meth c cells slots Q cA D N nL ad T A nx (pc) lv (jv y :: jv x :: st) I := by
  obtain ⟨u, h1, h2⟩ := ok_bind hf
  have hy : ¬ y = 0 := fun q => by rw [dvz, if_pos q] at h1; cases h1
  exact fun H locs ls hH hS hl => lv_lrem S.1 S.2.1 hd (fun q => hy ((eq64 cy (cl_cn cn0)).mp q)) (by have h := kk h2 H locs ls hH hS hl; unfold ilrm at h; rwa [jv, ofInt_toInt64] at h)
theorem r_lcmp (S : CallFix p m c cc nL s args Ts own) {x y : Int} (hd : decode cc pc = .ok (.lcmp, 1)) (cx : cl x) (cy : cl y) (kk : G p l e R s m args below meth c cells slots Q cA D N nL ad T A nx (pc + 1) lv (iv (ilcmp x y) :: st) I) : G p l e R s m args below meth c cells slots Q cA D N nL ad T A nx (pc) lv (jv y :: jv x :: st) I := fun H locs ls hH hS hl => by
  refine W.lcmp S.1 S.2.1 hd ?_
  have h := kk H locs ls hH hS hl
  have e : lg_cmp (Int64.ofInt x) (Int64.ofInt y) = Int32.ofInt (ilcmp x y) := by
    unfold lg_cmp ilcmp
    have a1 := lt64 cy cx
    have a2 := eq64 cx cy
    by_cases h1 : y < x
    · rw [if_pos (a1.mpr h1), if_neg (by omega), if_neg (by omega)]; rfl
    · rw [if_neg (fun q => h1 (a1.mp q))]
      by_cases h2 : x = y
      · rw [if_pos (a2.mpr h2), if_neg (by omega), if_pos h2]; rfl
      · rw [if_neg (fun q => h2 (a2.mp q)), if_pos (by omega)]; rfl
  rw [e]
  exact h
theorem r_i2l (S : CallFix p m c cc nL s args Ts own) {x : Int} (hd : decode cc pc = .ok (.i2l, 1)) (cx : cn x) (kk : G p l e R s m args below meth c cells slots Q cA D N nL ad T A nx (pc + 1) lv (jv x :: st) I) : G p l e R s m args below meth c cells slots Q cA D N nL ad T A nx (pc) lv (iv x :: st) I :=
  fun H locs ls hH hS hl => lv_i2l (v := Int64.ofInt x) S.1 S.2.1 hd (by apply Int64.toInt_inj.mp; rw [Int32.toInt_toInt64, toInt_ofInt32 cx, toInt_ofInt64 (cl_cn cx)]) (kk H locs ls hH hS hl)
theorem r_l2i (S : CallFix p m c cc nL s args Ts own) {x : Int} (hd : decode cc pc = .ok (.l2i, 1)) (cx : cl x) (kk : G p l e R s m args below meth c cells slots Q cA D N nL ad T A nx (pc + 1) lv (iv (wrap x) :: st) I) : G p l e R s m args below meth c cells slots Q cA D N nL ad T A nx (pc) lv (jv x :: st) I :=
  fun H locs ls hH hS hl => lv_l2i (v := Int32.ofInt (wrap x)) S.1 S.2.1 hd (by rw [ofInt_wrap]; apply Int32.toInt_inj.mp; rw [Int64.toInt_toInt32, toInt_ofInt64 cx, Int32.toInt_ofInt]) (kk H locs ls hH hS hl)
theorem r_i2b (S : CallFix p m c cc nL s args Ts own) {x : Int} (hd : decode cc pc = .ok (.i2b, 1)) (kk : G p l e R s m args below meth c cells slots Q cA D N nL ad T A nx (pc + 1) lv (iv (i2b x) :: st) I) : G p l e R s m args below meth c cells slots Q cA D N nL ad T A nx (pc) lv (iv x :: st) I :=
  fun H locs ls hH hS hl => lv_i2b (v := Int32.ofInt (i2b x)) S.1 S.2.1 hd (by unfold i2b; rw [ofInt_toInt32]) (kk H locs ls hH hS hl)
theorem r_i2s (S : CallFix p m c cc nL s args Ts own) {x : Int} (hd : decode cc pc = .ok (.i2s, 1)) (kk : G p l e R s m args below meth c cells slots Q cA D N nL ad T A nx (pc + 1) lv (iv (i2s x) :: st) I) : G p l e R s m args below meth c cells slots Q cA D N nL ad T A nx (pc) lv (iv x :: st) I :=
  fun H locs ls hH hS hl => lv_i2s (v := Int32.ofInt (i2s x)) S.1 S.2.1 hd (by unfold i2s; rw [ofInt_toInt32]) (kk H locs ls hH hS hl)
/-- a field's link, with what the tables say of its class: field k of class ci, its type's code t -/
def FL (Ts : List Cond) (own : String) (index ci k t : Nat) : Prop := ∃ (C : String) (TT : u_T) (ty0 : Nat → FieldType), vwCl[ci]? = some (C, TT, (ftc ci).length) ∧ ci < 13 ∧ (∀ w ∈ u_ws C TT (ftc ci).length, w ∈ Ts) ∧ (ftc ci)[k]? = some t ∧ Cond.fieldLink own index C (TT k).2.1 (TT k).2.2.1 ∈ Ts ∧ (TT k).1 = C ∧ (∀ k, k < (ftc ci).length → parseFieldDescriptor (TT k).2.2.1 = some (ty0 k)) ∧ (∀ a, a < (ftc ci).length → ∀ b, b < (ftc ci).length → a ≠ b → (TT a).2.1 ≠ (TT b).2.1)
theorem r_getI (S : CallFix p m c cc nL s args Ts own) (hK : va_K D vwCl (tyl cA) s) {index ci k a : Nat} (hL : FL Ts own index ci k 0) {Z : Type} {K : Int → Option Z} {fin : Z → Prop} (hd : decode cc pc = .ok (.getfield index, 3)) (hf : OK ((gi T ci k a I).bind K) fin) (kk : ∀ x, cn x → OK (K x) fin → G p l e R s m args below meth c cells slots Q cA D N nL ad T A nx (pc + 3) lv (iv x :: st) I) : G p l e R s m args below meth c cells slots Q cA D N nL ad T A nx (pc) lv (rv ad a :: st) I := by
  obtain ⟨x, h1, h2⟩ := ok_bind hf
  by_cases hT : (T a).1 = ci
  · rw [gi, if_pos hT] at h1
    cases h1
    obtain ⟨C, TT, ty0, hc, h13, hin, ht, hlk, hC, hty, hnm⟩ := hL
    have hk := (List.getElem?_eq_some_iff.mp ht).1
    intro H locs ls hH hS hl
    obtain ⟨hP, hD, hw⟩ := id hH
    obtain ⟨b1, b2⟩ := hw.1 a (by omega)
    have hx : cn (I a k) := (hw.2.2 a k).2 (by
      have e1 : ((T a).1 == 21) = false := by rw [beq_eq_false_iff_ne]; omega
      have e2 : ((ftc (T a).1)[k]? == some 1) = false := by rw [hT, ht]; rfl
      simp [isL, e1, e2])
    exact va_get S.1 S.2.1 S.2.2.2.2 hin S.2.2.2.1 hK hP (a - 1) ((wl_get b1 b2).trans (congrArg (fun z => some (ad a, z)) (ent_cls hT h13))) hc k hk (S.2.2.2.2 _ hlk) (fun x h => by rw [← hC]; exact h) (flds_get ht) hd (kk (I a k) hx h2 H locs ls hH hS hl)
  · rw [gi, if_neg hT] at h1
    cases h1
theorem r_getJ (S : CallFix p m c cc nL s args Ts own) (hK : va_K D vwCl (tyl cA) s) {index ci k a : Nat} (hL : FL Ts own index ci k 1) {Z : Type} {K : Int → Option Z} {fin : Z → Prop} (hd : decode cc pc = .ok (.getfield index, 3)) (hf : OK ((gi T ci k a I).bind K) fin) (kk : ∀ x, cl x → OK (K x) fin → G p l e R s m args below meth c cells slots Q cA D N nL ad T A nx (pc + 3) lv (jv x :: st) I) : G p l e R s m args below meth c cells slots Q cA D N nL ad T A nx (pc) lv (rv ad a :: st) I := by
  obtain ⟨x, h1, h2⟩ := ok_bind hf
  by_cases hT : (T a).1 = ci
  · rw [gi, if_pos hT] at h1
    cases h1
    obtain ⟨C, TT, ty0, hc, h13, hin, ht, hlk, hC, hty, hnm⟩ := hL
    have hk := (List.getElem?_eq_some_iff.mp ht).1
    intro H locs ls hH hS hl
    obtain ⟨hP, hD, hw⟩ := id hH
    obtain ⟨b1, b2⟩ := hw.1 a (by omega)
    exact va_get S.1 S.2.1 S.2.2.2.2 hin S.2.2.2.1 hK hP (a - 1) ((wl_get b1 b2).trans (congrArg (fun z => some (ad a, z)) (ent_cls hT h13))) hc k hk (S.2.2.2.2 _ hlk) (fun x h => by rw [← hC]; exact h) (flds_get ht) hd (kk (I a k) (hw.2.2 a k).1 h2 H locs ls hH hS hl)
  · rw [gi, if_neg hT] at h1
    cases h1
theorem r_getR (S : CallFix p m c cc nL s args Ts own) (hK : va_K D vwCl (tyl cA) s) {index ci k a : Nat} (hL : FL Ts own index ci k 2) {Z : Type} {K : Nat → Option Z} {fin : Z → Prop} (hd : decode cc pc = .ok (.getfield index, 3)) (hf : OK ((gr T A ci k a).bind K) fin) (kk : ∀ x, OK (K x) fin → G p l e R s m args below meth c cells slots Q cA D N nL ad T A nx (pc + 3) lv (rv ad x :: st) I) : G p l e R s m args below meth c cells slots Q cA D N nL ad T A nx (pc) lv (rv ad a :: st) I := by
  obtain ⟨x, h1, h2⟩ := ok_bind hf
  by_cases hT : (T a).1 = ci ∧ A a k ≠ 0
  · rw [gr, if_pos hT] at h1
    cases h1
    obtain ⟨hT, hne⟩ := hT
    obtain ⟨C, TT, ty0, hc, h13, hin, ht, hlk, hC, hty, hnm⟩ := hL
    have hk := (List.getElem?_eq_some_iff.mp ht).1
    intro H locs ls hH hS hl
    obtain ⟨hP, hD, hw⟩ := id hH
    obtain ⟨b1, b2⟩ := hw.1 a (by omega)
    refine va_get S.1 S.2.1 S.2.2.2.2 hin S.2.2.2.1 hK hP (a - 1) ((wl_get b1 b2).trans (congrArg (fun z => some (ad a, z)) (ent_cls hT h13))) hc k hk (S.2.2.2.2 _ hlk) (fun x h => by rw [← hC]; exact h) (flds_get ht) hd ?_
    have e : fv ad A I a k 2 = rv ad (A a k) := by
      show va_rf (ro ad (A a k)) = _
      rw [ro_pos (by omega)]
      rfl
    rw [e]
    exact kk (A a k) h2 H locs ls hH hS hl
  · rw [gr, if_neg hT] at h1
    cases h1
/-- the type of a field by its place -/
def fty (ci k : Nat) : Option FieldType := (vwCl[ci]?).bind (fun q => parseFieldDescriptor (q.2.1 k).2.2.1)
def ffin (ci k : Nat) : Option Bool := (vwCl[ci]?).map (fun q => (q.2.1 k).2.2.2)
theorem r_put {v : Int} {w : Value} {t : Nat} (S : CallFix p m c cc nL s args Ts own) (hK : va_K D vwCl (tyl cA) s) {index ci k a : Nat} (hL : FL Ts own index ci k t) {ty : FieldType} (hfy : fty ci k = some ty) (hff : ffin ci k = some false) (hn : narrow ty w = w) (hfit : fits ty w = true) (hw1 : cl v) (hw2 : t = 0 → cn v) (hvw : fv ad A (mu I a k v) a k t = w) {Z : Type} {K : Mem → Option Z} {fin : Z → Prop} (hd : decode cc pc = .ok (.putfield index, 3)) (ht2 : t = 0 ∨ t = 1) (hT : (T a).1 = ci) (hf : OK (K (mu I a k v)) fin) (kk : ∀ I', OK (K I') fin → G p l e R s m args below meth c cells slots Q cA D N nL ad T A nx (pc + 3) lv (st) I') : G p l e R s m args below meth c cells slots Q cA D N nL ad T A nx (pc) lv (w :: rv ad a :: st) I := by
  obtain ⟨C, TT, ty0, hc, h13, hin, ht, hlk, hC, hty, hnm⟩ := hL
  have hk := (List.getElem?_eq_some_iff.mp ht).1
  have hfy2 : parseFieldDescriptor (TT k).2.2.1 = some ty := by simpa [fty, hc] using hfy
  have hff2 : (TT k).2.2.2 = false := by simpa [ffin, hc] using hff
  intro H locs ls hH hS hl
  obtain ⟨hP, hD, hw⟩ := id hH
  obtain ⟨b1, b2⟩ := hw.1 a (by omega)
  refine va_put S.1 S.2.1 S.2.2.2.2 hin ty0 hty hnm S.2.2.2.1 hK hP hD hS (a - 1) ((wl_get b1 b2).trans (congrArg (fun z => some (ad a, z)) (ent_cls hT h13))) hc k hk (S.2.2.2.2 _ hlk) (fun x h => by rw [← hC]; exact h) hff2 hfy2 hn hfit (by rw [flds_len]; exact hk) hd (fun H1 locs1 hP1 hD1 hS1 => ?_)
  have e := wl_set (cA := cA) (ad := ad) (T := T) (A := A) (nx := nx) (I := I) (I' := mu I a k v) (e := .inr (ci, (flds ad A I ci a).set k w)) b1 ((ent_cls hT h13).trans (by rw [flds_set ht hvw])) mu_ent
  rw [e] at hP1 hD1
  refine kk _ hf H1 locs1 ls ⟨hP1, hD1, wt_mu hw hw1 (fun q => hw2 ?_)⟩ hS1 hl
  rcases ht2 with h | h
  · exact h
  · subst h
    rw [isL, hT, ht] at q
    simp at q
theorem r_putI (S : CallFix p m c cc nL s args Ts own) (hK : va_K D vwCl (tyl cA) s) {index ci k a : Nat} {v : Int} (hL : FL Ts own index ci k 0) (hfy : fty ci k = some .int) (hff : ffin ci k = some false) (cv : cn v) {Z : Type} {K : Mem → Option Z} {fin : Z → Prop} (hd : decode cc pc = .ok (.putfield index, 3)) (hf : OK ((pi T ci k a v I).bind K) fin) (kk : ∀ I', OK (K I') fin → G p l e R s m args below meth c cells slots Q cA D N nL ad T A nx (pc + 3) lv (st) I') : G p l e R s m args below meth c cells slots Q cA D N nL ad T A nx (pc) lv (iv v :: rv ad a :: st) I := by
  obtain ⟨x, h1, h2⟩ := ok_bind hf
  by_cases hT : (T a).1 = ci
  · rw [pi, if_pos hT] at h1
    cases h1
    exact r_put S hK hL hfy hff rfl rfl (cl_cn cv) (fun _ => cv) (by unfold fv; rw [if_pos rfl, mu_eq]) hd (Or.inl rfl) hT h2 kk
  · rw [pi, if_neg hT] at h1
    cases h1
theorem r_putJ (S : CallFix p m c cc nL s args Ts own) (hK : va_K D vwCl (tyl cA) s) {index ci k a : Nat} {v : Int} (hL : FL Ts own index ci k 1) (hfy : fty ci k = some .long) (hff : ffin ci k = some false) (cv : cl v) {Z : Type} {K : Mem → Option Z} {fin : Z → Prop} (hd : decode cc pc = .ok (.putfield index, 3)) (hf : OK ((pi T ci k a v I).bind K) fin) (kk : ∀ I', OK (K I') fin → G p l e R s m args below meth c cells slots Q cA D N nL ad T A nx (pc + 3) lv (st) I') : G p l e R s m args below meth c cells slots Q cA D N nL ad T A nx (pc) lv (jv v :: rv ad a :: st) I := by
  obtain ⟨x, h1, h2⟩ := ok_bind hf
  by_cases hT : (T a).1 = ci
  · rw [pi, if_pos hT] at h1
    cases h1
    exact r_put S hK hL hfy hff rfl rfl cv (fun q => by cases q) (by unfold fv; rw [if_neg (by decide), if_pos rfl, mu_eq]) hd (Or.inr rfl) hT h2 kk
  · rw [pi, if_neg hT] at h1
    cases h1
theorem r_putZ (S : CallFix p m c cc nL s args Ts own) (hK : va_K D vwCl (tyl cA) s) {index ci k a : Nat} {v : Int} (hL : FL Ts own index ci k 0) (hfy : fty ci k = some .boolean) (hff : ffin ci k = some false) {Z : Type} {K : Mem → Option Z} {fin : Z → Prop} (hd : decode cc pc = .ok (.putfield index, 3)) (hf : OK ((pz T ci k a v I).bind K) fin) (kk : ∀ I', OK (K I') fin → G p l e R s m args below meth c cells slots Q cA D N nL ad T A nx (pc + 3) lv (st) I') : G p l e R s m args below meth c cells slots Q cA D N nL ad T A nx (pc) lv (iv v :: rv ad a :: st) I := by
  obtain ⟨x, h1, h2⟩ := ok_bind hf
  by_cases hT : (T a).1 = ci ∧ (v = 0 ∨ v = 1)
  · rw [pz, if_pos hT] at h1
    cases h1
    obtain ⟨hT, hv⟩ := hT
    have cv : cn v := by rcases hv with h | h <;> subst h <;> exact ⟨by decide, by decide⟩
    exact r_put S hK hL hfy hff (by rcases hv with h | h <;> subst h <;> rfl) (by rcases hv with h | h <;> subst h <;> rfl) (cl_cn cv) (fun _ => cv) (by unfold fv; rw [if_pos rfl, mu_eq]) hd (Or.inl rfl) hT h2 kk
  · rw [pz, if_neg hT] at h1
    cases h1
end GR2
