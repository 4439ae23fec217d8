/-! keep: an image is made the first time. -/
def aar (a : Nat) (j : Int) (v : Nat) (S : St) : Option St := if (S.1 a).1 = 26 ∧ (S.1 v).1 = 2 ∧ 0 ≤ j ∧ j < (S.1 a).2 then some (S.1, muA S.2.1 a j.toNat v, S.2.2.1, S.2.2.2) else none
theorem bnd_rule {V X : Type} {o : Option V} {k : V → Option X} {fin : X → Prop} {P : V → Prop} {Gl : Prop} (hf : OK (o.bind k) fin) (hJ : ∀ v, OK (k v) fin → P v) (main : (∀ v, OK (k v) fin → P v) → OK o (bnf k fin) → Gl) : Gl := main hJ (ok_bnd hf)
def CtK (l : Launch) (y : MethodName) (cc : ByteArray) (nL : Nat) (fr mc ms lo : Nat) (cA : Nat → ClassId) (D : va_G) (N : Nat) (sx : Sx) (ad : Nat → Nat) (T : Knd) (A : Rfs) (nx : Nat) (av : List Value) (I : Mem) (e : Int × St) : Prop := Met l y (.code y cc nL (some .int) :: gT) (rmy fr mc ms lo) (va_Pc av (PreA cA D N sx ad T A nx I)) (va_Qi (S := Nat → Nat) (fun z _ => z = Int32.ofInt e.1 ∧ cn e.1) (fun ad1 t => (∀ i, i ≤ nx → ad1 i = ad i) ∧ nx ≤ e.2.2.2.1 ∧ RB e.2.2.1 e.2.2.2.1 ∧ HP cA D ad1 e.2.1 e.2.2.1 e.2.2.2.1 N e.2.2.2.2 t.heap) (A0 N)) mc ms (A0 N)
section GRK
variable {p : Program} {l : Launch} {e : Env} {R : Room} {s : State} {m : MethodId} {args : Array Value} {below : List Frame} {meth : Method} {c : Code} {cells slots : Nat} {Q : State → Prop} {cA : Nat → ClassId} {D : va_G} {N nL : Nat} {ad : Nat → Nat} {T : Knd} {A : Rfs} {nx : Nat} {pc : Nat} {lv lv' : List (Nat × Value)} {st : List Value} {I : Mem}
variable {cc : ByteArray} {own : String} {sx : Sx}

theorem r_wid (c2 s2 : Nat) (h1 : cells ≤ c2) (h2 : slots ≤ s2) (kk : G p l e R s m args below meth c (c2) (s2) Q cA D N nL ad T A (nx) (pc) (lv) (st) I) : G p l e R s m args below meth c (cells) (slots) Q cA D N nL ad T A (nx) (pc) (lv) (st) I := fun H locs ls hH hS hl => W.widen (k := c2) (n := s2) h1 h2 (kk H locs ls hH hS hl)
theorem r_aast (S : CallFix p m c cc nL s args gT own) (hK : va_K D vwCl (tyl cA) s) (hrb : RB A nx) {a v : Nat} {j : Int} {Z : Type} {K : St → Option Z} {fin : Z → Prop} (hd : decode cc pc = .ok (.aastore, 1)) (cj : cn j) (hf : OK ((aar a j v (T, A, nx, I)).bind K) fin) (kk : ∀ S1 : St, S1.2.2.1 = nx → RB S1.2.1 S1.2.2.1 → OK (K S1) fin → G p l e R s m args below meth c (cells) (slots) Q cA D N nL ad S1.1 S1.2.1 (S1.2.2.1) (pc + 1) (lv) (st) S1.2.2.2) : G p l e R s m args below meth c (cells) (slots) Q cA D N nL ad T A (nx) (pc) (lv) (rv ad v :: iv j :: rv ad a :: st) I := by
  obtain ⟨S1, h1, h2⟩ := ok_bind hf
  by_cases q : (T a).1 = 26 ∧ (T v).1 = 2 ∧ 0 ≤ j ∧ j < (T a).2
  · rw [aar, if_pos q] at h1
    cases h1
    obtain ⟨g1, gv, g2, g3⟩ := q
    intro H locs ls hH hS hl
    obtain ⟨hP, hD, hw⟩ := id hH
    obtain ⟨b1, b2⟩ := hw.1 a (by omega)
    obtain ⟨d1, d2⟩ := hw.1 v (by omega)
    refine va_astq S.1 S.2.1 hK hP hD hS (a - 1) 6 (v - 1) 2 ((wl_get b1 b2).trans (congrArg (fun z => some (ad a, z)) (ent_r g1 (by decide)))) rfl ((wl_get d1 d2).trans (congrArg (fun z => some (ad v, z)) (ent_cls gv (by decide)))) rfl (vin cj g2 g3) hd (fun H1 locs1 hP1 hD1 hS1 => ?_)
    rw [tnc cj] at hP1 hD1
    have em : muA A a j.toNat v a j.toNat = v := if_pos ⟨rfl, rfl⟩
    have en : ∀ b i, b ≠ a → muA A a j.toNat v b i = A b i := fun b i hb => if_neg (fun z => hb z.1)
    have ek : ∀ i, i ≠ j.toNat → muA A a j.toNat v a i = A a i := fun i hi => if_neg (fun z => hi z.2)
    have e := wl_set2 (cA := cA) (ad := ad) (T := T) (A := A) (A' := muA A a j.toNat v) (nx := nx) (I := I) (e := .inl (cA 26, (T a).2, .inr (.inr (.inr (.inr (va_up (fun i => ro ad (A a i)) j.toNat (some (ad v)))))))) b1 ((ent_r g1 (by decide)).trans (by
      congr 6
      congr 1
      funext i
      unfold va_up
      by_cases hi : i = j.toNat
      · subst hi
        rw [em, if_pos rfl, ro_pos d1]
      · rw [if_neg hi, ek i hi])) (fun b hb => ent_congr2 (fun i _ => rfl) rfl (fun i => en b i hb) (fun i => rfl) hrb)
    rw [e] at hP1 hD1
    refine kk (T, muA A a j.toNat v, nx, I) rfl (fun b i => ?_) h2 H1 locs1 ls ⟨hP1, hD1, hw⟩ hS1 hl
    show (if _ then _ else _) ≤ nx
    split
    · exact d2
    · exact hrb b i
  · rw [aar, if_neg q] at h1
    cases h1
theorem r_iretA {ad0 : Nat → Nat} {nx0 : Nat} {r : Int} (S : CallFix p m c cc nL s args gT own) (hr : meth.sig.returnType = some .int) (hlk : meth.locks = false) (hag : ∀ i, i ≤ nx0 → ad i = ad0 i) (hnx : nx0 ≤ nx) (hrb : RB A nx) (cr : cn r) (hd : decode cc pc = .ok (.ireturn, 1)) : G p l e R s m args below meth c cells slots (MQ below (va_Qi (S := Nat → Nat) (fun z _ => z = Int32.ofInt (r, T, A, nx, I).1 ∧ cn (r, T, A, nx, I).1) (fun ad1 t => (∀ i, i ≤ nx0 → ad1 i = ad0 i) ∧ nx0 ≤ (r, T, A, nx, I).2.2.2.1 ∧ RB (r, T, A, nx, I).2.2.1 (r, T, A, nx, I).2.2.2.1 ∧ HP cA D ad1 (r, T, A, nx, I).2.1 (r, T, A, nx, I).2.2.1 (r, T, A, nx, I).2.2.2.1 N (r, T, A, nx, I).2.2.2.2 t.heap) (A0 N)) args s cells slots (A0 N)) cA D N nL ad T A nx pc lv [iv r] I :=
  fun H locs ls hH hS hl => W.iret S.1 S.2.1 hr (fun t ht hW => ⟨⟨Int32.ofInt r, ad, rfl, ⟨rfl, cr⟩, hag, hnx, hrb, by show HP cA D ad T A nx N I t.heap; rw [ht]; exact hH⟩, hS.F ht⟩) hS.2.2 hd
end GRK
def f_X11_keep (T : Knd) (A : Rfs) (nx : Nat) (w0 : Nat) (a1 : Int) (I : Mem) : Option (Int × St) := if (T w0).1 = 11 then if a1 < 0 then some ((-2), T, A, nx, I) else (gr T A 11 14 w0).bind fun x1 => (aln T 26 x1).bind fun x2 => if a1 < x2 then (gr T A 11 14 w0).bind fun x3 => ((lrz T A 26 x3 a1).bind (fun z => if z = true then (gr T A 11 14 w0).bind fun x4 => (nwO 2 (T, A, nx, I)).bind fun S5 => (f_X2_init S5.1 S5.2.1 S5.2.2.1 (nx + 1) S5.2.2.2).bind fun e6 => (aar x4 a1 (nx + 1) (e6.1, e6.2.1, e6.2.2.1, e6.2.2.2)).bind fun S7 => some S7 else some (T, A, nx, I))).bind fun v => (gr v.1 v.2.1 11 14 w0).bind fun x8 => (lr v.1 v.2.1 26 x8 a1).bind fun x9 => (gr v.1 v.2.1 11 2 w0).bind fun x10 => (f_X2_copyFrom v.1 v.2.1 x9 x10 v.2.2.2).bind fun e11 => some (0, v.1, v.2.1, v.2.2.1, e11) else some ((-2), T, A, nx, I) else none
theorem k_X11_keep {T : Knd} {A : Rfs} {nx w0 : Nat} {a1 : Int} {I : Mem} {e : Int × St} (h : f_X11_keep T A nx w0 a1 I = some e) : (T w0).1 = 11 := by
  unfold f_X11_keep at h
  exact grd_some h
set_option maxHeartbeats 4000000 in
set_option maxRecDepth 100000 in
theorem c_X11_keep (l : Launch) (cA : Nat → ClassId) (D : va_G) (N : Nat) (sx : Sx) (ad : Nat → Nat) (T : Knd) (A : Rfs) (nx : Nat) (I : Mem) (w0 : Nat) (a1 : Int) (ca1 : cn a1) (hrb : RB A nx) (hb0 : 1 ≤ w0 ∧ w0 ≤ nx) (e : Int × St) (h : f_X11_keep T A nx w0 a1 I = some e) : CtK l yX11_keep cX11_keep 2 3 21 191 105 cA D N sx ad T A nx [rv ad w0, iv a1] I e := by
  refine met_ofA (lv0 := [(0, rv ad w0), (1, iv a1)]) (by decide) (Nat.le_of_ble_eq_true rfl) rfl (by omega) (fun p e0 s m args below meth c S0 hK hX hAX hN hin hr hlk Q hQ => ?_)
  have hf : OK (f_X11_keep T A nx w0 a1 I) (fun z => z = e) := ⟨e, h, rfl⟩
  unfold f_X11_keep at hf
  obtain ⟨hw0, hf⟩ := ok_grd hf
  have hag : ∀ i, i ≤ nx → ad i = ad i := fun _ _ => rfl
  refine r_iload_n (pc := 0) S0 1 dX11_keep_0 rfl rfl ?_
  refine r_if_lt (pc := 1) (tgt := 13) S0 dX11_keep_1 (by decide) ca1 hf (fun hf => ?_) (fun hf => ?_)
  · refine r_bipush (pc := 13) S0 dX11_keep_13 (by decide) ?_
    refine r_wid 21 191 (by decide) (by decide) ?_
    have hz := ok_some hf
    have hz : ((-2), T, A, nx, I) = e := hz
    subst hQ
    subst hz
    exact r_iretA (pc := 15) S0 hr hlk hag (Nat.le_refl _) hrb (cnz (-2) rfl) dX11_keep_15
  · refine r_iload_n (pc := 4) S0 1 dX11_keep_4 rfl rfl ?_
    refine r_aload_n (pc := 5) S0 0 dX11_keep_5 rfl rfl ?_
    refine r_getR (pc := 6) S0 hK fl_X11_101 dX11_keep_6 hf (fun x1 hf => ?_)
    refine r_aln 26 6 (pc := 9) S0 hK (by decide) rfl dX11_keep_9 hf (fun x2 c2 hf => ?_)
    refine r_icmp_lt (pc := 10) (tgt := 16) S0 dX11_keep_10 (by decide) ca1 c2 hf (fun hf => ?_) (fun hf => ?_)
    · refine r_aload_n (pc := 16) S0 0 dX11_keep_16 rfl rfl ?_
      refine r_getR (pc := 17) S0 hK fl_X11_101 dX11_keep_17 hf (fun x3 hf => ?_)
      refine r_iload_n (pc := 20) S0 1 dX11_keep_20 rfl rfl ?_
      refine bnd_rule (P := fun v => ∀ ad1 : Nat → Nat, (∀ i, i ≤ nx → ad1 i = ad i) → nx ≤ v.2.2.1 → RB v.2.1 v.2.2.1 → G p l e0 (rmy 3 21 191 105) s m args below meth c 21 191 Q cA D N 2 ad1 v.1 v.2.1 v.2.2.1 38 [(0, rv ad1 w0), (1, iv a1)] [] v.2.2.2) hf (fun v hf ad1 hag hnx hrb => ?_) (fun K5 hf => ?_)
      · refine r_aload_n (pc := 38) S0 0 dX11_keep_38 rfl rfl ?_
        refine r_getR (pc := 39) S0 hK fl_X11_101 dX11_keep_39 hf (fun x8 hf => ?_)
        refine r_iload_n (pc := 42) S0 1 dX11_keep_42 rfl rfl ?_
        refine r_aald 26 6 (pc := 43) S0 hK (by decide) rfl rfl dX11_keep_43 ca1 hf (fun x9 hf => ?_)
        refine r_aload_n (pc := 44) S0 0 dX11_keep_44 rfl rfl ?_
        refine r_getR (pc := 45) S0 hK fl_X11_28 dX11_keep_45 hf (fun x10 hf => ?_)
        obtain ⟨e11, h11, hf⟩ := ok_bind hf
        refine r_cV_V (pc := 48) [rv ad1 x10] S0 hK hX mv_X11_120 (k_X2_copyFrom h11) (c_X2_copyFrom l cA D N sx ad1 v.1 v.2.1 v.2.2.1 v.2.2.2 x9 x10 e11 h11) rfl rfl ⟨by decide, by decide⟩ (Nat.le_of_ble_eq_true rfl) ⟨by decide, by decide⟩ dX11_keep_48 ?_
        refine r_iconst (pc := 51) S0 dX11_keep_51 ?_
        have hz := ok_some hf
        have hz : (0, v.1, v.2.1, v.2.2.1, e11) = e := hz
        subst hQ
        subst hz
        exact r_iretA (pc := 52) S0 hr hlk hag hnx hrb (cnz 0 rfl) dX11_keep_52
      · refine r_lrz (pc := 21) 22 38 S0 hK dX11_keep_21 rfl dX11_keep_22 (by decide) ca1 hf (fun hf => ?_) (fun hf => ?_)
        · refine r_aload_n (pc := 25) S0 0 dX11_keep_25 rfl rfl ?_
          refine r_getRb (pc := 26) S0 hK hrb fl_X11_101 dX11_keep_26 hf (fun x4 hx4 hf => ?_)
          refine r_iload_n (pc := 29) S0 1 dX11_keep_29 rfl rfl ?_
          refine r_new (pc := 30) S0 hK nw_X11_25 hN hrb (fun ad => [(0, rv ad w0), (1, iv a1)]) (fun ad => [iv a1, rv ad x4]) (fun ad1 h => by simp only [rv, h w0 (by omega)]) (fun ad1 h => by simp only [rv, h x4 (by omega)]) dX11_keep_30 1 10 ⟨rfl, rfl, by decide, by decide⟩ hf (fun ad S5 h5 n5 hrb hf => ?_)
          have hag := fun i (hi : i ≤ nx) => (h5 i (by omega)).trans (hag i hi)
          refine r_dup (pc := 33) S0 dX11_keep_33 rfl ?_
          obtain ⟨e6, h6, hf⟩ := ok_bind hf
          refine r_cIN (pc := 34) [] S0 hK hX hAX min_X11_27 (c_X2_init l cA D N sx ad S5.1 S5.2.1 S5.2.2.1 S5.2.2.2 (nx + 1) hrb (by omega) e6 h6) rfl rfl (fun ad => [(0, rv ad w0), (1, iv a1)]) (fun ad => [rv ad (nx + 1), iv a1, rv ad x4]) (fun ad1 h => by simp only [rv, h w0 (by omega)]) (fun ad1 h => by simp only [rv, h x4 (by omega), h (nx + 1) (by omega)]) ⟨by decide, by decide⟩ (Nat.le_of_ble_eq_true rfl) 21 191 ⟨rfl, rfl, by decide, by decide⟩ dX11_keep_34 (fun ad h7 n6 hrb => ?_)
          have hag := fun i (hi : i ≤ nx) => (h7 i (by omega)).trans (hag i hi)
          refine r_aast (pc := 37) S0 hK hrb dX11_keep_37 ca1 hf (fun S7 n7 hrb hf => ?_)
          have hz := ok_some hf
          exact K5 S7 hz ad hag (by omega) hrb
        · have hz := ok_some hf
          refine r_wid 21 191 (by decide) (by decide) ?_
          exact K5 (T, A, nx, I) hz ad hag (Nat.le_refl _) hrb
    · refine r_bipush (pc := 13) S0 dX11_keep_13 (by decide) ?_
      refine r_wid 21 191 (by decide) (by decide) ?_
      have hz := ok_some hf
      have hz : ((-2), T, A, nx, I) = e := hz
      subst hQ
      subst hz
      exact r_iretA (pc := 15) S0 hr hlk hag (Nat.le_refl _) hrb (cnz (-2) rfl) dX11_keep_15
