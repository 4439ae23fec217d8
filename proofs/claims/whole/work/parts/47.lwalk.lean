/-! The law's walk, from its entry: over what B owes (the constructors' states, Inv, a step of lstep). -/
def kn0 : Knd := fun _ => (99, 0)
def rf0 : Rfs := fun _ _ => 0
def mm0 : Mem := fun _ _ => 0
theorem hp0 {cA : Nat → ClassId} {D : va_G} {N : Nat} {ad : Nat → Nat} {H : Heap} : HP cA D ad kn0 rf0 0 N mm0 H := by
  refine ⟨fun k q h => by simp [wl] at h, ⟨fun i j p q h => by simp [wl] at h, fun k q h => by simp [wl] at h⟩, fun a h => ?_, fun a => ?_, fun a k => ?_⟩
  · have : (99 : Nat) < 90 := h
    omega
  · show (0 : Nat) < _
    omega
  · exact ⟨cl_cn cn0, fun _ => cn0⟩
set_option maxHeartbeats 4000000 in
set_option maxRecDepth 100000 in
theorem whole_of {p : Program} {e : Env} {s : State} {m : MethodId} {below : List Frame} {meth : Method} {c : Code} (l : Launch) {b L : Nat} {xs : Nat → Int32} (hL : L ≤ 3072) (C0 : lw_At p s m meth c b L xs) (Inv : Knd → Rfs → Nat → Mem → Prop) {P0 P1 S1 S2 : St} (h0 : nwO 11 (kn0, rf0, 0, mm0) = some P0) (h1 : f_X11_init P0.1 P0.2.1 P0.2.2.1 (0 + 1) P0.2.2.2 = some S1) (h2 : nwO 12 (S1.1, S1.2.1, S1.2.2.1, S1.2.2.2) = some P1) (h3 : f_X12_init P1.1 P1.2.1 P1.2.2.1 (S1.2.2.1 + 1) P1.2.2.2 = some S2) (hI : Inv S2.1 S2.2.1 S2.2.2.1 S2.2.2.2)
    (hstep : ∀ (op a1 a2 a3 a4 a5 : Int) (T : Knd) (A : Rfs) (nx : Nat) (I : Mem), cn a1 → cn a2 → cn a3 → cn a4 → cn a5 → Inv T A nx I → ∃ S3 : St, lstep (0 + 1) (S1.2.2.1 + 1) op a1 a2 a3 a4 a5 T A nx I = some S3 ∧ Inv S3.1 S3.2.1 S3.2.2.1 S3.2.2.2) : W p l e room_1 s m #[Value.ref b] below meth c s.heap [] 0 0 (lw_Z below #[Value.ref b] s) (entryFrame m ([Value.ref b] : List Value).toArray 4) := by
  obtain ⟨hx, hb, hr, hml, hown, hts, hX, hbl, hlocks, hgv⟩ := id C0
  have S0 : CallFix p m c code 4 s #[Value.ref b] gT RL := ⟨hx, hb, hml, hown, fun w h => hts w (gT_in w h)⟩
  obtain ⟨cA, D, hK⟩ := ls_K hts
  have hAX := ls_AX hts
  obtain ⟨sx, hXX⟩ := ls_XX hts hgv
  have hsc : SC s.heap.size b L xs s := ⟨hX, hbl, hbl⟩
  have hN : s.heap.size ≤ s.heap.size := Nat.le_refl _
  have hg : ∀ ad : Nat → Nat, G p l e room_1 s m #[Value.ref b] below meth c 0 0 (lw_Z below #[Value.ref b] s) cA D s.heap.size 4 ad kn0 rf0 0 0 [(0, .ref b)] [] mm0 := by
    intro ad
    have hrb : RB rf0 0 := fun a k => Nat.le_refl 0
    refine r_new (pc := 0) S0 hK nw_L_7 hN hrb (fun ad => [(0, .ref b)]) (fun ad => []) (fun ad1 h => rfl) (fun ad1 h => rfl) dL_law_0 1 18 ⟨rfl, rfl, by decide, by decide⟩ (K := fun S => some S) (fin := fun z => z = P0) ⟨P0, by rw [h0]; rfl, rfl⟩ (fun ad Sx ha n1 hrb hf => ?_)
    have hz := ok_some hf
    have hz : Sx = P0 := hz
    subst hz
    refine r_dup (pc := 3) S0 dL_law_3 rfl ?_
    refine r_cI (pc := 4) [] S0 hK hXX hAX mi_L_9 (c_X11_init l cA D s.heap.size sx ad Sx.1 Sx.2.1 Sx.2.2.1 Sx.2.2.2 (0 + 1) hrb (by omega) S1 h1) rfl rfl (fun ad => [(0, .ref b)]) (fun ad => [rv ad (0 + 1)]) (fun ad1 h => rfl) (fun ad1 h => by simp only [rv, h (0 + 1) (by omega)]) ⟨by decide, by decide⟩ (Nat.le_of_ble_eq_true rfl) 128 7306 ⟨rfl, rfl, by decide, by decide⟩ dL_law_4 (fun ad ha2 n2 hrb => ?_)
    refine r_astore_n (pc := 7) (lv' := [(1, rv ad (0 + 1)), (0, .ref b)]) S0 dL_law_7 rfl (by decide) rfl ?_
    refine r_new (pc := 8) S0 hK nw_L_10 hN hrb (fun ad => [(1, rv ad (0 + 1)), (0, .ref b)]) (fun ad => []) (fun ad1 h => by simp only [rv, h (0 + 1) (by omega)]) (fun ad1 h => rfl) dL_law_8 129 7356 ⟨rfl, rfl, by decide, by decide⟩ (K := fun S => some S) (fin := fun z => z = P1) ⟨P1, by rw [h2]; rfl, rfl⟩ (fun ad Sy ha3 n3 hrb hf => ?_)
    have hz := ok_some hf
    have hz : Sy = P1 := hz
    subst hz
    refine r_dup (pc := 11) S0 dL_law_11 rfl ?_
    refine r_cI (pc := 12) [] S0 hK hXX hAX mi_L_12 (c_X12_init l cA D s.heap.size sx ad Sy.1 Sy.2.1 Sy.2.2.1 Sy.2.2.2 (S1.2.2.1 + 1) hrb (by omega) S2 h3) rfl rfl (fun ad => [(1, rv ad (0 + 1)), (0, .ref b)]) (fun ad => [rv ad (S1.2.2.1 + 1)]) (fun ad1 h => by simp only [rv, h (0 + 1) (by omega)]) (fun ad1 h => by simp only [rv, h (S1.2.2.1 + 1) (by omega)]) ⟨by decide, by decide⟩ (Nat.le_of_ble_eq_true rfl) 153 13928 ⟨rfl, rfl, by decide, by decide⟩ dL_law_12 (fun ad ha4 n4 hrb => ?_)
    refine r_astore_n (pc := 15) (lv' := [(2, rv ad (S1.2.2.1 + 1)), (1, rv ad (0 + 1)), (0, .ref b)]) S0 dL_law_15 rfl (by decide) rfl ?_
    refine r_iconst (pc := 16) S0 dL_law_16 ?_
    refine r_istore_n (pc := 17) (lv' := [(3, iv 0), (2, rv ad (S1.2.2.1 + 1)), (1, rv ad (0 + 1)), (0, .ref b)]) S0 dL_law_17 rfl (by decide) rfl ?_
    refine r_lv [3, 2, 1, 0] rfl ?_
    exact law_loop (wx := 0 + 1) (wm := S1.2.2.1 + 1) S0 hK hXX hAX hsc hL Inv hstep (fun ad T A nx I cells slots q g1 g2 => r_iconst (pc := 1971) S0 dL_law_1971 (fun H locs ls hH hS hl => va_forget (fun q hq => hS.2.2 q hq) (W.widen (k := 600000) (n := 7302250) g1 g2 (lw_ret hx hb hr hlocks dL_law_1972)))) L 0 ad S2.1 S2.2.1 S2.2.2.1 S2.2.2.2 153 13928 (by omega) (by omega) hI hrb ⟨by omega, by omega⟩ ⟨by omega, by omega⟩ (by omega) (by omega)
  have hl := lv_entry ([.ref b]) (n := 4) (Nat.le_of_ble_eq_true rfl)
  rw [lg_entry_eq]
  generalize (lg_sl ([.ref b]) ++ List.replicate (4 - (lg_sl ([.ref b])).length) Slot.unset).toArray = ls at hl ⊢
  have hl : lv_has ls 4 [(0, .ref b)] := hl
  exact hg (fun _ => 0) s.heap [] ls hp0 va_S.rf hl
