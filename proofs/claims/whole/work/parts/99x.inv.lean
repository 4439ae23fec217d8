/-! B: what holds between two calls. -/
section
variable {T : Knd} {A : Rfs} {I J K M : Mem} {O O' : Ofc} {nx : Nat}
def Rst4 (T : Knd) (A : Rfs) (nx : Nat) (I : Mem) : Prop := TP I ∧ FT I ∧ SL I ∧ Img T A nx I
def InvB (T : Knd) (A : Rfs) (nx : Nat) (I : Mem) : Prop := ∃ O, Bas T A O I ∧ Cch O I ∧ Rst4 T A nx I
theorem rst_scr {o k : Nat} (hk : rst o k = true) : scr o k = false := by
  cases e : scr o k
  · rfl
  · exfalso
    unfold scr at e
    unfold rst at hk
    simp only [Bool.or_eq_true, Bool.and_eq_true, decide_eq_true_iff, beq_iff_eq] at e hk
    omega
theorem rst_rg {o k : Nat} (hk : rst o k = true) : ¬ (66 ≤ o ∧ o ≤ 67) ∧ ¬ (90 ≤ o ∧ o ≤ 110) ∧ ¬ (119 ≤ o ∧ o ≤ 127) := by
  unfold rst at hk
  simp only [Bool.or_eq_true, Bool.and_eq_true, decide_eq_true_iff, beq_iff_eq] at hk
  refine ⟨fun h => ?_, fun h => ?_, fun h => ?_⟩ <;> omega
theorem fx_rf (f : FX I K) : RF I K := fun o k hk => f o k (by
  have g := rst_rg hk
  unfold scx
  rw [rst_scr hk, Bool.false_or]
  simp only [Bool.or_eq_false_iff, Bool.and_eq_false_iff, decide_eq_false_iff_not]
  omega)
theorem cch_fx (c : Cch O I) (f : FX I K) : Cch O K := by
  have e : ∀ o j, o = 1 ∨ (68 ≤ o ∧ o ≤ 89) → K o j = I o j := fun o j ho => f o j (by
    unfold scx
    rw [scr_lt (by omega), Bool.false_or]
    simp only [Bool.or_eq_false_iff, Bool.and_eq_false_iff, decide_eq_false_iff_not]
    omega)
  exact ⟨soon_ag c.1 (fun o j h1 h2 => e o j (by omega)), evry_ag c.2.1 (fun o j h1 h2 => e o j (by omega)), star_ag c.2.2 (fun j => e 1 j (Or.inl rfl))⟩
theorem mw_ag2 {s : Nat} (hm : MW O s I) (e : ∀ o k, 135 ≤ o → o ≤ 141 → J o k = I o k) : MW O s J := by
  obtain ⟨q1, q2, q3, q4, q5, q6, q7⟩ := hm
  exact ⟨by rw [e _ _ (by omega) (by omega)]; exact q1, fun k hk => by rw [e _ _ (by omega) (by omega)]; exact q2 k hk, fun k hk => by rw [e _ _ (by omega) (by omega)]; exact q3 k hk, fun w o hw ho => by rw [e _ _ (by omega) (by omega)]; exact q4 w o hw ho, fun o ho => by rw [e _ _ (by omega) (by omega)]; exact q5 o ho, fun o ho => by rw [e _ _ (by omega) (by omega)]; exact q6 o ho, fun r c hr hc => by rw [e _ _ (by omega) (by omega)]; exact q7 r c hr hc⟩
theorem img_o (g : Img T A nx I) (f : ∀ o k, rst o k = true → 135 ≤ o → K o k = I o k) : Img T A nx K := by
  obtain ⟨g1, g2, g3⟩ := g
  refine ⟨g1, fun k hk => ?_, g3⟩
  have e142 : K 142 k = I 142 k := f _ _ (by unfold rst; simp) (by omega)
  rw [e142]
  rcases g2 k hk with z | ⟨Q, q1, q2, q3, q4, q5, q6, q7, q8⟩
  · exact Or.inl z
  · refine Or.inr ⟨Q, q1, q2, q3, q4, cvp_ag q5 (fun o k h1 h2 => f o k (rst_154 (by omega)) (by omega)), ?_, q7, q8⟩
    have hn := wf_n q7
    have h6 := q7.2.2.2.2.2.2.1
    have e' : ∀ o k, ((o = 135 ∧ 1 ≤ k ∧ k < 4) ∨ (o = 136 ∧ 6 ≤ k ∧ k < 24) ∨ (o = 137 ∧ 72 ≤ k ∧ k < 288) ∨ ((o = 138 ∨ o = 139) ∧ 8 ≤ k ∧ k < 32) ∨ (o = 140 ∧ 36 ≤ k ∧ k < 144) ∨ (o = 141 ∧ 40 ≤ k ∧ k < 160)) → K o k = I o k := fun o k hh => f o k (rst_sl hh) (by omega)
    obtain ⟨m1, m2, m3, m4, m5, m6, m7⟩ := q6
    refine ⟨?_, fun x hx => ?_, fun x hx => ?_, fun w o hw ho => ?_, fun o ho => ?_, fun o ho => ?_, fun r c hr hc => ?_⟩
    · rw [e' _ _ (by omega)]; exact m1
    · rw [e' _ _ (by omega)]; exact m2 x hx
    · rw [e' _ _ (by omega)]; exact m3 x hx
    · rw [e' _ _ (by omega)]; exact m4 w o hw ho
    · rw [e' _ _ (by omega)]; exact m5 o ho
    · rw [e' _ _ (by omega)]; exact m6 o ho
    · rw [e' _ _ (by omega)]; exact m7 r c hr hc
theorem tp_o (t : TP I) (e : ∀ o k, (o = 129 ∧ k = 6) ∨ o = 2 ∨ o = 3 ∨ o = 134 → K o k = I o k) : TP K := by
  obtain ⟨t1, t2, t3⟩ := t
  have e1 := e 129 6 (by omega)
  have e2 := e 2 1 (by omega)
  refine ⟨by rw [e1, e2]; exact t1, by rw [e2]; exact t2, fun x hx => ?_⟩
  rw [e2] at hx
  rw [e 134 x (by omega), e 3 x (by omega)]; exact t3 x hx
theorem ft_o (t : FT I) (e : ∀ o k, (o = 129 ∧ (k = 14 ∨ k = 15)) ∨ (o = 4 ∧ (k = 2 ∨ k = 3)) → K o k = I o k) : FT K :=
  ⟨by rw [e 129 14 (by omega), e 4 2 (by omega)]; exact t.1, by rw [e 129 15 (by omega), e 4 3 (by omega)]; exact t.2⟩
theorem r4_rf (r : Rst4 T A nx I) (f : RF I K) : Rst4 T A nx K := by
  obtain ⟨t, u, s, g⟩ := r
  refine ⟨tp_o t (fun o k h => f o k ?_), ft_o u (fun o k h => f o k ?_), sl_ag (fun o k h => f o k ?_) s, img_o g (fun o k h _ => f o k h)⟩
  · rcases h with ⟨rfl, rfl⟩ | rfl | rfl | rfl
    · rfl
    · rfl
    · rfl
    · unfold rst; simp
  · rcases h with ⟨rfl, rfl | rfl⟩ | ⟨rfl, rfl | rfl⟩ <;> rfl
  · unfold rst
    simp only [Bool.or_eq_true, Bool.and_eq_true, decide_eq_true_iff, beq_iff_eq]
    rcases h with h | h
    · simp only [show 111 ≤ o by omega, show o ≤ 118 by omega, and_self, or_true, true_or]
    · rcases (show o = 130 ∨ o = 131 ∨ o = 132 by omega) with z | z | z <;> simp only [z, or_true, true_or]
theorem ss_sq (s : Sq O O') (e5 : O' 0 5 = O 0 5) : ∀ h, ss O' h = ss O h := by
  have edn : ∀ W, dn O' W = dn O W := fun W => by unfold dn; rw [sq_hset s, e5]
  have emg : ∀ W u i, mayg O' W u i = mayg O W u i := fun W u i => by unfold mayg; rw [sq_stp s]
  have eo : oN O' = oN O := by unfold oN; rw [s.2 4 (by omega)]
  have elv : ∀ f W p n u, lv O' f W p n u = lv O f W p n u := by
    intro f
    induction f with
    | zero => intro W p n u; rfl
    | succ f ih =>
      intro W p n u
      have ec : chl O' f W p n u = chl O f W p n u := by
        funext i
        unfold chl
        rw [emg, sq_stp s, sq_goS s, ih]
      rw [lv_s, lv_s, edn, eo, ec]
  have esv : ∀ h, sval O' h = sval O h := fun h => by
    unfold sval LV h0s
    rw [sq_st0 s, sq_hset s, elv]
  intro h
  induction h with
  | zero => rfl
  | succ h ih => rw [ss, ss, esv, ih]
theorem out_cch (c : Cch O I) (o : Out O I O' K) : Cch O' K := by
  rcases o with ⟨rfl, f⟩ | ⟨h1, h2, h3, _⟩
  · exact cch_fr c f
  · refine ⟨Or.inl h1, Or.inl h2, ?_⟩
    rcases h3 with h3 | ⟨s, e5, k1, k2, k3⟩
    · exact Or.inl h3
    · unfold StarC
      rw [ss_sq s e5, k1, k2, k3]
      exact c.2.2
theorem out_rf (o : Out O I O' K) : RF I K := by
  rcases o with ⟨_, f⟩ | ⟨_, _, _, f⟩
  · exact rf_fr f
  · exact f
abbrev Nxt (r : Option St) : Prop := ∃ S3 : St, r = some S3 ∧ InvB S3.1 S3.2.1 S3.2.2.1 S3.2.2.2
theorem st_q {cx : Option Int} {mx : Option (Int × Mem)} (b : Bas T A O I) (c : Cch O I) (r : Rst4 T A nx I) (q : Quiet cx mx I) : Nxt (cx.bind fun e1 => mx.bind fun e2 => if e1 = e2.1 then some (T, A, nx, e2.2) else none) := by
  obtain ⟨v, K, e1, e2, f⟩ := q
  subst e1 e2
  exact ⟨(T, A, nx, K), if_pos rfl, O, bas_fr b f, cch_fr c f, r4_rf r (rf_fr f)⟩
theorem st_k {cx : Option (Int × Mem)} {mx : Mem → Option (Int × Mem)} {v : Int} (e1 : cx = some (v, J)) (e2 : mx J = some (v, K)) (i : InvB T A nx K) : Nxt (cx.bind fun e1 => (mx e1.2).bind fun e2 => if e1.1 = e2.1 then some (T, A, nx, e2.2) else none) := by
  refine ⟨(T, A, nx, K), ?_, i⟩
  subst e1
  show ((mx J).bind fun e2 => if v = e2.1 then some (T, A, nx, e2.2) else none) = _
  rw [e2]
  exact if_pos rfl
theorem st_2 {cx : Option (Int × Mem)} {mx : Mem → Option (Int × Mem)} (b : Bas T A O I) (c : Cch O I) (r : Rst4 T A nx I) (q : Quiet2 cx mx I) : Nxt (cx.bind fun e1 => (mx e1.2).bind fun e2 => if e1.1 = e2.1 then some (T, A, nx, e2.2) else none) := by
  obtain ⟨v, J, K, e1, e2, f⟩ := q
  exact st_k e1 e2 ⟨O, bas_fx b f, cch_fx c f, r4_rf r (fx_rf f)⟩
theorem st_s {cx : Option (Int × Mem)} {mx : Mem → Option (Int × Mem)} (r : Rst4 T A nx I) (q : Qs T A O I cx mx) : Nxt (cx.bind fun e1 => (mx e1.2).bind fun e2 => if e1.1 = e2.1 then some (T, A, nx, e2.2) else none) := by
  obtain ⟨v, J, K, e1, e2, b, c, f⟩ := q
  exact st_k e1 e2 ⟨O, b, c, r4_rf r f⟩
theorem st_o {cx : Option (Int × Mem)} {mx : Mem → Option (Int × Mem)} (c : Cch O I) (r : Rst4 T A nx I) (q : ∃ v J K O', cx = some (v, J) ∧ mx J = some (v, K) ∧ Bas T A O' K ∧ Out O I O' K) : Nxt (cx.bind fun e1 => (mx e1.2).bind fun e2 => if e1.1 = e2.1 then some (T, A, nx, e2.2) else none) := by
  obtain ⟨v, J, K, O', e1, e2, b, f⟩ := q
  exact st_k e1 e2 ⟨O', b, out_cch c f, r4_rf r (out_rf f)⟩
theorem st_t {cx : Option (Int × Mem)} {mx : Mem → Option (Int × Mem)} (b : Bas T A O I) (c : Cch O I) (r : Rst4 T A nx I) (q : ∃ v J K, cx = some (v, J) ∧ mx J = some (v, K) ∧ TP K ∧ Ftp I K) : Nxt (cx.bind fun e1 => (mx e1.2).bind fun e2 => if e1.1 = e2.1 then some (T, A, nx, e2.2) else none) := by
  obtain ⟨v, J, K, e1, e2, t, f⟩ := q
  obtain ⟨_, u, s, g⟩ := r
  obtain ⟨b1, wf, hc, hm, lg, ht, hn, kw, hq⟩ := b
  have e : ∀ o j, o ≠ 2 → o ≠ 3 → ¬ (o = 129 ∧ (j = 0 ∨ j = 6)) → o ≠ 134 → K o j = I o j := fun o j h1 h2 h3 h4 => f o j (fun z => h1 z.1) h2 h3 h4
  exact st_k e1 e2 ⟨O, ⟨b1, wf, cv_ag hc (fun o j h1 h2 => e o j (by omega) (by omega) (by omega) (by omega)), mw_ag2 hm (fun o j h1 h2 => e o j (by omega) (by omega) (by omega) (by omega)), lg, tw_ag wf ht (fun o j h1 h2 => e o j (by omega) (by omega) (by omega) (by omega)), tn_ag wf hn (fun o j h1 h2 => e o j (by omega) (by omega) (by omega) (by omega)), cw_ag kw (fun o j h1 => e o j (by omega) (by omega) (by omega) (by omega)), by rw [e 129 31 (by omega) (by omega) (by omega) (by omega)]; exact hq⟩, ⟨soon_ag c.1 (fun o j h1 h2 => e o j (by omega) (by omega) (by omega) (by omega)), evry_ag c.2.1 (fun o j h1 h2 => e o j (by omega) (by omega) (by omega) (by omega)), star_ag c.2.2 (fun j => e 1 j (by omega) (by omega) (by omega) (by omega))⟩, t, ft_o u (fun o k h => e o k (by omega) (by omega) (by omega) (by omega)), sl_ag (fun o k h => e o k (by omega) (by omega) (by omega) (by omega)) s, img_o g (fun o k _ h => e o k (by omega) (by omega) (by omega) (by omega))⟩
theorem st_l {cx : Option (Int × Mem)} {mx : Mem → Option (Int × Mem)} (b : Bas T A O I) (c : Cch O I) (r : Rst4 T A nx I) (q : ∃ v J K, cx = some (v, J) ∧ mx J = some (v, K) ∧ SL K ∧ Fsl I K) : Nxt (cx.bind fun e1 => (mx e1.2).bind fun e2 => if e1.1 = e2.1 then some (T, A, nx, e2.2) else none) := by
  obtain ⟨v, J, K, e1, e2, s, f⟩ := q
  obtain ⟨t, u, _, g⟩ := r
  have e : ∀ o j, o < 113 ∨ 133 < o ∨ (o = 129 ∧ j ≠ 0) → K o j = I o j := fun o j h => f o j (by omega) (by omega) (by omega) (by omega) (by omega) (by omega)
  exact st_k e1 e2 ⟨O, bas_ag b (fun o j h => e o j (by omega)), ⟨soon_ag c.1 (fun o j h1 h2 => e o j (by omega)), evry_ag c.2.1 (fun o j h1 h2 => e o j (by omega)), star_ag c.2.2 (fun j => e 1 j (by omega))⟩, tp_o t (fun o k h => e o k (by omega)), ft_o u (fun o k h => e o k (by omega)), s, img_o g (fun o k _ h => e o k (by omega))⟩
theorem st_f {cx : Option (Int × Mem)} {mx : Mem → Option (Int × Mem)} (r : Rst4 T A nx I) (q : ∃ v J K O', cx = some (v, J) ∧ mx J = some (v, K) ∧ Bas T A O' K ∧ Cch O' K ∧ TP K ∧ FT K ∧ ∀ o k, rst o k = true → 111 ≤ o → o ≠ 129 → K o k = I o k) : Nxt (cx.bind fun e1 => (mx e1.2).bind fun e2 => if e1.1 = e2.1 then some (T, A, nx, e2.2) else none) := by
  obtain ⟨v, J, K, O', e1, e2, b, c, t, u, f⟩ := q
  obtain ⟨_, _, s, g⟩ := r
  refine st_k e1 e2 ⟨O', b, c, t, u, sl_ag (fun o k h => f o k ?_ (by omega) (by omega)) s, img_o g (fun o k h h' => f o k h (by omega) (by omega))⟩
  unfold rst
  simp only [Bool.or_eq_true, Bool.and_eq_true, decide_eq_true_iff, beq_iff_eq]
  rcases h with h | h
  · simp only [show 111 ≤ o by omega, show o ≤ 118 by omega, and_self, or_true, true_or]
  · rcases (show o = 130 ∨ o = 131 ∨ o = 132 by omega) with z | z | z <;> simp only [z, or_true, true_or]
theorem st_b {cx : Option (Int × Mem)} {mx : Mem → Option (Int × Mem)} (r : Rst4 T A nx I) (q : ∃ v J K O', cx = some (v, J) ∧ mx J = some (v, K) ∧ Bas T A O' K ∧ Cch O' K ∧ RF I K) : Nxt (cx.bind fun e1 => (mx e1.2).bind fun e2 => if e1.1 = e2.1 then some (T, A, nx, e2.2) else none) := by
  obtain ⟨v, J, K, O', e1, e2, b, c, f⟩ := q
  exact st_k e1 e2 ⟨O', b, c, r4_rf r f⟩
theorem st_p {a1 : Int} (q : ∃ v T' A' nx' J K, f_X11_keep T A nx 1 a1 I = some (v, T', A', nx', J) ∧ f_X12_keep T' A' 129 a1 J = some (v, K) ∧ Bas T' A' O K ∧ Cch O K ∧ TP K ∧ FT K ∧ SL K ∧ Img T' A' nx' K) : Nxt ((f_X11_keep T A nx 1 a1 I).bind fun e1 => (f_X12_keep e1.2.1 e1.2.2.1 129 a1 e1.2.2.2.2).bind fun e2 => if e1.1 = e2.1 then some (e1.2.1, e1.2.2.1, e1.2.2.2.1, e2.2) else none) := by
  obtain ⟨v, T', A', nx', J, K, e1, e2, b, c, t, u, s, g⟩ := q
  refine ⟨(T', A', nx', K), ?_, O, b, c, t, u, s, g⟩
  rw [e1]
  show ((f_X12_keep T' A' 129 a1 J).bind fun e2 => if v = e2.1 then some (T', A', nx', e2.2) else none) = _
  rw [e2]
  exact if_pos rfl
end
