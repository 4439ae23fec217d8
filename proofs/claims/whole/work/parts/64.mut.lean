/-! B: the calls that move, or change the permit, the needs, the leave. -/
section
variable {T : Knd} {A : Rfs} {O O' : Ofc} {I J K : Mem} {W : Wkr}
theorem cv_ag {P : Nat} (h : CV O P I) (e : ∀ o k, P ≤ o → o ≤ P + 20 → J o k = I o k) : CV O P J := by
  refine ⟨fun k hk => ?_, fun k hk => ?_, fun w o hw ho => ?_, fun r c hr hc => ?_⟩
  · rw [e _ _ (by omega) (by omega)]; exact h.1 k hk
  · rw [e _ _ (by omega) (by omega)]; exact h.2.1 k hk
  · rw [e _ _ (by omega) (by omega)]; exact h.2.2.1 w o hw ho
  · rw [e _ _ (by omega) (by omega)]; exact h.2.2.2 r c hr hc
theorem tw_ag (wf : WF O) (h : TW O I) (e : ∀ o k, 49 ≤ o → o ≤ 54 → J o k = I o k) : TW O J := fun r c hr hc => by
  have := wf.2.1
  rw [e _ _ (by omega) (by omega)]; exact h r c hr hc
theorem tn_ag (wf : WF O) (h : TN O I) (e : ∀ o k, 56 ≤ o → o ≤ 63 → J o k = I o k) : TN O J := fun o k ho hk => by
  have := wf_n wf
  rw [e _ _ (by omega) (by omega)]; exact h o k ho hk
theorem cw_ag {w : Nat} (h : CW W w I) (e : ∀ o k, (o = w ∨ o = w + 1) → J o k = I o k) : CW W w J := by
  obtain ⟨⟨h1, h2, h3, h4⟩, h5⟩ := h
  refine ⟨⟨?_, ?_, ?_, ?_⟩, fun o ho => ?_⟩
  · rw [e _ _ (by omega)]; exact h1
  · rw [e _ _ (by omega)]; exact h2
  · rw [e _ _ (by omega)]; exact h3
  · rw [e _ _ (by omega)]; exact h4
  · rw [e _ _ (by omega)]; exact h5 o ho
theorem mv_m (O : Ofc) (n : Int) (i : Nat) (v : Int) : mvO O n i v 0 6 = n := by unfold mvO; rw [if_pos ⟨rfl, rfl⟩]
theorem mv_1 (O : Ofc) (n : Int) (i : Nat) (v : Int) (k : Nat) : mvO O n i v 1 k = if k = i then v else O 1 k := by
  unfold mvO
  rw [if_neg (by omega)]
  by_cases c : k = i
  · rw [if_pos ⟨rfl, c⟩, if_pos c]
  · rw [if_neg (by omega), if_neg c]
theorem mv_p (O : Ofc) (n : Int) (i : Nat) (v : Int) {k : Nat} (hk : k ≠ 6) : mvO O n i v 0 k = O 0 k := by
  unfold mvO
  rw [if_neg (by omega), if_neg (by omega)]
theorem cv_mv {n v : Int} {i : Nat} (hc : CV O 26 I) (e6 : J 26 6 = n) (e1 : ∀ k : Nat, (k : Int) < n → J 27 k = if k = i then v else O 1 k) (ea : ∀ o k, 26 ≤ o → o ≤ 46 → ¬ (o = 26 ∧ k = 6) → o ≠ 27 → J o k = I o k) : CV (mvO O n i v) 26 J := by
  refine ⟨fun k hk => ?_, fun k hk => ?_, fun w o hw ho => ?_, fun r c hr hcc => ?_⟩
  · unfold mvO
    by_cases c : k = 6
    · subst c; rw [if_pos ⟨rfl, rfl⟩]; exact e6
    · rw [if_neg (by omega), if_neg (by omega), ea _ _ (by omega) (by omega) (by omega) (by omega)]; exact hc.1 k hk
  · have hk' : (k : Int) < n := by
      have e : mvO O n i v 0 6 = n := by unfold mvO; rw [if_pos ⟨rfl, rfl⟩]
      rw [e] at hk; exact hk
    rw [e1 k hk', mv_1]
  · have ho' : (o : Int) < O 0 4 := by rw [(sq_mv O n i v).2 4 (by omega)] at ho; exact ho
    rw [(sq_mv O n i v).1 _ _ (by omega), ea _ _ (by omega) (by omega) (by omega) (by omega)]; exact hc.2.2.1 w o hw ho'
  · rw [(sq_mv O n i v).1 _ _ (by omega), ea _ _ (by omega) (by omega) (by omega) (by omega)]; exact hc.2.2.2 r c hr hcc
theorem mw_mv {n v : Int} {i : Nat} (hm : MW O 0 I) (e6 : J 136 5 = n) (e1 : ∀ k : Nat, (k : Int) < n → J 141 k = if k = i then v else O 1 k) (ea : ∀ o k, 134 ≤ o → o ≤ 142 → ¬ (o = 136 ∧ k = 5) → o ≠ 141 → J o k = I o k) : MW (mvO O n i v) 0 J := by
  have s := sq_mv O n i v
  obtain ⟨h1, h2, h3, h4, h5, h6, h7⟩ := hm
  refine ⟨?_, fun k hk => ?_, fun k hk => ?_, fun w o hw ho => ?_, fun o ho => ?_, fun o ho => ?_, fun r c hr hc => ?_⟩
  · rw [s.2 0 (by omega), ea _ _ (by omega) (by omega) (by omega) (by omega)]; exact h1
  · by_cases c : k = 5
    · subst c
      rw [show 6 * 0 + 5 = 5 from rfl, e6]
      unfold mvO; rw [if_pos ⟨rfl, rfl⟩]
    · rw [mv_p _ _ _ _ (by omega), ea _ _ (by omega) (by omega) (by omega) (by omega)]; exact h2 k hk
  · have hk' : (k : Int) < n := by
      have e : mvO O n i v 0 6 = n := by unfold mvO; rw [if_pos ⟨rfl, rfl⟩]
      rw [e] at hk; exact hk
    rw [show 40 * 0 + k = k by omega, e1 k hk', mv_1]
  · rw [s.2 4 (by omega)] at ho
    rw [s.1 _ _ (by omega), ea _ _ (by omega) (by omega) (by omega) (by omega)]; exact h4 w o hw ho
  · rw [s.2 4 (by omega)] at ho
    rw [s.1 _ _ (by omega), ea _ _ (by omega) (by omega) (by omega) (by omega)]; exact h5 o ho
  · rw [s.2 4 (by omega)] at ho
    rw [s.1 _ _ (by omega), ea _ _ (by omega) (by omega) (by omega) (by omega)]; exact h6 o ho
  · rw [s.1 _ _ (by omega), ea _ _ (by omega) (by omega) (by omega) (by omega)]; exact h7 r c hr hc
theorem sq_okS (s : Sq O O') (x : Int) : okS O' W x ↔ okS O W x := by
  unfold okS
  rw [sq_stp s, s.2 4 (by omega)]
theorem lg_push (wf : WF O) (g : LG O) {x : Int} (hx : okS O (Wn O) x) : LG (mvO O (O 0 6 + 1) (O 0 6).toNat x) ∧ Wn (mvO O (O 0 6 + 1) (O 0 6).toNat x) = stepS O (Wn O) x := by
  have h6 := wf.2.2.2.2.2.2.1
  have s := sq_mv O (O 0 6 + 1) (O 0 6).toNat x
  have er : ∀ k : Nat, (k : Int) ≤ O 0 6 → rep (mvO O (O 0 6 + 1) (O 0 6).toNat x) k = rep O k := fun k hk => sq_rep s k (fun j hj => by rw [mv_1, if_neg (by omega)])
  refine ⟨fun k hk => ?_, ?_⟩
  · rw [mv_m] at hk
    rw [er k (by omega), sq_okS s, mv_1]
    by_cases c : k = (O 0 6).toNat
    · rw [if_pos c, c]; exact hx
    · rw [if_neg c]; exact g k (by omega)
  · unfold Wn
    rw [mv_m, show (O 0 6 + 1).toNat = (O 0 6).toNat + 1 by omega]
    show stepS _ (rep _ _) _ = _
    rw [er _ (by omega), sq_step s, mv_1, if_pos rfl]
theorem lg_pop (g : LG O) {n : Int} (h1 : n ≤ O 0 6) (h2 : n ≤ 40) : LG (mvO O n 40 0) := by
  have s := sq_mv O n 40 0
  intro k hk
  rw [mv_m] at hk
  rw [sq_rep s k (fun j hj => by rw [mv_1, if_neg (by omega)]), sq_okS s, mv_1, if_neg (by omega)]
  exact g k (by omega)
theorem lays_at (h : Ag T A) (wf : WF O) (hl : 0 < O 0 0) (g : LG O) (hm : MW O 0 J) (hq : J 129 31 = 0) : ∃ K, f_X12_lays T A 129 (mu J 129 0 0) = some K ∧ FmX (mu J 129 0 0) K ∧ MWk (Wn O) K ∧ Far O K ∧ MW O 0 K ∧ TK ntk K ∧ K 129 31 = 0 := by
  have hm0 := mw_fr hm (fr_0 J)
  have t0 : mu J 129 0 0 129 31 = 0 := by rw [mu_o _ _ (by omega)]; exact hq
  obtain ⟨K, e, f, k', d⟩ := m_laysAll h wf hl g hm0 (tk_0 t0)
  exact ⟨K, e, f, k', d, mw_fmx hm0 f, tk_fmx (tk_0 t0) f, by rw [f 129 31 (by omega) (by omega) (by omega)]; exact t0⟩
theorem c_note (h : Ag T A) (wf : WF O) (hc : CV O 26 I) (x : Int) : f_X2_noteMove T A 26 x I = if O 0 6 < 40 then some (1, mu (mu I 27 (O 0 6).toNat x) 26 6 (O 0 6 + 1)) else some (0, I) := by
  have h6 := wf.2.2.2.2.2.2.1
  unfold f_X2_noteMove
  simp only [agPl h, if_true, some_bind, cv_moved hc]
  rw [if_neg (by omega)]
  by_cases c : O 0 6 < 40
  · rw [if_pos c, if_pos (by omega), some_bind, mu_o _ _ (by omega), cv_moved hc, ia_eq (by omega) (by omega), if_pos c]
  · rw [if_neg c, if_neg c]
theorem s_go (b : Bas T A O I) (a1 : Int) : ∃ v J K O', f_X11_go T A 1 a1 I = some (v, J) ∧ f_X12_go T A 129 a1 J = some (v, K) ∧ Bas T A O' K ∧ Out O I O' K := by
  have b' := b
  obtain ⟨h, wf, hc, hm, g, ht, hn, k, hq⟩ := b
  have hn8 := wf_n wf
  have h6 := wf.2.2.2.2.2.2.1
  have g24 : gr T A 12 17 129 = some 136 := by simp only [agMg h]
  have g22 : gr T A 12 22 129 = some 141 := by simp only [agMg h]
  unfold f_X11_go f_X12_go
  simp only [agX h, agMg h, if_true, some_bind, c_has h wf hc]
  by_cases c : 0 ≤ a1 ∧ a1 < O 0 4
  · have hl := n_lines wf c
    have s := wn_ws wf hl g
    obtain ⟨o, rfl⟩ := Int.eq_ofNat_of_zero_le c.1
    have ho : (o : Int) < O 0 4 := c.2
    simp only [if_pos c, n10, if_false, c_stamp h (wk_64 h) wf hc ht hn k s ho, some_bind, c_note h wf hc]
    by_cases c1 : stp O ntk (Wn O) o = -1
    · obtain ⟨K, e, f, k', d, hmK, tK, qK⟩ := lays_at h wf hl g hm hq
      simp only [if_pos c1]
      refine ⟨-5, I, K, O, rfl, ?_, bas_fr b' (fr_t (fr_0 I) (fmx_fr f)), Or.inl ⟨rfl, fr_t (fr_0 I) (fmx_fr f)⟩⟩
      rw [m_isOfficial h wf (mw_fr hm (fr_0 I)), some_bind, if_pos c]
      simp only [n10, if_false, e, some_bind, m_stamps h wf hmK k' d s tK ho, if_pos c1]
    · simp only [if_neg c1]
      by_cases c2 : O 0 6 < 40
      · have hr := stp_rg wf s ho c1
        have s0 := s.1
        simp only [if_pos c2, some_bind, n10, if_false]
        obtain ⟨O', eO⟩ : ∃ O', O' = mvO O (O 0 6 + 1) (O 0 6).toNat (o : Int) := ⟨_, rfl⟩
        have sq : Sq O O' := by rw [eO]; exact sq_mv _ _ _ _
        have hp : O' 0 5 = O 0 5 := by rw [eO]; unfold mvO; rw [if_neg (by omega), if_neg (by omega)]
        have hO6 : O' 0 6 = O 0 6 + 1 := by rw [eO]; exact mv_m _ _ _ _
        have wf' : WF O' := sq_wf sq wf (by rw [hp]; exact wf.2.2.2.2.2.1) (by omega) (fun e => by omega)
        have hx : okS O (Wn O) (o : Int) := Or.inl ⟨by omega, ho, by rw [Int.toNat_natCast]; exact c1⟩
        have lg := lg_push wf g hx
        rw [← eO] at lg
        obtain ⟨J1, eJ⟩ : ∃ J1, J1 = mu (mu I 27 (O 0 6).toNat (o : Int)) 26 6 (O 0 6 + 1) := ⟨_, rfl⟩
        have hc1 : CV O' 26 J1 := by
          rw [eO]
          refine cv_mv hc (by rw [eJ, mu_s]) (fun k hk => ?_) (fun a b h1 h2 h3 h4 => ?_)
          · rw [eJ, mu_o _ _ (by omega)]
            by_cases q : k = (O 0 6).toNat
            · rw [q, mu_s, if_pos rfl]
            · rw [mu_o _ _ (by omega), if_neg q]; exact hc.2.1 k (by omega)
          · rw [eJ, mu_o _ _ (by omega), mu_o _ _ (by omega)]
        have ag1 : ∀ a b, ¬ (a = 26 ∧ b = 6) → a ≠ 27 → J1 a b = I a b := fun a b h1 h2 => by rw [eJ, mu_o _ _ (by omega), mu_o _ _ (by omega)]
        have ht1 : TW O' J1 := sq_tw sq (tw_ag wf ht (fun a b h1 h2 => ag1 a b (by omega) (by omega)))
        have hk1 : CW (Wn O) 64 J1 := cw_ag k (fun a b h1 => ag1 a b (by omega) (by omega))
        have s' : WS O' (Wn O) := by
          refine ⟨s.1, ?_, fun i => ?_⟩
          · rw [sq.2 1 (by omega)]; exact s.2.1
          · rw [sq.2 4 (by omega)]; exact s.2.2 i
        rw [← eJ]
        obtain ⟨J2, e2, f2, k2⟩ := c_stampIn h (wk_64 h) (by decide) wf' hc1 ht1 hk1 s' (by rw [sq.2 4 (by omega)]; exact ho) (by rw [sq_wlk sq]; exact hr.2.2.2.1) (x := stp O ntk (Wn O) o) (by omega) (by omega)
        simp only [e2, some_bind, c_forgetRows h]
        obtain ⟨J3, eJ3⟩ : ∃ J3, J3 = mu (mu J2 68 6 0) 79 6 0 := ⟨_, rfl⟩
        rw [← eJ3]
        have ag3 : ∀ a b, ¬ (a = 26 ∧ b = 6) → a ≠ 27 → a ≠ 64 → a ≠ 65 → ¬ ((a = 68 ∨ a = 79) ∧ b = 6) → J3 a b = I a b := fun a b h1 h2 h3 h4 h5 => by
          rw [eJ3, mu_o _ _ (by omega), mu_o _ _ (by omega), f2 a b (by omega), ag1 a b h1 h2]
        have hm3 : MW O 0 J3 := mw_ag hm (fun a b h1 h2 => ag3 a b (by omega) (by omega) (by omega) (by omega) (by omega))
        obtain ⟨K, e, f, k', d, hmK, tK, qK⟩ := lays_at h wf hl g hm3 (by rw [ag3 _ _ (by omega) (by omega) (by omega) (by omega) (by omega)]; exact hq)
        have hm4 : MW O 0 (mu K 141 (O 0 6).toNat (o : Int)) := by
          obtain ⟨q1, q2, q3, q4, q5, q6, q7⟩ := hmK
          refine ⟨?_, fun k hk => ?_, fun k hk => ?_, fun w o hw ho => ?_, fun o ho => ?_, fun o ho => ?_, fun r c hr hc => ?_⟩
          · rw [mu_o _ _ (by omega)]; exact q1
          · rw [mu_o _ _ (by omega)]; exact q2 k hk
          · rw [mu_o _ _ (by omega)]; exact q3 k hk
          · rw [mu_o _ _ (by omega)]; exact q4 w o hw ho
          · rw [mu_o _ _ (by omega)]; exact q5 o ho
          · rw [mu_o _ _ (by omega)]; exact q6 o ho
          · rw [mu_o _ _ (by omega)]; exact q7 r c hr hc
        obtain ⟨L, eL⟩ : ∃ L, L = mu (mu K 141 (O 0 6).toNat (o : Int)) 136 5 (O 0 6 + 1) := ⟨_, rfl⟩
        have agL : ∀ a b, a < 129 → L a b = J3 a b := fun a b hab => by
          rw [eL, mu_o _ _ (by omega), mu_o _ _ (by omega), f a b (by omega) (by omega) (by omega), mu_o _ _ (by omega)]
        have hmL : MW O' 0 L := by
          rw [eO]
          refine mw_mv hmK (by rw [eL, mu_s]) (fun k hk => ?_) (fun a b h1 h2 h3 h4 => ?_)
          · rw [eL, mu_o _ _ (by omega)]
            by_cases q : k = (O 0 6).toNat
            · rw [q, mu_s, if_pos rfl]
            · rw [mu_o _ _ (by omega), if_neg q]
              have := hmK.2.2.1 k (by omega)
              rwa [show 40 * 0 + k = k by omega] at this
          · rw [eL, mu_o _ _ (by omega), mu_o _ _ (by omega)]
        refine ⟨_, J3, L, O', rfl, ?_, ⟨h, wf', cv_ag hc1 (fun a b h1 h2 => ?_), hmL, lg.1, ?_, ?_, ?_, ?_⟩, Or.inr ⟨?_, ?_, Or.inr ⟨sq, hp, ?_, ?_, ?_⟩, ?_⟩⟩
        · rw [m_isOfficial h wf (mw_fr hm3 (fr_0 J3)), some_bind, if_pos c]
          simp only [n10, if_false, e, some_bind, m_stamps h wf hmK k' d s tK ho, if_neg c1, m_h5 h hmK]
          rw [if_neg (show ¬ O 0 6 = 40 by omega)]
          rw [show ∀ v, sto T 20 141 (O 0 6) v K = some (mu K 141 (O 0 6).toNat v) from fun v => by rw [ev_sto (kT_141 h), if_pos (by omega)], some_bind]
          rw [m_h5 h hm4, some_bind, ia_eq (by omega) (by omega), show ∀ v (L : Mem), sto T 20 136 5 v L = some (mu L 136 5 v) from fun v L => by rw [ev_sto (kT_136 h), if_pos (by decide)]; rfl, some_bind]
          rw [eL]
        · rw [agL _ _ (by omega), eJ3, mu_o _ _ (by omega), mu_o _ _ (by omega), f2 a b (by omega)]
        · exact tw_ag wf' ht1 (fun a b h1 h2 => by rw [agL _ _ (by omega), eJ3, mu_o _ _ (by omega), mu_o _ _ (by omega), f2 a b (by omega)])
        · refine tn_ag wf' (sq_tn sq hn) (fun a b h1 h2 => by rw [agL _ _ (by omega), ag3 _ _ (by omega) (by omega) (by omega) (by omega) (by omega)])
        · rw [lg.2]
          have e5 : stepS O (Wn O) (o : Int) = goS O' (Wn O) o (stp O ntk (Wn O) o) := by
            unfold stepS
            rw [if_pos (by omega), Int.toNat_natCast, sq_goS sq]
          rw [e5]
          exact cw_ag k2 (fun a b h1 => by rw [agL _ _ (by omega), eJ3, mu_o _ _ (by omega), mu_o _ _ (by omega)])
        · rw [eL, mu_o _ _ (by omega), mu_o _ _ (by omega)]; exact qK
        · rw [agL _ _ (by omega), eJ3, mu_o _ _ (by omega), mu_s]
        · rw [agL _ _ (by omega), eJ3, mu_s]
        · rw [agL _ _ (by omega), ag3 _ _ (by omega) (by omega) (by omega) (by omega) (by omega)]
        · rw [agL _ _ (by omega), ag3 _ _ (by omega) (by omega) (by omega) (by omega) (by omega)]
        · rw [agL _ _ (by omega), ag3 _ _ (by omega) (by omega) (by omega) (by omega) (by omega)]
        · rw [eL, eJ3] at *
          have r1 : RF I J1 := by
            rw [eJ]
            exact rf_mu (rf_mu (rf_r I) (rst_w (by omega) (by omega))) (rst_w (by omega) (by omega))
          have r2 : RF I J2 := rf_t r1 (rf_fo f2 (fun o k h1 h2 => rst_w (by omega) (by omega)))
          have r3 : RF I (mu (mu J2 68 6 0) 79 6 0) := rf_mu (rf_mu r2 (by decide)) (by decide)
          have r4 : RF I K := rf_t (rf_mu r3 (by decide)) (fmx_rf f)
          refine rf_mu (rf_mu r4 ?_) (by decide)
          have : (O 0 6).toNat < 40 := by omega
          exact (by decide : ∀ k, k < 40 → rst 141 k = false) _ this
      · simp only [if_neg c2, some_bind, n00, if_true]
        obtain ⟨K, e, f, k', d, hmK, tK, qK⟩ := lays_at h wf hl g hm hq
        refine ⟨-5, I, K, O, rfl, ?_, bas_fr b' (fr_t (fr_0 I) (fmx_fr f)), Or.inl ⟨rfl, fr_t (fr_0 I) (fmx_fr f)⟩⟩
        rw [m_isOfficial h wf (mw_fr hm (fr_0 I)), some_bind, if_pos c]
        simp only [n10, if_false, e, some_bind, m_stamps h wf hmK k' d s tK ho, if_neg c1, m_h5 h hmK]
        rw [if_pos (show O 0 6 = 40 by omega)]
  · simp only [if_neg c, n00, if_true]
    refine ⟨-2, I, mu I 129 0 0, O, rfl, ?_, bas_fr b' (fr_0 I), Or.inl ⟨rfl, fr_0 I⟩⟩
    rw [m_isOfficial h wf (mw_fr hm (fr_0 I)), some_bind, if_neg c, if_pos rfl]
end
