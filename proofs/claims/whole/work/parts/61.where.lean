/-! B: where one is: retrace, and the calls that only look. -/
def Bas (T : Knd) (A : Rfs) (O : Ofc) (I : Mem) : Prop := Ag T A ∧ WF O ∧ CV O 26 I ∧ MW O 0 I ∧ LG O ∧ TW O I ∧ TN O I ∧ CW (Wn O) 64 I ∧ I 129 31 = 0
theorem cw_fo {W : Wkr} {w a b : Nat} {I J : Mem} (h : CW W w I) (hf : Fo a b I J) (ha : b < w ∨ w + 1 < a) : CW W w J := by
  obtain ⟨⟨h1, h2, h3, h4⟩, h5⟩ := h
  refine ⟨⟨?_, ?_, ?_, ?_⟩, fun o ho => ?_⟩
  · rw [hf _ _ (by omega)]; exact h1
  · rw [hf _ _ (by omega)]; exact h2
  · rw [hf _ _ (by omega)]; exact h3
  · rw [hf _ _ (by omega)]; exact h4
  · rw [hf _ _ (by omega)]; exact h5 o ho
theorem tw_fo {O : Ofc} {a b : Nat} {I J : Mem} (w : WF O) (h : TW O I) (hf : Fo a b I J) (ha : b < 49 ∨ 54 < a) : TW O J := fun r c hr hc => by
  have := w.2.1
  rw [hf _ _ (by omega)]; exact h r c hr hc
theorem tn_fo {O : Ofc} {a b : Nat} {I J : Mem} (w : WF O) (h : TN O I) (hf : Fo a b I J) (ha : b < 56 ∨ 63 < a) : TN O J := fun o k ho hk => by
  have := wf_n w
  rw [hf _ _ (by omega)]; exact h o k ho hk
section
variable {T : Knd} {A : Rfs} {O : Ofc} {I : Mem} {W : Wkr} {w : Nat}
theorem c_fill {x n : Nat} (hx : T x = (20, n)) (hn : n < 1000) (v : Int) : OK (f_J7_fill_53178 T A x v I) (fun J => Fo x x I J ∧ ∀ j, j < n → J x j = v) := by
  unfold f_J7_fill_53178
  rw [ev_aln hx, some_bind]
  refine it_run (fun i (s : Int × Mem) => s.1 = (i : Int) ∧ Fo x x I s.2 ∧ ∀ j, j < i → s.2 x j = v) n ?_ ?_ 0 FU (0, I) (by omega) (by unfold FU; omega) ⟨rfl, fo_r _ _ _, fun j hj => absurd hj (by omega)⟩
  · rintro i ⟨si, J⟩ hi ⟨rfl, hF, hD⟩
    dsimp only at hF hD ⊢
    rw [if_pos (by omega), ev_sto hx, if_pos (by omega), some_bind, Int.toNat_natCast, ia_1 (by omega)]
    refine ok_i ⟨rfl, fo_mu hF (Nat.le_refl _) (Nat.le_refl _), fun j hj => ?_⟩
    try dsimp only
    by_cases c : j = i
    · subst c; exact mu_s _ _ _ _
    · try dsimp only
      rw [mu_o _ _ (by omega)]; exact hD j (by omega)
  · rintro ⟨si, J⟩ ⟨rfl, hF, hD⟩
    dsimp only at hF hD ⊢
    rw [if_neg (by omega)]
    exact ok_i ⟨hF, hD⟩
theorem c_beginAt (h : Ag T A) (k : Wk T A w) (hw : 63 < w) (hc : CV O 26 I) (x : Int) : OK (f_X10_beginAt T A w x I) (fun J => Fo w (w + 1) I J ∧ CW (st0 O x) w J) := by
  unfold f_X10_beginAt
  rw [if_pos (wk_ev k).1, (wk_ev k).2.2.2.2.2.1, some_bind, (wk_ev k).2.1, some_bind, show ∀ J : Mem, gi T 2 2 26 J = some (J 26 2) from fun J => by simp only [agPl h], some_bind, (wk_ev k).2.2.2.2.2.1, some_bind, (wk_ev k).2.2.2.2.2.1, some_bind, (wk_ev k).2.2.2.2.2.1, some_bind, (wk_ev k).2.2.2.1, some_bind, mu_o _ _ (by omega), cv_room hc]
  refine ok_b (ok_m (c_fill k.2.1 (by decide) (-1)) (fun J hJ => ok_i ⟨?_, ⟨?_, ?_, ?_, ?_⟩, fun o ho => ?_⟩))
  · intro a b hab
    rw [hJ.1 a b (by omega), mu_o _ _ (by omega), mu_o _ _ (by omega), mu_o _ _ (by omega), mu_o _ _ (by omega)]
  · rw [hJ.1 _ _ (by omega), mu_o _ _ (by omega), mu_o _ _ (by omega), mu_o _ _ (by omega), mu_s]; rfl
  · rw [hJ.1 _ _ (by omega), mu_o _ _ (by omega), mu_o _ _ (by omega), mu_s]; rfl
  · rw [hJ.1 _ _ (by omega), mu_o _ _ (by omega), mu_s]; rfl
  · rw [hJ.1 _ _ (by omega), mu_s]; rfl
  · rw [hJ.2 o ho]
    unfold st0
    rw [if_neg (by omega), if_neg (by omega), if_neg (by omega)]
    rfl
theorem c_move (h : Ag T A) (wf : WF O) {J : Mem} (hc : CV O 26 J) {k : Nat} (hk : (k : Int) < O 0 6) : ld T 20 27 (k : Int) J = some (O 1 k) := by
  have h6 := wf.2.2.2.2.2.2.1
  simp only [agPl h]
  rw [if_pos (by omega), Int.toNat_natCast]
  have : J (26 + 1) k = O 1 k := hc.2.1 k hk
  rw [← this]
theorem c_forgetRows (h : Ag T A) (I : Mem) : f_X11_forgetRows T A 1 I = some (mu (mu I 68 6 0) 79 6 0) := by
  unfold f_X11_forgetRows
  simp only [agX h, if_true, some_bind]
  have h1 := ev_pz0 (c := 5) (kT_68 h) rfl
  have h2 := ev_pz0 (c := 5) (kT_79 h) rfl
  rw [h1, some_bind, h2, some_bind]
theorem c_retrace (h : Ag T A) (wf : WF O) (g : LG O) (hc : CV O 26 I) (ht : TW O I) (hn : TN O I) : OK (f_X11_retrace T A 1 I) (fun J => (∀ o k, o ≠ 64 → o ≠ 65 → ¬ ((o = 68 ∨ o = 79) ∧ k = 6) → J o k = I o k) ∧ CW (Wn O) 64 J ∧ J 68 6 = 0 ∧ J 79 6 = 0) := by
  have h6 := wf.2.2.2.2.2.2.1
  have k64 := wk_64 h
  have g1 : gr T A 11 2 1 = some 26 := by simp only [agX h]
  have g2 : gr T A 11 4 1 = some 64 := by simp only [agX h]
  have g3 : ∀ J : Mem, gi T 2 6 26 J = some (J 26 6) := fun J => by simp only [agPl h]
  unfold f_X11_retrace
  rw [if_pos (by rw [kT_1 h]), g2, some_bind, g1, some_bind, show gi T 2 3 26 I = some (I 26 3) by simp only [agPl h], some_bind, cv_hour hc]
  refine ok_b (ok_m (c_beginAt h k64 (by decide) hc _) (fun J hJ => ?_))
  refine ok_tn (ok_m (P := fun z => match z with | .inl v => Fo 64 65 I v ∧ CW (Wn O) 64 v | .inr _ => False) ?_ ?_)
  · refine it_run (fun i (s : Int × Mem) => s.1 = (i : Int) ∧ Fo 64 65 I s.2 ∧ CW (rep O i) 64 s.2) (O 0 6).toNat ?_ ?_ 0 FU (0, J) (by omega) (by unfold FU; omega) ⟨rfl, hJ.1, hJ.2⟩
    · rintro i ⟨si, K⟩ hi ⟨rfl, kF, kW⟩
      dsimp only at kF kW ⊢
      have hi6 : (i : Int) < O 0 6 := by omega
      have hl : 0 < O 0 0 := by
        have h8 := wf.2.2.2.2.2.2.2.1
        have h00 := wf.1
        by_cases c : O 0 0 = 0
        · have := (h8 c).2.2.2; omega
        · omega
      have hcK := cv_fo hc kF (by decide)
      have htK := tw_fo wf ht kF (by decide)
      have hnK := tn_fo wf hn kF (by decide)
      have sK := rep_ws wf hl g i (by omega)
      have er : rep O (i + 1) = stepS O (rep O i) (O 1 i) := rfl
      rw [some_bind, g3, some_bind, cv_moved hcK, if_pos hi6, some_bind, show gr T A 2 7 26 = some 27 by simp only [agPl h], some_bind, c_move h wf hcK hi6, some_bind]
      rcases g i hi6 with ⟨h1, h2, h3⟩ | ⟨h1, h2, h3⟩
      · have hn8 := wf_n wf
        obtain ⟨o, eo⟩ := Int.eq_ofNat_of_zero_le h1
        rw [if_pos (by omega)]
        simp only [some_bind]
        rw [eo] at h2 h3
        rw [Int.toNat_natCast] at h3
        have hr := stp_rg wf sK (o := o) h2 h3
        have hs0 := sK.1
        rw [eo, c_stamp h k64 wf hcK htK hnK kW sK h2, some_bind]
        refine ok_b (ok_m (c_stampIn h k64 (by decide) wf hcK htK kW sK h2 hr.2.2.2.1 (by have := sK.1; omega) hr.2.2.1) (fun L hL => ?_))
        rw [ia_1 (by omega)]
        refine ok_i ⟨rfl, fo_t kF hL.1, ?_⟩
        rw [er]
        unfold stepS
        rw [if_pos (by omega), eo, Int.toNat_natCast]
        exact hL.2
      · rw [if_neg (by omega), some_bind, (wk_ev k64).2.2.2.2.1, some_bind, (wk_ev k64).2.2.2.2.2.1, some_bind, isb_eq (by omega) (by omega), kW.1.1, ia_1 (by omega), ia_eq (by have := sK.1; omega) (by omega)]
        refine ok_i ⟨rfl, fo_mu kF (by decide) (by decide), ⟨?_, ?_, ?_, ?_⟩, fun o ho => ?_⟩
        · (try dsimp only); rw [mu_s, er]; unfold stepS; rw [if_neg (by omega)]; rfl
        · (try dsimp only); rw [mu_o _ _ (by omega), er, kW.1.2.1]; unfold stepS; rw [if_neg (by omega)]; rfl
        · (try dsimp only); rw [mu_o _ _ (by omega), er, kW.1.2.2.1]; unfold stepS; rw [if_neg (by omega)]; rfl
        · (try dsimp only); rw [mu_o _ _ (by omega), er, kW.1.2.2.2]; unfold stepS; rw [if_neg (by omega)]; rfl
        · (try dsimp only); rw [mu_o _ _ (by omega), er, kW.2 o ho]; unfold stepS; rw [if_neg (by omega)]; (try dsimp only); rw [if_neg (by omega)]
    · rintro ⟨si, K⟩ ⟨rfl, kF, kW⟩
      dsimp only at kF kW ⊢
      rw [some_bind, g3, some_bind, cv_moved (cv_fo hc kF (by decide)), if_neg (by omega)]
      exact ok_i ⟨kF, kW⟩
  · rintro (K | x) hz
    · obtain ⟨kF, kW⟩ := hz
      show OK _ _
      try dsimp only
      rw [c_forgetRows h, some_bind]
      refine ok_i ⟨fun a b n1 n2 n3 => ?_, ?_, ?_, ?_⟩
      · try dsimp only
        rw [mu_o _ _ (by omega), mu_o _ _ (by omega)]; exact kF a b (by omega)
      · exact cw_fo (cw_fo kW (fo_mu (fo_r 68 68 K) (Nat.le_refl _) (Nat.le_refl _)) (by decide)) (fo_mu (fo_r 79 79 _) (Nat.le_refl _) (Nat.le_refl _)) (by decide)
      · try dsimp only
        rw [mu_o _ _ (by omega), mu_s]
      · try dsimp only
        rw [mu_s]
    · exact hz.elim
theorem tk_0 (h : I 129 31 = 0) : TK ntk I := Or.inl ⟨h, fun _ _ => rfl⟩
theorem lays_q (b : Bas T A O I) (hl : 0 < O 0 0) : ∃ J, f_X12_lays T A 129 (mu I 129 0 0) = some J ∧ Fr I J ∧ MWk (Wn O) J ∧ Far O J ∧ MW O 0 J ∧ TK ntk J ∧ J 129 31 = 0 := by
  obtain ⟨h, wf, hc, hm, g, ht, hn, k, hq⟩ := b
  have hm0 := mw_fr hm (fr_0 I)
  have t0 : mu I 129 0 0 129 31 = 0 := by rw [mu_o _ _ (by omega)]; exact hq
  obtain ⟨J, e, f, k', d⟩ := m_laysAll h wf hl g hm0 (tk_0 t0)
  exact ⟨J, e, fr_t (fr_0 I) (fmx_fr f), k', d, mw_fmx hm0 f, tk_fmx (tk_0 t0) f, by rw [f 129 31 (by omega) (by omega) (by omega)]; exact t0⟩
theorem n_lines (wf : WF O) {a : Int} (c : 0 ≤ a ∧ a < O 0 4) : 0 < O 0 0 := by
  have h8 := wf.2.2.2.2.2.2.2.1
  have h00 := wf.1
  by_cases d : O 0 0 = 0
  · have := (h8 d).2.2.1; omega
  · omega
theorem q_now (b : Bas T A O I) : Quiet (f_X11_now T A 1 I) (f_X12_now T A 129 I) I := by
  have b' := b
  obtain ⟨h, wf, hc, hm, g, ht, hn, k, hq⟩ := b
  unfold f_X11_now f_X12_now
  simp only [agX h, agM h, if_true, some_bind, c_isThere h hc, m_isOffice h (mw_fr hm (fr_0 I)), (wk_ev (wk_64 h)).2.2.2.2.1]
  by_cases c : 0 < O 0 0
  · obtain ⟨J, e, f, k', d⟩ := lays_q b' c
    simp only [if_pos c, n10, if_false, e, some_bind]
    exact ⟨_, _, rfl, by rw [k'.1.1, k.1.1], f⟩
  · simp only [if_neg c, n00, if_true]
    exact ⟨-2, _, rfl, rfl, fr_0 I⟩
theorem q_room (b : Bas T A O I) : Quiet (f_X11_room T A 1 I) (f_X12_room T A 129 I) I := by
  have b' := b
  obtain ⟨h, wf, hc, hm, g, ht, hn, k, hq⟩ := b
  unfold f_X11_room f_X12_room
  simp only [agX h, agM h, if_true, some_bind, c_isThere h hc, m_isOffice h (mw_fr hm (fr_0 I)), (wk_ev (wk_64 h)).2.2.2.2.1]
  by_cases c : 0 < O 0 0
  · obtain ⟨J, e, f, k', d⟩ := lays_q b' c
    simp only [if_pos c, n10, if_false, e, some_bind]
    exact ⟨_, _, rfl, by rw [k'.1.2.1, k.1.2.1], f⟩
  · simp only [if_neg c, n00, if_true]
    exact ⟨-2, _, rfl, rfl, fr_0 I⟩
theorem q_shoes (b : Bas T A O I) : Quiet (f_X11_shoes T A 1 I) (f_X12_shoes T A 129 I) I := by
  have b' := b
  obtain ⟨h, wf, hc, hm, g, ht, hn, k, hq⟩ := b
  unfold f_X11_shoes f_X12_shoes
  simp only [agX h, agM h, if_true, some_bind, c_isThere h hc, m_isOffice h (mw_fr hm (fr_0 I)), (wk_ev (wk_64 h)).2.2.2.2.1]
  by_cases c : 0 < O 0 0
  · obtain ⟨J, e, f, k', d⟩ := lays_q b' c
    simp only [if_pos c, n10, if_false, e, some_bind]
    exact ⟨_, _, rfl, by rw [k'.1.2.2.1, k.1.2.2.1], f⟩
  · simp only [if_neg c, n00, if_true]
    exact ⟨-2, _, rfl, rfl, fr_0 I⟩
theorem q_paid (b : Bas T A O I) : Quiet (f_X11_paid T A 1 I) (f_X12_paid T A 129 I) I := by
  have b' := b
  obtain ⟨h, wf, hc, hm, g, ht, hn, k, hq⟩ := b
  unfold f_X11_paid f_X12_paid
  simp only [agX h, agM h, if_true, some_bind, c_isThere h hc, m_isOffice h (mw_fr hm (fr_0 I)), (wk_ev (wk_64 h)).2.2.2.2.1]
  by_cases c : 0 < O 0 0
  · obtain ⟨J, e, f, k', d⟩ := lays_q b' c
    simp only [if_pos c, n10, if_false, e, some_bind]
    exact ⟨_, _, rfl, by rw [k'.1.2.2.2, k.1.2.2.2], f⟩
  · simp only [if_neg c, n00, if_true]
    exact ⟨-2, _, rfl, rfl, fr_0 I⟩
theorem q_held (b : Bas T A O I) : Quiet (f_X11_held T A 1 I) (f_X12_held T A 129 I) I := by
  have b' := b
  obtain ⟨h, wf, hc, hm, g, ht, hn, k, hq⟩ := b
  unfold f_X11_held f_X12_held
  simp only [agX h, agM h, if_true, some_bind, c_isThere h hc, m_isOffice h (mw_fr hm (fr_0 I))]
  by_cases c : 0 < O 0 0
  · have s := wn_ws wf c g
    obtain ⟨J, e, f, k', d, hmJ, tJ⟩ := lays_q b' c
    simp only [if_pos c, n10, if_false, e, some_bind, c_holding (wk_64 h) wf k s, m_heldNow h wf hmJ k' s]
    exact ⟨_, _, rfl, rfl, f⟩
  · simp only [if_neg c, n00, if_true]
    exact ⟨-2, _, rfl, rfl, fr_0 I⟩
theorem m_isDone (h : Ag T A) (wf : WF O) (hm : MW O 0 I) (k : MWk W I) (s : WS O W) : f_X12_isDone T A 129 I = some (if iand (O 0 5) (ixor (hset O W (W 0).toNat) (-1)) = 0 then 1 else 0) := by
  unfold f_X12_isDone
  rw [if_pos (by rw [kT_129 h]), show gr T A 12 17 129 = some 136 by simp only [agM h], some_bind, m_h4 h hm, some_bind, m_heldNow h wf hm k s, some_bind]
  split <;> rfl
theorem q_done (b : Bas T A O I) : Quiet (f_X11_done T A 1 I) (f_X12_done T A 129 I) I := by
  have b' := b
  obtain ⟨h, wf, hc, hm, g, ht, hn, k, hq⟩ := b
  unfold f_X11_done f_X12_done
  simp only [agX h, agM h, if_true, some_bind, c_isThere h hc, m_isOffice h (mw_fr hm (fr_0 I))]
  by_cases c : 0 < O 0 0
  · have s := wn_ws wf c g
    obtain ⟨J, e, f, k', d, hmJ, tJ⟩ := lays_q b' c
    simp only [if_pos c, n10, if_false, e, some_bind, c_missing h (wk_64 h) wf hc k s, m_isDone h wf hmJ k' s]
    by_cases q : iand (O 0 5) (ixor (hset O (Wn O) (Wn O 0).toNat) (-1)) = 0
    · simp only [if_pos q, n10, if_false]
      exact ⟨_, _, rfl, rfl, f⟩
    · simp only [if_neg q, n00, if_true]
      exact ⟨_, _, rfl, rfl, f⟩
  · simp only [if_neg c, n00, if_true]
    exact ⟨-2, _, rfl, rfl, fr_0 I⟩
theorem q_until (b : Bas T A O I) (a1 : Int) : Quiet (f_X11_until T A 1 a1 I) (f_X12_until T A 129 a1 I) I := by
  have b' := b
  obtain ⟨h, wf, hc, hm, g, ht, hn, k, hq⟩ := b
  have hn8 := wf_n wf
  unfold f_X11_until f_X12_until
  simp only [agX h, agM h, if_true, some_bind, c_has h wf hc, m_isOfficial h wf (mw_fr hm (fr_0 I))]
  by_cases c : 0 ≤ a1 ∧ a1 < O 0 4
  · have hl := n_lines wf c
    have s := wn_ws wf hl g
    obtain ⟨o, rfl⟩ := Int.eq_ofNat_of_zero_le c.1
    obtain ⟨J, e, f, k', d, hmJ, tJ⟩ := lays_q b' hl
    simp only [if_pos c, n10, if_false, e, some_bind, c_lastHeld (wk_64 h) k (by omega : o < 8), c_holds (wk_64 h) k s (by omega : o < 8), k'.1.1, m_isHeld h k' (by omega : o < 8) s.1.1]
    by_cases q : Wn O 0 ≤ Wn O (4 + o)
    · simp only [if_pos q, n10, if_false, Int.toNat_natCast]
      simp only [if_pos (show 0 ≤ (o : Int) ∧ (o : Int) < 8 by omega), some_bind, k'.2 o (by omega)]
      unfold ev
      by_cases r : Wn O (4 + o) = 9999
      · rw [if_pos r, if_pos r, if_pos rfl]
        exact ⟨_, _, rfl, rfl, f⟩
      · have := ws_rg s o
        rw [if_neg r, if_neg r, if_neg (by omega)]
        exact ⟨_, _, rfl, rfl, f⟩
    · simp only [if_neg q, n00, if_true]
      exact ⟨_, _, rfl, rfl, f⟩
  · simp only [if_neg c, n00, if_true]
    exact ⟨-2, _, rfl, rfl, fr_0 I⟩
theorem q_when (b : Bas T A O I) (a1 : Int) : Quiet (f_X11_when T A 1 a1 I) (f_X12_when T A 129 a1 I) I := by
  have b' := b
  obtain ⟨h, wf, hc, hm, g, ht, hn, k, hq⟩ := b
  unfold f_X11_when f_X12_when
  simp only [agX h, agM h, if_true, some_bind, c_has h wf hc, m_isOfficial h wf (mw_fr hm (fr_0 I))]
  by_cases c : 0 ≤ a1 ∧ a1 < O 0 4
  · have hl := n_lines wf c
    have s := wn_ws wf hl g
    obtain ⟨o, rfl⟩ := Int.eq_ofNat_of_zero_le c.1
    obtain ⟨J, e, f, k', d, hmJ, tJ, _⟩ := lays_q b' hl
    simp only [if_pos c, n10, if_false, e, some_bind, c_stamp h (wk_64 h) wf hc ht hn k s c.2, m_stamps h wf hmJ k' d s tJ c.2]
    exact ⟨_, _, rfl, rfl, f⟩
  · simp only [if_neg c, n00, if_true]
    exact ⟨-2, _, rfl, rfl, fr_0 I⟩
theorem c_willing (h : Ag T A) (k : Wk T A w) (wf : WF O) (hc : CV O 26 I) (ht : TW O I) (hn : TN O I) (c : CW W w I) (s : WS O W) : f_X10_willing T A w I = some (sor (fun o => decide (stp O ntk W o ≠ -1)) (O 0 4).toNat) := by
  have hn8 := wf_n wf
  unfold f_X10_willing
  rw [if_pos (wk_ev k).1, (wk_ev k).2.1]
  refine it_seq (fun i => (sor (fun o => decide (stp O ntk W o ≠ -1)) i, (i : Int))) (O 0 4).toNat (fun i hi => ?_) ?_ FU (by unfold FU; omega)
  · try dsimp only
    rw [some_bind, show gi T 2 4 26 I = some (I 26 4) by simp only [agPl h], some_bind, cv_n hc, if_pos (by omega), c_stamp h k wf hc ht hn c s (by omega), some_bind, ia_1 (by omega), sor]
    by_cases q : stp O ntk W i = -1
    · rw [if_pos q, if_neg (by rw [decide_eq_false (by rw [q]; decide)]; decide)]
    · rw [if_neg q, if_pos (decide_eq_true q)]
  · try dsimp only
    rw [some_bind, show gi T 2 4 26 I = some (I 26 4) by simp only [agPl h], some_bind, cv_n hc, if_neg (by omega)]
theorem m_canNow (h : Ag T A) (wf : WF O) (hm : MW O 0 I) (k : MWk W I) (hf : Far O I) (s : WS O W) (ht : TK ntk I) : f_X12_canNow T A 129 I = some (sor (fun o => decide (stp O ntk W o ≠ -1)) (O 0 4).toNat) := by
  have hn8 := wf_n wf
  unfold f_X12_canNow
  rw [if_pos (by rw [kT_129 h]), show gr T A 12 17 129 = some 136 by simp only [agM h]]
  refine it_seq (fun i => (sor (fun o => decide (stp O ntk W o ≠ -1)) i, (i : Int))) (O 0 4).toNat (fun i hi => ?_) ?_ FU (by unfold FU; omega)
  · try dsimp only
    rw [some_bind, m_h3 h hm, some_bind, if_pos (by omega), m_stamps h wf hm k hf s ht (by omega), some_bind, ia_1 (by omega), sor]
    by_cases q : stp O ntk W i = -1
    · rw [if_pos q, thn_l, if_neg (by rw [decide_eq_false (by rw [q]; decide)]; decide), ior_0 (cn_sor _ _)]
    · rw [if_neg q, thn_l, if_pos (decide_eq_true q)]
  · try dsimp only
    rw [some_bind, m_h3 h hm, some_bind, if_neg (by omega)]
theorem q_can (b : Bas T A O I) : Quiet (f_X11_can T A 1 I) (f_X12_can T A 129 I) I := by
  have b' := b
  obtain ⟨h, wf, hc, hm, g, ht, hn, k, hq⟩ := b
  unfold f_X11_can f_X12_can
  simp only [agX h, agM h, if_true, some_bind, c_isThere h hc, m_isOffice h (mw_fr hm (fr_0 I))]
  by_cases c : 0 < O 0 0
  · have s := wn_ws wf c g
    obtain ⟨J, e, f, k', d, hmJ, tJ, _⟩ := lays_q b' c
    simp only [if_pos c, n10, if_false, e, some_bind, c_willing h (wk_64 h) wf hc ht hn k s, m_canNow h wf hmJ k' d s tJ]
    exact ⟨_, _, rfl, rfl, f⟩
  · simp only [if_neg c, n00, if_true]
    exact ⟨-2, _, rfl, rfl, fr_0 I⟩
end
