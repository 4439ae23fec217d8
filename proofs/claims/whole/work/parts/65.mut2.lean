/-! B: waiting, taking back. -/
section
variable {T : Knd} {A : Rfs} {O O' : Ofc} {I J K : Mem} {W : Wkr}
theorem mw_act (hm : MW O 0 K) (v : Int) (i : Nat) (hi : O 0 6 ≤ (i : Int)) : MW O 0 (mu K 141 i v) := by
  obtain ⟨q1, q2, q3, q4, q5, q6, q7⟩ := hm
  refine ⟨?_, fun k hk => ?_, fun k hk => ?_, fun w o hw ho => ?_, fun o ho => ?_, fun o ho => ?_, fun r c hr hc => ?_⟩
  · rw [mu_o _ _ (by omega)]; exact q1
  · rw [mu_o _ _ (by omega)]; exact q2 k hk
  · rw [mu_o _ _ (by omega)]; exact q3 k hk
  · rw [mu_o _ _ (by omega)]; exact q4 w o hw ho
  · rw [mu_o _ _ (by omega)]; exact q5 o ho
  · rw [mu_o _ _ (by omega)]; exact q6 o ho
  · rw [mu_o _ _ (by omega)]; exact q7 r c hr hc
theorem s136 (h : Ag T A) {k : Nat} (hk : k < 30) (v : Int) (L : Mem) : sto T 20 136 (k : Int) v L = some (mu L 136 k v) := by
  rw [ev_sto (kT_136 h), if_pos (by omega), Int.toNat_natCast]
theorem s136_5 (h : Ag T A) (v : Int) (L : Mem) : sto T 20 136 5 v L = some (mu L 136 5 v) := s136 h (k := 5) (by decide) v L
theorem s136_4 (h : Ag T A) (v : Int) (L : Mem) : sto T 20 136 4 v L = some (mu L 136 4 v) := s136 h (k := 4) (by decide) v L
theorem push_fin (b : Bas T A O I) {x : Int} (hx : okS O (Wn O) x) (c2 : O 0 6 < 40) (h27 : J 27 (O 0 6).toNat = x) (h26 : J 26 6 = O 0 6 + 1) (ag : ∀ a b, ¬ (a = 26 ∧ b = 6) → ¬ (a = 27 ∧ b = (O 0 6).toNat) → a ≠ 64 → a ≠ 65 → ¬ ((a = 68 ∨ a = 79) ∧ b = 6) → J a b = I a b) (hW : CW (stepS O (Wn O) x) 64 J) (h68 : J 68 6 = 0) (h79 : J 79 6 = 0) (f : FmX (mu J 129 0 0) K) (hmK : MW O 0 K) (qK : K 129 31 = 0) (hl : 0 < O 0 0) : Bas T A (mvO O (O 0 6 + 1) (O 0 6).toNat x) (mu (mu K 141 (O 0 6).toNat x) 136 5 (O 0 6 + 1)) ∧ Out O I (mvO O (O 0 6 + 1) (O 0 6).toNat x) (mu (mu K 141 (O 0 6).toNat x) 136 5 (O 0 6 + 1)) := by
  obtain ⟨h, wf, hc, hm, g, ht, hn, k, hq⟩ := b
  have h6 := wf.2.2.2.2.2.2.1
  obtain ⟨O', eO⟩ : ∃ O', O' = mvO O (O 0 6 + 1) (O 0 6).toNat x := ⟨_, rfl⟩
  have sq : Sq O O' := by rw [eO]; exact sq_mv _ _ _ _
  have hp : O' 0 5 = O 0 5 := by rw [eO]; exact mv_p _ _ _ _ (by decide)
  have hO6 : O' 0 6 = O 0 6 + 1 := by rw [eO]; exact mv_m _ _ _ _
  have wf' : WF O' := sq_wf sq wf (by rw [hp]; exact wf.2.2.2.2.2.1) (by omega) (fun e => by omega)
  have lg := lg_push wf g hx
  rw [← eO] at lg ⊢
  obtain ⟨L, eL⟩ : ∃ L, L = mu (mu K 141 (O 0 6).toNat x) 136 5 (O 0 6 + 1) := ⟨_, rfl⟩
  have agL : ∀ a b, a < 129 → L a b = J a b := fun a b hab => by
    rw [eL, mu_o _ _ (by omega), mu_o _ _ (by omega), f a b (by omega) (by omega) (by omega), mu_o _ _ (by omega)]
  have hmL : MW O' 0 L := by
    rw [eO]
    refine mw_mv hmK (by rw [eL, mu_s]) (fun k hk => ?_) (fun a b h1 h2 h3 h4 => ?_)
    · rw [eL, mu_o _ _ (by omega)]
      by_cases q : k = (O 0 6).toNat
      · rw [q, mu_s, if_pos rfl]
      · rw [mu_o _ _ (by omega), if_neg q]
        have := hmK.2.2.1 k (by omega)
        rwa [show 40 * 0 + k = k by omega] at this
    · rw [eL, mu_o _ _ (by omega), mu_o _ _ (by omega)]
  have hcL : CV O' 26 L := by
    rw [eO]
    refine cv_mv hc (by rw [agL _ _ (by omega), h26]) (fun k hk => ?_) (fun a b h1 h2 h3 h4 => ?_)
    · rw [agL _ _ (by omega)]
      by_cases q : k = (O 0 6).toNat
      · rw [q, h27, if_pos rfl]
      · rw [ag _ _ (by omega) (by omega) (by omega) (by omega) (by omega), if_neg q]; exact hc.2.1 k (by omega)
    · rw [agL _ _ (by omega), ag _ _ h3 (by omega) (by omega) (by omega) (by omega)]
  rw [← eL]
  refine ⟨⟨h, wf', hcL, hmL, lg.1, ?_, ?_, ?_, ?_⟩, Or.inr ⟨?_, ?_, Or.inr ⟨sq, hp, ?_, ?_, ?_⟩, ?_⟩⟩
  · exact tw_ag wf' (sq_tw sq ht) (fun a b h1 h2 => by rw [agL _ _ (by omega), ag _ _ (by omega) (by omega) (by omega) (by omega) (by omega)])
  · exact tn_ag wf' (sq_tn sq hn) (fun a b h1 h2 => by rw [agL _ _ (by omega), ag _ _ (by omega) (by omega) (by omega) (by omega) (by omega)])
  · rw [lg.2]
    exact cw_ag hW (fun a b h1 => by rw [agL _ _ (by omega)])
  · rw [eL, mu_o _ _ (by omega), mu_o _ _ (by omega)]; exact qK
  · rw [agL _ _ (by omega), h68]
  · rw [agL _ _ (by omega), h79]
  · rw [agL _ _ (by omega), ag _ _ (by omega) (by omega) (by omega) (by omega) (by omega)]
  · rw [agL _ _ (by omega), ag _ _ (by omega) (by omega) (by omega) (by omega) (by omega)]
  · rw [agL _ _ (by omega), ag _ _ (by omega) (by omega) (by omega) (by omega) (by omega)]
  · rw [eL]
    have r3 : RF I J := by
      intro o j hr
      refine ag o j (fun e => ?_) (fun e => ?_) (fun e => ?_) (fun e => ?_) (fun e => ?_)
      · rw [rst_w (by omega) (by omega)] at hr; exact absurd hr (by decide)
      · rw [rst_w (by omega) (by omega)] at hr; exact absurd hr (by decide)
      · rw [rst_w (by omega) (by omega)] at hr; exact absurd hr (by decide)
      · rw [rst_w (by omega) (by omega)] at hr; exact absurd hr (by decide)
      · rw [rst_w (by omega) (by omega)] at hr; exact absurd hr (by decide)
    have r4 : RF I K := rf_t (rf_mu r3 (by decide)) (fmx_rf f)
    refine rf_mu (rf_mu r4 ?_) (by decide)
    have : (O 0 6).toNat < 40 := by omega
    exact (by decide : ∀ k, k < 40 → rst 141 k = false) _ this
theorem s_waits (b : Bas T A O I) (a1 : Int) : ∃ v J K O', f_X11_waits T A 1 a1 I = some (v, J) ∧ f_X12_waits T A 129 a1 J = some (v, K) ∧ Bas T A O' K ∧ Out O I O' K := by
  have b' := b
  obtain ⟨h, wf, hc, hm, g, ht, hn, k, hq⟩ := b
  have hn8 := wf_n wf
  have h6 := wf.2.2.2.2.2.2.1
  have k64 := wk_ev (wk_64 h)
  have pi' : ∀ q v (J : Mem), pi T 12 q 129 v J = some (mu J 129 q v) := fun q v J => by simp only [agMg h]
  have gi' : ∀ q (J : Mem), gi T 12 q 129 J = some (J 129 q) := fun q J => by simp only [agMg h]
  have g17 : gr T A 12 17 129 = some 136 := by simp only [agMg h]
  have g22 : gr T A 12 22 129 = some 141 := by simp only [agMg h]
  have refuse : ∀ {v : Int}, f_X11_waits T A 1 a1 I = some (v, I) → (∃ K, f_X12_waits T A 129 a1 I = some (v, K) ∧ Fr I K) → ∃ v J K O', f_X11_waits T A 1 a1 I = some (v, J) ∧ f_X12_waits T A 129 a1 J = some (v, K) ∧ Bas T A O' K ∧ Out O I O' K := fun {v} e1 ⟨K, e2, f⟩ => ⟨v, I, K, O, e1, e2, bas_fr b' f, Or.inl ⟨rfl, f⟩⟩
  by_cases c : 0 < O 0 0
  · by_cases d : 1 ≤ a1 ∧ a1 ≤ 99
    · have s := wn_ws wf c g
      have s0 := s.1
      by_cases e4 : Wn O 0 + a1 ≤ 400
      · by_cases c2 : O 0 6 < 40
        · have hx : okS O (Wn O) (10 + a1) := Or.inr ⟨by omega, by omega, by omega⟩
          obtain ⟨J, eJ⟩ : ∃ J, J = mu (mu (mu (mu (mu I 27 (O 0 6).toNat (10 + a1)) 26 6 (O 0 6 + 1)) 64 3 (Wn O 0 + a1)) 68 6 0) 79 6 0 := ⟨_, rfl⟩
          have ag : ∀ a b, ¬ (a = 26 ∧ b = 6) → ¬ (a = 27 ∧ b = (O 0 6).toNat) → a ≠ 64 → a ≠ 65 → ¬ ((a = 68 ∨ a = 79) ∧ b = 6) → J a b = I a b := fun a b h1 h2 h3 h4 h5 => by
            rw [eJ, mu_o _ _ (by omega), mu_o _ _ (by omega), mu_o _ _ (by omega), mu_o _ _ (by omega), mu_o _ _ (by omega)]
          have hmJ : MW O 0 J := mw_ag hm (fun a b h1 h2 => ag a b (by omega) (by omega) (by omega) (by omega) (by omega))
          obtain ⟨K, e, f, k', dd, hmK, tK, qK⟩ := lays_at h wf c g hmJ (by rw [ag _ _ (by omega) (by omega) (by omega) (by omega) (by omega)]; exact hq)
          have hW : CW (stepS O (Wn O) (10 + a1)) 64 J := by
            obtain ⟨⟨w1, w2, w3, w4⟩, w5⟩ := k
            have es : stepS O (Wn O) (10 + a1) = fun q => if q = 0 then Wn O 0 + (10 + a1 - 10) else Wn O q := by unfold stepS; rw [if_neg (by omega)]
            rw [es, eJ]
            refine ⟨⟨?_, ?_, ?_, ?_⟩, fun o ho => ?_⟩
            · rw [mu_o _ _ (by omega), mu_o _ _ (by omega), mu_s]; dsimp only; rw [if_pos rfl]; omega
            · rw [mu_o _ _ (by omega), mu_o _ _ (by omega), mu_o _ _ (by omega), mu_o _ _ (by omega), mu_o _ _ (by omega)]; exact w2
            · rw [mu_o _ _ (by omega), mu_o _ _ (by omega), mu_o _ _ (by omega), mu_o _ _ (by omega), mu_o _ _ (by omega)]; exact w3
            · rw [mu_o _ _ (by omega), mu_o _ _ (by omega), mu_o _ _ (by omega), mu_o _ _ (by omega), mu_o _ _ (by omega)]; exact w4
            · rw [mu_o _ _ (by omega), mu_o _ _ (by omega), mu_o _ _ (by omega), mu_o _ _ (by omega), mu_o _ _ (by omega)]; dsimp only; rw [if_neg (by omega)]; exact w5 o ho
          have fin := push_fin b' hx c2 (by rw [eJ, mu_o _ _ (by omega), mu_o _ _ (by omega), mu_o _ _ (by omega), mu_o _ _ (by omega), mu_s]) (by rw [eJ, mu_o _ _ (by omega), mu_o _ _ (by omega), mu_o _ _ (by omega), mu_s]) ag hW (by rw [eJ, mu_o _ _ (by omega), mu_s]) (by rw [eJ, mu_s]) f hmK qK c
          refine ⟨Wn O 0 + a1, J, _, _, ?_, ?_, fin.1, fin.2⟩
          · unfold f_X11_waits
            simp only [agX h, if_true, some_bind, c_isThere h hc, if_pos c, n10, if_false, k64.2.2.2.2.1, k64.2.2.2.2.2.1, k.1.1]
            rw [if_neg (by omega), if_pos d.2, ia_eq (a := Wn O 0) (by omega) (by omega), if_pos e4, ia_eq (a := 10) (by omega) (by omega), c_note h wf hc, if_pos c2]
            simp only [some_bind, n10, if_false, c_forgetRows h]
            rw [mu_o (mu I 27 _ _) _ (by omega), mu_o I _ (by omega), k.1.1, ia_eq (by omega) (by omega), mu_o _ _ (by omega), mu_o _ _ (by omega), mu_s, eJ]
          · unfold f_X12_waits
            rw [if_pos (by rw [kT_129 h]), pi', some_bind, m_isOffice h (mw_fr hmJ (fr_0 J)), some_bind, if_pos c, m_in, some_bind, if_neg (by decide), if_pos d, if_neg (by decide), e, some_bind, gi', some_bind, k'.1.1, ia_eq (a := Wn O 0) (by omega) (by omega), if_pos e4, g17]
            simp only [some_bind, m_h5 h hmK, g22]
            rw [if_neg (show ¬ O 0 6 = 40 by omega), ia_eq (a := 10) (by omega) (by omega)]
            rw [show ∀ v, sto T 20 141 (O 0 6) v K = some (mu K 141 (O 0 6).toNat v) from fun v => by rw [ev_sto (kT_141 h), if_pos (by omega)], some_bind, m_h5 h (mw_act hmK _ _ (by omega)), some_bind, s136_5 h, some_bind, gi', some_bind, mu_o _ _ (by omega), mu_o _ _ (by omega), k'.1.1, ia_eq (a := Wn O 0) (by omega) (by omega), ia_eq (by omega) (by omega)]
        · refine refuse (v := -5) ?_ ?_
          · unfold f_X11_waits
            simp only [agX h, if_true, some_bind, c_isThere h hc, if_pos c, n10, if_false, k64.2.2.2.2.1, k64.2.2.2.2.2.1, k.1.1]
            rw [if_neg (by omega), if_pos d.2, ia_eq (a := Wn O 0) (by omega) (by omega), if_pos e4, c_note h wf hc, if_neg c2]
            simp only [some_bind, n00, if_true]
          · obtain ⟨K, e, f, k', dd, hmK, tK, qK⟩ := lays_at h wf c g hm hq
            refine ⟨K, ?_, fr_t (fr_0 I) (fmx_fr f)⟩
            unfold f_X12_waits
            rw [if_pos (by rw [kT_129 h]), pi', some_bind, m_isOffice h (mw_fr hm (fr_0 I)), some_bind, if_pos c, m_in, some_bind, if_neg (by decide), if_pos d, if_neg (by decide), e, some_bind, gi', some_bind, k'.1.1, ia_eq (a := Wn O 0) (by omega) (by omega), if_pos e4, g17]
            simp only [some_bind, m_h5 h hmK, g22]
            rw [if_pos (show O 0 6 = 40 by omega)]
      · refine refuse (v := -5) ?_ ?_
        · unfold f_X11_waits
          simp only [agX h, if_true, some_bind, c_isThere h hc, if_pos c, n10, if_false, k64.2.2.2.2.1, k64.2.2.2.2.2.1, k.1.1]
          rw [if_neg (by omega), if_pos d.2, ia_eq (a := Wn O 0) (by omega) (by omega), if_neg e4]
        · obtain ⟨K, e, f, k', dd, hmK, tK, qK⟩ := lays_at h wf c g hm hq
          refine ⟨K, ?_, fr_t (fr_0 I) (fmx_fr f)⟩
          unfold f_X12_waits
          rw [if_pos (by rw [kT_129 h]), pi', some_bind, m_isOffice h (mw_fr hm (fr_0 I)), some_bind, if_pos c, m_in, some_bind, if_neg (by decide), if_pos d, if_neg (by decide), e, some_bind, gi', some_bind, k'.1.1, ia_eq (a := Wn O 0) (by omega) (by omega), if_neg e4]
    · refine refuse (v := -2) ?_ ⟨mu I 129 0 0, ?_, fr_0 I⟩
      · unfold f_X11_waits
        simp only [agX h, if_true, some_bind, c_isThere h hc, if_pos c, n10, if_false]
        by_cases d1 : a1 < 1
        · rw [if_pos d1]
        · rw [if_neg d1, if_neg (by omega)]
      · unfold f_X12_waits
        rw [if_pos (by rw [kT_129 h]), pi', some_bind, m_isOffice h (mw_fr hm (fr_0 I)), some_bind, if_pos c, m_in, some_bind, if_neg (by decide), if_neg d, if_pos rfl]
  · refine refuse (v := -2) ?_ ⟨mu I 129 0 0, ?_, fr_0 I⟩
    · unfold f_X11_waits
      simp only [agX h, if_true, some_bind, c_isThere h hc, if_neg c, n00]
    · unfold f_X12_waits
      rw [if_pos (by rw [kT_129 h]), pi', some_bind, m_isOffice h (mw_fr hm (fr_0 I)), some_bind, if_neg c, if_pos rfl]
theorem s_drop (b : Bas T A O I) {n : Int} (h0 : 0 ≤ n) (h1 : n ≤ O 0 6) : ∃ J, f_X11_retrace T A 1 (mu I 26 6 n) = some J ∧ J 26 6 = n ∧ MW O 0 J ∧ Bas T A (mvO O n 40 0) (mu (mu J 129 0 0) 136 5 n) ∧ Out O I (mvO O n 40 0) (mu (mu J 129 0 0) 136 5 n) := by
  obtain ⟨h, wf, hc, hm, g, ht, hn, k, hq⟩ := b
  have h6 := wf.2.2.2.2.2.2.1
  have h8 := wf.2.2.2.2.2.2.2.1
  obtain ⟨O', eO⟩ : ∃ O', O' = mvO O n 40 0 := ⟨_, rfl⟩
  have sq : Sq O O' := by rw [eO]; exact sq_mv _ _ _ _
  have hp : O' 0 5 = O 0 5 := by rw [eO]; exact mv_p _ _ _ _ (by decide)
  have hO6 : O' 0 6 = n := by rw [eO]; exact mv_m _ _ _ _
  have wf' : WF O' := sq_wf sq wf (by rw [hp]; exact wf.2.2.2.2.2.1) (by omega) (fun e => by have := (h8 e).2.2.2; omega)
  have lg : LG O' := by rw [eO]; exact lg_pop g h1 (by omega)
  obtain ⟨J1, eJ⟩ : ∃ J1, J1 = mu I 26 6 n := ⟨_, rfl⟩
  have hc1 : CV O' 26 J1 := by
    rw [eO]
    refine cv_mv hc (by rw [eJ, mu_s]) (fun k hk => ?_) (fun a b h1 h2 h3 h4 => ?_)
    · rw [eJ, mu_o _ _ (by omega), if_neg (by omega)]; exact hc.2.1 k (by omega)
    · rw [eJ, mu_o _ _ (by omega)]
  have ht1 : TW O' J1 := sq_tw sq (tw_ag wf ht (fun a b h1 h2 => by rw [eJ, mu_o _ _ (by omega)]))
  have hn1 : TN O' J1 := sq_tn sq (tn_ag wf hn (fun a b h1 h2 => by rw [eJ, mu_o _ _ (by omega)]))
  obtain ⟨J, e, f, k2, z1, z2⟩ := c_retrace h wf' lg hc1 ht1 hn1
  rw [← eO, ← eJ]
  have agJ : ∀ a b, ¬ (a = 26 ∧ b = 6) → a ≠ 64 → a ≠ 65 → ¬ ((a = 68 ∨ a = 79) ∧ b = 6) → J a b = I a b := fun a b g1 g2 g3 g4 => by
    rw [f a b g2 g3 g4, eJ, mu_o _ _ (by omega)]
  have hmJ : MW O 0 J := mw_ag hm (fun a b g1 g2 => agJ a b (by omega) (by omega) (by omega) (by omega))
  have ag2 : ∀ a b, a < 129 → mu (mu J 129 0 0) 136 5 n a b = J a b := fun a b hab => by rw [mu_o _ _ (by omega), mu_o _ _ (by omega)]
  refine ⟨J, e, by rw [f _ _ (by omega) (by omega) (by omega), eJ, mu_s], hmJ, ⟨h, wf', cv_ag hc1 (fun a b g1 g2 => ?_), ?_, lg, tw_ag wf' ht1 (fun a b g1 g2 => ?_), tn_ag wf' hn1 (fun a b g1 g2 => ?_), cw_ag k2 (fun a b g1 => ag2 a b (by omega)), ?_⟩, Or.inr ⟨?_, ?_, Or.inr ⟨sq, hp, ?_, ?_, ?_⟩, ?_⟩⟩
  · rw [ag2 _ _ (by omega), f _ _ (by omega) (by omega) (by omega)]
  · rw [eO]
    refine mw_mv hmJ (by rw [mu_s]) (fun k hk => ?_) (fun a b g1 g2 g3 g4 => ?_)
    · rw [mu_o _ _ (by omega), mu_o _ _ (by omega), if_neg (by omega)]
      have := hmJ.2.2.1 k (by omega)
      rwa [show 40 * 0 + k = k by omega] at this
    · rw [mu_o _ _ (by omega), mu_o _ _ (by omega)]
  · rw [ag2 _ _ (by omega), f _ _ (by omega) (by omega) (by omega)]
  · rw [ag2 _ _ (by omega), f _ _ (by omega) (by omega) (by omega)]
  · rw [mu_o _ _ (by omega), mu_o _ _ (by omega), agJ _ _ (by omega) (by omega) (by omega) (by omega)]; exact hq
  · rw [ag2 _ _ (by omega)]; exact z1
  · rw [ag2 _ _ (by omega)]; exact z2
  · rw [ag2 _ _ (by omega), agJ _ _ (by omega) (by omega) (by omega) (by omega)]
  · rw [ag2 _ _ (by omega), agJ _ _ (by omega) (by omega) (by omega) (by omega)]
  · rw [ag2 _ _ (by omega), agJ _ _ (by omega) (by omega) (by omega) (by omega)]
  · have r3 : RF I J := by
      intro o j hr
      refine agJ o j (fun e => ?_) (fun e => ?_) (fun e => ?_) (fun e => ?_)
      · rw [rst_w (by omega) (by omega)] at hr; exact absurd hr (by decide)
      · rw [rst_w (by omega) (by omega)] at hr; exact absurd hr (by decide)
      · rw [rst_w (by omega) (by omega)] at hr; exact absurd hr (by decide)
      · rw [rst_w (by omega) (by omega)] at hr; exact absurd hr (by decide)
    exact rf_mu (rf_mu r3 (by decide)) (by decide)
theorem s_undo (b : Bas T A O I) : ∃ v J K O', f_X11_undo T A 1 I = some (v, J) ∧ f_X12_undo T A 129 J = some (v, K) ∧ Bas T A O' K ∧ Out O I O' K := by
  have b' := b
  obtain ⟨h, wf, hc, hm, g, ht, hn, k, hq⟩ := b
  have h6 := wf.2.2.2.2.2.2.1
  have pi' : ∀ q v (J : Mem), pi T 12 q 129 v J = some (mu J 129 q v) := fun q v J => by simp only [agMg h]
  have g17 : gr T A 12 17 129 = some 136 := by simp only [agMg h]
  by_cases c : 0 < O 0 0
  · by_cases d : O 0 6 = 0
    · refine ⟨-5, I, mu I 129 0 0, O, ?_, ?_, bas_fr b' (fr_0 I), Or.inl ⟨rfl, fr_0 I⟩⟩
      · unfold f_X11_undo
        simp only [agX h, agPl h, if_true, some_bind, c_isThere h hc, if_pos c, n10, if_false, cv_moved hc, if_pos d]
      · unfold f_X12_undo
        rw [if_pos (by rw [kT_129 h]), pi', some_bind, m_isOffice h (mw_fr hm (fr_0 I)), some_bind, if_pos c, if_neg (by decide), g17, some_bind, m_h5 h (mw_fr hm (fr_0 I)), some_bind, if_pos d]
    · obtain ⟨J, e, e1, hmJ, bb, oo⟩ := s_drop b' (n := O 0 6 - 1) (by omega) (by omega)
      refine ⟨O 0 6 - 1, J, _, _, ?_, ?_, bb, oo⟩
      · unfold f_X11_undo
        simp only [agX h, agPl h, if_true, some_bind, c_isThere h hc, if_pos c, n10, if_false, cv_moved hc, if_neg d]
        rw [isb_eq (by omega) (by omega), e, some_bind, e1]
      · unfold f_X12_undo
        rw [if_pos (by rw [kT_129 h]), pi', some_bind, m_isOffice h (mw_fr hmJ (fr_0 J)), some_bind, if_pos c, if_neg (by decide), g17]
        simp only [some_bind, m_h5 h (mw_fr hmJ (fr_0 J))]
        rw [if_neg d, isb_eq (by omega) (by omega), s136_5 h, some_bind, ev_ld (kT_136 h), if_pos (by decide), some_bind, show (5 : Int).toNat = 5 from rfl, mu_s]
  · refine ⟨-2, I, mu I 129 0 0, O, ?_, ?_, bas_fr b' (fr_0 I), Or.inl ⟨rfl, fr_0 I⟩⟩
    · unfold f_X11_undo
      simp only [agX h, if_true, some_bind, c_isThere h hc, if_neg c, n00]
    · unfold f_X12_undo
      rw [if_pos (by rw [kT_129 h]), pi', some_bind, m_isOffice h (mw_fr hm (fr_0 I)), some_bind, if_neg c, if_pos rfl]
theorem s_anew (b : Bas T A O I) : ∃ v J K O', f_X11_anew T A 1 I = some (v, J) ∧ f_X12_anew T A 129 J = some (v, K) ∧ Bas T A O' K ∧ Out O I O' K := by
  have b' := b
  obtain ⟨h, wf, hc, hm, g, ht, hn, k, hq⟩ := b
  have h6 := wf.2.2.2.2.2.2.1
  have pi' : ∀ q v (J : Mem), pi T 12 q 129 v J = some (mu J 129 q v) := fun q v J => by simp only [agMg h]
  have g17 : gr T A 12 17 129 = some 136 := by simp only [agMg h]
  by_cases c : 0 < O 0 0
  · obtain ⟨J, e, e1, hmJ, bb, oo⟩ := s_drop b' (n := 0) (by omega) (by omega)
    refine ⟨O 0 6, J, _, _, ?_, ?_, bb, oo⟩
    · unfold f_X11_anew
      simp only [agX h, agPl h, if_true, some_bind, c_isThere h hc, if_pos c, n10, if_false, cv_moved hc]
      rw [e, some_bind]
    · unfold f_X12_anew
      rw [if_pos (by rw [kT_129 h]), pi', some_bind, m_isOffice h (mw_fr hmJ (fr_0 J)), some_bind, if_pos c, if_neg (by decide), g17]
      simp only [some_bind, m_h5 h (mw_fr hmJ (fr_0 J))]
      rw [s136_5 h, some_bind]
  · refine ⟨-2, I, mu I 129 0 0, O, ?_, ?_, bas_fr b' (fr_0 I), Or.inl ⟨rfl, fr_0 I⟩⟩
    · unfold f_X11_anew
      simp only [agX h, if_true, some_bind, c_isThere h hc, if_neg c, n00]
    · unfold f_X12_anew
      rw [if_pos (by rw [kT_129 h]), pi', some_bind, m_isOffice h (mw_fr hm (fr_0 I)), some_bind, if_neg c, if_pos rfl]
end
