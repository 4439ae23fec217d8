/-! B: ask and leave. -/
theorem mu_same (I : Mem) (a k : Nat) {v : Int} (h : I a k = v) : mu I a k v = I := by
  funext b j
  by_cases c : b = a ∧ j = k
  · obtain ⟨rfl, rfl⟩ := c
    rw [mu_s, h]
  · rw [mu_o I v c]
section
variable {T : Knd} {A : Rfs} {O O' : Ofc} {I J K : Mem} {W : Wkr}
theorem s_ask (b : Bas T A O I) (a1 a2 a3 a4 : Int) : ∃ v J K O', f_X11_ask T A 1 a1 a2 a3 a4 I = some (v, J) ∧ f_X12_ask T A 129 a1 a2 a3 a4 J = some (v, K) ∧ Bas T A O' K ∧ Out O I O' K := by
  have b' := b
  obtain ⟨h, wf, hc, hm, g, ht, hn, k, hq⟩ := b
  have hn8 := wf_n wf
  have h6 := wf.2.2.2.2.2.2.1
  have pi' : ∀ q v (J : Mem), pi T 12 q 129 v J = some (mu J 129 q v) := fun q v J => by simp only [agMg h]
  have g17 : gr T A 12 17 129 = some 136 := by simp only [agMg h]
  have g19 : gr T A 12 19 129 = some 138 := by simp only [agMg h]
  have g20 : gr T A 12 20 129 = some 139 := by simp only [agMg h]
  have g11 : gr T A 11 2 1 = some 26 := by simp only [agX h]
  have refuse : ∀ {v : Int}, f_X11_ask T A 1 a1 a2 a3 a4 I = some (v, I) → f_X12_ask T A 129 a1 a2 a3 a4 I = some (v, mu I 129 0 0) → ∃ v J K O', f_X11_ask T A 1 a1 a2 a3 a4 I = some (v, J) ∧ f_X12_ask T A 129 a1 a2 a3 a4 J = some (v, K) ∧ Bas T A O' K ∧ Out O I O' K := fun {v} e1 e2 => ⟨v, I, mu I 129 0 0, O, e1, e2, bas_fr b' (fr_0 I), Or.inl ⟨rfl, fr_0 I⟩⟩
  have hm0 := mw_fr hm (fr_0 I)
  by_cases c1 : 0 ≤ a1 ∧ a1 < O 0 4
  · by_cases c2 : 0 ≤ a2 ∧ a2 < O 0 4
    · by_cases c3 : a1 = a2
      · refine refuse (v := -2) ?_ ?_
        · unfold f_X11_ask
          simp only [kT_1 h, g11, if_true, some_bind, c_has h wf hc, if_pos c1, n10, if_false, if_pos c2, if_pos c3]
        · unfold f_X12_ask
          simp only [kT_129 h, pi', if_true, some_bind, m_isOfficial h wf hm0, if_pos c1, n10, if_false, if_pos c2, if_pos c3]
      · by_cases c4 : 0 ≤ a3 ∧ a3 ≤ 1
        · by_cases c5 : 0 ≤ a4 ∧ a4 ≤ 1
          · by_cases c6 : O 0 6 ≤ 0
            · obtain ⟨o, rfl⟩ := Int.eq_ofNat_of_zero_le c1.1
              obtain ⟨q, rfl⟩ := Int.eq_ofNat_of_zero_le c2.1
              obtain ⟨w, rfl⟩ := Int.eq_ofNat_of_zero_le c4.1
              have ho : (o : Int) < O 0 4 := c1.2
              have hq2 : (q : Int) < O 0 4 := c2.2
              have hw2 : w < 2 := by omega
              have hwo : WO O o := wf.2.2.2.2.2.2.2.2.1 o ho
              have hold : sl (O 0 4).toNat (O (12 + w) o) ∧ hb (O (12 + w) o) o = false := by
                rcases (by omega : w = 0 ∨ w = 1) with e | e
                · subst e; exact hwo.2.2.2.2.2.2.2.2.1
                · subst e; exact hwo.2.2.2.2.2.2.2.2.2
              obtain ⟨v, ev⟩ : ∃ v, v = askw (O (12 + w) o) q a4 := ⟨_, rfl⟩
              have hv : sl (O 0 4).toNat v ∧ hb v o = false := by
                rw [ev]
                exact ⟨sl_askw hold.1 (by omega) (by omega) a4, hb_askw (by omega) hold.2 (by omega) a4⟩
              obtain ⟨O', eO⟩ : ∃ O', O' = rwO O (12 + w) o v := ⟨_, rfl⟩
              have o0 : ∀ k, O' 0 k = O 0 k := fun k => by rw [eO, rw_o _ _ (by omega)]
              have oa : ∀ a k, ¬ (a = 12 + w) → O' a k = O a k := fun a k ha => by rw [eO, rw_o _ _ (by omega)]
              have wf' : WF O' := by
                obtain ⟨w1, w2, w3, w4, w5, w6, w7, w8, w9, w10⟩ := wf
                unfold WF
                simp only [o0]
                refine ⟨w1, w2, w3, w4, w5, w6, w7, w8, fun p hp => ?_, fun r c hr hcc => ?_⟩
                · have hp9 := w9 p hp
                  unfold WO at hp9 ⊢
                  rw [oa 3 _ (by omega), oa 4 _ (by omega), oa 5 _ (by omega), oa 6 _ (by omega), oa 7 _ (by omega), oa 8 _ (by omega), oa 9 _ (by omega), oa 10 _ (by omega), oa 11 _ (by omega)]
                  simp only [o0]
                  refine ⟨hp9.1, hp9.2.1, hp9.2.2.1, hp9.2.2.2.1, hp9.2.2.2.2.1, hp9.2.2.2.2.2.1, hp9.2.2.2.2.2.2.1, hp9.2.2.2.2.2.2.2.1, ?_, ?_⟩
                  · by_cases z : w = 0 ∧ p = o
                    · obtain ⟨rfl, rfl⟩ := z
                      rw [eO]
                      show sl _ (rwO O (12 + 0) p v (12 + 0) p) ∧ hb (rwO O (12 + 0) p v (12 + 0) p) p = false
                      rw [rw_s]; exact hv
                    · rw [eO, rw_o _ _ (by omega)]; exact hp9.2.2.2.2.2.2.2.2.1
                  · by_cases z : w = 1 ∧ p = o
                    · obtain ⟨rfl, rfl⟩ := z
                      rw [eO]
                      show sl _ (rwO O (12 + 1) p v (12 + 1) p) ∧ hb (rwO O (12 + 1) p v (12 + 1) p) p = false
                      rw [rw_s]; exact hv
                    · rw [eO, rw_o _ _ (by omega)]; exact hp9.2.2.2.2.2.2.2.2.2
                · rw [oa _ _ (by omega)]; exact w10 r c hr hcc
              have m0 : O 0 6 = 0 := by omega
              obtain ⟨J, eJ⟩ : ∃ J, J = mu (mu (mu (mu I (29 + (9 + w)) o v) 1 15 0) 68 6 0) 79 6 0 := ⟨_, rfl⟩
              obtain ⟨K, eK⟩ : ∃ K, K = mu (mu J 129 0 0) (138 + w) o v := ⟨_, rfl⟩
              have agJ : ∀ a b, ¬ (a = 38 + w) → ¬ (a = 1 ∧ b = 15) → ¬ ((a = 68 ∨ a = 79) ∧ b = 6) → J a b = I a b := fun a b h1 h2 h3 => by
                rw [eJ, mu_o _ _ (by omega), mu_o _ _ (by omega), mu_o _ _ (by omega), mu_o _ _ (by omega)]
              have agK : ∀ a b, a < 129 → K a b = J a b := fun a b h1 => by rw [eK, mu_o _ _ (by omega), mu_o _ _ (by omega)]
              have hmJ : MW O 0 J := mw_ag hm (fun a b h1 h2 => agJ a b (by omega) (by omega) (by omega))
              have hmJ0 := mw_fr hmJ (fr_0 J)
              refine ⟨if hb (O (12 + w) o) q then 1 else 0, J, K, O', ?_, ?_, ⟨h, wf', ?_, ?_, lg_0 (by rw [o0]; exact m0), ?_, ?_, ?_, ?_⟩, Or.inr ⟨?_, ?_, Or.inl ?_, ?_⟩⟩
              · unfold f_X11_ask
                simp only [kT_1 h, g11, if_true, some_bind, c_has h wf hc, if_pos c1, n10, if_false, if_pos c2, if_neg c3, f_isBit1, if_pos c4, if_pos c5, show gi T 2 6 26 I = some (I 26 6) by simp only [agPl h], cv_moved hc, if_pos c6, pg h]
                rw [ia_eq (by omega) (by omega), show (9 + (w : Int)) = ((9 + w : Nat) : Int) by omega, c_row h (by omega), some_bind, c_cell h wf hc (by omega) ho, some_bind, bit1 _ (by omega), some_bind, show 3 + (9 + w) = 12 + w by omega]
                have hsto : ∀ x, sto T 20 (29 + (9 + w)) (o : Int) x I = some (mu I (29 + (9 + w)) o x) := fun x => by rw [ev_sto (kT_told h (by omega)), if_pos (by omega), Int.toNat_natCast]
                have hav := askv (O (12 + w) o) hold.1.1 q (by omega) a4 (by omega)
                rw [hsto, some_bind]
                by_cases z : (if hb (O (12 + w) o) q then (1 : Int) else 0) = a4
                · rw [if_pos z, thn_l, c_forgetAll h, some_bind]
                  rw [if_pos z] at hav
                  have e0 : I (29 + (9 + w)) o = v := by
                    have := hc.2.2.1 (9 + w) o (by omega) ho
                    rw [show 26 + 3 + (9 + w) = 29 + (9 + w) by omega, show 3 + (9 + w) = 12 + w by omega] at this
                    rw [this, ev]
                    unfold askw
                    exact hav
                  rw [eJ, mu_same I _ _ e0]
                · rw [if_neg z, thn_l, c_forgetAll h, some_bind]
                  rw [if_neg z] at hav
                  rw [eJ, ev]
                  unfold askw
                  rw [hav]
              · unfold f_X12_ask
                simp only [kT_129 h, pi', if_true, some_bind, m_isOfficial h wf hmJ0, if_pos c1, n10, if_false, if_pos c2, if_neg c3, m_in, if_pos c4, if_pos c5, g17, m_h5 h hmJ0, if_pos c6, g19, g20]
                rcases (by omega : w = 0 ∨ w = 1) with e | e
                · subst e
                  rw [if_pos (by rfl), thn_l]
                  simp only [m_needs h wf hmJ0 ho, some_bind, bit1 _ (show q < 32 by omega)]
                  rw [eK]
                  have hs : ∀ x, sto T 20 138 (o : Int) x (mu J 129 0 0) = some (mu (mu J 129 0 0) 138 o x) := fun x => by rw [ev_sto (kT_138 h), if_pos (by omega), Int.toNat_natCast]
                  rw [ev]
                  unfold askw
                  by_cases z : a4 = 1
                  · rw [if_pos z, if_pos z, thn_l, hs]; rfl
                  · rw [if_neg z, if_neg z, thn_l, hs]; rfl
                · subst e
                  rw [if_neg (by decide), thn_l]
                  simp only [m_bars h wf hmJ0 ho, some_bind, bit1 _ (show q < 32 by omega)]
                  rw [eK]
                  have hs : ∀ x, sto T 20 139 (o : Int) x (mu J 129 0 0) = some (mu (mu J 129 0 0) 139 o x) := fun x => by rw [ev_sto (kT_139 h), if_pos (by omega), Int.toNat_natCast]
                  rw [ev]
                  unfold askw
                  by_cases z : a4 = 1
                  · rw [if_pos z, if_pos z, thn_l, hs]; rfl
                  · rw [if_neg z, if_neg z, thn_l, hs]; rfl
              · rw [eO]
                have := cv_td hc (show 9 + w < 11 by omega) (o := o) v
                rw [show 3 + (9 + w) = 12 + w by omega] at this
                exact cv_ag this (fun a b h1 h2 => by rw [agK _ _ (by omega), eJ, mu_o _ _ (by omega), mu_o _ _ (by omega), mu_o _ _ (by omega)])
              · rw [eO, eK]
                exact mw_nd hmJ0 hw2 v
              · intro r c hr hcc
                have hR := wf.2.1
                rw [o0] at hr hcc
                rw [cg_fw (fun a k ha => oa a k (by omega)), agK _ _ (by omega), agJ _ _ (by omega) (by omega) (by omega)]
                exact ht r c hr hcc
              · intro p x hp hx
                rw [o0] at hp
                rw [cg_opn (fun a k ha => oa a k (by omega)), agK _ _ (by omega), agJ _ _ (by omega) (by omega) (by omega)]
                exact hn p x hp hx
              · rw [wn_0 (by rw [o0]; exact m0)]
                have e1 : st0 O' (O' 0 3) = Wn O := by rw [wn_0 m0]; funext z; unfold st0; simp only [o0]
                rw [e1]
                exact cw_ag k (fun a b h1 => by rw [agK _ _ (by omega), agJ _ _ (by omega) (by omega) (by omega)])
              · rw [eK, mu_o _ _ (by omega), mu_o _ _ (by omega), agJ _ _ (by omega) (by omega) (by omega)]; exact hq
              · rw [agK _ _ (by omega), eJ, mu_o _ _ (by omega), mu_s]
              · rw [agK _ _ (by omega), eJ, mu_s]
              · rw [agK _ _ (by omega), eJ, mu_o _ _ (by omega), mu_o _ _ (by omega), mu_s]
              · rw [eK, eJ]
                refine rf_mu (rf_mu (rf_mu (rf_mu (rf_mu (rf_mu (rf_r I) (rst_w (by omega) (by omega))) (by decide)) (by decide)) (by decide)) (by decide)) ?_
                exact (by decide : ∀ w, w < 2 → ∀ o, o < 8 → rst (138 + w) o = false) w hw2 o (by omega)
            · refine refuse (v := -5) ?_ ?_
              · unfold f_X11_ask
                simp only [kT_1 h, g11, if_true, some_bind, c_has h wf hc, if_pos c1, n10, if_false, if_pos c2, if_neg c3, f_isBit1, if_pos c4, if_pos c5, show gi T 2 6 26 I = some (I 26 6) by simp only [agPl h], cv_moved hc, if_neg c6]
              · unfold f_X12_ask
                simp only [kT_129 h, pi', if_true, some_bind, m_isOfficial h wf hm0, if_pos c1, n10, if_false, if_pos c2, if_neg c3, m_in, if_pos c4, if_pos c5, g17, m_h5 h hm0, if_neg c6]
          · refine refuse (v := -2) ?_ ?_
            · unfold f_X11_ask
              simp only [kT_1 h, g11, if_true, some_bind, c_has h wf hc, if_pos c1, n10, if_false, if_pos c2, if_neg c3, f_isBit1, if_pos c4, if_neg c5, n00]
            · unfold f_X12_ask
              simp only [kT_129 h, pi', if_true, some_bind, m_isOfficial h wf hm0, if_pos c1, n10, if_false, if_pos c2, if_neg c3, m_in, if_pos c4, if_neg c5, n00]
        · refine refuse (v := -2) ?_ ?_
          · unfold f_X11_ask
            simp only [kT_1 h, g11, if_true, some_bind, c_has h wf hc, if_pos c1, n10, if_false, if_pos c2, if_neg c3, f_isBit1, if_neg c4, n00]
          · unfold f_X12_ask
            simp only [kT_129 h, pi', if_true, some_bind, m_isOfficial h wf hm0, if_pos c1, n10, if_false, if_pos c2, if_neg c3, m_in, if_neg c4, n00]
    · refine refuse (v := -2) ?_ ?_
      · unfold f_X11_ask
        simp only [kT_1 h, g11, if_true, some_bind, c_has h wf hc, if_pos c1, n10, if_false, if_neg c2, n00]
      · unfold f_X12_ask
        simp only [kT_129 h, pi', if_true, some_bind, m_isOfficial h wf hm0, if_pos c1, n10, if_false, if_neg c2, n00]
  · refine refuse (v := -2) ?_ ?_
    · unfold f_X11_ask
      simp only [kT_1 h, g11, if_true, some_bind, c_has h wf hc, if_neg c1, n00]
    · unfold f_X12_ask
      simp only [kT_129 h, pi', if_true, some_bind, m_isOfficial h wf hm0, if_neg c1, n00]
theorem c_planChanged (h : Ag T A) (wf : WF O) (g : LG O) (hc : CV O 26 I) : OK (f_X11_planChanged T A 1 I) (fun J => (∀ o k, (o < 49 ∨ 65 < o) → ¬ (o = 1 ∧ k = 15) → ¬ ((o = 68 ∨ o = 79) ∧ k = 6) → J o k = I o k) ∧ TW O J ∧ TN O J ∧ CW (Wn O) 64 J ∧ J 1 15 = 0 ∧ J 68 6 = 0 ∧ J 79 6 = 0) := by
  unfold f_X11_planChanged
  rw [if_pos (by rw [kT_1 h]), show gr T A 11 3 1 = some 47 by simp only [agX h], some_bind, show gr T A 11 2 1 = some 26 by simp only [agX h], some_bind]
  refine ok_b (ok_m (c_drawUp h wf hc) (fun J hJ => ?_))
  obtain ⟨f, t1, t2⟩ := hJ
  rw [show pz T 11 15 1 0 J = some (mu J 1 15 0) by simp only [agX h], some_bind]
  have hc1 : CV O 26 (mu J 1 15 0) := cv_ag hc (fun a b h1 h2 => by rw [mu_o _ _ (by omega), f _ _ (by omega)])
  refine ok_b (ok_m (c_retrace h wf g hc1 (tw_ag wf t1 (fun a b h1 h2 => mu_o _ _ (by omega))) (tn_ag wf t2 (fun a b h1 h2 => mu_o _ _ (by omega)))) (fun K hK => ok_i ⟨fun o k h1 h2 h3 => ?_, tw_ag wf t1 (fun a b h1 h2 => ?_), tn_ag wf t2 (fun a b h1 h2 => ?_), hK.2.1, ?_, hK.2.2.1, hK.2.2.2⟩))
  · rw [hK.1 _ _ (by omega) (by omega) h3, mu_o _ _ (by omega), f _ _ (by omega)]
  · rw [hK.1 _ _ (by omega) (by omega) (by omega), mu_o _ _ (by omega)]
  · rw [hK.1 _ _ (by omega) (by omega) (by omega), mu_o _ _ (by omega)]
  · rw [hK.1 _ _ (by omega) (by omega) (by omega), mu_s]
end
