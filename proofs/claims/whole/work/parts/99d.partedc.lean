/-! B: parted, the reference and the call. -/
section
variable {T : Knd} {A : Rfs} {O : Ofc} {I : Mem}
theorem m_isParted (h : Ag T A) (wf : WF O) (hm : MW O 0 I) {w i j : Nat} (hw : w < 2) (hi : i < oN O) (hj : j < oN O) (hx : hb (O (12 + w) i) j = true) : OK (f_X12_isParted T A 129 (138 + w) (i : Int) (j : Int) I) (fun z => z.1 = bi (pt O w i j) ∧ Fo 149 149 I z.2) := by
  obtain ⟨hn, en⟩ := on_le wf
  have hT : T (138 + w) = (20, 40) := by
    rcases (by omega : w = 0 ∨ w = 1) with e | e
    · subst e; exact kT_138 h
    · subst e; exact kT_139 h
  have l3 : ∀ w, w < 2 → ∀ i, i < oN O → I (138 + w) i = O (12 + w) i := fun w hw i hi => by
    rcases (by omega : w = 0 ∨ w = 1) with e | e
    · subst e; exact mw_needs hm (by omega)
    · subst e; exact mw_bars hm (by omega)
  have ev := l3 w hw i hi
  have cv := wo_row wf hw hi
  unfold f_X12_isParted
  rw [if_pos (by rw [kT_129 h]), ev_ld hT, if_pos (by omega), some_bind, Int.toNat_natCast, ev_sto hT, if_pos (by omega), some_bind, Int.toNat_natCast]
  refine ok_b (ok_m (m_had (O := O) h hn (by rw [mu_o _ _ (by omega), mw_n hm, en]) (by rw [mu_o _ _ (by omega)]; exact mw_permit hm)) (fun z hz => ?_))
  obtain ⟨zv, L⟩ := z
  obtain ⟨z1, f1⟩ := hz
  dsimp only at z1 f1 ⊢
  rw [ev_ld hT, if_pos (by omega), some_bind, Int.toNat_natCast, ev_sto hT, if_pos (by omega), some_bind, Int.toNat_natCast, f1 _ _ (by omega), mu_s, ev, or_clr cv (by omega) hx]
  have e : hd O (fun t => mu I (138 + w) i (iand (I (138 + w) i) (ixor (ishl 1 (j : Int)) (-1))) 138 t) (fun t => mu I (138 + w) i (iand (I (138 + w) i) (ixor (ishl 1 (j : Int)) (-1))) 139 t) = hd O (ndw O w i j) (brw O w i j) := by
    refine hd_ext hn (fun t ht => ?_) (fun t ht => ?_)
    · rcases (by omega : w = 0 ∨ w = 1) with e | e
      · subst e
        unfold ndw
        rw [if_pos rfl]
        exact clr_at (x := 138) (by omega) hi (fun t ht => l3 0 (by omega) t ht) hx t ht
      · subst e
        unfold ndw
        rw [if_neg (by decide)]
        rw [mu_o _ _ (by omega)]
        exact l3 0 (by omega) t ht
    · rcases (by omega : w = 0 ∨ w = 1) with e | e
      · subst e
        unfold brw
        rw [if_pos rfl]
        rw [mu_o _ _ (by omega)]
        exact l3 1 (by omega) t ht
      · subst e
        unfold brw
        rw [if_neg (by decide)]
        exact clr_at (x := 139) (by omega) hi (fun t ht => l3 1 (by omega) t ht) hx t ht
  rw [z1, zck_bi, some_bind]
  refine ok_i ⟨?_, fun a b hab => ?_⟩
  · try dsimp only
    rw [e]
    unfold pt
    rw [hx, Bool.true_and]
  · try dsimp only
    by_cases c : a = 138 + w ∧ b = i
    · rw [c.1, c.2, mu_s, ev]
    · rw [mu_o _ _ c, f1 _ _ hab, mu_o _ _ c]
theorem q_parted (b : Bas T A O I) : Quiet2 (f_X11_parted T A 1 I) (fun J => f_X12_parted T A 129 J) I := by
  obtain ⟨h, wf, hc, hm, g, ht, hnx, k, hq⟩ := b
  obtain ⟨hn, en⟩ := on_le wf
  obtain ⟨k0, k1, k2, k3, k4, k5, k6⟩ := q101 h
  have hp := pw_le hn
  have pi' : ∀ q v (J : Mem), pi T 12 q 129 v J = some (mu J 129 q v) := fun q v J => by simp only [agMg h]
  have g17 : gr T A 12 17 129 = some 136 := by simp only [agMg h]
  have g19 : gr T A 12 19 129 = some 138 := by simp only [agMg h]
  have g20 : gr T A 12 20 129 = some 139 := by simp only [agMg h]
  unfold f_X11_parted f_X12_parted
  rw [if_pos (by rw [kT_1 h]), show gr T A 11 2 1 = some 26 by simp only [agX h], some_bind, c_isThere h hc, some_bind]
  simp only [if_pos (show (T 129).1 = 12 by rw [kT_129 h]), pi', some_bind]
  by_cases c : 0 < O 0 0
  · obtain ⟨⟨x, J⟩, e, z1, z2, z3, z4, z5, z6, z7⟩ := c_learn h wf hc
    dsimp only at z1 z2 z3 z4 z5 z6 z7
    subst z1
    have hcJ := cv_fo hc z2 (by decide)
    have lJ : Lrn O J := ⟨z3, z4, fun w hw i hi => by
      rcases (by omega : w = 0 ∨ w = 1) with e | e
      · subst e
        show J 102 i = O 12 i
        rw [z5 i (by omega)]
        exact cv_told hc (w := 9) (by decide) (by omega)
      · subst e
        show J 103 i = O 13 i
        rw [z6 i (by omega)]
        exact cv_told hc (w := 10) (by decide) (by omega)⟩
    have cd : f_X6_canBeHad T A 101 (O 0 5) J = some (bi (hd O (O 12) (O 13))) := c_had h hn z4 z7 (O 0 5)
    -- the class
    have cc : ∃ K, f_X6_firstParting T A 101 (O 0 5) J = some (if hd O (O 12) (O 13) = true then -1 else prt O, K) ∧ Fo 104 104 J K := by
      unfold f_X6_firstParting
      rw [if_pos k0, cd, some_bind]
      cases hh : hd O (O 12) (O 13)
      · rw [if_pos (show bi false = 0 from rfl), k1, some_bind]
        obtain ⟨⟨v, K⟩, eK, ⟨v1, v2, v3⟩, fK⟩ := c_pof h wf lJ (w := 0) (by omega)
        dsimp only at v1 v2 v3 fK
        rw [show f_X6_firstPartingOf T A 101 102 (O 0 5) J = some (v, K) from eK, some_bind]
        dsimp only
        unfold prt
        rw [← v1]
        by_cases d : v = -1
        · rw [if_pos d, if_pos d, k2, some_bind]
          obtain ⟨⟨u, L⟩, eL, ⟨u1, u2, u3⟩, fL⟩ := c_pof h wf (lrn_fo lJ fK) (w := 1) (by omega)
          dsimp only at u1 u2 u3 fL
          rw [show f_X6_firstPartingOf T A 101 103 (O 0 5) K = some (u, L) from eL, some_bind]
          dsimp only
          rw [← u1]
          by_cases d2 : u = -1
          · rw [if_pos d2, if_pos d2]
            exact ⟨L, rfl, fo_t fK fL⟩
          · rw [if_neg d2, if_neg d2, ia_eq (by omega) (by omega)]
            exact ⟨L, rfl, fo_t fK fL⟩
        · rw [if_neg d, if_neg d]
          exact ⟨K, rfl, fK⟩
      · rw [if_neg (show ¬ bi true = 0 by decide)]
        exact ⟨J, rfl, fo_r _ _ _⟩
    obtain ⟨K, eK, fK⟩ := cc
    have f1 : Fo 101 106 I K := fo_t z2 (fo_w fK (by decide) (by decide))
    have hmK := mw_fr (mw_fx hm (fx_sets f1)) (fr_0 K)
    -- the reference
    obtain ⟨⟨hv, L⟩, eL, l1, l2⟩ := m_had (O := O) h hn (by rw [mw_n hmK, en]) (mw_permit hmK)
    dsimp only at l1 l2
    have l1' : hv = bi (hd O (O 12) (O 13)) := by
      rw [l1, hd_ext hn (fun i hi => ?_) (fun i hi => ?_)]
      · exact mw_needs hmK (by omega)
      · exact mw_bars hmK (by omega)
    have hmL := mw_fo hmK l2 (by decide)
    rw [if_pos c, if_neg (by decide), e, some_bind]
    dsimp only
    rw [show gi T 2 5 26 J = some (J 26 5) by simp only [agPl h], some_bind, cv_permit hcJ, eK, some_bind]
    suffices hz : OK (f_X12_parted T A 129 K) (fun z => z.1 = (if hd O (O 12) (O 13) = true then -1 else prt O) ∧ Fo 149 149 (mu K 129 0 0) z.2) by
      obtain ⟨⟨zv, M⟩, ez, zz1, zz2⟩ := hz
      dsimp only at zz1 zz2
      refine ⟨_, K, M, rfl, ?_, fx_t (fx_sets f1) (fx_t (fx_fr (fr_0 K)) (fx_fr (fr_149 zz2)))⟩
      dsimp only
      rw [← zz1]
      unfold f_X12_parted at ez
      rw [if_pos (show (T 129).1 = 12 by rw [kT_129 h]), pi', some_bind] at ez
      exact ez
    unfold f_X12_parted
    rw [if_pos (show (T 129).1 = 12 by rw [kT_129 h]), pi', some_bind, m_isOffice h hmK, some_bind, if_pos c, if_neg (by decide), eL, some_bind]
    dsimp only
    rw [l1']
    cases hh : hd O (O 12) (O 13)
    · rw [if_pos (show bi false = 0 from rfl), if_neg (show ¬ false = true by decide)]
      refine ok_tn (ok_m (P := fun z => match z with | .inl v => (∃ w i j : Nat, v.1 = (w : Int) ∧ v.2.1 = (i : Int) ∧ v.2.2.1 = (j : Int) ∧ w < 2 ∧ hit O w i j ∧ ∀ w', w' < w → prw O w' = -1) ∧ Fo 149 149 (mu K 129 0 0) v.2.2.2 | .inr r => r.1 = -1 ∧ (∀ w', w' < 2 → prw O w' = -1) ∧ Fo 149 149 (mu K 129 0 0) r.2) ?_ ?_)
      · refine it_run (fun w (x : Int × Mem) => x.1 = (w : Int) ∧ Fo 149 149 (mu K 129 0 0) x.2 ∧ ∀ w', w' < w → prw O w' = -1) 2 ?_ ?_ 0 FU _ (by omega) (by unfold FU; omega) ⟨rfl, l2, fun w' hw => absurd hw (by omega)⟩
        · rintro w ⟨x1, Q⟩ hw ⟨rfl, qF, qN⟩
          try dsimp only at qF qN ⊢
          rw [if_pos (by omega)]
          refine it_run (fun i (x : Int × Mem) => x.1 = (i : Int) ∧ Fo 149 149 (mu K 129 0 0) x.2 ∧ ∀ i', i' < i → ∀ j', j' < oN O → pt O w i' j' = false) (oN O) ?_ ?_ 0 FU _ (by omega) (by unfold FU; omega) ⟨rfl, qF, fun i' hi => absurd hi (by omega)⟩
          · rintro i ⟨x1, M⟩ hi ⟨rfl, mF, mN⟩
            try dsimp only at mF mN ⊢
            have hmM := mw_fo hmK mF (by decide)
            rw [g17, some_bind, m_h3 h hmM, some_bind, if_pos (by omega)]
            refine it_run (fun j (x : Int × Mem) => x.1 = (j : Int) ∧ Fo 149 149 (mu K 129 0 0) x.2 ∧ ∀ j', j' < j → pt O w i j' = false) (oN O) ?_ ?_ 0 FU _ (by omega) (by unfold FU; omega) ⟨rfl, mF, fun j' hj => absurd hj (by omega)⟩
            · rintro j ⟨x1, V⟩ hj ⟨rfl, vF, vN⟩
              try dsimp only at vF vN ⊢
              have hmV := mw_fo hmK vF (by decide)
              rw [some_bind, m_h3 h hmV, some_bind, if_pos (by omega)]
              refine ok_tn (ok_e (v := .inl (O (12 + w) i)) ?_ ?_)
              · rcases (by omega : w = 0 ∨ w = 1) with e | e
                · subst e
                  rw [if_pos (by decide), g19, some_bind, m_needs h wf hmV (by omega), some_bind]
                · subst e
                  rw [if_neg (by decide), g20, some_bind, m_bars h wf hmV (by omega), some_bind]
              · show OK _ _
                dsimp only
                rw [f_isBit (by omega), some_bind, ia_1 (by omega)]
                cases hx : hb (O (12 + w) i) j
                · rw [if_pos (show (if false = true then (1 : Int) else 0) = 0 from rfl)]
                  refine ok_i ⟨rfl, vF, fun j' hj' => ?_⟩
                  by_cases e : j' = j
                  · rw [e]; unfold pt; rw [hx, Bool.false_and]
                  · exact vN j' (by omega)
                · rw [if_neg (show ¬ (if true = true then (1 : Int) else 0) = 0 by decide)]
                  refine ok_tn (ok_e (v := .inl (138 + w)) ?_ ?_)
                  · rcases (by omega : w = 0 ∨ w = 1) with e | e
                    · subst e
                      rw [if_pos (by decide), g19, some_bind]
                    · subst e
                      rw [if_neg (by decide), g20, some_bind]
                  · show OK _ _
                    dsimp only
                    refine ok_b (ok_m (m_isParted h wf hmV hw hi hj hx) (fun z hz => ?_))
                    obtain ⟨zv, U⟩ := z
                    obtain ⟨y1, y2⟩ := hz
                    dsimp only at y1 y2 ⊢
                    rw [y1]
                    cases hpt : pt O w i j
                    · rw [if_pos (show bi false = 0 from rfl)]
                      refine ok_i ⟨rfl, fo_t vF y2, fun j' hj' => ?_⟩
                      by_cases e : j' = j
                      · rw [e]; exact hpt
                      · exact vN j' (by omega)
                    · rw [if_neg (show ¬ bi true = 0 by decide)]
                      exact ok_i ⟨⟨w, i, j, rfl, rfl, rfl, hw, ⟨hi, hj, hpt, vN, mN⟩, qN⟩, fo_t vF y2⟩
            · rintro ⟨x1, V⟩ ⟨rfl, vF, vN⟩
              try dsimp only at vF vN ⊢
              have hmV := mw_fo hmK vF (by decide)
              rw [some_bind, m_h3 h hmV, some_bind, if_neg (by omega), ia_1 (by omega)]
              refine ok_i ⟨rfl, vF, fun i' hi' => ?_⟩
              by_cases e : i' = i
              · rw [e]; exact vN
              · exact mN i' (by omega)
          · rintro ⟨x1, M⟩ ⟨rfl, mF, mN⟩
            try dsimp only at mF mN ⊢
            have hmM := mw_fo hmK mF (by decide)
            rw [g17, some_bind, m_h3 h hmM, some_bind, if_neg (by omega), ia_1 (by omega)]
            refine ok_i ⟨rfl, mF, fun w' hw' => ?_⟩
            by_cases e : w' = w
            · rw [e]; exact hit_no mN
            · exact qN w' (by omega)
        · rintro ⟨x1, Q⟩ ⟨rfl, qF, qN⟩
          try dsimp only at qF qN ⊢
          rw [if_neg (by omega)]
          exact ok_i ⟨rfl, qN, qF⟩
      · rintro (⟨v1, v2, v3, M⟩ | ⟨r1, M⟩) hz
        · obtain ⟨⟨w, i, j, e1, e2, e3, hw, ht, hv⟩, mF⟩ := hz
          show OK _ _
          dsimp only at e1 e2 e3 mF ⊢
          have t1 := ht.1
          have t2 := ht.2.1
          have tv := hit_val ht
          rw [e1, e2, e3, im_eq (by omega) (by omega), im_eq (by omega) (by omega), ia_eq (a := 100 * (w : Int)) (b := 10 * (i : Int)) (by omega) (by omega), ia_eq (by omega) (by omega)]
          refine ok_i ⟨?_, mF⟩
          dsimp only
          unfold prt
          rcases (by omega : w = 0 ∨ w = 1) with e | e
          · subst e
            rw [tv, if_neg (by omega)]
            omega
          · subst e
            rw [hv 0 (by omega), if_pos rfl, tv, if_neg (by omega)]
            omega
        · obtain ⟨e1, e2, mF⟩ := hz
          dsimp only at e1 mF
          show _ ∧ _
          refine ⟨?_, mF⟩
          dsimp only
          unfold prt
          rw [e2 0 (by omega), if_pos rfl, e2 1 (by omega), if_pos rfl]
          exact e1
    · rw [if_neg (show ¬ bi true = 0 by decide), if_pos rfl]
      exact ok_i ⟨rfl, l2⟩
  · rw [if_neg c, if_pos rfl]
    refine ⟨-2, I, mu I 129 0 0, rfl, ?_, fx_fr (fr_0 I)⟩
    dsimp only
    rw [m_isOffice h (mw_fr hm (fr_0 I)), some_bind, if_neg c, if_pos rfl]
end
