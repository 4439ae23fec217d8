/-! B: start. -/
section
variable {T : Knd} {A : Rfs} {O : Ofc} {I : Mem} {W : Wkr} {n : Nat} {u : Int} {R : Nat}
theorem ss_none (O : Ofc) (h : Nat) : ((ss O h).1 = -1 ↔ (ss O h).1 < 0) ∧ ((ss O h).1 = -1 → (ss O h).2 = -1) := by
  induction h with
  | zero => rw [ss]; exact ⟨⟨fun _ => by decide, fun _ => rfl⟩, fun _ => rfl⟩
  | succ h ih =>
    rw [ss]
    split
    · exact ih
    · split
      · exact ⟨by dsimp only; omega, fun q => by dsimp only at q; omega⟩
      · exact ih
theorem sval_rg (wf : WF O) (hl : 0 < O 0 0) {h : Nat} (hh : h < 50) : -1 ≤ sval O h ∧ sval O h ≤ 400 := by
  unfold sval
  have s := st0_ws wf hl (h := (h : Int)) (by omega) (by omega)
  cases hbl : bl (key 0) (LV O (rt (st0 O (h : Int)))) with
  | none => rw [bv_none hbl]; exact ⟨by decide, by decide⟩
  | some m =>
    rw [bv_some hbl]
    have r := lv_in wf _ _ _ _ _ (nd_0 wf (rt_ws s) rfl rfl) m (bl_mem hbl)
    have e : key 0 m = m.1 0 := rfl
    have := r.1.1.1
    omega
theorem c_findStart (b : Bas T A O I) (hl : 0 < O 0 0) : OK (f_X11_findStart T A 1 I) (fun J => J 1 16 = (ss O 50).1 ∧ J 1 17 = (ss O 50).2 ∧ J 1 15 = 1 ∧ ∀ o j, ¬ (66 ≤ o ∧ o ≤ 67) → ¬ (90 ≤ o ∧ o ≤ 100) → ¬ (o = 1 ∧ 15 ≤ j) → J o j = I o j) := by
  have b' := b
  obtain ⟨h, wf, hc, hm, g, ht, hn, k, hq⟩ := b
  have g5 : gr T A 11 5 1 = some 66 := by simp only [agX h]
  have g8 : gr T A 11 8 1 = some 90 := by simp only [agX h]
  have p11 : ∀ q v (J : Mem), pi T 11 q 1 v J = some (mu J 1 q v) := fun q v J => by simp only [agX h]
  have i11 : ∀ q (J : Mem), gi T 11 q 1 J = some (J 1 q) := fun q J => by simp only [agX h]
  unfold f_X11_findStart
  rw [if_pos (by rw [kT_1 h]), p11, some_bind, p11, some_bind]
  refine ok_tn (ok_m (P := fun z => match z with | .inl J => J 1 16 = (ss O 50).1 ∧ J 1 17 = (ss O 50).2 ∧ ∀ o j, ¬ (66 ≤ o ∧ o ≤ 67) → ¬ (90 ≤ o ∧ o ≤ 100) → ¬ (o = 1 ∧ 15 ≤ j) → J o j = I o j | .inr _ => False) ?_ ?_)
  · refine it_run (fun i (s : Int × Mem) => s.1 = (i : Int) ∧ s.2 1 16 = (ss O i).1 ∧ s.2 1 17 = (ss O i).2 ∧ ∀ o j, ¬ (66 ≤ o ∧ o ≤ 67) → ¬ (90 ≤ o ∧ o ≤ 100) → ¬ (o = 1 ∧ 15 ≤ j) → s.2 o j = I o j) 50 ?_ ?_ 0 FU _ (by omega) (by unfold FU; omega) ⟨rfl, by dsimp only; rw [mu_o _ _ (by omega), mu_s]; rfl, by dsimp only; rw [mu_s]; rfl, fun o j h1 h2 h3 => by dsimp only; rw [mu_o _ _ (by omega), mu_o _ _ (by omega)]⟩
    · rintro i ⟨si, M⟩ hi ⟨rfl, m1, m2, mF⟩
      try dsimp only at m1 m2 mF ⊢
      have hr := sval_rg wf hl hi
      have hcM : CV O 26 M := cv_ag hc (fun a b h1 h2 => mF a b (by omega) (by omega) (by omega))
      have htM : TW O M := tw_ag wf ht (fun a b h1 h2 => mF a b (by omega) (by omega) (by omega))
      have hnM : TN O M := tn_ag wf hn (fun a b h1 h2 => mF a b (by omega) (by omega) (by omega))
      rw [if_pos (by omega), g5, some_bind]
      refine ok_b (ok_m (c_beginAt h (wk_66 h) (by decide) hcM (i : Int)) (fun X hX => ?_))
      obtain ⟨x1, x2⟩ := hX
      have hn8 := wf_n wf
      rw [g8, some_bind, some_bind]
      refine ok_b (ok_m (c_search h (rk_90 h) (by decide) wf (wk_66 h) (by decide) (cv_ag hcM (fun a b h1 h2 => x1 a b (by omega))) (tw_ag wf htM (fun a b h1 h2 => x1 a b (by omega))) (tn_ag wf hnM (fun a b h1 h2 => x1 a b (by omega))) x2 (st0_ws wf hl (by omega) (by omega)) (a := -1) (al := 0) (by omega) (Or.inl rfl)) (fun Y hY => ?_))
      obtain ⟨⟨V, v1, v2⟩, y1, y2⟩ := hY
      rw [rts_n] at v1 v2
      have e1 : f_X5_best T A 90 0 Y = some (bv 0 V) := c_best (rk_90 h) (a := 0) (by decide) v1
      have e2 : bv 0 V = sval O i := by unfold bv sval bv; rw [v2.2.1]
      have agY : ∀ o j, ¬ (66 ≤ o ∧ o ≤ 67) → ¬ (90 ≤ o ∧ o ≤ 100) → Y o j = M o j := fun o j h1 h2 => by rw [y2 _ _ (by omega), x1 _ _ (by omega)]
      have hVL : bl (key 0) V = bl (key 0) (LV O (rt (st0 O (i : Int)))) := v2.2.1
      have hs1 : ((V.length : Int) ≤ 0) ↔ sval O i = -1 := by
        constructor
        · intro q
          have : V = [] := List.length_eq_zero_iff.mp (by omega)
          rw [← e2, this]; rfl
        · intro q
          cases hbl : bl (key 0) V with
          | none => have := (bl_nil _ _).mp hbl; rw [this]; decide
          | some m =>
            have h0 := bv_0 wf (rt_ws (st0_ws wf hl (h := (i : Int)) (by omega) (by omega))) rfl rfl (k := 0) (m := m) (by rw [← hVL]; exact hbl)
            rw [bv_some hbl] at e2
            omega
      rw [some_bind, e1, some_bind, e2, some_bind, (rk_ev (rk_90 h)).2.2.2.2.2.2.2.1, some_bind, v1.1, ia_1 (by omega), isb_eq (by omega) (by omega), ss]
      by_cases q : sval O i = -1
      · rw [if_pos (hs1.mpr q)]
        refine ok_i ⟨rfl, ?_, ?_, fun o j h1 h2 h3 => ?_⟩
        · try dsimp only
          rw [agY _ _ (by omega) (by omega), if_pos q]; exact m1
        · try dsimp only
          rw [agY _ _ (by omega) (by omega), if_pos q]; exact m2
        · try dsimp only
          rw [agY _ _ h1 h2]; exact mF o j h1 h2 h3
      · rw [if_neg (fun z => q (hs1.mp z)), i11, some_bind, agY 1 16 (by omega) (by omega), m1, if_neg q]
        by_cases q2 : (ss O i).1 = -1 ∨ sval O i - (i : Int) < (ss O i).2
        · rw [if_pos q2]
          refine ok_tn (ok_e (v := .inl ()) ?_ ?_)
          · by_cases q3 : (ss O i).1 = -1
            · rw [if_pos q3]
            · rw [if_neg q3, i11, some_bind, agY 1 17 (by omega) (by omega), m2, if_pos (q2.resolve_left q3)]
          · show OK _ _
            dsimp only
            rw [p11, some_bind, p11, some_bind]
            refine ok_i ⟨rfl, ?_, ?_, fun o j h1 h2 h3 => ?_⟩
            · try dsimp only
              rw [mu_o _ _ (by omega), mu_s]
            · try dsimp only
              rw [mu_s]
            · try dsimp only
              rw [mu_o _ _ (by omega), mu_o _ _ (by omega), agY _ _ h1 h2]; exact mF o j h1 h2 h3
        · rw [if_neg q2]
          refine ok_tn (ok_e (v := .inr (.inl (((i + 1 : Nat) : Int), Y))) ?_ ?_)
          · rw [if_neg (fun z => q2 (Or.inl z)), i11, some_bind, agY 1 17 (by omega) (by omega), m2, if_neg (fun z => q2 (Or.inr z))]
          · show _ ∧ _
            refine ⟨rfl, ?_, ?_, fun o j h1 h2 h3 => ?_⟩
            · try dsimp only
              rw [agY _ _ (by omega) (by omega)]; exact m1
            · try dsimp only
              rw [agY _ _ (by omega) (by omega)]; exact m2
            · try dsimp only
              rw [agY _ _ h1 h2]; exact mF o j h1 h2 h3
    · rintro ⟨si, M⟩ ⟨rfl, m1, m2, mF⟩
      try dsimp only at m1 m2 mF ⊢
      rw [if_neg (by decide)]
      exact ok_i ⟨m1, m2, mF⟩
  · rintro (M | x) hM
    · obtain ⟨m1, m2, mF⟩ := hM
      show OK _ _
      dsimp only
      rw [show pz T 11 15 1 1 M = some (mu M 1 15 1) by simp only [agX h], some_bind]
      exact ok_i ⟨by rw [mu_o _ _ (by omega)]; exact m1, by rw [mu_o _ _ (by omega)]; exact m2, by rw [mu_s], fun o j h1 h2 h3 => by rw [mu_o _ _ (by omega)]; exact mF o j h1 h2 h3⟩
    · exact hM.elim
theorem m_laysStart (h : Ag T A) (wf : WF O) (hl : 0 < O 0 0) (hm : MW O 0 I) (hq : I 129 31 = 0) : OK (f_X12_laysStart T A 129 I) (fun J => J 129 42 = (ss O 50).1 ∧ ((ss O 50).1 ≠ -1 → J 129 43 = (ss O 50).2) ∧ Fr I J) := by
  have gi' : ∀ q (J : Mem), gi T 12 q 129 J = some (J 129 q) := fun q J => by simp only [agMg h]
  have pi' : ∀ q v (J : Mem), pi T 12 q 129 v J = some (mu J 129 q v) := fun q v J => by simp only [agMg h]
  have f42 : ∀ (J : Mem) v, Fr J (mu J 129 42 v) := fun J v => fr_mu (by decide)
  have f43 : ∀ (J : Mem) v, Fr J (mu J 129 43 v) := fun J v => fr_mu (by decide)
  unfold f_X12_laysStart
  rw [if_pos (by rw [kT_129 h]), pi', some_bind, pi', some_bind]
  refine it_run (fun i (s : Int × Mem) => s.1 = (i : Int) ∧ s.2 129 42 = (ss O i).1 ∧ ((ss O i).1 ≠ -1 → s.2 129 43 = (ss O i).2) ∧ Fr I s.2) 50 ?_ ?_ 0 FU _ (by omega) (by unfold FU; omega) ⟨rfl, by dsimp only; rw [mu_o _ _ (by omega), mu_s]; rfl, fun q => absurd rfl q, fr_t (f42 I _) (f43 _ _)⟩
  · rintro i ⟨si, M⟩ hi ⟨rfl, m1, m2, mF⟩
    try dsimp only at m1 m2 mF ⊢
    have hr := sval_rg wf hl hi
    have hmM := mw_fr hm mF
    have qM : M 129 31 = 0 := by rw [mF 129 31 (by decide)]; exact hq
    rw [if_pos (by omega)]
    refine ok_b (ok_m (m_starts h wf hmM (i : Int)) (fun X hX => ?_))
    obtain ⟨x1, x2, x3⟩ := hX
    have hmX := mw_fmx hmM x1
    refine ok_b (ok_m (m_finds h wf hmX x2 x3 (tk_fmx (tk_0 qM) x1) (st0_ws wf hl (by omega) (by omega)) 0) (fun z hz => ?_))
    obtain ⟨z1, z2, _, _⟩ := hz
    have e1 : z.1 = sval O i := z1
    have agz : ∀ j, j = 42 ∨ j = 43 → z.2 129 j = M 129 j := fun j hj => by rw [z2 _ _ (by omega) (by omega) (by omega) (by omega) (by omega), x1 _ _ (by omega) (by omega) (by omega)]
    have frz : Fr I z.2 := fr_t mF (fr_t (fmx_fr x1) (fmf_fr z2))
    rw [e1, ia_1 (by omega), ss]
    by_cases q : sval O i = -1
    · rw [if_pos q, if_pos q]
      exact ok_i ⟨rfl, by (try dsimp only); rw [agz _ (by omega)]; exact m1, fun p => by (try dsimp only); rw [agz _ (by omega)]; exact m2 p, frz⟩
    · rw [if_neg q, if_neg q, gi', some_bind, agz _ (by omega), m1, isb_eq (by omega) (by omega)]
      by_cases q2 : (ss O i).1 = -1 ∨ sval O i - (i : Int) < (ss O i).2
      · rw [if_pos q2]
        refine ok_tn (ok_e (v := .inl ()) ?_ ?_)
        · by_cases q3 : (ss O i).1 = -1
          · rw [if_pos q3]
          · rw [if_neg q3, gi', some_bind, agz _ (by omega), m2 q3, if_pos (q2.resolve_left q3)]
        · show OK _ _
          dsimp only
          rw [pi', some_bind, pi', some_bind]
          exact ok_i ⟨rfl, by (try dsimp only); rw [mu_o _ _ (by omega), mu_s], fun _ => by (try dsimp only); rw [mu_s], fr_t frz (fr_t (f42 _ _) (f43 _ _))⟩
      · rw [if_neg q2]
        have q3 : ¬ (ss O i).1 = -1 := fun z => q2 (Or.inl z)
        refine ok_tn (ok_e (v := .inr (.inl (((i + 1 : Nat) : Int), z.2))) ?_ ?_)
        · rw [if_neg q3, gi', some_bind, agz _ (by omega), m2 q3, if_neg (fun z => q2 (Or.inr z))]
        · show _ ∧ _
          exact ⟨rfl, by (try dsimp only); rw [agz _ (by omega)]; exact m1, fun p => by (try dsimp only); rw [agz _ (by omega)]; exact m2 p, frz⟩
  · rintro ⟨si, M⟩ ⟨rfl, m1, m2, mF⟩
    try dsimp only at m1 m2 mF ⊢
    rw [if_neg (by decide)]
    exact ok_i ⟨m1, m2, mF⟩
theorem s_start (b : Bas T A O I) (c : Cch O I) (a1 : Int) : Qs T A O I (f_X11_start T A 1 a1 I) (fun J => f_X12_start T A 129 a1 J) := by
  have b' := b
  obtain ⟨h, wf, hc, hm, g, ht, hn, k, hq⟩ := b
  have g2 : gr T A 11 2 1 = some 26 := by simp only [agX h]
  have pi' : ∀ q v (J : Mem), pi T 12 q 129 v J = some (mu J 129 q v) := fun q v J => by simp only [agMg h]
  have gi' : ∀ q (J : Mem), gi T 12 q 129 J = some (J 129 q) := fun q J => by simp only [agMg h]
  have i11 : ∀ q (J : Mem), gi T 11 q 1 J = some (J 1 q) := fun q J => by simp only [agX h]
  by_cases hl : 0 < O 0 0
  · by_cases d : 0 ≤ a1 ∧ a1 ≤ 1
    · have cl : OK (thn (if I 1 15 = 0 then (f_X11_findStart T A 1 I).bind fun e12 => some (.inl e12) else some (.inl I) : Option (Mem ⊕ (Int × Mem))) (fun (v11 : Mem) => if a1 = 0 then (gi T 11 16 1 v11).bind fun x16 => some (x16, v11) else (gi T 11 17 1 v11).bind fun x14 => some (x14, v11))) (fun z => z.1 = (if a1 = 0 then (ss O 50).1 else (ss O 50).2) ∧ (z.2 1 16 = (ss O 50).1 ∧ z.2 1 17 = (ss O 50).2) ∧ ∀ o j, ¬ (66 ≤ o ∧ o ≤ 67) → ¬ (90 ≤ o ∧ o ≤ 100) → ¬ (o = 1 ∧ 15 ≤ j) → z.2 o j = I o j) := by
        refine ok_tn (ok_m (P := fun z => match z with | .inl J => (J 1 16 = (ss O 50).1 ∧ J 1 17 = (ss O 50).2) ∧ ∀ o j, ¬ (66 ≤ o ∧ o ≤ 67) → ¬ (90 ≤ o ∧ o ≤ 100) → ¬ (o = 1 ∧ 15 ≤ j) → J o j = I o j | .inr _ => False) ?_ ?_)
        · by_cases q : I 1 15 = 0
          · rw [if_pos q]
            exact ok_b (ok_m (c_findStart b' hl) (fun J hJ => ok_i ⟨⟨hJ.1, hJ.2.1⟩, hJ.2.2.2⟩))
          · rw [if_neg q]
            rcases c.2.2 with c1 | c1
            · exact absurd c1 q
            · exact ok_i ⟨c1, fun _ _ _ _ _ => rfl⟩
        · rintro (J | x) hJ
          · obtain ⟨j1, j2⟩ := hJ
            show OK _ _
            dsimp only
            by_cases q : a1 = 0
            · rw [if_pos q, if_pos q, i11, some_bind]
              exact ok_i ⟨j1.1, j1, j2⟩
            · rw [if_neg q, if_neg q, i11, some_bind]
              exact ok_i ⟨j1.2, j1, j2⟩
          · exact hJ.elim
      obtain ⟨⟨v, J⟩, eJ, vJ, jj, agJ⟩ := cl
      dsimp only at vJ jj agJ
      have bJ : Bas T A O J := bas_ag b' (fun o j ho => agJ o j (by omega) (by omega) (by omega))
      have hmJ0 := mw_fr bJ.2.2.2.1 (fr_0 J)
      obtain ⟨K, eK, k1, k2, fK⟩ := m_laysStart h wf hl hmJ0 (by rw [mu_o _ _ (by omega)]; exact bJ.2.2.2.2.2.2.2.2)
      have f2 := fr_t (fr_0 J) fK
      have fin : Bas T A O K ∧ Cch O K ∧ RF I K := by
        refine ⟨bas_fr bJ f2, cch_fr ⟨soon_ag c.1 (fun o j h1 h2 => agJ o j (by omega) (by omega) (by omega)), evry_ag c.2.1 (fun o j h1 h2 => agJ o j (by omega) (by omega) (by omega)), Or.inr jj⟩ f2, rf_t ?_ (rf_fr f2)⟩
        intro o j hr
        by_cases q : ¬ (66 ≤ o ∧ o ≤ 67) ∧ ¬ (90 ≤ o ∧ o ≤ 100) ∧ ¬ (o = 1 ∧ 15 ≤ j)
        · exact agJ o j q.1 q.2.1 q.2.2
        · by_cases p : o = 1 ∧ 15 ≤ j
          · obtain ⟨rfl, p⟩ := p
            have : rst 1 j = false := by unfold rst; simp
            rw [this] at hr; exact absurd hr (by decide)
          · rw [rst_w (by omega) (by omega)] at hr; exact absurd hr (by decide)
      refine ⟨v, J, K, ?_, ?_, fin⟩
      · unfold f_X11_start
        rw [if_pos (by rw [kT_1 h]), g2, some_bind, c_isThere h hc, some_bind, if_pos hl, if_neg (by decide), f_isBit1, some_bind, if_pos d, if_neg (by decide), i11, some_bind]
        exact eJ
      · (try dsimp only)
        unfold f_X12_start
        rw [if_pos (by rw [kT_129 h]), pi', some_bind, m_isOffice h hmJ0, some_bind, if_pos hl, if_neg (by decide), m_in, some_bind, if_pos d, if_neg (by decide), eK, some_bind, gi', some_bind, k1, vJ]
        by_cases q : (ss O 50).1 = -1
        · rw [if_pos q]
          have := (ss_none O 50).2 q
          split
          · rw [q]
          · rw [this]
        · rw [if_neg q]
          by_cases p : a1 = 0
          · rw [if_pos p, if_pos p, some_bind]
          · rw [if_neg p, if_neg p, gi', some_bind, k2 q]
    · refine qs_no b' c (v := -2) ?_ ?_
      · unfold f_X11_start
        rw [if_pos (by rw [kT_1 h]), g2, some_bind, c_isThere h hc, some_bind, if_pos hl, if_neg (by decide), f_isBit1, some_bind, if_neg d, if_pos rfl]
      · (try dsimp only)
        unfold f_X12_start
        rw [if_pos (by rw [kT_129 h]), pi', some_bind, m_isOffice h (mw_fr hm (fr_0 I)), some_bind, if_pos hl, if_neg (by decide), m_in, some_bind, if_neg d, if_pos rfl]
  · refine qs_no b' c (v := -2) ?_ ?_
    · unfold f_X11_start
      rw [if_pos (by rw [kT_1 h]), g2, some_bind, c_isThere h hc, some_bind, if_neg hl, if_pos rfl]
    · (try dsimp only)
      unfold f_X12_start
      rw [if_pos (by rw [kT_129 h]), pi', some_bind, m_isOffice h (mw_fr hm (fr_0 I)), some_bind, if_neg hl, if_pos rfl]
end
