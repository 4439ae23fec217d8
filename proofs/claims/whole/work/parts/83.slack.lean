/-! B: slack, start, forged, fake. -/
section
variable {T : Knd} {A : Rfs} {O : Ofc} {I : Mem} {W : Wkr} {n : Nat} {u : Int} {R : Nat}
theorem lv_path (wf : WF O) : ∀ f W p n u, (∀ t, t < n → ∃ q : Nat, q < oN O ∧ p t = (q : Int)) → ∀ l, l ∈ lv O f W p n u → ∀ t, t < l.2.2.1 → ∃ q : Nat, q < oN O ∧ l.2.1 t = (q : Int) := by
  intro f
  induction f with
  | zero => intro W p n u _ l hl; rw [lv] at hl; exact absurd hl (by simp)
  | succ f ih =>
    intro W p n u hp l hl
    rw [lv_s] at hl
    by_cases d : dn O W = true
    · rw [if_pos d, List.mem_singleton] at hl
      subst hl
      exact hp
    · rw [if_neg d, List.mem_flatMap] at hl
      obtain ⟨i, hi, hl⟩ := hl
      rw [List.mem_range] at hi
      unfold chl at hl
      by_cases c : mayg O W u i = true
      · rw [if_pos c] at hl
        refine ih _ _ _ _ (fun t ht => ?_) l hl
        unfold updp
        by_cases e : t = n
        · rw [if_pos e]; exact ⟨i, hi, rfl⟩
        · rw [if_neg e]; exact hp t (by omega)
      · rw [if_neg c] at hl; exact absurd hl (by simp)
theorem hb_rbs {p : Nat → Int} (o : Nat) : ∀ n, (∀ t, t < n → ∃ q : Nat, q < 32 ∧ p t = (q : Int)) → hb (rbs p n) o = anyf (fun t => decide (p t = (o : Int))) 0 n := by
  intro n
  induction n with
  | zero => intro _; rw [rbs, hb_0]; rfl
  | succ n ih =>
    intro h
    obtain ⟨q, hq, e⟩ := h n (by omega)
    rw [rbs, hb_or, ih (fun t ht => h t (by omega)), anyf, Nat.zero_add, e, hb_shl hq]
    by_cases c : o = q
    · subst c; rw [decide_eq_true rfl, decide_eq_true rfl]
    · rw [decide_eq_false c, decide_eq_false (p := (q : Int) = (o : Int)) (by omega)]
def slk (O : Ofc) (o : Nat) : Int := match bl (key 0) (Ln O) with
  | none => -1
  | some m => if anyf (fun t => decide (m.2.1 t = (o : Int))) 0 m.2.2.1 = false then -1 else if m.1 (4 + o) = 9999 then -1 else if m.1 (4 + o) < m.1 0 then -1 else m.1 (4 + o) - m.1 0
theorem slk_none {o : Nat} (h : bl (key 0) (Ln O) = none) : slk O o = -1 := by unfold slk; rw [h]
theorem slk_some {o : Nat} {m : Lf} (h : bl (key 0) (Ln O) = some m) : slk O o = if anyf (fun t => decide (m.2.1 t = (o : Int))) 0 m.2.2.1 = false then -1 else if m.1 (4 + o) = 9999 then -1 else if m.1 (4 + o) < m.1 0 then -1 else m.1 (4 + o) - m.1 0 := by unfold slk; rw [h]
theorem s_slack (b : Bas T A O I) (c : Cch O I) (a1 : Int) : Qs T A O I (f_X11_slack T A 1 a1 I) (fun J => f_X12_slack T A 129 a1 J) := by
  have b' := b
  obtain ⟨h, wf, hc, hm, g, ht, hn, k, hq⟩ := b
  have hn8 := wf_n wf
  have g2 : gr T A 11 2 1 = some 26 := by simp only [agX h]
  have pi' : ∀ q v (J : Mem), pi T 12 q 129 v J = some (mu J 129 q v) := fun q v J => by simp only [agMg h]
  have gi' : ∀ q (J : Mem), gi T 12 q 129 J = some (J 129 q) := fun q J => by simp only [agMg h]
  have rk := rk_68 h
  obtain ⟨k0, k1, k2, k3, k4, k5, k6, k7, k8, k9, k10⟩ := rk_ev rk
  by_cases d : 0 ≤ a1 ∧ a1 < O 0 4
  · have hl := n_lines wf d
    obtain ⟨o, rfl⟩ := Int.eq_ofNat_of_zero_le d.1
    obtain ⟨J, V, e, r, sm, ag, hmJ, mf⟩ := pre_soon b' c hl
    have hmJ0 := mw_fr hmJ (fr_0 J)
    obtain ⟨z, z1, z2, z3, z4, z5⟩ := mf 0
    have sW := wn_ws wf hl g
    have nd := nd_0 (O := O) wf (rt_ws sW) rfl rfl
    refine ⟨slk O o, J, z.2, ?_, ?_, z5⟩
    · unfold f_X11_slack f_X5_spareHours
      rw [if_pos (by rw [kT_1 h]), g2, some_bind, c_has1 h wf hc d.2, some_bind, if_neg (by decide), e, some_bind]
      dsimp only
      rw [if_pos k0, k7, some_bind, r.1]
      cases hbl : bl (key 0) V with
      | none =>
        have := (bl_nil _ _).mp hbl
        subst this
        rw [if_pos (by rfl), slk_none (by rw [← sm.2.1]; exact hbl)]; rfl
      | some m =>
        have hblL : bl (key 0) (Ln O) = some m := by rw [← sm.2.1]; exact hbl
        have hne : V ≠ [] := fun e => by rw [e] at hbl; exact absurd hbl (by simp [bl])
        have hlen : 0 < V.length := List.length_pos_iff.mpr hne
        have mem := bl_mem hblL
        have rin := lv_in wf _ _ _ _ _ nd m mem
        have pth := lv_path wf _ _ _ _ _ (fun t ht => absurd ht (by omega)) m mem
        have wr := ws_rg rin.1.1 o
        have w0 := rin.1.1.1
        obtain ⟨r1, r2, r3, r4⟩ := r.2.1 0 (by decide) m hbl
        have rl := r.2.2.1 m hbl o (by omega)
        have e1 : f_X5_officialsOf T A 68 0 J = some (whs 0 V) := c_ofs rk (a := 0) (by decide) r
        have ek : key (kk 0) m = m.1 0 := rfl
        rw [if_neg (by omega), if_neg (by omega), if_pos (by omega), e1, some_bind, whs_some hbl, f_hasBit (by omega), some_bind, hb_rbs o _ (fun t ht' => by obtain ⟨q, hq1, hq2⟩ := pth t ht'; exact ⟨q, by have := (on_le wf).1; omega, hq2⟩), slk_some hblL]
        cases hx : anyf (fun t => decide (m.2.1 t = (o : Int))) 0 m.2.2.1
        · rfl
        · rw [if_neg (show ¬ (if true = true then (1 : Int) else 0) = 0 by decide), if_neg (show ¬ true = false by decide), k6, some_bind, ev_ld rk.2.2.2.2.2.2.2.1, if_pos (by omega), some_bind, Int.toNat_natCast, rl]
          have lv0 : ld T 20 (68 + 4) 0 J = some (J (68 + 4) 0) := rk_lv rk (a := 0) (by decide) J
          unfold ev
          by_cases q : m.1 (4 + o) = 9999
          · rw [if_pos q, if_pos rfl, if_pos q]; rfl
          · rw [if_neg q, if_neg (by omega), if_neg q, k3, some_bind, lv0, some_bind, r1, ek]
            by_cases q2 : m.1 (4 + o) < m.1 0
            · rw [if_pos q2, if_pos q2]; rfl
            · rw [if_neg q2, if_neg q2, some_bind, lv0, some_bind, r1, ek, isb_eq (by omega) (by omega)]; rfl
    · (try dsimp only)
      unfold f_X12_slack
      rw [if_pos (by rw [kT_129 h]), pi', some_bind, m_isOfficial h wf hmJ0, some_bind, if_pos d, if_neg (by decide), z1, some_bind, z2]
      cases hblL : bl (key 0) (Ln O) with
      | none => rw [bv_none hblL, if_pos rfl, slk_none hblL]
      | some m =>
        have mem := bl_mem hblL
        have rin := lv_in wf _ _ _ _ _ nd m mem
        have wr := ws_rg rin.1.1 o
        have w0 := rin.1.1.1
        obtain ⟨⟨b1, b0⟩, ⟨b2, b8⟩, b3, b4, b5⟩ := z3.2 m hblL
        rw [bv_some hblL, if_neg (by omega), gi', b2, show gr T A 12 39 129 = some 147 by simp only [agMg h], show gr T A 12 41 129 = some 148 by simp only [agMg h]]
        have lp : it (fun (s12 : Int × Int) => (some ((m.2.2.1 : Nat) : Int)).bind fun x15 => if s12.2 < x15 then if s12.1 = 0 then (some 147).bind fun x17 => (ld T 20 x17 s12.2 z.2).bind fun x18 => if x18 = (o : Int) then some (.inl (1, ia s12.2 1)) else some (.inl (0, ia s12.2 1)) else some (.inl (1, ia s12.2 1)) else some (.inr (.inl s12.1))) FU (0, 0) = (some (.inl (bi (anyf (fun t => decide (m.2.1 t = (o : Int))) 0 m.2.2.1))) : Option (Int ⊕ (Int × Mem))) := by
          refine it_seq (fun i => (bi (anyf (fun t => decide (m.2.1 t = (o : Int))) 0 i), (i : Int))) m.2.2.1 (fun i hi => ?_) ?_ FU (by unfold FU; omega)
          · dsimp only
            have l147 : ld T 20 147 (i : Int) z.2 = some (m.2.1 i) := by rw [ev_ld (kT_147 h), if_pos (by omega), Int.toNat_natCast, b4 i hi]
            rw [some_bind, if_pos (by omega), ia_1 (by omega), anyf, Nat.zero_add]
            simp only [bi_0]
            cases hx : anyf (fun t => decide (m.2.1 t = (o : Int))) 0 i
            · rw [if_pos rfl, some_bind, l147, some_bind, Bool.false_or]
              by_cases q : m.2.1 i = (o : Int)
              · rw [if_pos q, decide_eq_true q]; rfl
              · rw [if_neg q, decide_eq_false q]; rfl
            · rw [if_neg (by decide), Bool.true_or]; rfl
          · dsimp only
            rw [some_bind, if_neg (by omega)]
        refine (congrArg (fun o => thn o _) lp).trans ?_
        rw [thn_l]
        simp only [bi_0]
        have l148 : ld T 20 148 (o : Int) z.2 = some (m.1 (4 + o)) := by rw [ev_ld (kT_148 h), if_pos (by omega), Int.toNat_natCast, b5 o (by omega)]
        rw [slk_some hblL, some_bind, l148, some_bind]
        by_cases q0 : anyf (fun t => decide (m.2.1 t = (o : Int))) 0 m.2.2.1 = false
        · rw [if_pos q0, if_pos q0]
        · rw [if_neg q0, if_neg q0]
          by_cases q : m.1 (4 + o) = 9999
          · rw [if_pos q, if_pos q]
          · rw [if_neg q, if_neg q, some_bind, l148, some_bind, gi', some_bind, b3]
            by_cases q2 : m.1 (4 + o) < m.1 0
            · rw [if_pos q2, if_pos q2]
            · rw [if_neg q2, if_neg q2, some_bind, l148, some_bind, some_bind, isb_eq (by omega) (by omega)]
  · refine qs_no b' c (v := -2) ?_ ?_
    · unfold f_X11_slack
      rw [if_pos (by rw [kT_1 h]), g2, some_bind, c_has h wf hc, some_bind, if_neg d, if_pos rfl]
    · (try dsimp only)
      unfold f_X12_slack
      rw [if_pos (by rw [kT_129 h]), pi', some_bind, m_isOfficial h wf (mw_fr hm (fr_0 I)), some_bind, if_neg d, if_pos rfl]
/-! forged -/
theorem rt_set (W : Wkr) (o : Nat) : rt (fun k => if k = 4 + o then 9999 else W k) = rtf W o := by
  funext k
  unfold rt rtf rt
  dsimp only
  by_cases c : k = 4 + o
  · rw [if_neg (by omega), if_pos c, if_pos c]
  · by_cases d : k = 2 ∨ k = 3
    · rw [if_pos d, if_neg c, if_pos d]
    · rw [if_neg d, if_neg c, if_neg c, if_neg d]
def frg (O : Ofc) (o : Nat) : Int := if bv 0 (Ln O) = -1 then -1000 else if bv 0 (LV O (rtf (Wn O) o)) = -1 then -1000 else isb (bv 0 (Ln O)) (bv 0 (LV O (rtf (Wn O) o)))
theorem m_forged (h : Ag T A) (wf : WF O) (hl : 0 < O 0 0) (g : LG O) (hm : MW O 0 I) (hq : I 129 31 = 0) {o : Nat} (ho : (o : Int) < O 0 4) : ∃ z, f_X12_forgedOf T A 129 (o : Int) I = some z ∧ z.1 = frg O o ∧ Fr I z.2 := by
  have hn8 := wf_n wf
  have sW := wn_ws wf hl g
  obtain ⟨J0, e0, f0, k0, d0, hm0, t0, q0⟩ : ∃ J0, f_X12_lays T A 129 I = some J0 ∧ FmX I J0 ∧ MWk (Wn O) J0 ∧ Far O J0 ∧ MW O 0 J0 ∧ TK ntk J0 ∧ J0 129 31 = 0 := by
    obtain ⟨J, e, f, k', d⟩ := m_laysAll h wf hl g hm (tk_0 hq)
    exact ⟨J, e, f, k', d, mw_fmx hm f, tk_fmx (tk_0 hq) f, by rw [f 129 31 (by omega) (by omega) (by omega)]; exact hq⟩
  obtain ⟨z1, e1, v1, f1, _, _⟩ := m_finds h wf hm0 k0 d0 t0 sW 0
  have hm1 : MW O 0 z1.2 := mw_fr hm0 (fmf_fr f1)
  have hq1 : z1.2 129 31 = 0 := by rw [f1 129 31 (by omega) (by omega) (by omega) (by omega) (by omega)]; exact q0
  obtain ⟨J2, e2, f2, k2, d2⟩ := m_laysAll h wf hl g hm1 (tk_0 hq1)
  have hm2 := mw_fmx hm1 f2
  obtain ⟨J3, eJ3⟩ : ∃ J3, J3 = mu J2 144 o 9999 := ⟨_, rfl⟩
  have ag3 : ∀ a b, a ≠ 144 → J3 a b = J2 a b := fun a b hab => by rw [eJ3, mu_o _ _ (by omega)]
  have k3 : MWk (fun k => if k = 4 + o then 9999 else Wn O k) J3 := by
    refine ⟨⟨by rw [ag3 _ _ (by omega)]; dsimp only; rw [if_neg (by omega)]; exact k2.1.1, by rw [ag3 _ _ (by omega)]; dsimp only; rw [if_neg (by omega)]; exact k2.1.2.1, by rw [ag3 _ _ (by omega)]; dsimp only; rw [if_neg (by omega)]; exact k2.1.2.2.1, by rw [ag3 _ _ (by omega)]; dsimp only; rw [if_neg (by omega)]; exact k2.1.2.2.2⟩, fun x hx => ?_⟩
    dsimp only
    by_cases c : x = o
    · subst c; rw [if_pos rfl, eJ3, mu_s]
    · rw [if_neg (by omega), eJ3, mu_o _ _ (by omega)]; exact k2.2 x hx
  have s3 : WS O (fun k => if k = 4 + o then 9999 else Wn O k) := by
    refine ⟨?_, ?_, fun i => ?_⟩
    · dsimp only; rw [if_neg (by omega)]; exact sW.1
    · dsimp only; rw [if_neg (by omega)]; exact sW.2.1
    · dsimp only
      by_cases c : 4 + i = 4 + o
      · rw [if_pos c]; exact Or.inr ⟨by decide, by omega, Or.inr rfl⟩
      · rw [if_neg c]; exact sW.2.2 i
  have hm3 : MW O 0 J3 := mw_ag hm2 (fun a b h1 h2 => ag3 a b (by omega))
  have d3 : Far O J3 := fun x y hx hy => by rw [ag3 _ _ (by omega)]; exact d2 x y hx hy
  have t3 : TK ntk J3 := tk_0 (by rw [ag3 _ _ (by omega), f2 129 31 (by omega) (by omega) (by omega)]; exact hq1)
  obtain ⟨z4, e4, v4, f4, _, _⟩ := m_finds h wf hm3 k3 d3 t3 s3 0
  rw [rt_set] at v4
  have vL : z1.1 = bv 0 (Ln O) := v1
  refine ⟨(frg O o, z4.2), ?_, rfl, fr_t (fmx_fr f0) (fr_t (fmf_fr f1) (fr_t (fmx_fr f2) (fr_t ?_ (fmf_fr f4))))⟩
  · unfold f_X12_forgedOf f_X12_findsNow
    rw [if_pos (by rw [kT_129 h]), if_pos (by rw [kT_129 h]), e0, some_bind, e1, some_bind, some_bind]
    dsimp only
    rw [e2, some_bind, show gr T A 12 29 129 = some 144 by simp only [agMg h], some_bind, ev_sto (kT_144 h), if_pos (by omega), some_bind, Int.toNat_natCast, ← eJ3, e4, some_bind, vL, v4]
    unfold frg
    split
    · rfl
    · split <;> rfl
  · rw [eJ3]
    exact fr_mu (by simp [scr])
theorem c_soonerBy (b : Bas T A O I) (hl : 0 < O 0 0) {o : Nat} (ho : (o : Int) < O 0 4) : ∃ J, f_X11_soonerBy T A 1 (o : Int) (bv 0 (Ln O)) I = some (frg O o, J) ∧ ∀ x y, (x < 90 ∨ 100 < x) → J x y = I x y := by
  obtain ⟨h, wf, hc, hm, g, ht, hn, k, hq⟩ := b
  unfold f_X11_soonerBy frg
  rw [if_pos (by rw [kT_1 h])]
  by_cases c : bv 0 (Ln O) = -1
  · rw [if_pos c, if_pos c]
    exact ⟨I, rfl, fun _ _ _ => rfl⟩
  · obtain ⟨J, eJ, ⟨V, v1, v2⟩, v3, v4⟩ := c_search h (rk_90 h) (by decide) wf (wk_64 h) (by decide) hc ht hn k (wn_ws wf hl g) (a := (o : Int)) (al := 0) ho (Or.inl rfl)
    have e1 : f_X5_best T A 90 0 J = some (bv 0 V) := c_best (rk_90 h) (a := 0) (by decide) v1
    have er : rts (Wn O) (o : Int) = rtf (Wn O) o := by unfold rts; rw [if_pos (by omega), Int.toNat_natCast]
    have e2 : bv 0 V = bv 0 (LV O (rtf (Wn O) o)) := by unfold bv; rw [v2.2.1, er]
    refine ⟨J, ?_, v4⟩
    rw [if_neg c, if_neg c, show gr T A 11 8 1 = some 90 by simp only [agX h], some_bind, show gr T A 11 4 1 = some 64 by simp only [agX h], some_bind, eJ, some_bind, some_bind, e1, some_bind, e2]
    by_cases q : bv 0 (LV O (rtf (Wn O) o)) = -1
    · rw [if_pos q, if_pos q]
    · rw [if_neg q, if_neg q]
/-- cells of the class that no later call looks at before it sets them -/
theorem qs_trial (b : Bas T A O I) (c : Cch O I) {J K : Mem} {V : List Lf} (rc : RC 68 (Hn O) V J) (sm : Sim 0 V (Ln O)) (ag : ∀ o j, (o < 68 ∨ (78 < o ∧ o < 90) ∨ 100 < o) → J o j = I o j) (f : Fr J K) : Bas T A O K ∧ Cch O K ∧ RF I K := by
  refine ⟨bas_fr (bas_ag b (fun o j ho => ag o j (by omega))) f, cch_fr ⟨Or.inr ⟨V, rc, sm⟩, evry_ag c.2.1 (fun o j h1 h2 => ag o j (by omega)), star_ag c.2.2 (fun j => ag 1 j (by omega))⟩ f, rf_t ?_ (rf_fr f)⟩
  intro o j hr
  by_cases q : o < 68 ∨ (78 < o ∧ o < 90) ∨ 100 < o
  · exact ag o j q
  · rw [rst_w (by omega) (by omega)] at hr; exact absurd hr (by decide)
theorem s_forged (b : Bas T A O I) (c : Cch O I) (a1 : Int) : Qs T A O I (f_X11_forged T A 1 a1 I) (fun J => f_X12_forged T A 129 a1 J) := by
  have b' := b
  obtain ⟨h, wf, hc, hm, g, ht, hn, k, hq⟩ := b
  have g2 : gr T A 11 2 1 = some 26 := by simp only [agX h]
  have pi' : ∀ q v (J : Mem), pi T 12 q 129 v J = some (mu J 129 q v) := fun q v J => by simp only [agMg h]
  by_cases d : 0 ≤ a1 ∧ a1 < O 0 4
  · have hl := n_lines wf d
    obtain ⟨o, rfl⟩ := Int.eq_ofNat_of_zero_le d.1
    obtain ⟨J, V, e, r, sm, ag⟩ := c_soonRows b' hl c.1
    have bJ : Bas T A O J := bas_ag b' (fun o j ho => ag o j (by omega))
    obtain ⟨X, eX, agX'⟩ := c_soonerBy bJ hl d.2
    have bX : Bas T A O X := bas_ag bJ (fun o j ho => agX' o j (by omega))
    have hmX := bX.2.2.2.1
    have hmX0 := mw_fr hmX (fr_0 X)
    obtain ⟨z, ez, vz, fz⟩ := m_forged h wf hl g hmX0 (by rw [mu_o _ _ (by omega)]; exact bX.2.2.2.2.2.2.2.2) d.2
    refine ⟨frg O o, X, z.2, ?_, ?_, qs_trial b' c (J := X) (rc_ag r (fun o j h1 h2 => agX' o j (by omega))) sm (fun o j ho => by rw [agX' _ _ (by omega), ag _ _ (by omega)]) (fr_t (fr_0 X) fz)⟩
    · unfold f_X11_forged
      rw [if_pos (by rw [kT_1 h]), g2, some_bind, c_has1 h wf hc d.2, some_bind, if_neg (by decide), e, some_bind]
      dsimp only
      have e1 : f_X5_best T A 68 0 J = some (bv 0 V) := c_best (rk_68 h) (a := 0) (by decide) r
      have e2 : bv 0 V = bv 0 (Ln O) := by unfold bv; rw [sm.2.1]
      rw [e1, some_bind, e2, eX, some_bind]
    · (try dsimp only)
      unfold f_X12_forged
      rw [if_pos (by rw [kT_129 h]), pi', some_bind, m_isOfficial h wf hmX0, some_bind, if_pos d, if_neg (by decide), ez, some_bind, vz]
  · refine qs_no b' c (v := -2000) ?_ ?_
    · unfold f_X11_forged
      rw [if_pos (by rw [kT_1 h]), g2, some_bind, c_has h wf hc, some_bind, if_neg d, if_pos rfl]
    · (try dsimp only)
      unfold f_X12_forged
      rw [if_pos (by rw [kT_129 h]), pi', some_bind, m_isOfficial h wf (mw_fr hm (fr_0 I)), some_bind, if_neg d, if_pos rfl]
/-- the greatest worth of a forged stamp so far, and whose -/
def fkm (O : Ofc) : Nat → Int × Int
  | 0 => (0, -1)
  | i + 1 => if frg O i ≤ (fkm O i).1 then fkm O i else (frg O i, (i : Int))
theorem s_fake (b : Bas T A O I) (c : Cch O I) : Qs T A O I (f_X11_fake T A 1 I) (fun J => f_X12_fake T A 129 J) := by
  have b' := b
  obtain ⟨h, wf, hc, hm, g, ht, hn, k, hq⟩ := b
  obtain ⟨hn8, en⟩ := on_le wf
  have g2 : gr T A 11 2 1 = some 26 := by simp only [agX h]
  have pi' : ∀ q v (J : Mem), pi T 12 q 129 v J = some (mu J 129 q v) := fun q v J => by simp only [agMg h]
  by_cases hl : 0 < O 0 0
  · obtain ⟨J, V, e, r, sm, ag⟩ := c_soonRows b' hl c.1
    have bJ : Bas T A O J := bas_ag b' (fun o j ho => ag o j (by omega))
    have e1 : f_X5_best T A 68 0 J = some (bv 0 V) := c_best (rk_68 h) (a := 0) (by decide) r
    have e2 : bv 0 V = bv 0 (Ln O) := by unfold bv; rw [sm.2.1]
    have cl : OK (it (fun (s11 : Int × Int × Int × Mem) => (some 26).bind fun x15 => (gi T 2 4 x15 s11.2.2.2).bind fun x16 => if s11.2.2.1 < x16 then (f_X11_soonerBy T A 1 s11.2.2.1 (bv 0 (Ln O)) s11.2.2.2).bind fun e18 => if e18.1 ≤ s11.1 then some (.inl (s11.1, s11.2.1, ia s11.2.2.1 1, e18.2)) else some (.inl (e18.1, s11.2.2.1, ia s11.2.2.1 1, e18.2)) else some (.inr (s11.2.1, s11.2.2.2))) FU (0, (-1), 0, J)) (fun z => z.1 = (fkm O (oN O)).2 ∧ ∀ x y, (x < 90 ∨ 100 < x) → z.2 x y = J x y) := by
      refine it_run (fun i (s : Int × Int × Int × Mem) => s.1 = (fkm O i).1 ∧ s.2.1 = (fkm O i).2 ∧ s.2.2.1 = (i : Int) ∧ ∀ x y, (x < 90 ∨ 100 < x) → s.2.2.2 x y = J x y) (oN O) ?_ ?_ 0 FU _ (by omega) (by unfold FU; omega) ⟨rfl, rfl, rfl, fun _ _ _ => rfl⟩
      · rintro i ⟨s1, s2, s3, M⟩ hi ⟨rfl, rfl, rfl, mF⟩
        try dsimp only at mF ⊢
        have bM : Bas T A O M := bas_ag bJ (fun o j ho => mF o j (by omega))
        obtain ⟨X, eX, fX⟩ := c_soonerBy bM hl (o := i) (by omega)
        rw [some_bind, show gi T 2 4 26 M = some (M 26 4) by simp only [agPl h], some_bind, cv_n bM.2.2.1, if_pos (by omega), eX, some_bind, ia_1 (by omega), fkm]
        try dsimp only
        by_cases q : frg O i ≤ (fkm O i).1
        · rw [if_pos q, if_pos q]
          exact ok_i ⟨rfl, rfl, rfl, fun x y hxy => by (try dsimp only); rw [fX x y hxy]; exact mF x y hxy⟩
        · rw [if_neg q, if_neg q]
          exact ok_i ⟨rfl, rfl, rfl, fun x y hxy => by (try dsimp only); rw [fX x y hxy]; exact mF x y hxy⟩
      · rintro ⟨s1, s2, s3, M⟩ ⟨rfl, rfl, rfl, mF⟩
        try dsimp only at mF ⊢
        have bM : Bas T A O M := bas_ag bJ (fun o j ho => mF o j (by omega))
        rw [some_bind, show gi T 2 4 26 M = some (M 26 4) by simp only [agPl h], some_bind, cv_n bM.2.2.1, if_neg (by omega)]
        exact ok_i ⟨rfl, mF⟩
    obtain ⟨⟨v, X⟩, eX, vX, agX'⟩ := cl
    dsimp only at vX agX'
    have bX : Bas T A O X := bas_ag bJ (fun o j ho => agX' o j (by omega))
    have hmX0 := mw_fr bX.2.2.2.1 (fr_0 X)
    have q0 : mu X 129 0 0 129 31 = 0 := by rw [mu_o _ _ (by omega)]; exact bX.2.2.2.2.2.2.2.2
    have ml : OK (it (fun (s6 : Int × Int × Int × Mem) => (gr T A 12 17 129).bind fun x10 => (ld T 20 x10 3 s6.2.2.2).bind fun x11 => if s6.2.2.1 < x11 then (f_X12_forgedOf T A 129 s6.2.2.1 s6.2.2.2).bind fun e13 => if e13.1 ≤ s6.2.1 then some (.inl (s6.1, s6.2.1, ia s6.2.2.1 1, e13.2)) else some (.inl (s6.2.2.1, e13.1, ia s6.2.2.1 1, e13.2)) else some (.inr (s6.1, s6.2.2.2))) FU ((-1), 0, 0, mu X 129 0 0)) (fun z => z.1 = (fkm O (oN O)).2 ∧ Fr (mu X 129 0 0) z.2) := by
      refine it_run (fun i (s : Int × Int × Int × Mem) => s.1 = (fkm O i).2 ∧ s.2.1 = (fkm O i).1 ∧ s.2.2.1 = (i : Int) ∧ Fr (mu X 129 0 0) s.2.2.2) (oN O) ?_ ?_ 0 FU _ (by omega) (by unfold FU; omega) ⟨rfl, rfl, rfl, fr_r _⟩
      · rintro i ⟨s1, s2, s3, M⟩ hi ⟨rfl, rfl, rfl, mF⟩
        try dsimp only at mF ⊢
        have hmM := mw_fr hmX0 mF
        obtain ⟨z, ez, vz, fz⟩ := m_forged h wf hl g hmM (by rw [mF 129 31 (by decide)]; exact q0) (o := i) (by omega)
        rw [show gr T A 12 17 129 = some 136 by simp only [agMg h], some_bind, m_h3 h hmM, some_bind, if_pos (by omega), ez, some_bind, ia_1 (by omega), vz, fkm]
        by_cases q : frg O i ≤ (fkm O i).1
        · rw [if_pos q, if_pos q]
          exact ok_i ⟨rfl, rfl, rfl, fr_t mF fz⟩
        · rw [if_neg q, if_neg q]
          exact ok_i ⟨rfl, rfl, rfl, fr_t mF fz⟩
      · rintro ⟨s1, s2, s3, M⟩ ⟨rfl, rfl, rfl, mF⟩
        try dsimp only at mF ⊢
        rw [show gr T A 12 17 129 = some 136 by simp only [agMg h], some_bind, m_h3 h (mw_fr hmX0 mF), some_bind, if_neg (by omega)]
        exact ok_i ⟨rfl, mF⟩
    obtain ⟨⟨v', K⟩, eK, vK, fK⟩ := ml
    dsimp only at vK fK
    refine ⟨v, X, K, ?_, ?_, qs_trial b' c (J := X) (rc_ag r (fun o j h1 h2 => agX' o j (by omega))) sm (fun o j ho => by rw [agX' _ _ (by omega), ag _ _ (by omega)]) (fr_t (fr_0 X) fK)⟩
    · unfold f_X11_fake
      rw [if_pos (by rw [kT_1 h]), g2, some_bind, c_isThere h hc, some_bind, if_pos hl, if_neg (by decide), e, some_bind]
      dsimp only
      rw [e1, some_bind, e2]
      exact eX
    · (try dsimp only)
      unfold f_X12_fake
      rw [if_pos (by rw [kT_129 h]), pi', some_bind, m_isOffice h hmX0, some_bind, if_pos hl, if_neg (by decide), vX, ← vK]
      exact eK
  · refine qs_no b' c (v := -2) ?_ ?_
    · unfold f_X11_fake
      rw [if_pos (by rw [kT_1 h]), g2, some_bind, c_isThere h hc, some_bind, if_neg hl, if_pos rfl]
    · (try dsimp only)
      unfold f_X12_fake
      rw [if_pos (by rw [kT_129 h]), pi', some_bind, m_isOffice h (mw_fr hm (fr_0 I)), some_bind, if_neg hl, if_pos rfl]
end
