/-! B: the reference's rows, all of them. -/
section
variable {T : Knd} {A : Rfs} {O : Ofc} {I : Mem} {W : Wkr} {p : Nat → Int} {n : Nat} {u : Int}
theorem chl_len (wf : WF O) (nd : Nd O W n u) {f i : Nat} (hi : i < oN O) : (chl O f W p n u i).length ≤ 8 ^ (8 - (n + 1)) := by
  unfold chl
  by_cases c : mayg O W u i = true
  · rw [if_pos c]; exact lv_len wf _ _ _ _ _ (nd_go wf nd hi c).1
  · rw [if_neg c]; exact Nat.zero_le _
theorem pre_len (wf : WF O) (nd : Nd O W n u) {f : Nat} : ∀ i, i ≤ oN O → ((List.range i).flatMap (chl O f W p n u)).length ≤ i * 8 ^ (8 - (n + 1)) := by
  intro i
  induction i with
  | zero => intro _; simp
  | succ i ih =>
    intro hi
    have r := ih (by omega)
    have c := chl_len (p := p) (f := f) wf nd (i := i) (by omega)
    rw [List.range_succ, List.flatMap_append, List.length_append, List.flatMap_singleton, Nat.succ_mul]
    omega
theorem pre_s (g : Nat → List Lf) (i : Nat) : (List.range (i + 1)).flatMap g = (List.range i).flatMap g ++ g i := by rw [List.range_succ, List.flatMap_append, List.flatMap_singleton]
theorem pre_lx (wf : WF O) (nd : Nd O W n u) {f : Nat} (d : dn O W = false) {i : Nat} (hi : i < oN O) {a b : Lf} (ha : a ∈ (List.range i).flatMap (chl O f W p n u)) (hb1 : b ∈ chl O f W p n u i) : lx a b := by
  rw [List.mem_flatMap] at ha
  obtain ⟨j, hj, ha⟩ := ha
  rw [List.mem_range] at hj
  have x1 := chl_at wf nd (by omega) ha
  have y1 := chl_at wf nd hi hb1
  refine ⟨n, x1.1, y1.1, fun t ht => by rw [x1.2.2 t ht, y1.2.2 t ht], ?_⟩
  rw [x1.2.1, y1.2.1]; omega
theorem chl_sub (d : dn O W = false) {f i : Nat} (hi : i < oN O) {b : Lf} (hb1 : b ∈ chl O f W p n u i) : b ∈ lv O (f + 1) W p n u := by
  rw [lv_s, d, if_neg (by decide), List.mem_flatMap]
  exact ⟨i, List.mem_range.mpr hi, hb1⟩
theorem um_or {h0 : Int} {i : Nat} (hi : i < 32) (h : hb h0 i = false) : ior (iand u (ixor h0 (-1))) (ishl 1 (i : Int)) = iand (ior u (ishl 1 (i : Int))) (ixor h0 (-1)) := by
  refine hb_ext (cn_ior _ _) (cn_iand _ _) (fun j hj => ?_)
  rw [hb_or, hb_an, hb_an, hb_or, hb_shl hi]
  by_cases c : j = i
  · subst c; rw [h, decide_eq_true rfl]; simp
  · rw [decide_eq_false c]; simp
theorem m_rows (h : Ag T A) (wf : WF O) {k h0 : Int} : ∀ f W p n u L I, 9 ≤ f + n → Nd O W n u → (∀ i, hb h0 i = true → hb u i = true) → I 129 32 = k → MW O 0 I → MWk W I → Far O I → TK ntk I → (∀ t, t < n → I 146 t = p t) → RMb k L I → RMw k h0 L I → L.length + 8 ^ (8 - n) ≤ 1000000000 → (∀ a, a ∈ L → ∀ b, b ∈ lv O f W p n u → lx a b) → OK (f_X12_rows f T A 129 (n : Int) (ixor h0 (-1)) (iand u (ixor h0 (-1))) I) (fun J => FmR I J ∧ MWk W J ∧ (∀ t, t < n → J 146 t = p t) ∧ RMb k (L ++ lv O f W p n u) J ∧ RMw k h0 (L ++ lv O f W p n u) J) := by
  intro f
  induction f with
  | zero => intro W p n u L I hf nd; have := nd_n nd; omega
  | succ f ih =>
    intro W p n u L I hf nd hh hk hm w hfar ht hrow rb rw' hL hx
    obtain ⟨hn8, en⟩ := on_le wf
    have hn := nd_n nd
    have gi' : ∀ q (J : Mem), gi T 12 q 129 J = some (J 129 q) := fun q J => by simp only [agMg h]
    have pi' : ∀ q v (J : Mem), pi T 12 q 129 v J = some (mu J 129 q v) := fun q v J => by simp only [agMg h]
    rw [f_X12_rows, if_pos (by rw [kT_129 h]), m_isDone h wf hm w nd.1, some_bind]
    have hdn : dn O W = decide (iand (O 0 5) (ixor (hset O W (W 0).toNat) (-1)) = 0) := rfl
    by_cases d : iand (O 0 5) (ixor (hset O W (W 0).toNat) (-1)) = 0
    · have d1 : dn O W = true := by rw [hdn]; exact decide_eq_true d
      rw [if_pos d, if_neg (by decide), lv_s, if_pos d1]
      refine ok_b (ok_m (m_meets (p := p) h hk nd w hrow rb rw' (by have := Nat.le_add_right L.length (8 ^ (8 - n)); omega) (fun a ha => hx a ha _ (by rw [lv_s, if_pos d1]; simp))) (fun J hJ => ok_i hJ))
    · have d1 : dn O W = false := by rw [hdn]; exact decide_eq_false d
      rw [if_neg d, if_pos rfl]
      have loop : OK (it (fun (s16 : Int × Mem) => (gr T A 12 17 129).bind fun x18 => (ld T 20 x18 3 s16.2).bind fun x19 => if s16.1 < x19 then (f_X12_isBit T A (ixor h0 (-1)) s16.1 s16.2).bind fun e21 => thn (thn (if e21 = 0 then some (.inl ()) else (f_X12_isBit T A (iand u (ixor h0 (-1))) s16.1 s16.2).bind fun e29 => if e29 = 0 then (f_X12_stampsIn T A 129 s16.1 s16.2).bind fun e32 => some (.inr (.inl e32)) else some (.inl ())) (fun (v28 : Unit) => some (.inl (-1)))) (fun (v25 : Int) => if v25 = (-1) then some (.inl (ia s16.1 1, s16.2)) else (gi T 12 25 129 s16.2).bind fun x35 => (gi T 12 26 129 s16.2).bind fun x37 => (gi T 12 27 129 s16.2).bind fun x39 => (gi T 12 28 129 s16.2).bind fun x41 => (gr T A 12 29 129).bind fun x43 => (ld T 20 x43 s16.1 s16.2).bind fun x44 => (f_X12_goesTo T A 129 s16.1 v25 s16.2).bind fun e46 => (gr T A 12 38 129).bind fun x48 => (sto T 20 x48 (n : Int) s16.1 e46).bind fun I49 => (f_X12_rows f T A 129 (ia (n : Int) 1) (ixor h0 (-1)) (ior (iand u (ixor h0 (-1))) (ishl 1 s16.1)) I49).bind fun e50 => (pi T 12 25 129 x35 e50).bind fun I52 => (pi T 12 26 129 x37 I52).bind fun I53 => (pi T 12 27 129 x39 I53).bind fun I54 => (pi T 12 28 129 x41 I54).bind fun I55 => (gr T A 12 29 129).bind fun x56 => (sto T 20 x56 s16.1 x44 I55).bind fun I57 => some (.inl (ia s16.1 1, I57))) else some (.inr s16.2)) FU (0, I)) (fun J => FmR I J ∧ MWk W J ∧ (∀ t, t < n → J 146 t = p t) ∧ RMb k (L ++ lv O (f + 1) W p n u) J ∧ RMw k h0 (L ++ lv O (f + 1) W p n u) J) := by
        have g17 : gr T A 12 17 129 = some 136 := by simp only [agMg h]
        have g29 : gr T A 12 29 129 = some 144 := by simp only [agMg h]
        have g38 : gr T A 12 38 129 = some 146 := by simp only [agMg h]
        refine it_run (fun i (s : Int × Mem) => s.1 = (i : Int) ∧ FmR I s.2 ∧ MWk W s.2 ∧ (∀ t, t < n → s.2 146 t = p t) ∧ RMb k (L ++ (List.range i).flatMap (chl O f W p n u)) s.2 ∧ RMw k h0 (L ++ (List.range i).flatMap (chl O f W p n u)) s.2) (oN O) ?_ ?_ 0 FU (0, I) (by omega) (by unfold FU; omega) ⟨rfl, fmr_r I, w, hrow, by simpa using rb, by simpa using rw'⟩
        · rintro i ⟨si, K⟩ hi ⟨rfl, kF, kW, kR, kB, kA⟩
          try dsimp only at kF kW kR kB kA ⊢
          have hio : (i : Int) < O 0 4 := by omega
          have hmK := mw_fmr hm kF
          have hfK := far_fmr hfar kF
          have htK := tk_fmr ht kF
          rw [g17, some_bind, m_h3 h hmK, some_bind, if_pos hio, f_isBit (by omega), some_bind, hb_not _ (by omega)]
          have inner : (thn (if (if (!hb h0 i) = true then (1 : Int) else 0) = 0 then some (.inl ()) else (f_X12_isBit T A (iand u (ixor h0 (-1))) (i : Int) K).bind fun e29 => if e29 = 0 then (f_X12_stampsIn T A 129 (i : Int) K).bind fun e32 => some (.inr (.inl e32)) else some (.inl ()) : Option (Unit ⊕ (Int ⊕ ((Int × Mem) ⊕ Mem)))) (fun (v28 : Unit) => some (.inl (-1)))) = some (.inl (if hb u i = true then -1 else stp O ntk W i)) := by
            cases c0 : hb h0 i
            · rw [if_neg (show ¬ (if (!false) = true then (1 : Int) else 0) = 0 by decide), f_isBit (by omega), some_bind, hb_an, c0, Bool.not_false, Bool.and_true]
              cases c1 : hb u i
              · rw [if_pos (show (if false = true then (1 : Int) else 0) = 0 from rfl), m_stamps h wf hmK kW hfK nd.1 htK hio, some_bind, thn_r, if_neg (show ¬ false = true by decide)]
              · rw [if_neg (show ¬ (if true = true then (1 : Int) else 0) = 0 by decide), thn_l, if_pos rfl]
            · rw [if_pos (show (if (!true) = true then (1 : Int) else 0) = 0 from rfl), thn_l, hh i c0, if_pos rfl]
          refine ok_tn (ok_e inner ?_)
          show OK _ _
          dsimp only
          rw [ia_1 (by omega)]
          by_cases c : mayg O W u i = true
          · have c' := c
            unfold mayg at c'
            rw [Bool.and_eq_true, decide_eq_true_iff] at c'
            have cb : hb u i = false := by simpa using c'.1
            have hi0 : hb h0 i = false := by
              cases e : hb h0 i
              · rfl
              · rw [hh i e] at cb; exact absurd cb (by decide)
            have g := nd_go wf nd hi c
            have hr := stp_rg wf nd.1 hio c'.2
            have s0 := nd.1.1
            rw [cb, if_neg (show ¬ false = true by decide), if_neg c'.2]
            simp only [gi', some_bind, g29, g38, pi', kW.1.1, kW.1.2.1, kW.1.2.2.1, kW.1.2.2.2]
            rw [m_lastl h kW (by omega), some_bind]
            refine ok_b (ok_m (m_goes h wf hmK kW hfK nd.1 hio (by omega) hr.2.2.1) (fun M hM => ?_))
            obtain ⟨mF, mW'⟩ := hM
            rw [ev_sto (kT_146 h), if_pos (by omega), some_bind, Int.toNat_natCast, ia_1 (by omega), um_or (by omega) hi0]
            obtain ⟨Q, eQ⟩ : ∃ Q, Q = mu M 146 n (i : Int) := ⟨_, rfl⟩
            rw [← eQ]
            have agQ : ∀ o j, ¬ (o = 129 ∧ 25 ≤ j ∧ j ≤ 28) → o ≠ 144 → ¬ (o = 146 ∧ j = n) → Q o j = K o j := fun o j h1 h2 h3 => by rw [eQ, mu_o _ _ h3, mF o j h1 h2]
            have wQ : MWk (goS O W i (stp O ntk W i)) Q := ⟨⟨by rw [eQ, mu_o _ _ (by omega)]; exact mW'.1.1, by rw [eQ, mu_o _ _ (by omega)]; exact mW'.1.2.1, by rw [eQ, mu_o _ _ (by omega)]; exact mW'.1.2.2.1, by rw [eQ, mu_o _ _ (by omega)]; exact mW'.1.2.2.2⟩, fun o ho => by rw [eQ, mu_o _ _ (by omega)]; exact mW'.2 o ho⟩
            have fQ : FmR I Q := fun o j h1 h2 h3 h4 h5 => by rw [agQ o j (by omega) h2 (by omega)]; exact kF o j h1 h2 h3 h4 h5
            have hpw : 8 ^ (8 - n) = 8 * 8 ^ (8 - (n + 1)) := by rw [show 8 - n = (8 - (n + 1)) + 1 by omega, Nat.pow_succ, Nat.mul_comm]
            have hpl := pre_len (p := p) (f := f) wf nd i (by omega)
            have hmul : i * 8 ^ (8 - (n + 1)) + 8 ^ (8 - (n + 1)) ≤ 8 * 8 ^ (8 - (n + 1)) := by
              rw [← Nat.succ_mul]; exact Nat.mul_le_mul_right _ (by omega)
            have hlen : (L ++ (List.range i).flatMap (chl O f W p n u)).length + 8 ^ (8 - (n + 1)) ≤ 1000000000 := by
              rw [List.length_append]; omega
            have echl : chl O f W p n u i = lv O f (goS O W i (stp O ntk W i)) (updp p n (i : Int)) (n + 1) (ior u (ishl 1 (i : Int))) := by unfold chl; rw [if_pos c]
            refine ok_b (ok_m (ih (goS O W i (stp O ntk W i)) (updp p n (i : Int)) (n + 1) (ior u (ishl 1 (i : Int))) (L ++ (List.range i).flatMap (chl O f W p n u)) Q (by omega) g.1 (fun j hj => by rw [hb_or, hh j hj]; rfl) (by rw [fQ _ _ (by omega) (by omega) (by omega) (by omega) (by omega)]; exact hk) (mw_fmr hm fQ) wQ (far_fmr hfar fQ) (tk_fmr ht fQ) (fun t ht' => ?_) (rmb_ag kB (fun o j ho => agQ o j (by omega) (by omega) (by omega))) (rmw_ag kA (fun j hj => agQ _ _ (by omega) (by omega) (by omega))) hlen (fun a ha b hb1 => ?_)) (fun R hR => ?_))
            · unfold updp
              by_cases e : t = n
              · rw [if_pos e, e, eQ, mu_s]
              · rw [if_neg e, eQ, mu_o _ _ (by omega), mF _ _ (by omega) (by omega)]; exact kR t (by omega)
            · rw [← echl] at hb1
              rcases List.mem_append.mp ha with ha | ha
              · exact hx a ha b (chl_sub d1 hi hb1)
              · exact pre_lx wf nd d1 hi ha hb1
            · obtain ⟨rF, rW, rR, rB, rA⟩ := hR
              rw [ev_sto (kT_144 h), if_pos (by omega), some_bind, Int.toNat_natCast]
              obtain ⟨Z, eZ⟩ : ∃ Z, Z = mu (mu (mu (mu (mu R 129 25 (W 0)) 129 26 (W 1)) 129 27 (W 2)) 129 28 (W 3)) 144 i (W (4 + i)) := ⟨_, rfl⟩
              rw [← eZ]
              have agZ : ∀ o j, ¬ (o = 129 ∧ 25 ≤ j ∧ j ≤ 28) → ¬ (o = 144 ∧ j = i) → Z o j = R o j := fun o j h1 h2 => by rw [eZ, mu_o _ _ (by omega), mu_o _ _ (by omega), mu_o _ _ (by omega), mu_o _ _ (by omega), mu_o _ _ (by omega)]
              refine ok_i ⟨rfl, fun o j h1 h2 h3 h4 h5 => ?_, ⟨⟨?_, ?_, ?_, ?_⟩, fun o ho => ?_⟩, fun t ht' => ?_, ?_, ?_⟩
              · try dsimp only
                rw [agZ _ _ (by omega) (by omega), rF _ _ h1 h2 h3 h4 h5]; exact fQ o j h1 h2 h3 h4 h5
              · try dsimp only
                rw [eZ, mu_o _ _ (by omega), mu_o _ _ (by omega), mu_o _ _ (by omega), mu_o _ _ (by omega), mu_s]
              · try dsimp only
                rw [eZ, mu_o _ _ (by omega), mu_o _ _ (by omega), mu_o _ _ (by omega), mu_s]
              · try dsimp only
                rw [eZ, mu_o _ _ (by omega), mu_o _ _ (by omega), mu_s]
              · try dsimp only
                rw [eZ, mu_o _ _ (by omega), mu_s]
              · try dsimp only
                by_cases e : o = i
                · subst e; rw [eZ, mu_s]
                · rw [agZ _ _ (by omega) (by omega), rW.2 o ho, goS_l, if_neg e]
              · try dsimp only
                rw [agZ _ _ (by omega) (by omega), rR t (by omega)]
                unfold updp; rw [if_neg (by omega)]
              · try dsimp only
                rw [pre_s, ← List.append_assoc, echl]
                exact rmb_ag rB (fun o j ho => agZ o j (by omega) (by omega))
              · try dsimp only
                rw [pre_s, ← List.append_assoc, echl]
                exact rmw_ag rA (fun j hj => agZ _ _ (by omega) (by omega))
          · have ev : (if hb u i = true then (-1 : Int) else stp O ntk W i) = -1 := by
              by_cases e : hb u i = true
              · rw [if_pos e]
              · rw [if_neg e]
                unfold mayg at c
                rw [Bool.and_eq_true, decide_eq_true_iff] at c
                by_cases e2 : stp O ntk W i = -1
                · exact e2
                · exact absurd ⟨by simpa using e, e2⟩ c
            have echl : chl O f W p n u i = [] := by unfold chl; rw [if_neg c]
            rw [ev, if_pos rfl]
            refine ok_i ⟨rfl, kF, kW, kR, ?_, ?_⟩
            · try dsimp only
              rw [pre_s, echl, List.append_nil]; exact kB
            · try dsimp only
              rw [pre_s, echl, List.append_nil]; exact kA
        · rintro ⟨si, K⟩ ⟨rfl, kF, kW, kR, kB, kA⟩
          try dsimp only at kF kW kR kB kA ⊢
          rw [g17, some_bind, m_h3 h (mw_fmr hm kF), some_bind, if_neg (by omega)]
          have elv : lv O (f + 1) W p n u = (List.range (oN O)).flatMap (chl O f W p n u) := by rw [lv_s, d1, if_neg (by decide)]
          rw [elv]
          exact ok_i ⟨kF, kW, kR, kB, kA⟩
      -- the bound
      rw [gi', some_bind, hk]
      by_cases k4 : k = 4
      · rw [if_pos k4, thn_l]; exact loop
      · rw [if_neg k4, gi', some_bind]
        cases hbl : bl (key k) L with
        | none => rw [rb.1 hbl, if_pos rfl, thn_l]; exact loop
        | some m =>
          obtain ⟨⟨b1, b0⟩, _⟩ := rb.2 m hbl
          rw [b1, if_neg (by omega), m_measure (k := k) h hk w, some_bind, some_bind]
          by_cases c : kv k W (n : Int) ≤ key k m
          · rw [if_pos c, thn_l]; exact loop
          · rw [if_neg c, thn_r]
            have stay : bl (key k) (L ++ lv O (f + 1) W p n u) = some m := bl_stay hbl (fun l hl => by
              have r := lv_in wf _ _ _ _ _ nd l hl
              have hle : kv k W (n : Int) ≤ key k l := kv_le r.2.1 r.2.2.1 r.2.2.2.1 (by have := r.2.2.2.2.1; omega)
              unfold bet
              rw [decide_eq_false (p := key k l < key k m) (by omega), decide_eq_false (p := key k l = key k m) (by omega)]; rfl)
            refine ok_i ⟨fmr_r I, w, hrow, ⟨fun q => by rw [stay] at q; exact absurd q (by simp), fun m' hm' => ?_⟩, fun q => absurd q k4⟩
            rw [stay] at hm'
            exact rb.2 m' (by rw [hbl]; exact hm')
end
