/-! B: one's run, and the runs one behind the other. -/
def qin (O : Ofc) (q : (Nat → Nat → Bool) × (Nat → Int)) : QS := (st0 O (O 0 3), q.1, q.2)
def qsv (O : Ofc) (c : Nat → Nat) (len : Nat) : Nat → (Nat → Nat → Bool) × (Nat → Int)
  | 0 => (ntk, fun _ => 0)
  | i + 1 => (qrn O true c (qin O (qsv O c len i)) (qat O true c (qin O (qsv O c len i)) len)).2
def thr (O : Ofc) (c : Nat → Nat) (len i : Nat) : Int := qres O true c (qin O (qsv O c len i)) len
def mts (O : Ofc) (c : Nat → Nat) (len : Nat) : Nat → Int
  | 0 => 0
  | i + 1 => mtn c (mts O c len i) (qat O true c (qin O (qsv O c len i)) len)
def Rw (O : Ofc) (I : Mem) (s len : Nat) (c : Nat → Nat) : Prop := s < 4 ∧ len ≤ 60 ∧ I 118 s = (len : Int) ∧ I 131 s = (len : Int) ∧ ∀ i, i < len → I (113 + s) i = ((c i : Nat) : Int) ∧ I 132 (60 * s + i) = ((c i : Nat) : Int) ∧ ((c i : Nat) : Int) < O 0 4
def TKm (m : Bool) (tk : Nat → Nat → Bool) (I : Mem) : Prop := (m = false ∧ I 129 31 = 0 ∧ ∀ o h, tk o h = false) ∨ (m = true ∧ I 129 31 = 1 ∧ ∀ o h, o < 8 → h < 400 → I 145 (400 * o + h) = if tk o h then 1 else 0)
def Fqu (I J : Mem) : Prop := ∀ o k, ¬ (o = 129 ∧ 25 ≤ k ∧ k ≤ 28) → o ≠ 143 → o ≠ 144 → o ≠ 145 → o ≠ 152 → J o k = I o k
theorem tkm_tk {m : Bool} {tk : Nat → Nat → Bool} {I : Mem} (t : TKm m tk I) : TK tk I := by
  rcases t with ⟨_, a, b⟩ | ⟨_, a, b⟩
  · exact Or.inl ⟨a, b⟩
  · exact Or.inr ⟨a, b⟩
theorem tkm_ag {m : Bool} {tk : Nat → Nat → Bool} {I J : Mem} (t : TKm m tk I) (e1 : J 129 31 = I 129 31) (e2 : ∀ k, J 145 k = I 145 k) : TKm m tk J := by
  rcases t with ⟨a, b, c⟩ | ⟨a, b, c⟩
  · exact Or.inl ⟨a, by rw [e1]; exact b, c⟩
  · exact Or.inr ⟨a, by rw [e1]; exact b, fun o h ho hh => by rw [e2]; exact c o h ho hh⟩
section
variable {T : Knd} {A : Rfs} {O : Ofc} {I : Mem} {W : Wkr} {tk : Nat → Nat → Bool} {wt : Nat → Int} {mt : Int} {c : Nat → Nat} {len s : Nat} {m : Bool}
theorem rw_len (h : Ag T A) (r : Rw O I s len c) {J : Mem} (e : ∀ a b, 111 ≤ a → a ≤ 118 → J a b = I a b) : f_X7_lengthOf T A 111 (s : Int) J = some (len : Int) := by
  obtain ⟨r1, r2, r3, r4, r5⟩ := r
  rw [c_lengthOf h r1, e 118 s (by omega) (by omega), r3, if_neg (by omega)]
theorem rw_off (h : Ag T A) (wf : WF O) (r : Rw O I s len c) {J : Mem} (e : ∀ a b, 111 ≤ a → a ≤ 118 → J a b = I a b) {i : Nat} (hi : i < len) : f_X7_officialAt T A 111 (s : Int) (i : Int) J = some ((c i : Nat) : Int) := by
  obtain ⟨r1, r2, r3, r4, r5⟩ := r
  have hn8 := wf_n wf
  have hi' := r5 i hi
  rw [c_officialAt h r1 (by rw [e 118 s (by omega) (by omega), r3]; omega) (by rw [e 118 s (by omega) (by omega), r3]; omega), e (113 + s) i (by omega) (by omega), hi'.1, wrap_id ⟨by omega, by omega⟩]
theorem rw_cell (h : Ag T A) (wf : WF O) (r : Rw O I s len c) {J : Mem} (e : ∀ b, J 132 b = I 132 b) {i : Nat} (hi : i < len) : f_X12_cellOf T A 129 (s : Int) (i : Int) J = some ((c i : Nat) : Int) := by
  obtain ⟨r1, r2, r3, r4, r5⟩ := r
  have hn8 := wf_n wf
  have hi' := r5 i hi
  rw [m_cellOf h r1 (by omega), e, hi'.2.1, wrap_id ⟨by omega, by omega⟩]
theorem qrn_ws (wf : WF O) {q : QS} (s0 : WS O q.1) (hc : ∀ i, i < len → ((c i : Nat) : Int) < O 0 4) : ∀ i, i ≤ len → (∀ j, j < i → qbad O m c q j = false) → WS O (qrn O m c q i).1 := by
  intro i
  induction i with
  | zero => intro _ _; exact s0
  | succ i ih =>
    intro hi hb'
    have w := ih (by omega) (fun j hj => hb' j (by omega))
    have hne : stp O (qrn O m c q i).2.1 (qrn O m c q i).1 (c i) ≠ -1 := by
      have := hb' i (by omega)
      unfold qbad at this
      exact of_decide_eq_false this
    have hr := stp_rg wf w (hc i (by omega)) hne
    have := w.1
    exact go_ws wf w (hc i (by omega)) (by omega) (by omega)
theorem c_goBy (h : Ag T A) (wf : WF O) (hl : 0 < O 0 0) (hc : CV O 26 I) (ht : TW O I) (hn : TN O I) (qc : QC tk wt mt I) (r : Rw O I s len c) : OK (f_X3_goBy T A 119 111 (s : Int) I) (fun z => z.1 = qres O true c (qin O (tk, wt)) len ∧ QC (qrn O true c (qin O (tk, wt)) (qat O true c (qin O (tk, wt)) len)).2.1 (qrn O true c (qin O (tk, wt)) (qat O true c (qin O (tk, wt)) len)).2.2 (mtn c mt (qat O true c (qin O (tk, wt)) len)) z.2 ∧ ∀ a b, (a < 119 ∨ a = 123 ∨ 124 < a) → z.2 a b = I a b) := by
  have hn8 := wf_n wf
  obtain ⟨k0, k1, k2, k3, k4, k5, k6⟩ := q119 h
  have wk := wk_120 h
  have hr := wf.2.2.2.1
  obtain ⟨q, eq⟩ : ∃ q, q = qin O (tk, wt) := ⟨_, rfl⟩
  have hcl : ∀ i, i < len → ((c i : Nat) : Int) < O 0 4 := fun i hi => (r.2.2.2.2 i hi).2.2
  have sw0 : WS O q.1 := by rw [eq]; exact st0_ws wf hl hr.1 (by omega)
  rw [← eq]
  unfold f_X3_goBy
  rw [if_pos k0, k1, some_bind, some_bind, (wk_ev wk).2.1, some_bind, show gi T 2 3 26 I = some (I 26 3) by simp only [agPl h], cv_hour hc, some_bind]
  refine ok_b (ok_m (c_beginAt h wk (by decide) hc (O 0 3)) (fun B hB => ?_))
  have qcB : QC tk wt mt B := ⟨fun o x ho hx => by rw [hB.1 _ _ (by omega)]; exact qc.1 o x ho hx, fun o ho => by rw [hB.1 _ _ (by omega)]; exact qc.2.1 o ho, by rw [hB.1 _ _ (by omega)]; exact qc.2.2⟩
  refine ok_tn (it_run (fun i (x : Int × Mem) => x.1 = (i : Int) ∧ (∀ j, j < i → qbad O true c q j = false) ∧ CW (qrn O true c q i).1 120 x.2 ∧ QC (qrn O true c q i).2.1 (qrn O true c q i).2.2 (mtn c mt i) x.2 ∧ ∀ a b, (a < 119 ∨ a = 123 ∨ 124 < a) → x.2 a b = I a b) len ?_ ?_ 0 FU _ (by omega) (by have := r.2.1; unfold FU; omega) ⟨rfl, fun j hj => absurd hj (by omega), by rw [eq]; exact hB.2, by rw [eq]; exact qcB, fun a b hab => hB.1 a b (by omega)⟩)
  · rintro i ⟨x1, M⟩ hi ⟨rfl, hnb, hW, hQ, hF⟩
    try dsimp only at hW hQ hF ⊢
    have sw := qrn_ws (m := true) (c := c) (len := len) wf sw0 hcl i (by omega) hnb
    rw [rw_len h r (fun a b h1 h2 => hF a b (by omega)), some_bind, if_pos (by omega), rw_off h wf r (fun a b h1 h2 => hF a b (by omega)) hi, some_bind]
    refine ok_b (ok_m (c_goTo h wf (cv_ag hc (fun a b h1 h2 => hF a b (by omega))) (tw_ag wf ht (fun a b h1 h2 => hF a b (by omega))) (tn_ag wf hn (fun a b h1 h2 => hF a b (by omega))) hW sw hQ (hcl i hi)) (fun z hz => ?_))
    by_cases e : stp O (qrn O true c q i).2.1 (qrn O true c q i).1 (c i) = -1
    · have hz' := hz.1 e
      rw [hz', if_pos rfl]
      have hbd : qbad O true c q i = true := decide_eq_true e
      have hfl : qfl O true c q len = (i : Int) := fst_is (by omega) (by omega) hbd (fun j _ hj => hnb j hj)
      refine ok_i ⟨?_, ?_, hF⟩
      · unfold qres; rw [hfl, if_neg (by omega)]
      · have : qat O true c q len = i := by unfold qat; rw [hfl, if_neg (by omega), Int.toNat_natCast]
        rw [this]; exact hQ
    · obtain ⟨z1, z2, z3, z4⟩ := hz.2 e
      rw [z1, if_neg (by decide), ia_1 (by have := r.2.1; omega)]
      refine ok_i ⟨rfl, fun j hj => ?_, z2, z3, fun a b hab => ?_⟩
      · by_cases ej : j = i
        · subst ej; exact decide_eq_false e
        · exact hnb j (by omega)
      · try dsimp only
        rw [z4 a b hab]; exact hF a b hab
  · rintro ⟨x1, M⟩ ⟨rfl, hnb, hW, hQ, hF⟩
    try dsimp only at hW hQ hF ⊢
    rw [rw_len h r (fun a b h1 h2 => hF a b (by omega)), some_bind, if_neg (by omega)]
    have hfl : qfl O true c q len = -1 := fst_none (fun j _ hj => hnb j (by omega))
    have hat : qat O true c q len = len := by unfold qat; rw [if_pos hfl]
    refine ok_i ?_
    show OK _ _
    try dsimp only
    rw [some_bind, (wk_ev wk).2.2.2.2.1, some_bind, hW.1.1, hat]
    refine ok_i ⟨?_, hQ, hF⟩
    unfold qres; rw [if_pos hfl]
theorem m_runs (h : Ag T A) (wf : WF O) (hl : 0 < O 0 0) (hm : MW O 0 I) (ht : TKm m tk I) (hw : ∀ o, o < 8 → I 152 o = wt o) (r : Rw O I s len c) : OK (f_X12_runs T A 129 (s : Int) I) (fun z => z.1 = qres O m c (qin O (tk, wt)) len ∧ TKm m (qrn O m c (qin O (tk, wt)) (qat O m c (qin O (tk, wt)) len)).2.1 z.2 ∧ (∀ o, o < 8 → z.2 152 o = (qrn O m c (qin O (tk, wt)) (qat O m c (qin O (tk, wt)) len)).2.2 o) ∧ Fqu I z.2) := by
  have hn8 := wf_n wf
  have hr := wf.2.2.2.1
  have gi' : ∀ q (J : Mem), gi T 12 q 129 J = some (J 129 q) := fun q J => by simp only [agMg h]
  obtain ⟨q, eq⟩ : ∃ q, q = qin O (tk, wt) := ⟨_, rfl⟩
  have hcl : ∀ i, i < len → ((c i : Nat) : Int) < O 0 4 := fun i hi => (r.2.2.2.2 i hi).2.2
  have sw0 : WS O q.1 := by rw [eq]; exact st0_ws wf hl hr.1 (by omega)
  rw [← eq]
  unfold f_X12_runs
  rw [if_pos (show (T 129).1 = 12 by rw [kT_129 h]), show gr T A 12 17 129 = some 136 by simp only [agMg h], some_bind, m_h2 h hm, some_bind]
  refine ok_b (ok_m (m_starts h wf hm (O 0 3)) (fun B hB => ?_))
  obtain ⟨b1, b2, b3⟩ := hB
  have g2 : gr T A 12 2 129 = some 131 := by simp only [agMg h]
  have g47 : gr T A 12 47 129 = some 152 := by simp only [agMg h]
  have g24 : gr T A 12 24 129 = some 143 := by simp only [agMg h]
  have g30 : gr T A 12 30 129 = some 145 := by simp only [agMg h]
  rw [g2, g47, g24, g30]
  refine ok_tn (it_run (fun i (x : Int × Mem) => x.1 = (i : Int) ∧ (∀ j, j < i → qbad O m c q j = false) ∧ MWk (qrn O m c q i).1 x.2 ∧ TKm m (qrn O m c q i).2.1 x.2 ∧ (∀ o, o < 8 → x.2 152 o = (qrn O m c q i).2.2 o) ∧ Far O x.2 ∧ Fqu I x.2) len ?_ ?_ 0 FU _ (by omega) (by have := r.2.1; unfold FU; omega) ⟨rfl, fun j hj => absurd hj (by omega), by rw [eq]; exact b2, by rw [eq]; exact tkm_ag ht (b1 _ _ (by omega) (by omega) (by omega)) (fun k => b1 _ _ (by omega) (by omega) (by omega)), by rw [eq]; exact fun o ho => (b1 _ _ (by omega) (by omega) (by omega)).trans (hw o ho), b3, fun a b h1 h2 h3 h4 h5 => b1 a b h1 h2 h3⟩)
  · rintro i ⟨x1, M⟩ hi ⟨rfl, hnb, hW, hT, hw', hD, hF⟩
    try dsimp only at hW hT hw' hD hF ⊢
    have sw := qrn_ws (m := m) (c := c) (len := len) wf sw0 hcl i (by omega) hnb
    have hmM := mw_ag hm (fun a b (h1 : 134 ≤ a) (h2 : a ≤ 142) => hF a b (by omega) (by omega) (by omega) (by omega) (by omega))
    rw [some_bind, l131 h r.1, hF 131 s (by omega) (by omega) (by omega) (by omega) (by omega), r.2.2.2.1, some_bind, if_pos (by omega), rw_cell h wf r (fun b => hF 132 b (by omega) (by omega) (by omega) (by omega) (by omega)) hi, some_bind, m_stamps h wf hmM hW hD sw (tkm_tk hT) (hcl i hi), some_bind]
    by_cases e : stp O (qrn O m c q i).2.1 (qrn O m c q i).1 (c i) = -1
    · rw [if_pos e]
      have hbd : qbad O m c q i = true := decide_eq_true e
      have hfl : qfl O m c q len = (i : Int) := fst_is (by omega) (by omega) hbd (fun j _ hj => hnb j hj)
      have hat : qat O m c q len = i := by unfold qat; rw [hfl, if_neg (by omega), Int.toNat_natCast]
      refine ok_i ⟨?_, ?_, ?_, hF⟩
      · unfold qres; rw [hfl, if_neg (by omega)]
      · rw [hat]; exact hT
      · rw [hat]; exact hw'
    · rw [if_neg e]
      obtain ⟨o, eo⟩ : ∃ o, o = c i := ⟨_, rfl⟩
      have ho := hcl i hi
      have hs := stp_rg wf sw ho e
      have hl' := wlk_in wf sw ho
      have sw1 := sw.1
      have sw2 := sw.2.1
      have hR := wf.2.1
      have hwo := (wf.2.2.2.2.2.2.2.2.1 (c i) ho).1
      obtain ⟨x, ex⟩ := Int.eq_ofNat_of_zero_le (show 0 ≤ stp O (qrn O m c q i).2.1 (qrn O m c q i).1 (c i) by omega)
      obtain ⟨W', eW⟩ : ∃ W', W' = (qrn O m c q i).1 := ⟨_, rfl⟩
      obtain ⟨ra, era⟩ := Int.eq_ofNat_of_zero_le sw2.1
      obtain ⟨rb, erb⟩ := Int.eq_ofNat_of_zero_le hwo.1
      have ew : wlk O (qrn O m c q i).1 (c i) = fw O ra rb := by unfold wlk; rw [era, erb]; rfl
      rw [some_bind, ev_ld (kT_152 h), if_pos (by omega), some_bind, gi', some_bind, some_bind, gi', some_bind, m_o0 h wf hmM ho, some_bind, hW.1.1, hW.1.2.1, era, erb, m_far h M (by omega) (by omega), some_bind, hD ra rb (by omega) (by omega), ← ew, ev_sto (kT_152 h), if_pos (by omega), some_bind, gi', some_bind, Int.toNat_natCast, mu_o _ _ (by omega), show isb (isb (stp O (qrn O m c q i).2.1 (qrn O m c q i).1 (c i)) ((qrn O m c q i).1 0)) (wlk O (qrn O m c q i).1 (c i)) = (stp O (qrn O m c q i).2.1 (qrn O m c q i).1 (c i)) - ((qrn O m c q i).1 0) - (wlk O (qrn O m c q i).1 (c i)) from by rw [show isb (stp O (qrn O m c q i).2.1 (qrn O m c q i).1 (c i)) ((qrn O m c q i).1 0) = (stp O (qrn O m c q i).2.1 (qrn O m c q i).1 (c i)) - ((qrn O m c q i).1 0) from isb_eq (by omega) (by omega), isb_eq (by omega) (by omega)], hw' _ (by omega)]
      obtain ⟨V, eV⟩ : ∃ V, V = mu M 152 (c i) (ia ((qrn O m c q i).2.2 (c i)) (stp O (qrn O m c q i).2.1 (qrn O m c q i).1 (c i) - (qrn O m c q i).1 0 - wlk O (qrn O m c q i).1 (c i))) := ⟨_, rfl⟩
      rw [← eV]
      have agV : ∀ a b, a ≠ 152 → V a b = M a b := fun a b h1 => by rw [eV, mu_o _ _ (by omega)]
      obtain ⟨U, eU, u1, u2, u3⟩ : ∃ U, (if M 129 31 = 0 then some (.inl V : Mem ⊕ ((Int × Mem) ⊕ (Mem ⊕ (Int × Mem)))) else (some 145).bind fun x38 => (sto T 23 x38 (ia (im 400 ((c i : Nat) : Int)) (stp O (qrn O m c q i).2.1 (qrn O m c q i).1 (c i))) (iand 1 1) V).bind fun I39 => some (.inl I39)) = some (.inl U) ∧ TKm m (if m then tkp (qrn O m c q i).2.1 (c i) x else (qrn O m c q i).2.1) U ∧ (∀ a b, a ≠ 145 → U a b = V a b) ∧ U 129 31 = M 129 31 := by
        rcases hT with ⟨t1, t2, t3⟩ | ⟨t1, t2, t3⟩
        · subst t1
          exact ⟨V, by rw [if_pos t2], Or.inl ⟨rfl, by rw [agV _ _ (by omega)]; exact t2, t3⟩, fun _ _ _ => rfl, agV _ _ (by omega)⟩
        · subst t1
          refine ⟨mu V 145 (400 * c i + x) 1, ?_, Or.inr ⟨rfl, by rw [mu_o _ _ (by omega), agV _ _ (by omega)]; exact t2, fun o y ho hy => ?_⟩, fun a b hab => mu_o _ _ (by omega), by rw [mu_o _ _ (by omega), agV _ _ (by omega)]⟩
          · rw [if_neg (by omega), some_bind, ex, im_eq (by omega) (by omega), ia_eq (by omega) (by omega), ev_sto (kT_145 h), if_pos (by omega), some_bind, show (400 * ((c i : Nat) : Int) + (x : Int)).toNat = 400 * c i + x by omega]; rfl
          · rw [if_pos rfl]
            unfold tkp
            by_cases d : o = c i ∧ y = x
            · rw [d.1, d.2, mu_s, decide_eq_true rfl, decide_eq_true rfl, Bool.and_true, Bool.or_true, if_pos rfl]
            · rw [mu_o _ _ (by omega), agV _ _ (by omega), t3 o y ho hy]
              have : (decide (o = c i) && decide (y = x)) = false := by
                rw [Bool.and_eq_false_iff, decide_eq_false_iff_not, decide_eq_false_iff_not]
                by_cases d1 : o = c i
                · exact Or.inr fun d2 => d ⟨d1, d2⟩
                · exact Or.inl d1
              rw [this, Bool.or_false]
      rw [eU, thn_l]
      have agU : ∀ a b, a ≠ 145 → a ≠ 152 → U a b = M a b := fun a b h1 h2 => (u2 a b h1).trans (agV a b h2)
      refine ok_b (ok_m (m_goes h wf (mw_ag hmM (fun a b h1 h2 => agU a b (by omega) (by omega))) (W := (qrn O m c q i).1) ⟨⟨by rw [agU _ _ (by omega) (by omega)]; exact hW.1.1, by rw [agU _ _ (by omega) (by omega)]; exact hW.1.2.1, by rw [agU _ _ (by omega) (by omega)]; exact hW.1.2.2.1, by rw [agU _ _ (by omega) (by omega)]; exact hW.1.2.2.2⟩, fun o ho => by rw [agU _ _ (by omega) (by omega)]; exact hW.2 o ho⟩ (fun a b ha hb1 => by rw [agU _ _ (by omega) (by omega)]; exact hD a b ha hb1) sw ho (k := stp O (qrn O m c q i).2.1 (qrn O m c q i).1 (c i)) (by omega) (by omega)) (fun Z hZ => ?_))
      obtain ⟨z1, z2⟩ := hZ
      rw [ia_1 (by have := r.2.1; omega)]
      have xe : (stp O (qrn O m c q i).2.1 (qrn O m c q i).1 (c i)).toNat = x := by omega
      refine ok_i ⟨rfl, fun j hj => ?_, z2, ?_, fun p hp => ?_, fun a b ha hb1 => ?_, fun a b h1 h2 h3 h4 h5 => ?_⟩
      · by_cases ej : j = i
        · subst ej; exact decide_eq_false e
        · exact hnb j (by omega)
      · show TKm m (if m then tkp (qrn O m c q i).2.1 (c i) (stp O (qrn O m c q i).2.1 (qrn O m c q i).1 (c i)).toNat else (qrn O m c q i).2.1) Z
        rw [xe]
        exact tkm_ag u1 (z1 _ _ (by omega) (by omega)) (fun k => z1 _ _ (by omega) (by omega))
      · try dsimp only
        rw [z1 _ _ (by omega) (by omega), u2 _ _ (by omega), eV]
        show _ = wtp (qrn O m c q i).2.2 (c i) _ p
        unfold wtp
        by_cases d : p = c i
        · rw [d, mu_s, if_pos rfl]
        · rw [mu_o _ _ (by omega), if_neg d, hw' p hp]
      · try dsimp only
        rw [z1 _ _ (by omega) (by omega), agU _ _ (by omega) (by omega)]; exact hD a b ha hb1
      · try dsimp only
        rw [z1 _ _ h1 h3, agU _ _ h4 h5]; exact hF a b h1 h2 h3 h4 h5
  · rintro ⟨x1, M⟩ ⟨rfl, hnb, hW, hT, hw', hD, hF⟩
    try dsimp only at hW hT hw' hD hF ⊢
    rw [some_bind, l131 h r.1, hF 131 s (by omega) (by omega) (by omega) (by omega) (by omega), r.2.2.2.1, some_bind, if_neg (by omega)]
    have hfl : qfl O m c q len = -1 := fst_none (fun j _ hj => hnb j (by omega))
    have hat : qat O m c q len = len := by unfold qat; rw [if_pos hfl]
    refine ok_i ?_
    show OK _ _
    try dsimp only
    rw [gi', some_bind, hW.1.1, hat]
    refine ok_i ⟨?_, hT, hw', hF⟩
    unfold qres; rw [if_pos hfl]
end
