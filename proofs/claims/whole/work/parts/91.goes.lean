/-! B: a blind go of the class, and of the reference. -/
section
variable {T : Knd} {A : Rfs} {O : Ofc} {I : Mem} {W V : Wkr} {q : BS}
theorem q125 (h : Ag T A) : (T 125).1 = 0 ∧ gr T A 0 0 125 = some 126 ∧ (∀ k I, gi T 0 k 125 I = some (I 125 k)) ∧ (∀ k v I, pi T 0 k 125 v I = some (mu I 125 k v)) := by
  refine ⟨by rw [kT_125 h], ?_, fun k I => ?_, fun k v I => ?_⟩
  · exact ev_gr (kT_125 h) rfl (kA h (by decide +kernel)) (by decide)
  · exact ev_gi (kT_125 h) rfl k I
  · exact ev_pi (kT_125 h) rfl k v I
theorem c_draw (h : Ag T A) {n : Int} (hn : 1 ≤ n) : f_X0_draw T A 125 n I = some (wrap (ilrm (ildv (nxx (I 125 1)) 65536) n), mu I 125 1 (nxx (I 125 1))) := by
  obtain ⟨k0, k1, k2, k3⟩ := q125 h
  unfold f_X0_draw
  rw [if_pos k0, k2, some_bind, show dvz 2147483648 = some () from rfl, some_bind, k3, some_bind, if_neg (by omega), k2, some_bind, show dvz 65536 = some () from rfl, some_bind, show dvz n = some () from if_neg (by omega), some_bind, mu_s]
  rfl
theorem c_memberAt {s : Int} {b N : Nat} (hb4 : b ≤ 8) (h8 : N < 8) (hN : hb s N = true) (eN : scn (hb s) N = (b : Int)) (hle : ∀ j, j ≤ N → scn (hb s) j ≤ (b : Int)) (hlt : ∀ j, j < N → hb s j = true → scn (hb s) j < (b : Int)) : f_X0_memberAt T A s (b : Int) I = some (N : Int) := by
  unfold f_X0_memberAt
  have e0 : ((b : Int), (0 : Int)) = ((b : Int) - scn (hb s) 0, ((0 : Nat) : Int)) := by rw [scn, Int.sub_zero]; rfl
  rw [e0]
  refine it_seq (fun i => ((b : Int) - scn (hb s) i, (i : Int))) N (fun i hi => ?_) ?_ FU (by unfold FU; omega)
  · have r := scn_rg (hb s) i
    have l := hle i (by omega)
    have t := hlt i hi
    try dsimp only
    rw [if_pos (by omega), f_hasBit (by omega), some_bind, ia_1 (by omega), scn]
    cases hx : hb s i
    · rw [if_pos (show (if false = true then (1 : Int) else 0) = 0 from rfl), if_neg (show ¬ false = true by decide), Int.add_zero]
    · have t' := t hx
      rw [if_neg (show ¬ (if true = true then (1 : Int) else 0) = 0 by decide), if_neg (by omega), if_pos rfl, ia_eq (by omega) (by omega)]
      congr 3
      omega
  · try dsimp only
    rw [if_pos (by omega), f_hasBit (by omega), some_bind, hN, if_neg (show ¬ (if true = true then (1 : Int) else 0) = 0 by decide), if_pos (by omega)]
theorem c_goFrom (h : Ag T A) (wf : WF O) (hl : 0 < O 0 0) (g : LG O) (hc : CV O 26 I) (ht : TW O I) (hn : TN O I) (k : CW (Wn O) 64 I) {a : Int} (h0 : 0 ≤ a) (h1 : a < 2147483648) : OK (f_X0_goFrom T A 125 64 a I) (fun J => J 125 2 = bdh O a ∧ J 125 3 = (bdN O (bdq O a) : Int) ∧ ∀ x y, (x < 125 ∨ 127 < x) → J x y = I x y) := by
  have hn8 := wf_n wf
  obtain ⟨k0, k1, k2, k3⟩ := q125 h
  have wk := wk_126 h
  have v0 := bd_0 (a := a) wf hl g h0 h1
  obtain ⟨q, eq⟩ : ∃ q, q = bdq O a := ⟨_, rfl⟩
  have ebh : bdh O a = if dnb O (bdn O q (bdN O q)).1 = true then (bdn O q (bdN O q)).1 0 else -1 := by rw [eq]; rfl
  rw [← eq] at v0 ⊢
  obtain ⟨n8, nst, nlt, nin⟩ := bd_end wf v0
  unfold f_X0_goFrom
  rw [if_pos k0, k1, some_bind]
  refine ok_b (ok_m (c_joins h (wk_64 h) wk ⟨by decide, by decide, by decide⟩ k) (fun B hB => ?_))
  rw [k3, some_bind, k3, some_bind, some_bind]
  have cB : CW (rt (Wn O)) 126 (mu (mu B 125 1 a) 125 3 0) := cw_ag hB.2 (fun x y hx => by rw [mu_o _ _ (by omega), mu_o _ _ (by omega)])
  have fB : ∀ x y, (x < 125 ∨ 127 < x) → (mu (mu B 125 1 a) 125 3 0) x y = I x y := fun x y hx => by rw [mu_o _ _ (by omega), mu_o _ _ (by omega)]; exact hB.1 x y (by omega)
  have cvB : CV O 26 (mu (mu B 125 1 a) 125 3 0) := cv_ag hc (fun x y d1 d2 => fB x y (by omega))
  rw [c_holding wk wf cB (rt_ws (wn_ws wf hl g)), some_bind]
  refine ok_tn (ok_tn (ok_tn (ok_m (P := fun (r : Mem ⊕ (Mem ⊕ (Mem ⊕ Mem))) => ∃ M, (r = .inr (.inr (.inl M)) ∨ r = .inr (.inl M)) ∧ CW (bdn O q (bdN O q)).1 126 M ∧ M 125 3 = (bdN O q : Int) ∧ ∀ x y, (x < 125 ∨ 127 < x) → M x y = I x y) (it_run (fun i (s : Int × Int × Mem) => s.1 = (bdn O q i).2.1 ∧ s.2.1 = (i : Int) ∧ CW (bdn O q i).1 126 s.2.2 ∧ s.2.2 125 1 = (bdn O q i).2.2 ∧ s.2.2 125 3 = (i : Int) ∧ ∀ x y, (x < 125 ∨ 127 < x) → s.2.2 x y = I x y) (bdN O q) ?_ ?_ 0 FU _ (by omega) (by unfold FU; omega) ⟨by rw [eq]; rfl, rfl, by rw [eq]; exact cB, ?_, by (try dsimp only); rw [mu_s]; rfl, fB⟩) (fun r hr => ?_))))
  · rintro i ⟨x1, x2, M⟩ hi ⟨rfl, rfl, hW, hx, hg, hF⟩
    try dsimp only at hW hx hg hF ⊢
    have bi := nin i (by omega)
    obtain ⟨b, N, p1, p2, p3, p4, p5, p6, p7, p8, p9, p10, p11, p12, p13, p14⟩ := bd_step wf bi (nlt i hi)
    have ns := nlt i hi
    unfold bstp dnb at ns
    rw [Bool.or_eq_false_iff, decide_eq_false_iff_not, decide_eq_false_iff_not] at ns
    have sw := bi.1
    have cvM : CV O 26 M := cv_ag hc (fun x y d1 d2 => hF x y (by omega))
    have twM : TW O M := tw_ag wf ht (fun x y d1 d2 => hF x y (by omega))
    have tnM : TN O M := tn_ag wf hn (fun x y d1 d2 => hF x y (by omega))
    rw [if_pos (by omega), some_bind, c_missing h wk wf cvM hW sw, some_bind, if_neg ns.1, some_bind, c_willing h wk wf cvM twM tnM hW sw, some_bind]
    have ebd : iand (sor (fun o => decide (stp O ntk (bdn O q i).1 o ≠ -1)) (O 0 4).toNat) (ixor (bdn O q i).2.1 (-1)) = bdc O (bdn O q i).1 (bdn O q i).2.1 := rfl
    rw [ebd, if_neg ns.2]
    have b8 := bdc_8 wf (bdn O q i).1 (bdn O q i).2.1
    obtain ⟨y, ey⟩ := Int.eq_ofNat_of_zero_le b8.1
    have ebc : f_J6_bitCount_0f7a4 T A (bdc O (bdn O q i).1 (bdn O q i).2.1) M = some (scn (hb (bdc O (bdn O q i).1 (bdn O q i).2.1)) 8) := by rw [ey]; exact f_bitCount (by omega)
    have r8 := scn_rg (hb (bdc O (bdn O q i).1 (bdn O q i).2.1)) N
    rw [ebc, some_bind, c_draw h p8, some_bind, hx, p1, c_memberAt (by omega) p3 p4 p5 p6 p7, some_bind, if_neg (by omega), k2, some_bind, k3, some_bind, some_bind, some_bind]
    obtain ⟨U, eU⟩ : ∃ U, U = mu (mu M 125 1 (nxx (bdn O q i).2.2)) 125 3 (ia ((mu M 125 1 (nxx (bdn O q i).2.2)) 125 3) 1) := ⟨_, rfl⟩
    rw [← eU]
    have fU : ∀ x y, x ≠ 125 → U x y = M x y := fun x y hx => by rw [eU, mu_o _ _ (by omega), mu_o _ _ (by omega)]
    have hWU : CW (bdn O q i).1 126 U := cw_ag hW (fun x y hx => fU x y (by omega))
    have cvU : CV O 26 U := cv_ag cvM (fun x y d1 d2 => fU x y (by omega))
    have twU : TW O U := tw_ag wf twM (fun x y d1 d2 => fU x y (by omega))
    have tnU : TN O U := tn_ag wf tnM (fun x y d1 d2 => fU x y (by omega))
    have hr := stp_rg wf sw p9 p10
    have s0 := sw.1
    rw [c_stamp h wk wf cvU twU tnU hWU sw p9, some_bind]
    refine ok_b (ok_m (c_stampIn h wk (by decide) wf cvU twU hWU sw p9 hr.2.2.2.1 (x := stp O ntk (bdn O q i).1 N) (by omega) (by omega)) (fun Z hZ => ?_))
    obtain ⟨z1, z2⟩ := hZ
    rw [ia_1 (by omega)]
    refine ok_i ⟨?_, rfl, ?_, ?_, ?_, fun x y hx => ?_⟩
    · rw [p13]
    · rw [p13]; exact z2
    · (try dsimp only)
      rw [p13, z1 _ _ (by omega), eU, mu_o _ _ (by omega), mu_s]
    · (try dsimp only)
      rw [z1 _ _ (by omega), eU, mu_s, mu_o _ _ (by omega), hg, ia_1 (by omega)]
    · (try dsimp only)
      rw [z1 _ _ (by omega), fU _ _ (by omega)]; exact hF x y hx
  · rintro ⟨x1, x2, M⟩ ⟨rfl, rfl, hW, hx, hg, hF⟩
    try dsimp only at hW hx hg hF ⊢
    have bi := nin (bdN O q) (Nat.le_refl _)
    have sw := bi.1
    have cvM : CV O 26 M := cv_ag hc (fun x y d1 d2 => hF x y (by omega))
    have twM : TW O M := tw_ag wf ht (fun x y d1 d2 => hF x y (by omega))
    have tnM : TN O M := tn_ag wf hn (fun x y d1 d2 => hF x y (by omega))
    by_cases c8 : (bdN O q : Int) < 8
    · rw [if_pos c8, some_bind, c_missing h wk wf cvM hW sw, some_bind]
      by_cases cm : iand (O 0 5) (ixor (hset O (bdn O q (bdN O q)).1 ((bdn O q (bdN O q)).1 0).toNat) (-1)) = 0
      · rw [if_pos cm]
        exact ok_i ⟨M, Or.inl rfl, hW, hg, hF⟩
      · rw [if_neg cm, some_bind, c_willing h wk wf cvM twM tnM hW sw, some_bind]
        have ebd : iand (sor (fun o => decide (stp O ntk (bdn O q (bdN O q)).1 o ≠ -1)) (O 0 4).toNat) (ixor (bdn O q (bdN O q)).2.1 (-1)) = bdc O (bdn O q (bdN O q)).1 (bdn O q (bdN O q)).2.1 := rfl
        unfold bstp dnb at nst
        rw [Bool.or_eq_true, decide_eq_true_iff, decide_eq_true_iff] at nst
        rw [ebd, if_pos (nst.resolve_left cm)]
        exact ok_i ⟨M, Or.inr rfl, hW, hg, hF⟩
    · rw [if_neg c8]
      exact ok_i ⟨M, Or.inl rfl, hW, hg, hF⟩
  · (try dsimp only)
    rw [mu_o _ _ (by omega), mu_s, eq]; rfl
  · obtain ⟨M, hr, hW, hg, hF⟩ := hr
    have bi := nin (bdN O q) (Nat.le_refl _)
    have sw := bi.1
    have cvM : CV O 26 M := cv_ag hc (fun x y d1 d2 => hF x y (by omega))
    have fin : OK ((some 126).bind fun x47 => (f_X10_missing T A x47 M).bind fun e48 => thn (if e48 = 0 then (some 126).bind fun x54 => (gi T 10 3 x54 M).bind fun x55 => some (.inl x55) else some (.inl (-1))) (fun (v52 : Int) => (pi T 0 2 125 v52 M).bind fun I57 => some I57)) (fun J => J 125 2 = bdh O a ∧ J 125 3 = (bdN O q : Int) ∧ ∀ x y, (x < 125 ∨ 127 < x) → J x y = I x y) := by
      rw [some_bind, c_missing h wk wf cvM hW sw, some_bind, ebh]
      unfold dnb
      by_cases cm : iand (O 0 5) (ixor (hset O (bdn O q (bdN O q)).1 ((bdn O q (bdN O q)).1 0).toNat) (-1)) = 0
      · rw [if_pos cm, some_bind, (wk_ev wk).2.2.2.2.1, some_bind, thn_l, k3, some_bind, decide_eq_true cm, if_pos rfl]
        exact ok_i ⟨by rw [mu_s, hW.1.1], by rw [mu_o _ _ (by omega)]; exact hg, fun x y hx => by rw [mu_o _ _ (by omega)]; exact hF x y hx⟩
      · rw [if_neg cm, thn_l, k3, some_bind, decide_eq_false cm, if_neg (show ¬ false = true by decide)]
        exact ok_i ⟨mu_s _ _ _ _, by rw [mu_o _ _ (by omega)]; exact hg, fun x y hx => by rw [mu_o _ _ (by omega)]; exact hF x y hx⟩
    rcases hr with rfl | rfl
    · exact fin
    · exact ok_i fin
def Fdr (I J : Mem) : Prop := ∀ o k, ¬ (o = 129 ∧ 25 ≤ k ∧ k ≤ 28) → ¬ (o = 129 ∧ k = 49) → o ≠ 143 → o ≠ 144 → J o k = I o k
theorem m_draws (h : Ag T A) (wf : WF O) (hl : 0 < O 0 0) (g : LG O) (hm : MW O 0 I) (hq : I 129 31 = 0) {a : Int} (h0 : 0 ≤ a) (h1 : a < 2147483648) : OK (f_X12_draws T A 129 a I) (fun z => z.1 = bdh O a ∧ z.2 129 49 = (bdN O (bdq O a) : Int) ∧ Fdr I z.2) := by
  have hn8 := wf_n wf
  have gi' : ∀ q (J : Mem), gi T 12 q 129 J = some (J 129 q) := fun q J => by simp only [agMg h]
  have pi' : ∀ q v (J : Mem), pi T 12 q 129 v J = some (mu J 129 q v) := fun q v J => by simp only [agMg h]
  have v0 := bd_0 (a := a) wf hl g h0 h1
  obtain ⟨q, eq⟩ : ∃ q, q = bdq O a := ⟨_, rfl⟩
  have ebh : bdh O a = if dnb O (bdn O q (bdN O q)).1 = true then (bdn O q (bdN O q)).1 0 else -1 := by rw [eq]; rfl
  rw [← eq] at v0 ⊢
  obtain ⟨n8, nst, nlt, nin⟩ := bd_end wf v0
  have sw0 := wn_ws wf hl g
  unfold f_X12_draws
  rw [if_pos (show (T 129).1 = 12 by rw [kT_129 h])]
  refine ok_b (ok_m (m_laysAll h wf hl g hm (tk_0 hq)) (fun B hB => ?_))
  obtain ⟨b1, b2, b3⟩ := hB
  have hmB : MW O 0 B := mw_ag hm (fun x y d1 d2 => b1 x y (by omega) (by omega) (by omega))
  rw [m_heldNow h wf hmB b2 sw0, some_bind, pi', some_bind]
  refine ok_tn (it_run (fun i (s : Int × Int × Mem) => s.1 = (bdn O q i).2.2 ∧ s.2.1 = (bdn O q i).2.1 ∧ (∃ V, Eqw (bdn O q i).1 V ∧ WS O V ∧ MWk V s.2.2) ∧ Far O s.2.2 ∧ s.2.2 129 49 = (i : Int) ∧ Fdr I s.2.2) (bdN O q) ?_ ?_ 0 FU _ (by omega) (by unfold FU; omega) ⟨by rw [eq]; rfl, ?_, ⟨Wn O, by rw [eq]; exact eqw_rt _, sw0, ?_⟩, ?_, by (try dsimp only); rw [mu_s]; rfl, fun x y d1 d2 d3 d4 => ?_⟩)
  · rintro i ⟨x1, x2, M⟩ hi ⟨rfl, rfl, ⟨V, eV, sV, hV⟩, hD, hg, hF⟩
    try dsimp only at hV hD hg hF ⊢
    have bi := nin i (by omega)
    obtain ⟨b, N, p1, p2, p3, p4, p5, p6, p7, p8, p9, p10, p11, p12, p13, p14⟩ := bd_step wf bi (nlt i hi)
    have ns := nlt i hi
    unfold bstp dnb at ns
    rw [Bool.or_eq_false_iff, decide_eq_false_iff_not, decide_eq_false_iff_not, ← eqw_hset eV, ← eV 0 (by omega) (by omega)] at ns
    have hmM : MW O 0 M := mw_ag hm (fun x y d1 d2 => hF x y (by omega) (by omega) (by omega) (by omega))
    have tM : TK ntk M := tk_0 (by rw [hF _ _ (by omega) (by omega) (by omega) (by omega)]; exact hq)
    rw [m_isDone h wf hmM hV sV, some_bind, if_neg ns.1, if_pos rfl, m_canNow h wf hmM hV hD sV tM, some_bind]
    have ebd : iand (sor (fun o => decide (stp O ntk V o ≠ -1)) (O 0 4).toNat) (ixor (bdn O q i).2.1 (-1)) = bdc O (bdn O q i).1 (bdn O q i).2.1 := eqw_c eV _
    rw [ebd, if_neg ns.2, show dvz 2147483648 = some () from rfl, some_bind, show dvz 65536 = some () from rfl, some_bind]
    have b8 := bdc_8 wf (bdn O q i).1 (bdn O q i).2.1
    obtain ⟨y, ey⟩ := Int.eq_ofNat_of_zero_le b8.1
    have ebc : f_X12_sizeOf T A (bdc O (bdn O q i).1 (bdn O q i).2.1) M = some (scn (hb (bdc O (bdn O q i).1 (bdn O q i).2.1)) 8) := by rw [ey]; exact f_sizeOf (by omega)
    rw [ebc, some_bind, show dvz (scn (hb (bdc O (bdn O q i).1 (bdn O q i).2.1)) 8) = some () from if_neg (by omega), some_bind]
    have p1' : wrap (ilrm (ildv (ilrm (ila (ilm 1103515245 (bdn O q i).2.2) 12345) 2147483648) 65536) (scn (hb (bdc O (bdn O q i).1 (bdn O q i).2.1)) 8)) = (b : Int) := p1
    rw [p1']
    clear p1 p1'
    have r8 := scn_rg (hb (bdc O (bdn O q i).1 (bdn O q i).2.1)) N
    have bb : (b : Int) ≤ 8 := by omega
    refine ok_tn (it_run (fun t (s : Int × Int) => s.1 = (b : Int) - scn (hb (bdc O (bdn O q i).1 (bdn O q i).2.1)) t ∧ s.2 = (t : Int)) N ?_ ?_ 0 FU _ (by omega) (by unfold FU; omega) ⟨by rw [scn, Int.sub_zero], rfl⟩)
    · rintro t ⟨y1, y2⟩ ht ⟨rfl, rfl⟩
      try dsimp only
      have r := scn_rg (hb (bdc O (bdn O q i).1 (bdn O q i).2.1)) t
      have l := p6 t (by omega)
      have u := p7 t ht
      rw [f_isBit (by omega), some_bind, some_bind, ia_1 (by omega), scn]
      clear p5 p6 p7 p8 p13 p14 ey b8 ebd ebc
      generalize scn (hb (bdc O (bdn O q i).1 (bdn O q i).2.1)) t = w at *
      cases hx : hb (bdc O (bdn O q i).1 (bdn O q i).2.1) t
      · rw [if_pos (show (if false = true then (1 : Int) else 0) = 0 from rfl), if_pos (show (if false = true then (1 : Int) else 0) = 0 from rfl), isb_eq (by omega) (by omega)]
        split
        all_goals (rw [thn_l]; refine ok_i ⟨?_, rfl⟩; (try dsimp only); rw [if_neg (show ¬ false = true by decide)]; omega)
      · have u' := u hx
        rw [if_neg (by omega), thn_l, if_neg (show ¬ (if true = true then (1 : Int) else 0) = 0 by decide), isb_eq (by omega) (by omega)]
        refine ok_i ⟨?_, rfl⟩
        (try dsimp only)
        rw [if_pos rfl]; omega
    · rintro ⟨y1, y2⟩ ⟨rfl, rfl⟩
      try dsimp only
      rw [if_pos (by omega), f_isBit (by omega), some_bind, p4, if_neg (show ¬ (if true = true then (1 : Int) else 0) = 0 by decide), thn_r]
      refine ok_i ?_
      show OK _ _
      try dsimp only
      have st : stp O ntk V N = stp O ntk (bdn O q i).1 N := eqw_stp eV _ _
      have hr := stp_rg wf bi.1 p9 p10
      have s0 := bi.1.1
      rw [m_stamps h wf hmM hV hD sV tM p9, some_bind, st]
      refine ok_b (ok_m (m_goes h wf hmM hV hD sV p9 (k := stp O ntk (bdn O q i).1 N) (by omega) (by omega)) (fun Z hZ => ?_))
      obtain ⟨z1, z2⟩ := hZ
      rw [gi', some_bind, pi', some_bind, z1 _ _ (by omega) (by omega), hg, ia_1 (by omega)]
      refine ok_i ⟨?_, ?_, ⟨goS O V N (stp O ntk (bdn O q i).1 N), ?_, go_ws wf sV p9 (by omega) (by omega), ?_⟩, fun a1 a2 d1 d2 => ?_, by (try dsimp only); rw [mu_s], fun x y d1 d2 d3 d4 => ?_⟩
      · rw [p13]; rfl
      · rw [p13]
      · rw [p13]; exact eqw_go eV _ _
      · refine ⟨⟨?_, ?_, ?_, ?_⟩, fun o ho => ?_⟩
        · (try dsimp only); rw [mu_o _ _ (by omega)]; exact z2.1.1
        · (try dsimp only); rw [mu_o _ _ (by omega)]; exact z2.1.2.1
        · (try dsimp only); rw [mu_o _ _ (by omega)]; exact z2.1.2.2.1
        · (try dsimp only); rw [mu_o _ _ (by omega)]; exact z2.1.2.2.2
        · (try dsimp only); rw [mu_o _ _ (by omega)]; exact z2.2 o ho
      · (try dsimp only); rw [mu_o _ _ (by omega), z1 _ _ (by omega) (by omega)]; exact hD a1 a2 d1 d2
      · (try dsimp only); rw [mu_o _ _ (by omega), z1 _ _ (by omega) (by omega)]; exact hF x y d1 d2 d3 d4
  · rintro ⟨x1, x2, M⟩ ⟨rfl, rfl, ⟨V, eV, sV, hV⟩, hD, hg, hF⟩
    try dsimp only at hV hD hg hF ⊢
    have hmM : MW O 0 M := mw_ag hm (fun x y d1 d2 => hF x y (by omega) (by omega) (by omega) (by omega))
    have tM : TK ntk M := tk_0 (by rw [hF _ _ (by omega) (by omega) (by omega) (by omega)]; exact hq)
    have ed := eqw_dn (O := O) eV
    rw [m_isDone h wf hmM hV sV, some_bind]
    unfold bstp at nst
    by_cases cm : iand (O 0 5) (ixor (hset O V (V 0).toNat) (-1)) = 0
    · have : dnb O V = true := decide_eq_true cm
      rw [if_pos cm, if_neg (show ¬ (1 : Int) = 0 by decide)]
      refine ok_i ?_
      show OK _ _
      try dsimp only
      rw [gi', some_bind, hV.1.1]
      refine ok_i ⟨?_, hg, hF⟩
      rw [ebh, ← ed, this, if_pos rfl]
      exact eV 0 (by omega) (by omega)
    · have : dnb O V = false := decide_eq_false cm
      rw [← ed, this, Bool.false_or, decide_eq_true_iff] at nst
      rw [if_neg cm, if_pos rfl, m_canNow h wf hmM hV hD sV tM, some_bind]
      have ebd : iand (sor (fun o => decide (stp O ntk V o ≠ -1)) (O 0 4).toNat) (ixor (bdn O q (bdN O q)).2.1 (-1)) = bdc O (bdn O q (bdN O q)).1 (bdn O q (bdN O q)).2.1 := eqw_c eV _
      rw [ebd, if_pos nst]
      refine ok_i ⟨?_, hg, hF⟩
      rw [ebh, ← ed, this, if_neg (show ¬ false = true by decide)]
  · (try dsimp only)
    rw [eq]
    show _ = hset O (rt (Wn O)) (rt (Wn O) 0).toNat
    rw [← eqw_hset (eqw_rt (Wn O)), ← eqw_rt (Wn O) 0 (by omega) (by omega)]
  · refine ⟨⟨?_, ?_, ?_, ?_⟩, fun o ho => ?_⟩
    · (try dsimp only); rw [mu_o _ _ (by omega)]; exact b2.1.1
    · (try dsimp only); rw [mu_o _ _ (by omega)]; exact b2.1.2.1
    · (try dsimp only); rw [mu_o _ _ (by omega)]; exact b2.1.2.2.1
    · (try dsimp only); rw [mu_o _ _ (by omega)]; exact b2.1.2.2.2
    · (try dsimp only); rw [mu_o _ _ (by omega)]; exact b2.2 o ho
  · intro a1 a2 d1 d2
    (try dsimp only); rw [mu_o _ _ (by omega)]; exact b3 a1 a2 d1 d2
  · (try dsimp only); rw [mu_o _ _ (by omega)]; exact b1 x y (by omega) (by omega) (by omega)
end
