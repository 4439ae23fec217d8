/-! B: office. -/
theorem bind2 {X Y Z : Type} {o : Option X} {f : X → Option Y} {g : Y → Option Z} {z : Z} (h : (o.bind fun x => (f x).bind fun y => g y) = some z) : ∃ x y, o = some x ∧ f x = some y ∧ g y = some z := by
  cases o with
  | none => cases h
  | some x =>
    rw [some_bind] at h
    cases hf : f x with
    | none => rw [hf] at h; cases h
    | some y => rw [hf, some_bind] at h; exact ⟨x, y, rfl, hf, h⟩
theorem ab_wf {O : Ofc} (a : AB O) (h : O 0 0 ≤ 1600) : WF O := by
  rcases a with ⟨z, a1, a2⟩ | ⟨z, w⟩
  · have e : ∀ k, k < 7 → O 0 k = 0 := a1
    unfold WF
    rw [e 0 (by decide), e 1 (by decide), e 2 (by decide), e 3 (by decide), e 4 (by decide), e 5 (by decide), e 6 (by decide)]
    exact ⟨⟨by decide, by decide⟩, ⟨by decide, by decide⟩, ⟨by decide, fun q => absurd q (by decide)⟩, ⟨by decide, by decide⟩, ⟨by decide, by decide⟩, ⟨cn_0, fun i _ => hb_0 i⟩, ⟨by decide, by decide⟩, fun _ => ⟨rfl, rfl, rfl, rfl⟩, fun o ho => absurd ho (by omega), fun r c hr hc => by rw [a2 r c hr hc]; exact ⟨by decide, by decide, fun q => absurd q (by decide)⟩⟩
  · exact wf_of w ⟨z, h⟩
section
variable {T : Knd} {A : Rfs} {I J1 M I0 M0 M1 : Mem} {b : Nat → Int} {L n u p : Nat} {O : Ofc} {Ψ : Prop} {c : Nat → Int} {ln : Int}
theorem c_office0 (h : Ag T A) (e : f_X4_readAll T A 4 I = some J1) (g : J1 4 2 ≠ 0) : f_X11_office T A 1 I = some (-4, mu J1 2 1 0) := by
  obtain ⟨k0, k1, k2, k3, k4, k5, k6, k7, k8, k9⟩ := r_ev h
  obtain ⟨t0, t1, t2, t3, t4⟩ := t_ev h
  unfold f_X11_office
  rw [if_pos (by rw [kT_1 h]), show gr T A 11 1 1 = some 4 by simp only [agX h], some_bind, e, some_bind, show gr T A 11 0 1 = some 2 by simp only [agX h], some_bind, t3, some_bind, some_bind, k3, some_bind, mu_o _ _ (by omega), if_neg g]
theorem c_office1 (h : Ag T A) (e : f_X4_readAll T A 4 I = some J1) (g : J1 4 2 = 0) (wf : WF O) (h6 : O 0 6 = 0) (cv : CV O 5 J1) : OK (f_X11_office T A 1 I) (fun z => z.1 = O 0 0 ∧ CV O 26 z.2 ∧ TW O z.2 ∧ TN O z.2 ∧ CW (Wn O) 64 z.2 ∧ (z.2 1 15 = 0 ∧ z.2 68 6 = 0 ∧ z.2 79 6 = 0 ∧ z.2 2 1 = 0) ∧ ∀ o k, (o < 26 ∨ 65 < o) → ¬ (o = 1 ∧ k = 15) → ¬ ((o = 68 ∨ o = 79) ∧ k = 6) → ¬ (o = 2 ∧ k = 1) → z.2 o k = J1 o k) := by
  obtain ⟨k0, k1, k2, k3, k4, k5, k6, k7, k8, k9⟩ := r_ev h
  obtain ⟨t0, t1, t2, t3, t4⟩ := t_ev h
  have hn := wf_n wf
  have g26 : ∀ J : Mem, gi T 2 0 26 J = some (J 26 0) := fun J => by simp only [agPl h]
  have x2 : gr T A 11 2 1 = some 26 := by simp only [agX h]
  unfold f_X11_office
  rw [if_pos (by rw [kT_1 h]), show gr T A 11 1 1 = some 4 by simp only [agX h], some_bind, e, some_bind, show gr T A 11 0 1 = some 2 by simp only [agX h], some_bind, t3, some_bind, some_bind, k3, some_bind, mu_o _ _ (by omega), if_pos g, x2, some_bind, some_bind, k2, some_bind]
  obtain ⟨I5, eI5⟩ : ∃ I5 : Mem, I5 = mu J1 2 1 0 := ⟨_, rfl⟩
  rw [← eI5]
  have i5 : ∀ o k, ¬ (o = 2 ∧ k = 1) → I5 o k = J1 o k := fun o k hk => by rw [eI5]; exact mu_o _ _ hk
  have cv5 : CV O 5 I5 := cv5_ag cv (fun o k h1 h2 => i5 o k (by omega))
  refine ok_b (ok_m (c_copyFrom (pls_26 h) (pls_5 h) (by decide) (by decide) (by omega)) (fun J2 hJ2 => ?_))
  obtain ⟨c1, c2, c3, c4, c5⟩ := hJ2
  have cv26 : CV O 26 J2 := cv_copy cv5 hn.2 (by omega) ⟨c1, c2, c3, c4⟩
  refine ok_b (ok_m (c_planChanged h wf (lg_0 h6) cv26) (fun J3 hJ3 => ?_))
  obtain ⟨d1, d2, d3, d4, d5, d6, d7⟩ := hJ3
  have cv3 : CV O 26 J3 := cv_ag cv26 (fun o k h1 h2 => d1 o k (by omega) (by omega) (by omega))
  rw [some_bind, g26, some_bind]
  refine ok_i ⟨cv3.1 0 (by decide), cv3, d2, d3, d4, ⟨d5, d6, d7, ?_⟩, fun o k h1 h2 h3 h4 => ?_⟩
  · try dsimp only
    rw [d1 _ _ (by omega) (by omega) (by omega), c5 _ _ (by omega), eI5, mu_s]
  · try dsimp only
    rw [d1 _ _ (by omega) h2 h3, c5 _ _ (by omega), i5 _ _ h4]
theorem m_over (h : Ag T A) (N : Mem) : ∃ K, f_X12_isOver T A 129 N = some K ∧ K 129 6 = 0 ∧ K 129 14 = N 129 12 ∧ (K 129 15 = if N 129 12 = 0 then -1 else N 129 13) ∧ ∀ o k, ¬ (o = 129 ∧ (k = 6 ∨ k = 14 ∨ k = 15)) → K o k = N o k := by
  obtain ⟨g0, g1, g2, g3, g4⟩ := g_ev h
  unfold f_X12_isOver
  rw [if_pos g0, g3, some_bind, g2, some_bind, g3, some_bind, g2, some_bind, mu_o _ _ (by omega), mu_o _ _ (by omega)]
  by_cases c : N 129 12 = 0
  · rw [if_pos c, thn_l, g3, some_bind, if_pos c]
    exact ⟨_, rfl, by rw [mu_o _ _ (by omega), mu_o _ _ (by omega), mu_s], by rw [mu_o _ _ (by omega), mu_s], by rw [mu_s], fun o k hk => by rw [mu_o _ _ (by omega), mu_o _ _ (by omega), mu_o _ _ (by omega)]⟩
  · rw [if_neg c, g2, some_bind, thn_l, g3, some_bind, if_neg c, mu_o _ _ (by omega), mu_o _ _ (by omega)]
    exact ⟨_, rfl, by rw [mu_o _ _ (by omega), mu_o _ _ (by omega), mu_s], by rw [mu_o _ _ (by omega), mu_s], by rw [mu_s], fun o k hk => by rw [mu_o _ _ (by omega), mu_o _ _ (by omega), mu_o _ _ (by omega)]⟩
theorem m_office0 (h : Ag T A) {J N : Mem} (e : ((f_X12_clears T A 129 (mu J 129 0 0)).bind fun e2 => (f_X12_begins T A 129 e2).bind fun e4 => it (ofS T A) FU e4) = some (.inl N)) (g : N 129 12 ≠ 0) : ∃ K, f_X12_office T A 129 J = some (-4, K) ∧ K 129 6 = 0 ∧ K 129 14 = N 129 12 ∧ K 129 15 = N 129 13 ∧ ∀ o k, ¬ (o = 129 ∧ (k = 6 ∨ k = 14 ∨ k = 15)) → K o k = N o k := by
  obtain ⟨g0, g1, g2, g3, g4⟩ := g_ev h
  obtain ⟨e2, e4, h1, h2, h3⟩ := bind2 e
  obtain ⟨K, o1, o2, o3, o4, o5⟩ := m_over (A := A) h N
  refine ⟨K, ?_, o2, o3, by rw [o4, if_neg g], o5⟩
  show (if (T 129).1 = 12 then (pi T 12 0 129 0 J).bind fun I1 => (f_X12_clears T A 129 I1).bind fun e2 => (f_X12_begins T A 129 e2).bind fun e4 => thn (it (ofS T A) FU e4) (fun (v7 : Mem) => (f_X12_isOver T A 129 v7).bind fun e52 => (gi T 12 12 129 e52).bind fun x54 => if x54 = 0 then (f_X12_copyOffice T A 129 4 0 e52).bind fun e56 => (gr T A 12 16 129).bind fun x58 => (ld T 20 x58 0 e56).bind fun x59 => some (x59, e56) else some ((-4), e52)) else none) = _
  rw [if_pos g0, g3, some_bind, h1, some_bind, h2, some_bind, h3, thn_l, o1, some_bind, g2, some_bind, o5 _ _ (by omega), if_neg g]
theorem m_office1 (h : Ag T A) {J N : Mem} (e : ((f_X12_clears T A 129 (mu J 129 0 0)).bind fun e2 => (f_X12_begins T A 129 e2).bind fun e4 => it (ofS T A) FU e4) = some (.inl N)) (g : N 129 12 = 0) (hm : MW O 4 N) (h4 : O 0 4 ≤ 8) (h6 : O 0 6 ≤ 40) : ∃ K, f_X12_office T A 129 J = some (O 0 0, K) ∧ K 129 6 = 0 ∧ K 129 14 = 0 ∧ K 129 15 = -1 ∧ MW O 0 K ∧ ∀ o k, ¬ (o = 129 ∧ (k = 6 ∨ k = 14 ∨ k = 15)) → ¬ slt 0 o k → K o k = N o k := by
  obtain ⟨g0, g1, g2, g3, g4⟩ := g_ev h
  obtain ⟨e2, e4, h1, h2, h3⟩ := bind2 e
  obtain ⟨K, o1, o2, o3, o4, o5⟩ := m_over (A := A) h N
  obtain ⟨K2, p1, p2⟩ := m_copyOffice (I := K) h (a := 4) (d := 0) (by decide) (by decide) (by decide)
  have hmK : MW O 4 K := mw_ag hm (fun o k h1 h2 => o5 o k (by omega))
  have hm2 := mw_copy hmK h4 h6 p2
  have fr := p2.2.2.2.2.2.2.2
  have l0 : ld T 20 135 0 K2 = some (O 0 0) := by
    rw [ev_ld (kT_135 h), if_pos (by decide), show (0 : Int).toNat = 0 from rfl, hm2.1]
  have ns : ∀ k, ¬ slt 0 129 k := fun k z => by unfold slt at z; omega
  refine ⟨K2, ?_, by rw [fr _ _ (ns _)]; exact o2, by rw [fr _ _ (ns _), o3]; exact g, by rw [fr _ _ (ns _), o4, if_pos g], hm2, fun o k q1 q2 => by rw [fr o k q2]; exact o5 o k q1⟩
  show (if (T 129).1 = 12 then (pi T 12 0 129 0 J).bind fun I1 => (f_X12_clears T A 129 I1).bind fun e2 => (f_X12_begins T A 129 e2).bind fun e4 => thn (it (ofS T A) FU e4) (fun (v7 : Mem) => (f_X12_isOver T A 129 v7).bind fun e52 => (gi T 12 12 129 e52).bind fun x54 => if x54 = 0 then (f_X12_copyOffice T A 129 4 0 e52).bind fun e56 => (gr T A 12 16 129).bind fun x58 => (ld T 20 x58 0 e56).bind fun x59 => some (x59, e56) else some ((-4), e52)) else none) = _
  rw [if_pos g0, g3, some_bind, h1, some_bind, h2, some_bind, h3, thn_l, o1, some_bind, g2, some_bind, o5 _ _ (by omega), if_pos g, show f_X12_copyOffice T A 129 4 0 K = some K2 from p1, some_bind, (q_ev h).1, some_bind, l0, some_bind]
theorem sl4_t {o k : Nat} (h : ¬ slt 4 o k) : ¬ sl4 o k := fun z => h (by unfold sl4 at z; unfold slt; omega)
theorem s_office (bs : Bas T A O I) (cc : Cch O I) (t : TP I) : ∃ v J K O', f_X11_office T A 1 I = some (v, J) ∧ f_X12_office T A 129 J = some (v, K) ∧ Bas T A O' K ∧ Cch O' K ∧ TP K ∧ FT K ∧ ∀ o k, rst o k = true → 111 ≤ o → o ≠ 129 → K o k = I o k := by
  obtain ⟨h, wf, hc, hm, g, ht, hnx, kw, hq⟩ := bs
  have hn8 := wf_n wf
  have h6 := wf.2.2.2.2.2.2.1
  obtain ⟨t1, t2, t3⟩ := t
  obtain ⟨L, eL⟩ := Int.eq_ofNat_of_zero_le t2.1
  have tI : Bt (fun k => I 3 k) L I := ⟨by omega, eL, fun _ _ => rfl⟩
  have tM0 : BtM (fun k => I 3 k) L (mu I 129 0 0) := ⟨by omega, by rw [mu_o _ _ (by omega), t1]; exact eL, fun k hk => by rw [mu_o _ _ (by omega)]; exact t3 k (by omega)⟩
  obtain ⟨J1, y0, eJ1, ey0, N0, _, r0⟩ := sim_read h tI tM0
  have fc : FcC I J1 := by
    rcases r0 with ⟨n, O1, p, _, r⟩ | r
    · exact r.2.1.2.2.2.2.2.2.2.1
    · exact r.2.2.2.1
  by_cases gJ : J1 4 2 = 0
  · -- an office
    have gd : ∃ n O1 p, AB O1 ∧ RG I (mu I 129 0 0) (fun k => I 3 k) L n 0 O1 p J1 N0 := by
      rcases r0 with r | r
      · exact r
      · exact absurd gJ r.1
    obtain ⟨n1, O1, p1, ab1, r1⟩ := gd
    have wf1 : WF O1 := ab_wf ab1 (by have := r1.1.2.2.2.1.2; have := r1.2.1.1; omega)
    obtain ⟨⟨v, J⟩, eJ, z1⟩ := c_office1 h eJ1 gJ wf1 r1.1.2.2.1 r1.2.1.2.2.2.2.1
    dsimp only at z1
    have tM : BtM (fun k => I 3 k) L (mu J 129 0 0) := by
      have fr := z1.2.2.2.2.2.2
      refine ⟨by omega, ?_, fun k hk => ?_⟩
      · rw [mu_o _ _ (by omega), fr _ _ (by omega) (by omega) (by omega) (by omega), fc _ _ (by omega), t1]; exact eL
      · rw [mu_o _ _ (by omega), fr _ _ (by omega) (by omega) (by omega) (by omega), fc _ _ (by omega)]; exact t3 k (by omega)
    obtain ⟨J1', y, eJ1', ey, N, rfl, r⟩ := sim_read h tI tM
    have e1 : J1' = J1 := by rw [eJ1] at eJ1'; exact (Option.some.inj eJ1').symm
    subst e1
    have gd2 : ∃ n O1 p, AB O1 ∧ RG I (mu J 129 0 0) (fun k => I 3 k) L n 0 O1 p J1' N := by
      rcases r with r | r
      · exact r
      · exact absurd gJ r.1
    obtain ⟨n2, O2, p2, ab2, r2⟩ := gd2
    have wf2 : WF O2 := ab_wf ab2 (by have := r2.1.2.2.2.1.2; have := r2.2.1.1; omega)
    have h26 : O2 0 6 = 0 := r2.1.2.2.1
    have hn2 := wf_n wf2
    obtain ⟨⟨v', J'⟩, eJ', z2⟩ := c_office1 h eJ1 gJ wf2 h26 r2.2.1.2.2.2.2.1
    have ee : v' = v ∧ J' = J := by
      rw [eJ] at eJ'
      have := Option.some.inj eJ'
      exact ⟨(congrArg Prod.fst this).symm, (congrArg Prod.snd this).symm⟩
    obtain ⟨rfl, rfl⟩ := ee
    dsimp only at z2
    obtain ⟨w1, w2, w3, w4, w5, ⟨w6, w7, w8, w9⟩, w10⟩ := z2
    obtain ⟨K, eK, k1, k2, k3, k4, k5⟩ := m_office1 h ey r2.2.2.2.2.1 r2.2.2.2.2.2.1 hn2.2 (by omega)
    have fm := r2.2.2.2.2.2.2.2.2
    have kN : ∀ o k, o < 129 → K o k = J' o k := fun o k ho => by
      rw [k5 _ _ (by omega) (fun z => by unfold slt at z; omega), fm _ _ (by omega) (fun z => by unfold sl4 at z; omega), mu_o _ _ (by omega)]
    refine ⟨v', J', K, O2, eJ, by rw [eK, w1], ⟨h, wf2, cv_ag w2 (fun o k q1 q2 => kN o k (by omega)), k4, lg_0 h26, tw_ag wf2 w3 (fun o k q1 q2 => kN o k (by omega)), tn_ag wf2 w4 (fun o k q1 q2 => kN o k (by omega)), cw_ag w5 (fun o k q1 => kN o k (by omega)), ?_⟩, ⟨Or.inl (by rw [kN _ _ (by omega)]; exact w7), Or.inl (by rw [kN _ _ (by omega)]; exact w8), Or.inl (by rw [kN _ _ (by omega)]; exact w6)⟩, ⟨?_, ?_, fun k hk => ?_⟩, ⟨?_, ?_⟩, fun o k q1 q2 q3 => ?_⟩
    · rw [k5 _ _ (by omega) (fun z => by unfold slt at z; omega), fm _ _ (by omega) (fun z => by unfold sl4 at z; omega), mu_o _ _ (by omega), w10 _ _ (by omega) (by omega) (by omega) (by omega), fc _ _ (by omega)]
      exact hq
    · rw [k1, kN _ _ (by omega), w9]
    · rw [kN _ _ (by omega), w9]; exact ⟨by decide, by decide⟩
    · rw [kN _ _ (by omega), w9] at hk; omega
    · rw [k2, kN _ _ (by omega), w10 _ _ (by omega) (by omega) (by omega) (by omega)]; exact gJ.symm
    · rw [k3, kN _ _ (by omega), w10 _ _ (by omega) (by omega) (by omega) (by omega)]; exact r2.2.1.2.2.2.2.2.2.2.2.symm
    · unfold rst at q1
      simp only [Bool.or_eq_true, Bool.and_eq_true, decide_eq_true_iff, beq_iff_eq] at q1
      rw [k5 _ _ (by omega) (fun z => by unfold slt at z; omega), fm _ _ (by omega) (fun z => by unfold sl4 at z; omega), mu_o _ _ (by omega), w10 _ _ (by omega) (by omega) (by omega) (by omega), fc _ _ (by omega)]
  · -- a fault
    have eJ := c_office0 h eJ1 gJ
    obtain ⟨J, eJJ⟩ : ∃ J : Mem, J = mu J1 2 1 0 := ⟨_, rfl⟩
    rw [← eJJ] at eJ
    have jj : ∀ o k, ¬ (o = 2 ∧ k = 1) → J o k = J1 o k := fun o k hk => by rw [eJJ]; exact mu_o _ _ hk
    have tM : BtM (fun k => I 3 k) L (mu J 129 0 0) := by
      refine ⟨by omega, ?_, fun k hk => ?_⟩
      · rw [mu_o _ _ (by omega), jj _ _ (by omega), fc _ _ (by omega), t1]; exact eL
      · rw [mu_o _ _ (by omega), jj _ _ (by omega), fc _ _ (by omega)]; exact t3 k (by omega)
    obtain ⟨J1', y, eJ1', ey, N, rfl, r⟩ := sim_read h tI tM
    have e1 : J1' = J1 := by rw [eJ1] at eJ1'; exact (Option.some.inj eJ1').symm
    subst e1
    have gd2 : RBx I (mu J 129 0 0) J1' N := by
      rcases r with ⟨n, O1, p, _, r⟩ | r
      · exact absurd r.2.1.2.2.2.1 gJ
      · exact r
    obtain ⟨b1, b2, b3, b4, fm⟩ := gd2
    obtain ⟨K, eK, k1, k2, k3, k5⟩ := m_office0 h ey (show N 129 12 ≠ 0 by rw [b2]; exact b1)
    have kN : ∀ o k, o < 129 → K o k = J o k := fun o k ho => by
      rw [k5 _ _ (by omega), fm _ _ (by omega) (fun z => by unfold sl4 at z; omega), mu_o _ _ (by omega)]
    have kI : ∀ o k, 26 ≤ o → o < 129 → K o k = I o k := fun o k q1 q2 => by rw [kN _ _ q2, jj _ _ (by omega), fc _ _ (by omega)]
    refine ⟨-4, J, K, O, eJ, eK, ⟨h, wf, cv_ag hc (fun o k q1 q2 => kI o k (by omega) (by omega)), mw_stay hm hn8.2 h6.2 (d := 4) (by decide) (fun o k q1 q2 q3 => ?_), g, tw_ag wf ht (fun o k q1 q2 => kI o k (by omega) (by omega)), tn_ag wf hnx (fun o k q1 q2 => kI o k (by omega) (by omega)), cw_ag kw (fun o k q1 => kI o k (by omega) (by omega)), ?_⟩, ⟨soon_ag cc.1 (fun o k q1 q2 => kI o k (by omega) (by omega)), evry_ag cc.2.1 (fun o k q1 q2 => kI o k (by omega) (by omega)), star_ag cc.2.2 (fun k => by rw [kN _ _ (by omega), jj _ _ (by omega), fc _ _ (by omega)])⟩, ⟨?_, ?_, fun k hk => ?_⟩, ⟨?_, ?_⟩, fun o k q1 q2 q3 => ?_⟩
    · rw [k5 _ _ (by omega), fm _ _ (by omega) (sl4_t q3), mu_o _ _ (by omega), jj _ _ (by omega), fc _ _ (by omega)]
    · rw [k5 _ _ (by omega), fm _ _ (by omega) (fun z => by unfold sl4 at z; omega), mu_o _ _ (by omega), jj _ _ (by omega), fc _ _ (by omega)]
      exact hq
    · rw [k1, kN _ _ (by omega), eJJ, mu_s]
    · rw [kN _ _ (by omega), eJJ, mu_s]; exact ⟨by decide, by decide⟩
    · rw [kN _ _ (by omega), eJJ, mu_s] at hk; omega
    · rw [k2, kN _ _ (by omega), jj _ _ (by omega)]; exact b2
    · rw [k3, kN _ _ (by omega), jj _ _ (by omega)]; exact b3
    · unfold rst at q1
      simp only [Bool.or_eq_true, Bool.and_eq_true, decide_eq_true_iff, beq_iff_eq] at q1
      rw [k5 _ _ (by omega), fm _ _ (by omega) (fun z => by unfold sl4 at z; omega), mu_o _ _ (by omega), jj _ _ (by omega), fc _ _ (by omega)]
end
