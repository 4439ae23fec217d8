/-! B: depth. -/
section
variable {T : Knd} {A : Rfs} {O : Ofc} {I : Mem}
theorem c_chain (h : Ag T A) (wf : WF O) {i : Nat} (hi : i < oN O) (h5 : I 101 5 = ((oN O : Nat) : Int)) (hN : ∀ i m, i < oN O → hb (I 102 i) m = nbt O i m) : OK (f_X6_longestChain T A 101 (i : Int) I) (fun z => (gdi (Wb O) (oN O) i → z.1 = dep (nbt O) (oN O) 12 i) ∧ (¬ gdi (Wb O) (oN O) i → z.1 = -1) ∧ Fo 105 106 I z.2) := by
  obtain ⟨hn, en⟩ := on_le wf
  obtain ⟨k0, k1, k2, k3, k4, k5, k6⟩ := q101 h
  have hM : ∀ i m, oN O ≤ m → nbt O i m = false := fun i m hm => nbt_m wf i m hm
  unfold f_X6_longestChain
  rw [if_pos k0]
  refine ok_b (ok_m (c_rounds h hn h5 hN) (fun z hz => ?_))
  obtain ⟨y, J⟩ := z
  obtain ⟨j1, j2, j3⟩ := hz
  dsimp only at j1 j2 j3 ⊢
  rw [if_neg (by omega), k6, some_bind, j3 _ _ (by omega), h5, if_pos (by omega), k4, some_bind, ev_ld (kT_105 h), if_pos (by omega), some_bind, Int.toNat_natCast]
  have e1 : y = sor (fun i => Wb O i i) (oN O) := j1
  rw [e1]
  have ga := gd_and wf hi (fun m => j2 i m hi)
  by_cases c : gdi (Wb O) (oN O) i
  · rw [if_pos (ga.mpr c), k5, some_bind]
    refine ok_b (ok_m (c_fill (kT_106 h) (by decide) 1) (fun M hM1 => ?_))
    obtain ⟨m1, m2⟩ := hM1
    have w5 : M 101 5 = ((oN O : Nat) : Int) := by rw [m1 _ _ (by omega), j3 _ _ (by omega)]; exact h5
    have dge : ∀ t, gdi (wb (nbt O) (oN O)) (oN O) t → 1 ≤ dep (nbt O) (oN O) 12 t := fun t g => by
      rw [dep_eq hM hn g]
      have := mxd_0 (nbt O t) (dep (nbt O) (oN O) 12) (oN O)
      omega
    refine ok_tn (ok_m (P := fun z => match z with | .inl V => Fo 106 106 M V ∧ V 106 i = dep (nbt O) (oN O) 12 i | .inr _ => False) ?_ ?_)
    · refine it_run (fun k (x : Int × Mem) => x.1 = ((k + 1 : Nat) : Int) ∧ Fo 106 106 M x.2 ∧ ChI (nbt O) (oN O) (1 + 64 * k) x.2 ∧ ∀ t, gdi (wb (nbt O) (oN O)) (oN O) t → lb (nbt O) (oN O) x.2 t ((k : Int) + 1)) (oN O - 1) ?_ ?_ 0 FU _ (by omega) (by unfold FU; omega) ⟨rfl, fo_r _ _ _, ⟨fun t ht => ?_, fun t g => ?_⟩, fun t g => ?_⟩
      · rintro k ⟨x1, V⟩ hk ⟨rfl, vF, vC, vL⟩
        try dsimp only at vF vC vL ⊢
        rw [k6, some_bind, vF _ _ (by omega), w5, if_pos (by omega)]
        have v5 : V 101 5 = ((oN O : Nat) : Int) := by rw [vF _ _ (by omega)]; exact w5
        have vN : ∀ i m, i < oN O → hb (V 102 i) m = nbt O i m := fun a m ha => by
          rw [vF _ _ (by omega), m1 _ _ (by omega), j3 _ _ (by omega)]; exact hN a m ha
        refine ok_b (ok_m (c_lengthen h (q := k) hn (by omega) v5 vN hM vC vL) (fun U hU => ?_))
        obtain ⟨u1, u2, u3⟩ := hU
        rw [ia_1 (by omega)]
        refine ok_i ⟨rfl, fo_t vF u1, ?_, fun t g => ?_⟩
        · try dsimp only
          rw [show 1 + 64 * (k + 1) = 1 + 64 * k + 64 by omega]
          exact u2
        · try dsimp only
          have := u3 t g
          rw [show ((k + 1 : Nat) : Int) + 1 = (k : Int) + 2 by omega]
          exact this
      · rintro ⟨x1, V⟩ ⟨rfl, vF, vC, vL⟩
        try dsimp only at vF vC vL ⊢
        rw [k6, some_bind, vF _ _ (by omega), w5, if_neg (by omega)]
        refine ok_i ⟨vF, ?_⟩
        have a1 := vC.2 i c
        have a2 := dep_n hM c
        rcases vL i c with w | w
        · omega
        · omega
      · try dsimp only
        have := m2 t (by omega)
        omega
      · try dsimp only
        have := m2 t (by have := g.1; omega)
        have := dge t g
        omega
      · try dsimp only
        have := m2 t (by have := g.1; omega)
        exact Or.inr (by omega)
    · rintro (V | x) hz
      · obtain ⟨v1, v2⟩ := hz
        show OK _ _
        dsimp only
        rw [some_bind, ev_ld (kT_106 h), if_pos (by omega), some_bind, Int.toNat_natCast]
        refine ok_i ⟨fun _ => v2, fun q => absurd c q, ?_⟩
        intro a b hab
        try dsimp only
        rw [v1 a b (by omega), m1 a b (by omega), j3 a b (by omega)]
      · exact hz.elim
  · rw [if_neg (fun q => c (ga.mp q))]
    exact ok_i ⟨fun q => absurd q c, fun _ => rfl, fo_w j3 (by decide) (by decide)⟩
theorem q_depth (b : Bas T A O I) (a1 : Int) : Quiet2 (f_X11_depth T A 1 a1 I) (fun J => f_X12_depth T A 129 a1 J) I := by
  obtain ⟨h, wf, hc, hm, g, ht, hnx, k, hq⟩ := b
  obtain ⟨hn, en⟩ := on_le wf
  have pi' : ∀ q v (J : Mem), pi T 12 q 129 v J = some (mu J 129 q v) := fun q v J => by simp only [agMg h]
  have g45 : gr T A 12 45 129 = some 150 := by simp only [agMg h]
  unfold f_X11_depth f_X12_depth
  rw [if_pos (by rw [kT_1 h]), show gr T A 11 2 1 = some 26 by simp only [agX h], some_bind, c_has h wf hc, some_bind]
  simp only [if_pos (show (T 129).1 = 12 by rw [kT_129 h]), pi', some_bind]
  by_cases c : 0 ≤ a1 ∧ a1 < O 0 4
  · obtain ⟨i, rfl⟩ := Int.eq_ofNat_of_zero_le c.1
    have hi : i < oN O := by omega
    obtain ⟨⟨x, J⟩, e, z1, z2, z3, z4, z5, z6, z7⟩ := c_learn h wf hc
    dsimp only at z1 z2 z3 z4 z5 z6 z7
    subst z1
    rw [if_pos c, if_neg (by decide), e, some_bind]
    obtain ⟨⟨y, K⟩, eK, k1, k2, k3⟩ := c_chain h wf hi z3 (nb_told wf hc z5)
    dsimp only at k1 k2 k3
    have f1 : Fo 101 106 I K := fo_t z2 (fo_w k3 (by decide) (by decide))
    have hmK := mw_fr (mw_fx hm (fx_sets f1)) (fr_0 K)
    obtain ⟨⟨u, L⟩, eL, l1, l2, l3⟩ := m_ringNow h wf hmK
    dsimp only at l1 l2 l3
    dsimp only
    rw [eK, some_bind]
    refine ⟨y, K, L, rfl, ?_, fx_t (fx_sets f1) (fx_t (fx_fr (fr_0 K)) (fx_fr (fr_150 l3)))⟩
    dsimp only
    rw [m_isOfficial h wf hmK, some_bind, if_pos c, if_neg (by decide), eL, some_bind, g45, some_bind, ev_ld (kT_150 h), if_pos (by omega), some_bind, Int.toNat_natCast]
    dsimp only
    rw [l1]
    have ga := gd_and wf hi (fun m => l2 i m (by omega))
    by_cases d : gdi (Wb O) (oN O) i
    · have hmL := mw_fo hmK l3 (by decide)
      have := scn_rg (Wb O i) (oN O)
      rw [if_pos (ga.mpr d), m_depthOf h wf hmL 12 i d (by omega), some_bind, k1 d]
    · rw [if_neg (fun q => d (ga.mp q)), k2 d]
  · rw [if_neg c, if_pos rfl]
    refine ⟨-2, I, mu I 129 0 0, rfl, ?_, fx_fr (fr_0 I)⟩
    dsimp only
    rw [m_isOfficial h wf (mw_fr hm (fr_0 I)), some_bind, if_neg c, if_pos rfl]
end
