/-! B: the reference's rounds; ring. -/
theorem fr_150 {I J : Mem} (hF : Fo 150 150 I J) : Fr I J := by
  intro o k hk
  refine hF o k ?_
  rcases Nat.lt_trichotomy o 150 with g | g | g
  · exact Or.inl g
  · rw [g] at hk
    exact absurd hk (by unfold scr; simp)
  · exact Or.inr g
section
variable {T : Knd} {A : Rfs} {O : Ofc} {I : Mem}
theorem m_reach (h : Ag T A) (wf : WF O) (hm : MW O 0 I) : OK (f_X12_laysReach T A 129 I) (fun J => (∀ i m, i < 8 → hb (J 150 i) m = Wb O i m) ∧ Fo 150 150 I J) := by
  obtain ⟨hn, en⟩ := on_le wf
  have g45 : gr T A 12 45 129 = some 150 := by simp only [agMg h]
  have g17 : gr T A 12 17 129 = some 136 := by simp only [agMg h]
  have g19 : gr T A 12 19 129 = some 138 := by simp only [agMg h]
  have e8 : wb (nbt O) 8 = Wb O := by
    have := wb_more (N := nbt O) (n := oN O) (fun i m hm => nbt_m wf i m hm) (8 - oN O)
    rw [show oN O + (8 - oN O) = 8 by omega] at this
    exact this
  unfold f_X12_laysReach
  rw [if_pos (by rw [kT_129 h])]
  refine ok_tn (ok_m (P := fun z => match z with | .inl v => (∀ i m, i < 8 → hb (v 150 i) m = nbt O i m) ∧ Fo 150 150 I v | .inr _ => False) ?_ ?_)
  · refine it_run (fun k (x : Int × Mem) => x.1 = (k : Int) ∧ (∀ i m, i < k → hb (x.2 150 i) m = nbt O i m) ∧ Fo 150 150 I x.2) 8 ?_ ?_ 0 FU _ (by omega) (by unfold FU; omega) ⟨rfl, fun i m hi => absurd hi (by omega), fo_r _ _ _⟩
    · rintro k ⟨x1, M⟩ hk ⟨rfl, hW, hF⟩
      try dsimp only at hW hF ⊢
      have hmM := mw_fo hm hF (by decide)
      rw [if_pos (by omega), g45, some_bind, g17, some_bind, m_h3 h hmM, some_bind]
      refine ok_tn (ok_e (v := .inl (if (k : Int) < O 0 4 then O 12 k else 0)) ?_ ?_)
      · by_cases c : (k : Int) < O 0 4
        · rw [if_pos c, if_pos c, g19, some_bind, m_needs h wf hmM c, some_bind]
        · rw [if_neg c, if_neg c]
      · show OK _ _
        dsimp only
        rw [ev_sto (kT_150 h), if_pos (by omega), some_bind, Int.toNat_natCast, ia_1 (by omega)]
        refine ok_i ⟨rfl, fun i m hi => ?_, fo_mu hF (by decide) (by decide)⟩
        try dsimp only
        by_cases c : i = k
        · subst c
          rw [mu_s]
          unfold nbt
          by_cases d : i < oN O
          · rw [if_pos (by omega), decide_eq_true d, Bool.true_and]
          · rw [if_neg (by omega), decide_eq_false d, Bool.false_and, hb_0]
        · rw [mu_o _ _ (by omega)]
          exact hW i m (by omega)
    · rintro ⟨x1, M⟩ ⟨rfl, hW, hF⟩
      try dsimp only at hW hF ⊢
      rw [if_neg (by omega)]
      exact ok_i ⟨hW, hF⟩
  · rintro (V | x) hz
    · obtain ⟨hW0, hF0⟩ := hz
      show OK _ _
      dsimp only
      refine it_run (fun k (x : Int × Mem) => x.1 = (k : Int) ∧ (∀ i m, i < 8 → hb (x.2 150 i) m = wb (nbt O) k i m) ∧ Fo 150 150 I x.2) 8 ?_ ?_ 0 FU _ (by omega) (by unfold FU; omega) ⟨rfl, hW0, hF0⟩
      · rintro k ⟨x1, M⟩ hk ⟨rfl, hW, hF⟩
        try dsimp only at hW hF ⊢
        rw [if_pos (by omega)]
        refine it_run (fun t (x : Int × Mem) => x.1 = (t : Int) ∧ (∀ i m, i < 8 → hb (x.2 150 i) m = if i < t then wb (nbt O) (k + 1) i m else wb (nbt O) k i m) ∧ Fo 150 150 I x.2) 8 ?_ ?_ 0 FU _ (by omega) (by unfold FU; omega) ⟨rfl, fun i m hi => by rw [if_neg (by omega)]; exact hW i m hi, hF⟩
        · rintro t ⟨x1, V⟩ ht ⟨rfl, hV, hG⟩
          try dsimp only at hV hG ⊢
          rw [if_pos (by omega), g45, some_bind, ev_ld (kT_150 h), if_pos (by omega), some_bind, Int.toNat_natCast, f_isBit (by omega), some_bind, ia_1 (by omega)]
          have e1 : hb (V 150 t) k = wb (nbt O) k t k := by rw [hV t k ht, if_neg (by omega)]
          cases hx : hb (V 150 t) k
          · rw [if_pos (show (if false = true then (1 : Int) else 0) = 0 from rfl)]
            refine ok_i ⟨rfl, fun i m hi => ?_, hG⟩
            try dsimp only
            rw [hV i m hi]
            by_cases c : i = t
            · subst c
              rw [if_neg (by omega), if_pos (by omega), wb_s, ← e1, hx, Bool.false_and, Bool.or_false]
            · by_cases c2 : i < t
              · rw [if_pos c2, if_pos (by omega)]
              · rw [if_neg c2, if_neg (by omega)]
          · rw [if_neg (show ¬ (if true = true then (1 : Int) else 0) = 0 by decide), some_bind, ev_ld (kT_150 h), if_pos (by omega), some_bind, some_bind, ev_ld (kT_150 h), if_pos (by omega), some_bind, ev_sto (kT_150 h), if_pos (by omega), some_bind, Int.toNat_natCast, Int.toNat_natCast]
            refine ok_i ⟨rfl, fun i m hi => ?_, fo_mu hG (by decide) (by decide)⟩
            try dsimp only
            by_cases c : i = t
            · subst c
              rw [mu_s, hb_or, hV i m hi, hV k m hk, if_neg (show ¬ i < i by omega), if_pos (show i < i + 1 by omega), wb_s (nbt O) k i m, ← e1, hx, Bool.true_and]
              by_cases c2 : k < i
              · rw [if_pos c2, wb_s]
                cases wb (nbt O) k i m <;> cases wb (nbt O) k k k <;> cases wb (nbt O) k k m <;> rfl
              · rw [if_neg c2]
            · rw [mu_o _ _ (by omega), hV i m hi]
              by_cases c2 : i < t
              · rw [if_pos c2, if_pos (by omega)]
              · rw [if_neg c2, if_neg (by omega)]
        · rintro ⟨x1, V⟩ ⟨rfl, hV, hG⟩
          try dsimp only at hV hG ⊢
          rw [if_neg (by omega), ia_1 (by omega)]
          refine ok_i ⟨rfl, fun i m hi => ?_, hG⟩
          try dsimp only
          rw [hV i m hi, if_pos hi]
      · rintro ⟨x1, M⟩ ⟨rfl, hW, hF⟩
        try dsimp only at hW hF ⊢
        rw [if_neg (by omega)]
        rw [e8] at hW
        exact ok_i ⟨hW, hF⟩
    · exact hz.elim
theorem m_ringNow (h : Ag T A) (wf : WF O) (hm : MW O 0 I) : OK (f_X12_ringNow T A 129 I) (fun z => z.1 = sor (fun i => Wb O i i) (oN O) ∧ (∀ i m, i < 8 → hb (z.2 150 i) m = Wb O i m) ∧ Fo 150 150 I z.2) := by
  obtain ⟨hn, en⟩ := on_le wf
  have g45 : gr T A 12 45 129 = some 150 := by simp only [agMg h]
  have g17 : gr T A 12 17 129 = some 136 := by simp only [agMg h]
  unfold f_X12_ringNow
  rw [if_pos (by rw [kT_129 h])]
  refine ok_b (ok_m (m_reach h wf hm) (fun J hJ => ?_))
  obtain ⟨j1, j2⟩ := hJ
  have hmJ := mw_fo hm j2 (by decide)
  refine ok_e (v := (sor (fun i => Wb O i i) (oN O), J)) ?_ ⟨rfl, j1, j2⟩
  refine it_seq (fun i => (sor (fun i => Wb O i i) i, (i : Int))) (oN O) (fun i hi => ?_) ?_ FU (by unfold FU; omega)
  · try dsimp only
    rw [g17, some_bind, m_h3 h hmJ, some_bind, if_pos (by omega), g45, some_bind, ev_ld (kT_150 h), if_pos (by omega), some_bind, Int.toNat_natCast, f_isBit (by omega), some_bind, ia_1 (by omega), j1 i i (by omega), sor]
    cases Wb O i i
    · rw [if_pos (show (if false = true then (1 : Int) else 0) = 0 from rfl), thn_l, ior_0 (cn_sor _ _)]; rfl
    · rw [if_neg (show ¬ (if true = true then (1 : Int) else 0) = 0 by decide), thn_l]; rfl
  · try dsimp only
    rw [g17, some_bind, m_h3 h hmJ, some_bind, if_neg (by omega)]
theorem nb_told {J : Mem} (wf : WF O) (hc : CV O 26 I) (z5 : ∀ i, i < 8 → J 102 i = I 38 i) : ∀ i m, i < oN O → hb (J 102 i) m = nbt O i m := by
  obtain ⟨hn, en⟩ := on_le wf
  intro i m hi
  rw [z5 i (by omega)]
  have : I 38 i = O 12 i := cv_told hc (w := 9) (by decide) (by omega)
  rw [this]
  unfold nbt
  rw [decide_eq_true hi, Bool.true_and]
theorem q_ring (b : Bas T A O I) : Quiet2 (f_X11_ring T A 1 I) (fun J => f_X12_ring T A 129 J) I := by
  obtain ⟨h, wf, hc, hm, g, ht, hnx, k, hq⟩ := b
  obtain ⟨hn, en⟩ := on_le wf
  have pi' : ∀ q v (J : Mem), pi T 12 q 129 v J = some (mu J 129 q v) := fun q v J => by simp only [agMg h]
  unfold f_X11_ring f_X12_ring
  rw [if_pos (by rw [kT_1 h]), show gr T A 11 2 1 = some 26 by simp only [agX h], some_bind, c_isThere h hc, some_bind]
  simp only [if_pos (show (T 129).1 = 12 by rw [kT_129 h]), pi', some_bind]
  by_cases c : 0 < O 0 0
  · obtain ⟨⟨x, J⟩, e, z1, z2, z3, z4, z5, z6, z7⟩ := c_learn h wf hc
    dsimp only at z1 z2 z3 z4 z5 z6 z7
    subst z1
    rw [if_pos c, if_neg (by decide), e, some_bind]
    obtain ⟨⟨y, K⟩, eK, k1, k2, k3⟩ := c_rounds h hn z3 (nb_told wf hc z5)
    dsimp only at k1 k2 k3
    have f1 : Fo 101 106 I K := fo_t z2 (fo_w k3 (by decide) (by decide))
    have hmK := mw_fr (mw_fx hm (fx_sets f1)) (fr_0 K)
    obtain ⟨⟨u, L⟩, eL, l1, l2, l3⟩ := m_ringNow h wf hmK
    dsimp only at l1 l2 l3
    dsimp only
    rw [eK, some_bind]
    refine ⟨y, K, L, rfl, ?_, fx_t (fx_sets f1) (fx_t (fx_fr (fr_0 K)) (fx_fr (fr_150 l3)))⟩
    dsimp only
    rw [m_isOffice h hmK, some_bind, if_pos c, if_neg (by decide), eL, some_bind, k1, l1]
    rfl
  · rw [if_neg c, if_pos rfl]
    refine ⟨-2, I, mu I 129 0 0, rfl, ?_, fx_fr (fr_0 I)⟩
    dsimp only
    rw [m_isOffice h (mw_fr hm (fr_0 I)), some_bind, if_neg c, if_pos rfl]
end
