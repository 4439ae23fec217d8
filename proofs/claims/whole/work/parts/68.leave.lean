/-! B: leave; the tape; the fault. -/
section
variable {T : Knd} {A : Rfs} {O O' : Ofc} {I J K : Mem} {W : Wkr}
theorem s_leave (b : Bas T A O I) (a1 a2 a3 : Int) : ∃ v J K O', f_X11_leave T A 1 a1 a2 a3 I = some (v, J) ∧ f_X12_leave T A 129 a1 a2 a3 J = some (v, K) ∧ Bas T A O' K ∧ Out O I O' K := by
  have b' := b
  obtain ⟨h, wf, hc, hm, g, ht, hn, k, hq⟩ := b
  have hn8 := wf_n wf
  have h6 := wf.2.2.2.2.2.2.1
  have pi' : ∀ q v (J : Mem), pi T 12 q 129 v J = some (mu J 129 q v) := fun q v J => by simp only [agMg h]
  have g17 : gr T A 12 17 129 = some 136 := by simp only [agMg h]
  have g18 : gr T A 12 18 129 = some 137 := by simp only [agMg h]
  have g11 : gr T A 11 2 1 = some 26 := by simp only [agX h]
  have g26 : gi T 2 6 26 I = some (I 26 6) := by simp only [agPl h]
  have hm0 := mw_fr hm (fr_0 I)
  have refuse : ∀ {v : Int}, f_X11_leave T A 1 a1 a2 a3 I = some (v, I) → f_X12_leave T A 129 a1 a2 a3 I = some (v, mu I 129 0 0) → ∃ v J K O', f_X11_leave T A 1 a1 a2 a3 I = some (v, J) ∧ f_X12_leave T A 129 a1 a2 a3 J = some (v, K) ∧ Bas T A O' K ∧ Out O I O' K := fun {v} e1 e2 => ⟨v, I, mu I 129 0 0, O, e1, e2, bas_fr b' (fr_0 I), Or.inl ⟨rfl, fr_0 I⟩⟩
  have en : (thn (if a2 = (-1) then if a3 = (-1) then some (.inr (.inl 1)) else some (.inl ()) else some (.inl ()) : Option (Unit ⊕ (Int ⊕ (Int × Mem)))) (fun (_ : Unit) => some (.inl 0))) = some (.inl (if a2 = -1 ∧ a3 = -1 then 1 else 0)) := by
    by_cases z1 : a2 = -1
    · by_cases z2 : a3 = -1
      · rw [if_pos z1, if_pos z2, if_pos ⟨z1, z2⟩]; rfl
      · rw [if_pos z1, if_neg z2, if_neg (fun q => z2 q.2)]; rfl
    · rw [if_neg z1, if_neg (fun q => z1 q.1)]; rfl
  have ed : (thn (if a2 < 0 then some (.inl ()) else if a2 ≤ a3 then if a3 < 40 then some (.inr (.inl 1)) else some (.inl ()) else some (.inl ()) : Option (Unit ⊕ (Int ⊕ (Int × Mem)))) (fun (_ : Unit) => some (.inl 0))) = some (.inl (if 0 ≤ a2 ∧ a2 ≤ a3 ∧ a3 < 40 then 1 else 0)) := by
    by_cases z : 0 ≤ a2 ∧ a2 ≤ a3 ∧ a3 < 40
    · rw [if_neg (by omega), if_pos z.2.1, if_pos z.2.2, if_pos z]; rfl
    · rw [if_neg z]
      by_cases z1 : a2 < 0
      · rw [if_pos z1]; rfl
      · rw [if_neg z1]
        by_cases z2 : a2 ≤ a3
        · rw [if_pos z2, if_neg (by omega)]; rfl
        · rw [if_neg z2]; rfl
  by_cases c1 : 0 ≤ a1 ∧ a1 < O 0 4
  · obtain ⟨o, rfl⟩ := Int.eq_ofNat_of_zero_le c1.1
    have ho : (o : Int) < O 0 4 := c1.2
    by_cases c2 : (a2 = -1 ∧ a3 = -1) ∨ (0 ≤ a2 ∧ a2 ≤ a3 ∧ a3 < 40)
    · have cls : ∀ (X : Option (Int × Mem)), (thn (if (if a2 = -1 ∧ a3 = -1 then (1 : Int) else 0) = 0 then if (if 0 ≤ a2 ∧ a2 ≤ a3 ∧ a3 < 40 then (1 : Int) else 0) = 0 then some (.inr ((-2), I)) else some (.inl ()) else some (.inl ()) : Option (Unit ⊕ (Int × Mem))) (fun _ => X)) = X := by
        intro X
        rcases c2 with z | z
        · rw [if_pos z, if_neg (by decide)]; rfl
        · rw [if_neg (show ¬ (a2 = -1 ∧ a3 = -1) by omega), if_pos rfl, if_pos z, if_neg (by decide)]; rfl
      have mds : ∀ (X : Option (Int × Mem)) (L : Mem), (thn (if (if a2 = -1 ∧ a3 = -1 then (1 : Int) else 0) = 0 then if (if 0 ≤ a2 ∧ a2 ≤ 39 then (1 : Int) else 0) = 0 then some (.inr ((-2), L)) else if (if a2 ≤ a3 ∧ a3 ≤ 39 then (1 : Int) else 0) = 0 then some (.inr ((-2), L)) else some (.inl ()) else some (.inl ()) : Option (Unit ⊕ (Int × Mem))) (fun _ => X)) = X := by
        intro X L
        rcases c2 with z | z
        · rw [if_pos z, if_neg (by decide)]; rfl
        · rw [if_neg (show ¬ (a2 = -1 ∧ a3 = -1) by omega), if_pos rfl, if_pos (show 0 ≤ a2 ∧ a2 ≤ 39 by omega), if_neg (by decide), if_pos (show a2 ≤ a3 ∧ a3 ≤ 39 by omega), if_neg (by decide)]; rfl
      by_cases c6 : O 0 6 ≤ 0
      · obtain ⟨O', eO⟩ : ∃ O', O' = rwO (rwO O 10 o a2) 11 o a3 := ⟨_, rfl⟩
        have o0 : ∀ k, O' 0 k = O 0 k := fun k => by rw [eO, rw_o _ _ (by omega), rw_o _ _ (by omega)]
        have oa : ∀ a k, a ≠ 10 → a ≠ 11 → O' a k = O a k := fun a k ha hb1 => by rw [eO, rw_o _ _ (by omega), rw_o _ _ (by omega)]
        have wf' : WF O' := by
          obtain ⟨w1, w2, w3, w4, w5, w6, w7, w8, w9, w10⟩ := wf
          unfold WF
          simp only [o0]
          refine ⟨w1, w2, w3, w4, w5, w6, w7, w8, fun p hp => ?_, fun r c hr hcc => ?_⟩
          · have hp9 := w9 p hp
            unfold WO at hp9 ⊢
            rw [oa 3 _ (by omega) (by omega), oa 4 _ (by omega) (by omega), oa 5 _ (by omega) (by omega), oa 6 _ (by omega) (by omega), oa 7 _ (by omega) (by omega), oa 8 _ (by omega) (by omega), oa 9 _ (by omega) (by omega), oa 12 _ (by omega) (by omega), oa 13 _ (by omega) (by omega)]
            simp only [o0]
            refine ⟨hp9.1, hp9.2.1, hp9.2.2.1, hp9.2.2.2.1, hp9.2.2.2.2.1, hp9.2.2.2.2.2.1, hp9.2.2.2.2.2.2.1, ?_, hp9.2.2.2.2.2.2.2.2.1, hp9.2.2.2.2.2.2.2.2.2⟩
            by_cases z : p = o
            · subst z
              rw [eO, rw_s, rw_o _ _ (by omega), rw_s]
              omega
            · rw [eO, rw_o _ _ (by omega), rw_o _ _ (by omega), rw_o _ _ (by omega), rw_o _ _ (by omega)]
              exact hp9.2.2.2.2.2.2.2.1
          · rw [oa _ _ (by omega) (by omega)]; exact w10 r c hr hcc
        have m0 : O' 0 6 = 0 := by rw [o0]; omega
        have lg : LG O' := lg_0 m0
        obtain ⟨J1, eJ1⟩ : ∃ J1, J1 = mu (mu I 36 o a2) 37 o a3 := ⟨_, rfl⟩
        have hc1 : CV O' 26 J1 := by
          have t1 := cv_td hc (show 7 < 11 by omega) (o := o) a2
          have t2 := cv_td t1 (show 8 < 11 by omega) (o := o) a3
          rw [eO, eJ1]
          exact t2
        obtain ⟨J, eJ, f, t1, t2, k2, z1, z2, z3⟩ := c_planChanged h wf' lg hc1
        have agJ : ∀ a b, (a < 36 ∨ 65 < a) → ¬ (a = 1 ∧ b = 15) → ¬ ((a = 68 ∨ a = 79) ∧ b = 6) → J a b = I a b := fun a b h1 h2 h3 => by
          rw [f a b (by omega) h2 h3, eJ1, mu_o _ _ (by omega), mu_o _ _ (by omega)]
        have hmJ : MW O 0 J := mw_ag hm (fun a b h1 h2 => agJ a b (by omega) (by omega) (by omega))
        have hmJ0 := mw_fr hmJ (fr_0 J)
        obtain ⟨K, eK⟩ : ∃ K, K = mu (mu (mu J 129 0 0) 137 (9 * o + 7) a2) 137 (9 * o + 8) a3 := ⟨_, rfl⟩
        have agK : ∀ a b, a < 129 → K a b = J a b := fun a b h1 => by rw [eK, mu_o _ _ (by omega), mu_o _ _ (by omega), mu_o _ _ (by omega)]
        refine ⟨0, J, K, O', ?_, ?_, ⟨h, wf', cv_ag hc1 (fun a b h1 h2 => ?_), ?_, lg, tw_ag wf' t1 (fun a b h1 h2 => agK a b (by omega)), tn_ag wf' t2 (fun a b h1 h2 => agK a b (by omega)), cw_ag k2 (fun a b h1 => agK a b (by omega)), ?_⟩, Or.inr ⟨?_, ?_, Or.inl ?_, ?_⟩⟩
        · unfold f_X11_leave
          rw [if_pos (by rw [kT_1 h]), en, thn_l, ed, thn_l, g11, some_bind, c_has1 h wf hc ho, some_bind, if_neg (by decide), cls, some_bind, g26, some_bind, cv_moved hc, if_pos c6, some_bind, pg h, some_bind, c_r7 h, some_bind, ev_sto (kT_36 h), if_pos (by omega), some_bind, some_bind, pg h, some_bind, c_r8 h, some_bind, ev_sto (kT_37 h), if_pos (by omega), some_bind, Int.toNat_natCast, ← eJ1, eJ]
          rfl
        · unfold f_X12_leave
          rw [if_pos (by rw [kT_129 h]), pi', some_bind, en, thn_l, m_isOfficial h wf hmJ0, some_bind, if_pos c1, if_neg (by decide)]
          simp only [m_in, some_bind]
          rw [mds]
          simp only [g17, g18, m_h5 h hmJ0, some_bind]
          rw [if_pos c6, im_eq (by omega) (by omega), ia_eq (by omega) (by omega), ia_eq (by omega) (by omega), ev_sto (kT_137 h), if_pos (by omega), some_bind, ev_sto (kT_137 h), if_pos (by omega), some_bind, show (9 * (o : Int) + 7).toNat = 9 * o + 7 by omega, show (9 * (o : Int) + 8).toNat = 9 * o + 8 by omega, eK]
        · rw [agK _ _ (by omega), f _ _ (by omega) (by omega) (by omega)]
        · have t1 := mw_td hmJ0 (show 7 < 9 by omega) (o := o) a2
          have t2 := mw_td t1 (show 8 < 9 by omega) (o := o) a3
          rw [eO, eK]
          exact t2
        · rw [eK, mu_o _ _ (by omega), mu_o _ _ (by omega), mu_o _ _ (by omega), agJ _ _ (by omega) (by omega) (by omega)]; exact hq
        · rw [agK _ _ (by omega)]; exact z2
        · rw [agK _ _ (by omega)]; exact z3
        · rw [agK _ _ (by omega)]; exact z1
        · rw [eK]
          have r1 : RF I J := by
            intro x y hr
            rcases Nat.lt_or_ge x 36 with g1 | g1
            · refine agJ x y (Or.inl g1) (fun e => ?_) (by omega)
              obtain ⟨rfl, rfl⟩ := e
              exact absurd hr (by decide)
            · rcases Nat.lt_or_ge 65 x with g2 | g2
              · refine agJ x y (Or.inr g2) (by omega) (fun e => ?_)
                rw [rst_w (by omega) (by omega)] at hr; exact absurd hr (by decide)
              · rw [rst_w (by omega) (by omega)] at hr; exact absurd hr (by decide)
          have hr2 := (by decide : ∀ o, o < 8 → rst 137 (9 * o + 7) = false ∧ rst 137 (9 * o + 8) = false) o (by omega)
          exact rf_mu (rf_mu (rf_mu r1 (by decide)) hr2.1) hr2.2
      · refine refuse (v := -5) ?_ ?_
        · unfold f_X11_leave
          rw [if_pos (by rw [kT_1 h]), en, thn_l, ed, thn_l, g11, some_bind, c_has1 h wf hc ho, some_bind, if_neg (by decide), cls, some_bind, g26, some_bind, cv_moved hc, if_neg c6]
        · unfold f_X12_leave
          rw [if_pos (by rw [kT_129 h]), pi', some_bind, en, thn_l, m_isOfficial h wf hm0, some_bind, if_pos c1, if_neg (by decide)]
          simp only [m_in, some_bind]
          rw [mds]
          simp only [g17, g18, m_h5 h hm0, some_bind]
          rw [if_neg c6]
    · have z1 : ¬ (a2 = -1 ∧ a3 = -1) := fun q => c2 (Or.inl q)
      have z2 : ¬ (0 ≤ a2 ∧ a2 ≤ a3 ∧ a3 < 40) := fun q => c2 (Or.inr q)
      refine refuse (v := -2) ?_ ?_
      · unfold f_X11_leave
        rw [if_pos (by rw [kT_1 h]), en, thn_l, ed, thn_l, g11, some_bind, c_has1 h wf hc ho, some_bind, if_neg (by decide), if_neg z1, if_pos rfl, if_neg z2, if_pos rfl, thn_r]
      · unfold f_X12_leave
        rw [if_pos (by rw [kT_129 h]), pi', some_bind, en, thn_l, m_isOfficial h wf hm0, some_bind, if_pos c1, if_neg (by decide), if_neg z1, if_pos rfl]
        simp only [m_in, some_bind]
        by_cases z3 : 0 ≤ a2 ∧ a2 ≤ 39
        · rw [if_pos z3, if_neg (by decide), if_neg (show ¬ (a2 ≤ a3 ∧ a3 ≤ 39) by omega), if_pos rfl, thn_r]
        · rw [if_neg z3, if_pos rfl, thn_r]
  · refine refuse (v := -2) ?_ ?_
    · unfold f_X11_leave
      rw [if_pos (by rw [kT_1 h]), en, thn_l, ed, thn_l, g11, some_bind, c_has h wf hc, some_bind, if_neg c1, if_pos rfl]
    · unfold f_X12_leave
      rw [if_pos (by rw [kT_129 h]), pi', some_bind, en, thn_l, m_isOfficial h wf hm0, some_bind, if_neg c1, if_pos rfl]
/-! the tape -/
def TP (I : Mem) : Prop := I 129 6 = I 2 1 ∧ (0 ≤ I 2 1 ∧ I 2 1 ≤ 1600) ∧ ∀ k : Nat, (k : Int) < I 2 1 → I 134 k = I 3 k
def FT (I : Mem) : Prop := I 129 14 = I 4 2 ∧ I 129 15 = I 4 3
def b4 (a : Int) (k : Nat) : Int := i2b (i2b (ishr a (24 - 8 * (k : Int))))
theorem c_put (h : Ag T A) {L : Nat} (hL : I 2 1 = (L : Int)) (h4 : L + 4 ≤ 1600) (a : Int) : OK (f_X8_put T A 2 a I) (fun J => J 2 1 = ((L + 4 : Nat) : Int) ∧ (∀ k, k < 4 → J 3 (L + k) = b4 a k) ∧ ∀ o j, ¬ (o = 2 ∧ j = 1) → ¬ (o = 3 ∧ L ≤ j ∧ j < L + 4) → J o j = I o j) := by
  unfold f_X8_put
  rw [if_pos (by rw [kT_2 h]), show gr T A 8 0 2 = some 3 by simp only [agTape h]]
  refine it_run (fun i (s : Int × Mem) => s.1 = 24 - 8 * (i : Int) ∧ s.2 2 1 = ((L + i : Nat) : Int) ∧ (∀ k, k < i → s.2 3 (L + k) = b4 a k) ∧ ∀ o j, ¬ (o = 2 ∧ j = 1) → ¬ (o = 3 ∧ L ≤ j ∧ j < L + i) → s.2 o j = I o j) 4 ?_ ?_ 0 FU (24, I) (by decide) (by decide) ⟨rfl, hL, fun k hk => absurd hk (by omega), fun o j h1 h2 => rfl⟩
  · rintro i ⟨si, M⟩ hi ⟨rfl, m1, m2, m3⟩
    try dsimp only at m1 m2 m3 ⊢
    rw [if_neg (by omega), show ∀ M : Mem, gi T 8 1 2 M = some (M 2 1) from fun M => by simp only [agTape h], some_bind, some_bind, ev_aln (kT_3 h), some_bind, m1, if_pos (by omega), some_bind, some_bind, ev_sto (kT_3 h), if_pos (by omega), some_bind, Int.toNat_natCast, show ∀ M : Mem, gi T 8 1 2 M = some (M 2 1) from fun M => by simp only [agTape h], some_bind, show ∀ v (M : Mem), pi T 8 1 2 v M = some (mu M 2 1 v) from fun v M => by simp only [agTape h], some_bind, mu_o M _ (by omega), m1, ia_1 (by omega), ia_eq (by omega) (by omega)]
    refine ok_i ⟨by (try dsimp only); omega, by (try dsimp only); rw [mu_s]; rfl, fun k hk => ?_, fun o j h1 h2 => ?_⟩
    · try dsimp only
      rw [mu_o _ _ (by omega)]
      by_cases c : k = i
      · subst c; rw [mu_s]; rfl
      · rw [mu_o _ _ (by omega)]; exact m2 k (by omega)
    · try dsimp only
      rw [mu_o _ _ (by omega), mu_o _ _ (by omega)]; exact m3 o j h1 (by omega)
  · rintro ⟨si, M⟩ ⟨rfl, m1, m2, m3⟩
    try dsimp only at m1 m2 m3 ⊢
    rw [if_pos (by decide)]
    exact ok_i ⟨m1, m2, m3⟩
theorem m_four (h : Ag T A) {L : Nat} (hL : I 129 6 = (L : Int)) (h4 : L + 4 ≤ 1600) (a : Int) : OK (f_X12_four T A 129 a I) (fun J => J 129 6 = ((L + 4 : Nat) : Int) ∧ (∀ k, k < 4 → J 134 (L + k) = b4 a k) ∧ ∀ o j, ¬ (o = 129 ∧ j = 6) → ¬ (o = 134 ∧ L ≤ j ∧ j < L + 4) → J o j = I o j) := by
  unfold f_X12_four
  rw [if_pos (by rw [kT_129 h]), show gr T A 12 5 129 = some 134 by simp only [agMg h]]
  refine it_run (fun i (s : Int × Mem) => s.1 = 24 - 8 * (i : Int) ∧ s.2 129 6 = ((L + i : Nat) : Int) ∧ (∀ k, k < i → s.2 134 (L + k) = b4 a k) ∧ ∀ o j, ¬ (o = 129 ∧ j = 6) → ¬ (o = 134 ∧ L ≤ j ∧ j < L + i) → s.2 o j = I o j) 4 ?_ ?_ 0 FU (24, I) (by decide) (by decide) ⟨rfl, hL, fun k hk => absurd hk (by omega), fun o j h1 h2 => rfl⟩
  · rintro i ⟨si, M⟩ hi ⟨rfl, m1, m2, m3⟩
    try dsimp only at m1 m2 m3 ⊢
    rw [if_neg (by omega), some_bind, show ∀ M : Mem, gi T 12 6 129 M = some (M 129 6) from fun M => by simp only [agMg h], some_bind, m1, ev_sto (kT_134 h), if_pos (by omega), some_bind, Int.toNat_natCast, show ∀ M : Mem, gi T 12 6 129 M = some (M 129 6) from fun M => by simp only [agMg h], some_bind, show ∀ v (M : Mem), pi T 12 6 129 v M = some (mu M 129 6 v) from fun v M => by simp only [agMg h], some_bind, mu_o M _ (by omega), m1, ia_1 (by omega), ia_eq (by omega) (by omega)]
    refine ok_i ⟨by (try dsimp only); omega, by (try dsimp only); rw [mu_s]; rfl, fun k hk => ?_, fun o j h1 h2 => ?_⟩
    · try dsimp only
      rw [mu_o _ _ (by omega)]
      by_cases c : k = i
      · subst c; rw [mu_s]; rfl
      · rw [mu_o _ _ (by omega)]; exact m2 k (by omega)
    · try dsimp only
      rw [mu_o _ _ (by omega), mu_o _ _ (by omega)]; exact m3 o j h1 (by omega)
  · rintro ⟨si, M⟩ ⟨rfl, m1, m2, m3⟩
    try dsimp only at m1 m2 m3 ⊢
    rw [if_pos (by decide)]
    exact ok_i ⟨m1, m2, m3⟩
end
