/-! B: possible, sets, never, orders; count. -/
def oN (O : Ofc) : Nat := (O 0 4).toNat
def oto (O : Ofc) : Nat → Int := otab (O 12) (O 13) (oN O) (2 ^ oN O)
def osr (p : Nat → Bool) : Nat → Int
  | 0 => 0
  | n + 1 => if p n then ior (osr p n) (n : Int) else osr p n
theorem cn_osr (p : Nat → Bool) (n : Nat) : cn (osr p n) := by
  induction n with
  | zero => exact cn_0
  | succ n ih =>
    rw [osr]
    split
    · exact cn_ior _ _
    · exact ih
theorem it_any {R : Type} {step : Int → Option (Int ⊕ R)} (p : Nat → Bool) (g : Int → R) (N : Nat) (hs : ∀ s : Nat, s < N → step (s : Int) = if p s then some (.inr (g 1)) else some (.inl ((s + 1 : Nat) : Int))) (he : step (N : Int) = some (.inr (g 0))) (n : Nat) (hn : N < n) : it step n 0 = some (g (bi (anyf p 0 N))) := by
  have key : ∀ k i m : Nat, i + k = N → N < m + i → anyf p 0 i = false → it step m (i : Int) = some (g (bi (anyf p 0 N))) := by
    intro k
    induction k with
    | zero =>
      intro i m h1 h2 h3
      cases m with
      | zero => exact absurd h2 (by omega)
      | succ m =>
        rw [it, show i = N by omega, he]
        rw [show i = N by omega] at h3
        rw [h3]; rfl
    | succ k ih =>
      intro i m h1 h2 h3
      cases m with
      | zero => exact absurd h2 (by omega)
      | succ m =>
        rw [it, hs i (by omega)]
        by_cases c : p i = true
        · rw [if_pos c]
          have : anyf p 0 N = true := (anyf_iff p 0 N).mpr ⟨i, by omega, by omega, c⟩
          rw [this]; rfl
        · rw [if_neg c]
          refine ih (i + 1) m (by omega) (by omega) ?_
          rw [anyf, h3, Bool.false_or, Nat.zero_add]
          simpa using c
  exact key N 0 n (by omega) (by omega) rfl
theorem gt_le (a : Int) : (ilcmp a 0 ≤ 0) = (a ≤ 0) := cmp_le a 0
section
variable {T : Knd} {A : Rfs} {O : Ofc} {I : Mem}
theorem on_le (wf : WF O) : oN O ≤ 8 ∧ O 0 4 = ((oN O : Nat) : Int) := by
  have := wf_n wf
  unfold oN
  omega
theorem c_learn (h : Ag T A) (wf : WF O) (hc : CV O 26 I) : OK (f_X11_knownSets T A 1 I) (fun z => z.1 = 101 ∧ Fo 101 106 I z.2 ∧ z.2 101 5 = ((oN O : Nat) : Int) ∧ z.2 101 6 = ((2 ^ oN O : Nat) : Int) ∧ (∀ i, i < 8 → z.2 102 i = I 38 i) ∧ (∀ i, i < 8 → z.2 103 i = I 39 i) ∧ ∀ s, s < 2 ^ oN O → z.2 104 s = oto O s) := by
  obtain ⟨hn, en⟩ := on_le wf
  have g9 : gr T A 11 9 1 = some 101 := by simp only [agX h]
  have p6 : ∀ k v (M : Mem), pi T 6 k 101 v M = some (mu M 101 k v) := fun k v M => by simp only [agSets h]
  have i6 : ∀ k (M : Mem), gi T 6 k 101 M = some (M 101 k) := fun k M => by simp only [agSets h]
  unfold f_X11_knownSets f_X6_learn
  rw [if_pos (by rw [kT_1 h]), g9, some_bind, show gr T A 11 2 1 = some 26 by simp only [agX h], some_bind, if_pos (by rw [kT_101 h]), show gi T 2 4 26 I = some (I 26 4) by simp only [agPl h], some_bind, cv_n hc, en, show imin ((oN O : Nat) : Int) 8 = ((oN O : Nat) : Int) from if_neg (by omega), p6, some_bind, i6, some_bind, mu_s, ishl_n (by omega), p6, some_bind, pg h]
  simp only [some_bind, c_r9 h, c_r10 h, show gr T A 6 0 101 = some 102 by simp only [agSets h], show gr T A 6 1 101 = some 103 by simp only [agSets h]]
  unfold acp
  rw [kT_38 h, kT_39 h, kT_102 h, kT_103 h, if_pos (by decide), some_bind, if_pos (by decide), some_bind]
  obtain ⟨J, eJ⟩ : ∃ J : Mem, J = fun x j => if x = 103 ∧ (0 : Int).toNat ≤ j ∧ j < (0 : Int).toNat + (8 : Int).toNat then (fun x j => if x = 102 ∧ (0 : Int).toNat ≤ j ∧ j < (0 : Int).toNat + (8 : Int).toNat then mu (mu I 101 5 ((oN O : Nat) : Int)) 101 6 ((2 ^ oN O : Nat) : Int) 38 ((0 : Int).toNat + (j - (0 : Int).toNat)) else mu (mu I 101 5 ((oN O : Nat) : Int)) 101 6 ((2 ^ oN O : Nat) : Int) x j : Mem) 39 ((0 : Int).toNat + (j - (0 : Int).toNat)) else (fun x j => if x = 102 ∧ (0 : Int).toNat ≤ j ∧ j < (0 : Int).toNat + (8 : Int).toNat then mu (mu I 101 5 ((oN O : Nat) : Int)) 101 6 ((2 ^ oN O : Nat) : Int) 38 ((0 : Int).toNat + (j - (0 : Int).toNat)) else mu (mu I 101 5 ((oN O : Nat) : Int)) 101 6 ((2 ^ oN O : Nat) : Int) x j : Mem) x j := ⟨_, rfl⟩
  rw [← eJ]
  have z8 : (0 : Int).toNat = 0 ∧ (8 : Int).toNat = 8 := ⟨rfl, rfl⟩
  rw [z8.1, z8.2] at eJ
  have j1 : ∀ i, i < 8 → J 102 i = I 38 i := fun i hi => by
    rw [eJ]; dsimp only
    rw [if_neg (by omega), if_pos (by omega), show 0 + (i - 0) = i by omega, mu_o _ _ (by omega), mu_o _ _ (by omega)]
  have j2 : ∀ i, i < 8 → J 103 i = I 39 i := fun i hi => by
    rw [eJ]; dsimp only
    rw [if_pos (by omega), if_neg (by omega), show 0 + (i - 0) = i by omega, mu_o _ _ (by omega), mu_o _ _ (by omega)]
  have j3 : ∀ o j, o ≠ 102 → o ≠ 103 → J o j = mu (mu I 101 5 ((oN O : Nat) : Int)) 101 6 ((2 ^ oN O : Nat) : Int) o j := fun o j h1 h2 => by
    rw [eJ]; dsimp only
    rw [if_neg (by omega), if_neg (by omega)]
  have j5 : J 101 5 = ((oN O : Nat) : Int) := by rw [j3 _ _ (by omega) (by omega), mu_o _ _ (by omega), mu_s]
  have j6 : J 101 6 = ((2 ^ oN O : Nat) : Int) := by rw [j3 _ _ (by omega) (by omega), mu_s]
  obtain ⟨K, eK, f, d⟩ := c_count h hn j5 j6
  rw [eK, some_bind, some_bind]
  refine ok_i ⟨rfl, fun o j hoj => ?_, ?_, ?_, fun i hi => ?_, fun i hi => ?_, fun s hs => ?_⟩
  · (try dsimp only)
    rw [f _ _ (by omega), j3 _ _ (by omega) (by omega), mu_o _ _ (by omega), mu_o _ _ (by omega)]
  · (try dsimp only)
    rw [f _ _ (by omega)]; exact j5
  · (try dsimp only)
    rw [f _ _ (by omega)]; exact j6
  · (try dsimp only)
    rw [f _ _ (by omega)]; exact j1 i hi
  · (try dsimp only)
    rw [f _ _ (by omega)]; exact j2 i hi
  · (try dsimp only)
    rw [d s hs]
    unfold oto
    rw [otab_ext hn (fun i hi => ?_) (fun i hi => ?_) (2 ^ oN O) (pw_le hn).2]
    · show J 102 i = O 12 i
      rw [j1 i (by omega)]
      exact cv_told hc (w := 9) (by decide) (by omega)
    · show J 103 i = O 13 i
      rw [j2 i (by omega)]
      exact cv_told hc (w := 10) (by decide) (by omega)
theorem m_learn (h : Ag T A) (wf : WF O) (hm : MW O 0 I) : OK (f_X12_laysSets T A 129 I) (fun J => Fo 149 149 I J ∧ ∀ s, s < 2 ^ oN O → J 149 s = oto O s) := by
  obtain ⟨hn, en⟩ := on_le wf
  refine ok_m (m_laysS h hn (by rw [mw_n hm, en])) (fun J hJ => ⟨hJ.1, fun s hs => ?_⟩)
  rw [hJ.2 s hs]
  unfold oto
  rw [otab_ext hn (fun i hi => mw_needs hm (by omega)) (fun i hi => mw_bars hm (by omega)) (2 ^ oN O) (pw_le hn).2]
theorem fx_sets {J : Mem} (f : Fo 101 106 I J) : FX I J := fx_fo f (Or.inr (Or.inl ⟨by decide, by decide⟩))
theorem mw_fx {J : Mem} {s : Nat} (hm : MW O s I) (f : FX I J) : MW O s J := mw_ag hm (fun o k h1 h2 => f o k (by
  unfold scx
  rw [scr_mw h1 h2]
  have : ∀ n, n < 134 → decide (o ≤ n) = false := fun n hn => decide_eq_false (by omega)
  simp [this]))
theorem bas_fx {J : Mem} (b : Bas T A O I) (f : FX I J) : Bas T A O J := by
  obtain ⟨h, wf, hc, hm, g, ht, hn, k, hq⟩ := b
  have e : ∀ o k, o ≤ 65 → J o k = I o k := fun o k ho => f o k (by
    unfold scx
    rw [scr_lt (by omega)]
    have e1 : decide (66 ≤ o) = false := decide_eq_false (by omega)
    have e2 : decide (90 ≤ o) = false := decide_eq_false (by omega)
    have e3 : decide (119 ≤ o) = false := decide_eq_false (by omega)
    rw [e1, e2, e3]; rfl)
  exact ⟨h, wf, cv_ag hc (fun a b h1 h2 => e a b (by omega)), mw_fx hm f, g, tw_ag wf ht (fun a b h1 h2 => e a b (by omega)), tn_ag wf hn (fun a b h1 h2 => e a b (by omega)), cw_ag k (fun a b h1 => e a b (by omega)), by rw [f 129 31 (by decide)]; exact hq⟩
theorem q_possible (b : Bas T A O I) (a1 : Int) : Quiet2 (f_X11_possible T A 1 a1 I) (fun J => f_X12_possible T A 129 a1 J) I := by
  obtain ⟨h, wf, hc, hm, g, ht, hnx, k, hq⟩ := b
  obtain ⟨hn, en⟩ := on_le wf
  have pi' : ∀ q v (J : Mem), pi T 12 q 129 v J = some (mu J 129 q v) := fun q v J => by simp only [agMg h]
  unfold f_X11_possible f_X12_possible
  rw [if_pos (by rw [kT_1 h]), show gr T A 11 2 1 = some 26 by simp only [agX h], some_bind, c_hasSet h wf hc, some_bind]
  simp only [if_pos (show (T 129).1 = 12 by rw [kT_129 h]), pi', some_bind]
  by_cases c : 0 < O 0 0 ∧ 0 ≤ a1 ∧ a1 < 2 ^ (O 0 4).toNat
  · obtain ⟨s, rfl⟩ := Int.eq_ofNat_of_zero_le c.2.1
    have hs : s < 2 ^ oN O := by
      have := c.2.2
      have e : ((2 : Int) ^ (O 0 4).toNat) = ((2 ^ oN O : Nat) : Int) := by rw [Int.natCast_pow]; rfl
      rw [e] at this
      exact Int.ofNat_lt.mp this
    have hp := pw_le hn
    obtain ⟨⟨x, J⟩, e, z1, z2, z3, z4, z5, z6, z7⟩ := c_learn h wf hc
    dsimp only at z1 z2 z3 z4 z5 z6 z7
    subst z1
    have hmJ := mw_fr (mw_fx hm (fx_sets z2)) (fr_0 J)
    obtain ⟨K, eK, fK, dK⟩ := m_learn h wf hmJ
    rw [if_pos c, if_neg (by decide), e, some_bind]
    have e7 : f_X6_ordersOf T A 101 (s : Int) J = some (oto O s) := by
      unfold f_X6_ordersOf
      rw [if_pos (by rw [kT_101 h]), if_neg (by omega), show gi T 6 6 101 J = some (J 101 6) by simp only [agSets h], some_bind, z4, if_pos (by omega), show gr T A 6 2 101 = some 104 by simp only [agSets h], some_bind, ev_ld (kT_104 h), if_pos (by omega), some_bind, Int.toNat_natCast, z7 s hs]
    dsimp only
    rw [e7, some_bind]
    refine ⟨if oto O s ≤ 0 then 0 else 1, J, K, ?_, ?_, fx_t (fx_sets z2) (fx_t (fx_fr (fr_0 J)) (fx_fr (fr_149 fK)))⟩
    · simp only [gt_le]
      split <;> rfl
    · dsimp only
      rw [m_isSet h wf hmJ, some_bind, if_pos c, if_neg (by decide), eK, some_bind, show gr T A 12 44 129 = some 149 by simp only [agMg h], some_bind, ev_ld (kT_149 h), if_pos (by omega), some_bind, Int.toNat_natCast, dK s hs]
      simp only [gt_le]
      split <;> rfl
  · rw [if_neg c, if_pos rfl]
    refine ⟨-2, I, mu I 129 0 0, rfl, ?_, fx_fr (fr_0 I)⟩
    dsimp only
    rw [m_isSet h wf (mw_fr hm (fr_0 I)), some_bind, if_neg c, if_pos rfl]
theorem q_orders (b : Bas T A O I) (a1 : Int) : Quiet2 (f_X11_orders T A 1 a1 I) (fun J => f_X12_orders T A 129 a1 J) I := by
  obtain ⟨h, wf, hc, hm, g, ht, hnx, k, hq⟩ := b
  obtain ⟨hn, en⟩ := on_le wf
  have pi' : ∀ q v (J : Mem), pi T 12 q 129 v J = some (mu J 129 q v) := fun q v J => by simp only [agMg h]
  unfold f_X11_orders f_X12_orders
  rw [if_pos (by rw [kT_1 h]), show gr T A 11 2 1 = some 26 by simp only [agX h], some_bind, c_hasSet h wf hc, some_bind]
  simp only [if_pos (show (T 129).1 = 12 by rw [kT_129 h]), pi', some_bind]
  by_cases c : 0 < O 0 0 ∧ 0 ≤ a1 ∧ a1 < 2 ^ (O 0 4).toNat
  · obtain ⟨s, rfl⟩ := Int.eq_ofNat_of_zero_le c.2.1
    have hs : s < 2 ^ oN O := by
      have := c.2.2
      have e : ((2 : Int) ^ (O 0 4).toNat) = ((2 ^ oN O : Nat) : Int) := by rw [Int.natCast_pow]; rfl
      rw [e] at this
      exact Int.ofNat_lt.mp this
    have hp := pw_le hn
    obtain ⟨⟨x, J⟩, e, z1, z2, z3, z4, z5, z6, z7⟩ := c_learn h wf hc
    dsimp only at z1 z2 z3 z4 z5 z6 z7
    subst z1
    have hmJ := mw_fr (mw_fx hm (fx_sets z2)) (fr_0 J)
    obtain ⟨K, eK, fK, dK⟩ := m_learn h wf hmJ
    rw [if_pos c, if_neg (by decide), e, some_bind]
    have e7 : f_X6_ordersOf T A 101 (s : Int) J = some (oto O s) := by
      unfold f_X6_ordersOf
      rw [if_pos (by rw [kT_101 h]), if_neg (by omega), show gi T 6 6 101 J = some (J 101 6) by simp only [agSets h], some_bind, z4, if_pos (by omega), show gr T A 6 2 101 = some 104 by simp only [agSets h], some_bind, ev_ld (kT_104 h), if_pos (by omega), some_bind, Int.toNat_natCast, z7 s hs]
    dsimp only
    rw [e7, some_bind]
    refine ⟨oto O s, J, K, rfl, ?_, fx_t (fx_sets z2) (fx_t (fx_fr (fr_0 J)) (fx_fr (fr_149 fK)))⟩
    dsimp only
    rw [m_isSet h wf hmJ, some_bind, if_pos c, if_neg (by decide), eK, some_bind, show gr T A 12 44 129 = some 149 by simp only [agMg h], some_bind, ev_ld (kT_149 h), if_pos (by omega), some_bind, Int.toNat_natCast, dK s hs]
  · rw [if_neg c, if_pos rfl]
    refine ⟨-2, I, mu I 129 0 0, rfl, ?_, fx_fr (fr_0 I)⟩
    dsimp only
    rw [m_isSet h wf (mw_fr hm (fr_0 I)), some_bind, if_neg c, if_pos rfl]
theorem q_sets (b : Bas T A O I) : Quiet2 (f_X11_sets T A 1 I) (fun J => f_X12_sets T A 129 J) I := by
  obtain ⟨h, wf, hc, hm, g, ht, hnx, k, hq⟩ := b
  obtain ⟨hn, en⟩ := on_le wf
  have pi' : ∀ q v (J : Mem), pi T 12 q 129 v J = some (mu J 129 q v) := fun q v J => by simp only [agMg h]
  unfold f_X11_sets f_X12_sets
  rw [if_pos (by rw [kT_1 h]), show gr T A 11 2 1 = some 26 by simp only [agX h], some_bind, c_isThere h hc, some_bind]
  simp only [if_pos (show (T 129).1 = 12 by rw [kT_129 h]), pi', some_bind]
  by_cases c : 0 < O 0 0
  · have hp := pw_le hn
    obtain ⟨⟨x, J⟩, e, z1, z2, z3, z4, z5, z6, z7⟩ := c_learn h wf hc
    dsimp only at z1 z2 z3 z4 z5 z6 z7
    subst z1
    have hmJ := mw_fr (mw_fx hm (fx_sets z2)) (fr_0 J)
    obtain ⟨K, eK, fK, dK⟩ := m_learn h wf hmJ
    have hmK := mw_fo hmJ fK (by decide)
    rw [if_pos c, if_neg (by decide), e, some_bind]
    have e7 : f_X6_howMany T A 101 J = some (scn (fun s => decide (¬ oto O s ≤ 0)) (2 ^ oN O)) := by
      unfold f_X6_howMany
      rw [if_pos (by rw [kT_101 h]), show gi T 6 6 101 J = some (J 101 6) by simp only [agSets h], z4, show gr T A 6 2 101 = some 104 by simp only [agSets h]]
      refine it_seq (fun i => (scn (fun s => decide (¬ oto O s ≤ 0)) i, (i : Int))) (2 ^ oN O) (fun i hi => ?_) ?_ FU (by unfold FU; omega)
      · dsimp only
        have hr := scn_rg (fun s => decide (¬ oto O s ≤ 0)) i
        rw [some_bind, if_pos (by omega), some_bind, ev_ld (kT_104 h), if_pos (by omega), some_bind, Int.toNat_natCast, z7 i hi, ia_1 (by omega), ia_eq (by omega) (by omega), scn]
        simp only [gt_le]
        by_cases d : oto O i ≤ 0
        · rw [if_pos d, if_neg (by rw [decide_eq_false (fun q => q d)]; decide), Int.add_zero]
        · rw [if_neg d, if_pos (decide_eq_true d)]
      · dsimp only
        rw [some_bind, if_neg (by omega)]
    dsimp only
    rw [e7, some_bind]
    refine ⟨_, J, K, rfl, ?_, fx_t (fx_sets z2) (fx_t (fx_fr (fr_0 J)) (fx_fr (fr_149 fK)))⟩
    dsimp only
    rw [m_isOffice h hmJ, some_bind, if_pos c, if_neg (by decide), eK, some_bind, m_sets0 h hn (by rw [mw_n hmK, en]), show gr T A 12 44 129 = some 149 by simp only [agMg h]]
    refine it_seq (fun i => (scn (fun s => decide (¬ oto O s ≤ 0)) i, (i : Int))) (2 ^ oN O) (fun i hi => ?_) ?_ FU (by unfold FU; omega)
    · dsimp only
      have hr := scn_rg (fun s => decide (¬ oto O s ≤ 0)) i
      rw [some_bind, if_pos (by omega), some_bind, ev_ld (kT_149 h), if_pos (by omega), some_bind, Int.toNat_natCast, dK i hi, ia_1 (by omega), ia_eq (b := 0) (by omega) (by omega), ia_eq (by omega) (by omega), scn]
      simp only [gt_le]
      by_cases d : oto O i ≤ 0
      · rw [if_pos d, if_neg (by rw [decide_eq_false (fun q => q d)]; decide)]
      · rw [if_neg d, if_pos (decide_eq_true d)]
    · dsimp only
      rw [some_bind, if_neg (by omega)]
  · rw [if_neg c, if_pos rfl]
    refine ⟨-2, I, mu I 129 0 0, rfl, ?_, fx_fr (fr_0 I)⟩
    dsimp only
    rw [m_isOffice h (mw_fr hm (fr_0 I)), some_bind, if_neg c, if_pos rfl]
theorem q_never (b : Bas T A O I) : Quiet2 (f_X11_never T A 1 I) (fun J => f_X12_never T A 129 J) I := by
  obtain ⟨h, wf, hc, hm, g, ht, hnx, k, hq⟩ := b
  obtain ⟨hn, en⟩ := on_le wf
  have pi' : ∀ q v (J : Mem), pi T 12 q 129 v J = some (mu J 129 q v) := fun q v J => by simp only [agMg h]
  unfold f_X11_never f_X12_never
  rw [if_pos (by rw [kT_1 h]), show gr T A 11 2 1 = some 26 by simp only [agX h], some_bind, c_isThere h hc, some_bind]
  simp only [if_pos (show (T 129).1 = 12 by rw [kT_129 h]), pi', some_bind]
  by_cases c : 0 < O 0 0
  · have hp := pw_le hn
    obtain ⟨⟨x, J⟩, e, z1, z2, z3, z4, z5, z6, z7⟩ := c_learn h wf hc
    dsimp only at z1 z2 z3 z4 z5 z6 z7
    subst z1
    have hmJ := mw_fr (mw_fx hm (fx_sets z2)) (fr_0 J)
    obtain ⟨K, eK, fK, dK⟩ := m_learn h wf hmJ
    have hmK := mw_fo hmJ fK (by decide)
    rw [if_pos c, if_neg (by decide), e, some_bind]
    have e7 : f_X6_outsiders T A 101 J = some (iand (isb ((2 ^ oN O : Nat) : Int) 1) (ixor (osr (fun s => decide (¬ oto O s ≤ 0)) (2 ^ oN O)) (-1))) := by
      unfold f_X6_outsiders
      rw [if_pos (by rw [kT_101 h]), show gi T 6 6 101 J = some (J 101 6) by simp only [agSets h], z4, show gr T A 6 2 101 = some 104 by simp only [agSets h]]
      have l : it (fun (s5 : Int × Int) => (some ((2 ^ oN O : Nat) : Int)).bind fun x8 => if s5.2 < x8 then (some 104).bind fun x10 => (ld T 21 x10 s5.2 J).bind fun x11 => if (ilcmp x11 0) ≤ 0 then some (.inl (s5.1, ia s5.2 1)) else some (.inl (ior s5.1 s5.2, ia s5.2 1)) else some (.inr (.inl s5.1))) FU (0, 0) = (some (.inl (osr (fun s => decide (¬ oto O s ≤ 0)) (2 ^ oN O))) : Option (Int ⊕ Int)) := by
        refine it_seq (fun i => (osr (fun s => decide (¬ oto O s ≤ 0)) i, (i : Int))) (2 ^ oN O) (fun i hi => ?_) ?_ FU (by unfold FU; omega)
        · dsimp only
          rw [some_bind, if_pos (by omega), some_bind, ev_ld (kT_104 h), if_pos (by omega), some_bind, Int.toNat_natCast, z7 i hi, ia_1 (by omega), osr]
          simp only [gt_le]
          by_cases d : oto O i ≤ 0
          · rw [if_pos d, if_neg (by rw [decide_eq_false (fun q => q d)]; decide)]
          · rw [if_neg d, if_pos (decide_eq_true d)]
        · dsimp only
          rw [some_bind, if_neg (by omega)]
      rw [l, thn_l, some_bind]
    dsimp only
    rw [e7, some_bind]
    refine ⟨_, J, K, rfl, ?_, fx_t (fx_sets z2) (fx_t (fx_fr (fr_0 J)) (fx_fr (fr_149 fK)))⟩
    dsimp only
    rw [m_isOffice h hmJ, some_bind, if_pos c, if_neg (by decide), eK, some_bind, m_sets0 h hn (by rw [mw_n hmK, en]), show gr T A 12 44 129 = some 149 by simp only [agMg h]]
    have l : it (fun (s11 : Int × Int) => (some ((2 ^ oN O : Nat) : Int)).bind fun e14 => if s11.2 < e14 then (some 149).bind fun x17 => (ld T 21 x17 s11.2 K).bind fun x18 => thn (if (ilcmp x18 0) ≤ 0 then some (.inl 0) else some (.inl s11.2)) (fun (v21 : Int) => some (.inl (ior s11.1 v21, ia s11.2 1))) else some (.inr (.inl s11.1))) FU (0, 0) = (some (.inl (osr (fun s => decide (¬ oto O s ≤ 0)) (2 ^ oN O))) : Option (Int ⊕ (Int × Mem))) := by
      refine it_seq (fun i => (osr (fun s => decide (¬ oto O s ≤ 0)) i, (i : Int))) (2 ^ oN O) (fun i hi => ?_) ?_ FU (by unfold FU; omega)
      · dsimp only
        rw [some_bind, if_pos (by omega), some_bind, ev_ld (kT_149 h), if_pos (by omega), some_bind, Int.toNat_natCast, dK i hi, ia_1 (by omega), osr]
        simp only [gt_le]
        by_cases d : oto O i ≤ 0
        · rw [if_pos d, if_neg (by rw [decide_eq_false (fun q => q d)]; decide), thn_l, ior_0 (cn_osr _ _)]
        · rw [if_neg d, if_pos (decide_eq_true d), thn_l]
      · dsimp only
        rw [some_bind, if_neg (by omega)]
    rw [l, thn_l, some_bind]
  · rw [if_neg c, if_pos rfl]
    refine ⟨-2, I, mu I 129 0 0, rfl, ?_, fx_fr (fr_0 I)⟩
    dsimp only
    rw [m_isOffice h (mw_fr hm (fr_0 I)), some_bind, if_neg c, if_pos rfl]
/-! how many are asked -/
theorem pc_all : ∀ x : Nat, x < 256 → f_J6_bitCount_0f7a4 (fun _ => (0, 0)) (fun _ _ => 0) (x : Int) (fun _ _ => 0) = some (scn (hb (x : Int)) 8) := by decide +kernel
theorem f_bitCount {x : Nat} (hx : x < 256) : f_J6_bitCount_0f7a4 T A (x : Int) I = some (scn (hb (x : Int)) 8) := pc_all x hx
theorem sz_all : ∀ x : Nat, x < 256 → f_X12_sizeOf (fun _ => (0, 0)) (fun _ _ => 0) (x : Int) (fun _ _ => 0) = some (scn (hb (x : Int)) 8) := by decide +kernel
theorem f_sizeOf {x : Nat} (hx : x < 256) : f_X12_sizeOf T A (x : Int) I = some (scn (hb (x : Int)) 8) := sz_all x hx
end
