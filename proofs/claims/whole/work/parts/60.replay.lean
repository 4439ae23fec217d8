/-! B: the moves gone through. -/
def stepS (O : Ofc) (W : Wkr) (m : Int) : Wkr := if m ≤ 9 then goS O W m.toNat (stp O ntk W m.toNat) else fun k => if k = 0 then W 0 + (m - 10) else W k
def okS (O : Ofc) (W : Wkr) (m : Int) : Prop := (0 ≤ m ∧ m < O 0 4 ∧ stp O ntk W m.toNat ≠ -1) ∨ (11 ≤ m ∧ m ≤ 109 ∧ W 0 + (m - 10) ≤ 400)
def rep (O : Ofc) : Nat → Wkr
  | 0 => st0 O (O 0 3)
  | k + 1 => stepS O (rep O k) (O 1 k)
def LG (O : Ofc) : Prop := ∀ k : Nat, (k : Int) < O 0 6 → okS O (rep O k) (O 1 k)
def Wn (O : Ofc) : Wkr := rep O (O 0 6).toNat
def FmX (I J : Mem) : Prop := ∀ o k, ¬ (o = 129 ∧ 25 ≤ k ∧ k ≤ 28) → o ≠ 143 → o ≠ 144 → J o k = I o k
theorem fmx_r (I : Mem) : FmX I I := fun _ _ _ _ _ => rfl
theorem fmx_t {I J K : Mem} (h : FmX I J) (g : FmX J K) : FmX I K := fun o k h1 h2 h3 => by rw [g o k h1 h2 h3, h o k h1 h2 h3]
theorem fmx_w {I J : Mem} (h : FmW I J) : FmX I J := fun o k h1 _ h3 => h o k h1 h3
theorem fmx_fr {I J : Mem} (h : FmX I J) : Fr I J := fun o k hk => by
  have e : ∀ m n : Nat, m ≠ n → (m == n) = false := fun m n hn => beq_eq_false_iff_ne.mpr hn
  refine h o k (fun g => ?_) (fun g => ?_) (fun g => ?_)
  · obtain ⟨rfl, g1, g2⟩ := g
    have d1 := decide_eq_true g1
    have d2 := decide_eq_true g2
    unfold scr at hk
    rw [d1, d2] at hk
    simp at hk
  · subst g; exact absurd hk (by simp [scr])
  · subst g; exact absurd hk (by simp [scr])
theorem mw_ag {O : Ofc} {s : Nat} {I J : Mem} (h : MW O s I) (e : ∀ o k, 134 ≤ o → o ≤ 142 → J o k = I o k) : MW O s J := by
  obtain ⟨h1, h2, h3, h4, h5, h6, h7⟩ := h
  refine ⟨?_, fun k hk => ?_, fun k hk => ?_, fun w o hw ho => ?_, fun o ho => ?_, fun o ho => ?_, fun r c hr hc => ?_⟩
  · rw [e _ _ (by omega) (by omega)]; exact h1
  · rw [e _ _ (by omega) (by omega)]; exact h2 k hk
  · rw [e _ _ (by omega) (by omega)]; exact h3 k hk
  · rw [e _ _ (by omega) (by omega)]; exact h4 w o hw ho
  · rw [e _ _ (by omega) (by omega)]; exact h5 o ho
  · rw [e _ _ (by omega) (by omega)]; exact h6 o ho
  · rw [e _ _ (by omega) (by omega)]; exact h7 r c hr hc
theorem mw_fmx {O : Ofc} {s : Nat} {I J : Mem} (h : MW O s I) (f : FmX I J) : MW O s J := mw_ag h (fun o k h1 h2 => f o k (by omega) (by omega) (by omega))
theorem tk_fmx {tk : Nat → Nat → Bool} {I J : Mem} (h : TK tk I) (f : FmX I J) : TK tk J := by
  rcases h with ⟨h1, h2⟩ | ⟨h1, h2⟩
  · exact Or.inl ⟨by rw [f 129 31 (by omega) (by omega) (by omega)]; exact h1, h2⟩
  · exact Or.inr ⟨by rw [f 129 31 (by omega) (by omega) (by omega)]; exact h1, fun o k ho hk => by rw [f 145 _ (by omega) (by omega) (by omega)]; exact h2 o k ho hk⟩
section
variable {T : Knd} {A : Rfs} {O : Ofc} {I : Mem} {W : Wkr} {tk : Nat → Nat → Bool} {w : Nat}
theorem step_ws (wf : WF O) (s : WS O W) {m : Int} (hm : okS O W m) : WS O (stepS O W m) := by
  have hn := wf_n wf
  have h0 := s.1
  unfold stepS
  rcases hm with ⟨h1, h2, h3⟩ | ⟨h1, h2, h3⟩
  · rw [if_pos (by omega)]
    have hr := stp_rg wf s (o := m.toNat) (by omega) h3
    exact go_ws wf s (by omega) (by omega) (by omega)
  · rw [if_neg (by omega)]
    refine ⟨?_, ?_, fun i => ?_⟩
    · (try dsimp only); rw [if_pos rfl]; omega
    · (try dsimp only); rw [if_neg (by decide)]; exact s.2.1
    · (try dsimp only); rw [if_neg (by omega)]; exact s.2.2 i
theorem rep_ws (wf : WF O) (hl : 0 < O 0 0) (g : LG O) : ∀ k : Nat, (k : Int) ≤ O 0 6 → WS O (rep O k) := by
  intro k
  induction k with
  | zero => intro _; exact st0_ws wf hl wf.2.2.2.1.1 (by have := wf.2.2.2.1; omega)
  | succ k ih =>
    intro hk
    exact step_ws wf (ih (by omega)) (g k (by omega))
theorem wn_ws (wf : WF O) (hl : 0 < O 0 0) (g : LG O) : WS O (Wn O) := rep_ws wf hl g _ (by have := wf.2.2.2.2.2.2.1; omega)
theorem m_starts (h : Ag T A) (wf : WF O) (hm : MW O 0 I) (x : Int) : OK (f_X12_starts T A 129 x I) (fun J => FmX I J ∧ MWk (st0 O x) J ∧ Far O J) := by
  obtain ⟨J, e, hF, hD⟩ := m_lays h wf hm
  have hmJ := mw_fo hm hF (by decide)
  have gi' : ∀ k (J : Mem), gi T 12 k 129 J = some (J 129 k) := fun k J => by simp only [agM h]
  have pi' : ∀ k v (J : Mem), pi T 12 k 129 v J = some (mu J 129 k v) := fun k v J => by simp only [agM h]
  unfold f_X12_starts
  rw [if_pos (by rw [kT_129 h]), e, some_bind, pi', some_bind, show gr T A 12 17 129 = some 136 by simp only [agM h], some_bind, m_h1 h (mw_ag hmJ (fun a b c d => mu_o _ _ (by omega))), some_bind, pi', some_bind, pi', some_bind, pi', some_bind, show gr T A 12 29 129 = some 144 by simp only [agM h]]
  refine it_run (fun i (s : Int × Mem) => s.1 = (i : Int) ∧ FmX I s.2 ∧ (s.2 129 25 = x ∧ s.2 129 26 = O 0 2 ∧ s.2 129 27 = 0 ∧ s.2 129 28 = 0) ∧ Far O s.2 ∧ ∀ j, j < i → s.2 144 j = -1) 8 ?_ ?_ 0 FU _ (by decide) (by decide) ⟨rfl, ?_, ⟨?_, ?_, ?_, ?_⟩, ?_, fun j hj => absurd hj (by omega)⟩
  · rintro i ⟨si, K⟩ hi ⟨rfl, kF, kW, kD, kL⟩
    dsimp only at kF kW kD kL ⊢
    rw [if_pos (by omega), some_bind]
    simp only [agM h]
    rw [if_pos (by omega), some_bind, Int.toNat_natCast, ia_1 (by omega)]
    refine ok_i ⟨rfl, fun a b h1 h2 h3 => ?_, ⟨?_, ?_, ?_, ?_⟩, fun a b ha hb1 => ?_, fun j hj => ?_⟩
    · (try dsimp only); rw [mu_o _ _ (by omega)]; exact kF a b h1 h2 h3
    · (try dsimp only); rw [mu_o _ _ (by omega)]; exact kW.1
    · (try dsimp only); rw [mu_o _ _ (by omega)]; exact kW.2.1
    · (try dsimp only); rw [mu_o _ _ (by omega)]; exact kW.2.2.1
    · (try dsimp only); rw [mu_o _ _ (by omega)]; exact kW.2.2.2
    · (try dsimp only); rw [mu_o _ _ (by omega)]; exact kD a b ha hb1
    · try dsimp only
      by_cases c : j = i
      · subst c; exact mu_s _ _ _ _
      · try dsimp only
        rw [mu_o _ _ (by omega)]; exact kL j (by omega)
  · rintro ⟨si, K⟩ ⟨rfl, kF, kW, kD, kL⟩
    dsimp only at kF kW kD kL ⊢
    rw [if_neg (by decide)]
    refine ok_i ⟨kF, ⟨⟨kW.1, kW.2.1, kW.2.2.1, kW.2.2.2⟩, fun o ho => ?_⟩, kD⟩
    rw [kL o ho]
    unfold st0
    rw [if_neg (by omega), if_neg (by omega), if_neg (by omega)]
  · intro a b h1 h2 h3
    try dsimp only
    rw [mu_o _ _ (by omega), mu_o _ _ (by omega), mu_o _ _ (by omega), mu_o _ _ (by omega)]
    exact hF a b (by omega)
  · (try dsimp only); rw [mu_o _ _ (by omega), mu_o _ _ (by omega), mu_o _ _ (by omega), mu_s]
  · (try dsimp only); rw [mu_o _ _ (by omega), mu_o _ _ (by omega), mu_s]
  · (try dsimp only); rw [mu_o _ _ (by omega), mu_s]
  · (try dsimp only); rw [mu_s]
  · intro a b ha hb1
    try dsimp only
    rw [mu_o _ _ (by omega), mu_o _ _ (by omega), mu_o _ _ (by omega), mu_o _ _ (by omega)]
    exact hD a b ha hb1
theorem far_fmw {J : Mem} (hf : Far O I) (g : FmW I J) : Far O J := fun x y hx hy => by rw [g _ _ (by omega) (by omega)]; exact hf x y hx hy
theorem m_act (h : Ag T A) (wf : WF O) {J : Mem} (hm : MW O 0 J) {k : Nat} (hk : (k : Int) < O 0 6) : ld T 20 141 (k : Int) J = some (O 1 k) := by
  have h6 := wf.2.2.2.2.2.2.1
  simp only [agM h]
  rw [if_pos (by omega), Int.toNat_natCast]
  have := hm.2.2.1 k hk
  rw [show 40 * 0 + k = k by omega] at this
  rw [this]
theorem m_laysAll (h : Ag T A) (wf : WF O) (hl : 0 < O 0 0) (g : LG O) (hm : MW O 0 I) (ht : TK ntk I) : OK (f_X12_lays T A 129 I) (fun J => FmX I J ∧ MWk (Wn O) J ∧ Far O J) := by
  have h6 := wf.2.2.2.2.2.2.1
  have gi' : ∀ k (J : Mem), gi T 12 k 129 J = some (J 129 k) := fun k J => by simp only [agM h]
  have pi' : ∀ k v (J : Mem), pi T 12 k 129 v J = some (mu J 129 k v) := fun k v J => by simp only [agM h]
  unfold f_X12_lays
  rw [if_pos (by rw [kT_129 h]), show gr T A 12 17 129 = some 136 by simp only [agM h], some_bind, m_h2 h hm, some_bind]
  refine ok_b (ok_m (m_starts h wf hm _) (fun J hJ => ?_))
  refine it_run (fun i (s : Int × Mem) => s.1 = (i : Int) ∧ FmX I s.2 ∧ MWk (rep O i) s.2 ∧ Far O s.2) (O 0 6).toNat ?_ ?_ 0 FU (0, J) (by omega) (by unfold FU; omega) ⟨rfl, hJ.1, hJ.2.1, hJ.2.2⟩
  · rintro i ⟨si, K⟩ hi ⟨rfl, kF, kW, kD⟩
    dsimp only at kF kW kD ⊢
    have hmK := mw_fmx hm kF
    have htK := tk_fmx ht kF
    have hi6 : (i : Int) < O 0 6 := by omega
    have sK := rep_ws wf hl g i (by omega)
    rw [some_bind, m_h5 h hmK, some_bind, if_pos hi6, show gr T A 12 22 129 = some 141 by simp only [agM h], some_bind, m_act h wf hmK hi6, some_bind]
    have hok := g i hi6
    have er : rep O (i + 1) = stepS O (rep O i) (O 1 i) := rfl
    rcases hok with ⟨h1, h2, h3⟩ | ⟨h1, h2, h3⟩
    · have hn := wf_n wf
      obtain ⟨o, eo⟩ := Int.eq_ofNat_of_zero_le h1
      rw [if_pos (by omega)]
      simp only [some_bind]
      rw [m_act h wf hmK hi6]
      simp only [some_bind]
      rw [eo] at h2 h3
      rw [Int.toNat_natCast] at h3
      have hr := stp_rg wf sK (o := o) h2 h3
      have hs0 := sK.1
      rw [eo, m_stamps h wf hmK kW kD sK htK h2, some_bind]
      refine ok_b (ok_m (m_goes h wf hmK kW kD sK h2 (by omega) (by omega)) (fun L hL => ?_))
      rw [ia_1 (by omega)]
      refine ok_i ⟨rfl, fmx_t kF (fmx_w hL.1), ?_, far_fmw kD hL.1⟩
      rw [er]
      unfold stepS
      rw [if_pos (by omega), eo, Int.toNat_natCast]
      exact hL.2
    · rw [if_neg (by omega), gi', some_bind]
      simp only [some_bind]
      rw [m_act h wf hmK hi6, some_bind, pi', some_bind, isb_eq (by omega) (by omega), kW.1.1, ia_1 (by omega), ia_eq (by have := sK.1; omega) (by omega)]
      refine ok_i ⟨rfl, fun a b g1 g2 g3 => ?_, ⟨⟨?_, ?_, ?_, ?_⟩, fun o ho => ?_⟩, fun a b ha hb1 => ?_⟩
      · (try dsimp only); rw [mu_o _ _ (by omega)]; exact kF a b g1 g2 g3
      · (try dsimp only); rw [mu_s, er]; unfold stepS; rw [if_neg (by omega)]; rfl
      · (try dsimp only); rw [mu_o _ _ (by omega), er, kW.1.2.1]; unfold stepS; rw [if_neg (by omega)]; rfl
      · (try dsimp only); rw [mu_o _ _ (by omega), er, kW.1.2.2.1]; unfold stepS; rw [if_neg (by omega)]; rfl
      · (try dsimp only); rw [mu_o _ _ (by omega), er, kW.1.2.2.2]; unfold stepS; rw [if_neg (by omega)]; rfl
      · (try dsimp only); rw [mu_o _ _ (by omega), er, kW.2 o ho]; unfold stepS; rw [if_neg (by omega)]; (try dsimp only); rw [if_neg (by omega)]
      · (try dsimp only); rw [mu_o _ _ (by omega)]; exact kD a b ha hb1
  · rintro ⟨si, K⟩ ⟨rfl, kF, kW, kD⟩
    dsimp only at kF kW kD ⊢
    rw [some_bind, m_h5 h (mw_fmx hm kF), some_bind, if_neg (by omega)]
    exact ok_i ⟨kF, kW, kD⟩
end
