/-! B: the calls loose and loosely. -/
section
variable {T : Knd} {A : Rfs} {O : Ofc} {I : Mem}
theorem entC_ext (wf : WF O) {t t' : Nat → R3} {s : Nat} (hs : s < 2 ^ oN O) (e : ∀ x, s < x → x < 2 ^ oN O → t x = t' x) : entC O t s = entC O t' s := by
  unfold entC
  rw [pkf_ext (oN O) (fun i hi hb0 => by
    obtain ⟨l1, l2, l3⟩ := jn_lt (on_le wf).1 hs hi hb0
    exact e _ l1 l2)]
theorem entM_ext (wf : WF O) {t t' : Nat → Int} {s : Nat} (hs : s < 2 ^ oN O) (e : ∀ x, s < x → x < 2 ^ oN O → t x = t' x) : entM O t s = entM O t' s := by
  unfold entM
  rw [dkf_ext (oN O) (fun i hi hb0 => by
    obtain ⟨l1, l2, l3⟩ := jn_lt (on_le wf).1 hs hi hb0
    exact e _ l1 l2)]
theorem c_weigh (h : Ag T A) (wf : WF O) (hc : CV O 26 I) : OK (f_X1_weigh T A 107 26 I) (fun J => (∀ s, s < 2 ^ oN O → tb3 J s = entC O (tb3 J) s) ∧ Fo 108 110 I J) := by
  obtain ⟨hn, en⟩ := on_le wf
  have hp := pw_le hn
  obtain ⟨k0, k1, k2, k3⟩ := q107 h
  unfold f_X1_weigh
  rw [if_pos k0, show gi T 2 4 26 I = some (I 26 4) by simp only [agPl h], some_bind, cv_n hc, en, ishl_n (by omega), show imin ((2 ^ oN O : Nat) : Int) 256 = ((2 ^ oN O : Nat) : Int) from by unfold imin; split <;> omega, isb_eq (by omega) (by omega), k1, k2, k3]
  refine it_run (fun k (x : Int × Mem) => x.1 = ((2 ^ oN O : Nat) : Int) - 1 - k ∧ (∀ s, 2 ^ oN O - k ≤ s → s < 2 ^ oN O → tb3 x.2 s = entC O (tb3 x.2) s) ∧ Fo 108 110 I x.2) (2 ^ oN O) ?_ ?_ 0 FU _ (by omega) (by unfold FU; omega) ⟨by (try dsimp only); omega, fun s h1 h2 => absurd h1 (by omega), fo_r _ _ _⟩
  · rintro k ⟨x1, M⟩ hk ⟨rfl, hT, hF⟩
    try dsimp only at hT hF ⊢
    obtain ⟨s, es⟩ : ∃ s, s = 2 ^ oN O - 1 - k := ⟨_, rfl⟩
    have es' : ((2 ^ oN O : Nat) : Int) - 1 - (k : Int) = (s : Int) := by omega
    have hs : s < 2 ^ oN O := by omega
    rw [es', if_neg (by omega), some_bind, ev_sto (kT_108 h), if_pos (by omega), some_bind, some_bind, ev_sto (kT_109 h), if_pos (by omega), some_bind, some_bind, ev_sto (kT_110 h), if_pos (by omega), some_bind, Int.toNat_natCast]
    obtain ⟨U, eU⟩ : ∃ U, U = mu (mu (mu M 108 s 0) 109 s 0) 110 s (-1) := ⟨_, rfl⟩
    rw [← eU]
    have fU : ∀ a b, ¬ ((108 ≤ a ∧ a ≤ 110) ∧ b = s) → U a b = M a b := fun a b hab => by rw [eU, mu_o _ _ (by omega), mu_o _ _ (by omega), mu_o _ _ (by omega)]
    have u0 : U 108 s = 0 ∧ U 109 s = 0 ∧ U 110 s = -1 := by
      rw [eU]
      exact ⟨by rw [mu_o _ _ (by omega), mu_o _ _ (by omega), mu_s], by rw [mu_o _ _ (by omega), mu_s], mu_s _ _ _ _⟩
    have cvU : CV O 26 U := cv_ag hc (fun a b d1 d2 => by rw [fU a b (by omega)]; exact hF a b (by omega))
    have ext : ∀ J : Mem, (∀ a b, ¬ ((108 ≤ a ∧ a ≤ 110) ∧ b = s) → J a b = M a b) → (∀ x, s < x → x < 2 ^ oN O → tb3 J x = tb3 M x) ∧ ∀ x, s < x → x < 2 ^ oN O → tb3 J x = entC O (tb3 J) x := fun J eJ => by
      have e1 : ∀ x, s < x → tb3 J x = tb3 M x := fun x hx => by
        unfold tb3
        rw [eJ _ _ (by omega), eJ _ _ (by omega), eJ _ _ (by omega)]
      refine ⟨fun x hx _ => e1 x hx, fun x h1 h2 => ?_⟩
      rw [e1 x h1, hT x (by omega) h2]
      exact entC_ext wf h2 (fun y h3 h4 => (e1 y (by omega)).symm)
    rw [show gi T 2 5 26 U = some (U 26 5) by simp only [agPl h], some_bind, cv_permit cvU, ia_eq (by omega) (by omega)]
    by_cases c : iand (O 0 5) (ixor (s : Int) (-1)) = 0
    · rw [if_pos c]
      refine ok_i ⟨by (try dsimp only); omega, fun x h1 h2 => ?_, fun a b hab => ?_⟩
      · try dsimp only
        by_cases e : x = s
        · subst e
          unfold entC
          rw [show pok O x = true from decide_eq_true c, if_pos rfl]
          unfold tb3
          rw [u0.1, u0.2.1, u0.2.2]
        · exact (ext U fU).2 x (by omega) h2
      · (try dsimp only); rw [fU a b (by omega)]; exact hF a b (by omega)
    · rw [if_neg c]
      refine ok_b (ok_m (c_pick h wf cvU hs u0) (fun J hJ => ?_))
      obtain ⟨j1, j2⟩ := hJ
      have fJ : ∀ a b, ¬ ((108 ≤ a ∧ a ≤ 110) ∧ b = s) → J a b = M a b := fun a b hab => (j2 a b hab).trans (fU a b hab)
      refine ok_i ⟨by (try dsimp only); omega, fun x h1 h2 => ?_, fun a b hab => ?_⟩
      · try dsimp only
        by_cases e : x = s
        · subst e
          have e2 : entC O (tb3 J) x = pkf O (tb3 J) x (oN O) := by
            unfold entC
            rw [show pok O x = false from decide_eq_false c, if_neg (by decide)]
          rw [e2, j1]
          refine pkf_ext (oN O) (fun i hi hb0 => ?_)
          obtain ⟨l1, l2, l3⟩ := jn_lt hn hs hi hb0
          rw [(ext J fJ).1 _ l1 l2, (ext U fU).1 _ l1 l2]
        · exact (ext J fJ).2 x (by omega) h2
      · (try dsimp only); rw [fJ a b (by omega)]; exact hF a b (by omega)
  · rintro ⟨x1, M⟩ ⟨rfl, hT, hF⟩
    try dsimp only at hT hF ⊢
    rw [if_pos (by omega)]
    exact ok_i ⟨fun s hs => hT s (by omega) hs, hF⟩
theorem m_dropsBy (h : Ag T A) (wf : WF O) (hm : MW O 0 I) {s i : Nat} (hs : s < 2 ^ oN O) (hi : i < oN O) (hb0 : hb (s : Int) i = false) : f_X12_dropsBy T A 129 (i : Int) (s : Int) I = some (ia (ia (im 16 (ia (dpa O s i) (dpb O s i))) 1) (I 151 (jn s i))) := by
  obtain ⟨hn, en⟩ := on_le wf
  have hp := pw_le hn
  have ho : (i : Int) < O 0 4 := by omega
  obtain ⟨l1, l2, l3⟩ := jn_lt hn hs hi hb0
  unfold f_X12_dropsBy
  rw [if_pos (show (T 129).1 = 12 by rw [kT_129 h]), show gr T A 12 19 129 = some 138 by simp only [agMg h], show gr T A 12 20 129 = some 139 by simp only [agMg h], show gr T A 12 46 129 = some 151 by simp only [agMg h], some_bind, ev_ld (kT_138 h), if_pos (by omega), some_bind, Int.toNat_natCast, mw_needs hm ho, f_so (sl_and (wo_sl wf ho).1), some_bind, some_bind, m_bars h wf hm ho, some_bind, f_so (sl_and (wo_sl wf ho).2), some_bind, some_bind, l3, ev_ld (kT_151 h), if_pos (by omega), some_bind, Int.toNat_natCast]
  rfl
def tb1 (I : Mem) : Nat → Int := fun x => I 151 x
theorem m_laysDrops (h : Ag T A) (wf : WF O) (hm : MW O 0 I) : OK (f_X12_laysDrops T A 129 I) (fun J => (∀ s, s < 2 ^ oN O → tb1 J s = entM O (tb1 J) s) ∧ Fo 151 151 I J) := by
  obtain ⟨hn, en⟩ := on_le wf
  have hp := pw_le hn
  unfold f_X12_laysDrops
  rw [if_pos (show (T 129).1 = 12 by rw [kT_129 h]), m_sets0 h hn (by rw [mw_n hm, en]), some_bind, isb_eq (by omega) (by omega), show gr T A 12 46 129 = some 151 by simp only [agMg h], show gr T A 12 17 129 = some 136 by simp only [agMg h]]
  refine it_run (fun k (x : Int × Mem) => x.1 = ((2 ^ oN O : Nat) : Int) - 1 - k ∧ (∀ s, 2 ^ oN O - k ≤ s → s < 2 ^ oN O → tb1 x.2 s = entM O (tb1 x.2) s) ∧ Fo 151 151 I x.2) (2 ^ oN O) ?_ ?_ 0 FU _ (by omega) (by unfold FU; omega) ⟨by (try dsimp only); omega, fun s h1 h2 => absurd h1 (by omega), fo_r _ _ _⟩
  · rintro k ⟨x1, M⟩ hk ⟨rfl, hT, hF⟩
    try dsimp only at hT hF ⊢
    obtain ⟨s, es⟩ : ∃ s, s = 2 ^ oN O - 1 - k := ⟨_, rfl⟩
    have es' : ((2 ^ oN O : Nat) : Int) - 1 - (k : Int) = (s : Int) := by omega
    have hs : s < 2 ^ oN O := by omega
    have hmM : MW O 0 M := mw_ag hm (fun a b d1 d2 => hF a b (by omega))
    have ext : ∀ J : Mem, (∀ a b, ¬ (a = 151 ∧ b = s) → J a b = M a b) → (∀ x, s < x → x < 2 ^ oN O → tb1 J x = tb1 M x) ∧ ∀ x, s < x → x < 2 ^ oN O → tb1 J x = entM O (tb1 J) x := fun J eJ => by
      have e1 : ∀ x, s < x → tb1 J x = tb1 M x := fun x hx => eJ _ _ (by omega)
      refine ⟨fun x hx _ => e1 x hx, fun x h1 h2 => ?_⟩
      rw [e1 x h1, hT x (by omega) h2]
      exact entM_ext wf h2 (fun y h3 h4 => (e1 y (by omega)).symm)
    rw [es', if_neg (by omega), some_bind, some_bind, m_h4 h hmM, some_bind, ia_eq (show -2147483648 ≤ (s : Int) + -1 by omega) (by omega)]
    by_cases c : iand (O 0 5) (ixor (s : Int) (-1)) = 0
    · rw [if_pos c, thn_l, ev_sto (kT_151 h), if_pos (by omega), some_bind, Int.toNat_natCast]
      obtain ⟨U, eU⟩ : ∃ U, U = mu M 151 s 0 := ⟨_, rfl⟩
      rw [← eU]
      have fU : ∀ a b, ¬ (a = 151 ∧ b = s) → U a b = M a b := fun a b hab => by rw [eU, mu_o _ _ (by omega)]
      have hmU : MW O 0 U := mw_ag hmM (fun a b d1 d2 => fU a b (by omega))
      refine it_run (fun i (x : Int × Mem) => x = ((0 : Int), U)) 0 (fun i x hi _ => absurd hi (by omega)) ?_ 0 FU _ (by omega) (by unfold FU; omega) rfl
      rintro _ rfl
      try dsimp only
      have fin : (s : Int) + -1 = ((2 ^ oN O : Nat) : Int) - 1 - ((k + 1 : Nat) : Int) ∧ (∀ x, 2 ^ oN O - (k + 1) ≤ x → x < 2 ^ oN O → tb1 U x = entM O (tb1 U) x) ∧ Fo 151 151 I U := by
        refine ⟨by omega, fun x h1 h2 => ?_, fun a b hab => ?_⟩
        · by_cases e : x = s
          · subst e
            unfold entM
            rw [show pok O x = true from decide_eq_true c, if_pos rfl]
            unfold tb1
            rw [eU, mu_s]
          · exact (ext U fU).2 x (by omega) h2
        · rw [fU a b (by omega)]; exact hF a b (by omega)
      rw [some_bind, m_h3 h hmU, some_bind]
      by_cases c0 : (0 : Int) < O 0 4
      · rw [if_pos c0, some_bind, m_h4 h hmU, some_bind, if_pos c]
        exact ok_i fin
      · rw [if_neg c0]
        exact ok_i fin
    · rw [if_neg c, thn_l, ev_sto (kT_151 h), if_pos (by omega), some_bind, Int.toNat_natCast]
      obtain ⟨U, eU⟩ : ∃ U, U = mu M 151 s 100000 := ⟨_, rfl⟩
      rw [← eU]
      have fU : ∀ a b, ¬ (a = 151 ∧ b = s) → U a b = M a b := fun a b hab => by rw [eU, mu_o _ _ (by omega)]
      refine it_run (fun i (x : Int × Mem) => x.1 = (i : Int) ∧ x.2 151 s = dkf O (tb1 M) s i ∧ ∀ a b, ¬ (a = 151 ∧ b = s) → x.2 a b = M a b) (oN O) ?_ ?_ 0 FU _ (by omega) (by unfold FU; omega) ⟨rfl, by (try dsimp only); rw [eU, mu_s]; rfl, fU⟩
      · rintro i ⟨x1, V⟩ hi ⟨rfl, hq, hV⟩
        try dsimp only at hq hV ⊢
        have hmV : MW O 0 V := mw_ag hmM (fun a b d1 d2 => hV a b (by omega))
        have ed : dkf O (tb1 M) s (i + 1) = dnx O (tb1 M) s i (dkf O (tb1 M) s i) := by rw [dkf]
        rw [some_bind, m_h3 h hmV, some_bind, if_pos (by omega), some_bind, m_h4 h hmV, some_bind, if_neg c, f_isBit (by omega), some_bind, ia_1 (by omega)]
        cases hx : hb (s : Int) i
        · obtain ⟨l1, l2, l3⟩ := jn_lt hn hs hi hx
          have ev : V 151 (jn s i) = tb1 M (jn s i) := hV _ _ (by omega)
          have dd := m_dropsBy h wf hmV hs hi hx
          rw [ev] at dd
          have pe : dnx O (tb1 M) s i (dkf O (tb1 M) s i) = if ia (ia (im 16 (ia (dpa O s i) (dpb O s i))) 1) (tb1 M (jn s i)) < dkf O (tb1 M) s i then ia (ia (im 16 (ia (dpa O s i) (dpb O s i))) 1) (tb1 M (jn s i)) else dkf O (tb1 M) s i := by
            unfold dnx; rw [hx, if_neg (by decide)]
          rw [if_pos (show (if false = true then (1 : Int) else 0) = 0 from rfl), dd, some_bind, some_bind, ev_ld (kT_151 h), if_pos (by omega), some_bind, Int.toNat_natCast, hq]
          by_cases q : ia (ia (im 16 (ia (dpa O s i) (dpb O s i))) 1) (tb1 M (jn s i)) < dkf O (tb1 M) s i
          · rw [if_pos q, some_bind, some_bind, ev_sto (kT_151 h), if_pos (by omega), some_bind, Int.toNat_natCast]
            refine ok_i ⟨rfl, ?_, fun a b hab => ?_⟩
            · (try dsimp only); rw [mu_s, ed, pe, if_pos q]
            · (try dsimp only); rw [mu_o _ _ (by omega)]; exact hV a b hab
          · rw [if_neg q]
            refine ok_i ⟨rfl, ?_, hV⟩
            (try dsimp only); rw [hq, ed, pe, if_neg q]
        · have pe : dnx O (tb1 M) s i (dkf O (tb1 M) s i) = dkf O (tb1 M) s i := by unfold dnx; rw [hx, if_pos rfl]
          rw [if_neg (show ¬ (if true = true then (1 : Int) else 0) = 0 by decide)]
          refine ok_i ⟨rfl, ?_, hV⟩
          (try dsimp only); rw [hq, ed, pe]
      · rintro ⟨x1, V⟩ ⟨rfl, hq, hV⟩
        try dsimp only at hq hV ⊢
        have hmV : MW O 0 V := mw_ag hmM (fun a b d1 d2 => hV a b (by omega))
        rw [some_bind, m_h3 h hmV, some_bind, if_neg (by omega)]
        refine ok_i ⟨by (try dsimp only); omega, fun x h1 h2 => ?_, fun a b hab => ?_⟩
        · try dsimp only
          by_cases e : x = s
          · subst e
            have e2 : entM O (tb1 V) x = dkf O (tb1 V) x (oN O) := by
              unfold entM
              rw [show pok O x = false from decide_eq_false c, if_neg (by decide)]
            rw [e2]
            refine hq.trans (dkf_ext (oN O) (fun i hi hb0 => ?_))
            obtain ⟨l1, l2, l3⟩ := jn_lt hn hs hi hb0
            exact ((ext V hV).1 _ l1 l2).symm
          · exact (ext V hV).2 x (by omega) h2
        · (try dsimp only); rw [hV a b (by omega)]; exact hF a b (by omega)
  · rintro ⟨x1, M⟩ ⟨rfl, hT, hF⟩
    try dsimp only at hT hF ⊢
    rw [if_pos (by omega)]
    exact ok_i ⟨fun s hs => hT s (by omega) hs, hF⟩
end
