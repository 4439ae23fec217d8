/-! B: the calls blind, tries, luck, worth. -/
theorem fdr_fr {I J : Mem} (h : Fdr I J) : Fr I J := fun o k hk => by
  refine h o k (fun g => ?_) (fun g => ?_) (fun g => ?_) (fun g => ?_)
  · obtain ⟨rfl, g1, g2⟩ := g
    have d1 := decide_eq_true g1
    have d2 := decide_eq_true g2
    unfold scr at hk
    rw [d1, d2] at hk
    simp at hk
  · obtain ⟨rfl, rfl⟩ := g; exact absurd hk (by decide)
  · subst g; exact absurd hk (by simp [scr])
  · subst g; exact absurd hk (by simp [scr])
def lkc (O : Ofc) (a : Int) : Nat → Int
  | 0 => 0
  | i + 1 => if bdh O (a + i) = -1 then lkc O a i else lkc O a i + 1
def wsm (O : Ofc) (a b : Int) : Nat → Int
  | 0 => 0
  | i + 1 => if bdh O (a + i) = -1 then wsm O a b i else ia (wsm O a b i) (isb (bdh O (a + i)) b)
theorem lkc_rg (O : Ofc) (a : Int) : ∀ n, 0 ≤ lkc O a n ∧ lkc O a n ≤ n := by
  intro n
  induction n with
  | zero => exact ⟨Int.le_refl _, Int.le_refl _⟩
  | succ n ih => rw [lkc]; split <;> omega
theorem wsm_cn (O : Ofc) (a b : Int) : ∀ n, cn (wsm O a b n) := by
  intro n
  induction n with
  | zero => rw [wsm]; unfold cn; omega
  | succ n ih =>
    rw [wsm]
    split
    · exact ih
    · unfold cn ia wrap; omega
section
variable {T : Knd} {A : Rfs} {O : Ofc} {I : Mem}
theorem pre_b (b : Bas T A O I) {J : Mem} (e : ∀ x y, (x < 125 ∨ 127 < x) → J x y = I x y) : MW O 0 (mu J 129 0 0) ∧ (mu J 129 0 0) 129 31 = 0 ∧ FX I (mu J 129 0 0) ∧ Bas T A O J := by
  obtain ⟨h, wf, hc, hm, g, ht, hnx, k, hq⟩ := b
  refine ⟨mw_ag hm (fun a b h1 h2 => by rw [mu_o _ _ (by omega)]; exact e a b (by omega)), by rw [mu_o _ _ (by omega), e _ _ (by omega)]; exact hq, fx_t (fx_c (fun a b h1 => e a b (by omega))) (fx_fr (fr_0 J)), bas_ag ⟨h, wf, hc, hm, g, ht, hnx, k, hq⟩ (fun o j h1 => e o j (by omega))⟩
theorem c_seed (a : Int) : f_X11_isSeed T A a I = some (if 0 ≤ a ∧ a ≤ 2000000000 then 1 else 0) := by
  unfold f_X11_isSeed
  by_cases c1 : a < 0
  · rw [if_pos c1, if_neg (by omega)]
  · by_cases c2 : a ≤ 2000000000
    · rw [if_neg c1, if_pos c2, if_pos (by omega)]
    · rw [if_neg c1, if_neg c2, if_neg (by omega)]
theorem m_seed (h : Ag T A) (hm : MW O 0 I) (a : Int) : f_X12_isSeed T A 129 a I = some (if 0 < O 0 0 ∧ 0 ≤ a ∧ a ≤ 2000000000 then 1 else 0) := by
  unfold f_X12_isSeed
  rw [if_pos (show (T 129).1 = 12 by rw [kT_129 h]), m_isOffice h hm, some_bind, m_in]
  by_cases c1 : 0 < O 0 0
  · rw [if_pos c1, if_neg (by decide), some_bind]
    by_cases c2 : 0 ≤ a ∧ a ≤ 2000000000
    · rw [if_pos c2, if_neg (by decide), if_pos ⟨c1, c2⟩]
    · rw [if_neg c2, if_pos rfl, if_neg (fun q => c2 q.2)]
  · rw [if_neg c1, if_pos rfl, if_neg (fun q => c1 q.1)]
theorem m_seed1 (h : Ag T A) (hm : MW O 0 I) {a : Int} (c1 : 0 < O 0 0) (c2 : 0 ≤ a ∧ a ≤ 2000000000) : f_X12_isSeed T A 129 a I = some 1 := by rw [m_seed h hm, if_pos ⟨c1, c2⟩]
theorem m_seed0 (h : Ag T A) (hm : MW O 0 I) {a : Int} (c : ¬ (0 < O 0 0 ∧ 0 ≤ a ∧ a ≤ 2000000000)) : f_X12_isSeed T A 129 a I = some 0 := by rw [m_seed h hm, if_neg c]
theorem q_blind (b : Bas T A O I) (a1 : Int) : Quiet2 (f_X11_blind T A 1 a1 I) (fun J => f_X12_blind T A 129 a1 J) I := by
  have b' := b
  obtain ⟨h, wf, hc, hm, g, ht, hnx, k, hq⟩ := b
  have pi' : ∀ q v (J : Mem), pi T 12 q 129 v J = some (mu J 129 q v) := fun q v J => by simp only [agMg h]
  obtain ⟨k0, k1, k2, k3⟩ := q125 h
  unfold f_X11_blind f_X12_blind
  rw [if_pos (show (T 1).1 = 11 by rw [kT_1 h]), show gr T A 11 2 1 = some 26 by simp only [agX h], show gr T A 11 13 1 = some 125 by simp only [agX h], show gr T A 11 4 1 = some 64 by simp only [agX h], some_bind, c_isThere h hc, some_bind, c_seed, some_bind, some_bind]
  simp only [if_pos (show (T 129).1 = 12 by rw [kT_129 h]), pi', some_bind]
  obtain ⟨p1, p2, p3, p4⟩ := pre_b b' (J := I) (fun _ _ _ => rfl)
  by_cases c1 : 0 < O 0 0
  · by_cases c2 : 0 ≤ a1 ∧ a1 ≤ 2000000000
    · obtain ⟨J, eJ, j1, j2, j3⟩ := c_goFrom h wf c1 g hc ht hnx k (a := a1) (by omega) (by omega)
      obtain ⟨p1, p2, p3, p4⟩ := pre_b b' j3
      obtain ⟨K, eK, k4, k5, k6⟩ := m_draws h wf c1 g p1 p2 (a := a1) (by omega) (by omega)
      refine ⟨bdh O a1, J, K.2, ?_, ?_, fx_t p3 (fx_fr (fdr_fr k6))⟩
      · rw [if_pos c1, if_neg (by decide), if_pos c2, if_neg (by decide), eJ, some_bind, k2, some_bind, j1]
      · dsimp only
        rw [m_seed1 h p1 c1 c2, some_bind, if_neg (show ¬ (1 : Int) = 0 by decide), eK, some_bind, k4]
    · refine ⟨-2, I, mu I 129 0 0, ?_, ?_, p3⟩
      · rw [if_pos c1, if_neg (by decide), if_neg c2, if_pos rfl]
      · dsimp only
        rw [m_seed0 h p1 (fun q => c2 q.2), some_bind, if_pos rfl]
  · refine ⟨-2, I, mu I 129 0 0, ?_, ?_, p3⟩
    · rw [if_neg c1, if_pos rfl]
    · dsimp only
      rw [m_seed0 h p1 (fun q => c1 q.1), some_bind, if_pos rfl]
theorem q_tries (b : Bas T A O I) (a1 : Int) : Quiet2 (f_X11_tries T A 1 a1 I) (fun J => f_X12_tries T A 129 a1 J) I := by
  have b' := b
  obtain ⟨h, wf, hc, hm, g, ht, hnx, k, hq⟩ := b
  have pi' : ∀ q v (J : Mem), pi T 12 q 129 v J = some (mu J 129 q v) := fun q v J => by simp only [agMg h]
  have gi' : ∀ q (J : Mem), gi T 12 q 129 J = some (J 129 q) := fun q J => by simp only [agMg h]
  obtain ⟨k0, k1, k2, k3⟩ := q125 h
  unfold f_X11_tries f_X12_tries
  rw [if_pos (show (T 1).1 = 11 by rw [kT_1 h]), show gr T A 11 2 1 = some 26 by simp only [agX h], show gr T A 11 13 1 = some 125 by simp only [agX h], show gr T A 11 4 1 = some 64 by simp only [agX h], some_bind, c_isThere h hc, some_bind, c_seed, some_bind, some_bind]
  simp only [if_pos (show (T 129).1 = 12 by rw [kT_129 h]), pi', gi', some_bind]
  obtain ⟨p1, p2, p3, p4⟩ := pre_b b' (J := I) (fun _ _ _ => rfl)
  by_cases c1 : 0 < O 0 0
  · by_cases c2 : 0 ≤ a1 ∧ a1 ≤ 2000000000
    · obtain ⟨J, eJ, j1, j2, j3⟩ := c_goFrom h wf c1 g hc ht hnx k (a := a1) (by omega) (by omega)
      obtain ⟨p1, p2, p3, p4⟩ := pre_b b' j3
      obtain ⟨K, eK, k4, k5, k6⟩ := m_draws h wf c1 g p1 p2 (a := a1) (by omega) (by omega)
      refine ⟨(bdN O (bdq O a1) : Int), J, K.2, ?_, ?_, fx_t p3 (fx_fr (fdr_fr k6))⟩
      · rw [if_pos c1, if_neg (by decide), if_pos c2, if_neg (by decide), eJ, some_bind, k2, some_bind, j2]
      · dsimp only
        rw [m_seed1 h p1 c1 c2, some_bind, if_neg (show ¬ (1 : Int) = 0 by decide), eK, some_bind, k5]
    · refine ⟨-2, I, mu I 129 0 0, ?_, ?_, p3⟩
      · rw [if_pos c1, if_neg (by decide), if_neg c2, if_pos rfl]
      · dsimp only
        rw [m_seed0 h p1 (fun q => c2 q.2), some_bind, if_pos rfl]
  · refine ⟨-2, I, mu I 129 0 0, ?_, ?_, p3⟩
    · rw [if_neg c1, if_pos rfl]
    · dsimp only
      rw [m_seed0 h p1 (fun q => c1 q.1), some_bind, if_pos rfl]
theorem fdr_t {I J K : Mem} (f : Fdr I J) (g : Fdr J K) : Fdr I K := fun o k d1 d2 d3 d4 => by rw [g o k d1 d2 d3 d4, f o k d1 d2 d3 d4]
theorem ila_i {a : Int} {i : Nat} (h0 : 0 ≤ a) (h1 : a ≤ 2000000000) (hi : i < 20) : ila a (i : Int) = a + i := by
  unfold ila wrapl
  omega
theorem q_luck (b : Bas T A O I) (a1 a2 : Int) : Quiet2 (f_X11_luck T A 1 a1 a2 I) (fun J => f_X12_luck T A 129 a1 a2 J) I := by
  have b' := b
  obtain ⟨h, wf, hc, hm, g, ht, hnx, k, hq⟩ := b
  have pi' : ∀ q v (J : Mem), pi T 12 q 129 v J = some (mu J 129 q v) := fun q v J => by simp only [agMg h]
  obtain ⟨k0, k1, k2, k3⟩ := q125 h
  unfold f_X11_luck f_X12_luck
  rw [if_pos (show (T 1).1 = 11 by rw [kT_1 h]), show gr T A 11 2 1 = some 26 by simp only [agX h], show gr T A 11 13 1 = some 125 by simp only [agX h], show gr T A 11 4 1 = some 64 by simp only [agX h], some_bind, c_isThere h hc, some_bind, c_seed, some_bind]
  simp only [if_pos (show (T 129).1 = 12 by rw [kT_129 h]), pi', some_bind, m_in]
  obtain ⟨p1, p2, p3, p4⟩ := pre_b b' (J := I) (fun _ _ _ => rfl)
  by_cases c1 : 0 < O 0 0
  · by_cases c2 : 0 ≤ a1 ∧ a1 ≤ 2000000000
    · by_cases c3 : a2 < 1
      · refine ⟨-2, I, mu I 129 0 0, ?_, ?_, p3⟩
        · rw [if_pos c1, if_neg (by decide), if_pos c2, if_neg (by decide), if_pos c3]
        · dsimp only
          rw [m_seed1 h p1 c1 c2, some_bind, if_neg (show ¬ (1 : Int) = 0 by decide), if_neg (show ¬ (1 ≤ a2 ∧ a2 ≤ 20) by omega), if_pos rfl]
      · by_cases c4 : a2 ≤ 20
        · obtain ⟨n, rfl⟩ := Int.eq_ofNat_of_zero_le (show 0 ≤ a2 by omega)
          have c5 : (1 : Int) ≤ (n : Int) ∧ (n : Int) ≤ 20 := by omega
          rw [if_pos c1, if_neg (by decide), if_pos c2, if_neg (by decide), if_neg c3, if_pos c4]
          have cl : OK (it (fun (s9 : Int × Int × Mem) => if s9.2.1 < (n : Int) then (some 125).bind fun x12 => (some 64).bind fun x13 => (f_X0_goFrom T A x12 x13 (ia a1 s9.2.1) s9.2.2).bind fun e14 => (some 125).bind fun x16 => (gi T 0 2 x16 e14).bind fun x17 => if x17 = (-1) then some (.inl (s9.1, ia s9.2.1 1, e14)) else some (.inl (ia s9.1 1, ia s9.2.1 1, e14)) else some (.inr (s9.1, s9.2.2))) FU (0, 0, I)) (fun z => z.1 = lkc O a1 n ∧ ∀ x y, (x < 125 ∨ 127 < x) → z.2 x y = I x y) := by
            refine it_run (fun i (s : Int × Int × Mem) => s.1 = lkc O a1 i ∧ s.2.1 = (i : Int) ∧ ∀ x y, (x < 125 ∨ 127 < x) → s.2.2 x y = I x y) n ?_ ?_ 0 FU _ (by omega) (by unfold FU; omega) ⟨rfl, rfl, fun _ _ _ => rfl⟩
            · rintro i ⟨x1, x2, M⟩ hi ⟨rfl, rfl, hF⟩
              try dsimp only at hF ⊢
              have lr := lkc_rg O a1 i
              have bM := bas_ag b' (J := M) (fun o j h1 => hF o j (by omega))
              obtain ⟨h, wf, hc, hm, g, ht, hnx, k, hq⟩ := bM
              rw [if_pos (by omega), some_bind, some_bind, ia_eq (show -2147483648 ≤ a1 + (i : Int) by omega) (by omega)]
              refine ok_b (ok_m (c_goFrom h wf c1 g hc ht hnx k (a := a1 + i) (by omega) (by omega)) (fun Z hZ => ?_))
              obtain ⟨z1, z2, z3⟩ := hZ
              rw [some_bind, k2, some_bind, z1, ia_1 (by omega)]
              by_cases e : bdh O (a1 + i) = -1
              · rw [if_pos e]
                refine ok_i ⟨?_, rfl, fun x y hx => ?_⟩
                · rw [lkc, if_pos e]
                · (try dsimp only); rw [z3 x y hx]; exact hF x y hx
              · rw [if_neg e, ia_eq (by omega) (by omega)]
                refine ok_i ⟨?_, rfl, fun x y hx => ?_⟩
                · rw [lkc, if_neg e]
                · (try dsimp only); rw [z3 x y hx]; exact hF x y hx
            · rintro ⟨x1, x2, M⟩ ⟨rfl, rfl, hF⟩
              try dsimp only at hF ⊢
              rw [if_neg (by omega)]
              exact ok_i ⟨rfl, hF⟩
          obtain ⟨⟨v, J⟩, eJ, rfl, j3⟩ := cl
          try dsimp only at j3
          obtain ⟨p1, p2, p3, p4⟩ := pre_b b' j3
          have ml : OK (f_X12_luck T A 129 a1 (n : Int) J) (fun z => z.1 = lkc O a1 n ∧ Fdr (mu J 129 0 0) z.2) := by
            unfold f_X12_luck
            rw [if_pos (show (T 129).1 = 12 by rw [kT_129 h]), pi', some_bind, m_seed1 h p1 c1 c2, some_bind, if_neg (show ¬ (1 : Int) = 0 by decide), m_in, some_bind, if_pos c5, if_neg (by decide)]
            refine it_run (fun i (s : Int × Int × Mem) => s.1 = lkc O a1 i ∧ s.2.1 = (i : Int) ∧ Fdr (mu J 129 0 0) s.2.2) n ?_ ?_ 0 FU _ (by omega) (by unfold FU; omega) ⟨rfl, rfl, fun _ _ _ _ _ _ => rfl⟩
            · rintro i ⟨x1, x2, M⟩ hi ⟨rfl, rfl, hF⟩
              try dsimp only at hF ⊢
              have lr := lkc_rg O a1 i
              rw [if_pos (by omega), ila_i (by omega) (by omega) (by omega)]
              refine ok_b (ok_m (m_draws h wf c1 g (mw_ag p1 (fun x y d1 d2 => hF x y (by omega) (by omega) (by omega) (by omega))) (by rw [hF _ _ (by omega) (by omega) (by omega) (by omega)]; exact p2) (a := a1 + i) (by omega) (by omega)) (fun Z hZ => ?_))
              obtain ⟨z1, z2, z3⟩ := hZ
              rw [z1, ia_1 (by omega)]
              by_cases e : bdh O (a1 + i) = -1
              · rw [if_pos e, ia_eq (by omega) (by omega), Int.add_zero]
                refine ok_i ⟨?_, rfl, fdr_t hF z3⟩
                rw [lkc, if_pos e]
              · rw [if_neg e, ia_eq (by omega) (by omega)]
                refine ok_i ⟨?_, rfl, fdr_t hF z3⟩
                rw [lkc, if_neg e]
            · rintro ⟨x1, x2, M⟩ ⟨rfl, rfl, hF⟩
              try dsimp only at hF ⊢
              rw [if_neg (by omega)]
              exact ok_i ⟨rfl, hF⟩
          obtain ⟨⟨v, K⟩, eK, rfl, k4⟩ := ml
          refine ⟨lkc O a1 n, J, K, eJ, ?_, fx_t p3 (fx_fr (fdr_fr k4))⟩
          dsimp only
          unfold f_X12_luck at eK
          rw [if_pos (show (T 129).1 = 12 by rw [kT_129 h]), pi', some_bind, m_in] at eK
          exact eK
        · refine ⟨-2, I, mu I 129 0 0, ?_, ?_, p3⟩
          · rw [if_pos c1, if_neg (by decide), if_pos c2, if_neg (by decide), if_neg c3, if_neg c4]
          · dsimp only
            rw [m_seed1 h p1 c1 c2, some_bind, if_neg (show ¬ (1 : Int) = 0 by decide), if_neg (show ¬ (1 ≤ a2 ∧ a2 ≤ 20) by omega), if_pos rfl]
    · refine ⟨-2, I, mu I 129 0 0, ?_, ?_, p3⟩
      · rw [if_pos c1, if_neg (by decide), if_neg c2, if_pos rfl]
      · dsimp only
        rw [m_seed0 h p1 (fun q => c2 q.2), some_bind, if_pos rfl]
  · refine ⟨-2, I, mu I 129 0 0, ?_, ?_, p3⟩
    · rw [if_neg c1, if_pos rfl]
    · dsimp only
      rw [m_seed0 h p1 (fun q => c1 q.1), some_bind, if_pos rfl]
end
