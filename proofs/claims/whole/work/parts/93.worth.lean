/-! B: worth. -/
section
variable {T : Knd} {A : Rfs} {O : Ofc} {I : Mem}
theorem rst_b {o k : Nat} (h1 : 119 ≤ o) (h2 : o ≤ 127) : rst o k = false := by
  have e : ∀ n, (n < 119 ∨ 127 < n) → (o == n) = false := fun n hn => beq_eq_false_iff_ne.mpr (by omega)
  unfold rst
  simp [e]
  omega
theorem qs_blind (b : Bas T A O I) (c : Cch O I) {J K : Mem} {V : List Lf} (rc : RC 68 (Hn O) V J) (sm : Sim 0 V (Ln O)) (ag : ∀ o j, (o < 68 ∨ (78 < o ∧ o < 125) ∨ 127 < o) → J o j = I o j) (f : Fr J K) : Bas T A O K ∧ Cch O K ∧ RF I K := by
  refine ⟨bas_fr (bas_ag b (fun o j ho => ag o j (by omega))) f, cch_fr ⟨Or.inr ⟨V, rc, sm⟩, evry_ag c.2.1 (fun o j h1 h2 => ag o j (by omega)), star_ag c.2.2 (fun j => ag 1 j (by omega))⟩ f, rf_t ?_ (rf_fr f)⟩
  intro o j hr
  by_cases q : o < 68 ∨ (78 < o ∧ o < 125) ∨ 127 < o
  · exact ag o j q
  · rcases Nat.lt_or_ge o 100 with h1 | h1
    · rw [rst_w (by omega) (by omega)] at hr; exact absurd hr (by decide)
    · rw [rst_b (by omega) (by omega)] at hr; exact absurd hr (by decide)
theorem c_wloop (b : Bas T A O I) (hl : 0 < O 0 0) {a v : Int} (h0 : 0 ≤ a) (h1 : a ≤ 2000000000) {n : Nat} (h20 : n ≤ 20) : OK (it (fun (s21 : Int × Int × Int × Mem) => if s21.2.2.1 < (n : Int) then (some 125).bind fun x25 => (some 64).bind fun x26 => (f_X0_goFrom T A x25 x26 (ia a s21.2.2.1) s21.2.2.2).bind fun e27 => (some 125).bind fun x29 => (gi T 0 2 x29 e27).bind fun x30 => if x30 = (-1) then some (.inl (s21.1, s21.2.1, ia s21.2.2.1 1, e27)) else (some 125).bind fun x32 => (gi T 0 2 x32 e27).bind fun x33 => some (.inl (ia s21.1 (isb x33 v), ia s21.2.1 1, ia s21.2.2.1 1, e27)) else some (.inr (.inl (s21.1, s21.2.1, s21.2.2.2)) : (Int × Int × Int × Mem) ⊕ ((Int × Int × Mem) ⊕ (Int × Mem)))) FU (0, 0, 0, I)) (fun z => ∃ J, z = .inl (wsm O a v n, lkc O a n, J) ∧ ∀ x y, (x < 125 ∨ 127 < x) → J x y = I x y) := by
  refine it_run (fun i (s : Int × Int × Int × Mem) => s.1 = wsm O a v i ∧ s.2.1 = lkc O a i ∧ s.2.2.1 = (i : Int) ∧ ∀ x y, (x < 125 ∨ 127 < x) → s.2.2.2 x y = I x y) n ?_ ?_ 0 FU _ (by omega) (by unfold FU; omega) ⟨rfl, rfl, rfl, fun _ _ _ => rfl⟩
  · rintro i ⟨x1, x2, x3, M⟩ hi ⟨rfl, rfl, rfl, hF⟩
    try dsimp only at hF ⊢
    have lr := lkc_rg O a i
    have bM := bas_ag b (J := M) (fun o j h1 => hF o j (by omega))
    obtain ⟨h, wf, hc, hm, g, ht, hnx, k, hq⟩ := bM
    obtain ⟨k0, k1, k2, k3⟩ := q125 h
    rw [if_pos (by omega), some_bind, some_bind, ia_eq (show -2147483648 ≤ a + (i : Int) by omega) (by omega)]
    refine ok_b (ok_m (c_goFrom h wf hl g hc ht hnx k (a := a + i) (by omega) (by omega)) (fun Z hZ => ?_))
    obtain ⟨z1, z2, z3⟩ := hZ
    rw [some_bind, k2, some_bind, z1, ia_1 (by omega)]
    by_cases e : bdh O (a + i) = -1
    · rw [if_pos e]
      refine ok_i ⟨?_, ?_, rfl, fun x y hx => ?_⟩
      · rw [wsm, if_pos e]
      · rw [lkc, if_pos e]
      · (try dsimp only); rw [z3 x y hx]; exact hF x y hx
    · rw [if_neg e, some_bind, k2, some_bind, z1, ia_eq (show -2147483648 ≤ lkc O a i + 1 by omega) (by omega)]
      refine ok_i ⟨?_, ?_, rfl, fun x y hx => ?_⟩
      · rw [wsm, if_neg e]
      · rw [lkc, if_neg e]
      · (try dsimp only); rw [z3 x y hx]; exact hF x y hx
  · rintro ⟨x1, x2, x3, M⟩ ⟨rfl, rfl, rfl, hF⟩
    try dsimp only at hF ⊢
    rw [if_neg (by omega)]
    exact ok_i ⟨M, rfl, hF⟩
theorem m_wloop (h : Ag T A) (wf : WF O) (hl : 0 < O 0 0) (g : LG O) (hm : MW O 0 I) (hq : I 129 31 = 0) {a v : Int} (h0 : 0 ≤ a) (h1 : a ≤ 2000000000) {n : Nat} (h20 : n ≤ 20) : OK (it (fun (s19 : Int × Int × Int × Mem) => if s19.2.2.1 < (n : Int) then (f_X12_draws T A 129 (ila a s19.2.2.1) s19.2.2.2).bind fun e23 => if e23.1 = (-1) then some (.inl (s19.1, s19.2.1, ia s19.2.2.1 1, e23.2)) else some (.inl (ia s19.1 (isb e23.1 v), ia s19.2.1 1, ia s19.2.2.1 1, e23.2)) else some (.inr (.inl (s19.1, s19.2.1, s19.2.2.2)) : (Int × Int × Int × Mem) ⊕ ((Int × Int × Mem) ⊕ (Int × Mem)))) FU (0, 0, 0, I)) (fun z => ∃ J, z = .inl (wsm O a v n, lkc O a n, J) ∧ Fdr I J) := by
  refine it_run (fun i (s : Int × Int × Int × Mem) => s.1 = wsm O a v i ∧ s.2.1 = lkc O a i ∧ s.2.2.1 = (i : Int) ∧ Fdr I s.2.2.2) n ?_ ?_ 0 FU _ (by omega) (by unfold FU; omega) ⟨rfl, rfl, rfl, fun _ _ _ _ _ _ => rfl⟩
  · rintro i ⟨x1, x2, x3, M⟩ hi ⟨rfl, rfl, rfl, hF⟩
    try dsimp only at hF ⊢
    have lr := lkc_rg O a i
    rw [if_pos (by omega), ila_i (by omega) (by omega) (by omega)]
    refine ok_b (ok_m (m_draws h wf hl g (mw_ag hm (fun x y d1 d2 => hF x y (by omega) (by omega) (by omega) (by omega))) (by rw [hF _ _ (by omega) (by omega) (by omega) (by omega)]; exact hq) (a := a + i) (by omega) (by omega)) (fun Z hZ => ?_))
    obtain ⟨z1, z2, z3⟩ := hZ
    rw [z1, ia_1 (by omega)]
    by_cases e : bdh O (a + i) = -1
    · rw [if_pos e]
      refine ok_i ⟨?_, ?_, rfl, fdr_t hF z3⟩
      · rw [wsm, if_pos e]
      · rw [lkc, if_pos e]
    · rw [if_neg e, ia_eq (show -2147483648 ≤ lkc O a i + 1 by omega) (by omega)]
      refine ok_i ⟨?_, ?_, rfl, fdr_t hF z3⟩
      · rw [wsm, if_neg e]
      · rw [lkc, if_neg e]
  · rintro ⟨x1, x2, x3, M⟩ ⟨rfl, rfl, rfl, hF⟩
    try dsimp only at hF ⊢
    rw [if_neg (by omega)]
    exact ok_i ⟨M, rfl, hF⟩
theorem s_worth (b : Bas T A O I) (c : Cch O I) (a1 a2 a3 : Int) : Qs T A O I (f_X11_worth T A 1 a1 a2 a3 I) (fun J => f_X12_worth T A 129 a1 a2 a3 J) := by
  have b' := b
  obtain ⟨h, wf, hc, hm, g, ht, hnx, k, hq⟩ := b
  have pi' : ∀ q v (J : Mem), pi T 12 q 129 v J = some (mu J 129 q v) := fun q v J => by simp only [agMg h]
  obtain ⟨k0, k1, k2, k3⟩ := q125 h
  obtain ⟨p1, p2, p3, p4⟩ := pre_b b' (J := I) (fun _ _ _ => rfl)
  unfold f_X11_worth f_X12_worth
  rw [if_pos (show (T 1).1 = 11 by rw [kT_1 h]), show gr T A 11 2 1 = some 26 by simp only [agX h], show gr T A 11 13 1 = some 125 by simp only [agX h], show gr T A 11 4 1 = some 64 by simp only [agX h], some_bind, c_isThere h hc, some_bind, c_seed, some_bind, f_isBit1, some_bind]
  simp only [if_pos (show (T 129).1 = 12 by rw [kT_129 h]), pi', some_bind, m_in]
  by_cases c1 : 0 < O 0 0
  · by_cases c2 : 0 ≤ a1 ∧ a1 ≤ 2000000000
    · by_cases c3 : a2 < 1
      · refine qs_no (v := -2) b' c ?_ ?_
        · rw [if_pos c1, if_neg (by decide), if_pos c2, if_neg (by decide), if_pos c3]
        · (try dsimp only)
          rw [m_seed1 h p1 c1 c2, some_bind, if_neg (show ¬ (1 : Int) = 0 by decide), if_neg (show ¬ (1 ≤ a2 ∧ a2 ≤ 20) by omega), if_pos rfl]
      · by_cases c4 : a2 ≤ 20
        · by_cases c5 : 0 ≤ a3 ∧ a3 ≤ 1
          · obtain ⟨n, rfl⟩ := Int.eq_ofNat_of_zero_le (show 0 ≤ a2 by omega)
            have c6 : (1 : Int) ≤ (n : Int) ∧ (n : Int) ≤ 20 := by omega
            rw [if_pos c1, if_neg (by decide), if_pos c2, if_neg (by decide), if_neg c3, if_pos c4, if_pos c5, if_neg (by decide)]
            obtain ⟨J, V, e, r, s, ag⟩ := c_soonRows b' c1 c.1
            have bJ : Bas T A O J := bas_ag b' (fun o j ho => ag o j (by omega))
            obtain ⟨w, ew, L, rfl, agL⟩ := c_wloop (v := bv 0 (Ln O)) bJ c1 c2.1 c2.2 (n := n) (by omega)
            have bL : Bas T A O L := bas_ag bJ (fun o j ho => agL o j (by omega))
            obtain ⟨z, z1, z2, z3, z4, z5⟩ := m_findsNow bL.1 bL.2.1 c1 bL.2.2.2.2.1 bL.2.2.2.1 bL.2.2.2.2.2.2.2.2 0
            have bz : Bas T A O z.2 := bas_fr bL z3
            obtain ⟨w', ew', K, rfl, agK⟩ := m_wloop (v := bv 0 (Ln O)) bz.1 bz.2.1 c1 bz.2.2.2.2.1 bz.2.2.2.1 bz.2.2.2.2.2.2.2.2 c2.1 c2.2 (n := n) (by omega)
            have q : Bas T A O K ∧ Cch O K ∧ RF I K := qs_blind b' c (rc_ag r (fun o j h1 h2 => agL o j (by omega))) s (fun o j ho => by rw [agL o j (by omega)]; exact ag o j (by omega)) (fr_t z3 (fdr_fr agK))
            have best : f_X5_best T A 68 0 J = some (bv 0 (Ln O)) := by
              have := c_best (rk_68 h) (a := 0) (by decide) r
              refine this.trans ?_
              have e : bv (kk 0) V = bv 0 (Ln O) := by
                show bv 0 V = bv 0 (Ln O)
                unfold bv
                rw [s.2.1]
              rw [e]
            have lr := lkc_rg O a1 n
            refine ⟨if lkc O a1 n = 0 then -1 else if a3 = 0 then idv (wsm O a1 (bv 0 (Ln O)) n) (gc 64 (wsm O a1 (bv 0 (Ln O)) n) (lkc O a1 n)) else idv (lkc O a1 n) (gc 64 (wsm O a1 (bv 0 (Ln O)) n) (lkc O a1 n)), L, K, ?_, ?_, q⟩
            · rw [e, some_bind]
              (try dsimp only)
              rw [best, some_bind]
              refine (congrArg (fun o => thn o _) ew).trans ?_
              rw [thn_l]
              (try dsimp only)
              by_cases d : lkc O a1 n = 0
              · rw [if_pos d, if_pos d]
              · have ng : gc 64 (wsm O a1 (bv 0 (Ln O)) n) (lkc O a1 n) ≠ 0 := by
                  rw [show (64 : Nat) = 63 + 1 from rfl, gc, if_neg d]
                  exact gc_ne 63 d
                rw [if_neg d, if_neg d, c_gcd, some_bind, if_neg ng, show dvz (gc 64 (wsm O a1 (bv 0 (Ln O)) n) (lkc O a1 n)) = some () from if_neg ng, some_bind, some_bind]
                split <;> rfl
            · obtain ⟨p1, p2, p3, p4⟩ : MW O 0 (mu L 129 0 0) ∧ True ∧ True ∧ True := ⟨mw_fr bL.2.2.2.1 (fr_0 L), trivial, trivial, trivial⟩
              (try dsimp only)
              rw [m_seed1 h p1 c1 c2, some_bind, if_neg (show ¬ (1 : Int) = 0 by decide), if_pos c6, if_neg (show ¬ (1 : Int) = 0 by decide), if_neg (show ¬ (1 : Int) = 0 by decide), z1, some_bind, z2]
              refine (congrArg (fun o => thn o _) ew').trans ?_
              rw [thn_l]
              (try dsimp only)
              by_cases d : lkc O a1 n = 0
              · rw [if_pos d, if_pos d]
              · have ng : gc 64 (wsm O a1 (bv 0 (Ln O)) n) (lkc O a1 n) ≠ 0 := by
                  rw [show (64 : Nat) = 63 + 1 from rfl, gc, if_neg d]
                  exact gc_ne 63 d
                have mg : f_X12_common 64 T A (wsm O a1 (bv 0 (Ln O)) n) (lkc O a1 n) K = some (gc 64 (wsm O a1 (bv 0 (Ln O)) n) (lkc O a1 n)) := m_gcd 64 (wsm_cn _ _ _ _) (by unfold cn; omega) (by omega)
                have dg : dvz (gc 64 (wsm O a1 (bv 0 (Ln O)) n) (lkc O a1 n)) = some () := if_neg ng
                rw [if_neg d, if_neg d]
                by_cases d3 : a3 = 0
                · rw [if_pos d3, if_pos d3, thn_l, mg, some_bind, dg, some_bind]
                · rw [if_neg d3, if_neg d3, thn_l, mg, some_bind, dg, some_bind]
          · refine qs_no (v := -2) b' c ?_ ?_
            · rw [if_pos c1, if_neg (by decide), if_pos c2, if_neg (by decide), if_neg c3, if_pos c4, if_neg c5, if_pos rfl]
            · (try dsimp only)
              rw [m_seed1 h p1 c1 c2, some_bind, if_neg (show ¬ (1 : Int) = 0 by decide), if_pos (show 1 ≤ a2 ∧ a2 ≤ 20 by omega), if_neg (show ¬ (1 : Int) = 0 by decide), if_neg c5, if_pos rfl]
        · refine qs_no (v := -2) b' c ?_ ?_
          · rw [if_pos c1, if_neg (by decide), if_pos c2, if_neg (by decide), if_neg c3, if_neg c4]
          · (try dsimp only)
            rw [m_seed1 h p1 c1 c2, some_bind, if_neg (show ¬ (1 : Int) = 0 by decide), if_neg (show ¬ (1 ≤ a2 ∧ a2 ≤ 20) by omega), if_pos rfl]
    · refine qs_no (v := -2) b' c ?_ ?_
      · rw [if_pos c1, if_neg (by decide), if_neg c2, if_pos rfl]
      · (try dsimp only)
        rw [m_seed0 h p1 (fun q => c2 q.2), some_bind, if_pos rfl]
  · refine qs_no (v := -2) b' c ?_ ?_
    · rw [if_neg c1, if_pos rfl]
    · (try dsimp only)
      rw [m_seed0 h p1 (fun q => c1 q.1), some_bind, if_pos rfl]
end
