/-! B: the calls that ask for rows. -/
section
variable {T : Knd} {A : Rfs} {O : Ofc} {I : Mem} {W : Wkr} {n : Nat} {u : Int} {R : Nat}
theorem pre_soon (b : Bas T A O I) (c : Cch O I) (hl : 0 < O 0 0) : ∃ J V, f_X11_soonRows T A 1 I = some (68, J) ∧ RC 68 (Hn O) V J ∧ Sim 0 V (Ln O) ∧ (∀ o j, (o < 68 ∨ 78 < o) → J o j = I o j) ∧ MW O 0 J ∧ ∀ k, ∃ z, f_X12_findsNow T A 129 k (mu J 129 0 0) = some z ∧ z.1 = bv k (Ln O) ∧ RMb k (Ln O) z.2 ∧ RMw k (Hn O) (Ln O) z.2 ∧ (Bas T A O z.2 ∧ Cch O z.2 ∧ RF I z.2) := by
  obtain ⟨J, V, e, r, s, ag⟩ := c_soonRows b hl c.1
  have bJ : Bas T A O J := bas_ag b (fun o j ho => ag o j (by omega))
  refine ⟨J, V, e, r, s, ag, bJ.2.2.2.1, fun k => ?_⟩
  obtain ⟨z, z1, z2, z3, z4, z5⟩ := m_findsNow bJ.1 bJ.2.1 hl bJ.2.2.2.2.1 bJ.2.2.2.1 bJ.2.2.2.2.2.2.2.2 k
  exact ⟨z, z1, z2, z4, z5, qs_soon b c r s ag z3⟩
theorem pre_evry (b : Bas T A O I) (c : Cch O I) (hl : 0 < O 0 0) : ∃ J, f_X11_everyRow T A 1 I = some (79, J) ∧ RC 79 (Hn O) (Ln O) J ∧ (∀ o j, (o < 79 ∨ 89 < o) → J o j = I o j) ∧ MW O 0 J ∧ ∀ k, ∃ z, f_X12_findsNow T A 129 k (mu J 129 0 0) = some z ∧ z.1 = bv k (Ln O) ∧ RMb k (Ln O) z.2 ∧ RMw k (Hn O) (Ln O) z.2 ∧ (Bas T A O z.2 ∧ Cch O z.2 ∧ RF I z.2) := by
  obtain ⟨J, e, r, ag⟩ := c_everyRow b hl c.2.1
  have bJ : Bas T A O J := bas_ag b (fun o j ho => ag o j (by omega))
  refine ⟨J, e, r, ag, bJ.2.2.2.1, fun k => ?_⟩
  obtain ⟨z, z1, z2, z3, z4, z5⟩ := m_findsNow bJ.1 bJ.2.1 hl bJ.2.2.2.2.1 bJ.2.2.2.1 bJ.2.2.2.2.2.2.2.2 k
  exact ⟨z, z1, z2, z4, z5, qs_evry b c r ag z3⟩
/-- one of the row's places -/
def rat (k : Int) (L : List Lf) (i : Int) : Int := match bl (key k) L with
  | none => -1
  | some m => if 0 ≤ i ∧ i < (m.2.2.1 : Int) then m.2.1 i.toNat else -1
theorem rat_none {k : Int} {L : List Lf} (h : bl (key k) L = none) (i : Int) : rat k L i = -1 := by unfold rat; rw [h]
theorem rat_some {k : Int} {L : List Lf} {m : Lf} (h : bl (key k) L = some m) (i : Int) : rat k L i = if 0 ≤ i ∧ i < (m.2.2.1 : Int) then m.2.1 i.toNat else -1 := by unfold rat; rw [h]
theorem rk_row (k : Rk T A R) {a t : Nat} (ha : a < 3) (ht : t < 8) (J : Mem) : ld T 20 (R + 7 + a) (t : Int) J = some (J (R + 7 + a) t) := by rw [ev_ld (k.2.2.2.2.2.2.1 a ha).2, if_pos (by omega), Int.toNat_natCast]
theorem c_rowAt (k : Rk T A R) {a : Nat} (ha : a < 3) {h0 : Int} {V : List Lf} (rc : RC R h0 V I) (i : Int) : f_X5_officialAt T A R (a : Int) i I = some (rat (kk a) V i) := by
  obtain ⟨k0, k1, k2, k3, k4, k5, k6, k7, k8, k9, k10⟩ := rk_ev k
  unfold f_X5_officialAt
  rw [if_pos k0, k7, some_bind, rc.1]
  cases hbl : bl (key (kk a)) V with
  | none =>
    have := (bl_nil _ _).mp hbl
    subst this
    rw [if_pos (by decide), rat_none hbl]
  | some m =>
    have hne : V ≠ [] := fun e => by rw [e] at hbl; exact absurd hbl (by simp [bl])
    have hlen : 0 < V.length := List.length_pos_iff.mpr hne
    obtain ⟨r1, r2, r3, r4⟩ := rc.2.1 a ha m hbl
    rw [if_neg (by omega), rat_some hbl]
    by_cases c1 : i < 0
    · rw [if_pos c1, if_neg (by omega)]
    · rw [if_neg c1, k4, some_bind, rk_ll k ha, some_bind, r2]
      by_cases c2 : i < (m.2.2.1 : Int)
      · obtain ⟨t, rfl⟩ := Int.eq_ofNat_of_zero_le (by omega : 0 ≤ i)
        rw [if_pos c2, if_pos (by omega), k5, some_bind, rk_lr k ha, some_bind, rk_row k ha (by omega), some_bind, r4 t (by omega), Int.toNat_natCast]
      · rw [if_neg c2, if_neg (by omega)]
theorem m_stepOf (h : Ag T A) {k : Int} {L : List Lf} {J : Mem} {z : Int × Mem} (e : f_X12_findsNow T A 129 k J = some z) (z1 : z.1 = bv k L) (hb1 : ∀ m, bl (key k) L = some m → 0 ≤ key k m) (rb : RMb k L z.2) (i : Int) : f_X12_stepOf T A 129 k i J = some (rat k L i, z.2) := by
  unfold f_X12_stepOf
  rw [if_pos (by rw [kT_129 h]), e, some_bind, z1]
  cases hbl : bl (key k) L with
  | none => rw [bv_none hbl, if_pos rfl, rat_none hbl]
  | some m =>
    obtain ⟨⟨b1, b0⟩, ⟨b2, b8⟩, b3, b4, b5⟩ := rb.2 m hbl
    rw [bv_some hbl, if_neg (by omega), show gi T 12 34 129 z.2 = some (z.2 129 34) by simp only [agMg h], some_bind, b2, isb_eq (by omega) (by omega), m_in, some_bind, rat_some hbl]
    by_cases c : 0 ≤ i ∧ i ≤ (m.2.2.1 : Int) - 1
    · obtain ⟨t, rfl⟩ := Int.eq_ofNat_of_zero_le c.1
      rw [if_pos c, if_neg (by decide), if_pos (by omega), show gr T A 12 39 129 = some 147 by simp only [agMg h], some_bind, ev_ld (kT_147 h), if_pos (by omega), some_bind, Int.toNat_natCast, b4 t (by omega)]
    · rw [if_neg c, if_pos rfl, if_neg (by omega)]
theorem ln_0 (wf : WF O) (hl : 0 < O 0 0) (g : LG O) {k : Int} : ∀ m, bl (key k) (Ln O) = some m → 0 ≤ key k m := fun m hm => (bv_0 wf (rt_ws (wn_ws wf hl g)) rfl rfl hm).1
theorem len_0 {L : List Lf} {k : Int} : bl (key k) L = none ↔ (L.length : Int) = 0 := by
  rw [bl_nil, ← List.length_eq_zero_iff]; omega
theorem s_soonest (b : Bas T A O I) (c : Cch O I) : Qs T A O I (f_X11_soonest T A 1 I) (fun J => f_X12_soonest T A 129 J) := by
  have b' := b
  obtain ⟨h, wf, hc, hm, g, ht, hn, k, hq⟩ := b
  have g2 : gr T A 11 2 1 = some 26 := by simp only [agX h]
  have pi' : ∀ q v (J : Mem), pi T 12 q 129 v J = some (mu J 129 q v) := fun q v J => by simp only [agMg h]
  have gi' : ∀ q (J : Mem), gi T 12 q 129 J = some (J 129 q) := fun q J => by simp only [agMg h]
  by_cases hl : 0 < O 0 0
  · obtain ⟨J, V, e, r, sm, ag, hmJ, mf⟩ := pre_soon b' c hl
    have hmJ0 := mw_fr hmJ (fr_0 J)
    obtain ⟨z, z1, z2, z3, z4, z5⟩ := mf 0
    refine ⟨bv 0 (Ln O), J, z.2, ?_, ?_, z5⟩
    · unfold f_X11_soonest
      rw [if_pos (by rw [kT_1 h]), g2, some_bind, c_isThere h hc, some_bind, if_pos hl, if_neg (by decide), e, some_bind]
      have e1 : f_X5_best T A 68 0 J = some (bv 0 V) := c_best (rk_68 h) (a := 0) (by decide) r
      dsimp only
      rw [e1, some_bind]
      unfold bv; rw [sm.2.1]
    · (try dsimp only)
      unfold f_X12_soonest
      rw [if_pos (by rw [kT_129 h]), pi', some_bind, m_isOffice h hmJ0, some_bind, if_pos hl, if_neg (by decide), z1, some_bind, z2]
  · refine qs_no b' c (v := -2) ?_ ?_
    · unfold f_X11_soonest
      rw [if_pos (by rw [kT_1 h]), g2, some_bind, c_isThere h hc, some_bind, if_neg hl, if_pos rfl]
    · (try dsimp only)
      unfold f_X12_soonest
      rw [if_pos (by rw [kT_129 h]), pi', some_bind, m_isOffice h (mw_fr hm (fr_0 I)), some_bind, if_neg hl, if_pos rfl]
theorem s_step (b : Bas T A O I) (c : Cch O I) (a1 : Int) : Qs T A O I (f_X11_step T A 1 a1 I) (fun J => f_X12_step T A 129 a1 J) := by
  have b' := b
  obtain ⟨h, wf, hc, hm, g, ht, hn, k, hq⟩ := b
  have g2 : gr T A 11 2 1 = some 26 := by simp only [agX h]
  have pi' : ∀ q v (J : Mem), pi T 12 q 129 v J = some (mu J 129 q v) := fun q v J => by simp only [agMg h]
  have gi' : ∀ q (J : Mem), gi T 12 q 129 J = some (J 129 q) := fun q J => by simp only [agMg h]
  by_cases hl : 0 < O 0 0
  · obtain ⟨J, V, e, r, sm, ag, hmJ, mf⟩ := pre_soon b' c hl
    have hmJ0 := mw_fr hmJ (fr_0 J)
    obtain ⟨z, z1, z2, z3, z4, z5⟩ := mf 0
    refine ⟨rat 0 (Ln O) a1, J, z.2, ?_, ?_, z5⟩
    · unfold f_X11_step
      rw [if_pos (by rw [kT_1 h]), g2, some_bind, c_isThere h hc, some_bind, if_pos hl, if_neg (by decide), e, some_bind]
      have e1 : f_X5_officialAt T A 68 0 a1 J = some (rat 0 V a1) := c_rowAt (rk_68 h) (a := 0) (by decide) r a1
      dsimp only
      rw [e1, some_bind]
      unfold rat; rw [sm.2.1]
    · (try dsimp only)
      unfold f_X12_step
      rw [if_pos (by rw [kT_129 h]), pi', some_bind, m_isOffice h hmJ0, some_bind, if_pos hl, if_neg (by decide), m_stepOf h z1 z2 (ln_0 wf hl g) z3 a1, some_bind]
  · refine qs_no b' c (v := -2) ?_ ?_
    · unfold f_X11_step
      rw [if_pos (by rw [kT_1 h]), g2, some_bind, c_isThere h hc, some_bind, if_neg hl, if_pos rfl]
    · (try dsimp only)
      unfold f_X12_step
      rw [if_pos (by rw [kT_129 h]), pi', some_bind, m_isOffice h (mw_fr hm (fr_0 I)), some_bind, if_neg hl, if_pos rfl]
theorem s_least (b : Bas T A O I) (c : Cch O I) : Qs T A O I (f_X11_least T A 1 I) (fun J => f_X12_least T A 129 J) := by
  have b' := b
  obtain ⟨h, wf, hc, hm, g, ht, hn, k, hq⟩ := b
  have g2 : gr T A 11 2 1 = some 26 := by simp only [agX h]
  have pi' : ∀ q v (J : Mem), pi T 12 q 129 v J = some (mu J 129 q v) := fun q v J => by simp only [agMg h]
  have gi' : ∀ q (J : Mem), gi T 12 q 129 J = some (J 129 q) := fun q J => by simp only [agMg h]
  by_cases hl : 0 < O 0 0
  · obtain ⟨J, e, r, ag, hmJ, mf⟩ := pre_evry b' c hl
    have hmJ0 := mw_fr hmJ (fr_0 J)
    obtain ⟨z, z1, z2, z3, z4, z5⟩ := mf 2
    refine ⟨bv 2 (Ln O), J, z.2, ?_, ?_, z5⟩
    · unfold f_X11_least
      rw [if_pos (by rw [kT_1 h]), g2, some_bind, c_isThere h hc, some_bind, if_pos hl, if_neg (by decide), e, some_bind]
      have e1 : f_X5_best T A 79 1 J = some (bv 2 (Ln O)) := c_best (rk_79 h) (a := 1) (by decide) r
      dsimp only
      rw [e1, some_bind]
    · (try dsimp only)
      unfold f_X12_least
      rw [if_pos (by rw [kT_129 h]), pi', some_bind, m_isOffice h hmJ0, some_bind, if_pos hl, if_neg (by decide), z1, some_bind, z2]
  · refine qs_no b' c (v := -2) ?_ ?_
    · unfold f_X11_least
      rw [if_pos (by rw [kT_1 h]), g2, some_bind, c_isThere h hc, some_bind, if_neg hl, if_pos rfl]
    · (try dsimp only)
      unfold f_X12_least
      rw [if_pos (by rw [kT_129 h]), pi', some_bind, m_isOffice h (mw_fr hm (fr_0 I)), some_bind, if_neg hl, if_pos rfl]
theorem s_cheapest (b : Bas T A O I) (c : Cch O I) : Qs T A O I (f_X11_cheapest T A 1 I) (fun J => f_X12_cheapest T A 129 J) := by
  have b' := b
  obtain ⟨h, wf, hc, hm, g, ht, hn, k, hq⟩ := b
  have g2 : gr T A 11 2 1 = some 26 := by simp only [agX h]
  have pi' : ∀ q v (J : Mem), pi T 12 q 129 v J = some (mu J 129 q v) := fun q v J => by simp only [agMg h]
  have gi' : ∀ q (J : Mem), gi T 12 q 129 J = some (J 129 q) := fun q J => by simp only [agMg h]
  by_cases hl : 0 < O 0 0
  · obtain ⟨J, e, r, ag, hmJ, mf⟩ := pre_evry b' c hl
    have hmJ0 := mw_fr hmJ (fr_0 J)
    obtain ⟨z, z1, z2, z3, z4, z5⟩ := mf 3
    refine ⟨bv 3 (Ln O), J, z.2, ?_, ?_, z5⟩
    · unfold f_X11_cheapest
      rw [if_pos (by rw [kT_1 h]), g2, some_bind, c_isThere h hc, some_bind, if_pos hl, if_neg (by decide), e, some_bind]
      have e1 : f_X5_best T A 79 2 J = some (bv 3 (Ln O)) := c_best (rk_79 h) (a := 2) (by decide) r
      dsimp only
      rw [e1, some_bind]
    · (try dsimp only)
      unfold f_X12_cheapest
      rw [if_pos (by rw [kT_129 h]), pi', some_bind, m_isOffice h hmJ0, some_bind, if_pos hl, if_neg (by decide), z1, some_bind, z2]
  · refine qs_no b' c (v := -2) ?_ ?_
    · unfold f_X11_cheapest
      rw [if_pos (by rw [kT_1 h]), g2, some_bind, c_isThere h hc, some_bind, if_neg hl, if_pos rfl]
    · (try dsimp only)
      unfold f_X12_cheapest
      rw [if_pos (by rw [kT_129 h]), pi', some_bind, m_isOffice h (mw_fr hm (fr_0 I)), some_bind, if_neg hl, if_pos rfl]
theorem s_tread (b : Bas T A O I) (c : Cch O I) (a1 : Int) : Qs T A O I (f_X11_tread T A 1 a1 I) (fun J => f_X12_tread T A 129 a1 J) := by
  have b' := b
  obtain ⟨h, wf, hc, hm, g, ht, hn, k, hq⟩ := b
  have g2 : gr T A 11 2 1 = some 26 := by simp only [agX h]
  have pi' : ∀ q v (J : Mem), pi T 12 q 129 v J = some (mu J 129 q v) := fun q v J => by simp only [agMg h]
  have gi' : ∀ q (J : Mem), gi T 12 q 129 J = some (J 129 q) := fun q J => by simp only [agMg h]
  by_cases hl : 0 < O 0 0
  · obtain ⟨J, e, r, ag, hmJ, mf⟩ := pre_evry b' c hl
    have hmJ0 := mw_fr hmJ (fr_0 J)
    obtain ⟨z, z1, z2, z3, z4, z5⟩ := mf 2
    refine ⟨rat 2 (Ln O) a1, J, z.2, ?_, ?_, z5⟩
    · unfold f_X11_tread
      rw [if_pos (by rw [kT_1 h]), g2, some_bind, c_isThere h hc, some_bind, if_pos hl, if_neg (by decide), e, some_bind]
      have e1 : f_X5_officialAt T A 79 1 a1 J = some (rat 2 (Ln O) a1) := c_rowAt (rk_79 h) (a := 1) (by decide) r a1
      dsimp only
      rw [e1, some_bind]
    · (try dsimp only)
      unfold f_X12_tread
      rw [if_pos (by rw [kT_129 h]), pi', some_bind, m_isOffice h hmJ0, some_bind, if_pos hl, if_neg (by decide), m_stepOf h z1 z2 (ln_0 wf hl g) z3 a1, some_bind]
  · refine qs_no b' c (v := -2) ?_ ?_
    · unfold f_X11_tread
      rw [if_pos (by rw [kT_1 h]), g2, some_bind, c_isThere h hc, some_bind, if_neg hl, if_pos rfl]
    · (try dsimp only)
      unfold f_X12_tread
      rw [if_pos (by rw [kT_129 h]), pi', some_bind, m_isOffice h (mw_fr hm (fr_0 I)), some_bind, if_neg hl, if_pos rfl]
theorem s_fewest (b : Bas T A O I) (c : Cch O I) : Qs T A O I (f_X11_fewest T A 1 I) (fun J => f_X12_fewest T A 129 J) := by
  have b' := b
  obtain ⟨h, wf, hc, hm, g, ht, hn, k, hq⟩ := b
  have g2 : gr T A 11 2 1 = some 26 := by simp only [agX h]
  have pi' : ∀ q v (J : Mem), pi T 12 q 129 v J = some (mu J 129 q v) := fun q v J => by simp only [agMg h]
  have gi' : ∀ q (J : Mem), gi T 12 q 129 J = some (J 129 q) := fun q J => by simp only [agMg h]
  by_cases hl : 0 < O 0 0
  · obtain ⟨J, e, r, ag, hmJ, mf⟩ := pre_evry b' c hl
    have hmJ0 := mw_fr hmJ (fr_0 J)
    obtain ⟨z, z1, z2, z3, z4, z5⟩ := mf 1
    refine ⟨bv 1 (Ln O), J, z.2, ?_, ?_, z5⟩
    · unfold f_X11_fewest
      rw [if_pos (by rw [kT_1 h]), g2, some_bind, c_isThere h hc, some_bind, if_pos hl, if_neg (by decide), e, some_bind]
      dsimp only
      rw [(rk_ev (rk_79 h)).2.2.2.2.2.2.2.1, some_bind]
      cases hbl : bl (key 1) (Ln O) with
      | none => rw [bv_none hbl, (r.2.2.2.2.1 ((bl_nil _ _).mp hbl)).1]
      | some m => rw [bv_some hbl, r.2.2.2.1 m hbl]; rfl
    · (try dsimp only)
      unfold f_X12_fewest
      rw [if_pos (by rw [kT_129 h]), pi', some_bind, m_isOffice h hmJ0, some_bind, if_pos hl, if_neg (by decide), z1, some_bind, z2]
  · refine qs_no b' c (v := -2) ?_ ?_
    · unfold f_X11_fewest
      rw [if_pos (by rw [kT_1 h]), g2, some_bind, c_isThere h hc, some_bind, if_neg hl, if_pos rfl]
    · (try dsimp only)
      unfold f_X12_fewest
      rw [if_pos (by rw [kT_129 h]), pi', some_bind, m_isOffice h (mw_fr hm (fr_0 I)), some_bind, if_neg hl, if_pos rfl]
theorem s_ways (b : Bas T A O I) (c : Cch O I) : Qs T A O I (f_X11_ways T A 1 I) (fun J => f_X12_ways T A 129 J) := by
  have b' := b
  obtain ⟨h, wf, hc, hm, g, ht, hn, k, hq⟩ := b
  have g2 : gr T A 11 2 1 = some 26 := by simp only [agX h]
  have pi' : ∀ q v (J : Mem), pi T 12 q 129 v J = some (mu J 129 q v) := fun q v J => by simp only [agMg h]
  have gi' : ∀ q (J : Mem), gi T 12 q 129 J = some (J 129 q) := fun q J => by simp only [agMg h]
  by_cases hl : 0 < O 0 0
  · obtain ⟨J, e, r, ag, hmJ, mf⟩ := pre_evry b' c hl
    have hmJ0 := mw_fr hmJ (fr_0 J)
    obtain ⟨z, z1, z2, z3, z4, z5⟩ := mf 4
    refine ⟨((Ln O).length : Int), J, z.2, ?_, ?_, z5⟩
    · unfold f_X11_ways
      rw [if_pos (by rw [kT_1 h]), g2, some_bind, c_isThere h hc, some_bind, if_pos hl, if_neg (by decide), e, some_bind]
      dsimp only
      rw [(rk_ev (rk_79 h)).2.2.2.2.2.2.2.1, some_bind, r.1]
    · (try dsimp only)
      unfold f_X12_ways
      rw [if_pos (by rw [kT_129 h]), pi', some_bind, m_isOffice h hmJ0, some_bind, if_pos hl, if_neg (by decide), z1, some_bind, gi', some_bind, (z4 rfl).1]
  · refine qs_no b' c (v := -2) ?_ ?_
    · unfold f_X11_ways
      rw [if_pos (by rw [kT_1 h]), g2, some_bind, c_isThere h hc, some_bind, if_neg hl, if_pos rfl]
    · (try dsimp only)
      unfold f_X12_ways
      rw [if_pos (by rw [kT_129 h]), pi', some_bind, m_isOffice h (mw_fr hm (fr_0 I)), some_bind, if_neg hl, if_pos rfl]
def rbs (p : Nat → Int) : Nat → Int
  | 0 => 0
  | i + 1 => ior (rbs p i) (ishl 1 (p i))
def whs (k : Int) (L : List Lf) : Int := match bl (key k) L with
  | none => -1
  | some m => rbs m.2.1 m.2.2.1
theorem whs_none {k : Int} {L : List Lf} (h : bl (key k) L = none) : whs k L = -1 := by unfold whs; rw [h]
theorem whs_some {k : Int} {L : List Lf} {m : Lf} (h : bl (key k) L = some m) : whs k L = rbs m.2.1 m.2.2.1 := by unfold whs; rw [h]
theorem c_ofs (k : Rk T A R) {a : Nat} (ha : a < 3) {h0 : Int} {V : List Lf} (rc : RC R h0 V I) : f_X5_officialsOf T A R (a : Int) I = some (whs (kk a) V) := by
  obtain ⟨k0, k1, k2, k3, k4, k5, k6, k7, k8, k9, k10⟩ := rk_ev k
  unfold f_X5_officialsOf
  rw [if_pos k0, k7, some_bind, rc.1]
  cases hbl : bl (key (kk a)) V with
  | none =>
    have := (bl_nil _ _).mp hbl
    subst this
    rw [if_pos (by rfl), whs_none hbl]
  | some m =>
    have hne : V ≠ [] := fun e => by rw [e] at hbl; exact absurd hbl (by simp [bl])
    have hlen : 0 < V.length := List.length_pos_iff.mpr hne
    obtain ⟨r1, r2, r3, r4⟩ := rc.2.1 a ha m hbl
    rw [if_neg (by omega), whs_some hbl, k4, k5]
    refine it_seq (fun i => (rbs m.2.1 i, (i : Int))) m.2.2.1 (fun i hi => ?_) ?_ FU (by unfold FU; omega)
    · dsimp only
      rw [some_bind, rk_ll k ha, some_bind, r2, if_pos (by omega), some_bind, rk_lr k ha, some_bind, rk_row k ha (by omega), some_bind, r4 i hi, ia_1 (by omega)]
      rfl
    · dsimp only
      rw [some_bind, rk_ll k ha, some_bind, r2, if_neg (by omega)]
theorem s_whom (b : Bas T A O I) (c : Cch O I) : Qs T A O I (f_X11_whom T A 1 I) (fun J => f_X12_whom T A 129 J) := by
  have b' := b
  obtain ⟨h, wf, hc, hm, g, ht, hn, k, hq⟩ := b
  have g2 : gr T A 11 2 1 = some 26 := by simp only [agX h]
  have pi' : ∀ q v (J : Mem), pi T 12 q 129 v J = some (mu J 129 q v) := fun q v J => by simp only [agMg h]
  have gi' : ∀ q (J : Mem), gi T 12 q 129 J = some (J 129 q) := fun q J => by simp only [agMg h]
  by_cases hl : 0 < O 0 0
  · obtain ⟨J, e, r, ag, hmJ, mf⟩ := pre_evry b' c hl
    have hmJ0 := mw_fr hmJ (fr_0 J)
    obtain ⟨z, z1, z2, z3, z4, z5⟩ := mf 3
    refine ⟨whs 3 (Ln O), J, z.2, ?_, ?_, z5⟩
    · unfold f_X11_whom
      rw [if_pos (by rw [kT_1 h]), g2, some_bind, c_isThere h hc, some_bind, if_pos hl, if_neg (by decide), e, some_bind]
      have e1 : f_X5_officialsOf T A 79 2 J = some (whs 3 (Ln O)) := c_ofs (rk_79 h) (a := 2) (by decide) r
      dsimp only
      rw [e1, some_bind]
    · (try dsimp only)
      unfold f_X12_whom
      rw [if_pos (by rw [kT_129 h]), pi', some_bind, m_isOffice h hmJ0, some_bind, if_pos hl, if_neg (by decide), z1, some_bind, z2]
      cases hbl : bl (key 3) (Ln O) with
      | none => rw [bv_none hbl, if_pos rfl, whs_none hbl]
      | some m =>
        obtain ⟨⟨b1, b0⟩, ⟨b2, b8⟩, b3, b4, b5⟩ := z3.2 m hbl
        rw [bv_some hbl, if_neg (by omega), whs_some hbl, gi', b2, show gr T A 12 39 129 = some 147 by simp only [agMg h]]
        refine it_seq (fun i => (rbs m.2.1 i, (i : Int))) m.2.2.1 (fun i hi => ?_) ?_ FU (by unfold FU; omega)
        · dsimp only
          rw [some_bind, if_pos (by omega), some_bind, ev_ld (kT_147 h), if_pos (by omega), some_bind, Int.toNat_natCast, b4 i hi, ia_1 (by omega)]
          rfl
        · dsimp only
          rw [some_bind, if_neg (by omega)]
  · refine qs_no b' c (v := -2) ?_ ?_
    · unfold f_X11_whom
      rw [if_pos (by rw [kT_1 h]), g2, some_bind, c_isThere h hc, some_bind, if_neg hl, if_pos rfl]
    · (try dsimp only)
      unfold f_X12_whom
      rw [if_pos (by rw [kT_129 h]), pi', some_bind, m_isOffice h (mw_fr hm (fr_0 I)), some_bind, if_neg hl, if_pos rfl]
theorem s_always (b : Bas T A O I) (c : Cch O I) (a1 : Int) : Qs T A O I (f_X11_always T A 1 a1 I) (fun J => f_X12_always T A 129 a1 J) := by
  have b' := b
  obtain ⟨h, wf, hc, hm, g, ht, hn, k, hq⟩ := b
  have g2 : gr T A 11 2 1 = some 26 := by simp only [agX h]
  have pi' : ∀ q v (J : Mem), pi T 12 q 129 v J = some (mu J 129 q v) := fun q v J => by simp only [agMg h]
  have gi' : ∀ q (J : Mem), gi T 12 q 129 J = some (J 129 q) := fun q J => by simp only [agMg h]
  have k7 := (rk_ev (rk_79 h)).2.2.2.2.2.2.2.1
  by_cases hl : 0 < O 0 0
  · by_cases d : 0 ≤ a1 ∧ a1 ≤ 1
    · obtain ⟨J, e, r, ag, hmJ, mf⟩ := pre_evry b' c hl
      have hmJ0 := mw_fr hmJ (fr_0 J)
      obtain ⟨z, z1, z2, z3, z4, z5⟩ := mf 4
      obtain ⟨w1, w2, w3⟩ := z4 rfl
      refine ⟨if (Ln O) = [] then 0 else if a1 = 0 then allS (Hn O) (Ln O) else somS (Hn O) (Ln O), J, z.2, ?_, ?_, z5⟩
      · unfold f_X11_always
        rw [if_pos (by rw [kT_1 h]), g2, some_bind, c_isThere h hc, some_bind, if_pos hl, if_neg (by decide), f_isBit1, some_bind, if_pos d, if_neg (by decide), e]
        try dsimp only
        by_cases q : a1 = 0
        · rw [if_pos q, some_bind, k7, some_bind]
          dsimp only
          by_cases p : Ln O = []
          · rw [if_pos p, (r.2.2.2.2.1 p).2]
          · rw [if_neg p, if_pos q, r.2.2.2.2.2.1 p]
        · rw [if_neg q, some_bind, k7, some_bind]
          dsimp only
          rw [r.2.2.2.2.2.2]
          by_cases p : Ln O = []
          · rw [if_pos p, p]; rfl
          · rw [if_neg p, if_neg q]
      · (try dsimp only)
        unfold f_X12_always
        rw [if_pos (by rw [kT_129 h]), pi', some_bind, m_isOffice h hmJ0, some_bind, if_pos hl, if_neg (by decide), m_in, some_bind, if_pos d, if_neg (by decide), z1, some_bind, gi', some_bind, w1]
        by_cases p : Ln O = []
        · rw [if_pos (by rw [p]; rfl), if_pos p]
        · rw [if_neg (fun q => p (List.length_eq_zero_iff.mp (by omega))), if_neg p]
          by_cases q : a1 = 0
          · rw [if_pos q, if_pos q, gi', some_bind, w2]
          · rw [if_neg q, if_neg q, gi', some_bind, w3]
    · refine qs_no b' c (v := -2) ?_ ?_
      · unfold f_X11_always
        rw [if_pos (by rw [kT_1 h]), g2, some_bind, c_isThere h hc, some_bind, if_pos hl, if_neg (by decide), f_isBit1, some_bind, if_neg d, if_pos rfl]
      · (try dsimp only)
        unfold f_X12_always
        rw [if_pos (by rw [kT_129 h]), pi', some_bind, m_isOffice h (mw_fr hm (fr_0 I)), some_bind, if_pos hl, if_neg (by decide), m_in, some_bind, if_neg d, if_pos rfl]
  · refine qs_no b' c (v := -2) ?_ ?_
    · unfold f_X11_always
      rw [if_pos (by rw [kT_1 h]), g2, some_bind, c_isThere h hc, some_bind, if_neg hl, if_pos rfl]
    · (try dsimp only)
      unfold f_X12_always
      rw [if_pos (by rw [kT_129 h]), pi', some_bind, m_isOffice h (mw_fr hm (fr_0 I)), some_bind, if_neg hl, if_pos rfl]
end
