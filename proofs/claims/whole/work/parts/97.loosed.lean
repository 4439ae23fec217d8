/-! B: loose, loosely. -/
def stt (t : Nat → R3) : Nat → Nat
  | 0 => 0
  | k + 1 => jn (stt t k) (t (stt t k)).2.2.toNat
section
variable {T : Knd} {A : Rfs} {O : Ofc} {I : Mem}
theorem stt_in (wf : WF O) {t : Nat → R3} {D : Nat → Int} (E : ∀ s, s < 2 ^ oN O → En O t D s) : ∀ k : Nat, (k : Int) ≤ (t 0).2.1 → stt t k < 2 ^ oN O ∧ (t (stt t k)).2.1 = (t 0).2.1 - k := by
  obtain ⟨hn, en⟩ := on_le wf
  have hp := pw_le hn
  intro k
  induction k with
  | zero => intro _; exact ⟨by show 0 < 2 ^ oN O; omega, by show (t 0).2.1 = (t 0).2.1 - 0; omega⟩
  | succ k ih =>
    intro hk
    obtain ⟨i1, i2⟩ := ih (by omega)
    obtain ⟨e1, e2, e3, e4, e5⟩ := E _ i1
    cases hx : pok O (stt t k)
    · obtain ⟨p, p1, p2, p3, p4, p5, p6⟩ := e5 hx
      obtain ⟨l1, l2, l3⟩ := jn_lt hn i1 p2 p3
      have ee : stt t (k + 1) = jn (stt t k) p := by rw [stt, p1, Int.toNat_natCast]
      rw [ee]
      exact ⟨l2, by omega⟩
    · have := e4 hx
      have h0 : (t (stt t k)).2.1 = 0 := by rw [this]
      omega
theorem stt_pk (wf : WF O) {t : Nat → R3} {D : Nat → Int} (E : ∀ s, s < 2 ^ oN O → En O t D s) {k : Nat} (hk : (k : Int) < (t 0).2.1) : pok O (stt t k) = false ∧ ∃ p : Nat, (t (stt t k)).2.2 = (p : Int) ∧ p < oN O ∧ hb (stt t k : Int) p = false ∧ ior (stt t k : Int) (ishl 1 (p : Int)) = (stt t (k + 1) : Int) ∧ ia (ia (im 16 (ia (dpa O (stt t k) p) (dpb O (stt t k) p))) 1) (D (jn (stt t k) p)) = D (stt t k) ∧ ∀ j, j < p → hb (stt t k : Int) j = false → ia (ia (im 16 (ia (dpa O (stt t k) j) (dpb O (stt t k) j))) 1) (D (jn (stt t k) j)) ≠ D (stt t k) := by
  obtain ⟨hn, en⟩ := on_le wf
  obtain ⟨i1, i2⟩ := stt_in wf E k (by omega)
  obtain ⟨e1, e2, e3, e4, e5⟩ := E _ i1
  cases hx : pok O (stt t k)
  · obtain ⟨p, p1, p2, p3, p4, p5, p6⟩ := e5 hx
    obtain ⟨l1, l2, l3⟩ := jn_lt hn i1 p2 p3
    exact ⟨rfl, p, p1, p2, p3, by rw [l3, stt, p1, Int.toNat_natCast], p5, p6⟩
  · have := e4 hx
    have h0 : (t (stt t k)).2.1 = 0 := by rw [this]
    omega
theorem pre_l (b : Bas T A O I) {J : Mem} (f : Fo 108 110 I J) : MW O 0 (mu J 129 0 0) ∧ FX I (mu J 129 0 0) ∧ CV O 26 J := by
  obtain ⟨h, wf, hc, hm, g, ht, hnx, k, hq⟩ := b
  exact ⟨mw_ag hm (fun a b d1 d2 => by rw [mu_o _ _ (by omega)]; exact f a b (by omega)), fx_t (fx_fo f (Or.inr (Or.inl ⟨by decide, by decide⟩))) (fx_fr (fr_0 J)), cv_fo hc f (by omega)⟩
theorem fr_151 {I J : Mem} (hF : Fo 151 151 I J) : Fr I J := by
  intro o k hk
  refine hF o k ?_
  rcases Nat.lt_trichotomy o 151 with g | g | g
  · exact Or.inl g
  · rw [g] at hk
    exact absurd hk (by unfold scr; simp)
  · exact Or.inr g
theorem q_loose (b : Bas T A O I) : Quiet2 (f_X11_loose T A 1 I) (fun J => f_X12_loose T A 129 J) I := by
  have b' := b
  obtain ⟨h, wf, hc, hm, g, ht, hnx, k, hq⟩ := b
  obtain ⟨hn, en⟩ := on_le wf
  have hp := pw_le hn
  have pi' : ∀ q v (J : Mem), pi T 12 q 129 v J = some (mu J 129 q v) := fun q v J => by simp only [agMg h]
  obtain ⟨k0, k1, k2, k3⟩ := q107 h
  unfold f_X11_loose f_X12_loose
  rw [if_pos (show (T 1).1 = 11 by rw [kT_1 h]), show gr T A 11 2 1 = some 26 by simp only [agX h], show gr T A 11 10 1 = some 107 by simp only [agX h], some_bind, c_isThere h hc, some_bind]
  simp only [if_pos (show (T 129).1 = 12 by rw [kT_129 h]), pi', some_bind]
  by_cases c1 : 0 < O 0 0
  · obtain ⟨J, eJ, j1, j2⟩ := c_weigh h wf hc
    obtain ⟨p1, p2, p3⟩ := pre_l b' j2
    obtain ⟨K, eK, e1, e2⟩ := m_laysDrops h wf p1
    have E := fun s hs => en_all wf j1 e1 _ s hs (Nat.le_refl _)
    have E0 := E 0 (by omega)
    have r := scn_rg (hb ((0 : Nat) : Int)) 8
    refine ⟨(tb3 J 0).1, J, K, ?_, ?_, fx_t p2 (fx_fr (fr_151 e2))⟩
    · rw [if_pos c1, if_neg (by decide), eJ, some_bind]
      unfold f_X1_dropped
      rw [if_pos k0, k1, some_bind, ev_ld (kT_108 h), if_pos (by decide), some_bind, some_bind]
      rfl
    · (try dsimp only)
      rw [m_isOffice h p1, some_bind, if_pos c1, if_neg (by decide), eK, some_bind, show gr T A 12 46 129 = some 151 by simp only [agMg h], some_bind, ev_ld (kT_151 h), if_pos (by decide), some_bind, show dvz 16 = some () from rfl, some_bind]
      have ed : K 151 (0 : Int).toNat = 16 * (tb3 J 0).1 + (tb3 J 0).2.1 := E0.2.2.1
      have r1 := E0.1
      have r2 := E0.2.1
      rw [ed, i32_div (by omega) (by omega) (by decide) (by decide)]
      congr 2
      omega
  · refine ⟨-2, I, mu I 129 0 0, ?_, ?_, fx_fr (fr_0 I)⟩
    · rw [if_neg c1, if_pos rfl]
    · (try dsimp only)
      rw [m_isOffice h (mw_fr hm (fr_0 I)), some_bind, if_neg c1, if_pos rfl]
theorem q_loosely (b : Bas T A O I) (a1 : Int) : Quiet2 (f_X11_loosely T A 1 a1 I) (fun J => f_X12_loosely T A 129 a1 J) I := by
  have b' := b
  obtain ⟨h, wf, hc, hm, g, ht, hnx, k, hq⟩ := b
  obtain ⟨hn, en⟩ := on_le wf
  have hp := pw_le hn
  have pi' : ∀ q v (J : Mem), pi T 12 q 129 v J = some (mu J 129 q v) := fun q v J => by simp only [agMg h]
  obtain ⟨k0, k1, k2, k3⟩ := q107 h
  unfold f_X11_loosely f_X12_loosely
  rw [if_pos (show (T 1).1 = 11 by rw [kT_1 h]), show gr T A 11 2 1 = some 26 by simp only [agX h], show gr T A 11 10 1 = some 107 by simp only [agX h], some_bind, c_isThere h hc, some_bind]
  simp only [if_pos (show (T 129).1 = 12 by rw [kT_129 h]), pi', some_bind]
  by_cases c1 : 0 < O 0 0
  · obtain ⟨J, eJ, j1, j2⟩ := c_weigh h wf hc
    obtain ⟨p1, p2, p3⟩ := pre_l b' j2
    obtain ⟨K, eK, e1, e2⟩ := m_laysDrops h wf p1
    have E := fun s hs => en_all wf j1 e1 _ s hs (Nat.le_refl _)
    have E0 := E 0 (by omega)
    have r := scn_rg (hb ((0 : Nat) : Int)) 8
    obtain ⟨t, et⟩ : ∃ t, t = tb3 J := ⟨_, rfl⟩
    rw [← et] at E E0
    have r2 := E0.2.1
    obtain ⟨L, eL⟩ := Int.eq_ofNat_of_zero_le r2.1
    have t8 : ∀ x, J 110 x = (t x).2.2 := fun x => by rw [et]; rfl
    have hmK : MW O 0 K := mw_ag p1 (fun a b d1 d2 => e2 a b (by omega))
    refine ⟨if 0 ≤ a1 ∧ a1 < (L : Int) then (t (stt t a1.toNat)).2.2 else -1, J, K, ?_, ?_, fx_t p2 (fx_fr (fr_151 e2))⟩
    · rw [if_pos c1, if_neg (by decide), eJ, some_bind]
      unfold f_X1_officialAt
      rw [if_pos k0]
      by_cases d1 : a1 < 0
      · rw [if_pos d1, if_neg (by omega), some_bind]
      · rw [if_neg d1, k2, k3, some_bind, ev_ld (kT_109 h), if_pos (by decide), some_bind, show J 109 (0 : Int).toNat = (t 0).2.1 by rw [et]; rfl, eL]
        by_cases d2 : a1 < (L : Int)
        · obtain ⟨i, rfl⟩ := Int.eq_ofNat_of_zero_le (by omega : 0 ≤ a1)
          rw [if_pos d2, if_pos ⟨by omega, d2⟩, Int.toNat_natCast]
          have s1 := stt_in wf E i (by omega)
          refine (congrArg (fun o => Option.bind o _) (ok_eq (v := (t (stt t i)).2.2) ?_)).trans ?_
          · refine ok_tn (it_run (fun k (x : Int × Int) => x.1 = (stt t k : Int) ∧ x.2 = (k : Int)) i ?_ ?_ 0 FU _ (by omega) (by unfold FU; omega) ⟨rfl, rfl⟩)
            · rintro k ⟨x1, x2⟩ hk ⟨rfl, rfl⟩
              try dsimp only
              have s2 := stt_in wf E k (by omega)
              obtain ⟨q0, p, q1, q2, q3, q4, q5, q6⟩ := stt_pk wf E (k := k) (by omega)
              rw [if_pos (by omega), if_pos (by omega), some_bind, ev_ld (kT_110 h), if_pos (by omega), some_bind, Int.toNat_natCast, t8, q1, if_neg (by omega), some_bind, ev_ld (kT_110 h), if_pos (by omega), some_bind, Int.toNat_natCast, t8, q1, q4, ia_1 (by omega)]
              exact ok_i ⟨rfl, rfl⟩
            · rintro ⟨x1, x2⟩ ⟨rfl, rfl⟩
              try dsimp only
              rw [if_neg (by omega)]
              refine ok_i ?_
              show OK _ _
              try dsimp only
              rw [if_pos (by omega), some_bind, ev_ld (kT_110 h), if_pos (by omega), some_bind, Int.toNat_natCast, t8]
              exact ok_i rfl
          · rw [some_bind]
        · rw [if_neg d2, if_neg (by omega), some_bind]
    · (try dsimp only)
      rw [m_isOffice h p1, some_bind, if_pos c1, if_neg (by decide), eK, some_bind, show gr T A 12 17 129 = some 136 by simp only [agMg h], show gr T A 12 46 129 = some 151 by simp only [agMg h]]
      have pokd : ∀ s, (pok O s = true ↔ iand (O 0 5) (ixor (s : Int) (-1)) = 0) := fun s => decide_eq_true_iff
      have inner : ∀ k : Nat, (k : Int) < (L : Int) → ∀ {Y : Type} (fn : Int → Option ((Int × Int) ⊕ Y)), thn (it (fun (s18 : Int) => (f_X12_isBit T A (stt t k : Int) s18 K).bind fun e20 => if e20 = 0 then (f_X12_dropsBy T A 129 s18 (stt t k : Int) K).bind fun e23 => (some 151).bind fun x26 => (ld T 20 x26 (stt t k : Int) K).bind fun x27 => if e23 = x27 then some (.inr (.inl s18) : Int ⊕ (Int ⊕ ((Int × Int) ⊕ Y))) else some (.inl (ia s18 1)) else some (.inl (ia s18 1))) FU 0) fn = fn (t (stt t k)).2.2 := fun k hk Y fn => by
        obtain ⟨q0, p, q1, q2, q3, q4, q5, q6⟩ := stt_pk wf E (k := k) (by omega)
        have s2 := stt_in wf E k (by omega)
        have dK : ∀ x, tb1 K x = K 151 x := fun _ => rfl
        rw [q1]
        have l : it (fun (s18 : Int) => (f_X12_isBit T A (stt t k : Int) s18 K).bind fun e20 => if e20 = 0 then (f_X12_dropsBy T A 129 s18 (stt t k : Int) K).bind fun e23 => (some 151).bind fun x26 => (ld T 20 x26 (stt t k : Int) K).bind fun x27 => if e23 = x27 then some (.inr (.inl s18) : Int ⊕ (Int ⊕ ((Int × Int) ⊕ Y))) else some (.inl (ia s18 1)) else some (.inl (ia s18 1))) FU ((0 : Nat) : Int) = some (.inl (p : Int)) := by
          refine it_seq (fun j => (j : Int)) p (fun j hj => ?_) ?_ FU (by unfold FU; omega)
          · try dsimp only
            rw [f_isBit (by omega), some_bind, ia_1 (by omega)]
            cases hx : hb (stt t k : Int) j
            · have ne := q6 j hj hx
              rw [if_pos (show (if false = true then (1 : Int) else 0) = 0 from rfl), m_dropsBy h wf hmK s2.1 (by omega) hx, some_bind, some_bind, ev_ld (kT_151 h), if_pos (by omega), some_bind, Int.toNat_natCast]
              exact if_neg ne
            · rw [if_neg (show ¬ (if true = true then (1 : Int) else 0) = 0 by decide)]
          · try dsimp only
            rw [f_isBit (by omega), some_bind, q3, if_pos (show (if false = true then (1 : Int) else 0) = 0 from rfl), m_dropsBy h wf hmK s2.1 q2 q3, some_bind, some_bind, ev_ld (kT_151 h), if_pos (by omega), some_bind, Int.toNat_natCast]
            exact if_pos q5
        exact (congrArg (fun o => thn o fn) l).trans (thn_l _ _)
      refine ok_eq ?_
      by_cases d : 0 ≤ a1 ∧ a1 < (L : Int)
      · obtain ⟨i, rfl⟩ := Int.eq_ofNat_of_zero_le d.1
        rw [if_pos d, Int.toNat_natCast]
        refine it_run (fun k (x : Int × Int) => x.1 = (stt t k : Int) ∧ x.2 = (k : Int)) i ?_ ?_ 0 FU _ (by omega) (by unfold FU; omega) ⟨rfl, rfl⟩
        · rintro k ⟨x1, x2⟩ hk ⟨rfl, rfl⟩
          try dsimp only
          obtain ⟨q0, p, q1, q2, q3, q4, q5, q6⟩ := stt_pk wf E (k := k) (by omega)
          rw [some_bind, m_h4 h hmK, some_bind, if_neg (fun e => by rw [(pokd _).mpr e] at q0; exact absurd q0 (by decide)), inner k (by omega), if_neg (by omega), q1, q4, ia_1 (by omega)]
          exact ok_i ⟨rfl, rfl⟩
        · rintro ⟨x1, x2⟩ ⟨rfl, rfl⟩
          try dsimp only
          obtain ⟨q0, p, q1, q2, q3, q4, q5, q6⟩ := stt_pk wf E (k := i) (by omega)
          rw [some_bind, m_h4 h hmK, some_bind, if_neg (fun e => by rw [(pokd _).mpr e] at q0; exact absurd q0 (by decide)), inner i (by omega), if_pos rfl]
          exact ok_i rfl
      · rw [if_neg d]
        refine it_run (fun k (x : Int × Int) => x.1 = (stt t k : Int) ∧ x.2 = (k : Int)) L ?_ ?_ 0 FU _ (by omega) (by unfold FU; omega) ⟨rfl, rfl⟩
        · rintro k ⟨x1, x2⟩ hk ⟨rfl, rfl⟩
          try dsimp only
          obtain ⟨q0, p, q1, q2, q3, q4, q5, q6⟩ := stt_pk wf E (k := k) (by omega)
          rw [some_bind, m_h4 h hmK, some_bind, if_neg (fun e => by rw [(pokd _).mpr e] at q0; exact absurd q0 (by decide)), inner k (by omega), if_neg (by omega), q1, q4, ia_1 (by omega)]
          exact ok_i ⟨rfl, rfl⟩
        · rintro ⟨x1, x2⟩ ⟨rfl, rfl⟩
          try dsimp only
          obtain ⟨i1, i2⟩ := stt_in wf E L (by omega)
          obtain ⟨y1, y2, y3, y4, y5⟩ := E _ i1
          have hx : pok O (stt t L) = true := by
            cases hx : pok O (stt t L)
            · obtain ⟨p, q1, q2, q3, q4, q5, q6⟩ := y5 hx
              obtain ⟨l1, l2, l3⟩ := jn_lt hn i1 q2 q3
              have := (E _ l2).2.1
              omega
            · rfl
          rw [some_bind, m_h4 h hmK, some_bind, if_pos ((pokd _).mp hx)]
          exact ok_i rfl
  · refine ⟨-2, I, mu I 129 0 0, ?_, ?_, fx_fr (fr_0 I)⟩
    · rw [if_neg c1, if_pos rfl]
    · (try dsimp only)
      rw [m_isOffice h (mw_fr hm (fr_0 I)), some_bind, if_neg c1, if_pos rfl]
end
