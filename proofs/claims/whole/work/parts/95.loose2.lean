/-! B: both tables of what is to be dropped, and how they hold together. -/
def entC (O : Ofc) (t : Nat → R3) (s : Nat) : R3 := if pok O s = true then (0, 0, -1) else pkf O t s (oN O)
def entM (O : Ofc) (D : Nat → Int) (s : Nat) : Int := if pok O s = true then 0 else dkf O D s (oN O)
theorem i32_div {a b : Int} (h0 : 0 ≤ a) (h1 : a < 2147483648) (h2 : 0 < b) (h3 : b < 2147483648) : idv a b = a / b := by
  unfold idv
  rw [← Int32.ofInt_tdiv (by show -2147483648 ≤ a; omega) (by show a ≤ 2147483647; omega) (by show -2147483648 ≤ b; omega) (by show b ≤ 2147483647; omega)]
  have hq : a.tdiv b = a / b := Int.tdiv_eq_ediv_of_nonneg h0
  rw [hq]
  have q0 : 0 ≤ a / b := Int.ediv_nonneg h0 (by omega)
  have q1 : a / b ≤ a := Int.ediv_le_self _ h0
  exact Int32.toInt_ofInt_of_le (by omega) (by omega)
theorem scn_jn : ∀ s : Nat, s < 256 → ∀ i : Nat, i < 8 → hb (s : Int) i = false → scn (hb (jn s i : Int)) 8 = scn (hb (s : Int)) 8 + 1 := by decide +kernel
/-- the entries' ranges, and what the reference's says of the class's -/
def En (O : Ofc) (t : Nat → R3) (D : Nat → Int) (s : Nat) : Prop := (0 ≤ (t s).1 ∧ (t s).1 ≤ 16 * (8 - scn (hb (s : Int)) 8)) ∧ (0 ≤ (t s).2.1 ∧ (t s).2.1 ≤ 8 - scn (hb (s : Int)) 8) ∧ D s = 16 * (t s).1 + (t s).2.1 ∧ (pok O s = true → t s = (0, 0, -1)) ∧ (pok O s = false → ∃ p : Nat, (t s).2.2 = (p : Int) ∧ p < oN O ∧ hb (s : Int) p = false ∧ (t s).2.1 = (t (jn s p)).2.1 + 1 ∧ ia (ia (im 16 (ia (dpa O s p) (dpb O s p))) 1) (D (jn s p)) = D s ∧ ∀ j, j < p → hb (s : Int) j = false → ia (ia (im 16 (ia (dpa O s j) (dpb O s j))) 1) (D (jn s j)) ≠ D s)
/-- along the officials of one set -/
def Pg (O : Ofc) (t : Nat → R3) (D : Nat → Int) (s i : Nat) : Prop := ((pkf O t s i).2.2 = -1 ∧ dkf O D s i = 100000 ∧ ∀ j, j < i → hb (s : Int) j = true) ∨ ((0 ≤ (pkf O t s i).1 ∧ (pkf O t s i).1 ≤ 16 * (8 - scn (hb (s : Int)) 8)) ∧ (0 ≤ (pkf O t s i).2.1 ∧ (pkf O t s i).2.1 ≤ 8 - scn (hb (s : Int)) 8) ∧ dkf O D s i = 16 * (pkf O t s i).1 + (pkf O t s i).2.1 ∧ ∃ p : Nat, (pkf O t s i).2.2 = (p : Int) ∧ p < i ∧ hb (s : Int) p = false ∧ (pkf O t s i).2.1 = (t (jn s p)).2.1 + 1 ∧ ia (ia (im 16 (ia (dpa O s p) (dpb O s p))) 1) (D (jn s p)) = dkf O D s i ∧ (∀ j, j < p → hb (s : Int) j = false → dkf O D s i < ia (ia (im 16 (ia (dpa O s j) (dpb O s j))) 1) (D (jn s j))) ∧ ∀ j, j < i → hb (s : Int) j = false → dkf O D s i ≤ ia (ia (im 16 (ia (dpa O s j) (dpb O s j))) 1) (D (jn s j)))
theorem pg_step {O : Ofc} {t : Nat → R3} {D : Nat → Int} {s i : Nat} (hs : s < 256) (hi : i < 8) (g : Pg O t D s i) (hj : hb (s : Int) i = false → (0 ≤ (t (jn s i)).1 ∧ (t (jn s i)).1 ≤ 16 * (8 - scn (hb (jn s i : Int)) 8)) ∧ (0 ≤ (t (jn s i)).2.1 ∧ (t (jn s i)).2.1 ≤ 8 - scn (hb (jn s i : Int)) 8) ∧ D (jn s i) = 16 * (t (jn s i)).1 + (t (jn s i)).2.1) : Pg O t D s (i + 1) := by
  cases hx : hb (s : Int) i
  · obtain ⟨⟨a1, a2⟩, ⟨b1, b2⟩, e⟩ := hj hx
    have ej := scn_jn s hs i hi hx
    have r := scn_rg (hb (s : Int)) 8
    have da := scn_rg (hb (iand (O 12 i) (ixor (s : Int) (-1)))) 8
    have db := scn_rg (hb (iand (O 13 i) (s : Int))) 8
    obtain ⟨x, ex⟩ : ∃ x, x = dpa O s i := ⟨_, rfl⟩
    obtain ⟨y, ey⟩ : ∃ y, y = dpb O s i := ⟨_, rfl⟩
    obtain ⟨n, en⟩ : ∃ n, n = scn (hb (s : Int)) 8 := ⟨_, rfl⟩
    obtain ⟨n', en'⟩ : ∃ n, n = scn (hb (jn s i : Int)) 8 := ⟨_, rfl⟩
    obtain ⟨⟨c, l, p⟩, eq⟩ : ∃ q, q = pkf O t s i := ⟨_, rfl⟩
    obtain ⟨d, ed⟩ : ∃ d, d = dkf O D s i := ⟨_, rfl⟩
    obtain ⟨⟨tc, tl, tp⟩, et⟩ : ∃ q, q = t (jn s i) := ⟨_, rfl⟩
    obtain ⟨Dj, eD⟩ : ∃ q, q = D (jn s i) := ⟨_, rfl⟩
    have hx8 : 0 ≤ x ∧ x ≤ 8 := by rw [ex]; exact da
    have hy8 : 0 ≤ y ∧ y ≤ 8 := by rw [ey]; exact db
    rw [← et] at a1 a2 b1 b2
    rw [← en'] at a2 b2
    rw [← en, ← en'] at ej
    rw [← en] at r
    rw [← eD, ← et] at e
    dsimp only at a1 a2 b1 b2 e
    have f1 : ia (ia tc x) y = tc + x + y := by rw [show ia tc x = tc + x from ia_eq (by omega) (by omega), ia_eq (by omega) (by omega)]
    have f2 : ia tl 1 = tl + 1 := ia_eq (by omega) (by omega)
    have f3 : ia (ia (im 16 (ia x y)) 1) Dj = 16 * (tc + x + y) + (tl + 1) := by
      rw [show ia x y = x + y from ia_eq (by omega) (by omega), show im 16 (x + y) = 16 * (x + y) from im_eq (by omega) (by omega), show ia (16 * (x + y)) 1 = 16 * (x + y) + 1 from ia_eq (by omega) (by omega), ia_eq (by omega) (by omega)]
      omega
    have f3' : ia (ia (im 16 (ia (dpa O s i) (dpb O s i))) 1) (D (jn s i)) = 16 * (tc + x + y) + (tl + 1) := by rw [← ex, ← ey, ← eD]; exact f3
    have st : pkf O t s (i + 1) = if p = -1 ∨ (tc + x + y < c ∨ (tc + x + y = c ∧ tl + 1 < l)) then (tc + x + y, tl + 1, (i : Int)) else (c, l, p) := by
      rw [pkf, ← eq]
      unfold pnx
      rw [hx, if_neg (by decide), ← et, ← ex, ← ey]
      dsimp only
      rw [f1, f2]
    have sd : dkf O D s (i + 1) = if 16 * (tc + x + y) + (tl + 1) < d then 16 * (tc + x + y) + (tl + 1) else d := by
      rw [dkf, ← ed]
      unfold dnx
      rw [hx, if_neg (by decide), f3']
    unfold Pg at g ⊢
    rw [← eq, ← ed, ← en] at g
    rw [st, sd, ← en]
    dsimp only at g
    rcases g with ⟨g1, g2, g3⟩ | ⟨⟨g1, g2⟩, ⟨g3, g4⟩, g5, pp, g6, g7, g8, g9, g10, g11, g12⟩
    · right
      rw [if_pos (Or.inl g1), if_pos (by omega)]
      refine ⟨⟨by show 0 ≤ tc + x + y; omega, by show tc + x + y ≤ _; omega⟩, ⟨by show 0 ≤ tl + 1; omega, by show tl + 1 ≤ _; omega⟩, rfl, i, rfl, by omega, hx, by rw [← et], f3', fun j h1 h2 => absurd (g3 j h1) (by rw [h2]; decide), fun j h1 h2 => ?_⟩
      by_cases ec : j = i
      · subst ec; rw [f3']; omega
      · exact absurd (g3 j (by omega)) (by rw [h2]; decide)
    · right
      by_cases q : tc + x + y < c ∨ (tc + x + y = c ∧ tl + 1 < l)
      · rw [if_pos (Or.inr q), if_pos (by omega)]
        refine ⟨⟨by show 0 ≤ tc + x + y; omega, by show tc + x + y ≤ _; omega⟩, ⟨by show 0 ≤ tl + 1; omega, by show tl + 1 ≤ _; omega⟩, rfl, i, rfl, by omega, hx, by rw [← et], f3', fun j h1 h2 => ?_, fun j h1 h2 => ?_⟩
        · have := g12 j h1 h2
          omega
        · by_cases ec : j = i
          · subst ec; rw [f3']; omega
          · have := g12 j (by omega) h2
            omega
      · rw [if_neg (fun w => w.elim (fun w => by omega) (fun w => q w)), if_neg (by omega)]
        refine ⟨⟨g1, g2⟩, ⟨g3, g4⟩, g5, pp, g6, by omega, g8, g9, g10, g11, fun j h1 h2 => ?_⟩
        by_cases ec : j = i
        · subst ec; rw [f3']; omega
        · exact g12 j (by omega) h2
  · have e1 : pkf O t s (i + 1) = pkf O t s i := by rw [pkf]; unfold pnx; rw [hx, if_pos rfl]
    have e2 : dkf O D s (i + 1) = dkf O D s i := by rw [dkf]; unfold dnx; rw [hx, if_pos rfl]
    unfold Pg at g ⊢
    rw [e1, e2]
    rcases g with ⟨g1, g2, g3⟩ | ⟨g1, g2, g5, pp, g6, g7, g8, g9, g10, g11, g12⟩
    · exact Or.inl ⟨g1, g2, fun j hj' => by
        by_cases c : j = i
        · subst c; exact hx
        · exact g3 j (by omega)⟩
    · exact Or.inr ⟨g1, g2, g5, pp, g6, by omega, g8, g9, g10, g11, fun j hj' h2 => by
        by_cases c : j = i
        · subst c; rw [hx] at h2; exact absurd h2 (by decide)
        · exact g12 j (by omega) h2⟩
theorem pg_all {O : Ofc} {t : Nat → R3} {D : Nat → Int} {s : Nat} (hs : s < 256) : ∀ n, n ≤ 8 → (∀ i, i < n → hb (s : Int) i = false → (0 ≤ (t (jn s i)).1 ∧ (t (jn s i)).1 ≤ 16 * (8 - scn (hb (jn s i : Int)) 8)) ∧ (0 ≤ (t (jn s i)).2.1 ∧ (t (jn s i)).2.1 ≤ 8 - scn (hb (jn s i : Int)) 8) ∧ D (jn s i) = 16 * (t (jn s i)).1 + (t (jn s i)).2.1) → Pg O t D s n := by
  intro n
  induction n with
  | zero => intro _ _; exact Or.inl ⟨rfl, rfl, fun j hj => absurd hj (by omega)⟩
  | succ n ih => intro hn hj; exact pg_step hs (by omega) (ih (by omega) (fun i hi => hj i (by omega))) (hj n (by omega))
theorem en_all {O : Ofc} (wf : WF O) {t : Nat → R3} {D : Nat → Int} (ht : ∀ s, s < 2 ^ oN O → t s = entC O t s) (hD : ∀ s, s < 2 ^ oN O → D s = entM O D s) : ∀ k s, s < 2 ^ oN O → 2 ^ oN O - s ≤ k → En O t D s := by
  obtain ⟨hn, en⟩ := on_le wf
  have hp := pw_le hn
  intro k
  induction k with
  | zero => intro s hs hk; exact absurd hs (by omega)
  | succ k ih =>
    intro s hs hk
    have r := scn_rg (hb (s : Int)) 8
    have es := ht s hs
    have eD := hD s hs
    unfold entC at es
    unfold entM at eD
    cases hx : pok O s
    · rw [hx, if_neg (by decide)] at es eD
      have g := pg_all (O := O) (t := t) (D := D) (s := s) (by omega) (oN O) hn (fun i hi hb0 => by
        obtain ⟨l1, l2, l3⟩ := jn_lt hn hs hi hb0
        have e := ih (jn s i) l2 (by omega)
        exact ⟨e.1, e.2.1, e.2.2.1⟩)
      unfold Pg at g
      rw [← es, ← eD] at g
      rcases g with ⟨g1, g2, g3⟩ | ⟨g1, g2, g5, p, g6, g7, g8, g9, g10, g11, g12⟩
      · exfalso
        have hq : iand (O 0 5) (ixor (s : Int) (-1)) = 0 := by
          rw [an_0]
          intro j hj
          have hsl := wf.2.2.2.2.2.1
          rw [en, Int.toNat_natCast] at hsl
          exact g3 j (hb_at hsl hj)
        unfold pok at hx
        rw [decide_eq_true hq] at hx
        exact absurd hx (by decide)
      · exact ⟨g1, g2, g5, fun q => absurd q (by rw [hx]; decide), fun _ => ⟨p, g6, g7, g8, g9, g10, fun j h1 h2 q => by have := g11 j h1 h2; omega⟩⟩
    · rw [hx, if_pos rfl] at es eD
      rw [En, es, eD]
      exact ⟨⟨by show (0 : Int) ≤ 0; omega, by show (0 : Int) ≤ _; omega⟩, ⟨by show (0 : Int) ≤ 0; omega, by show (0 : Int) ≤ _; omega⟩, rfl, fun _ => rfl, fun q => absurd q (by rw [hx]; decide)⟩
