/-! B: open hours. -/
theorem dv_h : ∀ h : Nat, h < 400 → idv (h : Int) 10 = ((h / 10 : Nat) : Int) := by decide +kernel
theorem rm_d : ∀ h : Nat, h < 40 → irm (h : Int) 5 = ((h % 5 : Nat) : Int) := by decide +kernel
theorem rm_h : ∀ h : Nat, h < 400 → irm (h : Int) 10 = ((h % 10 : Nat) : Int) := by decide +kernel
theorem dvz_10 : dvz 10 = some () := rfl
theorem dvz_5 : dvz 5 = some () := rfl
def off (O : Ofc) (o h : Nat) : Bool := if hb (O 6 o) (h / 10 % 5) = true then (if ((h % 10 : Nat) : Int) < O 4 o then false else if ((h % 10 : Nat) : Int) ≤ O 5 o then (if ((h % 10 : Nat) : Int) = O 7 o then false else true) else false) else false
def awy (O : Ofc) (o h : Nat) : Bool := decide (O 10 o ≤ ((h / 10 : Nat) : Int)) && decide (((h / 10 : Nat) : Int) ≤ O 11 o)
def opn (O : Ofc) (o h : Nat) : Bool := !awy O o h && off O o h
/-- the first of so many places on from one where it holds, none: -1 -/
def fst_ (p : Nat → Bool) : Nat → Nat → Int
  | 0, _ => -1
  | k + 1, h => if p h then (h : Int) else fst_ p k (h + 1)
theorem it_fst {R : Type} {step : Int → Option (Int ⊕ R)} (p : Nat → Bool) (g : Int → R) (hs : ∀ h : Nat, h < 400 → step (h : Int) = if p h then some (.inr (g h)) else some (.inl ((h + 1 : Nat) : Int))) (he : ∀ h : Nat, 400 ≤ h → step (h : Int) = some (.inr (g (-1)))) : ∀ (k h n : Nat), k = 400 - h → k < n → it step n (h : Int) = some (g (fst_ p k h)) := by
  intro k
  induction k with
  | zero =>
    intro h n hk hn
    cases n with
    | zero => exact absurd hn (by omega)
    | succ n => rw [it, he h (by omega)]; rfl
  | succ k ih =>
    intro h n hk hn
    cases n with
    | zero => exact absurd hn (by omega)
    | succ n =>
      rw [it, hs h (by omega), fst_]
      by_cases c : p h = true
      · rw [if_pos c, if_pos c]
      · rw [if_neg c, if_neg c]
        exact ih (h + 1) n (by omega) (by omega)
theorem fst_hit {p : Nat → Bool} {k h : Nat} {r : Int} (e : fst_ p k h = r) (hr : r ≠ -1) : ∃ N : Nat, r = (N : Int) ∧ h ≤ N ∧ N < h + k ∧ p N = true ∧ ∀ j, h ≤ j → j < N → p j = false := by
  induction k generalizing h with
  | zero => rw [fst_] at e; exact absurd e.symm hr
  | succ k ih =>
    rw [fst_] at e
    by_cases c : p h = true
    · rw [if_pos c] at e
      exact ⟨h, e.symm, Nat.le_refl _, by omega, c, fun j h1 h2 => absurd h1 (by omega)⟩
    · rw [if_neg c] at e
      obtain ⟨N, h1, h2, h3, h4, h5⟩ := ih e
      refine ⟨N, h1, by omega, by omega, h4, fun j hj hj2 => ?_⟩
      rcases Nat.lt_or_ge h j with h6 | h6
      · exact h5 j (by omega) hj2
      · rw [show j = h by omega]; simpa using c
theorem fst_no {p : Nat → Bool} {k h : Nat} (e : fst_ p k h = -1) : ∀ j, h ≤ j → j < h + k → p j = false := by
  induction k generalizing h with
  | zero => intro j h1 h2; exact absurd h1 (by omega)
  | succ k ih =>
    rw [fst_] at e
    by_cases c : p h = true
    · rw [if_pos c] at e; exact absurd e (by omega)
    · rw [if_neg c] at e
      intro j h1 h2
      rcases Nat.lt_or_ge h j with h6 | h6
      · exact ih e j (by omega) (by omega)
      · rw [show j = h by omega]; simpa using c
theorem fst_rg {p : Nat → Bool} {k h : Nat} : fst_ p k h = -1 ∨ (h : Int) ≤ fst_ p k h ∧ fst_ p k h < ((h + k : Nat) : Int) := by
  by_cases c : fst_ p k h = -1
  · exact Or.inl c
  · obtain ⟨N, h1, h2, h3, _, _⟩ := fst_hit rfl c
    right; rw [h1]; omega
/-- what is so is the first -/
theorem fst_is {p : Nat → Bool} {k h N : Nat} (h1 : h ≤ N) (h2 : N < h + k) (h3 : p N = true) (h4 : ∀ j, h ≤ j → j < N → p j = false) : fst_ p k h = (N : Int) := by
  by_cases c : fst_ p k h = -1
  · have := fst_no c N h1 h2; rw [h3] at this; exact absurd this (by decide)
  · obtain ⟨M, e, g1, g2, g3, g4⟩ := fst_hit rfl c
    rw [e]
    rcases Nat.lt_trichotomy M N with h5 | h5 | h5
    · have := h4 M g1 h5; rw [g3] at this; exact absurd this (by decide)
    · rw [h5]
    · have := g4 N h1 h5; rw [h3] at this; exact absurd this (by decide)
theorem fst_none {p : Nat → Bool} {k h : Nat} (h4 : ∀ j, h ≤ j → j < h + k → p j = false) : fst_ p k h = -1 := by
  by_cases c : fst_ p k h = -1
  · exact c
  · obtain ⟨M, e, g1, g2, g3, g4⟩ := fst_hit rfl c
    have := h4 M g1 g2; rw [g3] at this; exact absurd this (by decide)
theorem fst_ext {p q : Nat → Bool} : ∀ {k h : Nat}, (∀ j, h ≤ j → j < h + k → p j = q j) → fst_ p k h = fst_ q k h := by
  intro k
  induction k with
  | zero => intro h _; rfl
  | succ k ih =>
    intro h e
    rw [fst_, fst_, e h (by omega) (by omega), ih (fun j h1 h2 => e j (by omega) (by omega))]
def scn (p : Nat → Bool) : Nat → Int
  | 0 => 0
  | n + 1 => scn p n + (if p n then 1 else 0)
theorem scn_rg (p : Nat → Bool) (n : Nat) : 0 ≤ scn p n ∧ scn p n ≤ n := by
  induction n with
  | zero => exact ⟨Int.le_refl _, Int.le_refl _⟩
  | succ n ih => rw [scn]; split <;> omega
section
variable {T : Knd} {A : Rfs} {O : Ofc} {I : Mem}
theorem m_o0 (h : Ag T A) (w : WF O) (hm : MW O 0 I) {o : Nat} (ho : (o : Int) < O 0 4) : f_X12_of T A 129 (o : Int) 0 I = some (O 3 o) := m_of h w hm (k := 0) (by decide) ho
theorem m_o1 (h : Ag T A) (w : WF O) (hm : MW O 0 I) {o : Nat} (ho : (o : Int) < O 0 4) : f_X12_of T A 129 (o : Int) 1 I = some (O 4 o) := m_of h w hm (k := 1) (by decide) ho
theorem m_o2 (h : Ag T A) (w : WF O) (hm : MW O 0 I) {o : Nat} (ho : (o : Int) < O 0 4) : f_X12_of T A 129 (o : Int) 2 I = some (O 5 o) := m_of h w hm (k := 2) (by decide) ho
theorem m_o3 (h : Ag T A) (w : WF O) (hm : MW O 0 I) {o : Nat} (ho : (o : Int) < O 0 4) : f_X12_of T A 129 (o : Int) 3 I = some (O 6 o) := m_of h w hm (k := 3) (by decide) ho
theorem m_o4 (h : Ag T A) (w : WF O) (hm : MW O 0 I) {o : Nat} (ho : (o : Int) < O 0 4) : f_X12_of T A 129 (o : Int) 4 I = some (O 7 o) := m_of h w hm (k := 4) (by decide) ho
theorem m_o5 (h : Ag T A) (w : WF O) (hm : MW O 0 I) {o : Nat} (ho : (o : Int) < O 0 4) : f_X12_of T A 129 (o : Int) 5 I = some (O 8 o) := m_of h w hm (k := 5) (by decide) ho
theorem m_o6 (h : Ag T A) (w : WF O) (hm : MW O 0 I) {o : Nat} (ho : (o : Int) < O 0 4) : f_X12_of T A 129 (o : Int) 6 I = some (O 9 o) := m_of h w hm (k := 6) (by decide) ho
theorem m_o7 (h : Ag T A) (w : WF O) (hm : MW O 0 I) {o : Nat} (ho : (o : Int) < O 0 4) : f_X12_of T A 129 (o : Int) 7 I = some (O 10 o) := m_of h w hm (k := 7) (by decide) ho
theorem m_o8 (h : Ag T A) (w : WF O) (hm : MW O 0 I) {o : Nat} (ho : (o : Int) < O 0 4) : f_X12_of T A 129 (o : Int) 8 I = some (O 11 o) := m_of h w hm (k := 8) (by decide) ho
theorem c_offered (h : Ag T A) (w : WF O) (hc : CV O 26 I) {o k : Nat} (ho : (o : Int) < O 0 4) (hk : k < 400) : f_X2_isOffered T A 26 (o : Int) (k : Int) I = some (if off O o k = true then 1 else 0) := by
  unfold f_X2_isOffered off
  rw [if_pos (by rw [kT_26 h]), c_has1 h w hc ho, some_bind, if_neg (by decide), if_neg (by omega)]
  simp only [pg h, c_r3 h, c_r1 h, c_r2 h, c_r4 h, c_t3 h w hc ho, c_t1 h w hc ho, c_t2 h w hc ho, c_t4 h w hc ho, some_bind, dvz_10, dvz_5, dv_h k hk, rm_h k hk, rm_d (k / 10) (by omega)]
  rw [f_hasBit (by omega), some_bind]
  by_cases c1 : hb (O 6 o) (k / 10 % 5) = true
  · simp only [c1, if_true, n10, if_false]
    by_cases c2 : ((k % 10 : Nat) : Int) < O 4 o
    · simp only [if_pos c2]; rfl
    · simp only [if_neg c2]
      by_cases c3 : ((k % 10 : Nat) : Int) ≤ O 5 o
      · simp only [if_pos c3]
        by_cases c4 : ((k % 10 : Nat) : Int) = O 7 o
        · simp only [if_pos c4]; rfl
        · simp only [if_neg c4]; rfl
      · simp only [if_neg c3]; rfl
  · simp only [if_neg c1, n00, if_true]; rfl
theorem m_openDay (h : Ag T A) (w : WF O) (hm : MW O 0 I) {o k : Nat} (ho : (o : Int) < O 0 4) (hk : k < 400) : f_X12_isOpenDay T A 129 (o : Int) (k : Int) I = some (if off O o k = true then 1 else 0) := by
  unfold f_X12_isOpenDay off
  simp only [kT_129 h, m_o3 h w hm ho, m_o1 h w hm ho, m_o2 h w hm ho, m_o4 h w hm ho, dvz_10, dvz_5, dv_h k hk, rm_h k hk, rm_d (k / 10) (by omega), if_true, some_bind]
  rw [f_isBit (by omega), some_bind]
  by_cases c1 : hb (O 6 o) (k / 10 % 5) = true
  · simp only [c1, if_true, n10, if_false]
    by_cases c2 : ((k % 10 : Nat) : Int) < O 4 o
    · simp only [if_pos c2]; rfl
    · simp only [if_neg c2]
      by_cases c3 : ((k % 10 : Nat) : Int) ≤ O 5 o
      · simp only [if_pos c3]
        by_cases c4 : ((k % 10 : Nat) : Int) = O 7 o
        · simp only [if_pos c4]; rfl
        · simp only [if_neg c4]; rfl
      · simp only [if_neg c3]; rfl
  · simp only [if_neg c1, n00, if_true]; rfl
theorem c_open (h : Ag T A) (w : WF O) (hc : CV O 26 I) {o k : Nat} (ho : (o : Int) < O 0 4) (hk : k < 400) : f_X2_isOpen T A 26 (o : Int) (k : Int) I = some (if opn O o k = true then 1 else 0) := by
  unfold f_X2_isOpen opn awy
  rw [if_pos (by rw [kT_26 h]), c_has1 h w hc ho, some_bind, if_neg (by decide)]
  simp only [pg h, c_r7 h, c_r8 h, c_t7 h w hc ho, c_t8 h w hc ho, some_bind, dvz_10, dv_h k hk, c_offered h w hc ho hk]
  by_cases c1 : O 10 o ≤ ((k / 10 : Nat) : Int)
  · rw [if_neg (by omega), decide_eq_true c1]
    by_cases c2 : ((k / 10 : Nat) : Int) ≤ O 11 o
    · rw [if_pos c2, decide_eq_true c2]; rfl
    · rw [if_neg c2, decide_eq_false c2]
      simp only [thn_l, thn_r, n00, if_true]
      cases off O o k <;> rfl
  · rw [if_pos (by omega), decide_eq_false c1]
    simp only [thn_l, thn_r, n00, if_true]
    cases off O o k <;> rfl
theorem m_leave (h : Ag T A) (w : WF O) (hm : MW O 0 I) {o k : Nat} (ho : (o : Int) < O 0 4) (hk : k < 400) : f_X12_isLeave T A 129 (o : Int) (k : Int) I = some (if awy O o k = true then 1 else 0) := by
  have hw : WO O o := w.2.2.2.2.2.2.2.2.1 o ho
  have hl := hw.2.2.2.2.2.2.2.1
  unfold f_X12_isLeave awy
  simp only [kT_129 h, m_o7 h w hm ho, m_o8 h w hm ho, dvz_10, dv_h k hk, if_true, some_bind]
  by_cases c0 : O 10 o = -1
  · rw [if_pos c0, decide_eq_false (p := ((k / 10 : Nat) : Int) ≤ O 11 o) (by omega), Bool.and_false]; rfl
  · rw [if_neg c0]
    by_cases c1 : O 10 o ≤ ((k / 10 : Nat) : Int)
    · rw [if_neg (by omega), decide_eq_true c1]
      by_cases c2 : ((k / 10 : Nat) : Int) ≤ O 11 o
      · rw [if_pos c2, decide_eq_true c2]; rfl
      · rw [if_neg c2, decide_eq_false c2]; rfl
    · rw [if_pos (by omega), decide_eq_false c1]; rfl
theorem m_open (h : Ag T A) (w : WF O) (hm : MW O 0 I) {o k : Nat} (ho : (o : Int) < O 0 4) (hk : k < 400) : f_X12_isOpen T A 129 (o : Int) (k : Int) I = some (if opn O o k = true then 1 else 0) := by
  unfold f_X12_isOpen opn
  simp only [kT_129 h, m_openDay h w hm ho hk, m_leave h w hm ho hk, if_true, some_bind]
  cases off O o k <;> cases awy O o k <;> rfl
theorem f_isHour (a : Int) : f_X11_isHour T A a I = some (if 0 ≤ a ∧ a ≤ 399 then 1 else 0) := by
  unfold f_X11_isHour
  by_cases c : 0 ≤ a ∧ a ≤ 399
  · rw [if_pos c, if_neg (by omega), if_pos (by omega)]
  · rw [if_neg c]
    split
    · rfl
    · rw [if_neg (by omega)]
theorem m_isHour (a : Int) : f_X12_isHour T A a I = some (if 0 ≤ a ∧ a ≤ 399 then 1 else 0) := by
  unfold f_X12_isHour
  rw [m_in, some_bind]
  by_cases c : 0 ≤ a ∧ a ≤ 399
  · rw [if_pos c]; rfl
  · rw [if_neg c]; rfl
theorem q_open (h : Ag T A) (w : WF O) (hc : CV O 26 I) (hm : MW O 0 I) (a1 a2 : Int) : Quiet (f_X11_open T A 1 a1 a2 I) (f_X12_open T A 129 a1 a2 I) I := by
  have hm0 := mw_fr hm (fr_0 I)
  unfold f_X11_open f_X12_open
  simp only [agX h, agM h, if_true, some_bind, c_has h w hc, m_isOfficial h w hm0, f_isHour, m_isHour]
  by_cases c : 0 ≤ a1 ∧ a1 < O 0 4
  · obtain ⟨o, rfl⟩ := Int.eq_ofNat_of_zero_le c.1
    by_cases d : 0 ≤ a2 ∧ a2 ≤ 399
    · obtain ⟨k, rfl⟩ := Int.eq_ofNat_of_zero_le d.1
      have hk : k < 400 := by omega
      simp only [if_pos c, if_pos d, n10, if_false, c_open h w hc c.2 hk, m_open h w hm0 c.2 hk, some_bind]
      cases opn O o k
      · exact ⟨0, _, rfl, rfl, fr_0 I⟩
      · exact ⟨1, _, rfl, rfl, fr_0 I⟩
    · simp only [if_pos c, if_neg d, n10, n00, if_false, if_true]
      exact ⟨-2, _, rfl, rfl, fr_0 I⟩
  · simp only [if_neg c, n00, if_true]
    exact ⟨-2, _, rfl, rfl, fr_0 I⟩
theorem q_week (h : Ag T A) (w : WF O) (hc : CV O 26 I) (hm : MW O 0 I) (a1 : Int) : Quiet (f_X11_week T A 1 a1 I) (f_X12_week T A 129 a1 I) I := by
  have hm0 := mw_fr hm (fr_0 I)
  unfold f_X11_week f_X12_week
  simp only [agX h, agM h, if_true, some_bind, c_has h w hc, m_isOfficial h w hm0]
  by_cases c : 0 ≤ a1 ∧ a1 < O 0 4
  · obtain ⟨o, rfl⟩ := Int.eq_ofNat_of_zero_le c.1
    simp only [if_pos c, n10, if_false]
    refine ⟨scn (off O o) 50, mu I 129 0 0, ?_, ?_, fr_0 I⟩
    · refine it_seq (fun i => (scn (off O o) i, (i : Int))) 50 (fun i hi => ?_) ?_ FU (by decide)
      · dsimp only
        rw [if_pos (by omega), c_offered h w hc c.2 (by omega), some_bind, ia_1 (by omega)]
        have hr := scn_rg (off O o) i
        rw [scn]
        cases off O o i
        · simp only [Bool.false_eq_true, if_false, n00, if_true, Int.add_zero]
        · simp only [if_true, n10, if_false]
          rw [ia_eq (by omega) (by omega)]
      · rfl
    · refine it_seq (fun i => (scn (off O o) i, (i : Int))) 50 (fun i hi => ?_) ?_ FU (by decide)
      · dsimp only
        have hr := scn_rg (off O o) i
        rw [if_pos (by omega), m_openDay h w hm0 c.2 (by omega), some_bind, ia_1 (by omega), ia_eq (b := 0) (by omega) (by omega), ia_eq (by omega) (by omega)]
        rw [scn]
        cases off O o i
        · simp only [Bool.false_eq_true, if_false, n00, if_true]
        · simp only [if_true, n10, if_false]
      · rfl
  · simp only [if_neg c, n00, if_true]
    exact ⟨-2, _, rfl, rfl, fr_0 I⟩
theorem q_asked (h : Ag T A) (w : WF O) (hc : CV O 26 I) (hm : MW O 0 I) (a1 a2 : Int) : Quiet (f_X11_asked T A 1 a1 a2 I) (f_X12_asked T A 129 a1 a2 I) I := by
  have hm0 := mw_fr hm (fr_0 I)
  have hn := wf_n w
  unfold f_X11_asked f_X12_asked
  simp only [agX h, agM h, agPl h, if_true, some_bind, c_has h w hc, m_isOfficial h w hm0, f_isBit1, m_in]
  by_cases c : 0 ≤ a1 ∧ a1 < O 0 4
  · obtain ⟨o, rfl⟩ := Int.eq_ofNat_of_zero_le c.1
    by_cases d : 0 ≤ a2 ∧ a2 ≤ 1
    · obtain ⟨k, rfl⟩ := Int.eq_ofNat_of_zero_le d.1
      obtain ⟨n, en⟩ := Int.eq_ofNat_of_zero_le hn.1
      simp only [if_pos c, if_pos d, n10, if_false]
      refine ⟨sor (fun i => hb (O (12 + k) i) o) n, mu I 129 0 0, ?_, ?_, fr_0 I⟩
      · refine it_seq (fun i => (sor (fun i => hb (O (12 + k) i) o) i, (i : Int))) n (fun i hi => ?_) ?_ FU (by unfold FU; omega)
        · dsimp only
          have hi4 : (i : Int) < O 0 4 := by omega
          rw [cv_n hc, if_pos hi4, ia_eq (a := 9) (by omega) (by omega), if_pos (by omega), some_bind, show 29 + (9 + (k : Int)).toNat = 29 + (9 + k) by omega, c_cell h w hc (by omega) hi4, some_bind, f_hasBit (by omega), some_bind, ia_1 (by omega), sor, show 3 + (9 + k) = 12 + k by omega]
          cases hb (O (12 + k) i) o
          · simp only [Bool.false_eq_true, if_false, n00, if_true]
          · simp only [if_true, n10, if_false]
        · dsimp only
          rw [cv_n hc, if_neg (by omega)]
      · refine it_seq (fun i => (sor (fun i => hb (O (12 + k) i) o) i, (i : Int))) n (fun i hi => ?_) ?_ FU (by unfold FU; omega)
        · dsimp only
          have hi4 : (i : Int) < O 0 4 := by omega
          rw [if_pos (by decide : (0 : Int) ≤ 3 ∧ (3 : Int) < 30), some_bind, show (3 : Int).toNat = 3 from rfl, mw_n hm0, if_pos hi4, ia_1 (by omega), sor]
          rcases (by omega : k = 0 ∨ k = 1) with e | e
          · subst e
            rw [if_pos (by rfl), if_pos (by omega), some_bind, thn_l, Int.toNat_natCast, mw_needs hm0 hi4, f_isBit (by omega), some_bind]
            cases hb (O (12 + 0) i) o
            · simp only [Bool.false_eq_true, if_false, n00, if_true, thn_l, ior_0 (cn_sor _ _)]
            · simp only [if_true, n10, if_false, thn_l]
          · subst e
            rw [if_neg (by decide), if_pos (by omega), some_bind, thn_l, Int.toNat_natCast, mw_bars hm0 hi4, f_isBit (by omega), some_bind]
            cases hb (O (12 + 1) i) o
            · simp only [Bool.false_eq_true, if_false, n00, if_true, thn_l, ior_0 (cn_sor _ _)]
            · simp only [if_true, n10, if_false, thn_l]
        · dsimp only
          rw [if_pos (by decide : (0 : Int) ≤ 3 ∧ (3 : Int) < 30), some_bind, show (3 : Int).toNat = 3 from rfl, mw_n hm0, if_neg (by omega)]
    · simp only [if_pos c, if_neg d, n10, n00, if_false, if_true]
      exact ⟨-2, _, rfl, rfl, fr_0 I⟩
  · simp only [if_neg c, n00, if_true]
    exact ⟨-2, _, rfl, rfl, fr_0 I⟩
end
