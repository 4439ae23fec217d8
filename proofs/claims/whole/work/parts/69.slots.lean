/-! B: feed, end, fault; the slots. -/
def SL (I : Mem) : Prop := ∀ s : Nat, s < 4 → (I 130 s = -1 ∧ I 118 s = -1) ∨ ((0 ≤ I 130 s ∧ I 130 s ≤ 3) ∧ I 117 s = I 130 s ∧ (0 ≤ I 131 s ∧ I 131 s ≤ 60) ∧ I 118 s = I 131 s ∧ ∀ k : Nat, (k : Int) < I 131 s → I (113 + s) k = I 132 (60 * s + k))
/-- changed at most: the tapes and what is thrown -/
def Ftp (I K : Mem) : Prop := ∀ o j, ¬ (o = 2 ∧ j = 1) → o ≠ 3 → ¬ (o = 129 ∧ (j = 0 ∨ j = 6)) → o ≠ 134 → K o j = I o j
def Fsl (I K : Mem) : Prop := ∀ o j, (o < 113 ∨ 118 < o) → ¬ (o = 129 ∧ j = 0) → o ≠ 130 → o ≠ 131 → o ≠ 132 → o ≠ 133 → K o j = I o j
def exb (f : Nat → Int) (n : Nat) (a : Int) (k : Nat) : Int := if k < n then f k else b4 a (k - n)
section
variable {T : Knd} {A : Rfs} {I : Mem}
theorem put_more (h : Ag T A) {J : Mem} {L n : Nat} {f : Nat → Int} (h1 : J 2 1 = ((L + n : Nat) : Int)) (h2 : ∀ k, k < n → J 3 (L + k) = f k) (h3 : ∀ o j, ¬ (o = 2 ∧ j = 1) → ¬ (o = 3 ∧ L ≤ j ∧ j < L + n) → J o j = I o j) (hL : L + n + 4 ≤ 1600) (a : Int) : ∃ K, f_X8_put T A 2 a J = some K ∧ K 2 1 = ((L + (n + 4) : Nat) : Int) ∧ (∀ k, k < n + 4 → K 3 (L + k) = exb f n a k) ∧ ∀ o j, ¬ (o = 2 ∧ j = 1) → ¬ (o = 3 ∧ L ≤ j ∧ j < L + (n + 4)) → K o j = I o j := by
  obtain ⟨K, e, p, q, r⟩ := c_put h h1 (by omega) a
  refine ⟨K, e, by rw [p, Nat.add_assoc], fun k hk => ?_, fun o j g1 g2 => by rw [r o j g1 (by omega), h3 o j g1 (by omega)]⟩
  unfold exb
  by_cases c : k < n
  · rw [if_pos c, r _ _ (by omega) (by omega), h2 k c]
  · rw [if_neg c, ← q (k - n) (by omega), show L + n + (k - n) = L + k by omega]
theorem four_more (h : Ag T A) {J : Mem} {L n : Nat} {f : Nat → Int} (h1 : J 129 6 = ((L + n : Nat) : Int)) (h2 : ∀ k, k < n → J 134 (L + k) = f k) (h3 : ∀ o j, ¬ (o = 129 ∧ j = 6) → ¬ (o = 134 ∧ L ≤ j ∧ j < L + n) → J o j = I o j) (hL : L + n + 4 ≤ 1600) (a : Int) : ∃ K, f_X12_four T A 129 a J = some K ∧ K 129 6 = ((L + (n + 4) : Nat) : Int) ∧ (∀ k, k < n + 4 → K 134 (L + k) = exb f n a k) ∧ ∀ o j, ¬ (o = 129 ∧ j = 6) → ¬ (o = 134 ∧ L ≤ j ∧ j < L + (n + 4)) → K o j = I o j := by
  obtain ⟨K, e, p, q, r⟩ := m_four h h1 (by omega) a
  refine ⟨K, e, by rw [p, Nat.add_assoc], fun k hk => ?_, fun o j g1 g2 => by rw [r o j g1 (by omega), h3 o j g1 (by omega)]⟩
  unfold exb
  by_cases c : k < n
  · rw [if_pos c, r _ _ (by omega) (by omega), h2 k c]
  · rw [if_neg c, ← q (k - n) (by omega), show L + n + (k - n) = L + k by omega]
def fed (a1 a2 a3 a4 a5 : Int) : Nat → Int := exb (exb (exb (exb (exb (fun _ => 0) 0 a1) (0 + 4) a2) (0 + 4 + 4) a3) (0 + 4 + 4 + 4) a4) (0 + 4 + 4 + 4 + 4) a5
theorem c_feed5 (h : Ag T A) {L : Nat} (hL : I 2 1 = (L : Int)) (h20 : L + 20 ≤ 1600) (a1 a2 a3 a4 a5 : Int) : ∃ J, f_X11_feed T A 1 a1 a2 a3 a4 a5 I = some (((L + 20 : Nat) : Int), J) ∧ J 2 1 = ((L + 20 : Nat) : Int) ∧ (∀ k, k < 20 → J 3 (L + k) = fed a1 a2 a3 a4 a5 k) ∧ ∀ o j, ¬ (o = 2 ∧ j = 1) → ¬ (o = 3 ∧ L ≤ j ∧ j < L + 20) → J o j = I o j := by
  have gi2 : ∀ M : Mem, gi T 8 1 2 M = some (M 2 1) := fun M => by simp only [agTape h]
  obtain ⟨J1, e1, p1, q1, r1⟩ := put_more (f := fun _ => 0) (n := 0) (I := I) h hL (fun k hk => absurd hk (by omega)) (fun _ _ _ _ => rfl) (by omega) a1
  obtain ⟨J2, e2, p2, q2, r2⟩ := put_more h p1 q1 r1 (by omega) a2
  obtain ⟨J3, e3, p3, q3, r3⟩ := put_more h p2 q2 r2 (by omega) a3
  obtain ⟨J4, e4, p4, q4, r4⟩ := put_more h p3 q3 r3 (by omega) a4
  obtain ⟨J5, e5, p5, q5, r5⟩ := put_more h p4 q4 r4 (by omega) a5
  refine ⟨J5, ?_, p5, q5, r5⟩
  unfold f_X11_feed
  rw [if_pos (by rw [kT_1 h]), show gr T A 11 0 1 = some 2 by simp only [agX h], some_bind, gi2, some_bind, if_pos (by omega)]
  simp only [some_bind, e1, e2, e3, e4, e5, gi2, p5]
theorem m_feed5 (h : Ag T A) {L : Nat} (hL : I 129 6 = (L : Int)) (h20 : L + 20 ≤ 1600) (a1 a2 a3 a4 a5 : Int) : ∃ J, f_X12_feed T A 129 a1 a2 a3 a4 a5 I = some (((L + 20 : Nat) : Int), J) ∧ J 129 6 = ((L + 20 : Nat) : Int) ∧ (∀ k, k < 20 → J 134 (L + k) = fed a1 a2 a3 a4 a5 k) ∧ ∀ o j, ¬ (o = 129 ∧ j = 6) → ¬ (o = 134 ∧ L ≤ j ∧ j < L + 20) → J o j = mu I 129 0 0 o j := by
  have gi' : ∀ q (J : Mem), gi T 12 q 129 J = some (J 129 q) := fun q J => by simp only [agMg h]
  have pi' : ∀ q v (J : Mem), pi T 12 q 129 v J = some (mu J 129 q v) := fun q v J => by simp only [agMg h]
  have m0 : mu I 129 0 0 129 6 = (L : Int) := by rw [mu_o _ _ (by omega)]; exact hL
  obtain ⟨J1, e1, p1, q1, r1⟩ := four_more (f := fun _ => 0) (n := 0) (I := mu I 129 0 0) h m0 (fun k hk => absurd hk (by omega)) (fun _ _ _ _ => rfl) (by omega) a1
  obtain ⟨J2, e2, p2, q2, r2⟩ := four_more h p1 q1 r1 (by omega) a2
  obtain ⟨J3, e3, p3, q3, r3⟩ := four_more h p2 q2 r2 (by omega) a3
  obtain ⟨J4, e4, p4, q4, r4⟩ := four_more h p3 q3 r3 (by omega) a4
  obtain ⟨J5, e5, p5, q5, r5⟩ := four_more h p4 q4 r4 (by omega) a5
  refine ⟨J5, ?_, p5, q5, r5⟩
  unfold f_X12_feed
  rw [if_pos (by rw [kT_129 h]), pi', some_bind, gi', some_bind, m0, ia_eq (by omega) (by omega), if_pos (by omega)]
  simp only [some_bind, e1, e2, e3, e4, e5, gi', p5]
theorem q_feed (h : Ag T A) (t : TP I) (a1 a2 a3 a4 a5 : Int) : ∃ v J K, f_X11_feed T A 1 a1 a2 a3 a4 a5 I = some (v, J) ∧ f_X12_feed T A 129 a1 a2 a3 a4 a5 J = some (v, K) ∧ TP K ∧ Ftp I K := by
  obtain ⟨t1, t2, t3⟩ := t
  obtain ⟨L, eL⟩ := Int.eq_ofNat_of_zero_le t2.1
  have gi2 : ∀ M : Mem, gi T 8 1 2 M = some (M 2 1) := fun M => by simp only [agTape h]
  have gi' : ∀ q (J : Mem), gi T 12 q 129 J = some (J 129 q) := fun q J => by simp only [agMg h]
  have pi' : ∀ q v (J : Mem), pi T 12 q 129 v J = some (mu J 129 q v) := fun q v J => by simp only [agMg h]
  by_cases c : I 2 1 ≤ 1580
  · obtain ⟨J, e, p, q, r⟩ := c_feed5 h eL (by omega) a1 a2 a3 a4 a5
    have m0 : J 129 6 = (L : Int) := by rw [r _ _ (by omega) (by omega), t1, eL]
    obtain ⟨K, e', p', q', r'⟩ := m_feed5 h m0 (by omega) a1 a2 a3 a4 a5
    have agK : ∀ o j, ¬ (o = 129 ∧ (j = 0 ∨ j = 6)) → ¬ (o = 134 ∧ L ≤ j ∧ j < L + 20) → K o j = J o j := fun o j h1 h2 => by
      rw [r' o j (by omega) h2, mu_o _ _ (by omega)]
    refine ⟨_, J, K, e, e', ⟨?_, ?_, fun k hk => ?_⟩, fun o j h1 h2 h3 h4 => ?_⟩
    · rw [p', agK _ _ (by omega) (by omega), p]
    · rw [agK _ _ (by omega) (by omega), p]; omega
    · rw [agK 2 _ (by omega) (by omega), p] at hk
      rw [agK 3 _ (by omega) (by omega)]
      rcases Nat.lt_or_ge k L with d | d
      · rw [agK 134 _ (by omega) (by omega), r _ _ (by omega) (by omega), r _ _ (by omega) (by omega)]
        exact t3 k (by omega)
      · have e1 := q (k - L) (by omega)
        have e2 := q' (k - L) (by omega)
        rw [show L + (k - L) = k by omega] at e1 e2
        rw [e1, e2]
    · rw [agK _ _ (by omega) (by omega), r _ _ (by omega) (by omega)]
  · refine ⟨-1, I, mu I 129 0 0, ?_, ?_, ⟨by rw [mu_o _ _ (by omega), mu_o _ _ (by omega)]; exact t1, by rw [mu_o _ _ (by omega)]; exact t2, fun k hk => ?_⟩, fun o j h1 h2 h3 h4 => mu_o _ _ (by omega)⟩
    · unfold f_X11_feed
      rw [if_pos (by rw [kT_1 h]), show gr T A 11 0 1 = some 2 by simp only [agX h], some_bind, gi2, some_bind, if_neg c]
    · unfold f_X12_feed
      rw [if_pos (by rw [kT_129 h]), pi', some_bind, gi', some_bind, mu_o _ _ (by omega), t1, ia_eq (by omega) (by omega), if_neg (by omega)]
    · rw [mu_o _ _ (by omega)] at hk
      rw [mu_o _ _ (by omega), mu_o _ _ (by omega)]; exact t3 k hk
theorem q_end (h : Ag T A) (t : TP I) (a1 : Int) : ∃ v J K, f_X11_end T A 1 a1 I = some (v, J) ∧ f_X12_end T A 129 a1 J = some (v, K) ∧ TP K ∧ Ftp I K := by
  obtain ⟨t1, t2, t3⟩ := t
  have gi2 : ∀ M : Mem, gi T 8 1 2 M = some (M 2 1) := fun M => by simp only [agTape h]
  have pi2 : ∀ v (M : Mem), pi T 8 1 2 v M = some (mu M 2 1 v) := fun v M => by simp only [agTape h]
  have gi' : ∀ q (J : Mem), gi T 12 q 129 J = some (J 129 q) := fun q J => by simp only [agMg h]
  have pi' : ∀ q v (J : Mem), pi T 12 q 129 v J = some (mu J 129 q v) := fun q v J => by simp only [agMg h]
  by_cases c : 0 ≤ a1 ∧ a1 ≤ I 2 1
  · refine ⟨a1, mu I 2 1 a1, mu (mu (mu I 2 1 a1) 129 0 0) 129 6 a1, ?_, ?_, ⟨?_, ?_, fun k hk => ?_⟩, fun o j h1 h2 h3 h4 => by rw [mu_o _ _ (by omega), mu_o _ _ (by omega), mu_o _ _ (by omega)]⟩
    · unfold f_X11_end
      rw [if_pos (by rw [kT_1 h]), if_neg (by omega), show gr T A 11 0 1 = some 2 by simp only [agX h], some_bind, gi2, some_bind, if_pos c.2, some_bind, pi2, some_bind]
    · unfold f_X12_end
      rw [if_pos (by rw [kT_129 h]), pi', some_bind, gi', some_bind, m_in, some_bind, mu_o _ _ (by omega), mu_o _ _ (by omega), t1, if_pos c, if_neg (by decide), pi', some_bind]
    · rw [mu_s, mu_o _ _ (by omega), mu_o _ _ (by omega), mu_s]
    · rw [mu_o _ _ (by omega), mu_o _ _ (by omega), mu_s]; omega
    · rw [mu_o _ _ (by omega), mu_o _ _ (by omega), mu_s] at hk
      rw [mu_o _ _ (by omega), mu_o _ _ (by omega), mu_o _ _ (by omega), mu_o _ _ (by omega), mu_o _ _ (by omega), mu_o _ _ (by omega)]
      exact t3 k (by omega)
  · refine ⟨-1, I, mu I 129 0 0, ?_, ?_, ⟨by rw [mu_o _ _ (by omega), mu_o _ _ (by omega)]; exact t1, by rw [mu_o _ _ (by omega)]; exact t2, fun k hk => ?_⟩, fun o j h1 h2 h3 h4 => mu_o _ _ (by omega)⟩
    · unfold f_X11_end
      rw [if_pos (by rw [kT_1 h]), show gr T A 11 0 1 = some 2 by simp only [agX h], some_bind, gi2, some_bind]
      by_cases d : a1 < 0
      · rw [if_pos d]
      · rw [if_neg d, if_neg (by omega)]
    · unfold f_X12_end
      rw [if_pos (by rw [kT_129 h]), pi', some_bind, gi', some_bind, m_in, some_bind, mu_o _ _ (by omega), t1, if_neg c, if_pos rfl]
    · rw [mu_o _ _ (by omega)] at hk
      rw [mu_o _ _ (by omega), mu_o _ _ (by omega)]; exact t3 k hk
theorem q_fault (h : Ag T A) (t : FT I) (a1 : Int) : Quiet (f_X11_fault T A 1 a1 I) (f_X12_fault T A 129 a1 I) I := by
  obtain ⟨t1, t2⟩ := t
  have gi4 : ∀ k (M : Mem), gi T 4 k 4 M = some (M 4 k) := fun k M => by simp only [agRd h]
  have gi' : ∀ q (J : Mem), gi T 12 q 129 J = some (J 129 q) := fun q J => by simp only [agMg h]
  unfold f_X11_fault f_X12_fault
  simp only [agX h, agMg h, if_true, some_bind, gi4]
  by_cases c : a1 = 0
  · rw [if_pos c, if_pos c, mu_o _ _ (by omega), t1]
    exact ⟨_, _, rfl, rfl, fr_0 I⟩
  · rw [if_neg c, if_neg c]
    by_cases d : a1 = 1
    · rw [if_pos d, if_pos d, mu_o _ _ (by omega), t2]
      exact ⟨_, _, rfl, rfl, fr_0 I⟩
    · rw [if_neg d, if_neg d]
      exact ⟨_, _, rfl, rfl, fr_0 I⟩
theorem c_isSlot (h : Ag T A) (a : Int) : f_X7_isSlot T A 111 a I = some (if 0 ≤ a ∧ a ≤ 3 then 1 else 0) := by
  unfold f_X7_isSlot
  rw [if_pos (by rw [kT_111 h])]
  by_cases c : 0 ≤ a ∧ a ≤ 3
  · rw [if_pos c, if_neg (by omega), if_pos (by omega)]
  · rw [if_neg c]
    split
    · rfl
    · rw [if_neg (by omega)]
theorem m_isSlot (a : Int) : f_X12_isSlot T A a I = some (if 0 ≤ a ∧ a ≤ 3 then 1 else 0) := by
  unfold f_X12_isSlot
  rw [m_in, some_bind]
  by_cases c : 0 ≤ a ∧ a ≤ 3
  · rw [if_pos c]; rfl
  · rw [if_neg c]; rfl
theorem l118 (h : Ag T A) {s : Nat} (hs : s < 4) (M : Mem) : ld T 20 118 (s : Int) M = some (M 118 s) := by rw [ev_ld (kT_118 h), if_pos (by omega), Int.toNat_natCast]
theorem l117 (h : Ag T A) {s : Nat} (hs : s < 4) (M : Mem) : ld T 20 117 (s : Int) M = some (M 117 s) := by rw [ev_ld (kT_117 h), if_pos (by omega), Int.toNat_natCast]
theorem l130 (h : Ag T A) {s : Nat} (hs : s < 4) (M : Mem) : ld T 20 130 (s : Int) M = some (M 130 s) := by rw [ev_ld (kT_130 h), if_pos (by omega), Int.toNat_natCast]
theorem l131 (h : Ag T A) {s : Nat} (hs : s < 4) (M : Mem) : ld T 20 131 (s : Int) M = some (M 131 s) := by rw [ev_ld (kT_131 h), if_pos (by omega), Int.toNat_natCast]
theorem kT_num (h : Ag T A) {s : Nat} (hs : s < 4) : T (113 + s) = (21, 60) := h.1 (113 + s, 21, 60) ((by decide +kernel : ∀ w, w < 4 → (113 + w, 21, 60) ∈ agK) s hs)
theorem r112 (h : Ag T A) {s : Nat} (hs : s < 4) : lr T A 25 112 (s : Int) = some (113 + s) := by
  simp only [agSl h]
  rw [if_pos (by omega), Int.toNat_natCast]
theorem c_hasRow (h : Ag T A) {s : Nat} (hs : s < 4) : f_X7_hasRow T A 111 (s : Int) I = some (if I 118 s = -1 then 0 else 1) := by
  unfold f_X7_hasRow
  rw [if_pos (by rw [kT_111 h]), c_isSlot h, some_bind, if_pos (show 0 ≤ (s : Int) ∧ (s : Int) ≤ 3 by omega), if_neg (by decide), show gr T A 7 2 111 = some 118 by simp only [agSl h], some_bind, l118 h hs, some_bind]
  split <;> rfl
theorem c_lengthOf (h : Ag T A) {s : Nat} (hs : s < 4) : f_X7_lengthOf T A 111 (s : Int) I = some (if I 118 s = -1 then 0 else I 118 s) := by
  unfold f_X7_lengthOf
  rw [if_pos (by rw [kT_111 h]), c_hasRow h hs, some_bind]
  by_cases c : I 118 s = -1
  · rw [if_pos c, if_pos rfl, if_pos c]
  · rw [if_neg c, if_neg (by decide), show gr T A 7 2 111 = some 118 by simp only [agSl h], some_bind, l118 h hs, some_bind, if_neg c]
theorem c_widthOf (h : Ag T A) {s : Nat} (hs : s < 4) : f_X7_widthOf T A 111 (s : Int) I = some (I 117 s) := by
  unfold f_X7_widthOf
  rw [if_pos (by rw [kT_111 h]), c_isSlot h, some_bind, if_pos (show 0 ≤ (s : Int) ∧ (s : Int) ≤ 3 by omega), if_neg (by decide), show gr T A 7 1 111 = some 117 by simp only [agSl h], some_bind, l117 h hs, some_bind]
theorem c_fillL {x n : Nat} (hx : T x = (21, n)) (hn : n < 1000) (v : Int) : OK (f_J7_fill_d0a16 T A x v I) (fun J => Fo x x I J ∧ ∀ j, j < n → J x j = v) := by
  unfold f_J7_fill_d0a16
  rw [show aln T 21 x = some (n : Int) from ev_aln hx, some_bind]
  refine it_run (fun i (s : Int × Mem) => s.1 = (i : Int) ∧ Fo x x I s.2 ∧ ∀ j, j < i → s.2 x j = v) n ?_ ?_ 0 FU (0, I) (by omega) (by unfold FU; omega) ⟨rfl, fo_r _ _ _, fun j hj => absurd hj (by omega)⟩
  · rintro i ⟨si, J⟩ hi ⟨rfl, hF, hD⟩
    try dsimp only at hF hD ⊢
    rw [if_pos (by omega), ev_sto hx, if_pos (by omega), some_bind, Int.toNat_natCast, ia_1 (by omega)]
    refine ok_i ⟨rfl, fo_mu hF (Nat.le_refl _) (Nat.le_refl _), fun j hj => ?_⟩
    try dsimp only
    by_cases c : j = i
    · subst c; exact mu_s _ _ _ _
    · rw [mu_o _ _ (by omega)]; exact hD j (by omega)
  · rintro ⟨si, J⟩ ⟨rfl, hF, hD⟩
    try dsimp only at hF hD ⊢
    rw [if_neg (by omega)]
    exact ok_i ⟨hF, hD⟩
theorem fsl_0 (I : Mem) : Fsl I (mu I 129 0 0) := fun o j h1 h2 h3 h4 h5 h6 => mu_o _ _ (by omega)
theorem sl_0 (t : SL I) : SL (mu I 129 0 0) := by
  intro s hs
  rw [mu_o _ _ (by omega), mu_o _ _ (by omega), mu_o _ _ (by omega), mu_o _ _ (by omega)]
  rcases t s hs with c | ⟨c1, c2, c3, c4, c5⟩
  · exact Or.inl c
  · refine Or.inr ⟨c1, c2, c3, c4, fun k hk => ?_⟩
    rw [mu_o _ _ (by omega), mu_o _ _ (by omega)]; exact c5 k hk
theorem q_row (h : Ag T A) (t : SL I) (a1 a2 a3 : Int) : ∃ v J K, f_X11_row T A 1 a1 a2 a3 I = some (v, J) ∧ f_X12_row T A 129 a1 a2 a3 J = some (v, K) ∧ SL K ∧ Fsl I K := by
  have pi' : ∀ q v (J : Mem), pi T 12 q 129 v J = some (mu J 129 q v) := fun q v J => by simp only [agMg h]
  have g11 : gr T A 11 11 1 = some 111 := by simp only [agX h]
  have refuse : ∀ {v : Int}, f_X11_row T A 1 a1 a2 a3 I = some (v, I) → f_X12_row T A 129 a1 a2 a3 I = some (v, mu I 129 0 0) → ∃ v J K, f_X11_row T A 1 a1 a2 a3 I = some (v, J) ∧ f_X12_row T A 129 a1 a2 a3 J = some (v, K) ∧ SL K ∧ Fsl I K := fun {v} e1 e2 => ⟨v, I, _, e1, e2, sl_0 t, fsl_0 I⟩
  by_cases c : 0 ≤ a1 ∧ a1 ≤ 3
  · by_cases d : 0 ≤ a2 ∧ a2 ≤ 3
    · by_cases e : a3 ≤ 60
      · by_cases f : a3 < 0
        · refine refuse (v := -3) ?_ ?_
          · unfold f_X11_row
            rw [if_pos (by rw [kT_1 h]), g11, some_bind, c_isSlot h, some_bind, if_pos c, if_neg (by decide), if_neg (by omega), if_pos (by omega), if_pos e, if_pos f]
          · unfold f_X12_row
            rw [if_pos (by rw [kT_129 h]), pi', some_bind, m_isSlot, some_bind, if_pos c, if_neg (by decide), m_in, some_bind, if_pos d, if_neg (by decide), if_pos e, if_pos f]
        · obtain ⟨s, rfl⟩ := Int.eq_ofNat_of_zero_le c.1
          obtain ⟨n, rfl⟩ := Int.eq_ofNat_of_zero_le (by omega : 0 ≤ a3)
          have hs : s < 4 := by omega
          have hn : n ≤ 60 := by omega
          obtain ⟨J, eJ, fJ, zJ⟩ := c_fillL (A := A) (I := mu (mu I 117 s a2) 118 s (n : Int)) (kT_num h hs) (by decide) 0
          have agJ : ∀ o j, ¬ (o = 117 ∧ j = s) → ¬ (o = 118 ∧ j = s) → o ≠ 113 + s → J o j = I o j := fun o j h1 h2 h3 => by
            rw [fJ o j (by omega), mu_o _ _ (by omega), mu_o _ _ (by omega)]
          have ml : OK (it (fun (s13 : Int × Mem) => if s13.1 < (n : Int) then (gr T A 12 3 129).bind fun x15 => (sto T 21 x15 (ia (im 60 (s : Int)) s13.1) 0 s13.2).bind fun I16 => some (.inl (ia s13.1 1, I16)) else some (.inr (0, s13.2))) FU (0, mu (mu (mu J 129 0 0) 130 s a2) 131 s (n : Int))) (fun (z : Int × Mem) => z.1 = 0 ∧ (∀ o j, ¬ (o = 132 ∧ 60 * s ≤ j ∧ j < 60 * s + n) → z.2 o j = mu (mu (mu J 129 0 0) 130 s a2) 131 s (n : Int) o j) ∧ ∀ k, k < n → z.2 132 (60 * s + k) = 0) := by
            refine it_run (fun i (q : Int × Mem) => q.1 = (i : Int) ∧ (∀ o j, ¬ (o = 132 ∧ 60 * s ≤ j ∧ j < 60 * s + i) → q.2 o j = mu (mu (mu J 129 0 0) 130 s a2) 131 s (n : Int) o j) ∧ ∀ k, k < i → q.2 132 (60 * s + k) = 0) n ?_ ?_ 0 FU _ (by omega) (by unfold FU; omega) ⟨rfl, fun _ _ _ => rfl, fun k hk => absurd hk (by omega)⟩
            · rintro i ⟨si, M⟩ hi ⟨rfl, m1, m2⟩
              try dsimp only at m1 m2 ⊢
              rw [if_pos (by omega), show gr T A 12 3 129 = some 132 by simp only [agMg h], some_bind, ia_1 (by omega), im_eq (by omega) (by omega), ia_eq (by omega) (by omega), ev_sto (kT_132 h), if_pos (by omega), some_bind, show (60 * (s : Int) + i).toNat = 60 * s + i by omega]
              refine ok_i ⟨rfl, fun o j hoj => ?_, fun k hk => ?_⟩
              · try dsimp only
                rw [mu_o _ _ (by omega)]; exact m1 o j (by omega)
              · try dsimp only
                by_cases z : k = i
                · subst z; exact mu_s _ _ _ _
                · rw [mu_o _ _ (by omega)]; exact m2 k (by omega)
            · rintro ⟨si, M⟩ ⟨rfl, m1, m2⟩
              try dsimp only at m1 m2 ⊢
              rw [if_neg (by omega)]
              exact ok_i ⟨rfl, m1, m2⟩
          obtain ⟨⟨z0, K⟩, eK, k0, k1, k2⟩ := ml
          try dsimp only at k0 k1 k2
          subst k0
          refine ⟨0, J, K, ?_, ?_, fun u hu => ?_, fun o j h1 h2 h3 h4 h5 h6 => ?_⟩
          · unfold f_X11_row f_X7_lay
            rw [if_pos (by rw [kT_1 h]), g11, some_bind, c_isSlot h, some_bind, if_pos c, if_neg (by decide), if_neg (by omega), if_pos (by omega), if_pos e, if_neg f, some_bind, if_pos (by rw [kT_111 h]), c_isSlot h, some_bind, if_pos c, if_neg (by decide), if_neg f, if_pos e, show gr T A 7 1 111 = some 117 by simp only [agSl h], some_bind, ev_sto (kT_117 h), if_pos (by omega), some_bind, show gr T A 7 2 111 = some 118 by simp only [agSl h], some_bind, ev_sto (kT_118 h), if_pos (by omega), some_bind, show gr T A 7 0 111 = some 112 by simp only [agSl h], some_bind, r112 h hs, some_bind, Int.toNat_natCast, eJ]
            rfl
          · unfold f_X12_row
            rw [if_pos (by rw [kT_129 h]), pi', some_bind, m_isSlot, some_bind, if_pos c, if_neg (by decide), m_in, some_bind, if_pos d, if_neg (by decide), if_pos e, if_neg f, show gr T A 12 1 129 = some 130 by simp only [agMg h], some_bind, ev_sto (kT_130 h), if_pos (by omega), some_bind, show gr T A 12 2 129 = some 131 by simp only [agMg h], some_bind, ev_sto (kT_131 h), if_pos (by omega), some_bind, Int.toNat_natCast, eK]
          · by_cases z : u = s
            · subst z
              right
              refine ⟨?_, ?_, ?_, ?_, fun k hk => ?_⟩
              · rw [k1 _ _ (by omega), mu_o _ _ (by omega), mu_s]; exact d
              · rw [k1 _ _ (by omega), mu_o _ _ (by omega), mu_o _ _ (by omega), mu_o _ _ (by omega), k1 _ _ (by omega), mu_o _ _ (by omega), mu_s, fJ _ _ (by omega), mu_o _ _ (by omega), mu_s]
              · rw [k1 _ _ (by omega), mu_s]; omega
              · rw [k1 _ _ (by omega), mu_o _ _ (by omega), mu_o _ _ (by omega), mu_o _ _ (by omega), k1 _ _ (by omega), mu_s, fJ _ _ (by omega), mu_s]
              · rw [k1 _ _ (by omega), mu_s] at hk
                rw [k2 k (by omega), k1 _ _ (by omega), mu_o _ _ (by omega), mu_o _ _ (by omega), mu_o _ _ (by omega), zJ k (by omega)]
            · have e1 : ∀ x, x ≠ s → K 130 x = I 130 x := fun x hx => by rw [k1 _ _ (by omega), mu_o _ _ (by omega), mu_o _ _ (by omega), mu_o _ _ (by omega), agJ _ _ (by omega) (by omega) (by omega)]
              have e2 : K 131 u = I 131 u := by rw [k1 _ _ (by omega), mu_o _ _ (by omega), mu_o _ _ (by omega), mu_o _ _ (by omega), agJ _ _ (by omega) (by omega) (by omega)]
              have e3 : K 117 u = I 117 u := by rw [k1 _ _ (by omega), mu_o _ _ (by omega), mu_o _ _ (by omega), mu_o _ _ (by omega), agJ _ _ (by omega) (by omega) (by omega)]
              have e4 : K 118 u = I 118 u := by rw [k1 _ _ (by omega), mu_o _ _ (by omega), mu_o _ _ (by omega), mu_o _ _ (by omega), agJ _ _ (by omega) (by omega) (by omega)]
              rw [e1 u z, e2, e3, e4]
              rcases t u hu with w | ⟨w1, w2, w3, w4, w5⟩
              · exact Or.inl w
              · refine Or.inr ⟨w1, w2, w3, w4, fun k hk => ?_⟩
                rw [k1 (113 + u) _ (by omega), mu_o _ _ (by omega), mu_o _ _ (by omega), mu_o _ _ (by omega), agJ _ _ (by omega) (by omega) (by omega), k1 132 _ (by omega), mu_o _ _ (by omega), mu_o _ _ (by omega), mu_o _ _ (by omega), agJ _ _ (by omega) (by omega) (by omega)]
                exact w5 k hk
          · rw [k1 _ _ (by omega), mu_o _ _ (by omega), mu_o _ _ (by omega), mu_o _ _ (by omega), agJ _ _ (by omega) (by omega) (by omega)]
      · refine refuse (v := -2) ?_ ?_
        · unfold f_X11_row
          rw [if_pos (by rw [kT_1 h]), g11, some_bind, c_isSlot h, some_bind, if_pos c, if_neg (by decide), if_neg (by omega), if_pos (by omega), if_neg e]
        · unfold f_X12_row
          rw [if_pos (by rw [kT_129 h]), pi', some_bind, m_isSlot, some_bind, if_pos c, if_neg (by decide), m_in, some_bind, if_pos d, if_neg (by decide), if_neg e]
    · refine refuse (v := -2) ?_ ?_
      · unfold f_X11_row
        rw [if_pos (by rw [kT_1 h]), g11, some_bind, c_isSlot h, some_bind, if_pos c, if_neg (by decide)]
        by_cases z : a2 < 0
        · rw [if_pos z]
        · rw [if_neg z, if_neg (by omega)]
      · unfold f_X12_row
        rw [if_pos (by rw [kT_129 h]), pi', some_bind, m_isSlot, some_bind, if_pos c, if_neg (by decide), m_in, some_bind, if_neg d, if_pos rfl]
  · refine refuse (v := -2) ?_ ?_
    · unfold f_X11_row
      rw [if_pos (by rw [kT_1 h]), g11, some_bind, c_isSlot h, some_bind, if_neg c, if_pos rfl]
    · unfold f_X12_row
      rw [if_pos (by rw [kT_129 h]), pi', some_bind, m_isSlot, some_bind, if_neg c, if_pos rfl]
end
