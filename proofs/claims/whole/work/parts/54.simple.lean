/-! B: the calls that read the office alone. -/
def Quiet (cx : Option Int) (mx : Option (Int × Mem)) (I : Mem) : Prop := ∃ v J, cx = some v ∧ mx = some (v, J) ∧ Fr I J
theorem n10 : ((1 : Int) = 0) = False := eq_false (by decide)
theorem n00 : ((0 : Int) = 0) = True := eq_true rfl
section
variable {T : Knd} {A : Rfs} {O : Ofc} {I : Mem}
theorem kT_told (h : Ag T A) {w : Nat} (hw : w < 11) : T (29 + w) = (20, 8) := h.1 (29 + w, 20, 8) ((by decide +kernel : ∀ w, w < 11 → (29 + w, 20, 8) ∈ agK) w hw)
theorem c_row (h : Ag T A) {w : Nat} (hw : w < 11) : lr T A 24 28 (w : Int) = some (29 + w) := by
  simp only [agPl h]
  rw [if_pos (by omega), Int.toNat_natCast]
theorem c_cell (h : Ag T A) (wf : WF O) (hc : CV O 26 I) {w o : Nat} (hw : w < 11) (ho : (o : Int) < O 0 4) : ld T 20 (29 + w) (o : Int) I = some (O (3 + w) o) := by
  have hn := wf_n wf
  rw [ev_ld (kT_told h hw), if_pos (by omega), Int.toNat_natCast, cv_told hc hw ho]
theorem c_r0 (h : Ag T A) : lr T A 24 28 0 = some 29 := c_row h (w := 0) (by decide)
theorem c_t0 (h : Ag T A) (w : WF O) (hc : CV O 26 I) {o : Nat} (ho : (o : Int) < O 0 4) : ld T 20 29 (o : Int) I = some (O 3 o) := c_cell h w hc (w := 0) (by decide) ho
theorem c_r1 (h : Ag T A) : lr T A 24 28 1 = some 30 := c_row h (w := 1) (by decide)
theorem c_t1 (h : Ag T A) (w : WF O) (hc : CV O 26 I) {o : Nat} (ho : (o : Int) < O 0 4) : ld T 20 30 (o : Int) I = some (O 4 o) := c_cell h w hc (w := 1) (by decide) ho
theorem c_r2 (h : Ag T A) : lr T A 24 28 2 = some 31 := c_row h (w := 2) (by decide)
theorem c_t2 (h : Ag T A) (w : WF O) (hc : CV O 26 I) {o : Nat} (ho : (o : Int) < O 0 4) : ld T 20 31 (o : Int) I = some (O 5 o) := c_cell h w hc (w := 2) (by decide) ho
theorem c_r3 (h : Ag T A) : lr T A 24 28 3 = some 32 := c_row h (w := 3) (by decide)
theorem c_t3 (h : Ag T A) (w : WF O) (hc : CV O 26 I) {o : Nat} (ho : (o : Int) < O 0 4) : ld T 20 32 (o : Int) I = some (O 6 o) := c_cell h w hc (w := 3) (by decide) ho
theorem c_r4 (h : Ag T A) : lr T A 24 28 4 = some 33 := c_row h (w := 4) (by decide)
theorem c_t4 (h : Ag T A) (w : WF O) (hc : CV O 26 I) {o : Nat} (ho : (o : Int) < O 0 4) : ld T 20 33 (o : Int) I = some (O 7 o) := c_cell h w hc (w := 4) (by decide) ho
theorem c_r5 (h : Ag T A) : lr T A 24 28 5 = some 34 := c_row h (w := 5) (by decide)
theorem c_t5 (h : Ag T A) (w : WF O) (hc : CV O 26 I) {o : Nat} (ho : (o : Int) < O 0 4) : ld T 20 34 (o : Int) I = some (O 8 o) := c_cell h w hc (w := 5) (by decide) ho
theorem c_r6 (h : Ag T A) : lr T A 24 28 6 = some 35 := c_row h (w := 6) (by decide)
theorem c_t6 (h : Ag T A) (w : WF O) (hc : CV O 26 I) {o : Nat} (ho : (o : Int) < O 0 4) : ld T 20 35 (o : Int) I = some (O 9 o) := c_cell h w hc (w := 6) (by decide) ho
theorem c_r7 (h : Ag T A) : lr T A 24 28 7 = some 36 := c_row h (w := 7) (by decide)
theorem c_t7 (h : Ag T A) (w : WF O) (hc : CV O 26 I) {o : Nat} (ho : (o : Int) < O 0 4) : ld T 20 36 (o : Int) I = some (O 10 o) := c_cell h w hc (w := 7) (by decide) ho
theorem c_r8 (h : Ag T A) : lr T A 24 28 8 = some 37 := c_row h (w := 8) (by decide)
theorem c_t8 (h : Ag T A) (w : WF O) (hc : CV O 26 I) {o : Nat} (ho : (o : Int) < O 0 4) : ld T 20 37 (o : Int) I = some (O 11 o) := c_cell h w hc (w := 8) (by decide) ho
theorem c_r9 (h : Ag T A) : lr T A 24 28 9 = some 38 := c_row h (w := 9) (by decide)
theorem c_t9 (h : Ag T A) (w : WF O) (hc : CV O 26 I) {o : Nat} (ho : (o : Int) < O 0 4) : ld T 20 38 (o : Int) I = some (O 12 o) := c_cell h w hc (w := 9) (by decide) ho
theorem c_r10 (h : Ag T A) : lr T A 24 28 10 = some 39 := c_row h (w := 10) (by decide)
theorem c_t10 (h : Ag T A) (w : WF O) (hc : CV O 26 I) {o : Nat} (ho : (o : Int) < O 0 4) : ld T 20 39 (o : Int) I = some (O 13 o) := c_cell h w hc (w := 10) (by decide) ho
theorem c_has1 (h : Ag T A) (w : WF O) (hc : CV O 26 I) {o : Nat} (ho : (o : Int) < O 0 4) : f_X2_hasOfficial T A 26 (o : Int) I = some 1 := by
  rw [c_has h w hc, if_pos (show 0 ≤ (o : Int) ∧ (o : Int) < O 0 4 from ⟨Int.natCast_nonneg o, ho⟩)]
theorem pg (h : Ag T A) : gr T A 2 8 26 = some 28 := by simp only [agPl h]
theorem m_needs (h : Ag T A) (w : WF O) (hm : MW O 0 I) {o : Nat} (ho : (o : Int) < O 0 4) : ld T 20 138 (o : Int) I = some (O 12 o) := by
  have hn := wf_n w
  simp only [agM h]
  rw [if_pos (by omega), Int.toNat_natCast, mw_needs hm ho]
theorem m_bars (h : Ag T A) (w : WF O) (hm : MW O 0 I) {o : Nat} (ho : (o : Int) < O 0 4) : ld T 20 139 (o : Int) I = some (O 13 o) := by
  have hn := wf_n w
  simp only [agM h]
  rw [if_pos (by omega), Int.toNat_natCast, mw_bars hm ho]
theorem m_has (h : Ag T A) (hm : MW O 0 I) {k : Nat} (hk : k < 6) : ld T 20 136 (k : Int) I = some (O 0 (k + 1)) := by
  simp only [agM h]
  rw [if_pos (by omega), Int.toNat_natCast]
  have := hm.2.1 k hk
  rw [show 6 * 0 + k = k by omega] at this
  rw [this]
theorem m_h0 (h : Ag T A) (hm : MW O 0 I) : ld T 20 136 0 I = some (O 0 1) := m_has h hm (k := 0) (by decide)
theorem m_h1 (h : Ag T A) (hm : MW O 0 I) : ld T 20 136 1 I = some (O 0 2) := m_has h hm (k := 1) (by decide)
theorem m_h2 (h : Ag T A) (hm : MW O 0 I) : ld T 20 136 2 I = some (O 0 3) := m_has h hm (k := 2) (by decide)
theorem m_h3 (h : Ag T A) (hm : MW O 0 I) : ld T 20 136 3 I = some (O 0 4) := m_has h hm (k := 3) (by decide)
theorem m_h4 (h : Ag T A) (hm : MW O 0 I) : ld T 20 136 4 I = some (O 0 5) := m_has h hm (k := 4) (by decide)
theorem m_h5 (h : Ag T A) (hm : MW O 0 I) : ld T 20 136 5 I = some (O 0 6) := m_has h hm (k := 5) (by decide)
theorem m_l0 (h : Ag T A) (hm : MW O 0 I) : ld T 20 135 0 I = some (O 0 0) := by
  simp only [agM h]
  rw [if_pos (by decide)]
  rw [show (0 : Int).toNat = 0 from rfl, mw_lines hm]
theorem f_isBit1 (a : Int) : f_X11_isBit T A a I = some (if 0 ≤ a ∧ a ≤ 1 then 1 else 0) := by
  unfold f_X11_isBit
  by_cases c : 0 ≤ a ∧ a ≤ 1
  · rw [if_pos c]
    by_cases d : a = 0
    · rw [if_pos d]
    · rw [if_neg d, if_pos (by omega)]
  · rw [if_neg c, if_neg (by omega), if_neg (by omega)]
theorem q_official (h : Ag T A) (w : WF O) (hc : CV O 26 I) (hm : MW O 0 I) (a1 a2 : Int) : Quiet (f_X11_official T A 1 a1 a2 I) (f_X12_official T A 129 a1 a2 I) I := by
  have hm0 := mw_fr hm (fr_0 I)
  unfold f_X11_official f_X12_official
  simp only [agX h, agM h, agPl h, if_true, some_bind, c_has h w hc, m_isOfficial h w hm0, m_in]
  by_cases c : 0 ≤ a1 ∧ a1 < O 0 4
  · obtain ⟨o, rfl⟩ := Int.eq_ofNat_of_zero_le c.1
    by_cases d : 0 ≤ a2 ∧ a2 ≤ 8
    · obtain ⟨k, rfl⟩ := Int.eq_ofNat_of_zero_le d.1
      have hk : k < 9 := by omega
      simp only [if_pos c, if_pos d, n10, if_false, m_of h w hm0 hk c.2]
      rw [if_neg (by omega), if_pos d.2, if_pos (by omega), some_bind, Int.toNat_natCast, c_cell h w hc (by omega) c.2]
      exact ⟨_, _, rfl, rfl, fr_0 I⟩
    · simp only [if_pos c, if_neg d, n10, n00, if_false, if_true]
      refine ⟨-2, _, ?_, rfl, fr_0 I⟩
      split
      · rfl
      · rw [if_neg (by omega)]
  · simp only [if_neg c, n00, if_true]
    exact ⟨-2, _, rfl, rfl, fr_0 I⟩
theorem q_asks (h : Ag T A) (w : WF O) (hc : CV O 26 I) (hm : MW O 0 I) (a1 a2 : Int) : Quiet (f_X11_asks T A 1 a1 a2 I) (f_X12_asks_ T A 129 a1 a2 I) I := by
  have hm0 := mw_fr hm (fr_0 I)
  unfold f_X11_asks f_X12_asks_
  simp only [agX h, agM h, agPl h, if_true, some_bind, c_has h w hc, m_isOfficial h w hm0, m_in, f_isBit1]
  by_cases c : 0 ≤ a1 ∧ a1 < O 0 4
  · obtain ⟨o, rfl⟩ := Int.eq_ofNat_of_zero_le c.1
    by_cases d : 0 ≤ a2 ∧ a2 ≤ 1
    · simp only [if_pos c, if_pos d, n10, if_false]
      have hn := wf_n w
      rcases (by omega : a2 = 0 ∨ a2 = 1) with e | e
      · subst e
        rw [show ia 9 0 = 9 by decide, if_pos (by decide), some_bind, show 29 + (9 : Int).toNat = 38 from rfl, c_t9 h w hc c.2, if_pos rfl, if_pos (by omega), some_bind, Int.toNat_natCast, mw_needs hm0 c.2]
        exact ⟨_, _, rfl, rfl, fr_0 I⟩
      · subst e
        rw [show ia 9 1 = 10 by decide, if_pos (by decide), some_bind, show 29 + (10 : Int).toNat = 39 from rfl, c_t10 h w hc c.2, if_neg (by decide), if_pos (by omega), some_bind, Int.toNat_natCast, mw_bars hm0 c.2]
        exact ⟨_, _, rfl, rfl, fr_0 I⟩
    · simp only [if_pos c, if_neg d, n10, n00, if_false, if_true]
      exact ⟨-2, _, rfl, rfl, fr_0 I⟩
  · simp only [if_neg c, n00, if_true]
    exact ⟨-2, _, rfl, rfl, fr_0 I⟩
theorem q_permit (h : Ag T A) (hc : CV O 26 I) (hm : MW O 0 I) : Quiet (f_X11_permit T A 1 I) (f_X12_permit T A 129 I) I := by
  have hm0 := mw_fr hm (fr_0 I)
  unfold f_X11_permit f_X12_permit
  simp only [agX h, agM h, agPl h, if_true, some_bind, c_isThere h hc, m_isOffice h hm0, cv_permit hc]
  by_cases c : 0 < O 0 0
  · simp only [if_pos c, n10, if_false]
    rw [if_pos (by decide), some_bind, show (4 : Int).toNat = 4 from rfl, mw_permit hm0]
    exact ⟨_, _, rfl, rfl, fr_0 I⟩
  · simp only [if_neg c, n00, if_true]
    exact ⟨-2, _, rfl, rfl, fr_0 I⟩
theorem q_led (h : Ag T A) (w : WF O) (hc : CV O 26 I) (hm : MW O 0 I) (a1 : Int) : Quiet (f_X11_led T A 1 a1 I) (f_X12_led T A 129 a1 I) I := by
  have hm0 := mw_fr hm (fr_0 I)
  have hw : 0 ≤ O 0 6 ∧ O 0 6 ≤ 40 := w.2.2.2.2.2.2.1
  unfold f_X11_led f_X12_led
  simp only [agX h, agM h, agPl h, if_true, some_bind, c_isThere h hc, m_isOffice h hm0, cv_moved hc, m_in]
  by_cases c : 0 < O 0 0
  · simp only [if_pos c, n10, if_false]
    rw [if_pos (by decide : (0 : Int) ≤ 5 ∧ (5 : Int) < 30), some_bind, show (5 : Int).toNat = 5 from rfl, mw_acts hm0, isb_eq (by omega) (by omega)]
    by_cases d : 0 ≤ a1 ∧ a1 ≤ O 0 6 - 1
    · obtain ⟨k, rfl⟩ := Int.eq_ofNat_of_zero_le d.1
      simp only [if_pos d, n10, if_false, Int.toNat_natCast]
      rw [if_neg (by omega), if_pos (by omega), if_pos (by omega), if_pos (by omega), some_bind, some_bind]
      have e1 : I 27 k = O 1 k := hc.2.1 k (by omega)
      have e2 := hm0.2.2.1 k (by omega)
      rw [show 40 * 0 + k = k by omega] at e2
      rw [e1, e2]
      exact ⟨_, _, rfl, rfl, fr_0 I⟩
    · simp only [if_neg d, n00, if_true]
      refine ⟨-1, _, ?_, rfl, fr_0 I⟩
      split
      · rfl
      · rw [if_neg (by omega)]
  · simp only [if_neg c, n00, if_true]
    exact ⟨-2, _, rfl, rfl, fr_0 I⟩
end
