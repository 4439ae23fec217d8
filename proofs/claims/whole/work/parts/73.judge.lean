/-! B: count; judge and bribed. -/
def sms (f : Nat → Int) : Nat → Int
  | 0 => 0
  | n + 1 => sms f n + f n
theorem sms_rg {f : Nat → Int} (hf : ∀ i, 0 ≤ f i ∧ f i ≤ 8) (n : Nat) : 0 ≤ sms f n ∧ sms f n ≤ 8 * n := by
  induction n with
  | zero => exact ⟨Int.le_refl _, Int.le_refl _⟩
  | succ n ih => rw [sms]; have := hf n; omega
theorem scn8 (x : Int) : 0 ≤ scn (hb x) 8 ∧ scn (hb x) 8 ≤ 8 := scn_rg _ _
section
variable {T : Knd} {A : Rfs} {O : Ofc} {I J : Mem}
theorem c_countAsked (h : Ag T A) (wf : WF O) (hc : CV O 26 I) {w : Nat} (hw : w = 9 ∨ w = 10) : f_X2_countAsked T A 26 (w : Int) I = some (sms (fun i => scn (hb (O (3 + w) i)) 8) (oN O)) := by
  obtain ⟨hn, en⟩ := on_le wf
  unfold f_X2_countAsked
  rw [if_pos (by rw [kT_26 h]), show gi T 2 4 26 I = some (I 26 4) by simp only [agPl h], cv_n hc, en, pg h]
  refine it_seq (fun i => (sms (fun i => scn (hb (O (3 + w) i)) 8) i, (i : Int))) (oN O) (fun i hi => ?_) ?_ FU (by unfold FU; omega)
  · dsimp only
    have hr := sms_rg (f := fun i => scn (hb (O (3 + w) i)) 8) (fun i => scn8 _) i
    have h8 := scn8 (O (3 + w) i)
    have hs : sl (O 0 4).toNat (O (3 + w) i) := by
      have hw9 : WO O i := wf.2.2.2.2.2.2.2.2.1 i (by omega)
      rcases hw with e | e
      · subst e; exact hw9.2.2.2.2.2.2.2.2.1.1
      · subst e; exact hw9.2.2.2.2.2.2.2.2.2.1
    have hr2 := sl_8.mp (sl_le hs (by omega))
    obtain ⟨x, ex⟩ := Int.eq_ofNat_of_zero_le hr2.1
    rw [some_bind, if_pos (by omega), some_bind, c_row h (by omega), some_bind, c_cell h wf hc (by omega) (by omega), some_bind, ex, f_bitCount (by omega), some_bind, ← ex, ia_1 (by omega), ia_eq (by omega) (by omega)]
    rfl
  · dsimp only
    rw [some_bind, if_neg (by omega)]
theorem m_countB (h : Ag T A) (wf : WF O) (hm : MW O 0 J) {w : Nat} (hw : w = 0 ∨ w = 1) : it (fun (s11 : Int × Int) => (some 136).bind fun x14 => (ld T 20 x14 3 J).bind fun x15 => if s11.2 < x15 then (some (138 + w)).bind fun x17 => (ld T 20 x17 s11.2 J).bind fun x18 => (f_X12_sizeOf T A x18 J).bind fun e20 => some (.inl (ia s11.1 e20, ia s11.2 1)) else some (.inr (s11.1, J))) FU (0, 0) = some (sms (fun i => scn (hb (O (12 + w) i)) 8) (oN O), J) := by
  obtain ⟨hn, en⟩ := on_le wf
  refine it_seq (fun i => (sms (fun i => scn (hb (O (12 + w) i)) 8) i, (i : Int))) (oN O) (fun i hi => ?_) ?_ FU (by unfold FU; omega)
  · dsimp only
    have hr := sms_rg (f := fun i => scn (hb (O (12 + w) i)) 8) (fun i => scn8 _) i
    have h8 := scn8 (O (12 + w) i)
    have hw9 : WO O i := wf.2.2.2.2.2.2.2.2.1 i (by omega)
    have hi4 : (i : Int) < O 0 4 := by omega
    have hl : ld T 20 (138 + w) (i : Int) J = some (O (12 + w) i) := by
      rcases hw with e | e
      · subst e; exact m_needs h wf hm hi4
      · subst e; exact m_bars h wf hm hi4
    have hs : sl (O 0 4).toNat (O (12 + w) i) := by
      rcases hw with e | e
      · subst e; exact hw9.2.2.2.2.2.2.2.2.1.1
      · subst e; exact hw9.2.2.2.2.2.2.2.2.2.1
    have hr2 := sl_8.mp (sl_le hs (by omega))
    obtain ⟨x, ex⟩ := Int.eq_ofNat_of_zero_le hr2.1
    rw [some_bind, m_h3 h hm, some_bind, if_pos hi4, some_bind, hl, some_bind, ex, f_sizeOf (by omega), some_bind, ← ex, ia_1 (by omega), ia_eq (by omega) (by omega)]
    rfl
  · dsimp only
    rw [some_bind, m_h3 h hm, some_bind, if_neg (by omega)]
theorem q_count (b : Bas T A O I) (t : TP I) (u : SL I) (a1 : Int) : Quiet (f_X11_count T A 1 a1 I) (f_X12_count T A 129 a1 I) I := by
  obtain ⟨h, wf, hc, hm, g, ht, hnx, k, hq⟩ := b
  have hm0 := mw_fr hm (fr_0 I)
  have g2 : gr T A 11 2 1 = some 26 := by simp only [agX h]
  have g0 : gr T A 11 0 1 = some 2 := by simp only [agX h]
  have gi2 : ∀ k, gi T 2 k 26 I = some (I 26 k) := fun k => by simp only [agPl h]
  have g17 : gr T A 12 17 129 = some 136 := by simp only [agMg h]
  have g19 : gr T A 12 19 129 = some 138 := by simp only [agMg h]
  have g20 : gr T A 12 20 129 = some 139 := by simp only [agMg h]
  have pi' : ∀ q v (J : Mem), pi T 12 q 129 v J = some (mu J 129 q v) := fun q v J => by simp only [agMg h]
  have gi' : ∀ q (J : Mem), gi T 12 q 129 J = some (J 129 q) := fun q J => by simp only [agMg h]
  unfold f_X11_count f_X12_count
  rw [if_pos (show (T 1).1 = 11 by rw [kT_1 h]), if_pos (show (T 129).1 = 12 by rw [kT_129 h]), pi', some_bind]
  by_cases c0 : a1 = 0
  · rw [if_pos c0, if_pos c0, g2, some_bind, gi2, some_bind, g17, some_bind, m_h3 h hm0, some_bind, cv_n hc]
    exact ⟨_, _, rfl, rfl, fr_0 I⟩
  · rw [if_neg c0, if_neg c0]
    by_cases c1 : a1 = 1
    · rw [if_pos c1, if_pos c1, g2, some_bind, gi2, some_bind, g17, some_bind, m_h0 h hm0, some_bind, cv_rooms hc]
      exact ⟨_, _, rfl, rfl, fr_0 I⟩
    · rw [if_neg c1, if_neg c1]
      by_cases c2 : a1 = 2
      · rw [if_pos c2, if_pos c2, g2, some_bind, show f_X2_countAsked T A 26 9 I = _ from c_countAsked h wf hc (w := 9) (Or.inl rfl), some_bind, g17, g19]
        exact ⟨_, _, rfl, m_countB h wf hm0 (w := 0) (Or.inl rfl), fr_0 I⟩
      · rw [if_neg c2, if_neg c2]
        by_cases c3 : a1 = 3
        · rw [if_pos c3, if_pos c3, g2, some_bind, show f_X2_countAsked T A 26 10 I = _ from c_countAsked h wf hc (w := 10) (Or.inr rfl), some_bind, g17, g20]
          exact ⟨_, _, rfl, m_countB h wf hm0 (w := 1) (Or.inr rfl), fr_0 I⟩
        · rw [if_neg c3, if_neg c3]
          by_cases c4 : a1 = 4
          · rw [if_pos c4, if_pos c4, g2, some_bind, gi2, some_bind, show gr T A 12 16 129 = some 135 by simp only [agMg h], some_bind, m_l0 h hm0, some_bind, cv_lines hc]
            exact ⟨_, _, rfl, rfl, fr_0 I⟩
          · rw [if_neg c4, if_neg c4]
            by_cases c5 : a1 = 5
            · rw [if_pos c5, if_pos c5, g0, some_bind, show gi T 8 1 2 I = some (I 2 1) by simp only [agTape h], some_bind, gi', some_bind, mu_o _ _ (by omega), t.1]
              exact ⟨_, _, rfl, rfl, fr_0 I⟩
            · rw [if_neg c5, if_neg c5]
              by_cases c6 : a1 = 6
              · rw [if_pos c6, if_pos c6, g2, some_bind, gi2, some_bind, g17, some_bind, m_h5 h hm0, some_bind, cv_moved hc]
                exact ⟨_, _, rfl, rfl, fr_0 I⟩
              · rw [if_neg c6, if_neg c6]
                by_cases c7 : a1 = 7
                · rw [if_pos c7, if_pos c7, g2, some_bind, gi2, some_bind, g17, some_bind, m_h2 h hm0, some_bind, cv_hour hc]
                  exact ⟨_, _, rfl, rfl, fr_0 I⟩
                · rw [if_neg c7, if_neg c7]
                  by_cases c8 : a1 = 8
                  · rw [if_pos c8, if_pos c8, show gr T A 11 11 1 = some 111 by simp only [agX h], some_bind]
                    have e1 : f_X7_howMany T A 111 I = some (scn (fun s => decide (I 118 s ≠ -1)) 4) := by
                      unfold f_X7_howMany
                      rw [if_pos (by rw [kT_111 h])]
                      refine it_seq (fun i => (scn (fun s => decide (I 118 s ≠ -1)) i, (i : Int))) 4 (fun i hi => ?_) ?_ FU (by decide)
                      · dsimp only
                        have hr := scn_rg (fun s => decide (I 118 s ≠ -1)) i
                        rw [if_pos (by omega), c_hasRow h hi, some_bind, ia_1 (by omega), ia_eq (by omega) (by omega), scn]
                        by_cases d : I 118 i = -1
                        · rw [if_pos d, if_pos rfl, if_neg (by rw [decide_eq_false (fun q => q d)]; decide), Int.add_zero]
                        · rw [if_neg d, if_neg (by decide), if_pos (decide_eq_true d)]
                      · dsimp only
                        rw [if_neg (by decide)]
                    rw [e1, some_bind, show gr T A 12 1 129 = some 130 by simp only [agMg h]]
                    refine ⟨_, _, rfl, ?_, fr_0 I⟩
                    refine it_seq (fun i => (scn (fun s => decide (I 118 s ≠ -1)) i, (i : Int))) 4 (fun i hi => ?_) ?_ FU (by decide)
                    · dsimp only
                      have hr := scn_rg (fun s => decide (I 118 s ≠ -1)) i
                      rw [if_pos (by omega), some_bind, l130 h hi, some_bind, mu_o _ _ (by omega), ia_1 (by omega), ia_eq (b := 0) (by omega) (by omega), ia_eq (by omega) (by omega), scn]
                      rcases u i hi with ⟨d1, d2⟩ | d
                      · rw [if_pos d1, if_neg (by rw [decide_eq_false (fun q => q d2)]; decide)]
                      · rw [if_neg (by omega), if_pos (decide_eq_true (by omega))]
                    · dsimp only
                      rw [if_neg (by decide)]
                  · rw [if_neg c8, if_neg c8]
                    exact ⟨_, _, rfl, rfl, fr_0 I⟩
/-! a slot's row as an order -/
/-- a slot's row is one of officials -/
def rok (O : Ofc) (I : Mem) (s : Nat) : Prop := ∀ i : Nat, (i : Int) < I 131 s → 0 ≤ I 132 (60 * s + i) ∧ I 132 (60 * s + i) < O 0 4
def rbad (O : Ofc) (I : Mem) (s : Nat) : Bool := anyf (fun i => !(decide (0 ≤ I 132 (60 * s + i)) && decide (I 132 (60 * s + i) < O 0 4))) 0 (I 131 s).toNat
def rfz (O : Ofc) (I : Mem) (a : Int) : Int := if 0 ≤ a ∧ a ≤ 3 ∧ 0 < O 0 0 then (if I 130 a.toNat = -1 then -6 else if rbad O I a.toNat then -2 else 0) else -2
theorem lt_cmp (a b : Int) : (ilcmp a b < 0) = (a < b) := by
  unfold ilcmp
  by_cases c : a < b
  · rw [if_pos c]; exact propext ⟨fun _ => c, fun _ => by decide⟩
  · rw [if_neg c]
    by_cases d : a = b
    · rw [if_pos d]; exact propext ⟨fun e => absurd e (by decide), fun e => absurd e c⟩
    · rw [if_neg d]; exact propext ⟨fun e => absurd e (by decide), fun e => absurd e c⟩
theorem l21 (h : Ag T A) {s i : Nat} (hs : s < 4) (hi : i < 60) : ld T 21 (113 + s) (i : Int) I = some (I (113 + s) i) := by rw [ev_ld (kT_num h hs), if_pos (by omega), Int.toNat_natCast]
theorem l132 (h : Ag T A) {s i : Nat} (hs : s < 4) (hi : i < 60) (J : Mem) : ld T 21 132 (ia (im 60 (s : Int)) (i : Int)) J = some (J 132 (60 * s + i)) := by
  rw [im_eq (by omega) (by omega), ia_eq (by omega) (by omega), ev_ld (kT_132 h), if_pos (by omega), show (60 * (s : Int) + i).toNat = 60 * s + i by omega]
theorem c_refusal (h : Ag T A) (wf : WF O) (hc : CV O 26 I) (u : SL I) (a : Int) : f_X11_refusal T A 1 a I = some (rfz O I a) := by
  unfold f_X11_refusal rfz
  have g11 : gr T A 11 11 1 = some 111 := by simp only [agX h]
  have g2 : gr T A 11 2 1 = some 26 := by simp only [agX h]
  rw [if_pos (by rw [kT_1 h]), g11, some_bind, c_isSlot h, some_bind, g2]
  by_cases c : 0 ≤ a ∧ a ≤ 3
  · obtain ⟨s, rfl⟩ := Int.eq_ofNat_of_zero_le c.1
    have hs : s < 4 := by omega
    rw [if_pos c, if_neg (by decide), some_bind, c_isThere h hc, some_bind, Int.toNat_natCast]
    by_cases d : 0 < O 0 0
    · rw [if_pos d, if_neg (by decide), some_bind, c_hasRow h hs, some_bind, if_pos (show 0 ≤ (s : Int) ∧ (s : Int) ≤ 3 ∧ 0 < O 0 0 from ⟨c.1, c.2, d⟩)]
      rcases u s hs with ⟨w1, w2⟩ | ⟨w1, w2, w3, w4, w5⟩
      · rw [if_pos w2, if_pos rfl, if_pos w1]
      · rw [if_neg (show ¬ I 118 s = -1 by omega), if_neg (by decide), if_neg (show ¬ I 130 s = -1 by omega), some_bind, some_bind, show gi T 2 4 26 I = some (I 26 4) by simp only [agPl h], some_bind, cv_n hc]
        have e : f_X7_areBelow T A 111 (s : Int) (O 0 4) I = some (if rbad O I s then 0 else 1) := by
          unfold f_X7_areBelow
          rw [if_pos (by rw [kT_111 h]), c_lengthOf h hs, if_neg (show ¬ I 118 s = -1 by omega), w4, show gr T A 7 0 111 = some 112 by simp only [agSl h]]
          have := it_any (R := Int) (step := fun (s2 : Int) => (some (I 131 s)).bind fun e4 => if s2 < e4 then (some 112).bind fun x7 => (lr T A 25 x7 (s : Int)).bind fun x8 => (ld T 21 x8 s2 I).bind fun x9 => if (ilcmp x9 0) < 0 then some (.inr 0) else (some 112).bind fun x11 => (lr T A 25 x11 (s : Int)).bind fun x12 => (ld T 21 x12 s2 I).bind fun x13 => if (ilcmp x13 (O 0 4)) < 0 then some (.inl (ia s2 1)) else some (.inr 0) else some (.inr 1)) (fun i => !(decide (0 ≤ I 132 (60 * s + i)) && decide (I 132 (60 * s + i) < O 0 4))) (fun z => if z = 1 then 0 else 1) (I 131 s).toNat (fun i hi => ?_) ?_ FU (by unfold FU; omega)
          · refine this.trans ?_
            unfold rbad
            cases anyf (fun i => !(decide (0 ≤ I 132 (60 * s + i)) && decide (I 132 (60 * s + i) < O 0 4))) 0 (I 131 s).toNat <;> rfl
          · have hi60 : i < 60 := by omega
            try dsimp only
            rw [some_bind, if_pos (by omega), some_bind, r112 h hs, some_bind, l21 h hs hi60, some_bind, some_bind, r112 h hs, some_bind, l21 h hs hi60, some_bind, w5 i (by omega), ia_1 (by omega)]
            simp only [lt_cmp]
            by_cases z1 : I 132 (60 * s + i) < 0
            · rw [if_pos z1, decide_eq_false (p := 0 ≤ I 132 (60 * s + i)) (by omega)]; rfl
            · rw [if_neg z1, decide_eq_true (p := 0 ≤ I 132 (60 * s + i)) (by omega)]
              by_cases z2 : I 132 (60 * s + i) < O 0 4
              · rw [if_pos z2, decide_eq_true z2]; rfl
              · rw [if_neg z2, decide_eq_false z2]; rfl
          · try dsimp only
            rw [some_bind, if_neg (by omega)]; rfl
        rw [e, some_bind]
        cases rbad O I s <;> rfl
    · rw [if_neg d, if_pos rfl, if_neg (show ¬ (0 ≤ (s : Int) ∧ (s : Int) ≤ 3 ∧ 0 < O 0 0) from fun q => d q.2.2)]
  · rw [if_neg c, if_pos rfl, if_neg (show ¬ (0 ≤ a ∧ a ≤ 3 ∧ 0 < O 0 0) from fun q => c ⟨q.1, q.2.1⟩)]
theorem m_whyNot (h : Ag T A) (wf : WF O) (hm : MW O 0 I) (u : SL I) (a : Int) : f_X12_whyNot T A 129 a I = some (rfz O I a) := by
  unfold f_X12_whyNot rfz
  rw [if_pos (by rw [kT_129 h]), m_isSlot, some_bind]
  by_cases c : 0 ≤ a ∧ a ≤ 3
  · obtain ⟨s, rfl⟩ := Int.eq_ofNat_of_zero_le c.1
    have hs : s < 4 := by omega
    rw [if_pos c, if_neg (by decide), m_isOffice h hm, some_bind, Int.toNat_natCast]
    by_cases d : 0 < O 0 0
    · rw [if_pos d, if_neg (by decide), if_pos (show 0 ≤ (s : Int) ∧ (s : Int) ≤ 3 ∧ 0 < O 0 0 from ⟨c.1, c.2, d⟩), show gr T A 12 1 129 = some 130 by simp only [agMg h], some_bind, l130 h hs, some_bind]
      rcases u s hs with ⟨w1, w2⟩ | ⟨w1, w2, w3, w4, w5⟩
      · rw [if_pos w1, if_pos w1]
      · rw [if_neg (show ¬ I 130 s = -1 by omega), if_neg (show ¬ I 130 s = -1 by omega), show gr T A 12 2 129 = some 131 by simp only [agMg h], show gr T A 12 3 129 = some 132 by simp only [agMg h]]
        have := it_any (R := Int) (step := fun (s11 : Int) => (some 131).bind fun x13 => (ld T 20 x13 (s : Int) I).bind fun x14 => if s11 < x14 then (some 132).bind fun x16 => (ld T 21 x16 (ia (im 60 (s : Int)) s11) I).bind fun x17 => (f_X12_isOfficial T A 129 x17 I).bind fun e19 => if e19 = 0 then some (.inr (-2)) else some (.inl (ia s11 1)) else some (.inr 0)) (fun i => !(decide (0 ≤ I 132 (60 * s + i)) && decide (I 132 (60 * s + i) < O 0 4))) (fun z => if z = 1 then -2 else 0) (I 131 s).toNat (fun i hi => ?_) ?_ FU (by unfold FU; omega)
        · refine this.trans ?_
          unfold rbad
          cases anyf (fun i => !(decide (0 ≤ I 132 (60 * s + i)) && decide (I 132 (60 * s + i) < O 0 4))) 0 (I 131 s).toNat <;> rfl
        · have hi60 : i < 60 := by omega
          try dsimp only
          rw [some_bind, l131 h hs, some_bind, if_pos (by omega), some_bind, l132 h hs hi60, some_bind, m_isOfficial h wf hm, some_bind, ia_1 (by omega)]
          by_cases z1 : 0 ≤ I 132 (60 * s + i) ∧ I 132 (60 * s + i) < O 0 4
          · rw [if_pos z1, if_neg (by decide), decide_eq_true z1.1, decide_eq_true z1.2]; rfl
          · rw [if_neg z1, if_pos rfl]
            by_cases z2 : 0 ≤ I 132 (60 * s + i)
            · rw [decide_eq_true z2, decide_eq_false (p := I 132 (60 * s + i) < O 0 4) (fun q => z1 ⟨z2, q⟩)]; rfl
            · rw [decide_eq_false z2]; rfl
        · try dsimp only
          rw [some_bind, l131 h hs, some_bind, if_neg (by omega)]; rfl
    · rw [if_neg d, if_pos rfl, if_neg (show ¬ (0 ≤ (s : Int) ∧ (s : Int) ≤ 3 ∧ 0 < O 0 0) from fun q => d q.2.2)]
  · rw [if_neg c, if_pos rfl, if_neg (show ¬ (0 ≤ a ∧ a ≤ 3 ∧ 0 < O 0 0) from fun q => c ⟨q.1, q.2.1⟩)]
theorem rfz_0 (u : SL I) {a : Int} (e : rfz O I a = 0) : ∃ s : Nat, a = (s : Int) ∧ s < 4 ∧ 0 < O 0 0 ∧ (0 ≤ I 131 s ∧ I 131 s ≤ 60) ∧ I 118 s = I 131 s ∧ (∀ k : Nat, (k : Int) < I 131 s → I (113 + s) k = I 132 (60 * s + k)) ∧ rok O I s := by
  unfold rfz at e
  by_cases c : 0 ≤ a ∧ a ≤ 3 ∧ 0 < O 0 0
  · rw [if_pos c] at e
    obtain ⟨s, rfl⟩ := Int.eq_ofNat_of_zero_le c.1
    rw [Int.toNat_natCast] at e
    have hs : s < 4 := by omega
    rcases u s hs with ⟨w1, w2⟩ | ⟨w1, w2, w3, w4, w5⟩
    · rw [if_pos w1] at e; exact absurd e (by decide)
    · rw [if_neg (show ¬ I 130 s = -1 by omega)] at e
      refine ⟨s, rfl, hs, c.2.2, w3, w4, w5, fun i hi => ?_⟩
      by_cases z : 0 ≤ I 132 (60 * s + i) ∧ I 132 (60 * s + i) < O 0 4
      · exact z
      · have : rbad O I s = true := by
          unfold rbad
          refine (anyf_iff _ _ _).mpr ⟨i, by omega, by omega, ?_⟩
          by_cases z2 : 0 ≤ I 132 (60 * s + i)
          · rw [decide_eq_true z2, decide_eq_false (p := I 132 (60 * s + i) < O 0 4) (fun q => z ⟨z2, q⟩)]; rfl
          · rw [decide_eq_false z2]; rfl
        rw [this] at e; exact absurd e (by decide)
  · rw [if_neg c] at e; exact absurd e (by decide)
end
