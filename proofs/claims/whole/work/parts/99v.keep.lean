/-! B: keep and back. -/
def Img (T : Knd) (A : Rfs) (nx : Nat) (I : Mem) : Prop := 153 ≤ nx ∧ (∀ k, k < 3 → (A 128 k = 0 ∧ I 142 k = 0) ∨ ∃ Q, 154 ≤ A 128 k ∧ A 128 k + 20 ≤ nx ∧ PlS T A (A 128 k) ∧ I 142 k = 1 ∧ CV Q (A 128 k) I ∧ MW Q (1 + k) I ∧ WF Q ∧ LG Q) ∧ ∀ j k, j < 3 → k < 3 → j ≠ k → A 128 j ≠ 0 → A 128 k ≠ 0 → A 128 j + 20 < A 128 k ∨ A 128 k + 20 < A 128 j
section
variable {T : Knd} {A : Rfs} {I J K M : Mem} {O : Ofc} {nx : Nat}
theorem rst_154 {o k : Nat} (h : 154 ≤ o) : rst o k = true := by
  unfold rst
  rw [decide_eq_true h, Bool.or_true]
theorem rst_sl {o k : Nat} (h : (o = 135 ∧ 1 ≤ k ∧ k < 4) ∨ (o = 136 ∧ 6 ≤ k ∧ k < 24) ∨ (o = 137 ∧ 72 ≤ k ∧ k < 288) ∨ ((o = 138 ∨ o = 139) ∧ 8 ≤ k ∧ k < 32) ∨ (o = 140 ∧ 36 ≤ k ∧ k < 144) ∨ (o = 141 ∧ 40 ≤ k ∧ k < 160)) : rst o k = true := by
  rcases h with ⟨z, z1, z2⟩ | ⟨z, z1, z2⟩ | ⟨z, z1, z2⟩ | ⟨z | z, z1, z2⟩ | ⟨z, z1, z2⟩ | ⟨z, z1, z2⟩ <;> (subst z; unfold rst; rw [decide_eq_true z1, decide_eq_true z2]; rfl)
theorem cvp_ag {P : Nat} (h : CV O P I) (e : ∀ o k, P ≤ o → o ≤ P + 20 → J o k = I o k) : CV O P J := cv_ag h e
theorem img_rf (g : Img T A nx I) (f : RF I K) : Img T A nx K := by
  obtain ⟨g1, g2, g3⟩ := g
  have e : ∀ o k, rst o k = true → K o k = I o k := f
  refine ⟨g1, fun k hk => ?_, g3⟩
  have e142 : K 142 k = I 142 k := e _ _ (by unfold rst; simp)
  rw [e142]
  rcases g2 k hk with z | ⟨Q, q1, q2, q3, q4, q5, q6, q7, q8⟩
  · exact Or.inl z
  · refine Or.inr ⟨Q, q1, q2, q3, q4, cvp_ag q5 (fun o k h1 h2 => e o k (rst_154 (by omega))), ?_, q7, q8⟩
    have hn := wf_n q7
    have h6 := q7.2.2.2.2.2.2.1
    have e' : ∀ o k, ((o = 135 ∧ 1 ≤ k ∧ k < 4) ∨ (o = 136 ∧ 6 ≤ k ∧ k < 24) ∨ (o = 137 ∧ 72 ≤ k ∧ k < 288) ∨ ((o = 138 ∨ o = 139) ∧ 8 ≤ k ∧ k < 32) ∨ (o = 140 ∧ 36 ≤ k ∧ k < 144) ∨ (o = 141 ∧ 40 ≤ k ∧ k < 160)) → K o k = I o k := fun o k hh => e o k (rst_sl hh)
    obtain ⟨m1, m2, m3, m4, m5, m6, m7⟩ := q6
    refine ⟨?_, fun x hx => ?_, fun x hx => ?_, fun w o hw ho => ?_, fun o ho => ?_, fun o ho => ?_, fun r c hr hc => ?_⟩
    · rw [e' _ _ (by omega)]; exact m1
    · rw [e' _ _ (by omega)]; exact m2 x hx
    · rw [e' _ _ (by omega)]; exact m3 x hx
    · rw [e' _ _ (by omega)]; exact m4 w o hw ho
    · rw [e' _ _ (by omega)]; exact m5 o ho
    · rw [e' _ _ (by omega)]; exact m6 o ho
    · rw [e' _ _ (by omega)]; exact m7 r c hr hc
theorem x14 (h : Ag T A) : gr T A 11 14 1 = some 128 := ev_gr (kT_1 h) rfl (kA h (by decide +kernel)) (by decide)
theorem l128 (h : Ag T A) {k : Nat} (hk : k < 3) : lrz T A 26 128 (k : Int) = some (A 128 k == 0) := by
  unfold lrz
  rw [kT_128 h, if_pos ⟨rfl, by omega, by omega⟩, Int.toNat_natCast]
theorem r128 (h : Ag T A) {k : Nat} (hk : k < 3) (hA : A 128 k ≠ 0) : lr T A 26 128 (k : Int) = some (A 128 k) := by
  unfold lr
  rw [kT_128 h, if_pos ⟨rfl, by omega, by omega, by rw [Int.toNat_natCast]; exact hA⟩, Int.toNat_natCast]
theorem s_back (bs : Bas T A O I) (cc : Cch O I) (im_ : Img T A nx I) (a1 : Int) : ∃ v J K O', f_X11_back T A 1 a1 I = some (v, J) ∧ f_X12_back T A 129 a1 J = some (v, K) ∧ Bas T A O' K ∧ Cch O' K ∧ RF I K := by
  have b' := bs
  obtain ⟨h, wf, hc, hm, g, ht, hnx, kw, hq⟩ := bs
  obtain ⟨g0, g1, g2, g3, g4⟩ := g_ev h
  obtain ⟨i1, i2, i3⟩ := im_
  unfold f_X11_back f_X12_back
  rw [if_pos (show (T 1).1 = 11 by rw [kT_1 h])]
  by_cases c : 0 ≤ a1 ∧ a1 ≤ 2
  · obtain ⟨k, rfl⟩ := Int.eq_ofNat_of_zero_le c.1
    have hk : k < 3 := by omega
    rw [if_neg (by omega), x14 h, some_bind, ev_aln (kT_128 h), some_bind, if_pos (by omega), some_bind, l128 h hk, some_bind]
    rcases i2 k hk with ⟨z1, z2⟩ | ⟨Q, q1, q2, q3, q4, q5, q6, q7, q8⟩
    · rw [if_pos (by rw [z1]; rfl)]
      refine ⟨-6, I, mu I 129 0 0, O, rfl, ?_, bas_fr b' (fr_0 I), cch_fr cc (fr_0 I), rf_fr (fr_0 I)⟩
      rw [if_pos g0, g3, some_bind, m_in, some_bind, if_pos c, if_neg (by decide), (q_ev h).2.2.2.2.2.2.2, some_bind, ev_ld (kT_142 h), if_pos (by omega), some_bind, Int.toNat_natCast, mu_o _ _ (by omega), z2, if_pos rfl]
    · have hA : A 128 k ≠ 0 := by omega
      have hn := wf_n q7
      have h6 := q7.2.2.2.2.2.2.1
      rw [if_neg (by rw [beq_iff_eq]; exact hA), show gr T A 11 2 1 = some 26 by simp only [agX h], some_bind, some_bind, r128 h hk hA, some_bind]
      obtain ⟨J1, e1, c1, c2, c3, c4, c5⟩ := c_copyFrom (I := I) (pls_26 h) q3 (by decide) (by omega) (Or.inl (by omega))
      have cv1 : CV Q 26 J1 := cv_copy q5 hn.2 h6.2 ⟨c1, c2, c3, c4⟩
      obtain ⟨J2, e2, d1, d2, d3, d4, d5, d6, d7⟩ := c_planChanged h q7 q8 cv1
      rw [e1, some_bind, e2, some_bind]
      have jI : ∀ o k, ¬ (26 ≤ o ∧ o ≤ 65) → ¬ (o = 1 ∧ k = 15) → ¬ ((o = 68 ∨ o = 79) ∧ k = 6) → J2 o k = I o k := fun o k h1 h2 h3 => by rw [d1 _ _ (by omega) h2 h3, c5 _ _ (by omega)]
      have m0 : MW Q (1 + k) (mu J2 129 0 0) := mw_ag q6 (fun o x h1 h2 => by rw [mu_o _ _ (by omega), jI _ _ (by omega) (by omega) (by omega)])
      obtain ⟨K, eK, p2⟩ := m_copyOffice (I := mu J2 129 0 0) h (a := 1 + k) (d := 0) (by omega) (by decide) (by omega)
      have hm2 := mw_copy m0 hn.2 h6.2 p2
      have fr := p2.2.2.2.2.2.2.2
      have kJ : ∀ o x, o < 129 → K o x = J2 o x := fun o x ho => by rw [fr _ _ (fun z => by unfold slt at z; omega), mu_o _ _ (by omega)]
      refine ⟨0, J2, K, Q, rfl, ?_, ⟨h, q7, cv_ag cv1 (fun o x h1 h2 => by rw [kJ _ _ (by omega), d1 _ _ (by omega) (by omega) (by omega)]), hm2, q8, tw_ag q7 d2 (fun o x h1 h2 => kJ o x (by omega)), tn_ag q7 d3 (fun o x h1 h2 => kJ o x (by omega)), cw_ag d4 (fun o x h1 => kJ o x (by omega)), ?_⟩, ⟨Or.inl (by rw [kJ _ _ (by omega)]; exact d6), Or.inl (by rw [kJ _ _ (by omega)]; exact d7), Or.inl (by rw [kJ _ _ (by omega)]; exact d5)⟩, fun o x hr => ?_⟩
      · have e142 : (mu J2 129 0 0) 142 k = 1 := by rw [mu_o _ _ (by omega), jI _ _ (by omega) (by omega) (by omega)]; exact q4
        rw [if_pos g0, g3, some_bind, m_in, some_bind, if_pos c, if_neg (by decide), (q_ev h).2.2.2.2.2.2.2, some_bind, ev_ld (kT_142 h), if_pos (by omega), some_bind, Int.toNat_natCast, e142, if_neg (by decide), show ia 1 (k : Int) = ((1 + k : Nat) : Int) by rw [ia_eq (by omega) (by omega)]; omega, show f_X12_copyOffice T A 129 ((1 + k : Nat) : Int) 0 (mu J2 129 0 0) = some K from eK, some_bind]
      · rw [fr _ _ (fun z => by unfold slt at z; omega), mu_o _ _ (by omega), jI _ _ (by omega) (by omega) (by omega)]
        exact hq
      · unfold rst at hr
        simp only [Bool.or_eq_true, Bool.and_eq_true, decide_eq_true_iff, beq_iff_eq] at hr
        rw [fr _ _ (fun z => by unfold slt at z; omega), mu_o _ _ (by omega), jI _ _ (by omega) (by omega) (by omega)]
  · refine ⟨-2, I, mu I 129 0 0, O, ?_, ?_, bas_fr b' (fr_0 I), cch_fr cc (fr_0 I), rf_fr (fr_0 I)⟩
    · by_cases d : a1 < 0
      · rw [if_pos d]
      · rw [if_neg d, x14 h, some_bind, ev_aln (kT_128 h), some_bind, if_neg (by omega)]
    · rw [if_pos g0, g3, some_bind, m_in, some_bind, if_neg c, if_pos rfl]
theorem pls_ext {T' : Knd} {A' : Rfs} {P : Nat} (q : PlS T A P) (h1 : ∀ o, P ≤ o → o ≤ P + 20 → T' o = T o) (h2 : ∀ o k, P ≤ o → o ≤ P + 20 → A' o k = A o k) : PlS T' A' P := by
  obtain ⟨q1, q2, q3, q4, q5, q6, q7, q8, q9, q10, q11⟩ := q
  exact ⟨by rw [h1 _ (by omega) (by omega)]; exact q1, by rw [h1 _ (by omega) (by omega)]; exact q2, by rw [h1 _ (by omega) (by omega)]; exact q3, fun k hk => by rw [h1 _ (by omega) (by omega)]; exact q4 k hk, by rw [h1 _ (by omega) (by omega)]; exact q5, fun k hk => by rw [h1 _ (by omega) (by omega)]; exact q6 k hk, by rw [h2 _ _ (by omega) (by omega)]; exact q7, by rw [h2 _ _ (by omega) (by omega)]; exact q8, by rw [h2 _ _ (by omega) (by omega)]; exact q9, fun k hk => by rw [h2 _ _ (by omega) (by omega)]; exact q10 k hk, fun k hk => by rw [h2 _ _ (by omega) (by omega)]; exact q11 k hk⟩
/-- a new plan is made, and hung into the row of images -/
theorem mk_plan (h128 : T 128 = (26, 3)) (hx : 153 ≤ nx) {k : Nat} (hk : k < 3) : ∃ T' A' I', ((nwO 2 (T, A, nx, I)).bind fun S5 => (f_X2_init S5.1 S5.2.1 S5.2.2.1 (nx + 1) S5.2.2.2).bind fun e6 => (aar 128 (k : Int) (nx + 1) (e6.1, e6.2.1, e6.2.2.1, e6.2.2.2)).bind fun S7 => some S7) = some (T', A', nx + 21, I') ∧ (∀ o, o ≤ nx → T' o = T o) ∧ (∀ o j, o ≤ nx → ¬ (o = 128 ∧ j = k) → A' o j = A o j) ∧ A' 128 k = nx + 1 ∧ PlS T' A' (nx + 1) ∧ ∀ o j, o ≤ nx → I' o j = I o j := by
  obtain ⟨P, eP⟩ : ∃ P, nx + 1 = P := ⟨_, rfl⟩
  have n0 : nx = P - 1 := by omega
  unfold f_X2_init
  rw [show nwO 2 (T, A, nx, I) = some (nwC (2, 0) (T, A, nx, I)) from rfl, some_bind]
  obtain ⟨S5, e5⟩ : ∃ S5, nwC (2, 0) (T, A, nx, I) = S5 := ⟨_, rfl⟩
  have a5 : S5.2.2.1 = P := by rw [← e5]; exact eP
  have t5 : ∀ o, S5.1 o = if o = P then (2, 0) else T o := fun o => by rw [← e5, ← eP]; rfl
  have r5 : ∀ o j, S5.2.1 o j = if o = P then 0 else A o j := fun o j => by rw [← e5, ← eP]; rfl
  have i5 : ∀ o j, S5.2.2.2 o j = if o = P then 0 else I o j := fun o j => by rw [← e5, ← eP]; rfl
  rw [e5, eP, show nwA 20 40 (S5.1, S5.2.1, S5.2.2.1, S5.2.2.2) = some (nwC (20, 40) S5) from if_pos (by decide), some_bind]
  obtain ⟨S6, e6⟩ : ∃ S6, nwC (20, 40) S5 = S6 := ⟨_, rfl⟩
  have a6 : S6.2.2.1 = P + 1 := by rw [← e6, ← a5]; rfl
  have t6 : ∀ o, S6.1 o = if o = P + 1 then (20, 40) else S5.1 o := fun o => by rw [← e6, ← a5]; rfl
  have r6 : ∀ o j, S6.2.1 o j = if o = P + 1 then 0 else S5.2.1 o j := fun o j => by rw [← e6, ← a5]; rfl
  have i6 : ∀ o j, S6.2.2.2 o j = if o = P + 1 then 0 else S5.2.2.2 o j := fun o j => by rw [← e6, ← a5]; rfl
  have tP6 : S6.1 P = (2, 0) := by rw [t6, if_neg (by omega), t5, if_pos rfl]
  rw [e6, a5, show pr 2 7 P (P + 1) (S6.1, S6.2.1, S6.2.2.1, S6.2.2.2) = some (S6.1, muA S6.2.1 P 7 (P + 1), S6.2.2.1, S6.2.2.2) from if_pos ⟨by rw [tP6], by omega, by rw [a6]; exact Nat.le_refl _⟩, some_bind]
  obtain ⟨S8, e8⟩ : ∃ S8, nwM 24 20 11 8 (S6.1, muA S6.2.1 P 7 (P + 1), S6.2.2.1, S6.2.2.2) = some S8 := ⟨_, if_pos (by decide)⟩
  have e8' : (fun a => if a = S6.2.2.1 + 1 then (24, 11) else if S6.2.2.1 + 1 < a ∧ a < S6.2.2.1 + 2 + 11 then (20, 8) else S6.1 a, fun a k => if a = S6.2.2.1 + 1 then (if k < 11 then S6.2.2.1 + 2 + k else 0) else if S6.2.2.1 + 1 < a ∧ a < S6.2.2.1 + 2 + 11 then 0 else muA S6.2.1 P 7 (P + 1) a k, S6.2.2.1 + 1 + 11, fun a k => if S6.2.2.1 < a ∧ a < S6.2.2.1 + 2 + 11 then 0 else S6.2.2.2 a k) = S8 := by
    have : nwM 24 20 11 8 (S6.1, muA S6.2.1 P 7 (P + 1), S6.2.2.1, S6.2.2.2) = _ := if_pos (by decide)
    rw [this] at e8
    exact Option.some.inj e8
  rw [a6] at e8'
  have a8 : S8.2.2.1 = P + 13 := by rw [← e8']
  have t8 : ∀ o, S8.1 o = if o = P + 2 then (24, 11) else if P + 2 < o ∧ o < P + 14 then (20, 8) else S6.1 o := fun o => by rw [← e8']
  have r8 : ∀ o j, S8.2.1 o j = if o = P + 2 then (if j < 11 then P + 3 + j else 0) else if P + 2 < o ∧ o < P + 14 then 0 else muA S6.2.1 P 7 (P + 1) o j := fun o j => by rw [← e8']
  have i8 : ∀ o j, S8.2.2.2 o j = if P + 1 < o ∧ o < P + 14 then 0 else S6.2.2.2 o j := fun o j => by rw [← e8']
  have tP8 : S8.1 P = (2, 0) := by rw [t8, if_neg (by omega), if_neg (by omega)]; exact tP6
  rw [e8, some_bind, a6, show pr 2 8 P (P + 1 + 1) (S8.1, S8.2.1, S8.2.2.1, S8.2.2.2) = some (S8.1, muA S8.2.1 P 8 (P + 1 + 1), S8.2.2.1, S8.2.2.2) from if_pos ⟨by rw [tP8], by omega, by rw [a8]; omega⟩, some_bind]
  obtain ⟨S9, e9⟩ : ∃ S9, nwM 24 20 6 6 (S8.1, muA S8.2.1 P 8 (P + 1 + 1), S8.2.2.1, S8.2.2.2) = some S9 := ⟨_, if_pos (by decide)⟩
  have e9' : (fun a => if a = S8.2.2.1 + 1 then (24, 6) else if S8.2.2.1 + 1 < a ∧ a < S8.2.2.1 + 2 + 6 then (20, 6) else S8.1 a, fun a k => if a = S8.2.2.1 + 1 then (if k < 6 then S8.2.2.1 + 2 + k else 0) else if S8.2.2.1 + 1 < a ∧ a < S8.2.2.1 + 2 + 6 then 0 else muA S8.2.1 P 8 (P + 1 + 1) a k, S8.2.2.1 + 1 + 6, fun a k => if S8.2.2.1 < a ∧ a < S8.2.2.1 + 2 + 6 then 0 else S8.2.2.2 a k) = S9 := by
    have : nwM 24 20 6 6 (S8.1, muA S8.2.1 P 8 (P + 1 + 1), S8.2.2.1, S8.2.2.2) = _ := if_pos (by decide)
    rw [this] at e9
    exact Option.some.inj e9
  rw [a8] at e9'
  have a9 : S9.2.2.1 = P + 20 := by rw [← e9']
  have t9 : ∀ o, S9.1 o = if o = P + 14 then (24, 6) else if P + 14 < o ∧ o < P + 21 then (20, 6) else S8.1 o := fun o => by rw [← e9']
  have r9 : ∀ o j, S9.2.1 o j = if o = P + 14 then (if j < 6 then P + 15 + j else 0) else if P + 14 < o ∧ o < P + 21 then 0 else muA S8.2.1 P 8 (P + 1 + 1) o j := fun o j => by rw [← e9']
  have i9 : ∀ o j, S9.2.2.2 o j = if P + 13 < o ∧ o < P + 21 then 0 else S8.2.2.2 o j := fun o j => by rw [← e9']
  have tP9 : S9.1 P = (2, 0) := by rw [t9, if_neg (by omega), if_neg (by omega)]; exact tP8
  have t128 : S9.1 128 = (26, 3) := by rw [t9, if_neg (by omega), if_neg (by omega), t8, if_neg (by omega), if_neg (by omega), t6, if_neg (by omega), t5, if_neg (by omega)]; exact h128
  rw [e9, some_bind, a8, show pr 2 9 P (P + 13 + 1) (S9.1, S9.2.1, S9.2.2.1, S9.2.2.2) = some (S9.1, muA S9.2.1 P 9 (P + 13 + 1), S9.2.2.1, S9.2.2.2) from if_pos ⟨by rw [tP9], by omega, by rw [a9]; omega⟩, some_bind, some_bind]
  have ea : aar 128 (k : Int) P (S9.1, muA S9.2.1 P 9 (P + 13 + 1), S9.2.2.1, S9.2.2.2) = some (S9.1, muA (muA S9.2.1 P 9 (P + 13 + 1)) 128 k P, S9.2.2.1, S9.2.2.2) := by
    unfold aar
    rw [if_pos ⟨by rw [t128], by rw [tP9], by omega, by show (k : Int) < (S9.1 128).2; rw [t128]; show (k : Int) < ((3 : Nat) : Int); omega⟩, Int.toNat_natCast]
  rw [show aar 128 (k : Int) P ((S9.1, muA S9.2.1 P 9 (P + 13 + 1), S9.2.2.1, S9.2.2.2).1, (S9.1, muA S9.2.1 P 9 (P + 13 + 1), S9.2.2.1, S9.2.2.2).2.1, (S9.1, muA S9.2.1 P 9 (P + 13 + 1), S9.2.2.1, S9.2.2.2).2.2.1, (S9.1, muA S9.2.1 P 9 (P + 13 + 1), S9.2.2.1, S9.2.2.2).2.2.2) = some (S9.1, muA (muA S9.2.1 P 9 (P + 13 + 1)) 128 k P, S9.2.2.1, S9.2.2.2) from ea, some_bind]
  have ms : ∀ (B : Rfs) a j v, muA B a j v a j = v := fun B a j v => if_pos ⟨rfl, rfl⟩
  have mo : ∀ (B : Rfs) a j v x y, ¬ (x = a ∧ y = j) → muA B a j v x y = B x y := fun B a j v x y hh => if_neg hh
  refine ⟨_, _, _, by rw [a9, show P + 20 = nx + 21 by omega], fun o ho => ?_, fun o j ho hj => ?_, ms _ _ _ _, ⟨tP9, ?_, ?_, fun j hj => ?_, ?_, fun j hj => ?_, ?_, ?_, ?_, fun j hj => ?_, fun j hj => ?_⟩, fun o j ho => ?_⟩
  · rw [t9, if_neg (by omega), if_neg (by omega), t8, if_neg (by omega), if_neg (by omega), t6, if_neg (by omega), t5, if_neg (by omega)]
  · rw [mo _ _ _ _ _ _ hj, mo _ _ _ _ _ _ (by omega), r9, if_neg (by omega), if_neg (by omega), mo _ _ _ _ _ _ (by omega), r8, if_neg (by omega), if_neg (by omega), mo _ _ _ _ _ _ (by omega), r6, if_neg (by omega), r5, if_neg (by omega)]
  · rw [t9, if_neg (by omega), if_neg (by omega), t8, if_neg (by omega), if_neg (by omega), t6, if_pos rfl]
  · rw [t9, if_neg (by omega), if_neg (by omega), t8, if_pos rfl]
  · rw [t9, if_neg (by omega), if_neg (by omega), t8, if_neg (by omega), if_pos (by omega)]
  · rw [t9, if_pos rfl]
  · rw [t9, if_neg (by omega), if_pos (by omega)]
  · rw [mo _ _ _ _ _ _ (by omega), mo _ _ _ _ _ _ (by omega), r9, if_neg (by omega), if_neg (by omega), mo _ _ _ _ _ _ (by omega), r8, if_neg (by omega), if_neg (by omega), ms]
  · rw [mo _ _ _ _ _ _ (by omega), mo _ _ _ _ _ _ (by omega), r9, if_neg (by omega), if_neg (by omega), ms]
  · rw [mo _ _ _ _ _ _ (by omega), ms]
  · rw [mo _ _ _ _ _ _ (by omega), mo _ _ _ _ _ _ (by omega), r9, if_neg (by omega), if_neg (by omega), mo _ _ _ _ _ _ (by omega), r8, if_pos rfl, if_pos hj]
  · rw [mo _ _ _ _ _ _ (by omega), mo _ _ _ _ _ _ (by omega), r9, if_pos rfl, if_pos hj]
  · rw [i9, if_neg (by omega), i8, if_neg (by omega), i6, if_neg (by omega), i5, if_neg (by omega)]
end
