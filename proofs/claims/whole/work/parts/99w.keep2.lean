/-! B: keep. -/
section
variable {T T' : Knd} {A A' : Rfs} {I I' J K M : Mem} {O : Ofc} {nx nx' : Nat}
theorem mw_142 {s k : Nat} {v : Int} (hm : MW O s I) : MW O s (mu I 142 k v) := by
  obtain ⟨q1, q2, q3, q4, q5, q6, q7⟩ := hm
  exact ⟨by rw [mu_o _ _ (by omega)]; exact q1, fun k hk => by rw [mu_o _ _ (by omega)]; exact q2 k hk, fun k hk => by rw [mu_o _ _ (by omega)]; exact q3 k hk, fun w o hw ho => by rw [mu_o _ _ (by omega)]; exact q4 w o hw ho, fun o ho => by rw [mu_o _ _ (by omega)]; exact q5 o ho, fun o ho => by rw [mu_o _ _ (by omega)]; exact q6 o ho, fun r c hr hc => by rw [mu_o _ _ (by omega)]; exact q7 r c hr hc⟩
theorem ag_ext (h : Ag T A) (h1 : ∀ o, o ≤ 153 → T' o = T o) (h2 : ∀ o j, o ≤ 153 → o ≠ 128 → A' o j = A o j) : Ag T' A' := by
  have k1 : ∀ t ∈ agK, t.1 ≤ 153 := by decide +kernel
  have k2 : ∀ t ∈ agR, t.1 ≤ 153 ∧ t.1 ≠ 128 := by decide +kernel
  exact ⟨fun t ht => by rw [h1 _ (k1 t ht)]; exact h.1 t ht, fun t ht => by rw [h2 _ _ (k2 t ht).1 (k2 t ht).2]; exact h.2 t ht⟩
/-- the plan is there: it is filled on both sides -/
theorem keep_fill (bs : Bas T A O I) (cc : Cch O I) (t : TP I) (f : FT I) (u : SL I) (im_ : Img T A nx I) {k : Nat} (hk : k < 3) (h' : Ag T' A') (hnx : nx ≤ nx') (e1 : ∀ o, o ≤ nx → T' o = T o) (e2 : ∀ o j, o ≤ nx → ¬ (o = 128 ∧ j = k) → A' o j = A o j) (e3 : ∀ o j, o ≤ nx → I' o j = I o j) {P : Nat} (hP : A' 128 k = P) (p1 : 154 ≤ P) (p2 : P + 20 ≤ nx') (hpl : PlS T' A' P) (dj : ∀ j, j < 3 → j ≠ k → A 128 j ≠ 0 → A 128 j + 20 < P ∨ P + 20 < A 128 j) : ∃ J K, f_X2_copyFrom T' A' P 26 I' = some J ∧ f_X12_keep T' A' 129 (k : Int) J = some (0, K) ∧ Bas T' A' O K ∧ Cch O K ∧ TP K ∧ FT K ∧ SL K ∧ Img T' A' nx' K := by
  obtain ⟨h, wf, hc, hm, g, ht, hn, kw, hq⟩ := bs
  obtain ⟨i1, i2, i3⟩ := im_
  obtain ⟨g0, g1, g2, g3, g4⟩ := g_ev h'
  have hn8 := wf_n wf
  have h6 := wf.2.2.2.2.2.2.1
  obtain ⟨J, eJ, c1, c2, c3, c4, c5⟩ := c_copyFrom (I := I') hpl (pls_26 h') (by omega) (by decide) (Or.inr (by omega))
  have jI : ∀ o j, o ≤ nx → (o < P ∨ P + 20 < o) → J o j = I o j := fun o j q1 q2 => by rw [c5 _ _ q2, e3 _ _ q1]
  have m0 : MW O 0 (mu J 129 0 0) := mw_ag hm (fun o j q1 q2 => by rw [mu_o _ _ (by omega), jI _ _ (by omega) (by omega)])
  obtain ⟨K1, eK, p⟩ := m_copyOffice (I := mu J 129 0 0) h' (a := 0) (d := 1 + k) (by decide) (by omega) (by omega)
  have hmk := mw_copy m0 hn8.2 h6.2 p
  have fr := p.2.2.2.2.2.2.2
  obtain ⟨K, eKK⟩ : ∃ K : Mem, K = mu K1 142 k 1 := ⟨_, rfl⟩
  have kJ : ∀ o j, ¬ slt (1 + k) o j → ¬ (o = 129 ∧ j = 0) → ¬ (o = 142 ∧ j = k) → K o j = J o j := fun o j q1 q2 q3 => by rw [eKK, mu_o _ _ q3, fr _ _ q1, mu_o _ _ q2]
  have nsl : ∀ o j, (o < 135 ∨ 141 < o) → ¬ slt (1 + k) o j := fun o j q z => by unfold slt at z; omega
  have kI : ∀ o j, o < 135 → ¬ (o = 129 ∧ j = 0) → K o j = I o j := fun o j q1 q2 => by rw [kJ _ _ (nsl _ _ (Or.inl q1)) q2 (by omega), jI _ _ (by omega) (by omega)]
  have kP : ∀ o j, 154 ≤ o → K o j = J o j := fun o j q1 => kJ _ _ (nsl _ _ (Or.inr (by omega))) (by omega) (by omega)
  have ew : f_X12_keep T' A' 129 (k : Int) J = some (0, K) := by
    unfold f_X12_keep
    rw [if_pos g0, g3, some_bind, m_in, some_bind, if_pos (show 0 ≤ (k : Int) ∧ (k : Int) ≤ 2 by omega), if_neg (by decide), show ia 1 (k : Int) = ((1 + k : Nat) : Int) by rw [ia_eq (by omega) (by omega)]; omega, show f_X12_copyOffice T' A' 129 0 ((1 + k : Nat) : Int) (mu J 129 0 0) = some K1 from eK, some_bind, (q_ev h').2.2.2.2.2.2.2, some_bind, ev_sto (kT_142 h'), if_pos (by omega), some_bind, Int.toNat_natCast, show iand 1 1 = 1 by decide, ← eKK]
  refine ⟨J, K, eJ, ew, ⟨h', wf, cv_ag hc (fun o j q1 q2 => kI o j (by omega) (by omega)), ?_, g, tw_ag wf ht (fun o j q1 q2 => kI o j (by omega) (by omega)), tn_ag wf hn (fun o j q1 q2 => kI o j (by omega) (by omega)), cw_ag kw (fun o j q1 => kI o j (by omega) (by omega)), ?_⟩, ⟨soon_ag cc.1 (fun o j q1 q2 => kI o j (by omega) (by omega)), evry_ag cc.2.1 (fun o j q1 q2 => kI o j (by omega) (by omega)), star_ag cc.2.2 (fun j => kI 1 j (by omega) (by omega))⟩, ?_, ?_, ?_, ⟨by omega, fun j hj => ?_, fun j l hj hl hjl => ?_⟩⟩
  · rw [eKK]
    exact mw_142 (mw_stay m0 hn8.2 h6.2 (d := 1 + k) (by omega) (fun o j _ _ q3 => fr o j q3))
  · rw [kI _ _ (by omega) (by omega)]; exact hq
  · obtain ⟨t1, t2, t3⟩ := t
    refine ⟨by rw [kI _ _ (by omega) (by omega), kI _ _ (by omega) (by omega)]; exact t1, by rw [kI _ _ (by omega) (by omega)]; exact t2, fun x hx => ?_⟩
    rw [kI _ _ (by omega) (by omega)] at hx
    rw [kI _ _ (by omega) (by omega), kI _ _ (by omega) (by omega)]; exact t3 x hx
  · obtain ⟨f1, f2⟩ := f
    exact ⟨by rw [kI _ _ (by omega) (by omega), kI _ _ (by omega) (by omega)]; exact f1, by rw [kI _ _ (by omega) (by omega), kI _ _ (by omega) (by omega)]; exact f2⟩
  · exact sl_ag (fun o j q => kI o j (by omega) (by omega)) u
  · by_cases z : j = k
    · subst z
      refine Or.inr ⟨O, by rw [hP]; exact p1, by rw [hP]; exact p2, by rw [hP]; exact hpl, by rw [eKK, mu_s], ?_, by rw [eKK]; exact mw_142 hmk, wf, g⟩
      rw [hP]
      have cvI' : CV O 26 I' := cv_ag hc (fun o j q1 q2 => e3 o j (by omega))
      exact cv_ag (cv_copy cvI' hn8.2 h6.2 ⟨c1, c2, c3, c4⟩) (fun o j q1 q2 => kP o j (by omega))
    · have eA : A' 128 j = A 128 j := e2 _ _ (by omega) (fun w => z w.2)
      have e142 : K 142 j = I 142 j := by rw [kJ _ _ (nsl _ _ (Or.inr (by omega))) (by omega) (fun w => z w.2), jI _ _ (by omega) (by omega)]
      rw [eA, e142]
      rcases i2 j hj with w | ⟨Q, q1, q2, q3, q4, q5, q6, q7, q8⟩
      · exact Or.inl w
      · have hn := wf_n q7
        have h6q := q7.2.2.2.2.2.2.1
        have dd := dj j hj z (by omega)
        refine Or.inr ⟨Q, q1, by omega, pls_ext q3 (fun o w1 w2 => e1 o (by omega)) (fun o x w1 w2 => e2 o x (by omega) (by omega)), q4, cv_ag q5 (fun o x w1 w2 => by rw [kP _ _ (by omega), jI _ _ (by omega) (by omega)]), ?_, q7, q8⟩
        rw [eKK]
        have m1 : MW Q (1 + j) (mu J 129 0 0) := mw_ag q6 (fun o x w1 w2 => by rw [mu_o _ _ (by omega), jI _ _ (by omega) (by omega)])
        exact mw_142 (mw_stay m1 hn.2 h6q.2 (d := 1 + k) (by omega) (fun o x _ _ w3 => fr o x w3))
  · by_cases z1 : j = k
    · have z2 : l ≠ k := fun w => hjl (by rw [z1, w])
      rw [z1, hP, e2 _ _ (by omega) (fun w => z2 w.2)]
      intro _ hl0
      exact (dj l hl z2 hl0).symm
    · by_cases z2 : l = k
      · rw [z2, hP, e2 _ _ (by omega) (fun w => z1 w.2)]
        intro hj0 _
        exact dj j hj z1 hj0
      · rw [e2 _ _ (by omega) (fun w => z1 w.2), e2 _ _ (by omega) (fun w => z2 w.2)]
        exact i3 j l hj hl hjl
theorem s_keep (bs : Bas T A O I) (cc : Cch O I) (t : TP I) (f : FT I) (u : SL I) (im_ : Img T A nx I) (a1 : Int) : ∃ v T' A' nx' J K, f_X11_keep T A nx 1 a1 I = some (v, T', A', nx', J) ∧ f_X12_keep T' A' 129 a1 J = some (v, K) ∧ Bas T' A' O K ∧ Cch O K ∧ TP K ∧ FT K ∧ SL K ∧ Img T' A' nx' K := by
  have h := bs.1
  obtain ⟨g0, g1, g2, g3, g4⟩ := g_ev h
  unfold f_X11_keep
  rw [if_pos (show (T 1).1 = 11 by rw [kT_1 h])]
  by_cases c : 0 ≤ a1 ∧ a1 ≤ 2
  · obtain ⟨k, rfl⟩ := Int.eq_ofNat_of_zero_le c.1
    have hk : k < 3 := by omega
    rw [if_neg (by omega), x14 h, some_bind, ev_aln (kT_128 h), some_bind, if_pos (by omega), some_bind, l128 h hk, some_bind]
    rcases im_.2.1 k hk with ⟨z1, z2⟩ | ⟨Q, q1, q2, q3, q4, q5, q6, q7, q8⟩
    · obtain ⟨T', A', I', ev, m1, m2, m3, m4, m5⟩ := mk_plan (A := A) (I := I) (kT_128 h) im_.1 hk
      have h' : Ag T' A' := ag_ext h (fun o ho => m1 o (by have := im_.1; omega)) (fun o j ho hne => m2 o j (by have := im_.1; omega) (fun w => hne w.1))
      obtain ⟨J, K, r1, r2, r3⟩ := keep_fill bs cc t f u im_ hk h' (nx' := nx + 21) (by omega) m1 m2 m5 m3 (by have := im_.1; omega) (by omega) m4 (fun j hj hne h0 => by
        rcases im_.2.1 j hj with w | ⟨Q, w1, w2, _⟩
        · exact absurd w.1 h0
        · exact Or.inl (by omega))
      rw [if_pos (by rw [z1]; rfl), some_bind, ev, some_bind]
      dsimp only
      rw [x14 h', some_bind, r128 h' hk (by rw [m3]; omega), some_bind, show gr T' A' 11 2 1 = some 26 by simp only [agX h'], some_bind, m3, r1, some_bind]
      exact ⟨0, T', A', nx + 21, J, K, rfl, r2, r3⟩
    · have hA : A 128 k ≠ 0 := by omega
      obtain ⟨J, K, r1, r2, r3⟩ := keep_fill bs cc t f u im_ hk h (nx' := nx) (Nat.le_refl _) (fun _ _ => rfl) (fun _ _ _ _ => rfl) (fun _ _ _ => rfl) rfl q1 q2 q3 (fun j hj hne h0 => im_.2.2 j k hj hk hne h0 hA)
      rw [if_neg (by rw [beq_iff_eq]; exact hA), some_bind]
      dsimp only
      rw [x14 h, some_bind, r128 h hk hA, some_bind, show gr T A 11 2 1 = some 26 by simp only [agX h], some_bind, r1, some_bind]
      exact ⟨0, T, A, nx, J, K, rfl, r2, r3⟩
  · have rb : RF I (mu I 129 0 0) := rf_fr (fr_0 I)
    refine ⟨-2, T, A, nx, I, mu I 129 0 0, ?_, ?_, bas_fr bs (fr_0 I), cch_fr cc (fr_0 I), ?_, ?_, sl_0 u, img_rf im_ rb⟩
    · by_cases d : a1 < 0
      · rw [if_pos d]
      · rw [if_neg d, x14 h, some_bind, ev_aln (kT_128 h), some_bind, if_neg (by omega)]
    · unfold f_X12_keep
      rw [if_pos g0, g3, some_bind, m_in, some_bind, if_neg c, if_pos rfl]
    · obtain ⟨t1, t2, t3⟩ := t
      refine ⟨by rw [mu_o _ _ (by omega), mu_o _ _ (by omega)]; exact t1, by rw [mu_o _ _ (by omega)]; exact t2, fun x hx => ?_⟩
      rw [mu_o _ _ (by omega)] at hx
      rw [mu_o _ _ (by omega), mu_o _ _ (by omega)]; exact t3 x hx
    · exact ⟨by rw [mu_o _ _ (by omega), mu_o _ _ (by omega)]; exact f.1, by rw [mu_o _ _ (by omega), mu_o _ _ (by omega)]; exact f.2⟩
end
