/-! B: the start: nothing is held. -/
set_option maxRecDepth 100000 in
theorem z_26 : ∀ k, k < 7 → S2v.2.2.2 26 k = 0 := by decide +kernel
set_option maxRecDepth 100000 in
theorem z_41 : ∀ r, r < 6 → ∀ c, c < 6 → S2v.2.2.2 (26 + 15 + r) c = 0 := by decide +kernel
set_option maxRecDepth 100000 in
theorem z_136 : ∀ k, k < 6 → S2v.2.2.2 136 (6 * 0 + k) = 0 := by decide +kernel
set_option maxRecDepth 100000 in
theorem z_140 : ∀ r, r < 6 → ∀ c, c < 6 → S2v.2.2.2 140 (36 * 0 + 6 * r + c) = 0 := by decide +kernel
set_option maxRecDepth 100000 in
theorem z_65 : ∀ k, k < 8 → S2v.2.2.2 65 k = -1 := by decide +kernel
set_option maxRecDepth 100000 in
theorem z_sl : ∀ s, s < 4 → S2v.2.2.2 130 s = -1 ∧ S2v.2.2.2 118 s = -1 := by decide +kernel
set_option maxRecDepth 100000 in
theorem z_im : ∀ k, k < 3 → S2v.2.1 128 k = 0 ∧ S2v.2.2.2 142 k = 0 := by decide +kernel
set_option maxRecDepth 100000 in
theorem z_c : (S2v.2.2.2 135 0 = 0 ∧ S2v.2.2.2 64 3 = 0 ∧ S2v.2.2.2 64 4 = 0 ∧ S2v.2.2.2 64 5 = 0 ∧ S2v.2.2.2 64 6 = 0 ∧ S2v.2.2.2 129 31 = 0) ∧ (S2v.2.2.2 68 6 = 0 ∧ S2v.2.2.2 79 6 = 0 ∧ S2v.2.2.2 1 15 = 0) ∧ (S2v.2.2.2 129 6 = 0 ∧ S2v.2.2.2 2 1 = 0) ∧ S2v.2.2.2 129 14 = S2v.2.2.2 4 2 ∧ S2v.2.2.2 129 15 = S2v.2.2.2 4 3 := by decide +kernel
theorem oz_wf : WF Oz := by
  have o : ∀ a k, Oz a k = 0 := fun _ _ => rfl
  unfold WF
  simp only [o]
  exact ⟨by decide, by decide, by decide, by decide, by decide, sl_of (by decide) (by decide) (by decide), by decide, fun _ => by decide, fun k hk => absurd hk (by omega), fun r c _ _ => ⟨by decide, by decide, fun h => absurd h (by decide)⟩⟩
theorem z_w {o : Nat} : ev (Wn Oz (4 + o)) = -1 := by
  have e : Wn Oz (4 + o) = -1 := by
    show st0 Oz (Oz 0 3) (4 + o) = -1
    unfold st0
    rw [if_neg (by omega), if_neg (by omega), if_neg (by omega)]
  rw [e]
  rfl
theorem inv_0 : InvB S2v.1 S2v.2.1 S2v.2.2.1 S2v.2.2.2 := by
  obtain ⟨⟨c1, c2, c3, c4, c5, c6⟩, ⟨d1, d2, d3⟩, ⟨t1, t2⟩, f1, f2⟩ := z_c
  rw [s2_nx]
  refine ⟨Oz, ⟨ag_S2, oz_wf, ⟨z_26, fun k hk => absurd hk ?_, fun w o _ ho => absurd ho ?_, fun r c hr hc => z_41 r hr c hc⟩, ⟨c1, z_136, fun k hk => absurd hk ?_, fun w o _ ho => absurd ho ?_, fun o ho => absurd ho ?_, fun o ho => absurd ho ?_, fun r c hr hc => z_140 r hr c hc⟩, fun k hk => absurd hk ?_, fun r c hr hc => absurd hr ?_, fun o k ho hk => absurd ho ?_, ⟨⟨c2, c3, c4, c5⟩, fun o ho => by rw [z_w]; exact z_65 o ho⟩, c6⟩, ⟨Or.inl d1, Or.inl d2, Or.inl d3⟩, ⟨by rw [t1, t2], by rw [t2]; decide, fun k hk => absurd hk (by rw [t2]; omega)⟩, ⟨f1, f2⟩, fun s hs => Or.inl (z_sl s hs), Nat.le_refl _, fun k hk => Or.inl (z_im k hk), fun j k hj hk _ h0 _ => absurd (z_im j hj).1 h0⟩
  all_goals (unfold Oz; omega)
