/-! B: a line, side by side, whole. -/
theorem ok2_thn {X V Y : Type} {c : Option X} {m : Option (V ⊕ Y)} {K : V → Option Y} {P : X → Y → Prop} (h : OK2 c m (fun x z => ∃ w, z = .inr w ∧ P x w)) : OK2 c (thn m K) P := by
  obtain ⟨x, z, h1, h2, w, h3, h4⟩ := h
  rw [h1, h2, h3, thn_r]
  exact ok2_i h4
def hdM (T : Knd) (A : Rfs) (M : Mem) : Option Mem := (f_X12_asks T A 129 218546996 M).bind fun e22 => (f_X12_number_ T A 129 9872488 1 6 e22).bind fun e24 => (f_X12_reads T A 129 0 e24.1 e24.2).bind fun e27 => (f_X12_asks T A 129 257 e27).bind fun e29 => (f_X12_roomHere T A 129 e29).bind fun e31 => (f_X12_reads T A 129 1 e31.1 e31.2).bind fun e34 => (f_X12_number_ T A 129 47 0 399 e34).bind fun e36 => (f_X12_reads T A 129 2 e36.1 e36.2).bind fun e39 => some e39
def AZ (O : Ofc) : Prop := (∀ k, k < 7 → O 0 k = 0) ∧ ∀ r c, r < 6 → c < 6 → O (15 + r) c = 0
section
variable {T : Knd} {A : Rfs} {I M I0 M0 M1 : Mem} {b : Nat → Int} {L n u p : Nat} {O : Ofc} {Ψ : Prop} {c : Nat → Int} {ln : Int}
theorem ln_none (h : Ag T A) (r : RG I0 M0 b L n 0 O p I M) (hw : ∀ v, v = 4 ∨ v = 12 ∨ v = 13 ∨ v = 14 ∨ v = 15 ∨ v = 16 → isw b L p v = false) : OK2 ((f_X4_blame T A 4 1 I).bind (fun e => some e.2)) (f_X12_line T A 129 M) (LE I0 M0 b L ln) := by
  obtain ⟨K, e⟩ := m_line16 h r (fun v hv => hw v (by omega))
  have ea := m_asks h r (w := 16)
  rw [hw 16 (by omega), if_neg fT] at ea
  rw [e, show f_X12_asks T A 129 232603751 M = f_X12_fails T A 129 1 M from ea]
  obtain ⟨x, N, ex, eN, q1, q2⟩ := sim_blame h r (f := 1) (by decide)
  rw [ex, eN, some_bind, some_bind, pmx_bad h (show N 129 12 ≠ 0 by rw [q2.2.1]; exact q2.1), thn_r]
  exact ok2_i (Or.inr (Or.inl (rbx_of q2)))
theorem sim_body (h : Ag T A) (r : RG I0 M0 b L n 0 O p I M) (wf : WFc O) : OK2 (lnC T A b L p I) (f_X12_line T A 129 M) (LE I0 M0 b L (O 0 0)) := by
  obtain ⟨k0, k1, k2, k3, k4, k5, k6, k7, k8, k9⟩ := r_ev h
  have hR := wf.1
  have hn8 := r.1.2.1
  have h4 : I 5 4 = (n : Int) := by rw [rg_5 r (by decide)]; exact r.1.1
  have e04 := r.1.1
  unfold lnC
  cases w0 : isw b L p 0
  · rw [if_neg fT]
    cases w4 : isw b L p 4
    · rw [if_neg fT]
      cases w12 : isw b L p 12
      · rw [if_neg fT]
        cases w13 : isw b L p 13
        · rw [if_neg fT]
          cases w14 : isw b L p 14
          · rw [if_neg fT]
            cases w15 : isw b L p 15
            · rw [if_neg fT]
              cases w16 : isw b L p 16
              · rw [if_neg fT]
                exact ln_none h r (fun v hv => by
                  rcases hv with z | z | z | z | z | z
                  · rw [z]; exact w4
                  · rw [z]; exact w12
                  · rw [z]; exact w13
                  · rw [z]; exact w14
                  · rw [z]; exact w15
                  · rw [z]; exact w16)
              · rw [if_pos rfl]
                obtain ⟨K, e⟩ := m_line16 h r (fun v hv => by
                  rcases hv with z | z | z | z | z
                  · rw [z]; exact w4
                  · rw [z]; exact w12
                  · rw [z]; exact w13
                  · rw [z]; exact w14
                  · rw [z]; exact w15)
                have ea := m_asks h r (w := 16)
                rw [if_pos w16] at ea
                rw [e, show f_X12_asks T A 129 232603751 M = f_X12_next T A 129 M from ea]
                refine ok2_thn ?_
                unfold f_X4_readPermit
                rw [if_pos k0]
                refine ok2_bs k1 ?_
                refine ok2_b (ok2_m (sim_next h r) (fun J N rJ => ?_))
                have sp : OK2 _ (pmX T A N) _ := sim_permit h Unit hn8 rJ (by rw [rg_5 rJ (by decide)]; exact rJ.1.1)
                refine ok2_m sp (fun J' y hy => ?_)
                obtain ⟨N', s, ey, rl⟩ := hy
                refine ⟨N', ey, ?_⟩
                rcases rl with ⟨q, p', g⟩ | g
                · exact Or.inl ⟨n, _, p', wfc_permit wf e04 q, rw_o _ _ (by omega), g⟩
                · exact Or.inr (Or.inl (rbx_of g))
            · rw [if_pos rfl, m_line15 h r w15]
              unfold f_X4_readLeave
              rw [if_pos k0]
              refine ok2_bs k1 ?_
              refine ok2_b (ok2_m (sim_next h r) (fun J N rJ => ?_))
              refine ok2_m (sim_leave h (Ψ := True) (Or.inl ⟨trivial, _, rJ⟩) hn8) (fun J' N' hy => ?_)
              obtain ⟨x, v1, v2, rl⟩ := hy
              rcases rl with ⟨q, p', g⟩ | g
              · exact Or.inl ⟨n, _, p', wfc_leave wf q.2.2.1 q.2.2.2, by rw [rw_o _ _ (by omega), rw_o _ _ (by omega)], g⟩
              · exact Or.inr (Or.inl (rbx_of g))
          · rw [if_pos rfl, m_line13 h r (w := 1) (by decide) w14]
            unfold f_X4_readAsking
            rw [if_pos k0]
            refine ok2_bs k1 ?_
            refine ok2_b (ok2_m (sim_next h r) (fun J N rJ => ?_))
            refine ok2_m (sim_ask h (w := 1) (by decide) (Ψ := True) (Or.inl ⟨trivial, _, rJ⟩) hn8 (fun o ho => (wf.2.2.2.2.2.2.1 o (by omega)).2.2.2.2.2.2.2.2.2.1.1)) (fun J' N' hy => ?_)
            obtain ⟨x, y, rl⟩ := hy
            rcases rl with ⟨q, p', g⟩ | g
            · exact Or.inl ⟨n, _, p', wfc_ask wf (by decide) e04 q.2.1.1 q.2.1.2 q.2.2, rw_o _ _ (by omega), g⟩
            · exact Or.inr (Or.inl (rbx_of g))
        · rw [if_pos rfl, m_line13 h r (w := 0) (by decide) w13]
          unfold f_X4_readAsking
          rw [if_pos k0]
          refine ok2_bs k1 ?_
          refine ok2_b (ok2_m (sim_next h r) (fun J N rJ => ?_))
          refine ok2_m (sim_ask h (w := 0) (by decide) (Ψ := True) (Or.inl ⟨trivial, _, rJ⟩) hn8 (fun o ho => (wf.2.2.2.2.2.2.1 o (by omega)).2.2.2.2.2.2.2.2.1.1.1)) (fun J' N' hy => ?_)
          obtain ⟨x, y, rl⟩ := hy
          rcases rl with ⟨q, p', g⟩ | g
          · exact Or.inl ⟨n, _, p', wfc_ask wf (by decide) e04 q.2.1.1 q.2.1.2 q.2.2, rw_o _ _ (by omega), g⟩
          · exact Or.inr (Or.inl (rbx_of g))
      · rw [if_pos rfl, m_line12 h r w12]
        unfold f_X4_readWay
        rw [if_pos k0]
        refine ok2_bs k1 ?_
        refine ok2_b (ok2_m (sim_next h r) (fun J N rJ => ?_))
        refine ok2_m (sim_way h (Ψ := True) (Or.inl ⟨⟨trivial, hR⟩, _, rJ⟩)) (fun J' N' hy => ?_)
        obtain ⟨x, y, v, rl⟩ := hy
        rcases rl with ⟨q, p', g⟩ | g
        · exact Or.inl ⟨n, _, p', wfc_way wf q.2.1.1 q.2.1.2 q.2.2.1, by rw [rw_o _ _ (by omega), rw_o _ _ (by omega)], g⟩
        · exact Or.inr (Or.inl (rbx_of g))
    · rw [if_pos rfl, m_line4 h r w4]
      unfold f_X4_readOfficial
      rw [if_pos k0]
      refine ok2_bs k2 ?_
      refine ok2_bs (k5 4 I) ?_
      rw [h4]
      by_cases c8 : n = 8
      · rw [if_neg (by omega), if_pos c8]
        obtain ⟨x, N, ex, eN, q1, q2⟩ := sim_blame h r (f := 3) (by decide)
        rw [ex, eN, some_bind]
        exact ok2_i (Or.inr (Or.inl (rbx_of q2)))
      · have hn : n < 8 := by omega
        rw [if_pos (by omega), if_neg c8]
        refine ok2_bs k1 ?_
        refine ok2_b (ok2_m (sim_next h r) (fun J N rJ => ?_))
        refine ok2_m (sim_official h hn rJ hR) (fun J' N' hy => ?_)
        rcases hy with ⟨v1, v2, v3, v4, c, q, p', g⟩ | g | g
        · exact Or.inl ⟨n + 1, _, p', wfc_official wf e04 hn q.1 q.2.1 q.2.2.1 q.2.2.2.1 q.2.2.2.2, by
            rw [ofO_o _ _ (by omega) (by omega)]
            unfold of4
            rw [rw_o _ _ (by omega), rw_o _ _ (by omega), rw_o _ _ (by omega), rw_o _ _ (by omega)], g⟩
        · exact Or.inr (Or.inl (rbx_of g))
        · exact Or.inr (Or.inr g)
  · rw [if_pos rfl]
    exact ln_none h r (fun v hv => by
      rcases hv with z | z | z | z | z | z
      · rw [z]; exact isw_ne w0 (by decide)
      · rw [z]; exact isw_ne w0 (by decide)
      · rw [z]; exact isw_ne w0 (by decide)
      · rw [z]; exact isw_ne w0 (by decide)
      · rw [z]; exact isw_ne w0 (by decide)
      · rw [z]; exact isw_ne w0 (by decide))
theorem sim_lineB (h : Ag T A) (r : RG I0 M0 b L n 0 O p I M) (wf : WFc O) (hl : O 0 0 ≠ 0) : OK2 (f_X4_readLine T A 4 I) ((f_X12_line T A 129 M).bind (fun e => sgnM T A e)) (fun J N => (∃ n O' p, WFc O' ∧ O' 0 0 = O 0 0 + 1 ∧ RG I0 M0 b L n 0 O' p J N) ∨ RBx I0 M0 J N) := by
  rw [c_line h r hl]
  exact ok2_b (ok2_m (sim_body h r wf) (fun J N hJ => sim_sign h hJ))
theorem wfc_head {O : Ofc} (a : AZ O) {v1 v2 v3 : Int} (h1 : 1 ≤ v1 ∧ v1 ≤ 6) (h2 : 0 ≤ v2 ∧ v2 ≤ v1 - 1) (h3 : 0 ≤ v3 ∧ v3 ≤ 399) : WFc (rwO (rwO (rwO O 0 1 v1) 0 2 v2) 0 3 v3) := by
  have e : ∀ a k, ¬ (a = 0 ∧ 1 ≤ k ∧ k ≤ 3) → rwO (rwO (rwO O 0 1 v1) 0 2 v2) 0 3 v3 a k = O a k := fun a k h => by rw [rw_o _ _ (by omega), rw_o _ _ (by omega), rw_o _ _ (by omega)]
  have e1 : rwO (rwO (rwO O 0 1 v1) 0 2 v2) 0 3 v3 0 1 = v1 := by rw [rw_o _ _ (by omega), rw_o _ _ (by omega), rw_s]
  have e2 : rwO (rwO (rwO O 0 1 v1) 0 2 v2) 0 3 v3 0 2 = v2 := by rw [rw_o _ _ (by omega), rw_s]
  have e3 : rwO (rwO (rwO O 0 1 v1) 0 2 v2) 0 3 v3 0 3 = v3 := by rw [rw_s]
  unfold WFc
  rw [e1, e2, e3, e 0 4 (by omega), e 0 5 (by omega), e 0 6 (by omega), a.1 4 (by decide), a.1 5 (by decide), a.1 6 (by decide)]
  exact ⟨h1, ⟨h2.1, by omega⟩, h3, ⟨by decide, by decide⟩, ⟨cn_0, fun i _ => hb_0 i⟩, rfl, fun o ho => absurd ho (by omega), fun r c hr hc => by rw [e _ _ (by omega), a.2 r c hr hc]; exact ⟨by decide, by decide, fun z => absurd z (by decide)⟩⟩
theorem hd_bad (h : Ag T A) (g : M 129 12 ≠ 0) : ∃ N, ((f_X12_number_ T A 129 9872488 1 6 M).bind fun e24 => (f_X12_reads T A 129 0 e24.1 e24.2).bind fun e27 => (f_X12_asks T A 129 257 e27).bind fun e29 => (f_X12_roomHere T A 129 e29).bind fun e31 => (f_X12_reads T A 129 1 e31.1 e31.2).bind fun e34 => (f_X12_number_ T A 129 47 0 399 e34).bind fun e36 => (f_X12_reads T A 129 2 e36.1 e36.2).bind fun e39 => some e39) = some N ∧ ∀ o k, ¬ (o = 136 ∧ 24 ≤ k ∧ k < 27) → N o k = M o k := by
  have o1 : ∀ v, mu M 136 24 v 129 12 ≠ 0 := fun v => by rw [mu_o _ _ (by omega)]; exact g
  have o2 : ∀ v v', mu (mu M 136 24 v) 136 25 v' 129 12 ≠ 0 := fun v v' => by rw [mu_o _ _ (by omega)]; exact o1 v
  rw [m_number_ h, m_asks0 h g, some_bind, m_number0 h g, some_bind, m_rd0 h, some_bind, m_asks0 h (o1 _), some_bind, m_roomHere h, m_number0 h (o1 _), some_bind, m_rd1 h, some_bind, m_number_ h, m_asks0 h (o2 _ _), some_bind, m_number0 h (o2 _ _), some_bind, m_rd2 h, some_bind]
  exact ⟨_, rfl, fun o k hk => by
    dsimp only
    rw [mu_o _ _ (by omega), mu_o _ _ (by omega), mu_o _ _ (by omega)]⟩
theorem sim_lineA (h : Ag T A) (r : RG I0 M0 b L n 0 O p I M) (a : AZ O) : OK2 (f_X4_readLine T A 4 I) ((hdM T A M).bind (fun e => sgnM T A e)) (fun J N => (∃ n O' p, WFc O' ∧ O' 0 0 = O 0 0 + 1 ∧ RG I0 M0 b L n 0 O' p J N) ∨ RBx I0 M0 J N) := by
  obtain ⟨k0, k1, k2, k3, k4, k5, k6, k7, k8, k9⟩ := r_ev h
  have wd : f_X8_isWord T A 2 0 I = some (bi (isw b L p 0)) := c_isWord h r.2.1.2.1 r.2.1.1 (by decide) r.2.1.2.2.1
  have e0 : I 5 0 = 0 := by rw [rg_5 r (by decide)]; exact a.1 0 (by decide)
  have cl : f_X4_readLine T A 4 I = (if isw b L p 0 = true then f_X4_readHead T A 4 I else (f_X4_blame T A 4 1 I).bind (fun e => some e.2)).bind (fun J => f_X4_takeSign T A 4 J) := by
    unfold f_X4_readLine
    rw [if_pos k0, k1, some_bind, wd, some_bind, k2, some_bind, k5, some_bind, e0, if_pos rfl, thn_l]
    cases isw b L p 0
    · rw [if_neg (by decide), if_neg fT]
      rw [c_blame h, some_bind, thn_l, some_bind, some_bind]
      show (f_X4_takeSign T A 4 _).bind _ = f_X4_takeSign T A 4 _
      cases f_X4_takeSign T A 4 (mu (mu I 4 2 1) 4 3 (I 2 3)) <;> rfl
    · rw [if_pos (by decide), if_neg bT, if_pos rfl]
      cases f_X4_readHead T A 4 I with
      | none => rfl
      | some J =>
        rw [some_bind, thn_l, some_bind]
        cases f_X4_takeSign T A 4 J <;> rfl
  rw [cl]
  refine ok2_b (ok2_m (P := LE I0 M0 b L (O 0 0)) ?_ (fun J N hJ => sim_sign h hJ))
  have ea := m_asks h r (w := 0)
  unfold hdM
  cases w0 : isw b L p 0
  · rw [w0, if_neg fT] at ea
    rw [if_neg fT, show f_X12_asks T A 129 218546996 M = f_X12_fails T A 129 1 M from ea]
    obtain ⟨x, N, ex, eN, q1, q2⟩ := sim_blame h r (f := 1) (by decide)
    obtain ⟨N', e', n1⟩ := hd_bad (A := A) h (show N 129 12 ≠ 0 by rw [q2.2.1]; exact q2.1)
    rw [ex, eN, some_bind, some_bind, e']
    obtain ⟨z1, z2, z3, z4, z5, z6⟩ := q2
    exact ok2_i (Or.inr (Or.inl ⟨z1, by rw [n1 _ _ (by omega)]; exact z2, by rw [n1 _ _ (by omega)]; exact z3, z5, fun o k h1 h2 => by
      unfold sl4 at h2
      rw [n1 _ _ (by omega)]
      exact z6 o k h1 (by unfold sl4; exact h2)⟩))
  · rw [w0, if_pos rfl] at ea
    rw [if_pos rfl, show f_X12_asks T A 129 218546996 M = f_X12_next T A 129 M from ea]
    unfold f_X4_readHead
    rw [if_pos k0]
    refine ok2_bs k1 ?_
    refine ok2_b (ok2_m (sim_next h r) (fun J N rJ => ?_))
    refine ok2_m (sim_head h (Ψ := True) (Or.inl ⟨trivial, _, rJ⟩)) (fun J' N' hy => ?_)
    obtain ⟨v1, v2, v3, rl⟩ := hy
    rcases rl with ⟨q, p', g⟩ | g
    · exact Or.inl ⟨n, _, p', wfc_head a q.2.1 q.2.2.1 q.2.2.2, by rw [rw_o _ _ (by omega), rw_o _ _ (by omega), rw_o _ _ (by omega)], g⟩
    · exact Or.inr (Or.inl (rbx_of g))
end
