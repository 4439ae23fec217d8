/-! B: the whole text, side by side. -/
def AB (O : Ofc) : Prop := (O 0 0 = 0 ∧ AZ O) ∨ (0 < O 0 0 ∧ WFc O)
def clS (T : Knd) (A : Rfs) : Int × Mem → Option ((Int × Mem) ⊕ Mem) := fun (s10 : Int × Mem) => if s10.1 < 1600 then (gi T 4 2 4 s10.2).bind fun x12 => if x12 = 0 then (gr T A 4 0 4).bind fun x14 => (gi T 8 2 x14 s10.2).bind fun x15 => if x15 = 0 then some (.inr s10.2) else (f_X4_readLine T A 4 s10.2).bind fun e17 => some (.inl (ia s10.1 1, e17)) else some (.inr s10.2) else some (.inr s10.2)
def ofS (T : Knd) (A : Rfs) : Mem → Option (Mem ⊕ (Mem ⊕ (Int × Mem))) := fun (s9 : Mem) => (f_X12_isGood T A 129 s9).bind fun e10 => if e10 = 0 then some (.inr (.inl s9)) else (gi T 12 8 129 s9).bind fun x13 => if x13 = 0 then some (.inr (.inl s9)) else (gr T A 12 16 129).bind fun x15 => (ld T 20 x15 4 s9).bind fun x16 => thn (if x16 = 0 then (f_X12_asks T A 129 218546996 s9).bind fun e22 => (f_X12_number_ T A 129 9872488 1 6 e22).bind fun e24 => (f_X12_reads T A 129 0 e24.1 e24.2).bind fun e27 => (f_X12_asks T A 129 257 e27).bind fun e29 => (f_X12_roomHere T A 129 e29).bind fun e31 => (f_X12_reads T A 129 1 e31.1 e31.2).bind fun e34 => (f_X12_number_ T A 129 47 0 399 e34).bind fun e36 => (f_X12_reads T A 129 2 e36.1 e36.2).bind fun e39 => some (.inl e39) else (f_X12_line T A 129 s9).bind fun e20 => some (.inl e20)) (fun (v19 : Mem) => (f_X12_isGood T A 129 v19).bind fun e41 => thn (if e41 = 0 then some (.inl v19) else (f_X12_ends T A 129 v19).bind fun e46 => some (.inl e46)) (fun (v45 : Mem) => (gr T A 12 16 129).bind fun x48 => (ld T 20 x48 4 v45).bind fun x49 => (sto T 20 x48 4 (ia x49 1) v45).bind fun I51 => some (.inl I51)))
section
variable {T : Knd} {A : Rfs} {I M I0 M0 M1 : Mem} {b : Nat → Int} {L n u p : Nat} {O : Ofc} {Ψ : Prop} {c : Nat → Int} {ln : Int}
theorem ofs_eq (h : Ag T A) (g : M 129 12 = 0) (k : M 129 8 ≠ 0) {ln : Int} (hl : M 135 4 = ln) : ofS T A M = ((if ln = 0 then hdM T A M else f_X12_line T A 129 M).bind (fun e => sgnM T A e)).bind (fun N => some (.inl N)) := by
  obtain ⟨g0, g1, g2, g3, g4⟩ := g_ev h
  have l4 : ld T 20 135 4 M = some ln := by
    rw [ev_ld (kT_135 h), if_pos (by decide)]
    exact congrArg some hl
  have sg : ∀ v19 : Mem, ((f_X12_isGood T A 129 v19).bind fun e41 => thn (if e41 = 0 then some (.inl v19) else (f_X12_ends T A 129 v19).bind fun e46 => some (.inl e46)) (fun (v45 : Mem) => (gr T A 12 16 129).bind fun x48 => (ld T 20 x48 4 v45).bind fun x49 => (sto T 20 x48 4 (ia x49 1) v45).bind fun I51 => some (.inl I51))) = (sgnM T A v19).bind (fun N => (some (.inl N) : Option (Mem ⊕ (Mem ⊕ (Int × Mem))))) := fun v19 => by
    unfold sgnM
    rw [m_isGood h, some_bind, some_bind]
    have fin : ∀ v45 : Mem, ((gr T A 12 16 129).bind fun x48 => (ld T 20 x48 4 v45).bind fun x49 => (sto T 20 x48 4 (ia x49 1) v45).bind fun I51 => some (.inl I51)) = ((gr T A 12 16 129).bind fun x48 => (ld T 20 x48 4 v45).bind fun x49 => (sto T 20 x48 4 (ia x49 1) v45).bind fun I51 => some I51).bind (fun N => (some (.inl N) : Option (Mem ⊕ (Mem ⊕ (Int × Mem))))) := fun v45 => by
      rw [s135 h, some_bind, (q_ev h).1, some_bind, ev_ld (kT_135 h), if_pos (by decide), some_bind, ev_sto (kT_135 h), if_pos (by decide), some_bind]
      rfl
    by_cases c : (if v19 129 12 = 0 then (1 : Int) else 0) = 0
    · rw [if_pos c, if_pos c, thn_l, thn_l, fin]
    · rw [if_neg c, if_neg c]
      cases f_X12_ends T A 129 v19
      · rfl
      · rename_i v
        rw [some_bind, some_bind, thn_l, thn_l, fin]
  unfold ofS
  try dsimp only
  rw [m_isGood h, if_pos g, some_bind, if_neg (by decide), g2, some_bind, if_neg k, (q_ev h).1, some_bind, l4, some_bind]
  by_cases c : ln = 0
  · rw [if_pos c, if_pos c]
    have hd : ((f_X12_asks T A 129 218546996 M).bind fun e22 => (f_X12_number_ T A 129 9872488 1 6 e22).bind fun e24 => (f_X12_reads T A 129 0 e24.1 e24.2).bind fun e27 => (f_X12_asks T A 129 257 e27).bind fun e29 => (f_X12_roomHere T A 129 e29).bind fun e31 => (f_X12_reads T A 129 1 e31.1 e31.2).bind fun e34 => (f_X12_number_ T A 129 47 0 399 e34).bind fun e36 => (f_X12_reads T A 129 2 e36.1 e36.2).bind fun e39 => some (.inl e39)) = (hdM T A M).bind (fun e => (some (.inl e) : Option (Mem ⊕ (Mem ⊕ (Mem ⊕ (Int × Mem)))))) := by
      unfold hdM
      cases f_X12_asks T A 129 218546996 M with
      | none => rfl
      | some e22 =>
      rw [some_bind, some_bind]
      cases f_X12_number_ T A 129 9872488 1 6 e22 with
      | none => rfl
      | some e24 =>
      rw [some_bind, some_bind]
      cases f_X12_reads T A 129 0 e24.1 e24.2 with
      | none => rfl
      | some e27 =>
      rw [some_bind, some_bind]
      cases f_X12_asks T A 129 257 e27 with
      | none => rfl
      | some e29 =>
      rw [some_bind, some_bind]
      cases f_X12_roomHere T A 129 e29 with
      | none => rfl
      | some e31 =>
      rw [some_bind, some_bind]
      cases f_X12_reads T A 129 1 e31.1 e31.2 with
      | none => rfl
      | some e34 =>
      rw [some_bind, some_bind]
      cases f_X12_number_ T A 129 47 0 399 e34 with
      | none => rfl
      | some e36 =>
      rw [some_bind, some_bind]
      cases f_X12_reads T A 129 2 e36.1 e36.2 <;> rfl
    rw [hd]
    cases hdM T A M with
    | none => rfl
    | some N =>
      rw [some_bind, some_bind, thn_l]
      have := sg N
      rw [(q_ev h).1] at this
      exact this
  · rw [if_neg c, if_neg c]
    cases f_X12_line T A 129 M with
    | none => rfl
    | some N =>
      rw [some_bind, some_bind, thn_l]
      have := sg N
      rw [(q_ev h).1] at this
      exact this
theorem sim_loop (h : Ag T A) : ∀ (k n p nC nM i : Nat) (O : Ofc) (I M : Mem), AB O → RG I0 M0 b L n 0 O p I M → O 0 0 = (i : Int) → 1600 - i ≤ k → k + 1 < nC → k + 1 < nM → OK2 (it (clS T A) nC ((i : Int), I)) (it (ofS T A) nM M) (fun J y => ∃ N, y = .inl N ∧ ((∃ n O p, AB O ∧ RG I0 M0 b L n 0 O p J N) ∨ RBx I0 M0 J N)) := by
  obtain ⟨k0, k1, k2, k3, k4, k5, k6, k7, k8, k9⟩ := r_ev h
  obtain ⟨t0, t1, t2, t3, t4⟩ := t_ev h
  obtain ⟨g0, g1, g2, g3, g4⟩ := g_ev h
  intro k
  induction k with
  | zero =>
    intro n p nC nM i O I M ab r hi hk hC hM
    have q1 := r.2.1.1
    have q2 := r.2.1.2.1.1
    have q3 := r.1.2.2.2.1.2
    have ek : tk b L p = 0 := by
      have := (tf_in b q1).1
      unfold tk
      rw [if_neg (by omega)]
    obtain ⟨nC', rfl⟩ : ∃ m, nC = m + 1 := ⟨nC - 1, by omega⟩
    obtain ⟨nM', rfl⟩ : ∃ m, nM = m + 1 := ⟨nM - 1, by omega⟩
    rw [it, it]
    unfold clS ofS
    dsimp only
    rw [if_neg (by omega), m_isGood h, if_pos r.2.2.2.2.1, some_bind, if_neg (by decide), g2, some_bind, r.2.2.2.1.1, if_pos ek]
    exact ok2_i ⟨M, rfl, Or.inl ⟨n, O, p, ab, r⟩⟩
  | succ k ih =>
    intro n p nC nM i O I M ab r hi hk hC hM
    have q1 := r.2.1.1
    have q2 := r.2.1.2.1.1
    have q3 := r.1.2.2.2.1.2
    obtain ⟨nC', rfl⟩ : ∃ m, nC = m + 1 := ⟨nC - 1, by omega⟩
    obtain ⟨nM', rfl⟩ : ∃ m, nM = m + 1 := ⟨nM - 1, by omega⟩
    by_cases ek : tk b L p = 0
    · have e1 : clS T A ((i : Int), I) = some (.inr I) := by
        unfold clS
        dsimp only
        by_cases d : (i : Int) < 1600
        · rw [if_pos d, k3, some_bind, if_pos r.2.1.2.2.2.1, k1, some_bind, t2, some_bind, r.2.1.2.2.1.1, if_pos ek]
        · rw [if_neg d]
      have e2 : ofS T A M = some (.inr (.inl M)) := by
        unfold ofS
        try dsimp only
        rw [m_isGood h, if_pos r.2.2.2.2.1, some_bind, if_neg (by decide), g2, some_bind, r.2.2.2.1.1, if_pos ek]
      rw [it, it, e1, e2]
      exact ok2_i ⟨M, rfl, Or.inl ⟨n, O, p, ab, r⟩⟩
    · have pl : p < L := by
        rcases Nat.lt_or_ge p L with z | z
        · exact z
        · exfalso
          apply ek
          have := (tf_in b q1).1
          unfold tk
          rw [if_neg (by omega)]
      have e1 : clS T A ((i : Int), I) = (f_X4_readLine T A 4 I).bind fun e17 => some (.inl (((i + 1 : Nat) : Int), e17)) := by
        unfold clS
        dsimp only
        rw [if_pos (by omega), k3, some_bind, if_pos r.2.1.2.2.2.1, k1, some_bind, t2, some_bind, r.2.1.2.2.1.1, if_neg ek, ia_1 (by omega)]
      have l4 : M 135 4 = (i : Int) := by rw [← hi]; exact r.2.2.2.2.2.1.1
      have e2 := ofs_eq h r.2.2.2.2.1 (by rw [r.2.2.2.1.1]; exact ek) l4
      have body : OK2 (f_X4_readLine T A 4 I) ((if (i : Int) = 0 then hdM T A M else f_X12_line T A 129 M).bind (fun e => sgnM T A e)) (fun J N => (∃ n O' p, WFc O' ∧ O' 0 0 = O 0 0 + 1 ∧ RG I0 M0 b L n 0 O' p J N) ∨ RBx I0 M0 J N) := by
        rcases ab with ⟨z1, z2⟩ | ⟨z1, z2⟩
        · rw [if_pos (by omega)]
          exact sim_lineA h r z2
        · rw [if_neg (by omega)]
          exact sim_lineB h r z2 (by omega)
      obtain ⟨J, N, eJ, eN, hJ⟩ := body
      rw [it, it, e1, e2, eJ, eN, some_bind, some_bind]
      dsimp only
      rcases hJ with ⟨n', O', p', w1, w2, w3⟩ | g
      · exact ih n' p' nC' nM' (i + 1) O' J N (Or.inr ⟨by omega, w1⟩) w3 (by omega) (by omega) (by omega) (by omega)
      · obtain ⟨nC2, rfl⟩ : ∃ m, nC' = m + 1 := ⟨nC' - 1, by omega⟩
        obtain ⟨nM2, rfl⟩ : ∃ m, nM' = m + 1 := ⟨nM' - 1, by omega⟩
        have e3 : clS T A (((i + 1 : Nat) : Int), J) = some (.inr J) := by
          unfold clS
          dsimp only
          by_cases d : ((i + 1 : Nat) : Int) < 1600
          · rw [if_pos d, k3, some_bind, if_neg g.1]
          · rw [if_neg d]
        have e4 : ofS T A N = some (.inr (.inl N)) := by
          unfold ofS
          try dsimp only
          rw [m_isGood h, if_neg (show ¬ N 129 12 = 0 by rw [g.2.1]; exact g.1), some_bind, if_pos rfl]
        rw [it, it, e3, e4]
        exact ok2_i ⟨N, rfl, Or.inr g⟩
theorem c_clear (h : Ag T A) (I : Mem) : OK (f_X2_clear T A 5 I) (fun J => (∀ k, k < 7 → J 5 k = 0) ∧ (∀ w k, w < 11 → k < 8 → J (8 + w) k = 0) ∧ (∀ r k, r < 6 → k < 6 → J (20 + r) k = 0) ∧ ∀ o k, (o < 5 ∨ 25 < o) → J o k = I o k) := by
  obtain ⟨k0, k1, k2, k3, k4, k5, k6, k7, k8, k9⟩ := r_ev h
  unfold f_X2_clear
  rw [if_pos (by rw [kT_5 h]), k6, some_bind, k6, some_bind, k6, some_bind, k6, some_bind, k6, some_bind, k6, some_bind, k6, some_bind]
  obtain ⟨J0, eJ0⟩ : ∃ J0 : Mem, J0 = mu (mu (mu (mu (mu (mu (mu I 5 0 0) 5 1 0) 5 2 0) 5 3 0) 5 4 0) 5 5 0) 5 6 0 := ⟨_, rfl⟩
  rw [← eJ0]
  have z0 : ∀ k, k < 7 → J0 5 k = 0 := fun k hk => by
    rw [eJ0]
    rcases (by omega : k = 0 ∨ k = 1 ∨ k = 2 ∨ k = 3 ∨ k = 4 ∨ k = 5 ∨ k = 6) with e | e | e | e | e | e | e <;> (subst e; rfl)
  have z1 : ∀ o k, o ≠ 5 → J0 o k = I o k := fun o k hk => by
    rw [eJ0, mu_o _ _ (by omega), mu_o _ _ (by omega), mu_o _ _ (by omega), mu_o _ _ (by omega), mu_o _ _ (by omega), mu_o _ _ (by omega), mu_o _ _ (by omega)]
  refine ok_tn (ok_m (P := fun z => match z with | .inl V => (∀ w k, w < 11 → k < 8 → V (8 + w) k = 0) ∧ ∀ o k, (o < 8 ∨ 18 < o) → V o k = J0 o k | .inr _ => False) ?_ ?_)
  · refine it_run (fun i (x : Int × Mem) => x.1 = (i : Int) ∧ (∀ w k, w < i → k < 8 → x.2 (8 + w) k = 0) ∧ ∀ o k, (o < 8 ∨ 18 < o) → x.2 o k = J0 o k) 11 ?_ ?_ 0 FU _ (by omega) (by unfold FU; omega) ⟨rfl, fun w k hw => absurd hw (by omega), fun _ _ _ => rfl⟩
    · rintro i ⟨x1, V⟩ hi ⟨rfl, v1, v2⟩
      try dsimp only at v1 v2 ⊢
      rw [if_pos (by omega), k8, some_bind, r5_told h (by omega), some_bind]
      refine ok_b (ok_m (c_fill (kT5_told h (by omega)) (by decide) 0) (fun W hW => ?_))
      rw [ia_1 (by omega)]
      refine ok_i ⟨rfl, fun w k hw hk => ?_, fun o k hk => ?_⟩
      · try dsimp only
        by_cases e : w = i
        · rw [e]; exact hW.2 k hk
        · rw [hW.1 _ _ (by omega)]; exact v1 w k (by omega) hk
      · try dsimp only
        rw [hW.1 _ _ (by omega)]; exact v2 o k hk
    · rintro ⟨x1, V⟩ ⟨rfl, v1, v2⟩
      try dsimp only at v1 v2 ⊢
      rw [if_neg (by omega)]
      exact ok_i ⟨v1, v2⟩
  · rintro (V | V) hz
    · obtain ⟨v1, v2⟩ := hz
      show OK _ _
      dsimp only
      refine it_run (fun i (x : Int × Mem) => x.1 = (i : Int) ∧ (∀ w k, w < i → k < 6 → x.2 (20 + w) k = 0) ∧ ∀ o k, (o < 20 ∨ 25 < o) → x.2 o k = V o k) 6 ?_ ?_ 0 FU _ (by omega) (by unfold FU; omega) ⟨rfl, fun w k hw => absurd hw (by omega), fun _ _ _ => rfl⟩
      · rintro i ⟨x1, U⟩ hi ⟨rfl, u1, u2⟩
        try dsimp only at u1 u2 ⊢
        rw [if_pos (by omega), k9, some_bind, r5_way h (by omega), some_bind]
        refine ok_b (ok_m (c_fill (kT5_way h (by omega)) (by decide) 0) (fun W hW => ?_))
        rw [ia_1 (by omega)]
        refine ok_i ⟨rfl, fun w k hw hk => ?_, fun o k hk => ?_⟩
        · try dsimp only
          by_cases e : w = i
          · rw [e]; exact hW.2 k hk
          · rw [hW.1 _ _ (by omega)]; exact u1 w k (by omega) hk
        · try dsimp only
          rw [hW.1 _ _ (by omega)]; exact u2 o k hk
      · rintro ⟨x1, U⟩ ⟨rfl, u1, u2⟩
        try dsimp only at u1 u2 ⊢
        rw [if_neg (by omega)]
        refine ok_i ⟨fun k hk => ?_, fun w k hw hk => ?_, u1, fun o k hk => ?_⟩
        · rw [u2 _ _ (by omega), v2 _ _ (by omega)]; exact z0 k hk
        · rw [u2 _ _ (by omega)]; exact v1 w k hw hk
        · rw [u2 _ _ (by omega), v2 _ _ (by omega)]; exact z1 o k (by omega)
    · exact hz.elim
theorem m_clears (h : Ag T A) (M : Mem) : OK (f_X12_clears T A 129 M) (fun N => N 135 4 = 0 ∧ (∀ k, k < 6 → N 136 (24 + k) = 0) ∧ (∀ k, k < 36 → N 140 (144 + k) = 0) ∧ ∀ o k, ¬ (o = 135 ∧ k = 4) → ¬ (o = 136 ∧ 24 ≤ k ∧ k < 30) → ¬ (o = 140 ∧ 144 ≤ k ∧ k < 180) → N o k = M o k) := by
  obtain ⟨u16, u17, u18, u19, u20, u21, u22, u23⟩ := q_ev h
  unfold f_X12_clears
  rw [if_pos (by rw [kT_129 h]), u16, some_bind, ev_sto (kT_135 h), if_pos (by decide), some_bind, show (4 : Int).toNat = 4 from rfl]
  refine ok_tn (ok_m (P := fun z => match z with | .inl V => V 135 4 = 0 ∧ (∀ k, k < 6 → V 136 (24 + k) = 0) ∧ ∀ o k, ¬ (o = 135 ∧ k = 4) → ¬ (o = 136 ∧ 24 ≤ k ∧ k < 30) → V o k = M o k | .inr _ => False) ?_ ?_)
  · refine it_run (fun i (x : Int × Mem) => x.1 = (i : Int) ∧ x.2 135 4 = 0 ∧ (∀ k, k < i → x.2 136 (24 + k) = 0) ∧ ∀ o k, ¬ (o = 135 ∧ k = 4) → ¬ (o = 136 ∧ 24 ≤ k ∧ k < 30) → x.2 o k = M o k) 6 ?_ ?_ 0 FU _ (by omega) (by unfold FU; omega) ⟨rfl, (show mu M 135 4 0 135 4 = 0 from mu_s _ _ _ _), fun k hk => absurd hk (by omega), fun o k h1 h2 => (show mu M 135 4 0 o k = M o k from mu_o _ _ h1)⟩
    · rintro i ⟨x1, V⟩ hi ⟨rfl, v1, v2, v3⟩
      try dsimp only at v1 v2 v3 ⊢
      rw [if_pos (by omega), m_reads h (by omega), some_bind, ia_1 (by omega)]
      refine ok_i ⟨rfl, ?_, fun k hk => ?_, fun o k h1 h2 => ?_⟩
      · try dsimp only
        rw [mu_o _ _ (by omega)]; exact v1
      · try dsimp only
        by_cases e : k = i
        · rw [e, mu_s]
        · rw [mu_o _ _ (by omega)]; exact v2 k (by omega)
      · try dsimp only
        rw [mu_o _ _ (by omega)]; exact v3 o k h1 h2
    · rintro ⟨x1, V⟩ ⟨rfl, v1, v2, v3⟩
      try dsimp only at v1 v2 v3 ⊢
      rw [if_neg (by omega)]
      exact ok_i ⟨v1, v2, v3⟩
  · rintro (V | V) hz
    · obtain ⟨v1, v2, v3⟩ := hz
      show OK _ _
      dsimp only
      refine it_run (fun i (x : Int × Mem) => x.1 = (i : Int) ∧ (∀ k, k < i → x.2 140 (144 + k) = 0) ∧ ∀ o k, ¬ (o = 140 ∧ 144 ≤ k ∧ k < 180) → x.2 o k = V o k) 36 ?_ ?_ 0 FU _ (by omega) (by unfold FU; omega) ⟨rfl, fun k hk => absurd hk (by omega), fun _ _ _ => rfl⟩
      · rintro i ⟨x1, U⟩ hi ⟨rfl, u1, u2⟩
        try dsimp only at u1 u2 ⊢
        rw [if_pos (by omega), u21, some_bind, ia_eq (by omega) (by omega), ev_sto (kT_140 h), if_pos (by omega), some_bind, ia_1 (by omega), show (144 + (i : Int)).toNat = 144 + i by omega]
        refine ok_i ⟨rfl, fun k hk => ?_, fun o k hk => ?_⟩
        · try dsimp only
          by_cases e : k = i
          · rw [e, mu_s]
          · rw [mu_o _ _ (by omega)]; exact u1 k (by omega)
        · try dsimp only
          rw [mu_o _ _ (by omega)]; exact u2 o k hk
      · rintro ⟨x1, U⟩ ⟨rfl, u1, u2⟩
        try dsimp only at u1 u2 ⊢
        rw [if_neg (by omega)]
        exact ok_i ⟨by rw [u2 _ _ (by omega)]; exact v1, fun k hk => by rw [u2 _ _ (by omega)]; exact v2 k hk, u1, fun o k h1 h2 h3 => by rw [u2 _ _ h3]; exact v3 o k h1 h2⟩
    · exact hz.elim
end
