/-! B: the whole text read, side by side; offices are copied. -/
def Oz : Ofc := fun _ _ => 0
theorem az_z : AZ Oz := ⟨fun _ _ => rfl, fun _ _ _ _ => rfl⟩
def cpm (I : Mem) (a c n : Nat) : Mem := fun x j => if x = c ∧ j < n then I a j else I x j
def PlS (T : Knd) (A : Rfs) (P : Nat) : Prop := T P = (2, 0) ∧ T (P + 1) = (20, 40) ∧ T (P + 2) = (24, 11) ∧ (∀ k, k < 11 → T (P + 3 + k) = (20, 8)) ∧ T (P + 14) = (24, 6) ∧ (∀ k, k < 6 → T (P + 15 + k) = (20, 6)) ∧ A P 7 = P + 1 ∧ A P 8 = P + 2 ∧ A P 9 = P + 14 ∧ (∀ k, k < 11 → A (P + 2) k = P + 3 + k) ∧ ∀ k, k < 6 → A (P + 14) k = P + 15 + k
def slt (d o k : Nat) : Prop := (o = 135 ∧ k = d) ∨ (o = 136 ∧ 6 * d ≤ k ∧ k < 6 * d + 6) ∨ (o = 137 ∧ 72 * d ≤ k ∧ k < 72 * d + 72) ∨ ((o = 138 ∨ o = 139) ∧ 8 * d ≤ k ∧ k < 8 * d + 8) ∨ (o = 140 ∧ 36 * d ≤ k ∧ k < 36 * d + 36) ∨ (o = 141 ∧ 40 * d ≤ k ∧ k < 40 * d + 40)
def CpM (a d : Nat) (I J : Mem) : Prop := J 135 d = I 135 a ∧ (∀ k, k < 6 → J 136 (6 * d + k) = I 136 (6 * a + k)) ∧ (∀ k, k < 72 → J 137 (72 * d + k) = I 137 (72 * a + k)) ∧ (∀ k, k < 8 → J 138 (8 * d + k) = I 138 (8 * a + k)) ∧ (∀ k, k < 8 → J 139 (8 * d + k) = I 139 (8 * a + k)) ∧ (∀ k, k < 36 → J 140 (36 * d + k) = I 140 (36 * a + k)) ∧ (∀ k, k < 40 → J 141 (40 * d + k) = I 141 (40 * a + k)) ∧ ∀ o k, ¬ slt d o k → J o k = I o k
section
variable {T : Knd} {A : Rfs} {I M I0 M0 M1 : Mem} {b : Nat → Int} {L n u p : Nat} {O : Ofc} {Ψ : Prop} {c : Nat → Int} {ln : Int}
theorem sim_read (h : Ag T A) (t : Bt b L I) (tm : BtM b L M) : OK2 (f_X4_readAll T A 4 I) ((f_X12_clears T A 129 M).bind fun e2 => (f_X12_begins T A 129 e2).bind fun e4 => it (ofS T A) FU e4) (fun J y => ∃ N, y = .inl N ∧ ((∃ n O p, AB O ∧ RG I M b L n 0 O p J N) ∨ RBx I M J N)) := by
  obtain ⟨k0, k1, k2, k3, k4, k5, k6, k7, k8, k9⟩ := r_ev h
  obtain ⟨t0, t1, t2, t3, t4⟩ := t_ev h
  obtain ⟨g0, g1, g2, g3, g4⟩ := g_ev h
  obtain ⟨J0, eJ0, a1, a2, a3, a4⟩ := c_clear h I
  obtain ⟨N0, eN0, b1, b2, b3, b4⟩ := m_clears h M
  unfold f_X4_readAll
  show OK2 (if (T 4).1 = 4 then (gr T A 4 1 4).bind fun x1 => (f_X2_clear T A x1 I).bind fun e2 => (pi T 4 2 4 0 e2).bind fun I4 => (pi T 4 3 4 (-1) I4).bind fun I5 => (gr T A 4 0 4).bind fun x6 => (f_X8_rewind T A x6 I5).bind fun e7 => it (clS T A) FU (0, e7) else none) _ _
  rw [if_pos k0, k2, some_bind, eJ0, some_bind, k4, some_bind, k4, some_bind, k1, some_bind, eN0, some_bind]
  unfold f_X8_rewind f_X12_begins
  rw [if_pos t0, t3, some_bind, if_pos g0, g3, some_bind, g3, some_bind, g3, some_bind]
  obtain ⟨I2, eI2⟩ : ∃ I2 : Mem, I2 = mu (mu (mu J0 4 2 0) 4 3 (-1)) 2 4 0 := ⟨_, rfl⟩
  obtain ⟨M2, eM2⟩ : ∃ M2 : Mem, M2 = mu (mu (mu N0 129 12 0) 129 13 (-1)) 129 7 0 := ⟨_, rfl⟩
  rw [← eI2, ← eM2]
  have i2 : ∀ o k, ¬ (o = 4 ∧ (k = 2 ∨ k = 3)) → ¬ (o = 2 ∧ k = 4) → I2 o k = J0 o k := fun o k h1 h2 => by rw [eI2, mu_o _ _ (by omega), mu_o _ _ (by omega), mu_o _ _ (by omega)]
  have m2 : ∀ o k, ¬ (o = 129 ∧ (k = 12 ∨ k = 13 ∨ k = 7)) → M2 o k = N0 o k := fun o k h1 => by rw [eM2, mu_o _ _ (by omega), mu_o _ _ (by omega), mu_o _ _ (by omega)]
  have tI : Bt b L I2 := ⟨t.1, by rw [i2 _ _ (by omega) (by omega), a4 _ _ (by omega)]; exact t.2.1, fun k hk => by rw [i2 _ _ (by omega) (by omega), a4 _ _ (by omega)]; exact t.2.2 k hk⟩
  have tM : BtM b L M2 := ⟨tm.1, by rw [m2 _ _ (by omega), b4 _ _ (by omega) (by omega) (by omega)]; exact tm.2.1, fun k hk => by rw [m2 _ _ (by omega), b4 _ _ (by omega) (by omega) (by omega)]; exact tm.2.2 k hk⟩
  obtain ⟨J, eJ, j1, j2⟩ := c_advance h tI (q := 0) (by rw [eI2, mu_s]; rfl) (Nat.zero_le _)
  obtain ⟨N, eN, n1, n2⟩ := m_next h tM (q := 0) (by rw [eM2, mu_s]; rfl) (Nat.zero_le _)
  rw [eJ, some_bind, some_bind, eN, some_bind, some_bind]
  have r0 : RG I M b L 0 0 Oz 0 J N := by
    refine ⟨⟨rfl, by decide, rfl, ⟨Int.le_refl 0, Int.le_refl 0⟩, fun hu => absurd hu (by decide), by decide⟩, ⟨Nat.zero_le _, bt_ag tI j2, j1, ?_, ⟨fun k hk => ?_, fun k hk => absurd (show (k : Int) < 0 from hk) (by omega), fun w o hw ho => absurd (show (o : Int) < 0 from ho) (by omega), fun r cc hr hc => ?_⟩, fun o _ ho => ?_, fun w hw => absurd hw (by omega), fun o k hk => ?_, ?_⟩, ⟨btm_ag tM n2, n1, ?_, ⟨?_, fun k hk => ?_, fun k hk => absurd (show (k : Int) < 0 from hk) (by omega), fun w o hw ho => absurd (show (o : Int) < 0 from ho) (by omega), fun o ho => absurd (show (o : Int) < 0 from ho) (by omega), fun o ho => absurd (show (o : Int) < 0 from ho) (by omega), fun r cc hr hc => ?_⟩, fun hu => absurd hu (by decide), fun w hw => absurd hw (by omega), fun o k h1 h2 => ?_⟩⟩
    · rw [j2 _ _ (by omega), eI2, mu_o _ _ (by omega), mu_o _ _ (by omega), mu_s]
    · rw [j2 _ _ (by omega), i2 _ _ (by omega) (by omega)]; exact a1 k hk
    · rw [j2 _ _ (by omega), i2 _ _ (by omega) (by omega), show 5 + 15 + r = 20 + r by omega]; exact a3 r cc hr hc
    · rw [j2 _ _ (by omega), i2 _ _ (by omega) (by omega), j2 _ _ (by omega), i2 _ _ (by omega) (by omega)]
      exact ⟨a2 9 o (by decide) ho, a2 10 o (by decide) ho⟩
    · rw [j2 _ _ (by omega), i2 _ _ (by omega) (by omega), a4 _ _ (by omega)]
    · rw [j2 _ _ (by omega), eI2, mu_o _ _ (by omega), mu_s]
    · rw [n2 _ _ (by omega), eM2, mu_o _ _ (by omega), mu_o _ _ (by omega), mu_s]
    · rw [n2 _ _ (by omega), m2 _ _ (by omega)]; exact b1
    · rw [n2 _ _ (by omega), m2 _ _ (by omega), show 6 * 4 + k = 24 + k by omega]; exact b2 k hk
    · rw [n2 _ _ (by omega), m2 _ _ (by omega), show 36 * 4 + 6 * r + cc = 144 + (6 * r + cc) by omega]; exact b3 _ (by omega)
    · unfold sl4 at h2
      rw [n2 _ _ (by omega), m2 _ _ (by omega), b4 _ _ (by omega) (by omega) (by omega)]
  exact sim_loop h 1600 0 0 FU FU 0 Oz J N (Or.inl ⟨rfl, az_z⟩) r0 rfl (by omega) (by unfold FU; omega) (by unfold FU; omega)
theorem acp_all {a c n : Nat} (ha : T a = (20, n)) (hc : T c = (20, n)) (I : Mem) : acp T 20 a 0 c 0 (n : Int) I = some (cpm I a c n) := by
  unfold acp
  rw [ha, hc, if_pos ⟨rfl, rfl, by omega, by omega, by omega, by omega, by omega⟩]
  congr 1
  funext x j
  unfold cpm
  by_cases e : x = c ∧ j < n
  · rw [if_pos e, if_pos ⟨e.1, by omega, by omega⟩]
    congr 1
    omega
  · rw [if_neg e, if_neg (fun z => e ⟨z.1, by omega⟩)]
theorem pls_ev {P : Nat} (q : PlS T A P) (hP : 0 < P) : (T P).1 = 2 ∧ (∀ k I, gi T 2 k P I = some (I P k)) ∧ (∀ k v I, pi T 2 k P v I = some (mu I P k v)) ∧ gr T A 2 7 P = some (P + 1) ∧ gr T A 2 8 P = some (P + 2) ∧ gr T A 2 9 P = some (P + 14) ∧ (∀ w : Nat, w < 11 → lr T A 24 (P + 2) (w : Int) = some (P + 3 + w)) ∧ ∀ r : Nat, r < 6 → lr T A 24 (P + 14) (r : Int) = some (P + 15 + r) := by
  obtain ⟨q1, q2, q3, q4, q5, q6, q7, q8, q9, q10, q11⟩ := q
  refine ⟨by rw [q1], ev_gi q1 rfl, ev_pi q1 rfl, ev_gr q1 rfl q7 (by omega), ev_gr q1 rfl q8 (by omega), ev_gr q1 rfl q9 (by omega), fun w hw => ?_, fun r hr => ?_⟩
  · rw [ev_lr q3 q10 (by omega), if_pos (by omega), Int.toNat_natCast]
  · rw [ev_lr q5 q11 (by omega), if_pos (by omega), Int.toNat_natCast]
theorem pls_26 (h : Ag T A) : PlS T A 26 := ⟨kT_26 h, h.1 (27, 20, 40) (by decide +kernel), h.1 (28, 24, 11) (by decide +kernel), fun k hk => h.1 (26 + 3 + k, 20, 8) ((by decide +kernel : ∀ k, k < 11 → (26 + 3 + k, 20, 8) ∈ agK) k hk), h.1 (40, 24, 6) (by decide +kernel), fun k hk => h.1 (26 + 15 + k, 20, 6) ((by decide +kernel : ∀ k, k < 6 → (26 + 15 + k, 20, 6) ∈ agK) k hk), kA h (by decide +kernel), kA h (by decide +kernel), kA h (by decide +kernel), fun k hk => kA h ((by decide +kernel : ∀ k, k < 11 → (26 + 2, k, 26 + 3 + k) ∈ agR) k hk), fun k hk => kA h ((by decide +kernel : ∀ k, k < 6 → (26 + 14, k, 26 + 15 + k) ∈ agR) k hk)⟩
theorem pls_5 (h : Ag T A) : PlS T A 5 := ⟨kT_5 h, h.1 (6, 20, 40) (by decide +kernel), h.1 (7, 24, 11) (by decide +kernel), fun k hk => h.1 (5 + 3 + k, 20, 8) ((by decide +kernel : ∀ k, k < 11 → (5 + 3 + k, 20, 8) ∈ agK) k hk), h.1 (19, 24, 6) (by decide +kernel), fun k hk => h.1 (5 + 15 + k, 20, 6) ((by decide +kernel : ∀ k, k < 6 → (5 + 15 + k, 20, 6) ∈ agK) k hk), kA h (by decide +kernel), kA h (by decide +kernel), kA h (by decide +kernel), fun k hk => kA h ((by decide +kernel : ∀ k, k < 11 → (5 + 2, k, 5 + 3 + k) ∈ agR) k hk), fun k hk => kA h ((by decide +kernel : ∀ k, k < 6 → (5 + 14, k, 5 + 15 + k) ∈ agR) k hk)⟩
theorem cpm_s (I : Mem) {a c n k : Nat} (h : k < n) : cpm I a c n c k = I a k := if_pos ⟨rfl, h⟩
theorem cpm_o (I : Mem) {a c n o k : Nat} (h : o ≠ c) : cpm I a c n o k = I o k := if_neg (fun z => h z.1)
theorem c_copyFrom {P Q : Nat} (hP : PlS T A P) (hQ : PlS T A Q) (p0 : 0 < P) (q0 : 0 < Q) (dj : P + 20 < Q ∨ Q + 20 < P) : OK (f_X2_copyFrom T A P Q I) (fun J => (∀ k, k < 7 → J P k = I Q k) ∧ (∀ k, k < 40 → J (P + 1) k = I (Q + 1) k) ∧ (∀ w k, w < 11 → k < 8 → J (P + 3 + w) k = I (Q + 3 + w) k) ∧ (∀ r k, r < 6 → k < 6 → J (P + 15 + r) k = I (Q + 15 + r) k) ∧ ∀ o k, (o < P ∨ P + 20 < o) → J o k = I o k) := by
  obtain ⟨a1, a2, a3, a4, a5, a6, a7, a8⟩ := pls_ev hP p0
  obtain ⟨b1, b2, b3, b4, b5, b6, b7, b8⟩ := pls_ev hQ q0
  unfold f_X2_copyFrom
  rw [if_pos a1]
  simp only [b2, a3, some_bind, b4, a4]
  obtain ⟨J0, eJ0⟩ : ∃ J0 : Mem, J0 = mu (mu (mu (mu (mu (mu (mu I P 0 (I Q 0)) P 1 (I Q 1)) P 2 (I Q 2)) P 3 (I Q 3)) P 4 (I Q 4)) P 5 (I Q 5)) P 6 (I Q 6) := ⟨_, rfl⟩
  have hne : Q ≠ P := by omega
  have m1 : ∀ (J : Mem) k k' v, mu J P k v Q k' = J Q k' := fun J k k' v => mu_o _ _ (fun z => hne z.1)
  simp only [m1]
  rw [← eJ0]
  have z0 : ∀ k, k < 7 → J0 P k = I Q k := fun k hk => by
    rw [eJ0]
    rcases (by omega : k = 0 ∨ k = 1 ∨ k = 2 ∨ k = 3 ∨ k = 4 ∨ k = 5 ∨ k = 6) with e | e | e | e | e | e | e
    · subst e; rw [mu_o _ _ (by omega), mu_o _ _ (by omega), mu_o _ _ (by omega), mu_o _ _ (by omega), mu_o _ _ (by omega), mu_o _ _ (by omega), mu_s]
    · subst e; rw [mu_o _ _ (by omega), mu_o _ _ (by omega), mu_o _ _ (by omega), mu_o _ _ (by omega), mu_o _ _ (by omega), mu_s]
    · subst e; rw [mu_o _ _ (by omega), mu_o _ _ (by omega), mu_o _ _ (by omega), mu_o _ _ (by omega), mu_s]
    · subst e; rw [mu_o _ _ (by omega), mu_o _ _ (by omega), mu_o _ _ (by omega), mu_s]
    · subst e; rw [mu_o _ _ (by omega), mu_o _ _ (by omega), mu_s]
    · subst e; rw [mu_o _ _ (by omega), mu_s]
    · subst e; rw [mu_s]
  have z1 : ∀ o k, o ≠ P → J0 o k = I o k := fun o k hk => by
    rw [eJ0, mu_o _ _ (by omega), mu_o _ _ (by omega), mu_o _ _ (by omega), mu_o _ _ (by omega), mu_o _ _ (by omega), mu_o _ _ (by omega), mu_o _ _ (by omega)]
  rw [show acp T 20 (Q + 1) 0 (P + 1) 0 40 J0 = some (cpm J0 (Q + 1) (P + 1) 40) from acp_all hQ.2.1 hP.2.1 J0, some_bind]
  obtain ⟨J1, eJ1⟩ : ∃ J1 : Mem, J1 = cpm J0 (Q + 1) (P + 1) 40 := ⟨_, rfl⟩
  rw [← eJ1]
  have y0 : ∀ k, k < 7 → J1 P k = I Q k := fun k hk => by rw [eJ1, cpm_o _ (by omega)]; exact z0 k hk
  have y1 : ∀ k, k < 40 → J1 (P + 1) k = I (Q + 1) k := fun k hk => by rw [eJ1, cpm_s _ hk]; exact z1 _ _ (by omega)
  have y2 : ∀ o k, o ≠ P → o ≠ P + 1 → J1 o k = I o k := fun o k h1 h2 => by rw [eJ1, cpm_o _ h2]; exact z1 o k h1
  refine ok_tn (ok_m (P := fun z => match z with | .inl V => (∀ w k, w < 11 → k < 8 → V (P + 3 + w) k = I (Q + 3 + w) k) ∧ ∀ o k, (o < P + 3 ∨ P + 13 < o) → V o k = J1 o k | .inr _ => False) ?_ ?_)
  · refine it_run (fun i (x : Int × Mem) => x.1 = (i : Int) ∧ (∀ w k, w < i → k < 8 → x.2 (P + 3 + w) k = I (Q + 3 + w) k) ∧ ∀ o k, (o < P + 3 ∨ P + 13 < o) → x.2 o k = J1 o k) 11 ?_ ?_ 0 FU _ (by omega) (by unfold FU; omega) ⟨rfl, fun w k hw => absurd hw (by omega), fun _ _ _ => rfl⟩
    · rintro i ⟨x1, V⟩ hi ⟨rfl, v1, v2⟩
      try dsimp only at v1 v2 ⊢
      rw [if_pos (by omega), b5, some_bind, b7 i hi, some_bind, a5, some_bind, a7 i hi, some_bind, show acp T 20 (Q + 3 + i) 0 (P + 3 + i) 0 8 V = some (cpm V (Q + 3 + i) (P + 3 + i) 8) from acp_all (hQ.2.2.2.1 i hi) (hP.2.2.2.1 i hi) V, some_bind, ia_1 (by omega)]
      refine ok_i ⟨rfl, fun w k hw hk => ?_, fun o k hk => ?_⟩
      · try dsimp only
        by_cases e : w = i
        · rw [e, cpm_s _ hk, v2 _ _ (by omega), y2 _ _ (by omega) (by omega)]
        · rw [cpm_o _ (by omega)]; exact v1 w k (by omega) hk
      · try dsimp only
        rw [cpm_o _ (by omega)]; exact v2 o k hk
    · rintro ⟨x1, V⟩ ⟨rfl, v1, v2⟩
      try dsimp only at v1 v2 ⊢
      rw [if_neg (by omega)]
      exact ok_i ⟨v1, v2⟩
  · rintro (V | V) hz
    · obtain ⟨v1, v2⟩ := hz
      show OK _ _
      try dsimp only
      refine it_run (fun i (x : Int × Mem) => x.1 = (i : Int) ∧ (∀ w k, w < i → k < 6 → x.2 (P + 15 + w) k = I (Q + 15 + w) k) ∧ ∀ o k, (o < P + 15 ∨ P + 20 < o) → x.2 o k = V o k) 6 ?_ ?_ 0 FU _ (by omega) (by unfold FU; omega) ⟨rfl, fun w k hw => absurd hw (by omega), fun _ _ _ => rfl⟩
      · rintro i ⟨x1, U⟩ hi ⟨rfl, u1, u2⟩
        try dsimp only at u1 u2 ⊢
        rw [if_pos (by omega), b6, some_bind, b8 i hi, some_bind, a6, some_bind, a8 i hi, some_bind, show acp T 20 (Q + 15 + i) 0 (P + 15 + i) 0 6 U = some (cpm U (Q + 15 + i) (P + 15 + i) 6) from acp_all (hQ.2.2.2.2.2.1 i hi) (hP.2.2.2.2.2.1 i hi) U, some_bind, ia_1 (by omega)]
        refine ok_i ⟨rfl, fun w k hw hk => ?_, fun o k hk => ?_⟩
        · try dsimp only
          by_cases e : w = i
          · rw [e, cpm_s _ hk, u2 _ _ (by omega), v2 _ _ (by omega), y2 _ _ (by omega) (by omega)]
          · rw [cpm_o _ (by omega)]; exact u1 w k (by omega) hk
        · try dsimp only
          rw [cpm_o _ (by omega)]; exact u2 o k hk
      · rintro ⟨x1, U⟩ ⟨rfl, u1, u2⟩
        try dsimp only at u1 u2 ⊢
        rw [if_neg (by omega)]
        refine ok_i ⟨fun k hk => ?_, fun k hk => ?_, fun w k hw hk => ?_, u1, fun o k hk => ?_⟩
        · rw [u2 _ _ (by omega), v2 _ _ (by omega)]; exact y0 k hk
        · rw [u2 _ _ (by omega), v2 _ _ (by omega)]; exact y1 k hk
        · rw [u2 _ _ (by omega)]; exact v1 w k hw hk
        · rw [u2 _ _ (by omega), v2 _ _ (by omega), y2 _ _ (by omega) (by omega)]
    · exact hz.elim
theorem cv_copy {P Q : Nat} {J : Mem} (hc : CV O Q I) (h4 : O 0 4 ≤ 8) (h6 : O 0 6 ≤ 40) (c : (∀ k, k < 7 → J P k = I Q k) ∧ (∀ k, k < 40 → J (P + 1) k = I (Q + 1) k) ∧ (∀ w k, w < 11 → k < 8 → J (P + 3 + w) k = I (Q + 3 + w) k) ∧ (∀ r k, r < 6 → k < 6 → J (P + 15 + r) k = I (Q + 15 + r) k)) : CV O P J :=
  ⟨fun k hk => by rw [c.1 k hk]; exact hc.1 k hk, fun k hk => by rw [c.2.1 k (by omega)]; exact hc.2.1 k hk, fun w o hw ho => by rw [c.2.2.1 w o hw (by omega)]; exact hc.2.2.1 w o hw ho, fun r k hr hk => by rw [c.2.2.2 r k hr hk]; exact hc.2.2.2 r k hr hk⟩
theorem m_copyRow {w0 Ln m a d : Nat} (hT : T w0 = (20, Ln)) (hm : m ≤ 100) (ha : a ≤ 4) (hd : d ≤ 4) (ne : a ≠ d) (hL : 5 * m ≤ Ln) : OK (f_X12_copyRow T A w0 (m : Int) (a : Int) (d : Int) I) (fun J => (∀ k, k < m → J w0 (m * d + k) = I w0 (m * a + k)) ∧ ∀ o k, ¬ (o = w0 ∧ m * d ≤ k ∧ k < m * d + m) → J o k = I o k) := by
  obtain ⟨pa, ea⟩ : ∃ pa, m * a = pa := ⟨_, rfl⟩
  obtain ⟨pd, ed⟩ : ∃ pd, m * d = pd := ⟨_, rfl⟩
  have la : pa ≤ m * 4 := by rw [← ea]; exact Nat.mul_le_mul_left m ha
  have ld_ : pd ≤ m * 4 := by rw [← ed]; exact Nat.mul_le_mul_left m hd
  have dj : pa + m ≤ pd ∨ pd + m ≤ pa := by
    rcases Nat.lt_or_ge a d with z | z
    · left
      have := Nat.mul_le_mul_left m (show a + 1 ≤ d by omega)
      rw [Nat.mul_add, Nat.mul_one, ea, ed] at this
      exact this
    · right
      have := Nat.mul_le_mul_left m (show d + 1 ≤ a by omega)
      rw [Nat.mul_add, Nat.mul_one, ea, ed] at this
      exact this
  have ia_ : ((m : Int) * (a : Int)) = (pa : Int) := by rw [← ea, Int.natCast_mul]
  have id_ : ((m : Int) * (d : Int)) = (pd : Int) := by rw [← ed, Int.natCast_mul]
  rw [ea, ed]
  unfold f_X12_copyRow
  refine it_run (fun i (x : Int × Mem) => x.1 = (i : Int) ∧ (∀ k, k < i → x.2 w0 (pd + k) = I w0 (pa + k)) ∧ ∀ o k, ¬ (o = w0 ∧ pd ≤ k ∧ k < pd + m) → x.2 o k = I o k) m ?_ ?_ 0 FU _ (by omega) (by unfold FU; omega) ⟨rfl, fun k hk => absurd hk (by omega), fun _ _ _ => rfl⟩
  · rintro i ⟨x1, V⟩ hi ⟨rfl, v1, v2⟩
    try dsimp only at v1 v2 ⊢
    rw [if_pos (by omega), im_eq (by omega) (by omega), im_eq (by omega) (by omega), ia_, id_, ia_eq (a := (pa : Int)) (by omega) (by omega), ia_eq (a := (pd : Int)) (by omega) (by omega), ev_ld hT, if_pos (by omega), some_bind, ev_sto hT, if_pos (by omega), some_bind, ia_1 (by omega), show ((pa : Int) + (i : Int)).toNat = pa + i by omega, show ((pd : Int) + (i : Int)).toNat = pd + i by omega]
    refine ok_i ⟨rfl, fun k hk => ?_, fun o k hk => ?_⟩
    · try dsimp only
      by_cases e : k = i
      · rw [e, mu_s, v2 _ _ (by omega)]
      · rw [mu_o _ _ (by omega)]; exact v1 k (by omega)
    · try dsimp only
      rw [mu_o _ _ (by omega)]; exact v2 o k hk
  · rintro ⟨x1, V⟩ ⟨rfl, v1, v2⟩
    try dsimp only at v1 v2 ⊢
    rw [if_neg (by omega)]
    exact ok_i ⟨v1, v2⟩
theorem m_copyOffice (h : Ag T A) {a d : Nat} (ha : a ≤ 4) (hd : d ≤ 4) (ne : a ≠ d) : OK (f_X12_copyOffice T A 129 (a : Int) (d : Int) I) (fun J => CpM a d I J) := by
  obtain ⟨u16, u17, u18, u19, u20, u21, u22, u23⟩ := q_ev h
  unfold f_X12_copyOffice
  rw [if_pos (by rw [kT_129 h]), u16, some_bind]
  refine ok_b (ok_m (m_copyRow (m := 1) (kT_135 h) (by decide) ha hd ne (by decide)) (fun J1 h1 => ?_))
  rw [u17, some_bind]
  refine ok_b (ok_m (m_copyRow (m := 6) (kT_136 h) (by decide) ha hd ne (by decide)) (fun J2 h2 => ?_))
  rw [u18, some_bind]
  refine ok_b (ok_m (m_copyRow (m := 72) (kT_137 h) (by decide) ha hd ne (by decide)) (fun J3 h3 => ?_))
  rw [u19, some_bind]
  refine ok_b (ok_m (m_copyRow (m := 8) (kT_138 h) (by decide) ha hd ne (by decide)) (fun J4 h4 => ?_))
  rw [u20, some_bind]
  refine ok_b (ok_m (m_copyRow (m := 8) (kT_139 h) (by decide) ha hd ne (by decide)) (fun J5 h5 => ?_))
  rw [u21, some_bind]
  refine ok_b (ok_m (m_copyRow (m := 36) (kT_140 h) (by decide) ha hd ne (by decide)) (fun J6 h6 => ?_))
  rw [u22, some_bind]
  refine ok_b (ok_m (m_copyRow (m := 40) (kT_141 h) (by decide) ha hd ne (by decide)) (fun J7 h7 => ?_))
  refine ok_i ⟨?_, fun k hk => ?_, fun k hk => ?_, fun k hk => ?_, fun k hk => ?_, fun k hk => ?_, fun k hk => ?_, fun o k hk => ?_⟩
  · rw [h7.2 _ _ (by omega), h6.2 _ _ (by omega), h5.2 _ _ (by omega), h4.2 _ _ (by omega), h3.2 _ _ (by omega), h2.2 _ _ (by omega)]
    have := h1.1 0 (by decide)
    rw [show 1 * d + 0 = d by omega, show 1 * a + 0 = a by omega] at this
    exact this
  · rw [h7.2 _ _ (by omega), h6.2 _ _ (by omega), h5.2 _ _ (by omega), h4.2 _ _ (by omega), h3.2 _ _ (by omega), h2.1 k hk, h1.2 _ _ (by omega)]
  · rw [h7.2 _ _ (by omega), h6.2 _ _ (by omega), h5.2 _ _ (by omega), h4.2 _ _ (by omega), h3.1 k hk, h2.2 _ _ (by omega), h1.2 _ _ (by omega)]
  · rw [h7.2 _ _ (by omega), h6.2 _ _ (by omega), h5.2 _ _ (by omega), h4.1 k hk, h3.2 _ _ (by omega), h2.2 _ _ (by omega), h1.2 _ _ (by omega)]
  · rw [h7.2 _ _ (by omega), h6.2 _ _ (by omega), h5.1 k hk, h4.2 _ _ (by omega), h3.2 _ _ (by omega), h2.2 _ _ (by omega), h1.2 _ _ (by omega)]
  · rw [h7.2 _ _ (by omega), h6.1 k hk, h5.2 _ _ (by omega), h4.2 _ _ (by omega), h3.2 _ _ (by omega), h2.2 _ _ (by omega), h1.2 _ _ (by omega)]
  · rw [h7.1 k hk, h6.2 _ _ (by omega), h5.2 _ _ (by omega), h4.2 _ _ (by omega), h3.2 _ _ (by omega), h2.2 _ _ (by omega), h1.2 _ _ (by omega)]
  · unfold slt at hk
    rw [h7.2 _ _ (by omega), h6.2 _ _ (by omega), h5.2 _ _ (by omega), h4.2 _ _ (by omega), h3.2 _ _ (by omega), h2.2 _ _ (by omega), h1.2 _ _ (by omega)]
theorem mw_copy {a d : Nat} {J : Mem} (hm : MW O a I) (h4 : O 0 4 ≤ 8) (h6 : O 0 6 ≤ 40) (c : CpM a d I J) : MW O d J := by
  obtain ⟨q1, q2, q3, q4, q5, q6, q7⟩ := hm
  obtain ⟨c1, c2, c3, c4, c5, c6, c7, c8⟩ := c
  refine ⟨by rw [c1]; exact q1, fun k hk => by rw [c2 k hk]; exact q2 k hk, fun k hk => by rw [c7 k (by omega)]; exact q3 k hk, fun w o hw ho => ?_, fun o ho => by rw [c4 o (by omega)]; exact q5 o ho, fun o ho => by rw [c5 o (by omega)]; exact q6 o ho, fun r k hr hk => ?_⟩
  · rw [show 9 * (8 * d + o) + w = 72 * d + (9 * o + w) by omega, c3 _ (by omega), show 72 * a + (9 * o + w) = 9 * (8 * a + o) + w by omega]
    exact q4 w o hw ho
  · rw [show 36 * d + 6 * r + k = 36 * d + (6 * r + k) by omega, c6 _ (by omega), show 36 * a + (6 * r + k) = 36 * a + 6 * r + k by omega]
    exact q7 r k hr hk
theorem mw_stay {t d : Nat} {J : Mem} (hm : MW O t I) (h4 : O 0 4 ≤ 8) (h6 : O 0 6 ≤ 40) (ne : t ≠ d) (c : ∀ o k, 134 ≤ o → o ≤ 142 → ¬ slt d o k → J o k = I o k) : MW O t J := by
  obtain ⟨q1, q2, q3, q4, q5, q6, q7⟩ := hm
  have e : ∀ o k, 134 ≤ o → o ≤ 142 → ¬ slt d o k → J o k = I o k := c
  unfold slt at e
  refine ⟨by rw [e _ _ (by omega) (by omega) (by omega)]; exact q1, fun k hk => by rw [e _ _ (by omega) (by omega) (by omega)]; exact q2 k hk, fun k hk => by rw [e _ _ (by omega) (by omega) (by omega)]; exact q3 k hk, fun w o hw ho => by rw [e _ _ (by omega) (by omega) (by omega)]; exact q4 w o hw ho, fun o ho => by rw [e _ _ (by omega) (by omega) (by omega)]; exact q5 o ho, fun o ho => by rw [e _ _ (by omega) (by omega) (by omega)]; exact q6 o ho, fun r k hr hk => by rw [e _ _ (by omega) (by omega) (by omega)]; exact q7 r k hr hk⟩
end
