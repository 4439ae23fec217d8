/-! B: the lines, side by side: head, way, needs and bars, leave. -/
section
variable {T : Knd} {A : Rfs} {I M I0 M0 : Mem} {b : Nat → Int} {L n u p : Nat} {O : Ofc} {Ψ : Prop}
theorem m_reads (h : Ag T A) {k : Nat} (hk : k < 6) (v : Int) (M : Mem) : f_X12_reads T A 129 (k : Int) v M = some (mu M 136 (24 + k) v) := by
  unfold f_X12_reads
  rw [if_pos (by rw [kT_129 h]), (q_ev h).2.1, some_bind, ia_eq (by omega) (by omega), ev_sto (kT_136 h), if_pos (by omega), some_bind, show (24 + (k : Int)).toNat = 24 + k by omega]
theorem m_hasRead (h : Ag T A) {k : Nat} (hk : k < 6) (M : Mem) : f_X12_hasRead T A 129 (k : Int) M = some (M 136 (24 + k)) := by
  unfold f_X12_hasRead
  rw [if_pos (by rw [kT_129 h]), (q_ev h).2.1, some_bind, ia_eq (by omega) (by omega), ev_ld (kT_136 h), if_pos (by omega), some_bind, show (24 + (k : Int)).toNat = 24 + k by omega]
theorem m_rd0 (h : Ag T A) (v : Int) (M : Mem) : f_X12_reads T A 129 0 v M = some (mu M 136 24 v) := m_reads h (k := 0) (by decide) v M
theorem m_rd1 (h : Ag T A) (v : Int) (M : Mem) : f_X12_reads T A 129 1 v M = some (mu M 136 25 v) := m_reads h (k := 1) (by decide) v M
theorem m_rd2 (h : Ag T A) (v : Int) (M : Mem) : f_X12_reads T A 129 2 v M = some (mu M 136 26 v) := m_reads h (k := 2) (by decide) v M
theorem m_rd3 (h : Ag T A) (v : Int) (M : Mem) : f_X12_reads T A 129 3 v M = some (mu M 136 27 v) := m_reads h (k := 3) (by decide) v M
theorem m_rd4 (h : Ag T A) (v : Int) (M : Mem) : f_X12_reads T A 129 4 v M = some (mu M 136 28 v) := m_reads h (k := 4) (by decide) v M
theorem m_hr0 (h : Ag T A) (M : Mem) : f_X12_hasRead T A 129 0 M = some (M 136 24) := m_hasRead h (k := 0) (by decide) M
theorem m_hr3 (h : Ag T A) (M : Mem) : f_X12_hasRead T A 129 3 M = some (M 136 27) := m_hasRead h (k := 3) (by decide) M
theorem m_roomHere (h : Ag T A) (M : Mem) : f_X12_roomHere T A 129 M = f_X12_number T A 129 0 (isb (M 136 24) 1) M := by
  unfold f_X12_roomHere
  rw [if_pos (by rw [kT_129 h]), m_hr0 h, some_bind]
  cases f_X12_number T A 129 0 (isb (M 136 24) 1) M <;> rfl
theorem m_officialHere (h : Ag T A) (M : Mem) : f_X12_officialHere T A 129 M = f_X12_number T A 129 0 (isb (M 136 27) 1) M := by
  unfold f_X12_officialHere
  rw [if_pos (by rw [kT_129 h]), m_hr3 h, some_bind]
  cases f_X12_number T A 129 0 (isb (M 136 27) 1) M <;> rfl
theorem m_number_ (h : Ag T A) (W lo hi : Int) (M : Mem) : f_X12_number_ T A 129 W lo hi M = (f_X12_asks T A 129 W M).bind (fun e => f_X12_number T A 129 lo hi e) := by
  unfold f_X12_number_
  rw [if_pos (by rw [kT_129 h])]
  cases f_X12_asks T A 129 W M
  · rfl
  · rw [some_bind, some_bind]
    rename_i N
    cases f_X12_number T A 129 lo hi N <;> rfl
theorem rel_asks (h : Ag T A) (r : Rel I0 M0 b L n u O Ψ I M) (w : Nat) : ∃ N, f_X12_asks T A 129 (wpk w) M = some N ∧ ∀ o k, o ≠ 129 → N o k = M o k := by
  rcases r with ⟨h1, p, r⟩ | r
  · rw [m_asks h r]
    cases isw b L p w
    · rw [if_neg (by decide), m_fails h, if_pos r.2.2.2.2.1]
      exact ⟨_, rfl, fun o k hk => by rw [mu_o _ _ (by omega), mu_o _ _ (by omega)]⟩
    · rw [if_pos rfl]
      obtain ⟨N, e, n1, n2⟩ := m_next h r.2.2.1 r.2.2.2.1.2.2.1 (tt_in b r.2.1.1).1.2
      exact ⟨N, e, fun o k hk => n2 o k (by omega)⟩
  · rw [m_asks0 h (by rw [r.2.1]; exact r.1)]
    exact ⟨M, rfl, fun _ _ _ => rfl⟩
theorem m_askroom (h : Ag T A) (r : Rel I0 M0 b L n u O Ψ I M) {w : Nat} {W : Int} (hW : W = wpk w) {X : Type} (k : Int × Mem → Option X) : (f_X12_asks T A 129 W M).bind (fun e => (f_X12_roomHere T A 129 e).bind k) = (f_X12_number_ T A 129 W 0 (isb (M 136 24) 1) M).bind k := by
  subst hW
  obtain ⟨N, e, n1⟩ := rel_asks h r w
  rw [m_number_ h, e, some_bind, some_bind, m_roomHere h, n1 _ _ (by omega)]
theorem rg_5 (r : RG I0 M0 b L n u O p I M) {k : Nat} (hk : k < 7) : I 5 k = O 0 k := r.2.1.2.2.2.2.1.1 k hk
theorem rg_6 (r : RG I0 M0 b L n u O p I M) {k : Nat} (hk : k < 6) : M 136 (24 + k) = O 0 (k + 1) := by
  have := r.2.2.2.2.2.1.2.1 k hk
  rw [show 6 * 4 + k = 24 + k by omega] at this
  exact this
theorem rel_4 (r : Rel I0 M0 b L n u O Ψ I M) : I 5 4 = (n : Int) := by
  rcases r with ⟨h1, p, r⟩ | r
  · rw [rg_5 r (by decide)]; exact r.1.1
  · exact r.2.2.2.1
/-- the head's three numbers -/
theorem sim_head (h : Ag T A) (r : Rel I0 M0 b L n 0 O Ψ I M) : OK2 ((gr T A 4 1 4).bind fun x4 => (f_X4_takeAfter T A 4 1 1 6 I).bind fun e5 => (pi T 2 1 x4 e5.1 e5.2).bind fun I8 => (gr T A 4 1 4).bind fun x9 => (gr T A 4 1 4).bind fun x10 => (gi T 2 1 x10 I8).bind fun x11 => (f_X4_takeAfter T A 4 2 0 (isb x11 1) I8).bind fun e13 => (pi T 2 2 x9 e13.1 e13.2).bind fun I16 => (gr T A 4 1 4).bind fun x17 => (f_X4_takeAfter T A 4 3 0 399 I16).bind fun e18 => (pi T 2 3 x17 e18.1 e18.2).bind fun I21 => some I21) ((f_X12_number_ T A 129 9872488 1 6 M).bind fun e24 => (f_X12_reads T A 129 0 e24.1 e24.2).bind fun e27 => (f_X12_asks T A 129 257 e27).bind fun e29 => (f_X12_roomHere T A 129 e29).bind fun e31 => (f_X12_reads T A 129 1 e31.1 e31.2).bind fun e34 => (f_X12_number_ T A 129 47 0 399 e34).bind fun e36 => (f_X12_reads T A 129 2 e36.1 e36.2).bind fun e39 => some e39) (fun J N => ∃ v1 v2 v3 : Int, Rel I0 M0 b L n 0 (rwO (rwO (rwO O 0 1 v1) 0 2 v2) 0 3 v3) (Ψ ∧ (1 ≤ v1 ∧ v1 ≤ 6) ∧ (0 ≤ v2 ∧ v2 ≤ v1 - 1) ∧ (0 ≤ v3 ∧ v3 ≤ 399)) J N) := by
  obtain ⟨k0, k1, k2, k3, k4, k5, k6, k7, k8, k9⟩ := r_ev h
  simp only [k2, k5, k6, some_bind, m_rd0 h, m_rd1 h, m_rd2 h, mu_s]
  refine ok2_b (ok2_m (sim_after h r (w := 1) (by decide) rfl (fun _ => ⟨rfl, rfl, by decide⟩)) (fun x y hxy => ?_))
  obtain ⟨r1, z1⟩ := hxy
  have s1 := rel_set (r := 0) (o := 1) (mo := 136) (mk := 24) (v := x.1) (v' := y.1) (Φ := Ψ ∧ 1 ≤ x.1 ∧ x.1 ≤ 6) (rel_w r1 (fun p q _ => ⟨⟨q.1, q.2.2.1, q.2.2.2⟩, q.2.1⟩)) (by unfold mpl; omega) (by omega) (by omega) (by omega)
  rw [m_askroom h s1 (w := 2) (W := 257) rfl]
  refine ok2_b (ok2_m (sim_after h (rel_w (Ψ' := (Ψ ∧ 1 ≤ x.1 ∧ x.1 ≤ 6) ∧ mu y.2 136 24 y.1 136 24 = x.1) s1 (fun p q g => ⟨q, by rw [rg_6 (k := 0) g (by decide), rw_s]⟩)) (w := 2) (by decide) rfl (fun q => ⟨rfl, by rw [q.2], by rw [isb_eq (by omega) (by omega)]; omega⟩)) (fun x' y' hxy' => ?_))
  obtain ⟨r2, z2⟩ := hxy'
  have s2 := rel_set (r := 0) (o := 2) (mo := 136) (mk := 25) (v := x'.1) (v' := y'.1) (Φ := Ψ ∧ (1 ≤ x.1 ∧ x.1 ≤ 6) ∧ (0 ≤ x'.1 ∧ x'.1 ≤ x.1 - 1)) (rel_w r2 (fun p q _ => ⟨⟨q.1.1.1, q.1.1.2, q.2.2.1, by have := q.2.2.2; have := q.1.1.2; rw [isb_eq (by omega) (by omega)] at *; omega⟩, q.2.1⟩)) (by unfold mpl; omega) (by omega) (by omega) (by omega)
  refine ok2_b (ok2_m (sim_after h s2 (w := 3) (by decide) rfl (fun _ => ⟨rfl, rfl, by decide⟩)) (fun x3 y3 hxy3 => ?_))
  obtain ⟨r3, z3⟩ := hxy3
  have s3 := rel_set (r := 0) (o := 3) (mo := 136) (mk := 26) (v := x3.1) (v' := y3.1) (Φ := Ψ ∧ (1 ≤ x.1 ∧ x.1 ≤ 6) ∧ (0 ≤ x'.1 ∧ x'.1 ≤ x.1 - 1) ∧ (0 ≤ x3.1 ∧ x3.1 ≤ 399)) (rel_w r3 (fun p q _ => ⟨⟨q.1.1, q.1.2.1, q.1.2.2, q.2.2.1, q.2.2.2⟩, q.2.1⟩)) (by unfold mpl; omega) (by omega) (by omega) (by omega)
  exact ok2_i ⟨x.1, x'.1, x3.1, s3⟩
theorem c_but0 (h : Ag T A) {s hi : Int} (g : I 4 2 ≠ 0) : f_X4_takeNumberBut T A 4 s hi I = some (0, I) := by
  obtain ⟨k0, k1, k2, k3, k4, k5, k6, k7, k8, k9⟩ := r_ev h
  obtain ⟨t0, t1, t2, t3, t4⟩ := t_ev h
  unfold f_X4_takeNumberBut
  rw [if_pos k0, k1, some_bind, t2, some_bind]
  have e : ∀ v : Int, ((gi T 4 2 4 I).bind fun x12 => thn (if x12 = 0 then if v = 0 then some (.inl ()) else (some 2).bind fun x16 => (gi T 8 5 x16 I).bind fun x17 => (f_X11_hasBit T A s x17 I).bind fun e19 => if e19 = 0 then some (.inl ()) else (f_X4_blame T A 4 2 I).bind fun e22 => some (.inr (e22.1, e22.2)) else some (.inl ())) (fun (v15 : Unit) => (f_X4_takeNumber T A 4 0 hi I).bind fun e25 => some (e25.1, e25.2))) = some (0, I) := fun v => by
    rw [k3, some_bind, if_neg g, thn_l, c_number0 h g, some_bind]
  by_cases c : I 2 2 = 2
  · rw [if_pos c, some_bind, t2, some_bind]
    by_cases d : I 2 5 ≤ hi
    · rw [if_pos d, thn_r, thn_l]; exact e 1
    · rw [if_neg d, thn_l, thn_l]; exact e 0
  · rw [if_neg c, thn_l, thn_l]; exact e 0
def stk (b : Nat → Int) (L p : Nat) (s hi : Int) : Prop := tk b L p = 2 ∧ mnu b (tf b L p) (tt b L p - tf b L p) ≤ hi ∧ hb s (mnu b (tf b L p) (tt b L p - tf b L p)).toNat = true
theorem mnu_p (c : tk b L p = 2) : 0 ≤ mnu b (tf b L p) (tt b L p - tf b L p) ∧ ((cnu b (tf b L p) (tt b L p - tf b L p) = mnu b (tf b L p) (tt b L p - tf b L p) ∧ mnu b (tf b L p) (tt b L p - tf b L p) ≤ 100000) ∨ (cnu b (tf b L p) (tt b L p - tf b L p) = 100000 ∧ 100000 ≤ mnu b (tf b L p) (tt b L p - tf b L p))) := by
  obtain ⟨d1, d2, d3, d4⟩ := tk_2 c
  have te1 := te_in dgt b (Nat.le_of_lt d1)
  have := mnu_rg (b := b) (f := tf b L p) (tt b L p - tf b L p) (fun i hi => te1.2.1 _ (by omega) (by omega))
  exact ⟨this.1.1, this.2⟩
theorem c_but (h : Ag T A) (r : RG I0 M0 b L n u O p I M) {s hi : Int} (hh : hi < 32) : (stk b L p s hi → f_X4_takeNumberBut T A 4 s hi I = f_X4_blame T A 4 2 I) ∧ (¬ stk b L p s hi → f_X4_takeNumberBut T A 4 s hi I = f_X4_takeNumber T A 4 0 hi I) := by
  obtain ⟨k0, k1, k2, k3, k4, k5, k6, k7, k8, k9⟩ := r_ev h
  obtain ⟨t0, t1, t2, t3, t4⟩ := t_ev h
  obtain ⟨c1, c2, c3, c4, c5, c6, c7, c8⟩ := r.2.1
  have e : (gi T 4 2 4 I).bind (fun x12 => thn (if x12 = 0 then if (0 : Int) = 0 then some (.inl ()) else (some 2).bind fun x16 => (gi T 8 5 x16 I).bind fun x17 => (f_X11_hasBit T A s x17 I).bind fun e19 => if e19 = 0 then some (.inl ()) else (f_X4_blame T A 4 2 I).bind fun e22 => some (.inr (e22.1, e22.2)) else some (.inl ())) (fun (v15 : Unit) => (f_X4_takeNumber T A 4 0 hi I).bind fun e25 => some (e25.1, e25.2))) = f_X4_takeNumber T A 4 0 hi I := by
    rw [k3, some_bind, if_pos c4, if_pos rfl, thn_l]
    cases f_X4_takeNumber T A 4 0 hi I <;> rfl
  unfold f_X4_takeNumberBut
  rw [if_pos k0, k1, some_bind, t2, some_bind, c3.1]
  by_cases c : tk b L p = 2
  · have ec := c3.2.2.2 c
    have mp := mnu_p c
    rw [if_pos c, some_bind, t2, some_bind, ec]
    by_cases d : cnu b (tf b L p) (tt b L p - tf b L p) ≤ hi
    · have eq : cnu b (tf b L p) (tt b L p - tf b L p) = mnu b (tf b L p) (tt b L p - tf b L p) := by omega
      obtain ⟨v, ev⟩ := Int.eq_ofNat_of_zero_le mp.1
      rw [if_pos d, thn_r, thn_l, k3, some_bind, if_pos c4, if_neg (by decide), some_bind, t2, some_bind, ec, eq, ev, f_hasBit (by omega), some_bind]
      cases hx : hb s v
      · refine ⟨fun q => absurd q.2.2 (by rw [ev, Int.toNat_natCast, hx]; decide), fun _ => ?_⟩
        rw [if_pos (show (if false = true then (1 : Int) else 0) = 0 from rfl), thn_l]
        cases f_X4_takeNumber T A 4 0 hi I <;> rfl
      · refine ⟨fun _ => ?_, fun q => absurd ⟨c, by omega, by rw [ev, Int.toNat_natCast, hx]⟩ q⟩
        rw [if_neg (show ¬ (if true = true then (1 : Int) else 0) = 0 by decide), c_blame h, some_bind, thn_r]
    · rw [if_neg d, thn_l, thn_l]
      exact ⟨fun q => absurd q.2.1 (by omega), fun _ => e⟩
  · rw [if_neg c, thn_l, thn_l]
    exact ⟨fun q => absurd q.1 c, fun _ => e⟩
theorem sim_but (h : Ag T A) (r : Rel I0 M0 b L n u O Ψ I M) {s hi hi' : Int} {N : Mem} (hb0 : RBd I0 M0 n I M → N = M) (hg : ∀ p, Ψ → RG I0 M0 b L n u O p I M → hi < 32 ∧ hi = hi' ∧ (stk b L p s hi → f_X12_fails T A 129 2 M = some N) ∧ (¬ stk b L p s hi → N = M)) : OK2 (f_X4_takeNumberBut T A 4 s hi I) (f_X12_number T A 129 0 hi' N) (fun x y => Rel I0 M0 b L n u O (Ψ ∧ y.1 = x.1 ∧ (0 ≤ x.1 ∧ x.1 ≤ hi) ∧ hb s x.1.toNat = false) x.2 y.2 ∧ (x.1 = 0 ∨ (0 ≤ x.1 ∧ x.1 ≤ hi))) := by
  rcases r with ⟨h1, p, r⟩ | r
  · obtain ⟨e1, e2, e3, e4⟩ := hg p h1 r
    subst e2
    by_cases d : stk b L p s hi
    · rw [(c_but h r e1).1 d]
      obtain ⟨x, N', ex, eN, q1, q2⟩ := sim_blame h r (f := 2) (by decide)
      have : N' = N := by
        have := e3 d
        rw [eN] at this
        exact Option.some.inj this
      subst this
      rw [ex, m_number0 h (by rw [q2.2.1]; exact q2.1)]
      exact ok2_i ⟨Or.inr q2, Or.inl q1⟩
    · rw [(c_but h r e1).2 d, e4 d]
      refine ok2_m (sim_numberG h r (by omega)) (fun x y hxy => ?_)
      rcases hxy with ⟨q1, q2, q3, q4, q5⟩ | ⟨q1, q2⟩
      · refine ⟨Or.inl ⟨⟨h1, q3, q4, ?_⟩, _, q1⟩, Or.inr q4⟩
        cases hx : hb s x.1.toNat
        · rfl
        · exact absurd ⟨q2, by rw [← q5]; exact q4.2, by rw [← q5]; exact hx⟩ d
      · exact ⟨Or.inr q1, Or.inl q2⟩
  · rw [c_but0 h r.1, hb0 r, m_number0 h (by rw [r.2.1]; exact r.1)]
    exact ok2_i ⟨Or.inr r, Or.inl rfl⟩
theorem rel_fault (r : Rel I0 M0 b L n u O Ψ I M) : (I 4 2 = 0 ∧ M 129 12 = 0 ∧ Ψ ∧ ∃ p, RG I0 M0 b L n u O p I M) ∨ (I 4 2 ≠ 0 ∧ M 129 12 ≠ 0 ∧ RBd I0 M0 n I M) := by
  rcases r with ⟨h1, p, r⟩ | r
  · exact Or.inl ⟨r.2.1.2.2.2.1, r.2.2.2.2.1, h1, p, r⟩
  · exact Or.inr ⟨r.1, by rw [r.2.1]; exact r.1, r⟩
theorem r5_way (h : Ag T A) {a : Nat} (ha : a < 6) : lr T A 24 19 (a : Int) = some (20 + a) := by
  have := ev_lr (kT_19 h) (b := 20) (A := A) (fun k hk => kA h ((by decide +kernel : ∀ k, k < 6 → (19, k, 20 + k) ∈ agR) k hk)) (by decide) (a : Int)
  rw [this, if_pos (by omega), Int.toNat_natCast]
theorem r5_told (h : Ag T A) {a : Nat} (ha : a < 11) : lr T A 24 7 (a : Int) = some (8 + a) := by
  have := ev_lr (kT_7 h) (b := 8) (A := A) (fun k hk => kA h ((by decide +kernel : ∀ k, k < 11 → (7, k, 8 + k) ∈ agR) k hk)) (by decide) (a : Int)
  rw [this, if_pos (by omega), Int.toNat_natCast]
theorem kT5_way (h : Ag T A) {a : Nat} (ha : a < 6) : T (20 + a) = (20, 6) := h.1 (20 + a, 20, 6) ((by decide +kernel : ∀ w, w < 6 → (20 + w, 20, 6) ∈ agK) a ha)
theorem kT5_told (h : Ag T A) {a : Nat} (ha : a < 11) : T (8 + a) = (20, 8) := h.1 (8 + a, 20, 8) ((by decide +kernel : ∀ w, w < 11 → (8 + w, 20, 8) ∈ agK) a ha)
/-- a way, behind its word -/
theorem sim_way (h : Ag T A) (r : Rel I0 M0 b L n 0 O (Ψ ∧ 1 ≤ O 0 1 ∧ O 0 1 ≤ 6) I M) : OK2 ((gr T A 4 1 4).bind fun x4 => (gi T 2 1 x4 I).bind fun x5 => (f_X4_takeNumber T A 4 0 (isb x5 1) I).bind fun e7 => (gr T A 4 1 4).bind fun x10 => (gi T 2 1 x10 e7.2).bind fun x11 => (f_X4_takeNumberBut T A 4 (ishl 1 e7.1) (isb x11 1) e7.2).bind fun e13 => (f_X4_takeNumber T A 4 1 9 e13.2).bind fun e16 => (gi T 4 2 4 e16.2).bind fun x19 => if x19 = 0 then (gr T A 4 1 4).bind fun x21 => (gr T A 2 9 x21).bind fun x22 => (lr T A 24 x22 e7.1).bind fun x23 => (sto T 20 x23 e13.1 e16.1 e16.2).bind fun I24 => (gr T A 4 1 4).bind fun x25 => (gr T A 2 9 x25).bind fun x26 => (lr T A 24 x26 e13.1).bind fun x27 => (sto T 20 x27 e7.1 e16.1 I24).bind fun I28 => some I28 else some e16.2) (f_X12_wayLine T A 129 M) (fun J N => ∃ (x y : Nat) (v : Int), Rel I0 M0 b L n 0 (rwO (rwO O (15 + x) y v) (15 + y) x v) (Ψ ∧ ((x : Int) < O 0 1 ∧ (y : Int) < O 0 1) ∧ (1 ≤ v ∧ v ≤ 9) ∧ x ≠ y) J N) := by
  obtain ⟨k0, k1, k2, k3, k4, k5, k6, k7, k8, k9⟩ := r_ev h
  obtain ⟨g0, g1, g2, g3, g4⟩ := g_ev h
  obtain ⟨u16, u17, u18, u19, u20, u21, u22, u23⟩ := q_ev h
  unfold f_X12_wayLine
  rw [k2, some_bind, k5, some_bind, if_pos g0, m_roomHere h]
  have r0 := rel_w (Ψ' := (Ψ ∧ 1 ≤ O 0 1 ∧ O 0 1 ≤ 6) ∧ I 5 1 = O 0 1 ∧ M 136 24 = O 0 1) r (fun p q g => ⟨q, rg_5 g (by decide), rg_6 (k := 0) g (by decide)⟩)
  refine ok2_b (ok2_m (sim_number h r0 (fun q => ⟨rfl, by rw [q.2.1, q.2.2], by rw [q.2.1, isb_eq (by omega) (by omega)]; omega⟩)) (fun x y hxy => ?_))
  obtain ⟨r1, z1⟩ := hxy
  rw [some_bind, k5, some_bind, g2, some_bind]
  -- the number that is struck
  have hN : ∃ N, (∀ {X : Type} (k : Mem → Option X), thn (if y.2 129 12 = 0 then (gi T 12 8 129 y.2).bind fun x8 => if x8 = 2 then (gi T 12 10 129 y.2).bind fun x10 => if x10 = y.1 then (f_X12_fails T A 129 2 y.2).bind fun e12 => some (.inl e12) else some (.inl y.2) else some (.inl y.2) else some (.inl y.2)) k = k N) ∧ (RBd I0 M0 n x.2 y.2 → N = y.2) ∧ (∀ p, (((Ψ ∧ 1 ≤ O 0 1 ∧ O 0 1 ≤ 6) ∧ I 5 1 = O 0 1 ∧ M 136 24 = O 0 1) ∧ y.1 = x.1 ∧ 0 ≤ x.1 ∧ x.1 ≤ isb (I 5 1) 1) → RG I0 M0 b L n 0 O p x.2 y.2 → (stk b L p (ishl 1 x.1) (isb (x.2 5 1) 1) → f_X12_fails T A 129 2 y.2 = some N) ∧ (¬ stk b L p (ishl 1 x.1) (isb (x.2 5 1) 1) → N = y.2)) := by
    rcases rel_fault r1 with ⟨f1, f2, q, p, g⟩ | ⟨f1, f2, g⟩
    · have e51 : x.2 5 1 = O 0 1 := rg_5 g (by decide)
      have tkm := g.2.2.2.1
      obtain ⟨⟨⟨_, q1⟩, q2, q3⟩, q4, q5, q6⟩ := q
      rw [q2, isb_eq (by omega) (by omega)] at q6
      by_cases d : tk b L p = 2 ∧ mnu b (tf b L p) (tt b L p - tf b L p) = x.1
      · obtain ⟨W, eW⟩ : ∃ W, f_X12_fails T A 129 2 y.2 = some W := ⟨_, m_fails h 2 y.2⟩
        refine ⟨W, fun k => ?_, fun z => absurd f1 z.1, fun p' _ g' => ⟨fun _ => eW, fun z => absurd ?_ z⟩⟩
        · rw [if_pos f2, g2, some_bind, tkm.1, if_pos d.1, g2, some_bind, tkm.2.2.2.1 d.1, if_pos (by rw [d.2, q4]), eW, some_bind, thn_l]
        · have pe : tf b L p' = tf b L p ∧ tk b L p' = tk b L p ∧ tt b L p' = tt b L p := by
            have a1 := g'.2.2.2.1.1
            have a2 := g'.2.2.2.1.2.1
            have a3 := g'.2.2.2.1.2.2.1
            have b1 := tkm.1
            have b2 := tkm.2.1
            have b3 := tkm.2.2.1
            omega
          unfold stk
          rw [pe.1, pe.2.1, pe.2.2, e51, isb_eq (by omega) (by omega), d.2]
          refine ⟨d.1, q6, ?_⟩
          obtain ⟨v, ev⟩ := Int.eq_ofNat_of_zero_le q5
          rw [ev, Int.toNat_natCast, hb_shl (by omega), decide_eq_true rfl]
      · refine ⟨y.2, fun k => ?_, fun z => rfl, fun p' _ g' => ⟨fun z => absurd ?_ d, fun _ => rfl⟩⟩
        · rw [if_pos f2, g2, some_bind, tkm.1]
          by_cases c : tk b L p = 2
          · rw [if_pos c, g2, some_bind, tkm.2.2.2.1 c, if_neg (fun z => d ⟨c, by rw [z, q4]⟩), thn_l]
          · rw [if_neg c, thn_l]
        · have pe : tf b L p' = tf b L p ∧ tk b L p' = tk b L p ∧ tt b L p' = tt b L p := by
            have a1 := g'.2.2.2.1.1
            have a2 := g'.2.2.2.1.2.1
            have a3 := g'.2.2.2.1.2.2.1
            have b1 := tkm.1
            have b2 := tkm.2.1
            have b3 := tkm.2.2.1
            omega
          unfold stk at z
          rw [pe.1, pe.2.1, pe.2.2, e51, isb_eq (by omega) (by omega)] at z
          refine ⟨z.1, ?_⟩
          have mp := (mnu_p z.1).1
          obtain ⟨v, ev⟩ := Int.eq_ofNat_of_zero_le q5
          obtain ⟨w, ew⟩ := Int.eq_ofNat_of_zero_le mp
          have z3 := z.2.2
          rw [ev, ew, Int.toNat_natCast, hb_shl (by omega)] at z3
          rw [ew, ev, of_decide_eq_true z3]
    · exact ⟨y.2, fun k => by rw [if_neg f2, thn_l], fun _ => rfl, fun p' _ g' => absurd g'.2.1.2.2.2.1 f1⟩
  obtain ⟨N, n1, n2, n3⟩ := hN
  rw [n1]
  have r1' := rel_w (Ψ' := (((Ψ ∧ 1 ≤ O 0 1 ∧ O 0 1 ≤ 6) ∧ I 5 1 = O 0 1 ∧ M 136 24 = O 0 1) ∧ y.1 = x.1 ∧ 0 ≤ x.1 ∧ x.1 ≤ isb (I 5 1) 1) ∧ x.2 5 1 = O 0 1 ∧ N 136 24 = O 0 1) r1 (fun p q g => ⟨q, rg_5 g (by decide), by
    by_cases d : stk b L p (ishl 1 x.1) (isb (x.2 5 1) 1)
    · have := (n3 p q g).1 d
      rw [m_fails h, if_pos g.2.2.2.2.1] at this
      rw [← Option.some.inj this, mu_o _ _ (by omega), mu_o _ _ (by omega)]
      exact rg_6 (k := 0) g (by decide)
    · rw [(n3 p q g).2 d]
      exact rg_6 (k := 0) g (by decide)⟩)
  rw [m_roomHere h]
  refine ok2_b (ok2_m (sim_but h r1' n2 (fun p q g => ⟨by rw [q.2.1, isb_eq (by omega) (by omega)]; omega, by rw [q.2.1, q.2.2], n3 p q.1 g⟩)) (fun x2 y2 hxy2 => ?_))
  obtain ⟨r2, z2⟩ := hxy2
  refine ok2_b (ok2_m (sim_number h r2 (lo := 1) (hi := 9) (fun q => ⟨rfl, rfl, by decide⟩)) (fun x3 y3 hxy3 => ?_))
  obtain ⟨r3, z3⟩ := hxy3
  simp only [k2, k3, k9, g2, u21, some_bind]
  rcases rel_fault r3 with ⟨f1, f2, q, p, g⟩ | ⟨f1, f2, g⟩
  · obtain ⟨⟨⟨⟨⟨⟨q0, q1⟩, q2, q3⟩, q4, q5, q6⟩, q7, q8⟩, q9, q10, q11⟩, q12, q13, q14⟩ := q
    rw [q2, isb_eq (by omega) (by omega)] at q6
    rw [q7, isb_eq (by omega) (by omega)] at q10
    obtain ⟨xa, ea⟩ := Int.eq_ofNat_of_zero_le q5
    obtain ⟨xb, eb⟩ := Int.eq_ofNat_of_zero_le q10.1
    have hne : xa ≠ xb := fun e => by
      rw [ea, eb, Int.toNat_natCast, hb_shl (by omega), decide_eq_true e.symm] at q11
      exact absurd q11 (by decide)
    have st1 : ∀ v (W : Mem), sto T 20 140 (ia (ia 144 (im 6 (xa : Int))) (xb : Int)) v W = some (mu W 140 (144 + 6 * xa + xb) v) := fun v W => by
      rw [im_eq (by omega) (by omega), ia_eq (a := 144) (by omega) (by omega), ia_eq (by omega) (by omega), ev_sto (kT_140 h), if_pos (by omega), show (144 + 6 * (xa : Int) + (xb : Int)).toNat = 144 + 6 * xa + xb by omega]
    have st2 : ∀ v (W : Mem), sto T 20 140 (ia (ia 144 (im 6 (xb : Int))) (xa : Int)) v W = some (mu W 140 (144 + 6 * xb + xa) v) := fun v W => by
      rw [im_eq (by omega) (by omega), ia_eq (a := 144) (by omega) (by omega), ia_eq (by omega) (by omega), ev_sto (kT_140 h), if_pos (by omega), show (144 + 6 * (xb : Int) + (xa : Int)).toNat = 144 + 6 * xb + xa by omega]
    rw [if_pos f1, if_pos f2, ea, r5_way h (by omega), some_bind, eb, ev_sto (kT5_way h (by omega)), if_pos (by omega), some_bind, r5_way h (by omega), some_bind, ev_sto (kT5_way h (by omega)), if_pos (by omega), some_bind, q4, q9, ea, eb, Int.toNat_natCast, Int.toNat_natCast, st1, some_bind, st2, some_bind, q12]
    have s1 := rg_set (r := 15 + xa) (o := xb) (mo := 140) (mk := 144 + 6 * xa + xb) (v := x3.1) g (by unfold mpl; omega) (by omega) (by omega) (by omega)
    have s2 := rg_set (r := 15 + xb) (o := xa) (mo := 140) (mk := 144 + 6 * xb + xa) (v := x3.1) s1 (by unfold mpl; omega) (by omega) (by omega) (by omega)
    rw [show 5 + (15 + xa) = 20 + xa by omega, show 5 + (15 + xb) = 20 + xb by omega] at s2
    exact ok2_i ⟨xa, xb, x3.1, Or.inl ⟨⟨q0, ⟨by omega, by omega⟩, ⟨q13, q14⟩, hne⟩, p, s2⟩⟩
  · rw [if_neg f1, if_neg f2]
    exact ok2_i ⟨0, 0, 0, Or.inr g⟩
end
