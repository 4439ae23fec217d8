/-! B: the lines, side by side: permit. -/
def pmC (T : Knd) (A : Rfs) (X : Type) : Int × Int × Mem → Option ((Int × Int × Mem) ⊕ ((Int × Mem) ⊕ X)) := fun s14 => if s14.2.1 < 1600 then (gi T 4 2 4 s14.2.2).bind fun x17 => if x17 = 0 then (gr T A 4 0 4).bind fun x19 => (gi T 8 2 x19 s14.2.2).bind fun x20 => if x20 = 2 then (gr T A 4 1 4).bind fun x22 => (gi T 2 4 x22 s14.2.2).bind fun x23 => (f_X4_takeNumber T A 4 0 (isb x23 1) s14.2.2).bind fun e25 => some (.inl (ior s14.1 (ishl 1 e25.1), ia s14.2.1 1, e25.2)) else some (.inr (.inl (s14.1, s14.2.2))) else some (.inr (.inl (s14.1, s14.2.2))) else some (.inr (.inl (s14.1, s14.2.2)))
def pmM (T : Knd) (A : Rfs) (X : Type) : Int × Mem → Option ((Int × Mem) ⊕ ((Int × Mem) ⊕ X)) := fun s33 => (f_X12_officialHere T A 129 s33.2).bind fun e35 => (f_X12_isGood T A 129 e35.2).bind fun e38 => if e38 = 0 then some (.inr (.inl (ior s33.1 (ishl 1 e35.1), e35.2))) else (gi T 12 8 129 e35.2).bind fun x41 => if x41 = 2 then some (.inl (ior s33.1 (ishl 1 e35.1), e35.2)) else some (.inr (.inl (ior s33.1 (ishl 1 e35.1), e35.2)))
def pmP (T : Knd) (A : Rfs) (X : Type) (k : Nat) (s : Int) (M : Mem) : Option ((Int × Mem) ⊕ X) := if M 129 12 = 0 then (if M 129 8 = 2 then it (pmM T A X) k (s, M) else some (.inl (s, M))) else some (.inl (s, M))
section
variable {T : Knd} {A : Rfs} {I M I0 M0 : Mem} {b : Nat → Int} {L n u p : Nat} {O : Ofc} {Ψ : Prop}
theorem pm_it (h : Ag T A) (X : Type) (k : Nat) (s : Int) (M : Mem) : it (pmM T A X) (k + 1) (s, M) = (f_X12_officialHere T A 129 M).bind (fun e => pmP T A X k (ior s (ishl 1 e.1)) e.2) := by
  obtain ⟨g0, g1, g2, g3, g4⟩ := g_ev h
  rw [it]
  unfold pmM
  dsimp only
  cases he : f_X12_officialHere T A 129 M with
  | none => rfl
  | some e =>
    rw [some_bind, some_bind, m_isGood h, some_bind]
    unfold pmP
    by_cases c : e.2 129 12 = 0
    · rw [if_pos c, if_pos c, if_neg (by decide), g2, some_bind]
      by_cases d : e.2 129 8 = 2
      · rw [if_pos d, if_pos d]
        rfl
      · rw [if_neg d, if_neg d]
    · rw [if_neg c, if_neg c, if_pos rfl]
theorem ior_z {x : Int} (h : cn x) : ior 0 x = x := hb_ext (cn_ior _ _) h (fun i _ => by rw [hb_or, hb_0, Bool.false_or])
theorem sl_or {m : Nat} {x : Int} (hs : sl m x) {a : Nat} (ha : a < m) (hm : m ≤ 31) : sl m (ior x (ishl 1 (a : Int))) := ⟨cn_ior _ _, fun i hi => by rw [hb_or, hs.2 i hi, hb_shl (by omega), decide_eq_false (by omega)]; rfl⟩
theorem sl_sh {m a : Nat} (ha : a < m) (hm : m ≤ 31) : sl m (ishl 1 (a : Int)) := ⟨cn_ishl _ _, fun i hi => by rw [hb_shl (by omega), decide_eq_false (by omega)]⟩
theorem sim_pm (h : Ag T A) (X Y : Type) (hn8 : n ≤ 8) : ∀ (k p nC nM : Nat) (s : Int) (i : Nat) (I M : Mem), RG I0 M0 b L n 0 O p I M → L - p ≤ k → i + (L - p) ≤ 1600 → k < nC → k ≤ nM → sl n s → OK2 (it (pmC T A Y) nC (s, (i : Int), I)) (pmP T A X nM s M) (fun x y => ∃ s' s2 I' M', x = .inl (s', I') ∧ y = .inl (s2, M') ∧ ((s2 = s' ∧ sl n s' ∧ ∃ p', RG I0 M0 b L n 0 O p' I' M') ∨ RBd I0 M0 n I' M')) := by
  obtain ⟨k0, k1, k2, k3, k4, k5, k6, k7, k8, k9⟩ := r_ev h
  obtain ⟨t0, t1, t2, t3, t4⟩ := t_ev h
  intro k
  induction k with
  | zero =>
    intro p nC nM s i I M r h1 h2 h3 h4 hs
    have c1 := r.2.1.1
    have nk : tk b L p ≠ 2 := fun c => by
      have := (tk_2 c).1
      have := (tf_in b c1).1.1
      omega
    cases nC with
    | zero => exact absurd h3 (by omega)
    | succ nC =>
      rw [it]
      unfold pmC pmP
      dsimp only
      rw [if_pos r.2.2.2.2.1, r.2.2.2.1.1, if_neg nk, k3, some_bind, if_pos r.2.1.2.2.2.1, k1, some_bind, t2, some_bind, r.2.1.2.2.1.1, if_neg nk]
      by_cases c : (i : Int) < 1600
      · rw [if_pos c]
        exact ok2_i ⟨s, s, I, M, rfl, rfl, Or.inl ⟨rfl, hs, p, r⟩⟩
      · rw [if_neg c]
        exact ok2_i ⟨s, s, I, M, rfl, rfl, Or.inl ⟨rfl, hs, p, r⟩⟩
  | succ k ih =>
    intro p nC nM s i I M r h1 h2 h3 h4 hs
    have c1 := r.2.1.1
    cases nC with
    | zero => exact absurd h3 (by omega)
    | succ nC =>
      rw [it]
      unfold pmP
      rw [if_pos r.2.2.2.2.1, r.2.2.2.1.1]
      by_cases d : tk b L p = 2
      · have q1 := (tk_2 d).1
        have q2 := (tf_in b c1).1.1
        have q3 := tt_in b c1
        have q4 := q3.2 (by rw [d]; decide)
        cases nM with
        | zero => exact absurd h4 (by omega)
        | succ nM =>
          have e1 : pmC T A Y (s, (i : Int), I) = (f_X4_takeNumber T A 4 0 (isb (n : Int) 1) I).bind (fun e25 => some (.inl (ior s (ishl 1 e25.1), ((i + 1 : Nat) : Int), e25.2))) := by
            unfold pmC
            dsimp only
            rw [if_pos (by omega), k3, some_bind, if_pos r.2.1.2.2.2.1, k1, some_bind, t2, some_bind, r.2.1.2.2.1.1, if_pos d, k2, some_bind, k5, some_bind, rg_5 r (by decide), r.1.1, ia_1 (by omega)]
          rw [if_pos d, pm_it h, m_officialHere h, show M 136 27 = (n : Int) by rw [rg_6 (k := 3) r (by decide)]; exact r.1.1, e1]
          obtain ⟨x, y, ex, ey, hxy⟩ := sim_numberG h r (lo := 0) (hi := isb (n : Int) 1) (by rw [isb_eq (by omega) (by omega)]; omega)
          rw [ex, ey, some_bind, some_bind]
          dsimp only
          rw [isb_eq (by omega) (by omega)] at hxy
          rcases hxy with ⟨g, _, z1, ⟨z2, z3⟩, _⟩ | ⟨g, z⟩
          · obtain ⟨a, ea⟩ := Int.eq_ofNat_of_zero_le z2
            rw [z1, ea]
            exact ih (tt b L p) nC nM _ (i + 1) x.2 y.2 g (by omega) (by omega) (by omega) (by omega) (sl_or hs (by omega) (by omega))
          · cases nC with
            | zero => exact absurd h3 (by omega)
            | succ nC =>
              rw [it]
              unfold pmC pmP
              dsimp only
              rw [if_neg (show ¬ y.2 129 12 = 0 by rw [g.2.1]; exact g.1), k3, some_bind, if_neg g.1]
              by_cases c : ((i + 1 : Nat) : Int) < 1600
              · rw [if_pos c]
                exact ⟨_, _, rfl, rfl, _, _, _, _, rfl, rfl, Or.inr g⟩
              · rw [if_neg c]
                exact ⟨_, _, rfl, rfl, _, _, _, _, rfl, rfl, Or.inr g⟩
      · rw [if_neg d]
        have e1 : pmC T A Y (s, (i : Int), I) = some (.inr (.inl (s, I))) := by
          unfold pmC
          dsimp only
          rw [k3, some_bind, if_pos r.2.1.2.2.2.1, k1, some_bind, t2, some_bind, r.2.1.2.2.1.1, if_neg d]
          split <;> rfl
        rw [e1]
        exact ok2_i ⟨s, s, I, M, rfl, rfl, Or.inl ⟨rfl, hs, p, r⟩⟩
/-- permit, behind its word -/
theorem sim_permit (h : Ag T A) (X : Type) (hn8 : n ≤ 8) (r : RG I0 M0 b L n 0 O p I M) (hp : I 5 4 = (n : Int)) : OK2 ((gr T A 4 1 4).bind fun x4 => (gi T 2 4 x4 I).bind fun x5 => (f_X4_takeNumber T A 4 0 (isb x5 1) I).bind fun e7 => thn (it (pmC T A Mem) FU (ishl 1 e7.1, 0, e7.2)) (fun (v11 : Int × Mem) => (gr T A 4 1 4).bind fun x28 => (pi T 2 5 x28 v11.1 v11.2).bind fun I29 => some I29)) (thn (it (pmM T A (X ⊕ Mem)) FU (0, M)) (fun (v30 : Int × Mem) => (f_X12_isGood T A 129 v30.2).bind fun e43 => if e43 = 0 then some (.inr v30.2) else (f_X12_reads T A 129 4 v30.1 v30.2).bind fun e46 => some (.inr e46))) (fun J y => ∃ N s, y = .inr N ∧ Rel I0 M0 b L n 0 (rwO O 0 5 s) (sl n s) J N) := by
  obtain ⟨k0, k1, k2, k3, k4, k5, k6, k7, k8, k9⟩ := r_ev h
  obtain ⟨g0, g1, g2, g3, g4⟩ := g_ev h
  rw [k2, some_bind, k5, some_bind, hp, show FU = 999999 + 1 from rfl, pm_it h, m_officialHere h, show M 136 27 = (n : Int) by rw [rg_6 (k := 3) r (by decide)]; exact r.1.1]
  obtain ⟨x, y, ex, ey, hxy⟩ := sim_numberG h r (lo := 0) (hi := isb (n : Int) 1) (by rw [isb_eq (by omega) (by omega)]; omega)
  rw [ex, ey, some_bind, some_bind]
  try dsimp only
  rw [isb_eq (by omega) (by omega)] at hxy
  have fin : ∀ (s' s2 : Int) (I' M' : Mem), ((s2 = s' ∧ sl n s' ∧ ∃ p', RG I0 M0 b L n 0 O p' I' M') ∨ RBd I0 M0 n I' M') → OK2 ((some 5).bind fun x28 => (pi T 2 5 x28 s' I').bind fun I29 => some I29) ((f_X12_isGood T A 129 M').bind fun e43 => if e43 = 0 then some (.inr M') else (f_X12_reads T A 129 4 s2 M').bind fun e46 => some (.inr e46)) (fun J (y : X ⊕ Mem) => ∃ N s, y = .inr N ∧ Rel I0 M0 b L n 0 (rwO O 0 5 s) (sl n s) J N) := by
    intro s' s2 I' M' hh
    rw [some_bind, k6, some_bind, m_isGood h, some_bind]
    rcases hh with ⟨e1, e2, p', g⟩ | g
    · rw [if_pos g.2.2.2.2.1, if_neg (by decide), m_rd4 h, some_bind, e1]
      exact ok2_i ⟨_, s', rfl, Or.inl ⟨e2, p', rg_set (r := 0) (o := 5) g (by unfold mpl; omega) (by omega) (by omega) (by omega)⟩⟩
    · rw [if_neg (show ¬ M' 129 12 = 0 by rw [g.2.1]; exact g.1), if_pos rfl]
      refine ok2_i ⟨_, 0, rfl, Or.inr ?_⟩
      obtain ⟨w1, w2, w3, w4, w5, w6⟩ := g
      exact ⟨by rw [mu_o _ _ (by omega)]; exact w1, by rw [mu_o _ _ (by omega)]; exact w2, by rw [mu_o _ _ (by omega)]; exact w3, by rw [mu_o _ _ (by omega)]; exact w4, fcc_mu w5 (by decide) (by decide), w6⟩
  rcases hxy with ⟨g, _, z1, ⟨z2, z3⟩, _⟩ | ⟨g, z⟩
  · obtain ⟨a, ea⟩ := Int.eq_ofNat_of_zero_le z2
    have c1 := g.2.1.1
    have c2 := g.2.1.2.1.1
    obtain ⟨xx, yy, exx, eyy, s', s2, I', M', d1, d2, d3⟩ := sim_pm h (X ⊕ Mem) Mem hn8 (L - tt b L p) (tt b L p) (999999 + 1) 999999 (ishl 1 x.1) 0 x.2 y.2 g (Nat.le_refl _) (by omega) (by omega) (by omega) (by rw [ea]; exact sl_sh (by omega) (by omega))
    rw [show ((0 : Nat) : Int) = 0 from rfl] at exx
    rw [exx, z1, ior_z (cn_ishl _ _), eyy, d1, d2, thn_l, thn_l]
    exact fin s' s2 I' M' d3
  · have e1 : it (pmC T A Mem) (999999 + 1) (ishl 1 x.1, 0, x.2) = some (.inl (ishl 1 x.1, x.2)) := by
      rw [it]
      unfold pmC
      dsimp only
      rw [if_pos (by decide), k3, some_bind, if_neg g.1]
    have e2 : pmP T A (X ⊕ Mem) 999999 (ior 0 (ishl 1 y.1)) y.2 = some (.inl (ior 0 (ishl 1 y.1), y.2)) := by
      unfold pmP
      rw [if_neg (show ¬ y.2 129 12 = 0 by rw [g.2.1]; exact g.1)]
    rw [e1, e2, thn_l, thn_l]
    exact fin _ _ _ _ (Or.inr g)
end
