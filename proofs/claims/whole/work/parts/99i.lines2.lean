/-! B: the lines, side by side: needs and bars, leave, permit. -/
section
variable {T : Knd} {A : Rfs} {I M I0 M0 : Mem} {b : Nat → Int} {L n u p : Nat} {O : Ofc} {Ψ : Prop}
theorem b01 {c : Prop} [Decidable c] (h : c) : (if c then (1 : Int) else 0) = 1 := if_pos h
theorem b00 {c : Prop} [Decidable c] (h : ¬ c) : (if c then (1 : Int) else 0) = 0 := if_neg h
theorem m_isGood (h : Ag T A) (M : Mem) : f_X12_isGood T A 129 M = some (if M 129 12 = 0 then 1 else 0) := by
  obtain ⟨g0, g1, g2, g3, g4⟩ := g_ev h
  unfold f_X12_isGood
  rw [if_pos g0, g2, some_bind]
  split <;> rfl
theorem rg_td (r : RG I0 M0 b L n u O p I M) {w o : Nat} (hw : w < 11) (ho : o < n) : I (8 + w) o = O (3 + w) o := by
  have := r.2.1.2.2.2.2.1.2.2.1 w o hw (by rw [r.1.1]; omega)
  rw [show 5 + 3 + w = 8 + w by omega] at this
  exact this
theorem rg_nd (r : RG I0 M0 b L n u O p I M) {w o : Nat} (hw : w < 2) (ho : o < n) : M (138 + w) (32 + o) = O (12 + w) o := by
  obtain ⟨_, _, _, _, q5, q6, _⟩ := r.2.2.2.2.2.1
  rcases (by omega : w = 0 ∨ w = 1) with e | e
  · subst e; exact q5 o (by rw [r.1.1]; omega)
  · subst e; exact q6 o (by rw [r.1.1]; omega)
theorem tk_same {p' : Nat} (a : TkM b L p M) (c : TkM b L p' M) : tf b L p' = tf b L p ∧ tk b L p' = tk b L p ∧ tt b L p' = tt b L p := by
  have a1 := c.1
  have a2 := c.2.1
  have a3 := c.2.2.1
  have b1 := a.1
  have b2 := a.2.1
  have b3 := a.2.2.1
  omega
/-- needs (w 0) and bars (1), behind their word -/
theorem sim_ask (h : Ag T A) {w : Nat} (hw : w < 2) (r : Rel I0 M0 b L n 0 O Ψ I M) (hn8 : n ≤ 8) (hcn : ∀ o, o < n → cn (O (12 + w) o)) : OK2 ((gr T A 4 1 4).bind fun x4 => (gi T 2 4 x4 I).bind fun x5 => (f_X4_takeNumber T A 4 0 (isb x5 1) I).bind fun e7 => (gr T A 4 1 4).bind fun x10 => (gr T A 2 8 x10).bind fun x11 => (lr T A 24 x11 ((9 + w : Nat) : Int)).bind fun x12 => (ld T 20 x12 e7.1 e7.2).bind fun x13 => (gr T A 4 1 4).bind fun x15 => (gi T 2 4 x15 e7.2).bind fun x16 => (f_X4_takeNumberBut T A 4 (ior (ishl 1 e7.1) x13) (isb x16 1) e7.2).bind fun e18 => (gi T 4 2 4 e18.2).bind fun x21 => if x21 = 0 then (gr T A 4 1 4).bind fun x23 => (gr T A 2 8 x23).bind fun x24 => (lr T A 24 x24 ((9 + w : Nat) : Int)).bind fun x25 => (ld T 20 x25 e7.1 e18.2).bind fun x26 => (sto T 20 x25 e7.1 (ior x26 (ishl 1 e18.1)) e18.2).bind fun I28 => some I28 else some e18.2) (f_X12_askLine T A 129 (138 + w) M) (fun J N => ∃ x y : Nat, Rel I0 M0 b L n 0 (rwO O (12 + w) x (ior (O (12 + w) x) (ishl 1 (y : Int)))) (Ψ ∧ (x < n ∧ y < n) ∧ x ≠ y) J N) := by
  obtain ⟨k0, k1, k2, k3, k4, k5, k6, k7, k8, k9⟩ := r_ev h
  obtain ⟨g0, g1, g2, g3, g4⟩ := g_ev h
  have hT : T (138 + w) = (20, 40) := by
    rcases (by omega : w = 0 ∨ w = 1) with e | e
    · subst e; exact kT_138 h
    · subst e; exact kT_139 h
  have h4 := rel_4 r
  unfold f_X12_askLine
  rw [k2, some_bind, k5, some_bind, if_pos g0, m_officialHere h, h4]
  have r0 := rel_w (Ψ' := Ψ ∧ M 136 27 = (n : Int)) r (fun p q g => ⟨q, by rw [rg_6 (k := 3) g (by decide)]; exact g.1.1⟩)
  refine ok2_b (ok2_m (sim_number h r0 (lo := 0) (hi := isb (n : Int) 1) (fun q => ⟨rfl, by rw [q.2], by rw [isb_eq (by omega) (by omega)]; omega⟩)) (fun x y hxy => ?_))
  obtain ⟨r1, z1⟩ := hxy
  rw [isb_eq (by omega) (by omega)] at z1 r1
  have h4x := rel_4 r1
  rw [some_bind, k8, some_bind, r5_told h (by omega), some_bind]
  by_cases hn0 : n = 0
  · -- nobody is told: a fault
    have r1b : RBd I0 M0 n x.2 y.2 := by
      rcases r1 with ⟨q, p, g⟩ | g
      · have := q.2.2; omega
      · exact g
    have hx0 : x.1 = 0 := by omega
    have n12 : y.2 129 12 ≠ 0 := by rw [r1b.2.1]; exact r1b.1
    rw [hx0, ev_ld (kT5_told h (by omega)), if_pos (by decide), some_bind, some_bind, k5, some_bind, c_but0 h r1b.1, some_bind, k3, some_bind, if_neg r1b.1, g2, some_bind, if_neg n12, thn_l, m_officialHere h, m_number0 h n12, some_bind]
    unfold f_X12_isGood
    rw [if_pos g0, g2, some_bind, if_neg n12, some_bind, if_pos rfl]
    exact ok2_i ⟨0, 0, Or.inr r1b⟩
  · obtain ⟨a, ea⟩ := Int.eq_ofNat_of_zero_le (show 0 ≤ x.1 by omega)
    have han : a < n := by omega
    rw [ea, ev_ld (kT5_told h (by omega)), if_pos (by omega), some_bind, Int.toNat_natCast, some_bind, k5, some_bind, h4x, g2, some_bind]
    have hN : ∃ N, (∀ {X : Type} (k : Mem → Option X), thn (if y.2 129 12 = 0 then (gi T 12 8 129 y.2).bind fun x8 => if x8 = 2 then (gi T 12 10 129 y.2).bind fun x10 => (f_X12_hasRead T A 129 3 y.2).bind fun e12 => if x10 < e12 then (gi T 12 10 129 y.2).bind fun x15 => thn (if x15 = y.1 then some (.inl ()) else (ld T 20 (138 + w) (ia 32 y.1) y.2).bind fun x19 => (gi T 12 10 129 y.2).bind fun x21 => if (iand (ishr x19 x21) 1) = 1 then some (.inl ()) else some (.inr (.inl y.2))) (fun (v18 : Unit) => (f_X12_fails T A 129 2 y.2).bind fun e23 => some (.inl e23)) else some (.inl y.2) else some (.inl y.2) else some (.inl y.2)) k = k N) ∧ (RBd I0 M0 n x.2 y.2 → N = y.2) ∧ (∀ p, ((Ψ ∧ M 136 27 = (n : Int)) ∧ y.1 = x.1 ∧ 0 ≤ x.1 ∧ x.1 ≤ (n : Int) - 1) → RG I0 M0 b L n 0 O p x.2 y.2 → (stk b L p (ior (ishl 1 (a : Int)) (x.2 (8 + (9 + w)) a)) (isb (n : Int) 1) → f_X12_fails T A 129 2 y.2 = some N) ∧ (¬ stk b L p (ior (ishl 1 (a : Int)) (x.2 (8 + (9 + w)) a)) (isb (n : Int) 1) → N = y.2)) := by
      rcases rel_fault r1 with ⟨f1, f2, q, p, g⟩ | ⟨f1, f2, g⟩
      · have tkm := g.2.2.2.1
        obtain ⟨⟨_, q3⟩, q4, q5, q6⟩ := q
        have ex : x.2 (8 + (9 + w)) a = O (12 + w) a := by
          have := rg_td g (w := 9 + w) (o := a) (by omega) han
          rw [show 3 + (9 + w) = 12 + w by omega] at this
          exact this
        have ey : y.2 (138 + w) (32 + a) = O (12 + w) a := rg_nd g hw han
        have ehr : f_X12_hasRead T A 129 3 y.2 = some (n : Int) := by rw [m_hr3 h, rg_6 (k := 3) g (by decide)]; exact congrArg some g.1.1
        have stq : ∀ p', RG I0 M0 b L n 0 O p' x.2 y.2 → (stk b L p' (ior (ishl 1 (a : Int)) (x.2 (8 + (9 + w)) a)) (isb (n : Int) 1) ↔ stk b L p (ior (ishl 1 (a : Int)) (O (12 + w) a)) ((n : Int) - 1)) := fun p' g' => by
          obtain ⟨e1, e2, e3⟩ := tk_same tkm g'.2.2.2.1
          unfold stk
          rw [e1, e2, e3, ex, isb_eq (by omega) (by omega)]
        by_cases d : stk b L p (ior (ishl 1 (a : Int)) (O (12 + w) a)) ((n : Int) - 1)
        · obtain ⟨W, eW⟩ : ∃ W, f_X12_fails T A 129 2 y.2 = some W := ⟨_, m_fails h 2 y.2⟩
          refine ⟨W, fun k => ?_, fun z => absurd f1 z.1, fun p' _ g' => ⟨fun _ => eW, fun z => absurd ((stq p' g').mpr d) z⟩⟩
          obtain ⟨d1, d2, d3⟩ := d
          obtain ⟨v, ev⟩ := Int.eq_ofNat_of_zero_le (mnu_p d1).1
          rw [ev] at d2 d3
          rw [Int.toNat_natCast, hb_or, hb_shl (by omega), Bool.or_eq_true] at d3
          rw [if_pos f2, g2, some_bind, tkm.1, if_pos d1, g2, some_bind, tkm.2.2.2.1 d1, ehr, some_bind, ev, if_pos (by omega), some_bind, q4, ea]
          by_cases c : (v : Int) = (a : Int)
          · rw [if_pos c, thn_l, eW, some_bind, thn_l]
          · have hv : hb (O (12 + w) a) v = true := by
              rcases d3 with d3 | d3
              · exact absurd (of_decide_eq_true d3) (by omega)
              · exact d3
            rw [if_neg c, ia_eq (by omega) (by omega), ev_ld hT, if_pos (by omega), some_bind, some_bind, show ((32 : Int) + (a : Int)).toNat = 32 + a by omega, ey, bit1 _ (by omega), hv, if_pos (by decide), thn_l, eW, some_bind, thn_l]
        · refine ⟨y.2, fun k => ?_, fun z => rfl, fun p' _ g' => ⟨fun z => absurd ((stq p' g').mp z) d, fun _ => rfl⟩⟩
          rw [if_pos f2, g2, some_bind, tkm.1]
          by_cases d1 : tk b L p = 2
          · obtain ⟨v, ev⟩ := Int.eq_ofNat_of_zero_le (mnu_p d1).1
            rw [if_pos d1, g2, some_bind, tkm.2.2.2.1 d1, ehr, some_bind, ev]
            by_cases d2 : (v : Int) < (n : Int)
            · have d3 : ¬ hb (ior (ishl 1 (a : Int)) (O (12 + w) a)) v = true := fun z => d ⟨d1, by rw [ev]; omega, by rw [ev, Int.toNat_natCast]; exact z⟩
              rw [hb_or, hb_shl (by omega), Bool.or_eq_true] at d3
              have c : ¬ (v : Int) = (a : Int) := fun c => d3 (Or.inl (decide_eq_true (by omega)))
              have hv : hb (O (12 + w) a) v = false := by
                cases hx : hb (O (12 + w) a) v
                · rfl
                · exact absurd (Or.inr hx) d3
              rw [if_pos d2, some_bind, q4, ea, if_neg c, ia_eq (by omega) (by omega), ev_ld hT, if_pos (by omega), some_bind, some_bind, show ((32 : Int) + (a : Int)).toNat = 32 + a by omega, ey, bit1 _ (by omega), hv, if_neg (by decide), thn_r, thn_l]
            · rw [if_neg d2, thn_l]
          · rw [if_neg d1, thn_l]
      · exact ⟨y.2, fun k => by rw [if_neg f2, thn_l], fun _ => rfl, fun p' _ g' => absurd g'.2.1.2.2.2.1 f1⟩
    obtain ⟨N, n1, n2, n3⟩ := hN
    rw [n1, m_officialHere h]
    have r1' := rel_w (Ψ' := (((Ψ ∧ M 136 27 = (n : Int)) ∧ y.1 = x.1 ∧ 0 ≤ x.1 ∧ x.1 ≤ (n : Int) - 1) ∧ N 136 27 = (n : Int))) r1 (fun p q g => ⟨q, by
      by_cases d : stk b L p (ior (ishl 1 (a : Int)) (x.2 (8 + (9 + w)) a)) (isb (n : Int) 1)
      · have := (n3 p q g).1 d
        rw [m_fails h, if_pos g.2.2.2.2.1] at this
        rw [← Option.some.inj this, mu_o _ _ (by omega), mu_o _ _ (by omega), rg_6 (k := 3) g (by decide)]
        exact g.1.1
      · rw [(n3 p q g).2 d, rg_6 (k := 3) g (by decide)]
        exact g.1.1⟩)
    refine ok2_b (ok2_m (sim_but h r1' (s := ior (ishl 1 (a : Int)) (x.2 (8 + (9 + w)) a)) (hi := isb (n : Int) 1) n2 (fun p q g => ⟨by rw [isb_eq (by omega) (by omega)]; omega, by rw [q.2], n3 p q.1 g⟩)) (fun x2 y2 hxy2 => ?_))
    obtain ⟨r2, z2⟩ := hxy2
    rw [isb_eq (by omega) (by omega)] at r2 z2
    rw [m_isGood h]
    simp only [k2, k3, k8, some_bind]
    rcases rel_fault r2 with ⟨f1, f2, q, p, g⟩ | ⟨f1, f2, g⟩
    · obtain ⟨⟨⟨⟨q0, q1⟩, q4, q5, q6⟩, q7⟩, q9, q10, q11⟩ := q
      obtain ⟨v, ev⟩ := Int.eq_ofNat_of_zero_le q10.1
      have ex : x2.2 (8 + (9 + w)) a = O (12 + w) a := by
        have := rg_td g (w := 9 + w) (o := a) (by omega) han
        rw [show 3 + (9 + w) = 12 + w by omega] at this
        exact this
      have ey : y2.2 (138 + w) (32 + a) = O (12 + w) a := rg_nd g hw han
      have hne : a ≠ v := fun e => by
        rw [ev, Int.toNat_natCast, hb_or, hb_shl (by omega), decide_eq_true e.symm, Bool.true_or] at q11
        exact absurd q11 (by decide)
      rw [if_pos f1, b01 f2, if_neg (show ¬ (1 : Int) = 0 by decide), r5_told h (by omega), some_bind, ev_ld (kT5_told h (by omega)), if_pos (by omega), some_bind, Int.toNat_natCast, ev_sto (kT5_told h (by omega)), if_pos (by omega), some_bind, Int.toNat_natCast, q4, ea, ia_eq (by omega) (by omega), ev_ld hT, if_pos (by omega), some_bind, ev_sto hT, if_pos (by omega), some_bind, show ((32 : Int) + (a : Int)).toNat = 32 + a by omega, q9, ev, ex, ey]
      have s1 := rg_set (r := 12 + w) (o := a) (mo := 138 + w) (mk := 32 + a) (v := ior (O (12 + w) a) (ishl 1 (v : Int))) g (by unfold mpl; omega) (by omega) (by omega) (by omega)
      rw [show 5 + (12 + w) = 8 + (9 + w) by omega] at s1
      exact ok2_i ⟨a, v, Or.inl ⟨⟨q0, ⟨han, by omega⟩, hne⟩, p, s1⟩⟩
    · rw [if_neg f1, b00 f2, if_pos rfl]
      exact ok2_i ⟨0, 0, Or.inr g⟩
/-- leave, behind its word -/
theorem sim_leave (h : Ag T A) (r : Rel I0 M0 b L n 0 O Ψ I M) (hn8 : n ≤ 8) : OK2 ((gr T A 4 1 4).bind fun x4 => (gi T 2 4 x4 I).bind fun x5 => (f_X4_takeNumber T A 4 0 (isb x5 1) I).bind fun e7 => (f_X4_takeAfter T A 4 6 0 39 e7.2).bind fun e10 => (f_X4_takeAfter T A 4 7 e10.1 39 e10.2).bind fun e13 => (gi T 4 2 4 e13.2).bind fun x16 => if x16 = 0 then (gr T A 4 1 4).bind fun x18 => (gr T A 2 8 x18).bind fun x19 => (lr T A 24 x19 7).bind fun x20 => (sto T 20 x20 e7.1 e10.1 e13.2).bind fun I21 => (gr T A 4 1 4).bind fun x22 => (gr T A 2 8 x22).bind fun x23 => (lr T A 24 x23 8).bind fun x24 => (sto T 20 x24 e7.1 e13.1 I21).bind fun I25 => some I25 else some e13.2) (f_X12_leaveLine T A 129 M) (fun J N => ∃ (x : Nat) (v1 v2 : Int), Rel I0 M0 b L n 0 (rwO (rwO O 10 x v1) 11 x v2) (Ψ ∧ x < n ∧ (0 ≤ v1 ∧ v1 ≤ v2) ∧ v2 ≤ 39) J N) := by
  obtain ⟨k0, k1, k2, k3, k4, k5, k6, k7, k8, k9⟩ := r_ev h
  obtain ⟨g0, g1, g2, g3, g4⟩ := g_ev h
  obtain ⟨u16, u17, u18, u19, u20, u21, u22, u23⟩ := q_ev h
  have h4 := rel_4 r
  unfold f_X12_leaveLine f_X12_placeRead
  rw [k2, some_bind, k5, some_bind, if_pos g0, m_officialHere h, h4]
  have r0 := rel_w (Ψ' := Ψ ∧ M 136 27 = (n : Int)) r (fun p q g => ⟨q, by rw [rg_6 (k := 3) g (by decide)]; exact g.1.1⟩)
  refine ok2_b (ok2_m (sim_number h r0 (lo := 0) (hi := isb (n : Int) 1) (fun q => ⟨rfl, by rw [q.2], by rw [isb_eq (by omega) (by omega)]; omega⟩)) (fun x y hxy => ?_))
  obtain ⟨r1, z1⟩ := hxy
  rw [isb_eq (by omega) (by omega)] at z1 r1
  rw [if_pos g0, some_bind]
  refine ok2_b (ok2_m (sim_after h r1 (w := 6) (by decide) rfl (lo := 0) (hi := 39) (fun q => ⟨rfl, rfl, by decide⟩)) (fun x2 y2 hxy2 => ?_))
  obtain ⟨r2, z2⟩ := hxy2
  refine ok2_b (ok2_m (sim_after h r2 (w := 7) (by decide) rfl (lo := x2.1) (hi := 39) (fun q => ⟨q.2.1.symm, rfl, by decide⟩)) (fun x3 y3 hxy3 => ?_))
  obtain ⟨r3, z3⟩ := hxy3
  simp only [k2, k3, k8, g2, u18, some_bind]
  rcases rel_fault r3 with ⟨f1, f2, q, p, g⟩ | ⟨f1, f2, g⟩
  · obtain ⟨⟨⟨⟨q0, q1⟩, q4, q5, q6⟩, q7, q8, q9⟩, q10, q11, q12⟩ := q
    obtain ⟨a, ea⟩ := Int.eq_ofNat_of_zero_le q5
    have han : a < n := by omega
    have st1 : ∀ (k : Nat) v (W : Mem), k < 9 → sto T 20 137 (ia (im 9 (ia 32 (a : Int))) (k : Int)) v W = some (mu W 137 (9 * (32 + a) + k) v) := fun k v W hk => by
      rw [ia_eq (a := 32) (by omega) (by omega), im_eq (by omega) (by omega), ia_eq (by omega) (by omega), ev_sto (kT_137 h), if_pos (by omega), show (9 * ((32 : Int) + (a : Int)) + (k : Int)).toNat = 9 * (32 + a) + k by omega]
    rw [if_pos f1, if_pos f2, show lr T A 24 7 7 = some (8 + 7) from r5_told h (a := 7) (by decide), some_bind, ea, ev_sto (kT5_told h (a := 7) (by omega)), if_pos (by omega), some_bind, show lr T A 24 7 8 = some (8 + 8) from r5_told h (a := 8) (by decide), some_bind, ev_sto (kT5_told h (a := 8) (by omega)), if_pos (by omega), some_bind, q4, ea, Int.toNat_natCast, show ∀ v (W : Mem), sto T 20 137 (ia (im 9 (ia 32 (a : Int))) 7) v W = some (mu W 137 (9 * (32 + a) + 7) v) from fun v W => st1 7 v W (by decide), some_bind, show ∀ v (W : Mem), sto T 20 137 (ia (im 9 (ia 32 (a : Int))) 8) v W = some (mu W 137 (9 * (32 + a) + 8) v) from fun v W => st1 8 v W (by decide), some_bind, q7, q10]
    have s1 := rg_set (r := 10) (o := a) (mo := 137) (mk := 9 * (32 + a) + 7) (v := x2.1) g (by unfold mpl; omega) (by omega) (by omega) (by omega)
    have s2 := rg_set (r := 11) (o := a) (mo := 137) (mk := 9 * (32 + a) + 8) (v := x3.1) s1 (by unfold mpl; omega) (by omega) (by omega) (by omega)
    exact ok2_i ⟨a, x2.1, x3.1, Or.inl ⟨⟨q0, han, ⟨q8, q11⟩, q12⟩, p, s2⟩⟩
  · rw [if_neg f1, if_neg f2]
    exact ok2_i ⟨0, 0, 0, Or.inr g⟩
end
