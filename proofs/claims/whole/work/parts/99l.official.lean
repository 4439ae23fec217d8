/-! B: the lines, side by side: an official. -/
theorem upc_s (c : Nat → Int) (m : Nat) (v : Int) : upc c m v m = v := if_pos rfl
theorem upc_o (c : Nat → Int) {m k : Nat} (v : Int) (h : k ≠ m) : upc c m v k = c k := if_neg h
theorem mcw_s (c : Nat → Int) (m : Nat) {v : Int} (hv : v ≠ -1) : mcw (upc c m v) m = v := by
  unfold mcw
  rw [upc_s, if_neg (fun z => hv (by rw [← z.2, z.1, upc_s]))]
theorem mcw_o (c : Nat → Int) {m k : Nat} (v : Int) (h : k ≠ m) : mcw (upc c m v) k = mcw c k := by
  unfold mcw
  by_cases z : k = 2
  · subst z
    rw [upc_o c v h]
  · rw [if_neg (fun w => z w.1), if_neg (fun w => z w.1), upc_o c v h]
theorem mip_up (c : Nat → Int) (m : Nat) {v : Int} (hv : v ≠ -1) : (if m = 2 then 1 else mip c) = mip (upc c m v) := by
  unfold mip
  by_cases e : m = 2
  · subst e
    rw [if_pos rfl, upc_s, if_neg hv]
  · rw [if_neg e, upc_o c v (fun z => e z.symm)]
def Lag (I0 M0 : Mem) (I M : Mem) : Prop := I 4 2 = 0 ∧ I 2 2 ≠ 3 ∧ M 129 12 = 1 ∧ M 129 13 = I 2 3 ∧ FcC I0 I ∧ FcM M0 M
def ofO (O : Ofc) (n : Nat) (c : Nat → Int) : Ofc := fun a k => if a = 0 ∧ k = 4 then ((n + 1 : Nat) : Int) else if k = n ∧ 7 ≤ a ∧ a ≤ 13 then (if a = 7 then c 0 else if a = 8 then c 1 else if a = 9 then mcw c 2 else if a ≤ 11 then -1 else 0) else O a k
theorem ofO_4 (O : Ofc) (n : Nat) (c : Nat → Int) : ofO O n c 0 4 = ((n + 1 : Nat) : Int) := if_pos ⟨rfl, rfl⟩
theorem ofO_o (O : Ofc) {n : Nat} (c : Nat → Int) {a k : Nat} (h1 : ¬ (a = 0 ∧ k = 4)) (h2 : ¬ (k = n ∧ 7 ≤ a ∧ a ≤ 13)) : ofO O n c a k = O a k := by
  unfold ofO
  rw [if_neg h1, if_neg h2]
theorem ofO_n (O : Ofc) {n : Nat} (c : Nat → Int) {a : Nat} (h1 : 7 ≤ a) (h2 : a ≤ 13) : ofO O n c a n = if a = 7 then c 0 else if a = 8 then c 1 else if a = 9 then mcw c 2 else if a ≤ 11 then -1 else 0 := by
  unfold ofO
  rw [if_neg (by omega), if_pos ⟨rfl, h1, h2⟩]
section
variable {T : Knd} {A : Rfs} {I M I0 M0 : Mem} {b : Nat → Int} {L n u p : Nat} {O : Ofc} {Ψ : Prop} {c : Nat → Int}
theorem rg_out (r : RG I0 M0 b L n 0 O p I M) {w w' : Nat} (hw : w < 9) (hw' : w' < 9) (hn : n < 8) (v v' : Int) : RG I0 M0 b L n 0 O p (mu I (8 + w) n v) (mu M 137 (9 * (32 + n) + w') v') := by
  obtain ⟨⟨o1, o2, o3, o4, o5, o6⟩, ⟨c1, c2, c3, c4, c5, c6, c7, c8⟩, ⟨m1, m2, m3, m4, m5, m6, m7⟩⟩ := r
  obtain ⟨x1, x2⟩ := tkm_mu (a := 137) (j := 9 * (32 + n) + w') (v := v') m1 m2 (by decide)
  refine ⟨⟨o1, o2, o3, o4, o5, o6⟩, ⟨c1, ⟨c2.1, by rw [mu_o _ _ (by omega)]; exact c2.2.1, fun k hk => by rw [mu_o _ _ (by omega)]; exact c2.2.2 k hk⟩, ⟨by rw [mu_o _ _ (by omega)]; exact c3.1, by rw [mu_o _ _ (by omega)]; exact c3.2.1, by rw [mu_o _ _ (by omega)]; exact c3.2.2.1, fun hk => by rw [mu_o _ _ (by omega)]; exact c3.2.2.2 hk⟩, by rw [mu_o _ _ (by omega)]; exact c4, ?_, fun o h1 h2 => by rw [mu_o _ _ (by omega), mu_o _ _ (by omega)]; exact c6 o h1 h2, fun w hw => absurd hw (by omega), fcg_mu c8 (by omega) (by omega)⟩, ⟨x1, x2, by rw [mu_o _ _ (by omega)]; exact m3, ?_, fun hu => absurd hu (by omega), fun w hw => absurd hw (by omega), fcm_mu m7 (Or.inr (by unfold sl4; omega))⟩⟩
  · refine ⟨fun k hk => by rw [mu_o _ _ (by omega)]; exact c5.1 k hk, fun k hk => by rw [mu_o _ _ (by omega)]; exact c5.2.1 k hk, fun w o hw ho => ?_, fun r c hr hc => by rw [mu_o _ _ (by omega)]; exact c5.2.2.2 r c hr hc⟩
    rw [mu_o _ _ (by rw [o1] at ho; omega)]; exact c5.2.2.1 w o hw ho
  · obtain ⟨q1, q2, q3, q4, q5, q6, q7⟩ := m4
    refine ⟨by rw [mu_o _ _ (by omega)]; exact q1, fun k hk => by rw [mu_o _ _ (by omega)]; exact q2 k hk, fun k hk => by rw [mu_o _ _ (by omega)]; exact q3 k hk, fun w o hw ho => ?_, fun o ho => by rw [mu_o _ _ (by omega)]; exact q5 o ho, fun o ho => by rw [mu_o _ _ (by omega)]; exact q6 o ho, fun r c hr hc => by rw [mu_o _ _ (by omega)]; exact q7 r c hr hc⟩
    rw [mu_o _ _ (by rw [o1] at ho; omega)]; exact q4 w o hw ho
theorem rb_c {a j : Nat} {v : Int} (q : RBd I0 M0 n I M) (h1 : 5 ≤ a ∧ a ≤ 25) (h2 : ¬ (a = 5 ∧ j = 4)) : RBd I0 M0 n (mu I a j v) M := by
  obtain ⟨q1, q2, q3, q4, q5, q6⟩ := q
  exact ⟨by rw [mu_o _ _ (by omega)]; exact q1, by rw [mu_o _ _ (by omega)]; exact q2, by rw [mu_o _ _ (by omega)]; exact q3, by rw [mu_o _ _ (by omega)]; exact q4, fcc_mu q5 (by omega) (by omega), q6⟩
/-- what a number leaves as it is -/
theorem sim_numC (h : Ag T A) (r : RG I0 M0 b L n u O p I M) {lo hi : Int} {x : Int × Mem} (e : f_X4_takeNumber T A 4 lo hi I = some x) : ∀ o k, 5 ≤ o → o ≤ 25 → x.2 o k = I o k := by
  obtain ⟨k0, k1, k2, k3, k4, k5, k6, k7, k8, k9⟩ := r_ev h
  obtain ⟨t0, t1, t2, t3, t4⟩ := t_ev h
  have bl : ∀ f, ∀ z : Int × Mem, (f_X4_blame T A 4 f I).bind (fun e => some (e.1, e.2)) = some z → ∀ o k, 5 ≤ o → o ≤ 25 → z.2 o k = I o k := fun f z ez o k h1 h2 => by
    rw [c_blame h, some_bind] at ez
    rw [← Option.some.inj ez]
    show mu (mu I 4 2 f) 4 3 (I 2 3) o k = I o k
    rw [mu_o _ _ (by omega), mu_o _ _ (by omega)]
  obtain ⟨J, eJ, j1, j2⟩ := c_advance h r.2.1.2.1 r.2.1.2.2.1.2.2.1 (tt_in b r.2.1.1).1.2
  unfold f_X4_takeNumber at e
  rw [if_pos k0, k3, some_bind, if_pos r.2.1.2.2.2.1, k1, some_bind, t2, some_bind] at e
  by_cases d : I 2 2 = 2
  · rw [if_pos d, some_bind, t2, some_bind] at e
    by_cases f : I 2 5 < lo
    · rw [if_pos f, thn_l] at e
      exact bl 2 x e
    · rw [if_neg f, some_bind, t2, some_bind] at e
      by_cases g : I 2 5 ≤ hi
      · rw [if_pos g, some_bind, t2, some_bind, some_bind, eJ, some_bind, thn_r] at e
        rw [← Option.some.inj e]
        exact fun o k h1 h2 => j2 o k (by omega)
      · rw [if_neg g, thn_l] at e
        exact bl 2 x e
  · rw [if_neg d] at e
    exact bl 1 x e
theorem sim_numM (h : Ag T A) (r : RG I0 M0 b L n u O p I M) {lo hi : Int} {y : Int × Mem} (e : f_X12_number T A 129 lo hi M = some y) : ∀ o k, o ≠ 129 → y.2 o k = M o k := by
  obtain ⟨g0, g1, g2, g3, g4⟩ := g_ev h
  have fl : ∀ f, ∀ z : Int × Mem, (f_X12_fails T A 129 f M).bind (fun e => some (lo, e)) = some z → ∀ o k, o ≠ 129 → z.2 o k = M o k := fun f z ez o k h1 => by
    rw [m_fails h, if_pos r.2.2.2.2.1, some_bind] at ez
    rw [← Option.some.inj ez]
    show mu (mu M 129 12 f) 129 13 (M 129 9) o k = M o k
    rw [mu_o _ _ (by omega), mu_o _ _ (by omega)]
  obtain ⟨J, eJ, j1, j2⟩ := m_next h r.2.2.1 r.2.2.2.1.2.2.1 (tt_in b r.2.1.1).1.2
  unfold f_X12_number at e
  rw [if_pos g0, g2, some_bind, if_pos r.2.2.2.2.1, g2, some_bind] at e
  by_cases d : M 129 8 = 2
  · rw [if_pos d, g2, some_bind, m_in, some_bind] at e
    by_cases f : lo ≤ M 129 10 ∧ M 129 10 ≤ hi
    · rw [if_pos f, if_neg (by decide), some_bind, eJ, some_bind] at e
      rw [← Option.some.inj e]
      exact fun o k h1 => j2 o k (by omega)
    · rw [if_neg f, if_pos rfl] at e
      exact fl 2 y e
  · rw [if_neg d] at e
    exact fl 1 y e
theorem c_mark0 (h : Ag T A) {m : Nat} (hm : m < 3) (g : I 4 2 ≠ 0) (lo hi : Int) (w : Nat) (a2 : Int) : f_X4_readMark T A 4 w a2 lo hi I = some I := by
  obtain ⟨k0, k1, k2, k3, k4, k5, k6, k7, k8, k9⟩ := r_ev h
  unfold f_X4_readMark
  rw [if_pos k0, k2, some_bind, k5, some_bind, k3, some_bind, if_neg g]
theorem c_mark (h : Ag T A) {m : Nat} (hm : m < 3) (hn : n < 8) (q : MK I0 M0 b L n O p c I M) (k : Nat) : OK (f_X4_readMark T A 4 (9 + m) ((4 + m : Nat) : Int) (mlo m) (mhi m) I) (fun J => (¬ (c m = -1 ∧ isw b L p (9 + m) = true) → J = I) ∧ (c m = -1 → isw b L p (9 + m) = true → ∃ ip' M', it (mkM T A (9 * (32 + (n : Int)))) (k + 1) (mip c, M) = it (mkM T A (9 * (32 + (n : Int)))) k (ip', M') ∧ ((∃ v p', MK I0 M0 b L n O p' (upc c m v) J M' ∧ v ≠ -1 ∧ ip' = mip (upc c m v)) ∨ RBd I0 M0 n J M'))) := by
  obtain ⟨k0, k1, k2, k3, k4, k5, k6, k7, k8, k9⟩ := r_ev h
  have q' := q
  obtain ⟨r, q1, q2, q3, q4, q5, q6⟩ := q
  have h4 : I 5 4 = (n : Int) := by rw [rg_5 r (by decide)]; exact r.1.1
  have cell := (q2 m hm).1
  unfold f_X4_readMark
  rw [if_pos k0, k2, some_bind, k5, some_bind, h4, k3, some_bind, if_pos r.2.1.2.2.2.1, if_pos (by omega), some_bind, k8, some_bind, r5_told h (by omega), some_bind, ev_ld (kT5_told h (by omega)), if_pos (by omega), some_bind, Int.toNat_natCast, show 8 + (4 + m) = 12 + m by omega, cell]
  by_cases d : c m = -1
  · rw [if_pos d, k1, some_bind, c_isWord h r.2.1.2.1 r.2.1.1 (by omega) r.2.1.2.2.1, some_bind]
    cases hw : isw b L p (9 + m)
    · rw [if_pos (show bi false = 0 from rfl)]
      exact ok_i ⟨fun _ => rfl, fun _ z => absurd z (by decide)⟩
    · rw [if_neg (show ¬ bi true = 0 by decide), some_bind]
      obtain ⟨J1, N1, e1, e2, r1⟩ := sim_next h r
      obtain ⟨x, y, ex, ey, hxy⟩ := sim_numberG h r1 (lo := mlo m) (hi := mhi m) (by unfold mhi; split; decide; split <;> decide)
      have h4x : x.2 5 4 = (n : Int) := by
        rcases hxy with ⟨g, _⟩ | ⟨g, _⟩
        · rw [rg_5 g (by decide)]; exact g.1.1
        · exact g.2.2.2.1
      rw [e1, some_bind, ex, some_bind, c_tell h (by omega) hn h4x, some_bind]
      have em := mk_it h k hm hn q' d hw
      rw [e2, some_bind, ey, some_bind, ev_sto (kT_137 h), if_pos (by omega), some_bind, show (9 * (32 + (n : Int)) + (4 + (m : Int))).toNat = 9 * (32 + n) + (4 + m) by omega] at em
      refine ok_i ⟨fun z => absurd ⟨d, rfl⟩ z, fun _ _ => ⟨_, _, em, ?_⟩⟩
      rcases hxy with ⟨g, _, z1, ⟨z2, z3⟩, _⟩ | ⟨g, z⟩
      · have ml : 0 ≤ mlo m := by unfold mlo; split <;> decide
        refine Or.inl ⟨x.1, _, ⟨rg_out g (w := 4 + m) (w' := 4 + m) (by omega) (by omega) hn x.1 y.1, ?_⟩, by omega, ?_⟩
        · have e3 : MKo n O c x.2 y.2 := by
            refine mko_tok ⟨q1, q2, q3, q4, q5, q6⟩ hn (fun o j h1 h2 => ?_) (fun o j h1 => ?_)
            · obtain ⟨J2, f1, f2, f3⟩ := c_advance h r.2.1.2.1 r.2.1.2.2.1.2.2.1 (tt_in b r.2.1.1).1.2
              rw [e1] at f1
              have f1 := Option.some.inj f1
              subst f1
              have := sim_numC h r1 ex
              rw [this o j h1 h2, f3 o j (by omega)]
            · obtain ⟨J2, f1, f2, f3⟩ := m_next h r.2.2.1 r.2.2.2.1.2.2.1 (tt_in b r.2.1.1).1.2
              rw [e2] at f1
              have f1 := Option.some.inj f1
              subst f1
              have := sim_numM h r1 ey
              rw [this o j (by omega), f3 o j (by omega)]
          obtain ⟨p1, p2, p3, p4, p5, p6⟩ := e3
          refine ⟨fun w hw => ?_, fun m' hm' => ?_, ?_, ?_, ?_, fun m' hm' => ?_⟩
          · rw [mu_o _ _ (by omega), mu_o _ _ (by omega)]; exact p1 w hw
          · by_cases e : m' = m
            · subst e
              rw [show 8 + (4 + m') = 12 + m' by omega, mu_s, mu_s, mcw_s c m' (by omega), upc_s, z1]
              exact ⟨rfl, rfl⟩
            · rw [mu_o _ _ (by omega), mu_o _ _ (by omega), mcw_o c _ e, upc_o c _ e]
              exact p2 m' hm'
          · rw [mu_o _ _ (by omega), mu_o _ _ (by omega)]; exact p3
          · rw [mu_o _ _ (by omega), mu_o _ _ (by omega)]; exact p4
          · rw [mu_o _ _ (by omega), mu_o _ _ (by omega)]; exact p5
          · by_cases e : m' = m
            · rw [e, upc_s]; exact Or.inr ⟨z2, z3⟩
            · rw [upc_o c _ e]; exact p6 m' hm'
        · exact mip_up c m (by omega)
      · exact Or.inr (rb_set g (by omega) (by omega) (by unfold sl4; omega))
  · rw [if_neg d]
    exact ok_i ⟨fun _ => rfl, fun z => absurd z d⟩
end
