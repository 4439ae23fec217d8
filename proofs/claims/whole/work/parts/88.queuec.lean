/-! B: the calls run, queue, served, chair. -/
section
variable {T : Knd} {A : Rfs} {O : Ofc} {I : Mem} {c : Nat → Nat} {len s : Nat}
theorem rfz_ag {J : Mem} (e : ∀ o k, 130 ≤ o → o ≤ 132 → J o k = I o k) (a : Int) : rfz O J a = rfz O I a := by
  unfold rfz rbad
  have e1 : ∀ j, J 130 j = I 130 j := fun j => e _ _ (by omega) (by omega)
  have e2 : ∀ j, J 131 j = I 131 j := fun j => e _ _ (by omega) (by omega)
  have e3 : ∀ j, J 132 j = I 132 j := fun j => e _ _ (by omega) (by omega)
  simp only [e1, e2, e3]
theorem sl_ag {J : Mem} (e : ∀ o k, (113 ≤ o ∧ o ≤ 118) ∨ (130 ≤ o ∧ o ≤ 132) → J o k = I o k) (u : SL I) : SL J := by
  intro s hs
  have := u s hs
  rw [e 130 s (by omega), e 118 s (by omega), e 117 s (by omega), e 131 s (by omega)]
  rcases this with g | ⟨g1, g2, g3, g4, g5⟩
  · exact Or.inl g
  · refine Or.inr ⟨g1, g2, g3, g4, fun k hk => ?_⟩
    rw [e (113 + s) k (by omega), e 132 _ (by omega)]
    exact g5 k hk
theorem rw_of (u : SL I) {a : Int} (e : rfz O I a = 0) : ∃ (s len : Nat) (c : Nat → Nat), a = (s : Int) ∧ 0 < O 0 0 ∧ Rw O I s len c := by
  obtain ⟨s, rfl, hs, hl, w3, w4, w5, w6⟩ := rfz_0 u e
  obtain ⟨len, el⟩ := Int.eq_ofNat_of_zero_le w3.1
  refine ⟨s, len, fun i => (I 132 (60 * s + i)).toNat, rfl, hl, hs, by omega, by omega, el, fun i hi => ?_⟩
  have := w6 i (by omega)
  have h5 := w5 i (by omega)
  dsimp only
  omega
theorem rw_ag (r : Rw O I s len c) {J : Mem} (e : ∀ o k, (113 ≤ o ∧ o ≤ 118) ∨ (130 ≤ o ∧ o ≤ 132) → J o k = I o k) : Rw O J s len c := by
  obtain ⟨r1, r2, r3, r4, r5⟩ := r
  refine ⟨r1, r2, ?_, ?_, fun i hi => ⟨?_, ?_, (r5 i hi).2.2⟩⟩
  · rw [e _ _ (by omega)]; exact r3
  · rw [e _ _ (by omega)]; exact r4
  · rw [e _ _ (by omega)]; exact (r5 i hi).1
  · rw [e _ _ (by omega)]; exact (r5 i hi).2.1
theorem fx_c {J : Mem} (e : ∀ a b, (a < 119 ∨ 127 < a) → J a b = I a b) : FX I J := fun o k hk => by
  refine e o k ?_
  unfold scx at hk
  simp only [Bool.or_eq_false_iff, Bool.and_eq_false_iff, decide_eq_false_iff_not] at hk
  omega
theorem fx_m {J K : Mem} (e : Fqs J K) (e2 : K 129 31 = J 129 31) : FX J K := fun o k hk => by
  by_cases c : o = 129 ∧ k = 31
  · rw [c.1, c.2]; exact e2
  · have hk' : scr o k = false := by unfold scx at hk; simp only [Bool.or_eq_false_iff] at hk; exact hk.1.1.1
    refine e o k (fun g => ?_) c (fun g => ?_) (fun g => ?_) (fun g => ?_) (fun g => ?_) (fun g => ?_)
    · obtain ⟨rfl, g1, g2⟩ := g
      have d1 := decide_eq_true g1
      have d2 := decide_eq_true g2
      unfold scr at hk'
      rw [d1, d2] at hk'
      simp at hk'
    all_goals (subst g; exact absurd hk' (by simp [scr]))
theorem fqs_u {I J : Mem} (h : Fqu I J) : Fqs I J := fun o k h1 _ h3 h4 h5 h6 _ => h o k h1 h3 h4 h5 h6
/-- what the class's call leaves, and the reference's row at it -/
theorem pre_q (b : Bas T A O I) (u : SL I) {J : Mem} (e : ∀ a b, (a < 119 ∨ 127 < a) → J a b = I a b) : MW O 0 (mu J 129 0 0) ∧ SL (mu J 129 0 0) ∧ (∀ a, rfz O (mu J 129 0 0) a = rfz O I a) ∧ (mu J 129 0 0) 129 31 = 0 ∧ FX I (mu J 129 0 0) := by
  obtain ⟨h, wf, hc, hm, g, ht, hnx, k, hq⟩ := b
  have e' : ∀ o k, o ≠ 129 → (o < 119 ∨ 127 < o) → (mu J 129 0 0) o k = I o k := fun o k h1 h2 => by rw [mu_o _ _ (by omega)]; exact e o k h2
  refine ⟨mw_ag hm (fun a b h1 h2 => e' a b (by omega) (by omega)), sl_ag (fun o k h1 => e' o k (by omega) (by omega)) u, fun a => rfz_ag (fun o k h1 h2 => e' o k (by omega) (by omega)) a, by rw [mu_o _ _ (by omega), e _ _ (by omega)]; exact hq, fx_t (fx_c e) (fx_fr (fr_0 J))⟩
theorem q_queue (b : Bas T A O I) (u : SL I) (a1 a2 : Int) : Quiet2 (f_X11_queue T A 1 a1 a2 I) (fun J => f_X12_queue T A 129 a1 a2 J) I := by
  have b' := b
  obtain ⟨h, wf, hc, hm, g, ht, hnx, k, hq⟩ := b
  have pi' : ∀ q v (J : Mem), pi T 12 q 129 v J = some (mu J 129 q v) := fun q v J => by simp only [agMg h]
  have g12 : gr T A 11 12 1 = some 119 := by simp only [agX h]
  have g11 : gr T A 11 11 1 = some 111 := by simp only [agX h]
  unfold f_X11_queue f_X12_queue
  rw [if_pos (show (T 1).1 = 11 by rw [kT_1 h]), g12, g11, c_refusal h wf hc u]
  simp only [if_pos (show (T 129).1 = 12 by rw [kT_129 h]), pi', some_bind, m_in]
  obtain ⟨p1, p2, p3, p4, p5⟩ := pre_q b' u (J := I) (fun _ _ _ => rfl)
  by_cases c1 : a2 < 1
  · rw [if_pos c1]
    refine ⟨-2, I, mu I 129 0 0, rfl, ?_, p5⟩
    dsimp only
    rw [if_neg (show ¬ (1 ≤ a2 ∧ a2 ≤ 9) by omega), if_pos (show (0 : Int) = 0 from rfl), thn_l, if_neg (by decide)]
  · rw [if_neg c1]
    by_cases c2 : a2 ≤ 9
    · rw [if_pos c2]
      by_cases z : rfz O I a1 = 0
      · rw [if_pos z]
        obtain ⟨s, len, c, rfl, hl, r⟩ := rw_of u z
        obtain ⟨n, rfl⟩ := Int.eq_ofNat_of_zero_le (show 0 ≤ a2 by omega)
        obtain ⟨J, eJ, j1, j2, j3⟩ := c_serve h wf hl hc ht hnx r (n := n) (by omega)
        obtain ⟨p1, p2, p3, p4, p5⟩ := pre_q b' u (J := J) (fun a b h1 => j3 a b (by omega))
        obtain ⟨K, eK, k1, k2, k3, k4⟩ := m_queues h wf hl p1 (rw_ag (J := mu J 129 0 0) r (fun o k h1 => by rw [mu_o _ _ (by omega)]; exact j3 _ _ (by omega))) (n := n) (by omega)
        refine ⟨lsv (thr O c len) n, J, K, ?_, ?_, fx_t p5 (fx_m k3 (by rw [k4, p4]))⟩
        · rw [eJ, some_bind, c_lastThrough h (by omega) j1, some_bind]
        · dsimp only
          rw [if_pos (show (1 : Int) ≤ (n : Int) ∧ (n : Int) ≤ 9 by omega), if_neg (by decide), m_whyNot h wf p1 p2, p3, z, some_bind, thn_l, if_pos rfl, eK, some_bind, m_lastOf h (by omega) k1, some_bind]
      · rw [if_neg z]
        refine ⟨_, I, mu I 129 0 0, rfl, ?_, p5⟩
        dsimp only
        rw [if_pos (show 1 ≤ a2 ∧ a2 ≤ 9 by omega), if_neg (by decide), m_whyNot h wf p1 p2, p3, some_bind, thn_l, if_neg z]
    · rw [if_neg c2]
      refine ⟨-2, I, mu I 129 0 0, rfl, ?_, p5⟩
      dsimp only
      rw [if_neg (show ¬ (1 ≤ a2 ∧ a2 ≤ 9) by omega), if_pos (show (0 : Int) = 0 from rfl), thn_l, if_neg (by decide)]
theorem q_served (b : Bas T A O I) (u : SL I) (a1 a2 : Int) : Quiet2 (f_X11_served T A 1 a1 a2 I) (fun J => f_X12_served T A 129 a1 a2 J) I := by
  have b' := b
  obtain ⟨h, wf, hc, hm, g, ht, hnx, k, hq⟩ := b
  have pi' : ∀ q v (J : Mem), pi T 12 q 129 v J = some (mu J 129 q v) := fun q v J => by simp only [agMg h]
  have g12 : gr T A 11 12 1 = some 119 := by simp only [agX h]
  have g11 : gr T A 11 11 1 = some 111 := by simp only [agX h]
  unfold f_X11_served f_X12_served
  rw [if_pos (show (T 1).1 = 11 by rw [kT_1 h]), g12, g11, c_refusal h wf hc u]
  simp only [if_pos (show (T 129).1 = 12 by rw [kT_129 h]), pi', some_bind, m_in]
  obtain ⟨p1, p2, p3, p4, p5⟩ := pre_q b' u (J := I) (fun _ _ _ => rfl)
  by_cases c1 : a2 < 0
  · rw [if_pos c1]
    refine ⟨-2, I, mu I 129 0 0, rfl, ?_, p5⟩
    dsimp only
    rw [if_neg (show ¬ (0 ≤ a2 ∧ a2 ≤ 400) by omega), if_pos (show (0 : Int) = 0 from rfl), thn_l, if_neg (by decide)]
  · rw [if_neg c1]
    by_cases c2 : a2 ≤ 400
    · rw [if_pos c2]
      by_cases z : rfz O I a1 = 0
      · rw [if_pos z]
        obtain ⟨s, len, c, rfl, hl, r⟩ := rw_of u z
        obtain ⟨J, eJ, j1, j2, j3⟩ := c_serve h wf hl hc ht hnx r (n := 9) (by omega)
        obtain ⟨p1, p2, p3, p4, p5⟩ := pre_q b' u (J := J) (fun a b h1 => j3 a b (by omega))
        obtain ⟨K, eK, k1, k2, k3, k4⟩ := m_queues h wf hl p1 (rw_ag (J := mu J 129 0 0) r (fun o k h1 => by rw [mu_o _ _ (by omega)]; exact j3 _ _ (by omega))) (n := 9) (by omega)
        refine ⟨cnv (thr O c len) a2 9, J, K, ?_, ?_, fx_t p5 (fx_m k3 (by rw [k4, p4]))⟩
        · refine (congrArg (fun o => Option.bind o _) eJ).trans ?_
          rw [some_bind, c_throughBy h j1, some_bind]
        · dsimp only
          rw [if_pos (show 0 ≤ a2 ∧ a2 ≤ 400 by omega), if_neg (by decide), m_whyNot h wf p1 p2, p3, z, some_bind, thn_l, if_pos rfl]
          refine (congrArg (fun o => Option.bind o _) eK).trans ?_
          rw [some_bind, show gr T A 12 48 129 = some 153 by simp only [agMg h]]
          refine it_seq (fun i => (cnv (thr O c len) a2 i, (i : Int))) 9 (fun i hi => ?_) ?_ FU (by decide)
          · have := cnv_rg (thr O c len) a2 i
            try dsimp only
            rw [if_pos (by omega), some_bind, ev_ld (kT_153 h), if_pos (by omega), some_bind, some_bind, Int.toNat_natCast, k1 i hi, ia_1 (by omega), cnv]
            by_cases c1 : thr O c len i = -1
            · rw [if_pos c1, if_pos c1, ia_eq (by omega) (by omega), Int.add_zero]
            · rw [if_neg c1, if_neg c1, ev_ld (kT_153 h), if_pos (by omega), some_bind, Int.toNat_natCast, k1 i hi]
              by_cases c2 : thr O c len i ≤ a2
              · rw [if_pos c2, if_pos c2, ia_eq (by omega) (by omega)]
              · rw [if_neg c2, if_neg c2, ia_eq (by omega) (by omega), Int.add_zero]
          · try dsimp only
            rw [if_neg (by decide)]
      · rw [if_neg z]
        refine ⟨_, I, mu I 129 0 0, rfl, ?_, p5⟩
        dsimp only
        rw [if_pos (show 0 ≤ a2 ∧ a2 ≤ 400 by omega), if_neg (by decide), m_whyNot h wf p1 p2, p3, some_bind, thn_l, if_neg z]
    · rw [if_neg c2]
      refine ⟨-2, I, mu I 129 0 0, rfl, ?_, p5⟩
      dsimp only
      rw [if_neg (show ¬ (0 ≤ a2 ∧ a2 ≤ 400) by omega), if_pos (show (0 : Int) = 0 from rfl), thn_l, if_neg (by decide)]
theorem fst_upto {p q : Nat → Bool} {n : Nat} (e : ∀ i, i < n → (∀ j, j < i → q j = false) → p i = q i) : fst_ p n 0 = fst_ q n 0 := by
  by_cases c : fst_ q n 0 = -1
  · have hq := fst_no c
    rw [c]
    refine fst_none (fun j _ hj => ?_)
    rw [e j (by omega) (fun i hi => hq i (by omega) (by omega))]
    exact hq j (by omega) hj
  · obtain ⟨N, e1, n1, n2, n3, n4⟩ := fst_hit rfl c
    rw [e1]
    refine fst_is (by omega) n2 ?_ (fun j h1 h2 => ?_)
    · rw [e N (by omega) (fun i hi => n4 i (by omega) hi)]; exact n3
    · rw [e j (by omega) (fun i hi => n4 i (by omega) (by omega))]; exact n4 j h1 h2
/-- one alone: what he took lies behind him -/
theorem run_one (wf : WF O) (hl : 0 < O 0 0) (hcl : ∀ i, i < len → ((c i : Nat) : Int) < O 0 4) {w w' : Nat → Int} : qres O false c (qin O (ntk, w')) len = qres O true c (qin O (ntk, w)) len ∧ (qfl O true c (qin O (ntk, w)) len = -1 → 0 ≤ (qrn O true c (qin O (ntk, w)) len).1 0) := by
  have hr := wf.2.2.2.1
  have s0 : WS O (qin O (ntk, w)).1 := st0_ws wf hl hr.1 (by omega)
  have key : ∀ i, i ≤ len → (∀ j, j < i → qbad O true c (qin O (ntk, w)) j = false) → (qrn O false c (qin O (ntk, w')) i).1 = (qrn O true c (qin O (ntk, w)) i).1 ∧ (qrn O false c (qin O (ntk, w')) i).2.1 = ntk ∧ (∀ o h, (qrn O true c (qin O (ntk, w)) i).2.1 o h = true → (h : Int) < (qrn O true c (qin O (ntk, w)) i).1 0) ∧ (i < len → stp O (qrn O false c (qin O (ntk, w')) i).2.1 (qrn O false c (qin O (ntk, w')) i).1 (c i) = stp O (qrn O true c (qin O (ntk, w)) i).2.1 (qrn O true c (qin O (ntk, w)) i).1 (c i)) := by
    intro i
    induction i with
    | zero =>
      intro _ _
      exact ⟨rfl, rfl, fun o h e => absurd e (by show ¬ false = true; decide), fun _ => rfl⟩
    | succ i ih =>
      intro hi hb'
      obtain ⟨i1, i2, i3, i4⟩ := ih (by omega) (fun j hj => hb' j (by omega))
      have i4 := i4 (by omega)
      have sw := qrn_ws (m := true) (c := c) (len := len) wf s0 hcl i (by omega) (fun j hj => hb' j (by omega))
      have sw' := qrn_ws (m := true) (c := c) (len := len) wf s0 hcl (i + 1) hi hb'
      have hne : stp O (qrn O true c (qin O (ntk, w)) i).2.1 (qrn O true c (qin O (ntk, w)) i).1 (c i) ≠ -1 := of_decide_eq_false (hb' i (by omega))
      have hs := stp_rg wf sw (hcl i (by omega)) hne
      have a1 : (qrn O false c (qin O (ntk, w')) (i + 1)).1 = (qrn O true c (qin O (ntk, w)) (i + 1)).1 := by
        show goS O (qrn O false c (qin O (ntk, w')) i).1 (c i) _ = goS O (qrn O true c (qin O (ntk, w)) i).1 (c i) _
        rw [i4, i1]
      have a2 : (qrn O false c (qin O (ntk, w')) (i + 1)).2.1 = ntk := i2
      have a0 : (qrn O true c (qin O (ntk, w)) (i + 1)).1 0 = stp O (qrn O true c (qin O (ntk, w)) i).2.1 (qrn O true c (qin O (ntk, w)) i).1 (c i) + 1 := rfl
      have a3 : ∀ o h, (qrn O true c (qin O (ntk, w)) (i + 1)).2.1 o h = true → (h : Int) < (qrn O true c (qin O (ntk, w)) (i + 1)).1 0 := fun o h e => by
        rw [a0]
        have e' : tkp (qrn O true c (qin O (ntk, w)) i).2.1 (c i) (stp O (qrn O true c (qin O (ntk, w)) i).2.1 (qrn O true c (qin O (ntk, w)) i).1 (c i)).toNat o h = true := e
        unfold tkp at e'
        rw [Bool.or_eq_true, Bool.and_eq_true, decide_eq_true_iff, decide_eq_true_iff] at e'
        have sw00 := sw.1
        rcases e' with e' | e'
        · have := i3 o h e'; omega
        · omega
      refine ⟨a1, a2, a3, fun hi' => ?_⟩
      rw [a1, a2]
      unfold stp
      have sw0 := sw'.1
      have hw := wlk_in wf sw' (hcl (i + 1) hi')
      split
      · rfl
      · split
        · refine fst_ext (fun j h1 h2 => ?_)
          unfold okh
          cases et : (qrn O true c (qin O (ntk, w)) (i + 1)).2.1 (c (i + 1)) j
          · rfl
          · have := a3 _ _ et
            unfold arr at h1
            omega
        · rfl
  have eb : qfl O false c (qin O (ntk, w')) len = qfl O true c (qin O (ntk, w)) len := fst_upto (fun i hi hb' => by
    have := (key i (by omega) hb').2.2.2 hi
    unfold qbad
    rw [this])
  constructor
  · unfold qres
    rw [eb]
    by_cases e : qfl O true c (qin O (ntk, w)) len = -1
    · rw [if_pos e, if_pos e, (key len (Nat.le_refl _) (fun j hj => fst_no e j (by omega) (by omega))).1]
    · rw [if_neg e, if_neg e]
  · intro e
    exact (qrn_ws (m := true) (c := c) (len := len) wf s0 hcl len (Nat.le_refl _) (fun j hj => fst_no e j (by omega) (by omega))).1.1
theorem q_run (b : Bas T A O I) (u : SL I) (a1 : Int) : Quiet2 (f_X11_run T A 1 a1 I) (fun J => f_X12_run T A 129 a1 J) I := by
  have b' := b
  obtain ⟨h, wf, hc, hm, g, ht, hnx, k, hq⟩ := b
  have pi' : ∀ q v (J : Mem), pi T 12 q 129 v J = some (mu J 129 q v) := fun q v J => by simp only [agMg h]
  have g12 : gr T A 11 12 1 = some 119 := by simp only [agX h]
  have g11 : gr T A 11 11 1 = some 111 := by simp only [agX h]
  unfold f_X11_run f_X12_run
  rw [if_pos (show (T 1).1 = 11 by rw [kT_1 h]), g12, g11, c_refusal h wf hc u]
  simp only [if_pos (show (T 129).1 = 12 by rw [kT_129 h]), pi', some_bind]
  obtain ⟨p1, p2, p3, p4, p5⟩ := pre_q b' u (J := I) (fun _ _ _ => rfl)
  by_cases z : rfz O I a1 = 0
  · rw [if_pos z]
    obtain ⟨s, len, c, rfl, hl, r⟩ := rw_of u z
    obtain ⟨J, eJ, j1, j2, j3⟩ := c_serve h wf hl hc ht hnx r (n := 1) (by omega)
    obtain ⟨p1, p2, p3, p4, p5⟩ := pre_q b' u (J := J) (fun a b h1 => j3 a b (by omega))
    obtain ⟨K, eK, k1, k2, k3, k4⟩ := m_runs (m := false) (tk := ntk) (wt := fun o => (mu J 129 0 0) 152 o) h wf hl p1 (Or.inl ⟨rfl, p4, fun _ _ => rfl⟩) (fun _ _ => rfl) (rw_ag (J := mu J 129 0 0) r (fun o k h1 => by rw [mu_o _ _ (by omega)]; exact j3 _ _ (by omega)))
    have ro := run_one (len := len) (c := c) (w := fun _ => 0) (w' := fun o => (mu J 129 0 0) 152 o) wf hl (fun i hi => (r.2.2.2.2 i hi).2.2)
    have hv : lsv (thr O c len) 1 = K.1 := by
      rw [k1, ro.1]
      show (if (if decide (thr O c len 0 = -1) then ((0 : Nat) : Int) else -1) = -1 then imax 0 (thr O c len 0) else -1) = thr O c len 0
      by_cases e : thr O c len 0 = -1
      · rw [decide_eq_true e, if_pos rfl, if_neg (by decide), e]
      · rw [decide_eq_false e, if_pos (show (if false = true then ((0 : Nat) : Int) else -1) = -1 from rfl)]
        have : 0 ≤ thr O c len 0 := by
          unfold thr qres at e ⊢
          by_cases d : qfl O true c (qin O (qsv O c len 0)) len = -1
          · rw [if_pos d]; exact ro.2 d
          · rw [if_neg d] at e; exact absurd rfl e
        unfold imax
        split <;> omega
    refine ⟨K.1, J, K.2, ?_, ?_, fx_t p5 (fx_m (fqs_u k4) (k4 _ _ (by omega) (by omega) (by omega) (by omega) (by omega)))⟩
    · refine (congrArg (fun o => Option.bind o _) eJ).trans ?_
      rw [some_bind]
      refine (congrArg (fun o => Option.bind o _) (c_lastThrough (n := 1) h (by omega) j1)).trans ?_
      rw [some_bind, hv]
    · dsimp only
      rw [m_whyNot h wf p1 p2, p3, z, some_bind, if_pos rfl, eK, some_bind]
  · rw [if_neg z]
    refine ⟨_, I, mu I 129 0 0, rfl, ?_, p5⟩
    dsimp only
    rw [m_whyNot h wf p1 p2, p3, some_bind, if_neg z]
theorem ok_eq {Z : Type} {o : Option Z} {v : Z} (h : OK o (fun z => z = v)) : o = some v := by
  obtain ⟨z, e1, e2⟩ := h
  rw [e1, e2]
theorem all_in {f : Nat → Int} {n : Nat} (e : lsv f n ≠ -1) : ∀ j, j < n → f j ≠ -1 := fun j hj q => by
  unfold lsv at e
  by_cases c1 : fst_ (fun i => decide (f i = -1)) n 0 = -1
  · have := fst_no c1 j (by omega) (by omega)
    exact absurd q (of_decide_eq_false this)
  · rw [if_neg c1] at e; exact e rfl
theorem mts_hb (wf : WF O) (hcl : ∀ i, i < len → ((c i : Nat) : Int) < O 0 4) : ∀ n, (∀ j, j < n → thr O c len j ≠ -1) → ∀ o, hb (mts O c len n) o = (decide (0 < n) && anyf (fun i => decide (c i = o)) 0 len) := by
  have hn8 := wf_n wf
  intro n
  induction n with
  | zero => intro _ o; rw [mts, hb_0]; rfl
  | succ n ih =>
    intro hj o
    have hq : qat O true c (qin O (qsv O c len n)) len = len := by
      have := hj n (by omega)
      unfold thr qres at this
      unfold qat
      by_cases d : qfl O true c (qin O (qsv O c len n)) len = -1
      · rw [if_pos d]
      · rw [if_neg d] at this; exact absurd rfl this
    rw [mts, hq, hb_mtn _ _ _ _ (fun i hi => by have := hcl i hi; omega), ih (fun j h => hj j (by omega)) o, decide_eq_true (show 0 < n + 1 by omega), Bool.true_and]
    cases anyf (fun i => decide (c i = o)) 0 len <;> simp
theorem q_chair (b : Bas T A O I) (u : SL I) (a1 : Int) : Quiet2 (f_X11_chair T A 1 a1 I) (fun J => f_X12_chair T A 129 a1 J) I := by
  have b' := b
  obtain ⟨h, wf, hc, hm, g, ht, hnx, k, hq⟩ := b
  have hn8 := wf_n wf
  have pi' : ∀ q v (J : Mem), pi T 12 q 129 v J = some (mu J 129 q v) := fun q v J => by simp only [agMg h]
  have g12 : gr T A 11 12 1 = some 119 := by simp only [agX h]
  have g11 : gr T A 11 11 1 = some 111 := by simp only [agX h]
  unfold f_X11_chair f_X12_chair
  rw [if_pos (show (T 1).1 = 11 by rw [kT_1 h]), g12, g11, c_refusal h wf hc u]
  simp only [if_pos (show (T 129).1 = 12 by rw [kT_129 h]), pi', some_bind]
  obtain ⟨p1, p2, p3, p4, p5⟩ := pre_q b' u (J := I) (fun _ _ _ => rfl)
  by_cases z : rfz O I a1 = 0
  · rw [if_pos z]
    obtain ⟨s, len, c, rfl, hl, r⟩ := rw_of u z
    have hcl : ∀ i, i < len → ((c i : Nat) : Int) < O 0 4 := fun i hi => (r.2.2.2.2 i hi).2.2
    obtain ⟨J, eJ, j1, j2, j3⟩ := c_serve h wf hl hc ht hnx r (n := 9) (by omega)
    obtain ⟨p1, p2, p3, p4, p5⟩ := pre_q b' u (J := J) (fun a b h1 => j3 a b (by omega))
    obtain ⟨K, eK, k1, k2, k3, k4⟩ := m_queues h wf hl p1 (rw_ag (J := mu J 129 0 0) r (fun o k h1 => by rw [mu_o _ _ (by omega)]; exact j3 _ _ (by omega))) (n := 9) (by omega)
    have lc := c_lastThrough (n := 9) h (by omega) j1
    have lm := m_lastOf (n := 9) h (by omega) k1
    have rK : Rw O K s len c := rw_ag (J := K) r (fun o k h1 => by rw [k3 _ _ (by omega) (by omega) (by omega) (by omega) (by omega) (by omega) (by omega), mu_o _ _ (by omega)]; exact j3 _ _ (by omega))
    have hmK : MW O 0 K := mw_ag p1 (fun a b h1 h2 => k3 _ _ (by omega) (by omega) (by omega) (by omega) (by omega) (by omega) (by omega))
    have fxK : FX I K := fx_t p5 (fx_m k3 (by rw [k4, p4]))
    by_cases e : lsv (thr O c len) 9 = -1
    · refine ⟨-1, J, K, ?_, ?_, fxK⟩
      · refine (congrArg (fun o => Option.bind o _) eJ).trans ?_
        rw [some_bind]
        refine (congrArg (fun o => Option.bind o _) lc).trans ?_
        rw [some_bind, if_pos e]
      · dsimp only
        rw [m_whyNot h wf p1 p2, p3, z, some_bind, if_pos rfl]
        refine (congrArg (fun o => Option.bind o _) eK).trans ?_
        rw [some_bind]
        refine (congrArg (fun o => Option.bind o _) lm).trans ?_
        rw [some_bind, if_pos e]
    · have hb9 := mts_hb (c := c) (len := len) wf hcl 9 (all_in e)
      obtain ⟨n, en⟩ := Int.eq_ofNat_of_zero_le hn8.1
      have hl8 : lwv (hb (mts O c len 9)) (qsv O c len 9).2 8 = lwv (fun o => anyf (fun i => decide (c i = o)) 0 len) (qsv O c len 9).2 n := by
        have e8 : (8 : Nat) = n + (8 - n) := by omega
        refine (lwv_ext 8 (fun i hi => hb9 i)).trans ?_
        rw [e8]
        refine (lwv_more (8 - n) (fun i h1 h2 => ?_)).trans ?_
        · try dsimp only
          cases ea : anyf (fun t => decide (c t = i)) 0 len
          · rfl
          · obtain ⟨t, _, t1, t2⟩ := (anyf_iff _ _ _).mp ea
            have t3 := of_decide_eq_true t2
            have := hcl t (by omega)
            omega
        · refine lwv_ext n (fun i hi => ?_)
          try dsimp only
          rw [decide_eq_true (show 0 < 9 by decide), Bool.true_and]
      refine ⟨lwv (hb (mts O c len 9)) (qsv O c len 9).2 8, J, K, ?_, ?_, fxK⟩
      · refine (congrArg (fun o => Option.bind o _) eJ).trans ?_
        rw [some_bind]
        refine (congrArg (fun o => Option.bind o _) lc).trans ?_
        rw [some_bind, if_neg e, c_longest h j2.2.1 j2.2.2, some_bind]
      · dsimp only
        rw [m_whyNot h wf p1 p2, p3, z, some_bind, if_pos rfl]
        refine (congrArg (fun o => Option.bind o _) eK).trans ?_
        rw [some_bind]
        refine (congrArg (fun o => Option.bind o _) lm).trans ?_
        rw [some_bind, if_neg e, show gr T A 12 17 129 = some 136 by simp only [agMg h], show gr T A 12 2 129 = some 131 by simp only [agMg h], show gr T A 12 47 129 = some 152 by simp only [agMg h], hl8]
        refine it_seq (fun i => (lwv (fun o => anyf (fun i => decide (c i = o)) 0 len) (qsv O c len 9).2 i, (i : Int))) n (fun i hi => ?_) ?_ FU (by unfold FU; omega)
        · have hr := lwv_rg (fun o => anyf (fun i => decide (c i = o)) 0 len) (qsv O c len 9).2 i
          try dsimp only
          rw [some_bind, m_h3 h hmK, some_bind, if_pos (by omega)]
          refine ok_eq ?_
          refine ok_tn (it_run (fun t (x : Int × Int) => x.1 = bi (anyf (fun i' => decide (c i' = i)) 0 t) ∧ x.2 = (t : Int)) len ?_ ?_ 0 FU _ (by omega) (by have := r.2.1; unfold FU; omega) ⟨rfl, rfl⟩)
          · rintro t ⟨x1, x2⟩ hi' ⟨rfl, rfl⟩
            try dsimp only
            rw [some_bind, l131 h r.1, rK.2.2.2.1, some_bind, if_pos (by omega), rw_cell h wf rK (fun _ => rfl) hi', some_bind, ia_1 (by have := r.2.1; omega)]
            cases ea : anyf (fun i' => decide (c i' = i)) 0 t
            · rw [if_pos (show bi false = 0 from rfl)]
              by_cases ec : c t = i
              · rw [if_pos (by omega)]
                refine ok_i ⟨?_, rfl⟩
                try dsimp only
                rw [anyf, ea, Nat.zero_add, decide_eq_true ec]; rfl
              · rw [if_neg (by omega)]
                refine ok_i ⟨?_, rfl⟩
                try dsimp only
                rw [anyf, ea, Nat.zero_add, decide_eq_false ec]; rfl
            · rw [if_neg (show ¬ bi true = 0 by decide)]
              refine ok_i ⟨?_, rfl⟩
              try dsimp only
              rw [anyf, ea, Bool.true_or]; rfl
          · rintro ⟨x1, x2⟩ ⟨rfl, rfl⟩
            try dsimp only
            rw [some_bind, l131 h r.1, rK.2.2.2.1, some_bind, if_neg (by omega)]
            refine ok_i ?_
            show OK _ _
            try dsimp only
            rw [lwv, ia_1 (by omega)]
            cases anyf (fun i' => decide (c i' = i)) 0 len
            · rw [if_pos (show bi false = 0 from rfl), if_pos rfl]; exact ok_i rfl
            · rw [if_neg (show ¬ bi true = 0 by decide), if_neg (show ¬ true = false by decide)]
              by_cases c1 : lwv (fun o => anyf (fun i => decide (c i = o)) 0 len) (qsv O c len 9).2 i = -1
              · rw [if_pos c1, if_pos c1]; exact ok_i rfl
              · rw [if_neg c1, if_neg c1, some_bind, ev_ld (kT_152 h), if_pos (by omega), some_bind, some_bind, ev_ld (kT_152 h), if_pos (by omega), some_bind, Int.toNat_natCast, k2 i (by omega), k2 _ (by omega)]
                split <;> exact ok_i rfl
        · try dsimp only
          rw [some_bind, m_h3 h hmK, some_bind, if_neg (by omega)]
  · rw [if_neg z]
    refine ⟨_, I, mu I 129 0 0, rfl, ?_, p5⟩
    dsimp only
    rw [m_whyNot h wf p1 p2, p3, some_bind, if_neg z]
end
