/-! B: those who go one behind the other. -/
abbrev QS : Type := Wkr × (Nat → Nat → Bool) × (Nat → Int)
def tkp (tk : Nat → Nat → Bool) (o h : Nat) : Nat → Nat → Bool := fun x y => tk x y || (decide (x = o) && decide (y = h))
def wtp (wt : Nat → Int) (o : Nat) (v : Int) : Nat → Int := fun x => if x = o then ia (wt x) v else wt x
def qstp (O : Ofc) (m : Bool) (q : QS) (o : Nat) : QS := (goS O q.1 o (stp O q.2.1 q.1 o), (if m then tkp q.2.1 o (stp O q.2.1 q.1 o).toNat else q.2.1), wtp q.2.2 o (stp O q.2.1 q.1 o - q.1 0 - wlk O q.1 o))
def qrn (O : Ofc) (m : Bool) (c : Nat → Nat) (q : QS) : Nat → QS
  | 0 => q
  | i + 1 => qstp O m (qrn O m c q i) (c i)
def qbad (O : Ofc) (m : Bool) (c : Nat → Nat) (q : QS) (i : Nat) : Bool := decide (stp O (qrn O m c q i).2.1 (qrn O m c q i).1 (c i) = -1)
def qfl (O : Ofc) (m : Bool) (c : Nat → Nat) (q : QS) (len : Nat) : Int := fst_ (qbad O m c q) len 0
def qres (O : Ofc) (m : Bool) (c : Nat → Nat) (q : QS) (len : Nat) : Int := if qfl O m c q len = -1 then (qrn O m c q len).1 0 else -1
def qat (O : Ofc) (m : Bool) (c : Nat → Nat) (q : QS) (len : Nat) : Nat := if qfl O m c q len = -1 then len else (qfl O m c q len).toNat
def mtn (c : Nat → Nat) (m : Int) : Nat → Int
  | 0 => m
  | i + 1 => ior (mtn c m i) (ishl 1 ((c i : Nat) : Int))
def QC (tk : Nat → Nat → Bool) (wt : Nat → Int) (mt : Int) (I : Mem) : Prop := (∀ o h, o < 8 → h < 400 → hb (I 122 h) o = tk o h) ∧ (∀ o, o < 8 → I 124 o = wt o) ∧ I 119 4 = mt
section
variable {T : Knd} {A : Rfs} {O : Ofc} {I : Mem} {W : Wkr} {tk : Nat → Nat → Bool} {wt : Nat → Int} {mt : Int} {c : Nat → Nat} {len : Nat}
theorem q119 (h : Ag T A) : (T 119).1 = 3 ∧ gr T A 3 0 119 = some 120 ∧ gr T A 3 1 119 = some 122 ∧ gr T A 3 2 119 = some 123 ∧ gr T A 3 3 119 = some 124 ∧ (∀ k I, gi T 3 k 119 I = some (I 119 k)) ∧ (∀ k v I, pi T 3 k 119 v I = some (mu I 119 k v)) := by
  refine ⟨by rw [kT_119 h], ?_, ?_, ?_, ?_, fun k I => ?_, fun k v I => ?_⟩
  · exact ev_gr (kT_119 h) rfl (kA h (by decide +kernel)) (by decide)
  · exact ev_gr (kT_119 h) rfl (kA h (by decide +kernel)) (by decide)
  · exact ev_gr (kT_119 h) rfl (kA h (by decide +kernel)) (by decide)
  · exact ev_gr (kT_119 h) rfl (kA h (by decide +kernel)) (by decide)
  · exact ev_gi (kT_119 h) rfl k I
  · exact ev_pi (kT_119 h) rfl k v I
theorem c_firstFree (h : Ag T A) (wf : WF O) (hn : TN O I) (qc : QC tk wt mt I) {o : Nat} (ho : (o : Int) < O 0 4) (u : Nat) : f_X3_firstFree T A 119 (o : Int) (u : Int) I = some (fst_ (fun j => opn O o j && !tk o j) (400 - u) u) := by
  have hn8 := wf_n wf
  obtain ⟨k0, k1, k2, k3, k4, k5, k6⟩ := q119 h
  have wk := wk_120 h
  have x2 := (wk_ev wk).2.2.1
  obtain ⟨r, er⟩ : ∃ r, r = fst_ (fun j => opn O o j && !tk o j) (400 - u) u := ⟨_, rfl⟩
  rw [← er]
  unfold f_X3_firstFree
  rw [if_pos k0, k1, some_bind, x2, some_bind, c_firstOpen h wf hn ho u, some_bind, k2]
  have key : OK (it (fun (s7 : Int × Int) => if s7.2 < 400 then (f_X11_isHour T A s7.1 I).bind fun e10 => if e10 = 0 then some (.inr s7.1) else (some 122).bind fun x13 => (ld T 20 x13 s7.1 I).bind fun x14 => (f_X11_hasBit T A x14 (o : Int) I).bind fun e16 => if e16 = 0 then some (.inr s7.1) else (some 120).bind fun x19 => (gr T A 10 1 x19).bind fun x20 => (f_X9_firstOpen T A x20 (o : Int) (ia s7.1 1) I).bind fun e21 => some (.inl (e21, ia s7.2 1)) else some (.inr s7.1)) FU (fst_ (opn O o) (400 - u) u, 0)) (fun z => z = r) := by
    refine it_run (fun i (s : Int × Int) => s.2 = (i : Int) ∧ ∃ y : Nat, u + i ≤ y ∧ s.1 = fst_ (opn O o) (400 - y) y ∧ ∀ j, u ≤ j → j < y → (opn O o j && !tk o j) = false) 400 ?_ ?_ 0 FU _ (by decide) (by decide) ⟨rfl, u, by omega, rfl, fun j h1 h2 => absurd h1 (by omega)⟩
    · rintro i ⟨s1, s2⟩ hi ⟨rfl, y, y1, y2, y3⟩
      try dsimp only at y1 y2 y3 ⊢
      subst y2
      rw [if_pos (by omega), f_isHour, some_bind]
      by_cases q : fst_ (opn O o) (400 - y) y = -1
      · rw [q, if_neg (show ¬ (0 ≤ (-1 : Int) ∧ (-1 : Int) ≤ 399) by decide), if_pos rfl]
        refine ok_i ?_
        rw [er]
        refine (fst_none (fun j h1 h2 => ?_)).symm
        rcases Nat.lt_or_ge j y with h3 | h3
        · exact y3 j h1 h3
        · rw [fst_no q j h3 (by omega)]; rfl
      · obtain ⟨N, e1, n1, n2, n3, n4⟩ := fst_hit rfl q
        rw [e1, if_pos (show 0 ≤ (N : Int) ∧ (N : Int) ≤ 399 by omega), if_neg (by decide), some_bind, ev_ld (kT_122 h), if_pos (by omega), some_bind, Int.toNat_natCast, f_hasBit (by omega), some_bind, qc.1 o N (by omega) (by omega)]
        cases ht : tk o N
        · rw [if_pos (show (if false = true then (1 : Int) else 0) = 0 from rfl)]
          refine ok_i ?_
          rw [er]
          refine (fst_is (by omega) (by omega) (by (try dsimp only); rw [n3, ht]; rfl) (fun j h1 h2 => ?_)).symm
          try dsimp only
          rcases Nat.lt_or_ge j y with h3 | h3
          · exact y3 j h1 h3
          · rw [n4 j h3 h2]; rfl
        · rw [if_neg (show ¬ (if true = true then (1 : Int) else 0) = 0 by decide), some_bind, x2, some_bind, ia_1 (by omega), c_firstOpen h wf hn ho (N + 1), some_bind, ia_1 (by omega)]
          refine ok_i ⟨rfl, N + 1, by omega, rfl, fun j h1 h2 => ?_⟩
          by_cases h3 : j = N
          · subst h3; rw [ht]; simp
          · rcases Nat.lt_or_ge j y with h4 | h4
            · exact y3 j h1 h4
            · rw [n4 j h4 (by omega)]; rfl
    · rintro ⟨s1, s2⟩ ⟨rfl, y, y1, y2, y3⟩
      try dsimp only at y1 y2 y3 ⊢
      rw [if_neg (by decide)]
      refine ok_i ?_
      rw [y2, show 400 - y = 0 by omega, er]
      refine (fst_none (fun j h1 h2 => y3 j h1 (by omega))).symm
  obtain ⟨z, e1, e2⟩ := key
  refine e1.trans ?_
  rw [e2]
theorem c_goTo (h : Ag T A) (wf : WF O) (hc : CV O 26 I) (ht : TW O I) (hn : TN O I) (w : CW W 120 I) (s : WS O W) (qc : QC tk wt mt I) {o : Nat} (ho : (o : Int) < O 0 4) : OK (f_X3_goTo T A 119 (o : Int) I) (fun z => (stp O tk W o = -1 → z = (0, I)) ∧ (stp O tk W o ≠ -1 → z.1 = 1 ∧ CW (goS O W o (stp O tk W o)) 120 z.2 ∧ QC (tkp tk o (stp O tk W o).toNat) (wtp wt o (stp O tk W o - W 0 - wlk O W o)) (ior mt (ishl 1 (o : Int))) z.2 ∧ ∀ a b, (a < 119 ∨ a = 123 ∨ 124 < a) → z.2 a b = I a b)) := by
  have hn8 := wf_n wf
  obtain ⟨k0, k1, k2, k3, k4, k5, k6⟩ := q119 h
  have wk := wk_120 h
  have s0 := s.1
  have hl := wlk_in wf s ho
  unfold f_X3_goTo
  rw [if_pos k0, k1, some_bind, c_arrival h wk wf hc ht w s ho, some_bind]
  have hstp : stp O tk W o = if W 0 ≤ W (4 + o) then -1 else if wlk O W o < 100000 then fst_ (okh O tk W o) (400 - arr O W o) (arr O W o) else -1 := rfl
  by_cases c2 : wlk O W o < 100000
  · rw [if_pos c2, if_neg (by omega), some_bind, c_holds wk w s (by omega), some_bind]
    by_cases c1 : W 0 ≤ W (4 + o)
    · rw [if_pos c1, if_neg (by decide)]
      rw [if_pos c1] at hstp
      exact ok_i ⟨fun _ => rfl, fun q => absurd hstp q⟩
    · rw [if_neg c1, if_pos rfl, some_bind]
      rw [if_neg c1, if_pos c2] at hstp
      have ha : W 0 + wlk O W o = ((arr O W o : Nat) : Int) := by unfold arr; omega
      rw [ha]
      obtain ⟨u, eu, hu⟩ := c_unbarred h wk wf hc w s ho ((arr O W o : Nat) : Int)
      obtain ⟨v, evv, hv⟩ := c_supported h wk wf hc w s ho
      have hu0 : 0 ≤ u := by
        have := (hu u).mp (Int.le_refl _)
        omega
      obtain ⟨u', rfl⟩ := Int.eq_ofNat_of_zero_le hu0
      have cl := closed (tk := tk) wf s ho hu hv
      rw [← hstp] at cl
      rw [eu, some_bind, c_firstFree h wf hn qc ho u', some_bind]
      by_cases q1 : fst_ (fun j => opn O o j && !tk o j) (400 - u') u' = -1
      · rw [if_pos q1]
        rw [q1] at cl
        have : stp O tk W o = -1 := by rw [← cl]; split <;> rfl
        exact ok_i ⟨fun _ => rfl, fun q => absurd this q⟩
      · rw [if_neg q1, some_bind, evv, some_bind]
        by_cases q2 : fst_ (fun j => opn O o j && !tk o j) (400 - u') u' ≤ v
        · rw [if_pos q2] at cl
          rw [if_pos q2, cl]
          rw [cl] at q1
          have hr := stp_rg wf s ho q1
          obtain ⟨x, ex⟩ := Int.eq_ofNat_of_zero_le (show 0 ≤ stp O tk W o by omega)
          rw [k4, some_bind, ev_ld (kT_124 h), if_pos (by omega), some_bind, ev_sto (kT_124 h), if_pos (by omega), some_bind, k5, some_bind, k6, some_bind, k2, some_bind, ex, ev_ld (kT_122 h), if_pos (by omega), some_bind, ev_sto (kT_122 h), if_pos (by omega), some_bind, Int.toNat_natCast, Int.toNat_natCast, some_bind]
          obtain ⟨M, eM⟩ : ∃ M, M = mu (mu (mu I 124 o (ia (I 124 o) (isb (x : Int) ((arr O W o : Nat) : Int)))) 119 4 (ior (mu I 124 o (ia (I 124 o) (isb (x : Int) ((arr O W o : Nat) : Int))) 119 4) (ishl 1 (o : Int)))) 122 x (ior (mu (mu I 124 o (ia (I 124 o) (isb (x : Int) ((arr O W o : Nat) : Int)))) 119 4 (ior (mu I 124 o (ia (I 124 o) (isb (x : Int) ((arr O W o : Nat) : Int))) 119 4) (ishl 1 (o : Int))) 122 x) (ishl 1 (o : Int))) := ⟨_, rfl⟩
          rw [← eM]
          have agM : ∀ a b, a ≠ 119 → a ≠ 122 → a ≠ 124 → M a b = I a b := fun a b h1 h2 h3 => by rw [eM, mu_o _ _ (by omega), mu_o _ _ (by omega), mu_o _ _ (by omega)]
          refine ok_b (ok_m (c_stampIn h wk (by decide) wf (cv_ag hc (fun a b h1 h2 => agM a b (by omega) (by omega) (by omega))) (tw_ag wf ht (fun a b h1 h2 => agM a b (by omega) (by omega) (by omega))) (cw_ag w (fun a b h1 => agM a b (by omega) (by omega) (by omega))) s ho c2 (x := (x : Int)) (by omega) (by omega)) (fun Z hZ => ?_))
          obtain ⟨z1, z2⟩ := hZ
          refine ok_i ⟨fun q => absurd q (by omega), fun _ => ⟨rfl, z2, ⟨fun p y hp hy => ?_, fun p hp => ?_, ?_⟩, fun a b hab => by (try dsimp only); rw [z1 _ _ (by omega), agM _ _ (by omega) (by omega) (by omega)]⟩⟩
          · try dsimp only
            rw [z1 _ _ (by omega), eM]
            unfold tkp
            try rw [Int.toNat_natCast]
            by_cases e : y = x
            · subst e
              rw [mu_s, hb_or, mu_o _ _ (by omega), mu_o _ _ (by omega), qc.1 p y hp hy, hb_shl (by omega), decide_eq_true (rfl : y = y), Bool.and_true]
            · rw [mu_o _ _ (by omega), mu_o _ _ (by omega), mu_o _ _ (by omega), qc.1 p y hp hy, decide_eq_false e, Bool.and_false, Bool.or_false]
          · try dsimp only
            rw [z1 _ _ (by omega), eM, mu_o _ _ (by omega), mu_o _ _ (by omega)]
            unfold wtp
            by_cases e : p = o
            · subst e
              rw [mu_s, if_pos rfl, qc.2.1 p hp, isb_eq (by omega) (by omega), show (x : Int) - ((arr O W p : Nat) : Int) = (x : Int) - W 0 - wlk O W p by omega]
            · rw [mu_o _ _ (by omega), if_neg e, qc.2.1 p hp]
          · try dsimp only
            rw [z1 _ _ (by omega), eM, mu_o _ _ (by omega), mu_s, mu_o _ _ (by omega), qc.2.2]
        · rw [if_neg q2]
          rw [if_neg q2] at cl
          exact ok_i ⟨fun _ => rfl, fun q => absurd cl.symm q⟩
  · rw [if_neg c2, if_pos rfl]
    have : stp O tk W o = -1 := by rw [hstp, if_neg c2]; split <;> rfl
    exact ok_i ⟨fun _ => rfl, fun q => absurd this q⟩
end
