/-! B: a search from where one stands. -/
def rt (W : Wkr) : Wkr := fun k => if k = 2 ∨ k = 3 then 0 else W k
def rtf (W : Wkr) (o : Nat) : Wkr := fun k => if k = 4 + o then 9999 else rt W k
def h0s (O : Ofc) (W : Wkr) : Int := hset O W (W 0).toNat
def LV (O : Ofc) (W : Wkr) : List Lf := lv O 12 W (fun _ => 0) 0 (h0s O W)
/-- whom one could be at in time at all -/
def eo (O : Ofc) (W : Wkr) (i : Nat) : Bool := decide (wlk O W i < 100000) && decide (fst_ (opn O i) (400 - arr O W i) (arr O W i) ≠ -1)
def ose (O : Ofc) (W : Wkr) (s : Int) : Nat → Int
  | 0 => s
  | i + 1 => if eo O W i = true ∧ iand (O 12 i) (ixor (ose O W s i) (-1)) = 0 then ior (ose O W s i) (ishl 1 (i : Int)) else ose O W s i
def osn (O : Ofc) (W : Wkr) (s : Int) : Nat → Int
  | 0 => s
  | r + 1 => ose O W (osn O W s r) (oN O)
section
variable {T : Knd} {A : Rfs} {O : Ofc} {I : Mem} {W : Wkr} {n : Nat} {u : Int} {R : Nat}
theorem rt_l (W : Wkr) (i : Nat) : rt W (4 + i) = W (4 + i) := by unfold rt; rw [if_neg (by omega)]
theorem rt_ws (s : WS O W) : WS O (rt W) := ⟨s.1, s.2.1, fun i => by rw [rt_l]; exact s.2.2 i⟩
theorem rtf_l (W : Wkr) (o i : Nat) : rtf W o (4 + i) = if i = o then 9999 else W (4 + i) := by
  unfold rtf
  by_cases c : i = o
  · rw [if_pos (by omega), if_pos c]
  · rw [if_neg (by omega), if_neg c, rt_l]
theorem rtf_ws (s : WS O W) {o : Nat} (ho : (o : Int) < O 0 4) : WS O (rtf W o) := by
  refine ⟨?_, ?_, fun i => ?_⟩
  · have : rtf W o 0 = W 0 := by unfold rtf rt; rw [if_neg (by omega), if_neg (by omega)]
    rw [this]; exact s.1
  · have : rtf W o 1 = W 1 := by unfold rtf rt; rw [if_neg (by omega), if_neg (by omega)]
    rw [this]; exact s.2.1
  · rw [rtf_l]
    by_cases c : i = o
    · rw [if_pos c]; exact Or.inr ⟨by decide, by omega, Or.inr rfl⟩
    · rw [if_neg c]; exact s.2.2 i
theorem h0_sl (wf : WF O) : sl 8 (h0s O W) := by
  have hn := wf_n wf
  unfold h0s hset
  exact sl_le (sl_sor _ (by omega)) (by omega)
theorem h0_hb (wf : WF O) (s : WS O W) (i : Nat) : hb (h0s O W) i = decide (W 0 ≤ W (4 + i)) := by
  have hn := wf_n wf
  have s0 := s.1
  unfold h0s hset
  rw [hb_sor _ _ (by omega), show (((W 0).toNat : Nat) : Int) = W 0 by omega]
  by_cases c : i < (O 0 4).toNat
  · rw [decide_eq_true c, Bool.true_and]
  · rw [decide_eq_false c, Bool.false_and]
    rcases s.2.2 i with h | h
    · rw [decide_eq_false (by omega)]
    · omega
theorem nd_0 (wf : WF O) (s : WS O W) (h2 : W 2 = 0) (h3 : W 3 = 0) : Nd O W 0 (h0s O W) := by
  refine ⟨s, h0_sl wf, ?_, ?_, ?_⟩
  · have := scn_rg (hb (h0s O W)) 8
    show (0 : Int) ≤ _
    omega
  · rw [h2]; exact ⟨by decide, by decide⟩
  · rw [h3]; exact ⟨by decide, by decide⟩
theorem ose_up (s : Int) : ∀ i j, hb s j = true → hb (ose O W s i) j = true := by
  intro i
  induction i with
  | zero => intro j h; exact h
  | succ i ih =>
    intro j h
    rw [ose]
    split
    · rw [hb_or, ih j h]; rfl
    · exact ih j h
theorem ose_has (s : Int) {i : Nat} (hi : i < 32) (h1 : eo O W i = true) (h2 : ∀ j, hb (O 12 i) j = true → hb s j = true) : ∀ m, i < m → hb (ose O W s m) i = true := by
  intro m
  induction m with
  | zero => intro h; exact absurd h (by omega)
  | succ m ih =>
    intro h
    rw [ose]
    by_cases c : i = m
    · subst c
      rw [if_pos ⟨h1, (an_0 _ _).mpr (fun j hj => ose_up s i j (h2 j hj))⟩, hb_or, hb_shl hi, decide_eq_true rfl, Bool.or_true]
    · have := ih (by omega)
      split
      · rw [hb_or, this]; rfl
      · exact this
theorem osn_up (s : Int) {r q : Nat} (h : r ≤ q) {j : Nat} (hj : hb (osn O W s r) j = true) : hb (osn O W s q) j = true := by
  induction q with
  | zero => rw [show r = 0 by omega] at hj; exact hj
  | succ q ih =>
    by_cases c : r = q + 1
    · subst c; exact hj
    · rw [osn]; exact ose_up _ _ _ (ih (by omega))
/-- no row has another one -/
theorem lv_obt (wf : WF O) (W0 : Wkr) (s0 : WS O W0) (s : Int) : ∀ f W p n u, Nd O W n u → (∀ i, W 0 ≤ W (4 + i) → hb (osn O W0 s n) i = true) → (fw O (W0 1).toNat (W 1).toNat < 100000 ∧ W0 0 + fw O (W0 1).toNat (W 1).toNat ≤ W 0) → ∀ l, l ∈ lv O f W p n u → ∀ i, hb (O 0 5) i = true → hb (osn O W0 s 8) i = true := by
  intro f
  induction f with
  | zero => intro W p n u _ _ _ l hl; rw [lv] at hl; exact absurd hl (by simp)
  | succ f ih =>
    intro W p n u nd hh hw l hl i hi
    rw [lv_s] at hl
    by_cases d : dn O W = true
    · have := (dn_iff wf nd.1).mp d i hi
      exact osn_up s (nd_n nd) (hh i this)
    · rw [if_neg d, List.mem_flatMap] at hl
      obtain ⟨o, ho, hl⟩ := hl
      rw [List.mem_range] at ho
      unfold chl at hl
      by_cases c : mayg O W u o = true
      · rw [if_pos c] at hl
        obtain ⟨hn8, en⟩ := on_le wf
        have hR := wf.2.1
        have g := nd_go wf nd ho c
        have hoo : (o : Int) < O 0 4 := by omega
        have c' := c
        unfold mayg at c'
        rw [Bool.and_eq_true, decide_eq_true_iff] at c'
        have hr := stp_rg wf nd.1 hoo c'.2
        have hwo : WO O o := wf.2.2.2.2.2.2.2.2.1 o hoo
        have hw1 := hwo.1
        have r0 := s0.2.1
        have r1 := nd.1.2.1
        have hs := c'.2
        have hsv : stp O ntk W o = fst_ (okh O ntk W o) (400 - arr O W o) (arr O W o) := by unfold stp; rw [if_neg hr.2.2.2.2, if_pos hr.2.2.2.1]
        rw [hsv] at hs
        obtain ⟨N, e1, n1, n2, n3, n4⟩ := fst_hit rfl hs
        have eN : stp O ntk W o = (N : Int) := by rw [hsv, e1]
        unfold okh at n3
        simp only [Bool.and_eq_true] at n3
        have tri := fw_tri wf 6 (by decide) (W 1).toNat (by omega) (W0 1).toNat (O 3 o).toNat (by omega) (by omega)
        have e6 : ∀ a b, fwk O 6 a b = fw O a b := fun _ _ => rfl
        rw [e6, e6, e6] at tri
        have hwl : wlk O W o = fw O (W 1).toNat (O 3 o).toNat := rfl
        have hwl0 : wlk O W0 o = fw O (W0 1).toNat (O 3 o).toNat := rfl
        have b1 := fw_in wf (x := (W0 1).toNat) (y := (W 1).toNat) (by omega) (by omega)
        have b2 := fw_in wf (x := (W 1).toNat) (y := (O 3 o).toNat) (by omega) (by omega)
        have b3 := fw_in wf (x := (W0 1).toNat) (y := (O 3 o).toNat) (by omega) (by omega)
        have w00 := s0.1
        have w10 := nd.1.1
        have harr : ((arr O W0 o : Nat) : Int) = W0 0 + wlk O W0 o := by unfold arr; omega
        have hE : eo O W0 o = true := by
          unfold eo
          rw [Bool.and_eq_true, decide_eq_true_iff, decide_eq_true_iff]
          refine ⟨by omega, fun q => ?_⟩
          have := fst_no q N (by omega) (by omega)
          rw [n3.1.1] at this
          exact absurd this (by decide)
        have hnd := (ndh_iff wf nd.1 hoo (j := N) (by omega)).mp n3.2.1
        have hnew : hb (osn O W0 s (n + 1)) o = true := by
          rw [osn]
          refine ose_has _ (by omega) hE (fun j hj => hh j ?_) _ ho
          have h1 := hnd j hj
          have h2 := (ev_ge (x := W (4 + j)) (h := (N : Int)) (by omega)).mp h1
          omega
        refine ih _ _ _ _ g.1 (fun j hj => ?_) ?_ l hl i hi
        · rw [goS_l] at hj
          by_cases e : j = o
          · subst e; exact hnew
          · rw [if_neg e] at hj
            exact osn_up s (Nat.le_succ n) (hh j (by omega))
        · have e1' : goS O W o (stp O ntk W o) 1 = O 3 o := rfl
          have e0' : goS O W o (stp O ntk W o) 0 = stp O ntk W o + 1 := rfl
          rw [e1', e0']
          exact ⟨by omega, by omega⟩
      · rw [if_neg c] at hl; exact absurd hl (by simp)
theorem lv_unobt (wf : WF O) (s : WS O W) (h2 : W 2 = 0) (h3 : W 3 = 0) (h : ¬ iand (O 0 5) (ixor (osn O W (h0s O W) 8) (-1)) = 0) : LV O W = [] := by
  have hR := wf.2.1
  have r0 := s.2.1
  by_cases c : LV O W = []
  · exact c
  · exfalso
    apply h
    rw [an_0]
    obtain ⟨l, hl⟩ := List.exists_mem_of_ne_nil _ c
    have b := fw_in wf (x := (W 1).toNat) (y := (W 1).toNat) (by omega) (by omega)
    exact lv_obt wf W s (h0s O W) _ _ _ _ _ (nd_0 wf s h2 h3) (fun i hi => by
      show hb (h0s O W) i = true
      rw [h0_hb wf s]; exact decide_eq_true hi) ⟨by omega, by omega⟩ l hl
theorem c_obtainable (h : Ag T A) (k : Rk T A R) (wf : WF O) (hc : CV O 26 I) (ht : TW O I) (hn : TN O I) (w : CW W (R + 1) I) (s : WS O W) (hh : I R 8 = h0s O W) : f_X5_obtainable T A R I = some (osn O W (h0s O W) 8) := by
  obtain ⟨hn8, en⟩ := on_le wf
  obtain ⟨k0, k1, k2, k3, k4, k5, k6, k7, k8, k9, k10⟩ := rk_ev k
  have wk := k.2.2.2.2.2.2.2.2
  obtain ⟨x0, x1, x2, x3, x4, x5, x6, x7⟩ := wk_ev wk
  have s0 := s.1
  have hl : ∀ {i : Nat}, (i : Int) < O 0 4 → _ := fun {i} hi => wlk_in wf s (o := i) hi
  unfold f_X5_obtainable
  rw [if_pos k0, k7, some_bind, hh]
  refine it_seq (fun r => (osn O W (h0s O W) r, (r : Int))) 8 (fun r hr => ?_) ?_ FU (by decide)
  · dsimp only
    rw [if_pos (by omega), k1]
    have lp := it_seq (step := fun (s8 : Int × Int) => (some (R + 1)).bind fun x11 => (gr T A 10 0 x11).bind fun x12 => (gi T 2 4 x12 I).bind fun x13 => if s8.2 < x13 then (some (R + 1)).bind fun x15 => (f_X10_arrival T A x15 s8.2 I).bind fun e16 => thn (thn (if e16 = (-1) then some (.inl ()) else (some (R + 1)).bind fun x24 => (gr T A 10 1 x24).bind fun x25 => (f_X9_firstOpen T A x25 s8.2 e16 I).bind fun e26 => if e26 = (-1) then some (.inl ()) else some (.inr (.inl 1))) (fun (v23 : Unit) => some (.inl 0))) (fun (v20 : Int) => if v20 = 0 then some (.inl (s8.1, ia s8.2 1)) else (some (R + 1)).bind fun x29 => (gr T A 10 0 x29).bind fun x30 => (gr T A 2 8 x30).bind fun x31 => (lr T A 24 x31 9).bind fun x32 => (ld T 20 x32 s8.2 I).bind fun x33 => if (iand x33 (ixor s8.1 (-1))) = 0 then some (.inl (ior s8.1 (ishl 1 s8.2), ia s8.2 1)) else some (.inl (s8.1, ia s8.2 1))) else (some (.inr (.inl (s8.1, ia (r : Int) 1))) : Option ((Int × Int) ⊕ ((Int × Int) ⊕ Int)))) (fun i => (ose O W (osn O W (h0s O W) r) i, (i : Int))) (oN O) (r := .inl (osn O W (h0s O W) (r + 1), ((r + 1 : Nat) : Int))) (fun i hi => ?_) ?_ FU (by unfold FU; omega)
    · exact lp
    · try dsimp only
      have hio : (i : Int) < O 0 4 := by omega
      have hl' := wlk_in wf s hio
      rw [some_bind, x1, some_bind, show gi T 2 4 26 I = some (I 26 4) by simp only [agPl h], some_bind, cv_n hc, if_pos hio, some_bind, c_arrival h wk wf hc ht w s hio, some_bind, ia_1 (by omega), ose]
      have inner : (thn (if (if wlk O W i < 100000 then W 0 + wlk O W i else -1) = (-1) then some (.inl ()) else (some (R + 1)).bind fun x24 => (gr T A 10 1 x24).bind fun x25 => (f_X9_firstOpen T A x25 (i : Int) (if wlk O W i < 100000 then W 0 + wlk O W i else -1) I).bind fun e26 => if e26 = (-1) then some (.inl ()) else some (.inr (.inl 1)) : Option (Unit ⊕ (Int ⊕ ((Int × Int) ⊕ ((Int × Int) ⊕ Int))))) (fun (v23 : Unit) => some (.inl 0))) = some (.inl (if eo O W i = true then 1 else 0)) := by
        unfold eo
        by_cases c : wlk O W i < 100000
        · have ha : W 0 + wlk O W i = ((arr O W i : Nat) : Int) := by unfold arr; omega
          rw [if_pos c, if_neg (by omega), some_bind, x2, some_bind, ha, c_firstOpen h wf hn hio, some_bind, decide_eq_true c, Bool.true_and]
          by_cases q : fst_ (opn O i) (400 - arr O W i) (arr O W i) = -1
          · rw [if_pos q, thn_l, if_neg (by rw [decide_eq_false (fun z => z q)]; decide)]
          · rw [if_neg q, thn_r, if_pos (decide_eq_true q)]
        · rw [if_neg c, if_pos rfl, thn_l, decide_eq_false c]; rfl
      refine (congrArg (fun o => thn o _) inner).trans ?_
      rw [thn_l]
      by_cases c : eo O W i = true
      · rw [if_pos c, if_neg (by decide), some_bind, x1, some_bind, pg h, some_bind, c_r9 h, some_bind, c_t9 h wf hc hio, some_bind]
        by_cases q : iand (O 12 i) (ixor (ose O W (osn O W (h0s O W) r) i) (-1)) = 0
        · rw [if_pos q, if_pos ⟨c, q⟩]
        · rw [if_neg q, if_neg (fun z => q z.2)]
      · rw [if_neg c, if_pos rfl, if_neg (fun z => c z.1)]
    · try dsimp only
      rw [some_bind, x1, some_bind, show gi T 2 4 26 I = some (I 26 4) by simp only [agPl h], some_bind, cv_n hc, if_neg (by omega), ia_1 (by omega)]
      rfl
  · dsimp only
    rw [if_neg (by decide)]
theorem c_joins (h : Ag T A) {w1 w2 : Nat} (k1 : Wk T A w1) (k2 : Wk T A w2) (hne : w1 ≠ w2 ∧ w1 + 1 ≠ w2 ∧ w1 ≠ w2 + 1) (c : CW W w1 I) : OK (f_X10_joins T A w2 w1 I) (fun J => Fo w2 (w2 + 1) I J ∧ CW (rt W) w2 J) := by
  obtain ⟨⟨e0, e1, e2, e3⟩, e4⟩ := c
  unfold f_X10_joins
  rw [if_pos (wk_ev k2).1, (wk_ev k1).2.2.2.2.1, some_bind, (wk_ev k2).2.2.2.2.2.1, some_bind, (wk_ev k1).2.2.2.2.1, some_bind, (wk_ev k2).2.2.2.2.2.1, some_bind, (wk_ev k2).2.2.2.2.2.1, some_bind, (wk_ev k2).2.2.2.2.2.1, some_bind, (wk_ev k1).2.2.2.1, some_bind, (wk_ev k2).2.2.2.1, some_bind]
  unfold acp
  rw [k1.2.1, k2.2.1, if_pos (by decide), some_bind]
  have z8 : (0 : Int).toNat = 0 ∧ (8 : Int).toNat = 8 := ⟨rfl, rfl⟩
  rw [z8.1, z8.2, mu_o I _ (by omega), e0, e1]
  refine ok_i ⟨fun o j ho => ?_, ⟨?_, ?_, ?_, ?_⟩, fun o ho => ?_⟩
  · dsimp only
    rw [if_neg (by omega), mu_o _ _ (by omega), mu_o _ _ (by omega), mu_o _ _ (by omega), mu_o _ _ (by omega)]
  · dsimp only
    rw [if_neg (by omega), mu_o _ _ (by omega), mu_o _ _ (by omega), mu_o _ _ (by omega), mu_s]; rfl
  · dsimp only
    rw [if_neg (by omega), mu_o _ _ (by omega), mu_o _ _ (by omega), mu_s]; rfl
  · dsimp only
    rw [if_neg (by omega), mu_o _ _ (by omega), mu_s]; rfl
  · dsimp only
    rw [if_neg (by omega), mu_s]; rfl
  · dsimp only
    rw [if_pos (by omega), show 0 + (o - 0) = o by omega, mu_o _ _ (by omega), mu_o _ _ (by omega), mu_o _ _ (by omega), mu_o _ _ (by omega), e4 o ho, rt_l]
/-- what one searches from, a stamp of it forged -/
def rts (W : Wkr) (a : Int) : Wkr := if 0 ≤ a then rtf W a.toNat else rt W
theorem rts_ws (s : WS O W) {a : Int} (ha : a < O 0 4) : WS O (rts W a) := by
  unfold rts
  by_cases c : 0 ≤ a
  · rw [if_pos c]; exact rtf_ws s (by omega)
  · rw [if_neg c]; exact rt_ws s
theorem rts_2 (W : Wkr) (a : Int) : rts W a 2 = 0 ∧ rts W a 3 = 0 ∧ rts W a 0 = W 0 := by
  unfold rts
  by_cases c : 0 ≤ a
  · rw [if_pos c]; unfold rtf rt; refine ⟨?_, ?_, ?_⟩ <;> rw [if_neg (by omega)] <;> rfl
  · rw [if_neg c]; exact ⟨rfl, rfl, rfl⟩
theorem c_search (h : Ag T A) (k : Rk T A R) (hR : 65 < R) (wf : WF O) {w1 : Nat} (kw : Wk T A w1) (hw1 : w1 + 1 < R) (hc : CV O 26 I) (ht : TW O I) (hn : TN O I) (c : CW W w1 I) (s : WS O W) {a al : Int} (ha : a < O 0 4) (hal : al = 0 ∨ al = 1) : OK (f_X5_search T A R w1 a al I) (fun J => (∃ V, RC R (h0s O (rts W a)) V J ∧ Sim al V (LV O (rts W a))) ∧ J R 6 = 1 ∧ ∀ o j, (o < R ∨ R + 10 < o) → J o j = I o j) := by
  have hn8 := wf_n wf
  obtain ⟨k0, k1, k2, k3, k4, k5, k6, k7, k8, k9, k10⟩ := rk_ev k
  have wk := k.2.2.2.2.2.2.2.2
  obtain ⟨x0, x1, x2, x3, x4, x5, x6, x7⟩ := wk_ev wk
  have s' := rts_ws s ha
  have z2 := rts_2 W a
  unfold f_X5_search
  rw [if_pos k0, k1, some_bind]
  refine ok_b (ok_m (c_joins h kw wk ⟨by omega, by omega, by omega⟩ c) (fun J1 hJ1 => ?_))
  refine ok_tn (ok_m (P := fun z => match z with | .inl J => Fo (R + 1) (R + 2) I J ∧ CW (rts W a) (R + 1) J | .inr _ => False) ?_ ?_)
  · by_cases ca : a < 0
    · rw [if_pos ca]
      refine ok_i ⟨hJ1.1, ?_⟩
      unfold rts
      rw [if_neg (by omega)]
      exact hJ1.2
    · rw [if_neg ca, if_pos (by omega), some_bind, x3, some_bind, x7, if_pos (by omega), some_bind]
      refine ok_i ⟨fo_mu hJ1.1 (by omega) (by omega), ?_⟩
      unfold rts
      rw [if_pos (by omega)]
      obtain ⟨⟨e0, e1, e2, e3⟩, e4⟩ := hJ1.2
      have r0 : ∀ q, q < 4 → rtf W a.toNat q = rt W q := fun q hq => by unfold rtf; rw [if_neg (by omega)]
      refine ⟨⟨by rw [mu_o _ _ (by omega), r0 _ (by omega)]; exact e0, by rw [mu_o _ _ (by omega), r0 _ (by omega)]; exact e1, by rw [mu_o _ _ (by omega), r0 _ (by omega)]; exact e2, by rw [mu_o _ _ (by omega), r0 _ (by omega)]; exact e3⟩, fun o ho => ?_⟩
      rw [rtf_l]
      by_cases q : o = a.toNat
      · rw [if_pos q, q, mu_s]; rfl
      · rw [if_neg q, mu_o _ _ (by omega), e4 o ho, rt_l]
  · rintro (J2 | x) hJ2
    · obtain ⟨f2, w2⟩ := hJ2
      show OK _ _
      dsimp only
      have pzl : pz T 5 7 R al J2 = some (mu J2 R 7 al) := by
        rcases hal with e | e
        · rw [e, k9]
        · rw [e, k10]
      have w3 : ∀ v, CW (rts W a) (R + 1) (mu J2 R 7 v) := fun v => cw_ag w2 (fun o j ho => mu_o _ _ (by omega))
      rw [pzl, some_bind]
      simp only [some_bind]
      rw [c_holding wk wf (w3 al) s', some_bind, k8, some_bind, k7, some_bind, k8, some_bind, k8, some_bind, k8, some_bind, k8, some_bind, k8, some_bind, x1, some_bind, show ∀ J : Mem, gi T 2 5 26 J = some (J 26 5) from fun J => by simp only [agPl h], some_bind]
      have eh : hset O (rts W a) (rts W a 0).toNat = h0s O (rts W a) := rfl
      rw [eh, mu_s]
      obtain ⟨h0, eh0⟩ : ∃ h0, h0 = h0s O (rts W a) := ⟨_, rfl⟩
      rw [← eh0]
      obtain ⟨J, eJ⟩ : ∃ J, J = mu (mu (mu (mu (mu (mu (mu J2 R 7 al) R 8 h0) R 9 h0) R 10 0) R 11 (-1)) R 12 0) R 13 0 := ⟨_, rfl⟩
      rw [← eJ]
      have agJ : ∀ o j, o ≠ R → J o j = J2 o j := fun o j ho => by rw [eJ, mu_o _ _ (by omega), mu_o _ _ (by omega), mu_o _ _ (by omega), mu_o _ _ (by omega), mu_o _ _ (by omega), mu_o _ _ (by omega), mu_o _ _ (by omega)]
      have j7 : J R 7 = al := by rw [eJ, mu_o _ _ (by omega), mu_o _ _ (by omega), mu_o _ _ (by omega), mu_o _ _ (by omega), mu_o _ _ (by omega), mu_o _ _ (by omega), mu_s]
      have j8 : J R 8 = h0 := by rw [eJ, mu_o _ _ (by omega), mu_o _ _ (by omega), mu_o _ _ (by omega), mu_o _ _ (by omega), mu_o _ _ (by omega), mu_s]
      have j9 : J R 9 = h0 := by rw [eJ, mu_o _ _ (by omega), mu_o _ _ (by omega), mu_o _ _ (by omega), mu_o _ _ (by omega), mu_s]
      have j10 : J R 10 = 0 := by rw [eJ, mu_o _ _ (by omega), mu_o _ _ (by omega), mu_o _ _ (by omega), mu_s]
      have j11 : J R 11 = -1 := by rw [eJ, mu_o _ _ (by omega), mu_o _ _ (by omega), mu_s]
      have j12 : J R 12 = 0 := by rw [eJ, mu_o _ _ (by omega), mu_s]
      have j13 : J R 13 = 0 := by rw [eJ, mu_s]
      have agI : ∀ o j, (o < R ∨ R + 10 < o) → J o j = I o j := fun o j ho => by rw [agJ _ _ (by omega), f2 _ _ (by omega)]
      have hcJ : CV O 26 J := cv_ag hc (fun o j h1 h2 => agI o j (by omega))
      have htJ : TW O J := tw_ag wf ht (fun o j h1 h2 => agI o j (by omega))
      have hnJ : TN O J := tn_ag wf hn (fun o j h1 h2 => agI o j (by omega))
      have wJ : CW (rts W a) (R + 1) J := cw_ag w2 (fun o j ho => agJ o j (by omega))
      have rc0 : RC R h0 [] J := ⟨j10, fun a _ m hm => absurd hm (by simp [bl]), fun m hm => absurd hm (by simp [bl]), fun m hm => absurd hm (by simp [bl]), fun _ => ⟨j11, j12⟩, fun q => absurd rfl q, j13⟩
      rw [cv_permit hcJ, c_obtainable h k wf hcJ htJ hnJ wJ s' (by rw [j8, eh0]), some_bind]
      have fin : ∀ (X : Mem) (V : List Lf), RC R h0 V X → Sim al V (LV O (rts W a)) → (∀ o j, (o < R ∨ R + 10 < o) → X o j = I o j) → OK ((pz T 5 6 R 1 X).bind fun I33 => some I33) (fun J => (∃ V, RC R h0 V J ∧ Sim al V (LV O (rts W a))) ∧ J R 6 = 1 ∧ ∀ o j, (o < R ∨ R + 10 < o) → J o j = I o j) := fun X V r sm ag => by
        rw [k10, some_bind]
        obtain ⟨r1, r2, r3, r4, r5, r6, r7⟩ := r
        refine ok_i ⟨⟨V, ⟨by rw [mu_o _ _ (by omega)]; exact r1, fun a ha => ra_ag (r2 a ha) (fun o j ho => mu_o _ _ (by omega)), fun m hm o ho => by rw [mu_o _ _ (by omega)]; exact r3 m hm o ho, fun m hm => by rw [mu_o _ _ (by omega)]; exact r4 m hm, fun z => by rw [mu_o _ _ (by omega), mu_o _ _ (by omega)]; exact r5 z, fun z => by rw [mu_o _ _ (by omega)]; exact r6 z, by rw [mu_o _ _ (by omega)]; exact r7⟩, sm⟩, by rw [mu_s], fun o j ho => by rw [mu_o _ _ (by omega)]; exact ag o j ho⟩
      by_cases q : iand (O 0 5) (ixor (osn O (rts W a) (h0s O (rts W a)) 8) (-1)) = 0
      · rw [if_pos q]
        refine ok_tn (ok_m (P := fun z => match z with | .inl X => ∃ V, RC R h0 V X ∧ Sim al V (LV O (rts W a)) ∧ ∀ o j, (o < R ∨ R + 10 < o) → X o j = I o j | .inr _ => False) ?_ ?_)
        · have nd := nd_0 wf s' z2.1 z2.2.1
          rw [← eh0] at nd
          refine ok_b (ok_m (c_follow (al := al) h k hR wf 12 (rts W a) (fun _ => 0) 0 h0 [] [] J (by decide) nd hcJ htJ hnJ wJ j7 j8 j9 (fun t ht => absurd ht (by omega)) rc0 ⟨fun _ => rfl, rfl, Nat.le_refl _⟩ (by decide)) (fun X hX => ?_))
          obtain ⟨V, v1, v2, v3, v4, v5, v6⟩ := hX
          refine ok_i ⟨V, v1, ?_, fun o j ho => by rw [v6 _ _ (by omega)]; exact agI o j ho⟩
          rw [List.nil_append] at v2
          unfold LV
          rw [← eh0]; exact v2
        · rintro (X | x) hX
          · obtain ⟨V, v1, v2, v3⟩ := hX
            exact fin X V v1 v2 v3
          · exact hX.elim
      · rw [if_neg q, thn_l]
        have e := lv_unobt wf s' z2.1 z2.2.1 q
        exact fin J [] rc0 (by rw [e]; exact ⟨fun _ => rfl, rfl, Nat.le_refl _⟩) agI
    · exact hJ2.elim
end
