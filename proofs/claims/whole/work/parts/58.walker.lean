/-! B: one who goes: W 0 the hour, W 1 the room, W 2 walked, W 3 paid, W (4 + o) the last hour in which o's stamp is held (-1 none, 9999 for ever). -/
abbrev Wkr : Type := Nat → Int
def st0 (O : Ofc) (h : Int) : Wkr := fun k => if k = 0 then h else if k = 1 then O 0 2 else if k < 4 then 0 else -1
def ev (x : Int) : Int := if x = 9999 then 1000000 else x
def CW (W : Wkr) (w : Nat) (I : Mem) : Prop := (I w 3 = W 0 ∧ I w 4 = W 1 ∧ I w 5 = W 2 ∧ I w 6 = W 3) ∧ ∀ o, o < 8 → I (w + 1) o = ev (W (4 + o))
def MWk (W : Wkr) (I : Mem) : Prop := (I 129 25 = W 0 ∧ I 129 26 = W 1 ∧ I 129 27 = W 2 ∧ I 129 28 = W 3) ∧ ∀ o, o < 8 → I 144 o = W (4 + o)
def WS (O : Ofc) (W : Wkr) : Prop := (0 ≤ W 0 ∧ W 0 ≤ 400) ∧ (0 ≤ W 1 ∧ W 1 < O 0 1) ∧ ∀ i : Nat, W (4 + i) = -1 ∨ (0 ≤ W (4 + i) ∧ (i : Int) < O 0 4 ∧ (W (4 + i) ≤ 599 ∨ W (4 + i) = 9999))
def TK (tk : Nat → Nat → Bool) (I : Mem) : Prop := (I 129 31 = 0 ∧ ∀ o h, tk o h = false) ∨ (I 129 31 = 1 ∧ ∀ o h, o < 8 → h < 400 → I 145 (400 * o + h) = if tk o h then 1 else 0)
def ntk : Nat → Nat → Bool := fun _ _ => false
def wlk (O : Ofc) (W : Wkr) (o : Nat) : Int := fw O (W 1).toNat (O 3 o).toNat
def hset (O : Ofc) (W : Wkr) (h : Nat) : Int := sor (fun i => decide ((h : Int) ≤ W (4 + i))) (O 0 4).toNat
def ndh (O : Ofc) (W : Wkr) (o h : Nat) : Bool := decide (iand (O 12 o) (ixor (hset O W h) (-1)) = 0)
def brh (O : Ofc) (W : Wkr) (o h : Nat) : Bool := decide (iand (O 13 o) (hset O W h) = 0)
def okh (O : Ofc) (tk : Nat → Nat → Bool) (W : Wkr) (o h : Nat) : Bool := (opn O o h && !tk o h) && (ndh O W o h && brh O W o h)
def arr (O : Ofc) (W : Wkr) (o : Nat) : Nat := (W 0 + wlk O W o).toNat
def stp (O : Ofc) (tk : Nat → Nat → Bool) (W : Wkr) (o : Nat) : Int := if W 0 ≤ W (4 + o) then -1 else if wlk O W o < 100000 then fst_ (okh O tk W o) (400 - arr O W o) (arr O W o) else -1
def goS (O : Ofc) (W : Wkr) (o : Nat) (h : Int) : Wkr := fun k => if k = 0 then h + 1 else if k = 1 then O 3 o else if k = 2 then ia (W 2) (wlk O W o) else if k = 3 then ia (W 3) (O 9 o) else if k = 4 + o then (if O 8 o = -1 then 9999 else h + 10 * O 8 o) else W k
def Wk (T : Knd) (A : Rfs) (w : Nat) : Prop := T w = (10, 0) ∧ T (w + 1) = (20, 8) ∧ A w 0 = 26 ∧ A w 1 = 47 ∧ A w 2 = w + 1
theorem goS_l (O : Ofc) (W : Wkr) (o : Nat) (h : Int) (i : Nat) : goS O W o h (4 + i) = if i = o then (if O 8 o = -1 then 9999 else h + 10 * O 8 o) else W (4 + i) := by
  unfold goS
  rw [if_neg (by omega), if_neg (by omega), if_neg (by omega), if_neg (by omega)]
  by_cases c : i = o
  · rw [if_pos (by omega), if_pos c]
  · rw [if_neg (by omega), if_neg c]
theorem st0_l (O : Ofc) (h : Int) (i : Nat) : st0 O h (4 + i) = -1 := by
  unfold st0
  rw [if_neg (by omega), if_neg (by omega), if_neg (by omega)]
theorem ev_ge {x h : Int} (hh : h ≤ 1000) : h ≤ ev x ↔ h ≤ x := by
  unfold ev
  split
  · omega
  · exact Iff.rfl
theorem wlk_in {O : Ofc} (w : WF O) {W : Wkr} (s : WS O W) {o : Nat} (ho : (o : Int) < O 0 4) : (0 ≤ wlk O W o ∧ wlk O W o ≤ 100000) ∧ (wlk O W o < 100000 → wlk O W o ≤ 576) := by
  have hR := w.2.1
  have hw : WO O o := w.2.2.2.2.2.2.2.2.1 o ho
  have h1 := hw.1
  have h2 := s.2.1
  have h := fw_in w (x := (W 1).toNat) (y := (O 3 o).toNat) (by omega) (by omega)
  exact ⟨h.1, h.2.2⟩
/-- a stamp is had at once or later, within the hours, over a way -/
theorem stp_rg {O : Ofc} (w : WF O) {W : Wkr} (s : WS O W) {tk : Nat → Nat → Bool} {o : Nat} (ho : (o : Int) < O 0 4) (h : stp O tk W o ≠ -1) : W 0 ≤ stp O tk W o ∧ W 0 + wlk O W o ≤ stp O tk W o ∧ stp O tk W o ≤ 399 ∧ wlk O W o < 100000 ∧ ¬ W 0 ≤ W (4 + o) := by
  have hw := wlk_in w s ho
  have h0 := s.1
  unfold stp at h ⊢
  split at h
  · exact absurd rfl h
  · rename_i c1
    rw [if_neg c1]
    split at h
    · rename_i c2
      rw [if_pos c2]
      have hr := fst_rg (p := okh O tk W o) (k := 400 - arr O W o) (h := arr O W o)
      have ha : ((arr O W o : Nat) : Int) = W 0 + wlk O W o := by unfold arr; omega
      rcases hr with hr | hr
      · exact absurd hr h
      · omega
    · exact absurd rfl h
theorem st0_ws {O : Ofc} (w : WF O) (hl : 0 < O 0 0) {h : Int} (h0 : 0 ≤ h) (h1 : h ≤ 400) : WS O (st0 O h) := by
  have h2 := w.2.2.1
  refine ⟨⟨h0, h1⟩, ⟨h2.1, h2.2 hl⟩, fun i => Or.inl ?_⟩
  unfold st0
  rw [if_neg (by omega), if_neg (by omega), if_neg (by omega)]
theorem go_ws {O : Ofc} (w : WF O) {W : Wkr} (s : WS O W) {o : Nat} (ho : (o : Int) < O 0 4) {h : Int} (h0 : 0 ≤ h) (h1 : h ≤ 399) : WS O (goS O W o h) := by
  have hw : WO O o := w.2.2.2.2.2.2.2.2.1 o ho
  have hf := hw.2.2.2.2.2.1
  refine ⟨?_, ?_, fun i => ?_⟩
  · show 0 ≤ h + 1 ∧ h + 1 ≤ 400
    omega
  · show 0 ≤ O 3 o ∧ O 3 o < O 0 1
    exact hw.1
  · rw [goS_l]
    by_cases c : i = o
    · rw [if_pos c]
      right
      subst c
      split
      · exact ⟨by decide, ho, Or.inr rfl⟩
      · exact ⟨by omega, ho, by omega⟩
    · rw [if_neg c]; exact s.2.2 i
section
variable {T : Knd} {A : Rfs} {O : Ofc} {I : Mem} {W : Wkr} {tk : Nat → Nat → Bool}
theorem wk_of (h : Ag T A) {w : Nat} (hT : T w = (10, 0)) (hT1 : T (w + 1) = (20, 8)) (h0 : (w, 0, 26) ∈ agR) (h1 : (w, 1, 47) ∈ agR) (h2 : (w, 2, w + 1) ∈ agR) : Wk T A w := ⟨hT, hT1, kA h h0, kA h h1, kA h h2⟩
theorem wk_64 (h : Ag T A) : Wk T A 64 := wk_of h (kT_64 h) (kT_65 h) (by decide +kernel) (by decide +kernel) (by decide +kernel)
theorem wk_66 (h : Ag T A) : Wk T A 66 := wk_of h (kT_66 h) (kT_67 h) (by decide +kernel) (by decide +kernel) (by decide +kernel)
theorem wk_69 (h : Ag T A) : Wk T A 69 := wk_of h (kT_69 h) (kT_70 h) (by decide +kernel) (by decide +kernel) (by decide +kernel)
theorem wk_80 (h : Ag T A) : Wk T A 80 := wk_of h (kT_80 h) (kT_81 h) (by decide +kernel) (by decide +kernel) (by decide +kernel)
theorem wk_91 (h : Ag T A) : Wk T A 91 := wk_of h (kT_91 h) (kT_92 h) (by decide +kernel) (by decide +kernel) (by decide +kernel)
theorem wk_120 (h : Ag T A) : Wk T A 120 := wk_of h (kT_120 h) (kT_121 h) (by decide +kernel) (by decide +kernel) (by decide +kernel)
theorem wk_126 (h : Ag T A) : Wk T A 126 := wk_of h (kT_126 h) (kT_127 h) (by decide +kernel) (by decide +kernel) (by decide +kernel)
theorem wk_ev {w : Nat} (k : Wk T A w) : (T w).1 = 10 ∧ gr T A 10 0 w = some 26 ∧ gr T A 10 1 w = some 47 ∧ gr T A 10 2 w = some (w + 1) ∧ (∀ k I, gi T 10 k w I = some (I w k)) ∧ (∀ k v I, pi T 10 k w v I = some (mu I w k v)) ∧ (∀ j I, ld T 20 (w + 1) j I = if 0 ≤ j ∧ j < 8 then some (I (w + 1) j.toNat) else none) ∧ (∀ j v I, sto T 20 (w + 1) j v I = if 0 ≤ j ∧ j < 8 then some (mu I (w + 1) j.toNat v) else none) :=
  ⟨by rw [k.1], ev_gr k.1 rfl k.2.2.1 (by decide), ev_gr k.1 rfl k.2.2.2.1 (by decide), ev_gr k.1 rfl k.2.2.2.2 (by omega), ev_gi k.1 rfl, ev_pi k.1 rfl, ev_ld k.2.1, ev_sto k.2.1⟩
/-! the reference -/
theorem m_lastl (h : Ag T A) (hk : MWk W I) {o : Nat} (ho : o < 8) : ld T 20 144 (o : Int) I = some (W (4 + o)) := by
  simp only [agM h]
  rw [if_pos (by omega), Int.toNat_natCast, hk.2 o ho]
theorem m_isHeld (h : Ag T A) (hk : MWk W I) {o : Nat} (ho : o < 8) {k : Int} (hk0 : 0 ≤ k) : f_X12_isHeld T A 129 (o : Int) k I = some (if k ≤ W (4 + o) then 1 else 0) := by
  unfold f_X12_isHeld
  rw [if_pos (by rw [kT_129 h]), show gr T A 12 29 129 = some 144 by simp only [agM h]]
  simp only [some_bind, m_lastl h hk ho]
  by_cases c : W (4 + o) = -1
  · rw [if_pos c, if_neg (by omega)]
  · rw [if_neg c]
    split <;> rfl
theorem m_heldIn (h : Ag T A) (w : WF O) (hm : MW O 0 I) (hk : MWk W I) (k : Nat) : f_X12_heldIn T A 129 (k : Int) I = some (hset O W k) := by
  have hn := wf_n w
  unfold f_X12_heldIn
  rw [if_pos (by rw [kT_129 h]), show gr T A 12 17 129 = some 136 by simp only [agM h]]
  refine it_seq (fun i => (sor (fun i => decide ((k : Int) ≤ W (4 + i))) i, (i : Int))) (O 0 4).toNat (fun i hi => ?_) ?_ FU (by unfold FU; omega)
  · try dsimp only
    rw [some_bind, m_h3 h hm, some_bind, if_pos (by omega), m_isHeld h hk (by omega) (by omega), some_bind, ia_1 (by omega), sor]
    by_cases c : (k : Int) ≤ W (4 + i)
    · rw [if_pos c, if_neg (by decide), thn_l, if_pos (decide_eq_true c)]
    · rw [if_neg c, if_pos rfl, thn_l, if_neg (by rw [decide_eq_false c]; decide), ior_0 (cn_sor _ _)]
  · try dsimp only
    rw [some_bind, m_h3 h hm, some_bind, if_neg (by omega)]
    rfl
theorem m_heldNow (h : Ag T A) (w : WF O) (hm : MW O 0 I) (hk : MWk W I) (s : WS O W) : f_X12_heldNow T A 129 I = some (hset O W (W 0).toNat) := by
  have h0 := s.1
  unfold f_X12_heldNow
  rw [if_pos (by rw [kT_129 h]), show gi T 12 25 129 I = some (I 129 25) by simp only [agM h], some_bind, hk.1.1]
  have := m_heldIn h w hm hk (W 0).toNat
  rw [show (((W 0).toNat : Nat) : Int) = W 0 by omega] at this
  rw [this]; rfl
theorem m_isFree (h : Ag T A) (w : WF O) (hm : MW O 0 I) (ht : TK tk I) {o k : Nat} (ho : (o : Int) < O 0 4) (hk : k < 400) : f_X12_isFree T A 129 (o : Int) (k : Int) I = some (if (opn O o k && !tk o k) = true then 1 else 0) := by
  have hn := wf_n w
  unfold f_X12_isFree
  rw [if_pos (by rw [kT_129 h]), m_open h w hm ho hk, some_bind, show gi T 12 31 129 I = some (I 129 31) by simp only [agM h], show gr T A 12 30 129 = some 145 by simp only [agM h]]
  cases opn O o k
  · rfl
  · simp only [if_true, n10, if_false, some_bind, Bool.true_and]
    rcases ht with ⟨t1, t2⟩ | ⟨t1, t2⟩
    · rw [t1, if_pos rfl, t2]; rfl
    · rw [t1, if_neg (by decide)]
      simp only [agM h]
      rw [im_eq (by omega) (by omega), ia_eq (by omega) (by omega), if_pos (by omega), some_bind, show (400 * (o : Int) + k).toNat = 400 * o + k by omega, t2 o k (by omega) hk]
      cases tk o k <;> rfl
theorem m_stamps (h : Ag T A) (w : WF O) (hm : MW O 0 I) (hk : MWk W I) (hf : Far O I) (s : WS O W) (ht : TK tk I) {o : Nat} (ho : (o : Int) < O 0 4) : f_X12_stampsIn T A 129 (o : Int) I = some (stp O tk W o) := by
  have hn := wf_n w
  have hR := w.2.1
  have hw : WO O o := w.2.2.2.2.2.2.2.2.1 o ho
  have hw1 := hw.1
  have h0 := s.1
  have h1 := s.2.1
  have hl := wlk_in w s ho
  obtain ⟨r, er⟩ := Int.eq_ofNat_of_zero_le h1.1
  obtain ⟨t, et⟩ := Int.eq_ofNat_of_zero_le hw1.1
  have el : wlk O W o = fw O r t := by unfold wlk; rw [er, et]; rfl
  unfold f_X12_stampsIn
  rw [if_pos (by rw [kT_129 h]), show gr T A 12 24 129 = some 143 by simp only [agM h], show gi T 12 26 129 I = some (I 129 26) by simp only [agM h], show gi T 12 25 129 I = some (I 129 25) by simp only [agM h], show gr T A 12 19 129 = some 138 by simp only [agM h], show gr T A 12 20 129 = some 139 by simp only [agM h]]
  simp only [some_bind, m_o0 h w hm ho, hk.1.1, hk.1.2.1]
  rw [er, et, m_far h I (by omega) (by omega), some_bind, hf r t (by omega) (by omega), ← el, m_isHeld h hk (by omega) h0.1, some_bind]
  unfold stp
  by_cases c1 : W 0 ≤ W (4 + o)
  · rw [if_pos c1, if_pos c1, if_neg (by decide)]
  · rw [if_neg c1, if_neg c1, if_pos rfl]
    by_cases c2 : wlk O W o < 100000
    · rw [if_pos c2, if_pos c2, ia_eq (by omega) (by omega)]
      have ha : W 0 + wlk O W o = ((arr O W o : Nat) : Int) := by unfold arr; omega
      rw [ha]
      refine it_fst (okh O tk W o) (fun r => r) (fun j hj => ?_) (fun j hj => ?_) (400 - arr O W o) (arr O W o) FU rfl (by unfold FU; omega)
      · try dsimp only
        rw [if_pos (by omega), m_isFree h w hm ht ho hj, some_bind, ia_1 (by omega), m_heldIn h w hm hk, some_bind, m_needs h w hm ho, m_bars h w hm ho, some_bind, some_bind]
        unfold okh ndh brh
        by_cases d1 : (opn O o j && !tk o j) = true
        · rw [if_pos d1, if_neg (by decide)]
          by_cases d2 : iand (O 12 o) (ixor (hset O W j) (-1)) = 0
          · rw [if_pos d2]
            by_cases d3 : iand (O 13 o) (hset O W j) = 0
            · rw [if_pos d3, if_pos]
              rw [d1, decide_eq_true d2, decide_eq_true d3]; rfl
            · rw [if_neg d3, if_neg]
              rw [decide_eq_false d3, Bool.and_false, Bool.and_false]; decide
          · rw [if_neg d2, if_neg]
            rw [decide_eq_false d2, Bool.false_and, Bool.and_false]; decide
        · rw [if_neg d1, if_pos rfl, if_neg]
          intro e
          rw [Bool.and_eq_true] at e
          exact d1 e.1
      · try dsimp only
        rw [if_neg (by omega)]
    · rw [if_neg c2, if_neg c2]
def FmW (I J : Mem) : Prop := ∀ o k, ¬ (o = 129 ∧ 25 ≤ k ∧ k ≤ 28) → o ≠ 144 → J o k = I o k
theorem m_goes (h : Ag T A) (w : WF O) (hm : MW O 0 I) (hk : MWk W I) (hf : Far O I) (s : WS O W) {o : Nat} (ho : (o : Int) < O 0 4) {k : Int} (h0 : 0 ≤ k) (h1 : k ≤ 399) : OK (f_X12_goesTo T A 129 (o : Int) k I) (fun J => FmW I J ∧ MWk (goS O W o k) J) := by
  have hn := wf_n w
  have hR := w.2.1
  have hw : WO O o := w.2.2.2.2.2.2.2.2.1 o ho
  have hw1 := hw.1
  have hfd := hw.2.2.2.2.2.1
  have h2 := s.2.1
  obtain ⟨r, er⟩ := Int.eq_ofNat_of_zero_le h2.1
  obtain ⟨t, et⟩ := Int.eq_ofNat_of_zero_le hw1.1
  have el : wlk O W o = fw O r t := by unfold wlk; rw [er, et]; rfl
  have hmw : ∀ J : Mem, (∀ o k, 134 ≤ o → o ≤ 142 → J o k = I o k) → MW O 0 J := fun J e => by
    obtain ⟨g1, g2, g3, g4, g5, g6, g7⟩ := hm
    refine ⟨?_, fun k hk => ?_, fun k hk => ?_, fun w o hw ho => ?_, fun o ho => ?_, fun o ho => ?_, fun r c hr hc => ?_⟩
    · rw [e _ _ (by omega) (by omega)]; exact g1
    · rw [e _ _ (by omega) (by omega)]; exact g2 k hk
    · rw [e _ _ (by omega) (by omega)]; exact g3 k hk
    · rw [e _ _ (by omega) (by omega)]; exact g4 w o hw ho
    · rw [e _ _ (by omega) (by omega)]; exact g5 o ho
    · rw [e _ _ (by omega) (by omega)]; exact g6 o ho
    · rw [e _ _ (by omega) (by omega)]; exact g7 r c hr hc
  unfold f_X12_goesTo
  rw [if_pos (by rw [kT_129 h]), show gr T A 12 24 129 = some 143 by simp only [agM h], show gr T A 12 29 129 = some 144 by simp only [agM h]]
  have gi' : ∀ k (J : Mem), gi T 12 k 129 J = some (J 129 k) := fun k J => by simp only [agM h]
  have pi' : ∀ k v (J : Mem), pi T 12 k 129 v J = some (mu J 129 k v) := fun k v J => by simp only [agM h]
  simp only [gi', pi', some_bind]
  have o0 : ∀ J : Mem, (∀ o k, 134 ≤ o → o ≤ 142 → J o k = I o k) → f_X12_of T A 129 (o : Int) 0 J = some (O 3 o) := fun J e => m_o0 h w (hmw J e) ho
  have o5 : ∀ J : Mem, (∀ o k, 134 ≤ o → o ≤ 142 → J o k = I o k) → f_X12_of T A 129 (o : Int) 5 J = some (O 8 o) := fun J e => m_o5 h w (hmw J e) ho
  have o6 : ∀ J : Mem, (∀ o k, 134 ≤ o → o ≤ 142 → J o k = I o k) → f_X12_of T A 129 (o : Int) 6 J = some (O 9 o) := fun J e => m_o6 h w (hmw J e) ho
  rw [o0 I (fun _ _ _ _ => rfl), some_bind, hk.1.2.1, er, et, m_far h I (by omega) (by omega), some_bind, hf r t (by omega) (by omega), ← el]
  rw [o6 _ (fun a b c d => mu_o _ _ (by omega)), some_bind]
  rw [o0 _ (fun a b c d => by rw [mu_o _ _ (by omega), mu_o _ _ (by omega)]), some_bind]
  rw [o5 _ (fun a b c d => by rw [mu_o _ _ (by omega), mu_o _ _ (by omega), mu_o _ _ (by omega), mu_o _ _ (by omega)]), some_bind]
  have e3 : I 129 27 = W 2 := hk.1.2.2.1
  have e4 : I 129 28 = W 3 := hk.1.2.2.2
  refine ok_tn (ok_e (v := .inl (if O 8 o = -1 then 9999 else k + 10 * O 8 o)) ?_ ?_)
  · by_cases c : O 8 o = -1
    · rw [if_pos c, if_pos c]
    · rw [if_neg c, if_neg c, some_bind, im_eq (by omega) (by omega), ia_eq (by omega) (by omega)]
  · show OK _ _
    try dsimp only
    simp only [agM h]
    rw [if_pos (by omega), some_bind, Int.toNat_natCast]
    refine ok_i ⟨fun a b c d => ?_, ⟨?_, ?_, ?_, ?_⟩, fun i hi => ?_⟩
    · try dsimp only
      rw [mu_o _ _ (by omega), mu_o _ _ (by omega), mu_o _ _ (by omega), mu_o _ _ (by omega), mu_o _ _ (by omega)]
    · try dsimp only
      rw [mu_o _ _ (by omega), mu_s, ia_eq (by omega) (by omega)]; rfl
    · try dsimp only
      rw [mu_o _ _ (by omega), mu_o _ _ (by omega), mu_s]; rfl
    · try dsimp only
      rw [mu_o _ _ (by omega), mu_o _ _ (by omega), mu_o _ _ (by omega), mu_o _ _ (by omega), mu_s, e3]; rfl
    · try dsimp only
      rw [mu_o _ _ (by omega), mu_o _ _ (by omega), mu_o _ _ (by omega), mu_s, mu_o _ _ (by omega), e4]; rfl
    · rw [goS_l]
      by_cases c : i = o
      · subst c
        rw [mu_s, if_pos rfl]
      · rw [if_neg c, mu_o _ _ (by omega), mu_o _ _ (by omega), mu_o _ _ (by omega), mu_o _ _ (by omega), mu_o _ _ (by omega), hk.2 i hi]
end
