/-! B: one who goes, the class's side. -/
section
variable {T : Knd} {A : Rfs} {O : Ofc} {I : Mem} {W : Wkr} {tk : Nat → Nat → Bool} {w : Nat}
theorem ws_rg (s : WS O W) (i : Nat) : -1 ≤ W (4 + i) ∧ W (4 + i) ≤ 9999 := by
  rcases s.2.2 i with h | h
  · omega
  · omega
theorem ev_rg (s : WS O W) (i : Nat) : -1 ≤ ev (W (4 + i)) ∧ ev (W (4 + i)) ≤ 1000000 := by
  have := ws_rg s i
  unfold ev
  split <;> omega
theorem c_lastl (k : Wk T A w) (c : CW W w I) {o : Nat} (ho : o < 8) : ld T 20 (w + 1) (o : Int) I = some (ev (W (4 + o))) := by
  rw [ev_ld k.2.1, if_pos (by omega), Int.toNat_natCast, c.2 o ho]
theorem c_lastHeld (k : Wk T A w) (c : CW W w I) {o : Nat} (ho : o < 8) : f_X10_lastHeld T A w (o : Int) I = some (ev (W (4 + o))) := by
  unfold f_X10_lastHeld
  rw [if_pos (wk_ev k).1, if_neg (by omega), if_pos (by omega), (wk_ev k).2.2.2.1]
  simp only [some_bind, c_lastl k c ho]
theorem c_holds (k : Wk T A w) (c : CW W w I) (s : WS O W) {o : Nat} (ho : o < 8) : f_X10_holds T A w (o : Int) I = some (if W 0 ≤ W (4 + o) then 1 else 0) := by
  have h0 := s.1
  unfold f_X10_holds
  rw [if_pos (wk_ev k).1, c_lastHeld k c ho, some_bind, (wk_ev k).2.2.2.2.1, some_bind, c.1.1]
  have := ev_ge (x := W (4 + o)) (h := W 0) (by omega)
  by_cases d : W 0 ≤ W (4 + o)
  · rw [if_pos d, if_neg (by omega)]
  · rw [if_neg d, if_pos (by omega)]
theorem c_holding (k : Wk T A w) (wf : WF O) (c : CW W w I) (s : WS O W) : f_X10_holding T A w I = some (hset O W (W 0).toNat) := by
  have h0 := s.1
  have hn := wf_n wf
  have e : hset O W (W 0).toNat = sor (fun i => decide (W 0 ≤ W (4 + i))) 8 := by
    unfold hset
    rw [show (((W 0).toNat : Nat) : Int) = W 0 by omega]
    refine (sor_pad (by omega) (fun i hi => decide_eq_false ?_)).symm
    rcases s.2.2 i with h | h <;> omega
  rw [e]
  unfold f_X10_holding
  rw [if_pos (wk_ev k).1, (wk_ev k).2.2.2.1]
  refine it_seq (fun i => (sor (fun i => decide (W 0 ≤ W (4 + i))) i, (i : Int))) 8 (fun i hi => ?_) ?_ FU (by decide)
  · try dsimp only
    rw [if_pos (by omega), some_bind, c_lastl k c hi, some_bind, (wk_ev k).2.2.2.2.1, some_bind, c.1.1, ia_1 (by omega), sor]
    have := ev_ge (x := W (4 + i)) (h := W 0) (by omega)
    by_cases d : W 0 ≤ W (4 + i)
    · rw [if_neg (by omega), if_pos (decide_eq_true d)]
    · rw [if_pos (by omega), if_neg (by rw [decide_eq_false d]; decide)]
  · try dsimp only
    rw [if_neg (by decide)]
theorem c_missing (h : Ag T A) (k : Wk T A w) (wf : WF O) (hc : CV O 26 I) (c : CW W w I) (s : WS O W) : f_X10_missing T A w I = some (iand (O 0 5) (ixor (hset O W (W 0).toNat) (-1))) := by
  unfold f_X10_missing
  rw [if_pos (wk_ev k).1, (wk_ev k).2.1, some_bind, show gi T 2 5 26 I = some (I 26 5) by simp only [agPl h], some_bind, cv_permit hc, c_holding k wf c s]
  rfl
theorem c_arrival (h : Ag T A) (k : Wk T A w) (wf : WF O) (hc : CV O 26 I) (ht : TW O I) (c : CW W w I) (s : WS O W) {o : Nat} (ho : (o : Int) < O 0 4) : f_X10_arrival T A w (o : Int) I = some (if wlk O W o < 100000 then W 0 + wlk O W o else -1) := by
  have hR := wf.2.1
  have hw : WO O o := wf.2.2.2.2.2.2.2.2.1 o ho
  have hw1 := hw.1
  have h0 := s.1
  have h1 := s.2.1
  have hl := wlk_in wf s ho
  obtain ⟨r, er⟩ := Int.eq_ofNat_of_zero_le h1.1
  obtain ⟨t, et⟩ := Int.eq_ofNat_of_zero_le hw1.1
  have el : wlk O W o = fw O r t := by unfold wlk; rw [er, et]; rfl
  unfold f_X10_arrival
  rw [if_pos (wk_ev k).1, (wk_ev k).2.1, some_bind, c_has1 h wf hc ho, some_bind, if_neg (by decide), (wk_ev k).2.2.1, some_bind, (wk_ev k).2.2.2.2.1, some_bind, some_bind, show gr T A 2 8 26 = some 28 by simp only [agPl h], some_bind, c_r0 h, some_bind, c_t0 h wf hc ho, some_bind, c.1.2.1, er, et, c_between h I (by omega) (by omega), some_bind, ht r t (by omega) (by omega), ← el]
  by_cases d : wlk O W o < 100000
  · rw [cw_real d, if_neg (by omega), if_pos d, (wk_ev k).2.2.2.2.1, some_bind, c.1.1, ia_eq (by omega) (by omega)]
  · rw [cw_far d, if_pos rfl, if_neg d]
theorem shr_0 {v : Int} {n : Nat} (hn : n ≤ 31) (hv : sl n v) {i : Nat} (hi : i < 32) (h : ishr v (i : Int) = 0) : ∀ j, i ≤ j → hb v j = false := by
  intro j hj
  rcases Nat.lt_or_ge j 32 with c | c
  · have e := hb_shr v hi (i := j - i) (by omega)
    rw [h, hb_0, if_pos (by omega), show i + (j - i) = j by omega] at e
    exact e.symm
  · exact hb_big v c
theorem c_unbarred (h : Ag T A) (k : Wk T A w) (wf : WF O) (hc : CV O 26 I) (c : CW W w I) (s : WS O W) {o : Nat} (ho : (o : Int) < O 0 4) (a : Int) : OK (f_X10_unbarred T A w (o : Int) a I) (fun r => ∀ x : Int, r ≤ x ↔ a ≤ x ∧ ∀ i, hb (O 13 o) i = true → ev (W (4 + i)) + 1 ≤ x) := by
  have hn := wf_n wf
  have hw : WO O o := wf.2.2.2.2.2.2.2.2.1 o ho
  have hs : sl (O 0 4).toNat (O 13 o) := hw.2.2.2.2.2.2.2.2.2.1
  unfold f_X10_unbarred
  rw [if_pos (wk_ev k).1, (wk_ev k).2.1, some_bind, c_has1 h wf hc ho, some_bind, if_neg (by decide), some_bind, show gr T A 2 8 26 = some 28 by simp only [agPl h], some_bind, c_r10 h, some_bind, c_t10 h wf hc ho, some_bind, thn_l]
  refine it_run (fun i (s : Int × Int) => s.2 = (i : Int) ∧ ∀ x : Int, s.1 ≤ x ↔ a ≤ x ∧ ∀ j, j < i → hb (O 13 o) j = true → ev (W (4 + j)) + 1 ≤ x) 8 ?_ ?_ 0 FU (a, 0) (by decide) (by decide) ⟨rfl, fun x => ⟨fun g => ⟨g, fun j hj => absurd hj (by omega)⟩, fun g => g.1⟩⟩
  · rintro i ⟨m, si⟩ hi ⟨rfl, hx⟩
    try dsimp only at hx ⊢
    rw [if_pos (by omega)]
    by_cases z : ishr (O 13 o) (i : Int) = 0
    · rw [if_pos z]
      refine ok_i (fun x => ?_)
      have hz := shr_0 (by omega) hs (by omega) z
      rw [hx]
      refine ⟨fun g => ⟨g.1, fun j hj => ?_⟩, fun g => ⟨g.1, fun j _ hj => g.2 j hj⟩⟩
      rcases Nat.lt_or_ge j i with q | q
      · exact g.2 j q hj
      · rw [hz j q] at hj; exact absurd hj (by decide)
    · rw [if_neg z, f_hasBit (by omega), some_bind, ia_1 (by omega)]
      have hr := ev_rg s i
      cases hbi : hb (O 13 o) i
      · rw [if_pos (show (if false = true then (1 : Int) else 0) = 0 from rfl)]
        refine ok_i ⟨rfl, fun x => ?_⟩
        try dsimp only at hx ⊢
        rw [hx]
        refine ⟨fun g => ⟨g.1, fun j hj hb1 => ?_⟩, fun g => ⟨g.1, fun j hj hb1 => g.2 j (by omega) hb1⟩⟩
        rcases Nat.lt_or_ge j i with q | q
        · exact g.2 j q hb1
        · rw [show j = i by omega, hbi] at hb1; exact absurd hb1 (by decide)
      · rw [if_neg (show ¬ (if true = true then (1 : Int) else 0) = 0 by decide), (wk_ev k).2.2.2.1, some_bind, c_lastl k c hi, some_bind, ia_eq (by omega) (by omega)]
        refine ok_i ⟨rfl, fun x => ?_⟩
        try dsimp only at hx ⊢
        have e : imax m (ev (W (4 + i)) + 1) ≤ x ↔ m ≤ x ∧ ev (W (4 + i)) + 1 ≤ x := by
          unfold imax
          split <;> omega
        rw [e, hx]
        refine ⟨fun g => ⟨g.1.1, fun j hj hb1 => ?_⟩, fun g => ⟨⟨g.1, fun j hj hb1 => g.2 j (by omega) hb1⟩, g.2 i (by omega) hbi⟩⟩
        rcases Nat.lt_or_ge j i with q | q
        · exact g.1.2 j q hb1
        · rw [show j = i by omega]; exact g.2
  · rintro ⟨m, si⟩ ⟨rfl, hx⟩
    try dsimp only at hx ⊢
    rw [if_neg (by decide)]
    refine ok_i (fun x => ?_)
    try dsimp only at hx
    rw [hx]
    refine ⟨fun g => ⟨g.1, fun j hb1 => g.2 j ?_ hb1⟩, fun g => ⟨g.1, fun j _ hb1 => g.2 j hb1⟩⟩
    have := hb_at hs hb1
    omega
theorem c_supported (h : Ag T A) (k : Wk T A w) (wf : WF O) (hc : CV O 26 I) (c : CW W w I) (s : WS O W) {o : Nat} (ho : (o : Int) < O 0 4) : OK (f_X10_supported T A w (o : Int) I) (fun r => ∀ x : Int, x ≤ r ↔ x ≤ 399 ∧ ∀ i, hb (O 12 o) i = true → x ≤ ev (W (4 + i))) := by
  have hn := wf_n wf
  have hw : WO O o := wf.2.2.2.2.2.2.2.2.1 o ho
  have hs : sl (O 0 4).toNat (O 12 o) := hw.2.2.2.2.2.2.2.2.1.1
  unfold f_X10_supported
  rw [if_pos (wk_ev k).1, (wk_ev k).2.1, some_bind, c_has1 h wf hc ho, some_bind, if_neg (by decide), some_bind, show gr T A 2 8 26 = some 28 by simp only [agPl h], some_bind, c_r9 h, some_bind, c_t9 h wf hc ho, some_bind, thn_l]
  refine it_run (fun i (s : Int × Int) => s.2 = (i : Int) ∧ ∀ x : Int, x ≤ s.1 ↔ x ≤ 399 ∧ ∀ j, j < i → hb (O 12 o) j = true → x ≤ ev (W (4 + j))) 8 ?_ ?_ 0 FU (399, 0) (by decide) (by decide) ⟨rfl, fun x => ⟨fun g => ⟨g, fun j hj => absurd hj (by omega)⟩, fun g => g.1⟩⟩
  · rintro i ⟨m, si⟩ hi ⟨rfl, hx⟩
    try dsimp only at hx ⊢
    rw [if_pos (by omega)]
    by_cases z : ishr (O 12 o) (i : Int) = 0
    · rw [if_pos z]
      refine ok_i (fun x => ?_)
      have hz := shr_0 (by omega) hs (by omega) z
      rw [hx]
      refine ⟨fun g => ⟨g.1, fun j hj => ?_⟩, fun g => ⟨g.1, fun j _ hj => g.2 j hj⟩⟩
      rcases Nat.lt_or_ge j i with q | q
      · exact g.2 j q hj
      · rw [hz j q] at hj; exact absurd hj (by decide)
    · rw [if_neg z, f_hasBit (by omega), some_bind, ia_1 (by omega)]
      cases hbi : hb (O 12 o) i
      · rw [if_pos (show (if false = true then (1 : Int) else 0) = 0 from rfl)]
        refine ok_i ⟨rfl, fun x => ?_⟩
        try dsimp only at hx ⊢
        rw [hx]
        refine ⟨fun g => ⟨g.1, fun j hj hb1 => ?_⟩, fun g => ⟨g.1, fun j hj hb1 => g.2 j (by omega) hb1⟩⟩
        rcases Nat.lt_or_ge j i with q | q
        · exact g.2 j q hb1
        · rw [show j = i by omega, hbi] at hb1; exact absurd hb1 (by decide)
      · rw [if_neg (show ¬ (if true = true then (1 : Int) else 0) = 0 by decide), (wk_ev k).2.2.2.1, some_bind, c_lastl k c hi, some_bind]
        refine ok_i ⟨rfl, fun x => ?_⟩
        try dsimp only at hx ⊢
        have e : x ≤ imin m (ev (W (4 + i))) ↔ x ≤ m ∧ x ≤ ev (W (4 + i)) := by
          unfold imin
          split <;> omega
        rw [e, hx]
        refine ⟨fun g => ⟨g.1.1, fun j hj hb1 => ?_⟩, fun g => ⟨⟨g.1, fun j hj hb1 => g.2 j (by omega) hb1⟩, g.2 i (by omega) hbi⟩⟩
        rcases Nat.lt_or_ge j i with q | q
        · exact g.1.2 j q hb1
        · rw [show j = i by omega]; exact g.2
  · rintro ⟨m, si⟩ ⟨rfl, hx⟩
    try dsimp only at hx ⊢
    rw [if_neg (by decide)]
    refine ok_i (fun x => ?_)
    try dsimp only at hx
    rw [hx]
    refine ⟨fun g => ⟨g.1, fun j hb1 => g.2 j ?_ hb1⟩, fun g => ⟨g.1, fun j _ hb1 => g.2 j hb1⟩⟩
    have := hb_at hs hb1
    omega
theorem ndh_iff (wf : WF O) (s : WS O W) {o j : Nat} (ho : (o : Int) < O 0 4) (hj : j < 400) : ndh O W o j = true ↔ ∀ i, hb (O 12 o) i = true → (j : Int) ≤ ev (W (4 + i)) := by
  have hn := wf_n wf
  have hw : WO O o := wf.2.2.2.2.2.2.2.2.1 o ho
  have hs : sl (O 0 4).toNat (O 12 o) := hw.2.2.2.2.2.2.2.2.1.1
  unfold ndh hset
  rw [decide_eq_true_iff, an_0]
  refine ⟨fun g i hi => ?_, fun g i hi => ?_⟩
  · have := g i hi
    rw [hb_sor _ _ (by omega), Bool.and_eq_true, decide_eq_true_iff, decide_eq_true_iff] at this
    exact (ev_ge (by omega)).mpr this.2
  · have h2 := g i hi
    have h3 := hb_at hs hi
    rw [hb_sor _ _ (by omega), decide_eq_true h3, Bool.true_and, decide_eq_true_iff]
    exact (ev_ge (by omega)).mp h2
theorem brh_iff (wf : WF O) (s : WS O W) {o j : Nat} (ho : (o : Int) < O 0 4) (hj : j < 400) : brh O W o j = true ↔ ∀ i, hb (O 13 o) i = true → ev (W (4 + i)) + 1 ≤ (j : Int) := by
  have hn := wf_n wf
  have hw : WO O o := wf.2.2.2.2.2.2.2.2.1 o ho
  have hs : sl (O 0 4).toNat (O 13 o) := hw.2.2.2.2.2.2.2.2.2.1
  unfold brh hset
  rw [decide_eq_true_iff, and_0]
  refine ⟨fun g i hi => ?_, fun g i hi => ?_⟩
  · have h2 := g i hi
    have h3 := hb_at hs hi
    rw [hb_sor _ _ (by omega), decide_eq_true h3, Bool.true_and, decide_eq_false_iff_not] at h2
    have := ev_ge (x := W (4 + i)) (h := (j : Int)) (by omega)
    omega
  · have h2 := g i hi
    rw [hb_sor _ _ (by omega)]
    have := ev_ge (x := W (4 + i)) (h := (j : Int)) (by omega)
    rw [decide_eq_false (p := (j : Int) ≤ W (4 + i)) (by omega), Bool.and_false]
theorem okh_iff (wf : WF O) (s : WS O W) {o j : Nat} (ho : (o : Int) < O 0 4) (hj : j < 400) {a u v : Int} (hu : ∀ x : Int, u ≤ x ↔ a ≤ x ∧ ∀ i, hb (O 13 o) i = true → ev (W (4 + i)) + 1 ≤ x) (hv : ∀ x : Int, x ≤ v ↔ x ≤ 399 ∧ ∀ i, hb (O 12 o) i = true → x ≤ ev (W (4 + i))) (haj : a ≤ (j : Int)) : okh O tk W o j = true ↔ (opn O o j && !tk o j) = true ∧ u ≤ (j : Int) ∧ (j : Int) ≤ v := by
  unfold okh
  rw [Bool.and_eq_true (opn O o j && !tk o j) _, Bool.and_eq_true (ndh O W o j) _, ndh_iff wf s ho hj, brh_iff wf s ho hj, hu, hv]
  refine ⟨fun g => ⟨g.1, ⟨haj, g.2.2⟩, by omega, g.2.1⟩, fun g => ⟨g.1, g.2.2.2, g.2.1.2⟩⟩
/-- the first hour from where none is barred, if it is in time: the first in which all is right -/
theorem closed (wf : WF O) (s : WS O W) {o : Nat} (ho : (o : Int) < O 0 4) {a u : Nat} {v : Int} (hu : ∀ x : Int, (u : Int) ≤ x ↔ (a : Int) ≤ x ∧ ∀ i, hb (O 13 o) i = true → ev (W (4 + i)) + 1 ≤ x) (hv : ∀ x : Int, x ≤ v ↔ x ≤ 399 ∧ ∀ i, hb (O 12 o) i = true → x ≤ ev (W (4 + i))) : (if fst_ (fun j => opn O o j && !tk o j) (400 - u) u ≤ v then fst_ (fun j => opn O o j && !tk o j) (400 - u) u else -1) = fst_ (okh O tk W o) (400 - a) a := by
  have hau : a ≤ u := by
    have := (hu u).mp (Int.le_refl _)
    omega
  by_cases c : fst_ (fun j => opn O o j && !tk o j) (400 - u) u = -1
  · have hno := fst_no c
    rw [c]
    have e : fst_ (okh O tk W o) (400 - a) a = -1 := by
      refine fst_none (fun j h1 h2 => ?_)
      cases d : okh O tk W o j
      · rfl
      · have := (okh_iff wf s ho (by omega) hu hv (by omega)).mp d
        have h3 := hno j (by omega) (by omega)
        try dsimp only at h3
        rw [this.1] at h3; exact absurd h3 (by decide)
    rw [e]
    split <;> rfl
  · obtain ⟨N, e1, h1, h2, h3, h4⟩ := fst_hit rfl c
    rw [e1]
    by_cases d : (N : Int) ≤ v
    · rw [if_pos d]
      refine (fst_is (by omega) (by omega) ((okh_iff wf s ho (by omega) hu hv (by omega)).mpr ⟨h3, by omega, d⟩) (fun j g1 g2 => ?_)).symm
      cases f : okh O tk W o j
      · rfl
      · have := (okh_iff wf s ho (by omega) hu hv (by omega)).mp f
        have h5 := h4 j (by omega) g2
        try dsimp only at h5
        rw [this.1] at h5; exact absurd h5 (by decide)
    · rw [if_neg d]
      refine (fst_none (fun j g1 g2 => ?_)).symm
      cases f : okh O tk W o j
      · rfl
      · have := (okh_iff wf s ho (by omega) hu hv (by omega)).mp f
        have h5 := h4 j (by omega) (by omega)
        try dsimp only at h5
        rw [this.1] at h5; exact absurd h5 (by decide)
theorem fst_pk (p : Nat → Bool) (q : Nat → Bool) (h : ∀ j, p j = q j) (k a : Nat) : fst_ p k a = fst_ q k a := fst_ext (fun j _ _ => h j)
theorem c_stamp (h : Ag T A) (k : Wk T A w) (wf : WF O) (hc : CV O 26 I) (ht : TW O I) (hn : TN O I) (c : CW W w I) (s : WS O W) {o : Nat} (ho : (o : Int) < O 0 4) : f_X10_stampHour T A w (o : Int) I = some (stp O ntk W o) := by
  have hn8 := wf_n wf
  have h0 := s.1
  have hl := wlk_in wf s ho
  unfold f_X10_stampHour
  rw [if_pos (wk_ev k).1, c_arrival h k wf hc ht c s ho, some_bind]
  unfold stp
  by_cases c2 : wlk O W o < 100000
  · rw [if_pos c2, if_neg (by omega), c_holds k c s (by omega), some_bind]
    by_cases c1 : W 0 ≤ W (4 + o)
    · rw [if_pos c1, if_pos c1, if_neg (by decide)]
    · rw [if_neg c1, if_neg c1, if_pos rfl, if_pos c2, (wk_ev k).2.2.1, some_bind]
      have ha : W 0 + wlk O W o = ((arr O W o : Nat) : Int) := by unfold arr; omega
      rw [ha]
      obtain ⟨u, eu, hu⟩ := c_unbarred h k wf hc c s ho ((arr O W o : Nat) : Int)
      obtain ⟨v, evv, hv⟩ := c_supported h k wf hc c s ho
      have hu0 : 0 ≤ u := by
        have := (hu u).mp (Int.le_refl _)
        omega
      obtain ⟨u', rfl⟩ := Int.eq_ofNat_of_zero_le hu0
      rw [eu, some_bind, c_firstOpen h wf hn ho u', some_bind, evv, some_bind]
      have e := closed (tk := ntk) wf s ho hu hv
      rw [fst_pk (fun j => opn O o j && !ntk o j) (opn O o) (fun j => by unfold ntk; rw [Bool.not_false, Bool.and_true])] at e
      rw [← e]
      split <;> rfl
  · rw [if_neg c2, if_pos rfl, if_neg c2]
    split <;> rfl
theorem c_stampIn (h : Ag T A) (k : Wk T A w) (hw64 : 63 < w) (wf : WF O) (hc : CV O 26 I) (ht : TW O I) (c : CW W w I) (s : WS O W) {o : Nat} (ho : (o : Int) < O 0 4) (hwk : wlk O W o < 100000) {x : Int} (h0 : 0 ≤ x) (h1 : x ≤ 399) : OK (f_X10_stampIn T A w (o : Int) x I) (fun J => Fo w (w + 1) I J ∧ CW (goS O W o x) w J) := by
  have hn := wf_n wf
  have hR := wf.2.1
  have hw : WO O o := wf.2.2.2.2.2.2.2.2.1 o ho
  have hw1 := hw.1
  have hfd := hw.2.2.2.2.2.1
  have h2 := s.2.1
  obtain ⟨r, er⟩ := Int.eq_ofNat_of_zero_le h2.1
  obtain ⟨t, et⟩ := Int.eq_ofNat_of_zero_le hw1.1
  have el : wlk O W o = fw O r t := by unfold wlk; rw [er, et]; rfl
  have e3 : I w 5 = W 2 := c.1.2.2.1
  have e4 : I w 6 = W 3 := c.1.2.2.2
  have e20 : f_X9_hoursBetween T A 47 (I w 4) (O 3 o) I = some (wlk O W o) := by
    rw [c.1.2.1, er, et, c_between h I (by omega) (by omega), ht r t (by omega) (by omega), ← el, cw_real hwk]
  have e6 : ∀ v, ld T 20 35 (o : Int) (mu I w 5 v) = some (O 9 o) := fun v => c_t6 h wf (cv_fo hc (fo_mu (fo_r w w I) (Nat.le_refl _) (Nat.le_refl _)) (by omega)) ho
  have s8 : ∀ v (J : Mem), sto T 20 (w + 1) (o : Int) v J = some (mu J (w + 1) o v) := fun v J => by rw [(wk_ev k).2.2.2.2.2.2.2, if_pos (by omega), Int.toNat_natCast]
  unfold f_X10_stampIn
  rw [if_pos (wk_ev k).1, (wk_ev k).2.1, some_bind, c_has1 h wf hc ho, some_bind, if_neg (by decide), if_neg (by omega)]
  simp only [some_bind, pg h, c_r0 h, c_t0 h wf hc ho, c_r5 h, c_t5 h wf hc ho, c_r6 h, e6, (wk_ev k).2.2.1, (wk_ev k).2.2.2.1, (wk_ev k).2.2.2.2.1, (wk_ev k).2.2.2.2.2.1, e20, s8]
  refine ok_tn (ok_e (v := .inl (ev (if O 8 o = -1 then 9999 else x + 10 * O 8 o))) ?_ ?_)
  · by_cases d : O 8 o = -1
    · rw [if_pos d, if_pos d]; rfl
    · rw [if_neg d, if_neg d, im_eq (by omega) (by omega), ia_eq (by omega) (by omega)]
      unfold ev
      rw [if_neg (by omega)]
  · show OK _ _
    try dsimp only
    refine ok_i ⟨fo_mu (fo_mu (fo_mu (fo_mu (fo_mu (fo_r _ _ _) (by omega) (by omega)) (by omega) (by omega)) (by omega) (by omega)) (by omega) (by omega)) (by omega) (by omega), ⟨?_, ?_, ?_, ?_⟩, fun i hi => ?_⟩
    · try dsimp only
      rw [mu_s, ia_eq (by omega) (by omega)]; rfl
    · try dsimp only
      rw [mu_o _ _ (by omega), mu_s]; rfl
    · try dsimp only
      rw [mu_o _ _ (by omega), mu_o _ _ (by omega), mu_o _ _ (by omega), mu_o _ _ (by omega), mu_s, e3]; rfl
    · try dsimp only
      rw [mu_o _ _ (by omega), mu_o _ _ (by omega), mu_o _ _ (by omega), mu_s, mu_o _ _ (by omega), e4]; rfl
    · rw [goS_l]
      by_cases d : i = o
      · subst d
        rw [mu_o _ _ (by omega), mu_o _ _ (by omega), mu_s, if_pos rfl]
      · rw [if_neg d, mu_o _ _ (by omega), mu_o _ _ (by omega), mu_o _ _ (by omega), mu_o _ _ (by omega), mu_o _ _ (by omega), c.2 i hi]
end
