/-! B: going, waiting, taking back. -/
def Sq (O O' : Ofc) : Prop := (∀ a k, 2 ≤ a → O' a k = O a k) ∧ (∀ k, k < 5 → O' 0 k = O 0 k)
def mvO (O : Ofc) (n : Int) (i : Nat) (v : Int) : Ofc := fun a k => if a = 0 ∧ k = 6 then n else if a = 1 ∧ k = i then v else O a k
theorem sq_r (O : Ofc) : Sq O O := ⟨fun _ _ _ => rfl, fun _ _ => rfl⟩
theorem sq_mv (O : Ofc) (n : Int) (i : Nat) (v : Int) : Sq O (mvO O n i v) := by
  refine ⟨fun a k ha => ?_, fun k hk => ?_⟩
  · unfold mvO; rw [if_neg (by omega), if_neg (by omega)]
  · unfold mvO; rw [if_neg (by omega), if_neg (by omega)]
section
variable {O O' : Ofc}
theorem sq_fwk (s : Sq O O') : ∀ k, fwk O' k = fwk O k := by
  intro k
  induction k with
  | zero =>
    funext a b
    show d0 O' a b = d0 O a b
    unfold d0
    rw [s.1 _ _ (by omega)]
  | succ k ih =>
    show ps (fwk O' k) k = ps (fwk O k) k
    rw [ih]
theorem sq_fw (s : Sq O O') : fw O' = fw O := sq_fwk s 6
theorem sq_off (s : Sq O O') : off O' = off O := by
  funext o h
  unfold off
  rw [s.1 6 _ (by omega), s.1 4 _ (by omega), s.1 5 _ (by omega), s.1 7 _ (by omega)]
theorem sq_opn (s : Sq O O') : opn O' = opn O := by
  funext o h
  unfold opn awy
  rw [sq_off s, s.1 10 _ (by omega), s.1 11 _ (by omega)]
theorem sq_wlk (s : Sq O O') : wlk O' = wlk O := by
  funext W o
  unfold wlk
  rw [sq_fw s, s.1 3 _ (by omega)]
theorem sq_hset (s : Sq O O') : hset O' = hset O := by
  funext W h
  unfold hset
  rw [s.2 4 (by omega)]
theorem sq_okh (s : Sq O O') : okh O' = okh O := by
  funext tk W o h
  unfold okh ndh brh
  rw [sq_opn s, sq_hset s, s.1 12 _ (by omega), s.1 13 _ (by omega)]
theorem sq_arr (s : Sq O O') : arr O' = arr O := by
  funext W o
  unfold arr
  rw [sq_wlk s]
theorem sq_stp (s : Sq O O') : stp O' = stp O := by
  funext tk W o
  unfold stp
  rw [sq_wlk s, sq_okh s, sq_arr s]
theorem sq_goS (s : Sq O O') : goS O' = goS O := by
  funext W o h k
  unfold goS
  rw [sq_wlk s, s.1 3 _ (by omega), s.1 8 _ (by omega), s.1 9 _ (by omega)]
theorem sq_st0 (s : Sq O O') : st0 O' = st0 O := by
  funext h k
  unfold st0
  rw [s.2 2 (by omega)]
theorem sq_step (s : Sq O O') : stepS O' = stepS O := by
  funext W m
  unfold stepS
  rw [sq_goS s, sq_stp s]
theorem sq_rep (s : Sq O O') : ∀ k : Nat, (∀ j, j < k → O' 1 j = O 1 j) → rep O' k = rep O k := by
  intro k
  induction k with
  | zero =>
    intro _
    show st0 O' (O' 0 3) = st0 O (O 0 3)
    rw [sq_st0 s, s.2 3 (by omega)]
  | succ k ih =>
    intro hj
    show stepS O' (rep O' k) (O' 1 k) = stepS O (rep O k) (O 1 k)
    rw [ih (fun j h => hj j (by omega)), sq_step s, hj k (by omega)]
theorem sq_wo (s : Sq O O') {o : Nat} (h : WO O o) : WO O' o := by
  unfold WO at h ⊢
  rw [s.1 3 _ (by omega), s.1 4 _ (by omega), s.1 5 _ (by omega), s.1 6 _ (by omega), s.1 7 _ (by omega), s.1 8 _ (by omega), s.1 9 _ (by omega), s.1 10 _ (by omega), s.1 11 _ (by omega), s.1 12 _ (by omega), s.1 13 _ (by omega), s.2 1 (by omega), s.2 4 (by omega)]
  exact h
theorem sq_wf (s : Sq O O') (w : WF O) (hp : sl (O 0 4).toNat (O' 0 5)) (h6 : 0 ≤ O' 0 6 ∧ O' 0 6 ≤ 40) (h0 : O 0 0 = 0 → O' 0 6 = 0) : WF O' := by
  obtain ⟨w1, w2, w3, w4, w5, w6, w7, w8, w9, w10⟩ := w
  unfold WF
  rw [s.2 0 (by omega), s.2 1 (by omega), s.2 2 (by omega), s.2 3 (by omega), s.2 4 (by omega)]
  refine ⟨w1, w2, w3, w4, w5, hp, h6, fun e => ⟨(w8 e).1, (w8 e).2.1, (w8 e).2.2.1, h0 e⟩, fun o ho => sq_wo s (w9 o ho), fun r c hr hc => ?_⟩
  rw [s.1 _ _ (by omega)]
  exact w10 r c hr hc
theorem sq_tw (s : Sq O O') {I : Mem} (h : TW O I) : TW O' I := by
  intro r c hr hc
  rw [s.2 1 (by omega)] at hr hc
  rw [sq_fw s]
  exact h r c hr hc
theorem sq_tn (s : Sq O O') {I : Mem} (h : TN O I) : TN O' I := by
  intro o k ho hk
  rw [s.2 4 (by omega)] at ho
  rw [sq_opn s]
  exact h o k ho hk
end
/-- the cells that the rest of the two sides' state lies in -/
def rst (o k : Nat) : Bool := o == 2 || o == 3 || (o == 4 && (k == 2 || k == 3)) || (decide (111 ≤ o) && decide (o ≤ 118)) || (o == 129 && (k == 6 || k == 14 || k == 15)) || o == 130 || o == 131 || o == 132 || o == 134 || o == 142 || (o == 135 && decide (1 ≤ k) && decide (k < 4)) || (o == 136 && decide (6 ≤ k) && decide (k < 24)) || (o == 137 && decide (72 ≤ k) && decide (k < 288)) || (o == 138 && decide (8 ≤ k) && decide (k < 32)) || (o == 139 && decide (8 ≤ k) && decide (k < 32)) || (o == 140 && decide (36 ≤ k) && decide (k < 144)) || (o == 141 && decide (40 ≤ k) && decide (k < 160)) || decide (154 ≤ o)
def RF (I J : Mem) : Prop := ∀ o k, rst o k = true → J o k = I o k
/-- what a call does to the office: nothing, or it is another one, and what was found out of it is forgotten -/
def Out (O : Ofc) (I : Mem) (O' : Ofc) (K : Mem) : Prop := (O' = O ∧ Fr I K) ∨ (K 68 6 = 0 ∧ K 79 6 = 0 ∧ (K 1 15 = 0 ∨ (Sq O O' ∧ O' 0 5 = O 0 5 ∧ K 1 15 = I 1 15 ∧ K 1 16 = I 1 16 ∧ K 1 17 = I 1 17)) ∧ RF I K)
section
variable {T : Knd} {A : Rfs} {O : Ofc} {I : Mem} {W : Wkr} {w : Nat}
theorem cw_fr {J : Mem} (h : CW W w I) (hf : Fr I J) (hw : w < 128) : CW W w J := by
  obtain ⟨⟨h1, h2, h3, h4⟩, h5⟩ := h
  have e : ∀ o k, o < 129 → J o k = I o k := fun o k ho => hf o k (scr_lt ho)
  refine ⟨⟨?_, ?_, ?_, ?_⟩, fun o ho => ?_⟩
  · rw [e _ _ (by omega)]; exact h1
  · rw [e _ _ (by omega)]; exact h2
  · rw [e _ _ (by omega)]; exact h3
  · rw [e _ _ (by omega)]; exact h4
  · rw [e _ _ (by omega)]; exact h5 o ho
theorem bas_fr {J : Mem} (b : Bas T A O I) (f : Fr I J) : Bas T A O J := by
  obtain ⟨h, wf, hc, hm, g, ht, hn, k, hq⟩ := b
  have hR := wf.2.1
  have hn8 := wf_n wf
  refine ⟨h, wf, cv_fr (by decide) hc f, mw_fr hm f, g, fun r c hr hcc => ?_, fun o x ho hx => ?_, cw_fr k f (by decide), ?_⟩
  · rw [f _ _ (scr_lt (by omega))]; exact ht r c hr hcc
  · rw [f _ _ (scr_lt (by omega))]; exact hn o x ho hx
  · rw [f 129 31 (by decide)]; exact hq
theorem fmx_rf {I J : Mem} (f : FmX I J) : RF I J := fun o k hk => by
  refine f o k (fun g => ?_) (fun g => ?_) (fun g => ?_)
  · obtain ⟨rfl, g1, g2⟩ := g
    have e1 : (k == 6) = false := beq_eq_false_iff_ne.mpr (by omega)
    have e2 : (k == 14) = false := beq_eq_false_iff_ne.mpr (by omega)
    have e3 : (k == 15) = false := beq_eq_false_iff_ne.mpr (by omega)
    unfold rst at hk
    rw [e1, e2, e3] at hk
    simp at hk
  · subst g; simp [rst] at hk
  · subst g; simp [rst] at hk
theorem rf_t {I J K : Mem} (h : RF I J) (g : RF J K) : RF I K := fun o k hk => by rw [g o k hk, h o k hk]
theorem rf_mu {I J : Mem} {a k : Nat} {v : Int} (h : RF I J) (e : rst a k = false) : RF I (mu J a k v) := by
  intro o j hj
  rw [mu_o J v (fun g => by rw [g.1, g.2, e] at hj; exact absurd hj (by decide))]
  exact h o j hj
theorem rf_r (I : Mem) : RF I I := fun _ _ _ => rfl
theorem rf_fo {a b : Nat} {I J : Mem} (h : Fo a b I J) (e : ∀ o k, a ≤ o → o ≤ b → rst o k = false) : RF I J := by
  intro o k hk
  refine h o k ?_
  rcases Nat.lt_or_ge o a with h1 | h1
  · exact Or.inl h1
  · rcases Nat.lt_or_ge b o with h2 | h2
    · exact Or.inr h2
    · rw [e o k h1 h2] at hk; exact absurd hk (by decide)
theorem rst_w {o k : Nat} (h1 : 5 ≤ o) (h2 : o ≤ 110) : rst o k = false := by
  have e : ∀ n, (n < 5 ∨ 110 < n) → (o == n) = false := fun n hn => beq_eq_false_iff_ne.mpr (by omega)
  unfold rst
  simp [e]
  omega
end
