/-! B: the reference's rows. -/
def kv (k : Int) (W : Wkr) (n : Int) : Int := if k = 0 then W 0 else if k = 1 then n else if k = 2 then W 2 else if k = 3 then W 3 else 0
def key (k : Int) (l : Lf) : Int := kv k l.1 (l.2.2.1 : Int)
def ums (h0 : Int) (l : Lf) : Int := iand l.2.2.2 (ixor h0 (-1))
def allS (h0 : Int) (L : List Lf) : Int := L.foldl (fun a l => iand a (ums h0 l)) 255
def somS (h0 : Int) (L : List Lf) : Int := L.foldl (fun a l => ior a (ums h0 l)) 0
def RMb (k : Int) (L : List Lf) (I : Mem) : Prop := (bl (key k) L = none → I 129 33 = -1) ∧ ∀ m, bl (key k) L = some m → (I 129 33 = key k m ∧ 0 ≤ key k m) ∧ (I 129 34 = (m.2.2.1 : Int) ∧ m.2.2.1 ≤ 8) ∧ I 129 40 = m.1 0 ∧ (∀ t, t < m.2.2.1 → I 147 t = m.2.1 t) ∧ ∀ o, o < 8 → I 148 o = m.1 (4 + o)
def RMw (k h0 : Int) (L : List Lf) (I : Mem) : Prop := k = 4 → I 129 35 = (L.length : Int) ∧ I 129 36 = allS h0 L ∧ I 129 37 = somS h0 L
def FmR (I J : Mem) : Prop := ∀ o j, ¬ (o = 129 ∧ ((25 ≤ j ∧ j ≤ 28) ∨ (33 ≤ j ∧ j ≤ 37) ∨ j = 40)) → o ≠ 144 → o ≠ 146 → o ≠ 147 → o ≠ 148 → J o j = I o j
theorem fmr_r (I : Mem) : FmR I I := fun _ _ _ _ _ _ _ => rfl
theorem fmr_t {I J K : Mem} (h : FmR I J) (g : FmR J K) : FmR I K := fun o k h1 h2 h3 h4 h5 => by rw [g o k h1 h2 h3 h4 h5, h o k h1 h2 h3 h4 h5]
theorem mw_fmr {O : Ofc} {s : Nat} {I J : Mem} (h : MW O s I) (f : FmR I J) : MW O s J := mw_ag h (fun o k h1 h2 => f o k (by omega) (by omega) (by omega) (by omega) (by omega))
theorem far_fmr {O : Ofc} {I J : Mem} (h : Far O I) (f : FmR I J) : Far O J := fun x y hx hy => by rw [f _ _ (by omega) (by omega) (by omega) (by omega) (by omega)]; exact h x y hx hy
theorem tk_fmr {tk : Nat → Nat → Bool} {I J : Mem} (h : TK tk I) (f : FmR I J) : TK tk J := by
  rcases h with ⟨h1, h2⟩ | ⟨h1, h2⟩
  · exact Or.inl ⟨by rw [f 129 31 (by omega) (by omega) (by omega) (by omega) (by omega)]; exact h1, h2⟩
  · exact Or.inr ⟨by rw [f 129 31 (by omega) (by omega) (by omega) (by omega) (by omega)]; exact h1, fun o k ho hk => by rw [f 145 _ (by omega) (by omega) (by omega) (by omega) (by omega)]; exact h2 o k ho hk⟩
theorem rmb_ag {k : Int} {L : List Lf} {I J : Mem} (h : RMb k L I) (e : ∀ o j, (o = 129 ∧ (j = 33 ∨ j = 34 ∨ j = 40)) ∨ o = 147 ∨ o = 148 → J o j = I o j) : RMb k L J := by
  refine ⟨fun hn => by rw [e _ _ (by omega)]; exact h.1 hn, fun m hm => ?_⟩
  obtain ⟨h1, h2, h3, h4, h5⟩ := h.2 m hm
  refine ⟨by rw [e _ _ (by omega)]; exact h1, by rw [e _ _ (by omega)]; exact h2, by rw [e _ _ (by omega)]; exact h3, fun t ht => by rw [e _ _ (by omega)]; exact h4 t ht, fun o ho => by rw [e _ _ (by omega)]; exact h5 o ho⟩
theorem rmw_ag {k h0 : Int} {L : List Lf} {I J : Mem} (h : RMw k h0 L I) (e : ∀ j, j = 35 ∨ j = 36 ∨ j = 37 → J 129 j = I 129 j) : RMw k h0 L J := fun hk => by
  rw [e _ (by omega), e _ (by omega), e _ (by omega)]
  exact h hk
section
variable {T : Knd} {A : Rfs} {O : Ofc} {I : Mem} {W : Wkr} {p : Nat → Int} {n : Nat} {u : Int}
theorem kv_le {k : Int} {W W' : Wkr} {n n' : Int} (h0 : W 0 ≤ W' 0) (h2 : W 2 ≤ W' 2) (h3 : W 3 ≤ W' 3) (hn : n ≤ n') : kv k W n ≤ kv k W' n' := by
  unfold kv
  split
  · exact h0
  · split
    · exact hn
    · split
      · exact h2
      · split
        · exact h3
        · exact Int.le_refl _
theorem kv_0 (nd : Nd O W n u) (k : Int) : 0 ≤ kv k W (n : Int) := by
  have := nd.1.1
  have := nd.2.2.2
  unfold kv
  split
  · omega
  · split
    · omega
    · split
      · omega
      · split
        · omega
        · exact Int.le_refl _
theorem m_measure (h : Ag T A) {k : Int} (hk : I 129 32 = k) (w : MWk W I) (x : Int) : f_X12_measure T A 129 x I = some (kv k W x) := by
  have gi' : ∀ q (J : Mem), gi T 12 q 129 J = some (J 129 q) := fun q J => by simp only [agMg h]
  unfold f_X12_measure kv
  rw [if_pos (by rw [kT_129 h])]
  simp only [gi', some_bind, hk, w.1.1, w.1.2.2.1, w.1.2.2.2]
  split
  · rfl
  · split
    · rfl
    · split
      · rfl
      · split <;> rfl
theorem m_isLess (h : Ag T A) {m : Nat → Int} {j : Nat} (hn : n ≤ 8) (hj : j < n) (h1 : ∀ t, t < n → I 146 t = p t) (h2 : ∀ t, t < n → I 147 t = m t) (h3 : ∀ t, t < j → m t = p t) (h4 : m j < p j) : f_X12_isLess T A 129 (n : Int) I = some 0 := by
  have g1 : gr T A 12 38 129 = some 146 := by simp only [agMg h]
  have g2 : gr T A 12 39 129 = some 147 := by simp only [agMg h]
  have l1 : ∀ t, t < n → ld T 20 146 (t : Int) I = some (p t) := fun t ht => by rw [ev_ld (kT_146 h), if_pos (by omega), Int.toNat_natCast, h1 t ht]
  have l2 : ∀ t, t < n → ld T 20 147 (t : Int) I = some (m t) := fun t ht => by rw [ev_ld (kT_147 h), if_pos (by omega), Int.toNat_natCast, h2 t ht]
  unfold f_X12_isLess
  rw [if_pos (by rw [kT_129 h]), g1, g2]
  have lp : it (fun (s5 : Int) => if s5 < (n : Int) then (some 146).bind fun x7 => (ld T 20 x7 s5 I).bind fun x8 => (some 147).bind fun x10 => (ld T 20 x10 s5 I).bind fun x11 => if x8 = x11 then some (.inl (ia s5 1)) else some (.inr (.inl s5)) else some (.inr (.inr 0))) FU 0 = (some (.inl (j : Int)) : Option (Int ⊕ Int)) := by
    refine it_seq (fun i => (i : Int)) j (fun i hi => ?_) ?_ FU (by unfold FU; omega)
    · try dsimp only
      rw [if_pos (by omega), some_bind, l1 i (by omega), some_bind, some_bind, l2 i (by omega), some_bind, if_pos (h3 i hi).symm, ia_1 (by omega)]
    · try dsimp only
      rw [if_pos (by omega), some_bind, l1 j hj, some_bind, some_bind, l2 j hj, some_bind, if_neg (by omega)]
  refine (congrArg (fun o => thn o _) lp).trans ?_
  rw [thn_l, some_bind, l1 j hj, some_bind, some_bind, l2 j hj, some_bind, if_neg (by omega)]
theorem m_copyN (h : Ag T A) (hn : n ≤ 8) : OK (it (fun (s36 : Int × Mem) => if s36.1 < (n : Int) then (gr T A 12 39 129).bind fun x38 => (gr T A 12 38 129).bind fun x39 => (ld T 20 x39 s36.1 s36.2).bind fun x40 => (sto T 20 x38 s36.1 x40 s36.2).bind fun I42 => some (.inl (ia s36.1 1, I42)) else some (.inr (.inl s36.2))) FU (0, I) : Option (Mem ⊕ Mem)) (fun z => match z with | .inl J => Fo 147 147 I J ∧ ∀ t, t < n → J 147 t = I 146 t | .inr _ => False) := by
  have g1 : gr T A 12 38 129 = some 146 := by simp only [agMg h]
  have g2 : gr T A 12 39 129 = some 147 := by simp only [agMg h]
  refine it_run (fun i (s : Int × Mem) => s.1 = (i : Int) ∧ Fo 147 147 I s.2 ∧ ∀ t, t < i → s.2 147 t = I 146 t) n ?_ ?_ 0 FU (0, I) (by omega) (by unfold FU; omega) ⟨rfl, fo_r _ _ _, fun t ht => absurd ht (by omega)⟩
  · rintro i ⟨si, K⟩ hi ⟨rfl, kF, kD⟩
    try dsimp only at kF kD ⊢
    rw [if_pos (by omega), g2, some_bind, g1, some_bind, ev_ld (kT_146 h), if_pos (by omega), some_bind, ev_sto (kT_147 h), if_pos (by omega), some_bind, Int.toNat_natCast, ia_1 (by omega)]
    refine ok_i ⟨rfl, fo_mu kF (by decide) (by decide), fun t ht => ?_⟩
    try dsimp only
    by_cases c : t = i
    · subst c; rw [mu_s, kF _ _ (by omega)]
    · rw [mu_o _ _ (by omega)]; exact kD t (by omega)
  · rintro ⟨si, K⟩ ⟨rfl, kF, kD⟩
    try dsimp only at kF kD ⊢
    rw [if_neg (by omega)]
    exact ok_i ⟨kF, kD⟩
theorem m_copyL (h : Ag T A) : OK (it (fun (s44 : Int × Mem) => if s44.1 < 8 then (gr T A 12 41 129).bind fun x46 => (gr T A 12 29 129).bind fun x47 => (ld T 20 x47 s44.1 s44.2).bind fun x48 => (sto T 20 x46 s44.1 x48 s44.2).bind fun I50 => some (.inl (ia s44.1 1, I50)) else some (.inr s44.2)) FU (0, I)) (fun J => Fo 148 148 I J ∧ ∀ t, t < 8 → J 148 t = I 144 t) := by
  have g1 : gr T A 12 41 129 = some 148 := by simp only [agMg h]
  have g2 : gr T A 12 29 129 = some 144 := by simp only [agMg h]
  refine it_run (fun i (s : Int × Mem) => s.1 = (i : Int) ∧ Fo 148 148 I s.2 ∧ ∀ t, t < i → s.2 148 t = I 144 t) 8 ?_ ?_ 0 FU (0, I) (by omega) (by unfold FU; omega) ⟨rfl, fo_r _ _ _, fun t ht => absurd ht (by omega)⟩
  · rintro i ⟨si, K⟩ hi ⟨rfl, kF, kD⟩
    try dsimp only at kF kD ⊢
    rw [if_pos (by omega), g1, some_bind, g2, some_bind, ev_ld (kT_144 h), if_pos (by omega), some_bind, ev_sto (kT_148 h), if_pos (by omega), some_bind, Int.toNat_natCast, ia_1 (by omega)]
    refine ok_i ⟨rfl, fo_mu kF (by decide) (by decide), fun t ht => ?_⟩
    try dsimp only
    by_cases c : t = i
    · subst c; rw [mu_s, kF _ _ (by omega)]
    · rw [mu_o _ _ (by omega)]; exact kD t (by omega)
  · rintro ⟨si, K⟩ ⟨rfl, kF, kD⟩
    try dsimp only at kF kD ⊢
    rw [if_neg (by decide)]
    exact ok_i ⟨kF, kD⟩
theorem m_meets (h : Ag T A) {k h0 : Int} (hk : I 129 32 = k) (nd : Nd O W n u) (w : MWk W I) (hrow : ∀ t, t < n → I 146 t = p t) {L : List Lf} (rb : RMb k L I) (rw' : RMw k h0 L I) (hL : L.length < 2000000000) (hx : ∀ a, a ∈ L → lx a (W, p, n, u)) : OK (f_X12_meets T A 129 (n : Int) (iand u (ixor h0 (-1))) I) (fun J => FmR I J ∧ MWk W J ∧ (∀ t, t < n → J 146 t = p t) ∧ RMb k (L ++ [(W, p, n, u)]) J ∧ RMw k h0 (L ++ [(W, p, n, u)]) J) := by
  have hn := nd_n nd
  have gi' : ∀ q (J : Mem), gi T 12 q 129 J = some (J 129 q) := fun q J => by simp only [agMg h]
  have pi' : ∀ q v (J : Mem), pi T 12 q 129 v J = some (mu J 129 q v) := fun q v J => by simp only [agMg h]
  obtain ⟨um, eum⟩ : ∃ um, um = iand u (ixor h0 (-1)) := ⟨_, rfl⟩
  rw [← eum]
  unfold f_X12_meets
  rw [if_pos (by rw [kT_129 h])]
  simp only [gi', pi', some_bind]
  obtain ⟨J, eJ⟩ : ∃ J, J = mu (mu (mu I 129 35 (ia (I 129 35) 1)) 129 36 (iand (mu I 129 35 (ia (I 129 35) 1) 129 36) um)) 129 37 (ior (mu (mu I 129 35 (ia (I 129 35) 1)) 129 36 (iand (mu I 129 35 (ia (I 129 35) 1) 129 36) um) 129 37) um) := ⟨_, rfl⟩
  rw [← eJ]
  have agJ : ∀ o j, ¬ (o = 129 ∧ 35 ≤ j ∧ j ≤ 37) → J o j = I o j := fun o j hoj => by rw [eJ, mu_o _ _ (by omega), mu_o _ _ (by omega), mu_o _ _ (by omega)]
  have wJ : MWk W J := ⟨⟨by rw [agJ _ _ (by omega)]; exact w.1.1, by rw [agJ _ _ (by omega)]; exact w.1.2.1, by rw [agJ _ _ (by omega)]; exact w.1.2.2.1, by rw [agJ _ _ (by omega)]; exact w.1.2.2.2⟩, fun o ho => by rw [agJ _ _ (by omega)]; exact w.2 o ho⟩
  have hwJ : RMw k h0 (L ++ [(W, p, n, u)]) J := fun k4 => by
    obtain ⟨a1, a2, a3⟩ := rw' k4
    refine ⟨?_, ?_, ?_⟩
    · rw [eJ, mu_o _ _ (by omega), mu_o _ _ (by omega), mu_s, a1, ia_1 (by omega), List.length_append, List.length_singleton]
    · rw [eJ, mu_o _ _ (by omega), mu_s, mu_o _ _ (by omega), a2]
      unfold allS
      rw [List.foldl_append, eum]; rfl
    · rw [eJ, mu_s, mu_o _ _ (by omega), mu_o _ _ (by omega), a3]
      unfold somS
      rw [List.foldl_append, eum]; rfl
  have ek : kv k W (n : Int) = key k (W, p, n, u) := rfl
  rw [m_measure (k := k) h (by rw [agJ _ _ (by omega)]; exact hk) wJ, some_bind, agJ 129 33 (by omega), agJ 129 34 (by omega)]
  have stay : ∀ m, bl (key k) L = some m → bet (key k) (W, p, n, u) m = false → RMb k (L ++ [(W, p, n, u)]) J := fun m hm hb1 => by
    have e : bl (key k) (L ++ [(W, p, n, u)]) = some m := bl_stay hm (fun l hl => by rw [List.mem_singleton] at hl; subst hl; exact hb1)
    refine ⟨fun q => by rw [e] at q; exact absurd q (by simp), fun m' hm' => ?_⟩
    rw [e] at hm'
    have : m = m' := by simpa using hm'
    subst this
    have := rmb_ag rb (J := J) (fun o j ho => agJ o j (by omega))
    exact this.2 m hm
  have rec' : (bl (key k) (L ++ [(W, p, n, u)]) = some (W, p, n, u)) → OK ((some (mu J 129 33 (kv k W (n : Int)))).bind fun I28 => (some (mu I28 129 34 (n : Int))).bind fun I29 => (some (mu I29 129 40 (I29 129 25))).bind fun I32 => thn (it (fun (s36 : Int × Mem) => if s36.1 < (n : Int) then (gr T A 12 39 129).bind fun x38 => (gr T A 12 38 129).bind fun x39 => (ld T 20 x39 s36.1 s36.2).bind fun x40 => (sto T 20 x38 s36.1 x40 s36.2).bind fun I42 => some (.inl (ia s36.1 1, I42)) else some (.inr (.inl s36.2))) FU (0, I32)) (fun (v34 : Mem) => it (fun (s44 : Int × Mem) => if s44.1 < 8 then (gr T A 12 41 129).bind fun x46 => (gr T A 12 29 129).bind fun x47 => (ld T 20 x47 s44.1 s44.2).bind fun x48 => (sto T 20 x46 s44.1 x48 s44.2).bind fun I50 => some (.inl (ia s44.1 1, I50)) else some (.inr s44.2)) FU (0, v34))) (fun J => FmR I J ∧ MWk W J ∧ (∀ t, t < n → J 146 t = p t) ∧ RMb k (L ++ [(W, p, n, u)]) J ∧ RMw k h0 (L ++ [(W, p, n, u)]) J) := fun e => by
    simp only [some_bind]
    obtain ⟨K, eK⟩ : ∃ K, K = mu (mu (mu J 129 33 (kv k W (n : Int))) 129 34 (n : Int)) 129 40 (mu (mu J 129 33 (kv k W (n : Int))) 129 34 (n : Int) 129 25) := ⟨_, rfl⟩
    rw [← eK]
    have agK : ∀ o j, ¬ (o = 129 ∧ (j = 33 ∨ j = 34 ∨ j = 40)) → K o j = J o j := fun o j hoj => by rw [eK, mu_o _ _ (by omega), mu_o _ _ (by omega), mu_o _ _ (by omega)]
    refine ok_tn (ok_m (m_copyN h hn) ?_)
    rintro (X | X) hX
    · obtain ⟨x1, x2⟩ := hX
      show OK _ _
      dsimp only
      refine ok_m (m_copyL h) (fun Y hY => ?_)
      obtain ⟨y1, y2⟩ := hY
      have agY : ∀ o j, ¬ (o = 129 ∧ (j = 33 ∨ j = 34 ∨ j = 40)) → o ≠ 147 → o ≠ 148 → Y o j = J o j := fun o j h1 h2 h3 => by rw [y1 _ _ (by omega), x1 _ _ (by omega), agK o j h1]
      refine ⟨fun o j h1 h2 h3 h4 h5 => by rw [agY _ _ (by omega) h4 h5, agJ _ _ (by omega)], ⟨⟨by rw [agY _ _ (by omega) (by omega) (by omega)]; exact wJ.1.1, by rw [agY _ _ (by omega) (by omega) (by omega)]; exact wJ.1.2.1, by rw [agY _ _ (by omega) (by omega) (by omega)]; exact wJ.1.2.2.1, by rw [agY _ _ (by omega) (by omega) (by omega)]; exact wJ.1.2.2.2⟩, fun o ho => by rw [agY _ _ (by omega) (by omega) (by omega)]; exact wJ.2 o ho⟩, fun t ht => by rw [agY _ _ (by omega) (by omega) (by omega), agJ _ _ (by omega)]; exact hrow t ht, ⟨fun q => by rw [e] at q; exact absurd q (by simp), fun m hm => ?_⟩, rmw_ag hwJ (fun j hj => agY _ _ (by omega) (by omega) (by omega))⟩
      rw [e] at hm
      have em : (W, p, n, u) = m := by simpa using hm
      subst em
      refine ⟨⟨?_, kv_0 nd k⟩, ⟨?_, hn⟩, ?_, fun t ht => ?_, fun o ho => ?_⟩
      · rw [y1 _ _ (by omega), x1 _ _ (by omega), eK, mu_o _ _ (by omega), mu_o _ _ (by omega), mu_s]; rfl
      · rw [y1 _ _ (by omega), x1 _ _ (by omega), eK, mu_o _ _ (by omega), mu_s]
      · rw [y1 _ _ (by omega), x1 _ _ (by omega), eK, mu_s, mu_o _ _ (by omega), mu_o _ _ (by omega)]; exact wJ.1.1
      · rw [y1 _ _ (by omega), x2 t ht, agK _ _ (by omega), agJ _ _ (by omega)]; exact hrow t ht
      · rw [y2 o ho, x1 _ _ (by omega), agK _ _ (by omega)]; exact wJ.2 o ho
    · exact hX.elim
  cases hbl : bl (key k) L with
  | none =>
    have e33 := rb.1 hbl
    rw [e33, if_pos rfl, thn_l]
    refine rec' ?_
    rw [bl_snoc, hbl]; rfl
  | some m =>
    obtain ⟨⟨b1, b0⟩, ⟨b2, b8⟩, b3, b4, b5⟩ := rb.2 m hbl
    have hmL := bl_mem hbl
    rw [b1, b2, if_neg (by omega)]
    have fin : FmR I J ∧ MWk W J ∧ (∀ t, t < n → J 146 t = p t) := ⟨fun o j h1 h2 h3 h4 h5 => agJ _ _ (by omega), wJ, fun t ht => by rw [agJ _ _ (by omega)]; exact hrow t ht⟩
    have better : bet (key k) (W, p, n, u) m = true → bl (key k) (L ++ [(W, p, n, u)]) = some (W, p, n, u) := fun hb1 => by
      rw [bl_snoc, hbl]
      show (if bet (key k) (W, p, n, u) m then some (W, p, n, u) else some m) = _
      rw [if_pos hb1]
    have bdef : bet (key k) (W, p, n, u) m = (decide (kv k W (n : Int) < key k m) || (decide (kv k W (n : Int) = key k m) && decide (n < m.2.2.1))) := rfl
    by_cases c1 : kv k W (n : Int) ≤ key k m
    · rw [if_pos c1]
      by_cases c2 : kv k W (n : Int) = key k m
      · rw [if_pos c2]
        by_cases c3 : (n : Int) ≤ (m.2.2.1 : Int)
        · rw [if_pos c3]
          by_cases c4 : (n : Int) = (m.2.2.1 : Int)
          · rw [if_pos c4]
            obtain ⟨j, j1, j2, j3, j4⟩ := hx m hmL
            rw [m_isLess h (m := m.2.1) (p := p) (j := j) hn j2 (fun t ht => by rw [agJ _ _ (by omega)]; exact hrow t ht) (fun t ht => by rw [agJ _ _ (by omega)]; exact b4 t (by omega)) j3 j4, some_bind, if_pos rfl, thn_r]
            refine ok_i ⟨fin.1, fin.2.1, fin.2.2, stay m hbl ?_, hwJ⟩
            rw [bdef, decide_eq_false (p := kv k W (n : Int) < key k m) (by omega), decide_eq_false (p := n < m.2.2.1) (by omega), Bool.and_false]; rfl
          · rw [if_neg c4, thn_l]
            refine rec' (better ?_)
            rw [bdef, decide_eq_true c2, decide_eq_true (p := n < m.2.2.1) (by omega)]; simp
        · rw [if_neg c3, thn_r]
          refine ok_i ⟨fin.1, fin.2.1, fin.2.2, stay m hbl ?_, hwJ⟩
          rw [bdef, decide_eq_false (p := kv k W (n : Int) < key k m) (by omega), decide_eq_false (p := n < m.2.2.1) (by omega), Bool.and_false]; rfl
      · rw [if_neg c2, thn_l]
        refine rec' (better ?_)
        rw [bdef, decide_eq_true (p := kv k W (n : Int) < key k m) (by omega)]; rfl
    · rw [if_neg c1, thn_r]
      refine ok_i ⟨fin.1, fin.2.1, fin.2.2, stay m hbl ?_, hwJ⟩
      rw [bdef, decide_eq_false (p := kv k W (n : Int) < key k m) (by omega), decide_eq_false (p := kv k W (n : Int) = key k m) (by omega)]; rfl
end
