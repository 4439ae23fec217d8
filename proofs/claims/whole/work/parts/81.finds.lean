/-! B: the reference finds; what the class has found already. -/
def bv (k : Int) (L : List Lf) : Int := match bl (key k) L with
  | none => -1
  | some m => key k m
theorem bv_none {k : Int} {L : List Lf} (h : bl (key k) L = none) : bv k L = -1 := by unfold bv; rw [h]
theorem bv_some {k : Int} {L : List Lf} {m : Lf} (h : bl (key k) L = some m) : bv k L = key k m := by unfold bv; rw [h]
def FmF (I J : Mem) : Prop := ∀ o j, ¬ (o = 129 ∧ ((25 ≤ j ∧ j ≤ 28) ∨ (32 ≤ j ∧ j ≤ 37) ∨ j = 40)) → o ≠ 144 → o ≠ 146 → o ≠ 147 → o ≠ 148 → J o j = I o j
theorem fmf_fr {I J : Mem} (h : FmF I J) : Fr I J := fun o k hk => by
  refine h o k (fun g => ?_) (fun g => ?_) (fun g => ?_) (fun g => ?_) (fun g => ?_)
  · obtain ⟨rfl, g1⟩ := g
    unfold scr at hk
    simp only [Bool.or_eq_false_iff, Bool.and_eq_false_iff, decide_eq_false_iff_not, beq_eq_false_iff_ne] at hk
    omega
  · subst g; exact absurd hk (by simp [scr])
  · subst g; exact absurd hk (by simp [scr])
  · subst g; exact absurd hk (by simp [scr])
  · subst g; exact absurd hk (by simp [scr])
section
variable {T : Knd} {A : Rfs} {O : Ofc} {I : Mem} {W : Wkr} {n : Nat} {u : Int} {R : Nat}
theorem bv_0 (wf : WF O) (s : WS O W) (h2 : W 2 = 0) (h3 : W 3 = 0) {k : Int} {m : Lf} (hm : bl (key k) (LV O W) = some m) : 0 ≤ key k m ∧ m.2.2.1 ≤ 8 := by
  have r := lv_in wf _ _ _ _ _ (nd_0 wf s h2 h3) m (bl_mem hm)
  exact ⟨kv_0 r.1 k, nd_n r.1⟩
theorem iand_self_not (a : Int) : iand a (ixor a (-1)) = 0 := (an_0 a a).mpr (fun _ h => h)
theorem m_finds (h : Ag T A) (wf : WF O) (hm : MW O 0 I) (w : MWk W I) (hf : Far O I) (ht : TK ntk I) (s : WS O W) (k : Int) : OK (f_X12_finds T A 129 k I) (fun z => z.1 = bv k (LV O (rt W)) ∧ FmF I z.2 ∧ RMb k (LV O (rt W)) z.2 ∧ RMw k (h0s O (rt W)) (LV O (rt W)) z.2) := by
  have hn8 := wf_n wf
  have gi' : ∀ q (J : Mem), gi T 12 q 129 J = some (J 129 q) := fun q J => by simp only [agMg h]
  have pi' : ∀ q v (J : Mem), pi T 12 q 129 v J = some (mu J 129 q v) := fun q v J => by simp only [agMg h]
  unfold f_X12_finds
  rw [if_pos (by rw [kT_129 h])]
  simp only [pi', some_bind]
  obtain ⟨J, eJ⟩ : ∃ J, J = mu (mu (mu (mu (mu (mu (mu (mu I 129 32 k) 129 33 (-1)) 129 34 0) 129 35 0) 129 36 255) 129 37 0) 129 27 0) 129 28 0 := ⟨_, rfl⟩
  rw [← eJ]
  have agJ : ∀ o j, ¬ (o = 129 ∧ (32 ≤ j ∧ j ≤ 37 ∨ j = 27 ∨ j = 28)) → J o j = I o j := fun o j ho => by rw [eJ, mu_o _ _ (by omega), mu_o _ _ (by omega), mu_o _ _ (by omega), mu_o _ _ (by omega), mu_o _ _ (by omega), mu_o _ _ (by omega), mu_o _ _ (by omega), mu_o _ _ (by omega)]
  have hmJ : MW O 0 J := mw_ag hm (fun o j h1 h2 => agJ o j (by omega))
  have wJ : MWk (rt W) J := ⟨⟨by rw [agJ _ _ (by omega)]; exact w.1.1, by rw [agJ _ _ (by omega)]; exact w.1.2.1, by rw [eJ, mu_o _ _ (by omega), mu_s]; rfl, by rw [eJ, mu_s]; rfl⟩, fun o ho => by rw [agJ _ _ (by omega), rt_l]; exact w.2 o ho⟩
  have s' := rt_ws s
  have hfJ : Far O J := fun x y hx hy => by rw [agJ _ _ (by omega)]; exact hf x y hx hy
  have htJ : TK ntk J := by
    rcases ht with ⟨h1, h2⟩ | ⟨h1, h2⟩
    · exact Or.inl ⟨by rw [agJ _ _ (by omega)]; exact h1, h2⟩
    · exact Or.inr ⟨by rw [agJ _ _ (by omega)]; exact h1, fun o k ho hk => by rw [agJ _ _ (by omega)]; exact h2 o k ho hk⟩
  have j32 : J 129 32 = k := by rw [eJ, mu_o _ _ (by omega), mu_o _ _ (by omega), mu_o _ _ (by omega), mu_o _ _ (by omega), mu_o _ _ (by omega), mu_o _ _ (by omega), mu_o _ _ (by omega), mu_s]
  have j33 : J 129 33 = -1 := by rw [eJ, mu_o _ _ (by omega), mu_o _ _ (by omega), mu_o _ _ (by omega), mu_o _ _ (by omega), mu_o _ _ (by omega), mu_o _ _ (by omega), mu_s]
  have j35 : J 129 35 = 0 := by rw [eJ, mu_o _ _ (by omega), mu_o _ _ (by omega), mu_o _ _ (by omega), mu_o _ _ (by omega), mu_s]
  have j36 : J 129 36 = 255 := by rw [eJ, mu_o _ _ (by omega), mu_o _ _ (by omega), mu_o _ _ (by omega), mu_s]
  have j37 : J 129 37 = 0 := by rw [eJ, mu_o _ _ (by omega), mu_o _ _ (by omega), mu_s]
  rw [m_heldNow h wf hmJ wJ s', some_bind]
  have eh : hset O (rt W) (rt W 0).toNat = h0s O (rt W) := rfl
  rw [eh]
  have nd := nd_0 wf s' rfl rfl
  have mr := m_rows h wf (k := k) (h0 := h0s O (rt W)) 12 (rt W) (fun _ => 0) 0 (h0s O (rt W)) [] J (by decide) nd (fun i hi => hi) j32 hmJ wJ hfJ htJ (fun t ht => absurd ht (by omega)) ⟨fun _ => j33, fun m hm => absurd hm (by simp [bl])⟩ (fun _ => ⟨j35, j36, j37⟩) (by decide) (fun a ha => absurd ha (by simp))
  rw [iand_self_not] at mr
  refine ok_b (ok_m mr (fun K hK => ?_))
  obtain ⟨f1, f2, f3, f4, f5⟩ := hK
  rw [List.nil_append] at f4 f5
  rw [gi', some_bind]
  have f4' : RMb k (LV O (rt W)) K := f4
  refine ok_i ⟨?_, fun o j h1 h2 h3 h4 h5 => ?_, f4', f5⟩
  · cases hbl : bl (key k) (LV O (rt W)) with
    | none => rw [bv_none hbl]; exact f4'.1 hbl
    | some m => rw [bv_some hbl]; exact (f4'.2 m hbl).1.1
  · dsimp only
    rw [f1 o j (by omega) h2 h3 h4 h5, agJ _ _ (by omega)]
/-- the rows from where one stands -/
def Ln (O : Ofc) : List Lf := LV O (rt (Wn O))
def Hn (O : Ofc) : Int := h0s O (rt (Wn O))
theorem m_findsNow (h : Ag T A) (wf : WF O) (hl : 0 < O 0 0) (g : LG O) (hm : MW O 0 I) (hq : I 129 31 = 0) (k : Int) : ∃ z, f_X12_findsNow T A 129 k (mu I 129 0 0) = some z ∧ z.1 = bv k (Ln O) ∧ Fr I z.2 ∧ RMb k (Ln O) z.2 ∧ RMw k (Hn O) (Ln O) z.2 := by
  obtain ⟨J, e, f, k', d, hmJ, tJ, qJ⟩ := lays_at h wf hl g hm hq
  obtain ⟨z, ez, z1, z2, z3, z4⟩ := m_finds h wf hmJ k' d tJ (wn_ws wf hl g) k
  refine ⟨(z.1, z.2), ?_, z1, fr_t (fr_0 I) (fr_t (fmx_fr f) (fmf_fr z2)), z3, z4⟩
  unfold f_X12_findsNow
  rw [if_pos (by rw [kT_129 h]), e, some_bind, ez, some_bind]
/-! what is known -/
def SoonC (O : Ofc) (I : Mem) : Prop := I 68 6 = 0 ∨ ∃ V, RC 68 (Hn O) V I ∧ Sim 0 V (Ln O)
def EvryC (O : Ofc) (I : Mem) : Prop := I 79 6 = 0 ∨ ∃ V, RC 79 (Hn O) V I ∧ Sim 1 V (Ln O)
def sval (O : Ofc) (h : Nat) : Int := bv 0 (LV O (rt (st0 O (h : Int))))
def ss (O : Ofc) : Nat → Int × Int
  | 0 => (-1, -1)
  | h + 1 => if sval O h = -1 then ss O h else if (ss O h).1 = -1 ∨ sval O h - h < (ss O h).2 then ((h : Int), sval O h - h) else ss O h
def StarC (O : Ofc) (I : Mem) : Prop := I 1 15 = 0 ∨ (I 1 16 = (ss O 50).1 ∧ I 1 17 = (ss O 50).2)
def Cch (O : Ofc) (I : Mem) : Prop := SoonC O I ∧ EvryC O I ∧ StarC O I
theorem rc_ag {h0 : Int} {V : List Lf} {J : Mem} (r : RC R h0 V I) (e : ∀ o j, R ≤ o → o ≤ R + 10 → J o j = I o j) : RC R h0 V J := by
  obtain ⟨r1, r2, r3, r4, r5, r6, r7⟩ := r
  refine ⟨by rw [e _ _ (by omega) (by omega)]; exact r1, fun a ha => ra_ag (r2 a ha) (fun o j ho => e o j (by omega) (by omega)), fun m hm o ho => by rw [e _ _ (by omega) (by omega)]; exact r3 m hm o ho, fun m hm => by rw [e _ _ (by omega) (by omega)]; exact r4 m hm, fun z => by rw [e _ _ (by omega) (by omega), e _ _ (by omega) (by omega)]; exact r5 z, fun z => by rw [e _ _ (by omega) (by omega)]; exact r6 z, by rw [e _ _ (by omega) (by omega)]; exact r7⟩
theorem soon_ag {J : Mem} (r : SoonC O I) (e : ∀ o j, 68 ≤ o → o ≤ 78 → J o j = I o j) : SoonC O J := by
  rcases r with r | ⟨V, r1, r2⟩
  · exact Or.inl (by rw [e _ _ (by omega) (by omega)]; exact r)
  · exact Or.inr ⟨V, rc_ag r1 e, r2⟩
theorem evry_ag {J : Mem} (r : EvryC O I) (e : ∀ o j, 79 ≤ o → o ≤ 89 → J o j = I o j) : EvryC O J := by
  rcases r with r | ⟨V, r1, r2⟩
  · exact Or.inl (by rw [e _ _ (by omega) (by omega)]; exact r)
  · exact Or.inr ⟨V, rc_ag r1 e, r2⟩
theorem star_ag {J : Mem} (r : StarC O I) (e : ∀ j, J 1 j = I 1 j) : StarC O J := by
  unfold StarC
  rw [e, e, e]; exact r
/-- a call that only finds -/
def Qs (T : Knd) (A : Rfs) (O : Ofc) (I : Mem) (cx : Option (Int × Mem)) (mx : Mem → Option (Int × Mem)) : Prop := ∃ v J K, cx = some (v, J) ∧ mx J = some (v, K) ∧ Bas T A O K ∧ Cch O K ∧ RF I K
theorem rts_n (W : Wkr) : rts W (-1) = rt W := by unfold rts; rw [if_neg (by decide)]
theorem c_soonRows (b : Bas T A O I) (hl : 0 < O 0 0) (c : SoonC O I) : ∃ J V, f_X11_soonRows T A 1 I = some (68, J) ∧ RC 68 (Hn O) V J ∧ Sim 0 V (Ln O) ∧ ∀ o j, (o < 68 ∨ 78 < o) → J o j = I o j := by
  obtain ⟨h, wf, hc, hm, g, ht, hn, k, hq⟩ := b
  have hn8 := wf_n wf
  have g6 : gr T A 11 6 1 = some 68 := by simp only [agX h]
  have g4 : gr T A 11 4 1 = some 64 := by simp only [agX h]
  have i5 : gi T 5 6 68 I = some (I 68 6) := (rk_ev (rk_68 h)).2.2.2.2.2.2.2.1 6 I
  unfold f_X11_soonRows
  rw [if_pos (by rw [kT_1 h]), g6, some_bind, i5, some_bind]
  by_cases q : I 68 6 = 0
  · obtain ⟨J, eJ, ⟨V, v1, v2⟩, v3, v4⟩ := c_search h (rk_68 h) (by decide) wf (wk_64 h) (by decide) hc ht hn k (wn_ws wf hl g) (a := -1) (al := 0) (by omega) (Or.inl rfl)
    rw [rts_n] at v1 v2
    refine ⟨J, V, ?_, v1, v2, v4⟩
    rw [if_pos q, some_bind, g4, some_bind, eJ, some_bind, thn_l, some_bind]
  · rcases c with c | ⟨V, v1, v2⟩
    · exact absurd c q
    · refine ⟨I, V, ?_, v1, v2, fun _ _ _ => rfl⟩
      rw [if_neg q, thn_l, some_bind]
theorem c_everyRow (b : Bas T A O I) (hl : 0 < O 0 0) (c : EvryC O I) : ∃ J, f_X11_everyRow T A 1 I = some (79, J) ∧ RC 79 (Hn O) (Ln O) J ∧ ∀ o j, (o < 79 ∨ 89 < o) → J o j = I o j := by
  obtain ⟨h, wf, hc, hm, g, ht, hn, k, hq⟩ := b
  have hn8 := wf_n wf
  have g6 : gr T A 11 7 1 = some 79 := by simp only [agX h]
  have g4 : gr T A 11 4 1 = some 64 := by simp only [agX h]
  have i5 : gi T 5 6 79 I = some (I 79 6) := (rk_ev (rk_79 h)).2.2.2.2.2.2.2.1 6 I
  unfold f_X11_everyRow
  rw [if_pos (by rw [kT_1 h]), g6, some_bind, i5, some_bind]
  by_cases q : I 79 6 = 0
  · obtain ⟨J, eJ, ⟨V, v1, v2⟩, v3, v4⟩ := c_search h (rk_79 h) (by decide) wf (wk_64 h) (by decide) hc ht hn k (wn_ws wf hl g) (a := -1) (al := 1) (by omega) (Or.inr rfl)
    rw [rts_n] at v1 v2
    have eV := v2.1 (by decide)
    rw [eV] at v1
    refine ⟨J, ?_, v1, v4⟩
    rw [if_pos q, some_bind, g4, some_bind, eJ, some_bind, thn_l, some_bind]
  · rcases c with c | ⟨V, v1, v2⟩
    · exact absurd c q
    · have eV := v2.1 (by decide)
      rw [eV] at v1
      refine ⟨I, ?_, v1, fun _ _ _ => rfl⟩
      rw [if_neg q, thn_l, some_bind]
theorem bas_ag {J : Mem} (b : Bas T A O I) (e : ∀ o j, (26 ≤ o ∧ o ≤ 65) ∨ (134 ≤ o ∧ o ≤ 142) ∨ (o = 129 ∧ j = 31) → J o j = I o j) : Bas T A O J := by
  obtain ⟨h, wf, hc, hm, g, ht, hn, k, hq⟩ := b
  exact ⟨h, wf, cv_ag hc (fun a b h1 h2 => e a b (by omega)), mw_ag hm (fun a b h1 h2 => e a b (by omega)), g, tw_ag wf ht (fun a b h1 h2 => e a b (by omega)), tn_ag wf hn (fun a b h1 h2 => e a b (by omega)), cw_ag k (fun a b h1 => e a b (by omega)), by rw [e 129 31 (by omega)]; exact hq⟩
theorem rf_fr {J : Mem} (f : Fr I J) : RF I J := fun o k hk => f o k (by
  cases e : scr o k
  · rfl
  · exfalso
    unfold scr at e
    unfold rst at hk
    simp only [Bool.or_eq_true, Bool.and_eq_true, decide_eq_true_iff, beq_iff_eq] at e hk
    omega)
theorem cch_fr {J : Mem} (c : Cch O I) (f : Fr I J) : Cch O J := ⟨soon_ag c.1 (fun o j h1 h2 => f o j (scr_lt (by omega))), evry_ag c.2.1 (fun o j h1 h2 => f o j (scr_lt (by omega))), star_ag c.2.2 (fun j => f 1 j (scr_lt (by omega)))⟩
/-- refused: nothing but what is thrown -/
theorem qs_no (b : Bas T A O I) (c : Cch O I) {cx : Option (Int × Mem)} {mx : Mem → Option (Int × Mem)} {v : Int} (e1 : cx = some (v, I)) (e2 : mx I = some (v, mu I 129 0 0)) : Qs T A O I cx mx := ⟨v, I, _, e1, e2, bas_fr b (fr_0 I), cch_fr c (fr_0 I), rf_fr (fr_0 I)⟩
theorem qs_soon (b : Bas T A O I) (c : Cch O I) {J K : Mem} {V : List Lf} (rc : RC 68 (Hn O) V J) (sm : Sim 0 V (Ln O)) (ag : ∀ o j, (o < 68 ∨ 78 < o) → J o j = I o j) (f : Fr J K) : Bas T A O K ∧ Cch O K ∧ RF I K := by
  refine ⟨bas_fr (bas_ag b (fun o j ho => ag o j (by omega))) f, cch_fr ⟨Or.inr ⟨V, rc, sm⟩, evry_ag c.2.1 (fun o j h1 h2 => ag o j (by omega)), star_ag c.2.2 (fun j => ag 1 j (by omega))⟩ f, rf_t ?_ (rf_fr f)⟩
  intro o j hr
  refine ag o j ?_
  rcases Nat.lt_or_ge o 68 with h1 | h1
  · exact Or.inl h1
  · rcases Nat.lt_or_ge 78 o with h2 | h2
    · exact Or.inr h2
    · rw [rst_w (by omega) (by omega)] at hr; exact absurd hr (by decide)
theorem qs_evry (b : Bas T A O I) (c : Cch O I) {J K : Mem} (rc : RC 79 (Hn O) (Ln O) J) (ag : ∀ o j, (o < 79 ∨ 89 < o) → J o j = I o j) (f : Fr J K) : Bas T A O K ∧ Cch O K ∧ RF I K := by
  refine ⟨bas_fr (bas_ag b (fun o j ho => ag o j (by omega))) f, cch_fr ⟨soon_ag c.1 (fun o j h1 h2 => ag o j (by omega)), Or.inr ⟨_, rc, ⟨fun _ => rfl, rfl, Nat.le_refl _⟩⟩, star_ag c.2.2 (fun j => ag 1 j (by omega))⟩ f, rf_t ?_ (rf_fr f)⟩
  intro o j hr
  refine ag o j ?_
  rcases Nat.lt_or_ge o 79 with h1 | h1
  · exact Or.inl h1
  · rcases Nat.lt_or_ge 89 o with h2 | h2
    · exact Or.inr h2
    · rw [rst_w (by omega) (by omega)] at hr; exact absurd hr (by decide)
theorem c_best (k : Rk T A R) {a : Nat} (ha : a < 3) {h0 : Int} {V : List Lf} (rc : RC R h0 V I) : f_X5_best T A R (a : Int) I = some (bv (kk a) V) := by
  obtain ⟨k0, k1, k2, k3, k4, k5, k6, k7, k8, k9, k10⟩ := rk_ev k
  unfold f_X5_best
  rw [if_pos k0, k7, some_bind, rc.1]
  cases hbl : bl (key (kk a)) V with
  | none =>
    have := (bl_nil _ _).mp hbl
    subst this
    rw [if_pos (by decide), bv_none hbl]
  | some m =>
    have hne : V ≠ [] := fun e => by rw [e] at hbl; exact absurd hbl (by simp [bl])
    have hlen : 0 < V.length := List.length_pos_iff.mpr hne
    rw [if_neg (by omega), k3, some_bind, rk_lv k ha, some_bind, (rc.2.1 a ha m hbl).1, bv_some hbl]
end
