/-! B: the class's rows: one that is found. -/
def Rk (T : Knd) (A : Rfs) (R : Nat) : Prop := T R = (5, 0) ∧ (A R 0 = R + 1 ∧ A R 1 = R + 3 ∧ A R 2 = R + 4 ∧ A R 3 = R + 5 ∧ A R 4 = R + 6 ∧ A R 5 = R + 10) ∧ T (R + 3) = (20, 8) ∧ T (R + 4) = (20, 3) ∧ T (R + 5) = (20, 3) ∧ T (R + 6) = (24, 3) ∧ (∀ k, k < 3 → A (R + 6) k = R + 7 + k ∧ T (R + 7 + k) = (20, 8)) ∧ T (R + 10) = (20, 8) ∧ Wk T A (R + 1)
def kk (a : Nat) : Int := if a = 0 then 0 else if a = 1 then 2 else 3
def Ra (R : Nat) (a : Nat) (V : List Lf) (I : Mem) : Prop := ∀ m, bl (key (kk a)) V = some m → I (R + 4) a = key (kk a) m ∧ I (R + 5) a = (m.2.2.1 : Int) ∧ m.2.2.1 ≤ 8 ∧ ∀ t, t < m.2.2.1 → I (R + 7 + a) t = m.2.1 t
def Rl (R : Nat) (V : List Lf) (I : Mem) : Prop := ∀ m, bl (key 0) V = some m → ∀ o, o < 8 → I (R + 10) o = ev (m.1 (4 + o))
def Rn (R : Nat) (h0 : Int) (V : List Lf) (I : Mem) : Prop := (∀ m, bl (key 1) V = some m → I R 11 = (m.2.2.1 : Int)) ∧ (V = [] → I R 11 = -1 ∧ I R 12 = 0) ∧ (V ≠ [] → I R 12 = allS h0 V) ∧ I R 13 = somS h0 V
def RC (R : Nat) (h0 : Int) (V : List Lf) (I : Mem) : Prop := I R 10 = (V.length : Int) ∧ (∀ a, a < 3 → Ra R a V I) ∧ Rl R V I ∧ Rn R h0 V I
section
variable {T : Knd} {A : Rfs} {O : Ofc} {I : Mem} {W : Wkr} {p : Nat → Int} {n : Nat} {u : Int} {R : Nat} {h0 : Int} {V : List Lf}
theorem rk_68 (h : Ag T A) : Rk T A 68 := by
  refine ⟨kT_68 h, ⟨kA h (by decide +kernel), kA h (by decide +kernel), kA h (by decide +kernel), kA h (by decide +kernel), kA h (by decide +kernel), kA h (by decide +kernel)⟩, kT_71 h, kT_72 h, kT_73 h, kT_74 h, fun k hk => ?_, kT_78 h, wk_69 h⟩
  rcases (by omega : k = 0 ∨ k = 1 ∨ k = 2) with e | e | e
  · subst e; exact ⟨kA h (by decide +kernel), kT_75 h⟩
  · subst e; exact ⟨kA h (by decide +kernel), kT_76 h⟩
  · subst e; exact ⟨kA h (by decide +kernel), kT_77 h⟩
theorem rk_79 (h : Ag T A) : Rk T A 79 := by
  refine ⟨kT_79 h, ⟨kA h (by decide +kernel), kA h (by decide +kernel), kA h (by decide +kernel), kA h (by decide +kernel), kA h (by decide +kernel), kA h (by decide +kernel)⟩, kT_82 h, kT_83 h, kT_84 h, kT_85 h, fun k hk => ?_, kT_89 h, wk_80 h⟩
  rcases (by omega : k = 0 ∨ k = 1 ∨ k = 2) with e | e | e
  · subst e; exact ⟨kA h (by decide +kernel), kT_86 h⟩
  · subst e; exact ⟨kA h (by decide +kernel), kT_87 h⟩
  · subst e; exact ⟨kA h (by decide +kernel), kT_88 h⟩
theorem rk_90 (h : Ag T A) : Rk T A 90 := by
  refine ⟨kT_90 h, ⟨kA h (by decide +kernel), kA h (by decide +kernel), kA h (by decide +kernel), kA h (by decide +kernel), kA h (by decide +kernel), kA h (by decide +kernel)⟩, kT_93 h, kT_94 h, kT_95 h, kT_96 h, fun k hk => ?_, kT_100 h, wk_91 h⟩
  rcases (by omega : k = 0 ∨ k = 1 ∨ k = 2) with e | e | e
  · subst e; exact ⟨kA h (by decide +kernel), kT_97 h⟩
  · subst e; exact ⟨kA h (by decide +kernel), kT_98 h⟩
  · subst e; exact ⟨kA h (by decide +kernel), kT_99 h⟩
theorem rk_ev (k : Rk T A R) : (T R).1 = 5 ∧ gr T A 5 0 R = some (R + 1) ∧ gr T A 5 1 R = some (R + 3) ∧ gr T A 5 2 R = some (R + 4) ∧ gr T A 5 3 R = some (R + 5) ∧ gr T A 5 4 R = some (R + 6) ∧ gr T A 5 5 R = some (R + 10) ∧ (∀ q I, gi T 5 q R I = some (I R q)) ∧ (∀ q v I, pi T 5 q R v I = some (mu I R q v)) ∧ (∀ q I, pz T 5 q R 0 I = some (mu I R q 0)) ∧ (∀ q I, pz T 5 q R 1 I = some (mu I R q 1)) :=
  ⟨by rw [k.1], ev_gr k.1 rfl k.2.1.1 (by omega), ev_gr k.1 rfl k.2.1.2.1 (by omega), ev_gr k.1 rfl k.2.1.2.2.1 (by omega), ev_gr k.1 rfl k.2.1.2.2.2.1 (by omega), ev_gr k.1 rfl k.2.1.2.2.2.2.1 (by omega), ev_gr k.1 rfl k.2.1.2.2.2.2.2 (by omega), ev_gi k.1 rfl, ev_pi k.1 rfl, ev_pz0 k.1 rfl, ev_pz1 k.1 rfl⟩
theorem rk_lv (k : Rk T A R) {a : Nat} (ha : a < 3) (J : Mem) : ld T 20 (R + 4) (a : Int) J = some (J (R + 4) a) := by rw [ev_ld k.2.2.2.1, if_pos (by omega), Int.toNat_natCast]
theorem rk_ll (k : Rk T A R) {a : Nat} (ha : a < 3) (J : Mem) : ld T 20 (R + 5) (a : Int) J = some (J (R + 5) a) := by rw [ev_ld k.2.2.2.2.1, if_pos (by omega), Int.toNat_natCast]
theorem rk_sv (k : Rk T A R) {a : Nat} (ha : a < 3) (v : Int) (J : Mem) : sto T 20 (R + 4) (a : Int) v J = some (mu J (R + 4) a v) := by rw [ev_sto k.2.2.2.1, if_pos (by omega), Int.toNat_natCast]
theorem rk_sl (k : Rk T A R) {a : Nat} (ha : a < 3) (v : Int) (J : Mem) : sto T 20 (R + 5) (a : Int) v J = some (mu J (R + 5) a v) := by rw [ev_sto k.2.2.2.2.1, if_pos (by omega), Int.toNat_natCast]
theorem rk_lr (k : Rk T A R) {a : Nat} (ha : a < 3) : lr T A 24 (R + 6) (a : Int) = some (R + 7 + a) := by
  rw [ev_lr (n := 3) (b := R + 7) k.2.2.2.2.2.1 (fun j hj => (k.2.2.2.2.2.2.1 j hj).1) (by omega), if_pos (by omega), Int.toNat_natCast]
def bez (key : Lf → Int) (V : List Lf) (v : Int) (n : Nat) : Bool := match bl key V with
  | none => true
  | some m => decide (v < key m) || (decide (v = key m) && decide (n < m.2.2.1))
theorem bez_none {key : Lf → Int} {v : Int} (h : bl key V = none) : bez key V v n = true := by unfold bez; rw [h]
theorem bez_some {key : Lf → Int} {v : Int} {m : Lf} (h : bl key V = some m) : bez key V v n = (decide (v < key m) || (decide (v = key m) && decide (n < m.2.2.1))) := by unfold bez; rw [h]
theorem c_better (k : Rk T A R) {a : Nat} (ha : a < 3) (hf : I R 10 = (V.length : Int)) (r : Ra R a V I) (v : Int) : f_X5_isBetter T A R (a : Int) v (n : Int) I = some (if bez (key (kk a)) V v n = true then 1 else 0) := by
  obtain ⟨k0, k1, k2, k3, k4, k5, k6, k7, k8, k9, k10⟩ := rk_ev k
  unfold f_X5_isBetter
  rw [if_pos k0, k7, some_bind, hf]
  cases hbl : bl (key (kk a)) V with
  | none =>
    have hz := bez_none (n := n) (v := v) hbl
    have := (bl_nil _ _).mp hbl
    subst this
    rw [if_pos (by rfl), hz]; rfl
  | some m =>
    have hz := bez_some (n := n) (v := v) hbl
    rw [hz]
    have hne : V ≠ [] := fun e => by rw [e] at hbl; exact absurd hbl (by simp [bl])
    have hlen : 0 < V.length := List.length_pos_iff.mpr hne
    obtain ⟨r1, r2, r3, r4⟩ := r m hbl
    rw [if_neg (by omega), k3, some_bind, rk_lv k ha, some_bind, r1]
    by_cases c1 : v < key (kk a) m
    · rw [if_pos c1, decide_eq_true c1]; rfl
    · rw [if_neg c1, decide_eq_false c1, Bool.false_or, some_bind, rk_lv k ha, some_bind, r1]
      by_cases c2 : v = key (kk a) m
      · rw [if_pos c2, decide_eq_true c2, Bool.true_and, k4, some_bind, rk_ll k ha, some_bind, r2]
        by_cases c3 : n < m.2.2.1
        · rw [if_pos (by omega), decide_eq_true c3]; rfl
        · rw [if_neg (by omega), decide_eq_false c3]; rfl
      · rw [if_neg c2, decide_eq_false c2]; rfl
theorem c_put5 (k : Rk T A R) {a : Nat} (ha : a < 3) (v : Int) : OK (f_X5_put T A R (a : Int) v (n : Int) I) (fun J => J (R + 4) a = v ∧ J (R + 5) a = (n : Int) ∧ (∀ t, t < 8 → J (R + 7 + a) t = I (R + 3) t) ∧ ∀ o j, ¬ (o = R + 4 ∧ j = a) → ¬ (o = R + 5 ∧ j = a) → o ≠ R + 7 + a → J o j = I o j) := by
  obtain ⟨k0, k1, k2, k3, k4, k5, k6, k7, k8, k9, k10⟩ := rk_ev k
  unfold f_X5_put
  rw [if_pos k0, k3, some_bind, rk_sv k ha, some_bind, k4, some_bind, rk_sl k ha, some_bind, k2, some_bind, k5, some_bind, rk_lr k ha, some_bind]
  unfold acp
  rw [k.2.2.1, (k.2.2.2.2.2.2.1 a ha).2, if_pos (by decide), some_bind]
  have z8 : (0 : Int).toNat = 0 ∧ (8 : Int).toNat = 8 := ⟨rfl, rfl⟩
  rw [z8.1, z8.2]
  refine ok_i ⟨?_, ?_, fun t ht => ?_, fun o j h1 h2 h3 => ?_⟩
  · dsimp only
    rw [if_neg (by omega), mu_o _ _ (by omega), mu_s]
  · dsimp only
    rw [if_neg (by omega), mu_s]
  · dsimp only
    rw [if_pos (by omega), show 0 + (t - 0) = t by omega, mu_o _ _ (by omega), mu_o _ _ (by omega)]
  · dsimp only
    rw [if_neg (by omega), mu_o _ _ (by omega), mu_o _ _ (by omega)]
/-- the aim's row with one more found -/
theorem ra_put {a : Nat} {J : Mem} (hn : n ≤ 8) (hrow : ∀ t, t < n → I (R + 3) t = p t) (hb1 : bez (key (kk a)) V (kv (kk a) W (n : Int)) n = true) (j1 : J (R + 4) a = kv (kk a) W (n : Int)) (j2 : J (R + 5) a = (n : Int)) (j3 : ∀ t, t < 8 → J (R + 7 + a) t = I (R + 3) t) : Ra R a (V ++ [(W, p, n, u)]) J := by
  have e : bl (key (kk a)) (V ++ [(W, p, n, u)]) = some (W, p, n, u) := by
    rw [bl_snoc]
    cases hbl : bl (key (kk a)) V with
    | none => rfl
    | some m =>
      rw [bez_some hbl] at hb1
      show (if bet (key (kk a)) (W, p, n, u) m then some (W, p, n, u) else some m) = _
      rw [if_pos]
      exact hb1
  intro m hm
  rw [e] at hm
  have em : (W, p, n, u) = m := by simpa using hm
  subst em
  exact ⟨j1, j2, hn, fun t ht => by have ht' : t < n := ht; rw [j3 t (by omega)]; exact hrow t ht'⟩
theorem ra_stay {a : Nat} (r : Ra R a V I) (hb1 : bez (key (kk a)) V (kv (kk a) W (n : Int)) n = false) : Ra R a (V ++ [(W, p, n, u)]) I ∧ bl (key (kk a)) (V ++ [(W, p, n, u)]) = bl (key (kk a)) V := by
  have e : bl (key (kk a)) (V ++ [(W, p, n, u)]) = bl (key (kk a)) V := by
    rw [bl_snoc]
    cases hbl : bl (key (kk a)) V with
    | none => rw [bez_none hbl] at hb1; exact absurd hb1 (by decide)
    | some m =>
      rw [bez_some hbl] at hb1
      show (if bet (key (kk a)) (W, p, n, u) m then some (W, p, n, u) else some m) = _
      rw [if_neg]
      have : bet (key (kk a)) (W, p, n, u) m = false := hb1
      rw [this]; decide
  exact ⟨fun m hm => by rw [e] at hm; exact r m hm, e⟩
theorem ra_ag {a : Nat} {J : Mem} (r : Ra R a V I) (e : ∀ o j, (o = R + 4 ∧ j = a) ∨ (o = R + 5 ∧ j = a) ∨ o = R + 7 + a → J o j = I o j) : Ra R a V J := fun m hm => by
  obtain ⟨r1, r2, r3, r4⟩ := r m hm
  exact ⟨by rw [e _ _ (by omega)]; exact r1, by rw [e _ _ (by omega)]; exact r2, r3, fun t ht => by rw [e _ _ (by omega)]; exact r4 t ht⟩
theorem c_take (k : Rk T A R) (w : CW W (R + 1) I) (nd : Nd O W n u) (hh : I R 8 = h0) (hu : I R 9 = u) (hrow : ∀ t, t < n → I (R + 3) t = p t) (rc : RC R h0 V I) (hV : V.length < 2000000000) : OK (f_X5_take T A R (n : Int) I) (fun J => RC R h0 (V ++ [(W, p, n, u)]) J ∧ ∀ o j, ¬ (o = R ∧ 10 ≤ j) → o ≠ R + 4 → o ≠ R + 5 → ¬ (R + 7 ≤ o ∧ o ≤ R + 10) → J o j = I o j) := by
  have hn := nd_n nd
  obtain ⟨k0, k1, k2, k3, k4, k5, k6, k7, k8, k9, k10⟩ := rk_ev k
  have wk := k.2.2.2.2.2.2.2.2
  have wg := (wk_ev wk).2.2.2.2.1
  obtain ⟨c1, c2, c3, c4⟩ := rc
  have e0 : kk 0 = 0 := rfl
  have kv0 : kv 0 W (n : Int) = W 0 := rfl
  have kv2 : kv (kk 1) W (n : Int) = W 2 := rfl
  have kv3 : kv (kk 2) W (n : Int) = W 3 := rfl
  unfold f_X5_take
  rw [if_pos k0, k7, some_bind, k7, some_bind, k1, some_bind, wg, some_bind, w.1.1, hh, hu]
  have b0 := c_better (n := n) k (a := 0) (by decide) c1 (c2 0 (by decide)) (W 0)
  rw [show (((0 : Nat) : Int)) = 0 from rfl] at b0
  rw [b0, some_bind]
  -- the first aim
  refine ok_tn (ok_m (P := fun z => match z with | .inl J => Ra R 0 (V ++ [(W, p, n, u)]) J ∧ Rl R (V ++ [(W, p, n, u)]) J ∧ ∀ o j, ¬ (o = R + 4 ∧ j = 0) → ¬ (o = R + 5 ∧ j = 0) → o ≠ R + 7 → o ≠ R + 10 → J o j = I o j | .inr _ => False) ?_ ?_)
  · by_cases hb1 : bez (key (kk 0)) V (W 0) n = true
    · rw [if_pos hb1, if_neg (by decide), some_bind, wg, some_bind, w.1.1]
      refine ok_b (ok_m (c_put5 (n := n) k (a := 0) (by decide) (W 0)) (fun J hJ => ?_))
      obtain ⟨j1, j2, j3, j4⟩ := hJ
      rw [some_bind, (wk_ev wk).2.2.2.1, some_bind, k6, some_bind]
      unfold acp
      rw [wk.2.1, k.2.2.2.2.2.2.2.1, if_pos (by decide), some_bind]
      have z8 : (0 : Int).toNat = 0 ∧ (8 : Int).toNat = 8 := ⟨rfl, rfl⟩
      rw [z8.1, z8.2]
      refine ok_i ⟨?_, ?_, fun o j h1 h2 h3 h4 => ?_⟩
      · refine ra_put (I := I) hn hrow hb1 ?_ ?_ (fun t ht => ?_)
        · (try dsimp only); rw [if_neg (by omega)]; exact j1
        · (try dsimp only); rw [if_neg (by omega)]; exact j2
        · (try dsimp only); rw [if_neg (by omega)]; exact j3 t ht
      · intro m hm o ho
        have e : bl (key 0) (V ++ [(W, p, n, u)]) = some (W, p, n, u) := by
          rw [bl_snoc]
          rw [e0] at hb1
          cases hbl : bl (key 0) V with
          | none => rfl
          | some m =>
            rw [bez_some hbl] at hb1
            show (if bet (key 0) (W, p, n, u) m then some (W, p, n, u) else some m) = _
            rw [if_pos]
            exact hb1
        rw [e] at hm
        have em : (W, p, n, u) = m := by simpa using hm
        subst em
        dsimp only
        rw [if_pos (by omega), show 0 + (o - 0) = o by omega, j4 _ _ (by omega) (by omega) (by omega)]
        exact w.2 o ho
      · dsimp only
        rw [if_neg (by omega)]; exact j4 o j h1 h2 h3
    · have hb2 : bez (key (kk 0)) V (kv (kk 0) W (n : Int)) n = false := by
        rw [e0, kv0]; rw [e0] at hb1; simpa using hb1
      have st := ra_stay (p := p) (u := u) (c2 0 (by decide)) hb2
      rw [if_neg hb1, if_pos rfl]
      refine ok_i ⟨st.1, fun m hm => ?_, fun _ _ _ _ _ _ => rfl⟩
      have e := st.2
      rw [e0] at e
      rw [e] at hm
      exact c3 m hm
  · rintro (J | x) hJ
    · obtain ⟨r0, rl, ag⟩ := hJ
      show OK _ _
      dsimp only
      rw [some_bind, wg, some_bind, ag _ _ (by omega) (by omega) (by omega) (by omega), w.1.2.2.1]
      have fJ : J R 10 = (V.length : Int) := by rw [ag _ _ (by omega) (by omega) (by omega) (by omega)]; exact c1
      have ra1 : Ra R 1 V J := ra_ag (c2 1 (by decide)) (fun o j ho => ag o j (by omega) (by omega) (by omega) (by omega))
      have b1 := c_better (n := n) k (a := 1) (by decide) fJ ra1 (W 2)
      rw [show (((1 : Nat) : Int)) = 1 from rfl] at b1
      rw [b1, some_bind]
      have rowJ : ∀ t, t < n → J (R + 3) t = p t := fun t ht => by rw [ag _ _ (by omega) (by omega) (by omega) (by omega)]; exact hrow t ht
      refine ok_tn (ok_m (P := fun z => match z with | .inl K => Ra R 1 (V ++ [(W, p, n, u)]) K ∧ ∀ o j, ¬ (o = R + 4 ∧ j = 1) → ¬ (o = R + 5 ∧ j = 1) → o ≠ R + 8 → K o j = J o j | .inr _ => False) ?_ ?_)
      · by_cases hb1 : bez (key (kk 1)) V (W 2) n = true
        · rw [if_pos hb1, if_neg (by decide), some_bind, wg, some_bind, ag _ _ (by omega) (by omega) (by omega) (by omega), w.1.2.2.1]
          refine ok_b (ok_m (c_put5 (n := n) k (a := 1) (by decide) (W 2)) (fun K hK => ok_i ?_))
          exact ⟨ra_put (I := J) hn rowJ hb1 hK.1 hK.2.1 hK.2.2.1, fun o j h1 h2 h3 => hK.2.2.2 o j h1 h2 (by omega)⟩
        · have hb2 : bez (key (kk 1)) V (kv (kk 1) W (n : Int)) n = false := by rw [kv2]; simpa using hb1
          rw [if_neg hb1, if_pos rfl]
          exact ok_i ⟨(ra_stay ra1 hb2).1, fun _ _ _ _ _ => rfl⟩
      · rintro (K | x) hK
        · obtain ⟨r1, ag1⟩ := hK
          show OK _ _
          dsimp only
          rw [some_bind, wg, some_bind, ag1 _ _ (by omega) (by omega) (by omega), ag _ _ (by omega) (by omega) (by omega) (by omega), w.1.2.2.2]
          have fK : K R 10 = (V.length : Int) := by rw [ag1 _ _ (by omega) (by omega) (by omega)]; exact fJ
          have ra2 : Ra R 2 V K := ra_ag (c2 2 (by decide)) (fun o j ho => by rw [ag1 o j (by omega) (by omega) (by omega), ag o j (by omega) (by omega) (by omega) (by omega)])
          have b2 := c_better (n := n) k (a := 2) (by decide) fK ra2 (W 3)
          rw [show (((2 : Nat) : Int)) = 2 from rfl] at b2
          rw [b2, some_bind]
          have rowK : ∀ t, t < n → K (R + 3) t = p t := fun t ht => by rw [ag1 _ _ (by omega) (by omega) (by omega)]; exact rowJ t ht
          refine ok_tn (ok_m (P := fun z => match z with | .inl X => Ra R 2 (V ++ [(W, p, n, u)]) X ∧ ∀ o j, ¬ (o = R + 4 ∧ j = 2) → ¬ (o = R + 5 ∧ j = 2) → o ≠ R + 9 → X o j = K o j | .inr _ => False) ?_ ?_)
          · by_cases hb1 : bez (key (kk 2)) V (W 3) n = true
            · rw [if_pos hb1, if_neg (by decide), some_bind, wg, some_bind, ag1 _ _ (by omega) (by omega) (by omega), ag _ _ (by omega) (by omega) (by omega) (by omega), w.1.2.2.2]
              refine ok_b (ok_m (c_put5 (n := n) k (a := 2) (by decide) (W 3)) (fun X hX => ok_i ?_))
              exact ⟨ra_put (I := K) hn rowK hb1 hX.1 hX.2.1 hX.2.2.1, fun o j h1 h2 h3 => hX.2.2.2 o j h1 h2 (by omega)⟩
            · have hb2 : bez (key (kk 2)) V (kv (kk 2) W (n : Int)) n = false := by rw [kv3]; simpa using hb1
              rw [if_neg hb1, if_pos rfl]
              exact ok_i ⟨(ra_stay ra2 hb2).1, fun _ _ _ _ _ => rfl⟩
          · rintro (X | x) hX
            · obtain ⟨r2, ag2⟩ := hX
              show OK _ _
              dsimp only
              have agX : ∀ o j, o ≠ R + 4 → o ≠ R + 5 → o ≠ R + 7 → o ≠ R + 8 → o ≠ R + 9 → o ≠ R + 10 → X o j = I o j := fun o j h1 h2 h3 h4 h5 h6 => by rw [ag2 o j (by omega) (by omega) (by omega), ag1 o j (by omega) (by omega) (by omega), ag o j (by omega) (by omega) (by omega) (by omega)]
              have x10 : X R 10 = (V.length : Int) := by rw [agX _ _ (by omega) (by omega) (by omega) (by omega) (by omega) (by omega)]; exact c1
              have x11 : X R 11 = I R 11 := agX _ _ (by omega) (by omega) (by omega) (by omega) (by omega) (by omega)
              have x12 : X R 12 = I R 12 := agX _ _ (by omega) (by omega) (by omega) (by omega) (by omega) (by omega)
              have x13 : X R 13 = I R 13 := agX _ _ (by omega) (by omega) (by omega) (by omega) (by omega) (by omega)
              obtain ⟨d1, d2, d3, d4⟩ := c4
              obtain ⟨fe, efe⟩ : ∃ fe : Int, fe = if V = [] then (n : Int) else imin (I R 11) (n : Int) := ⟨_, rfl⟩
              obtain ⟨ia', eia⟩ : ∃ ia' : Int, ia' = if V = [] then iand u (ixor h0 (-1)) else iand (I R 12) (iand u (ixor h0 (-1))) := ⟨_, rfl⟩
              have hl0 : ((V.length : Int) = 0) ↔ V = [] := by
                rw [← List.length_eq_zero_iff]; omega
              rw [k7, some_bind, x10]
              refine ok_tn (ok_e (v := .inl fe) ?_ ?_)
              · by_cases z : V = []
                · rw [if_pos (hl0.mpr z), efe, if_pos z]
                · rw [if_neg (fun q => z (hl0.mp q)), k7, some_bind, x11, efe, if_neg z]
              · show OK _ _
                dsimp only
                rw [k8, some_bind, k7, some_bind, mu_o _ _ (by omega), x10]
                refine ok_tn (ok_e (v := .inl ia') ?_ ?_)
                · by_cases z : V = []
                  · rw [if_pos (hl0.mpr z), eia, if_pos z]
                  · rw [if_neg (fun q => z (hl0.mp q)), k7, some_bind, mu_o _ _ (by omega), x12, eia, if_neg z]
                · show OK _ _
                  dsimp only
                  rw [k8, some_bind, k7, some_bind, k8, some_bind, k7, some_bind, k8, some_bind]
                  obtain ⟨Z, eZ⟩ : ∃ Z, Z = mu (mu (mu (mu X R 11 fe) R 12 ia') R 13 (ior (mu (mu X R 11 fe) R 12 ia' R 13) (iand u (ixor h0 (-1))))) R 10 (ia (mu (mu (mu X R 11 fe) R 12 ia') R 13 (ior (mu (mu X R 11 fe) R 12 ia' R 13) (iand u (ixor h0 (-1)))) R 10) 1) := ⟨_, rfl⟩
                  rw [← eZ]
                  have agZ : ∀ o j, ¬ (o = R ∧ 10 ≤ j ∧ j ≤ 13) → Z o j = X o j := fun o j hoj => by rw [eZ, mu_o _ _ (by omega), mu_o _ _ (by omega), mu_o _ _ (by omega), mu_o _ _ (by omega)]
                  have ums_e : ums h0 (W, p, n, u) = iand u (ixor h0 (-1)) := rfl
                  refine ok_i ⟨⟨?_, fun a ha => ?_, fun m hm o ho => ?_, ⟨fun m hm => ?_, fun q => absurd q (by simp), fun _ => ?_, ?_⟩⟩, fun o j h1 h2 h3 h4 => ?_⟩
                  · rw [eZ, mu_s, mu_o _ _ (by omega), mu_o _ _ (by omega), mu_o _ _ (by omega), x10, ia_1 (by omega), List.length_append, List.length_singleton]
                  · rcases (by omega : a = 0 ∨ a = 1 ∨ a = 2) with e | e | e
                    · subst e
                      exact ra_ag r0 (fun o j ho => by rw [agZ _ _ (by omega), ag2 _ _ (by omega) (by omega) (by omega), ag1 _ _ (by omega) (by omega) (by omega)])
                    · subst e
                      exact ra_ag r1 (fun o j ho => by rw [agZ _ _ (by omega), ag2 _ _ (by omega) (by omega) (by omega)])
                    · subst e
                      exact ra_ag r2 (fun o j ho => by rw [agZ _ _ (by omega)])
                  · rw [agZ _ _ (by omega), ag2 _ _ (by omega) (by omega) (by omega), ag1 _ _ (by omega) (by omega) (by omega)]
                    exact rl m hm o ho
                  · rw [eZ, mu_o _ _ (by omega), mu_o _ _ (by omega), mu_o _ _ (by omega), mu_s, efe]
                    rw [bl_snoc] at hm
                    cases hbl : bl (key 1) V with
                    | none =>
                      rw [hbl] at hm
                      have em : (W, p, n, u) = m := by simpa [bst] using hm
                      subst em
                      rw [if_pos ((bl_nil _ _).mp hbl)]
                    | some m0 =>
                      rw [hbl] at hm
                      have z : V ≠ [] := fun e => by rw [e] at hbl; exact absurd hbl (by simp [bl])
                      rw [if_neg z, d1 m0 hbl]
                      have hm' : (if bet (key 1) (W, p, n, u) m0 then some (W, p, n, u) else some m0) = some m := hm
                      have bdef : bet (key 1) (W, p, n, u) m0 = (decide ((n : Int) < (m0.2.2.1 : Int)) || (decide ((n : Int) = (m0.2.2.1 : Int)) && decide (n < m0.2.2.1))) := rfl
                      by_cases c : (n : Int) < (m0.2.2.1 : Int)
                      · rw [if_pos (by rw [bdef, decide_eq_true c]; rfl)] at hm'
                        have em : (W, p, n, u) = m := by simpa using hm'
                        subst em
                        unfold imin; rw [if_pos c]
                      · rw [if_neg (by rw [bdef, decide_eq_false c, decide_eq_false (p := n < m0.2.2.1) (by omega), Bool.and_false]; decide)] at hm'
                        have em : m0 = m := by simpa using hm'
                        subst em
                        unfold imin; rw [if_neg c]
                  · rw [eZ, mu_o _ _ (by omega), mu_o _ _ (by omega), mu_s, eia]
                    unfold allS
                    rw [List.foldl_append]
                    show _ = iand (V.foldl (fun a l => iand a (ums h0 l)) 255) (ums h0 (W, p, n, u))
                    by_cases z : V = []
                    · rw [if_pos z, z, ums_e]
                      refine hb_ext (cn_iand _ _) (cn_iand _ _) (fun i hi => ?_)
                      show _ = hb (iand 255 (iand u (ixor h0 (-1)))) i
                      rw [hb_and 255]
                      show _ = (hb 255 i && _)
                      have h255 : hb 255 i = decide (i < 8) := (by decide +kernel : ∀ i, i < 32 → hb 255 i = decide (i < 8)) i hi
                      rw [h255, hb_an]
                      by_cases c : i < 8
                      · rw [decide_eq_true c, Bool.true_and]
                      · rw [nd.2.1.2 i (by omega)]; simp
                    · rw [if_neg z, d3 z]; rfl
                  · rw [eZ, mu_o _ _ (by omega), mu_s, mu_o _ _ (by omega), mu_o _ _ (by omega), x13, d4]
                    unfold somS
                    rw [List.foldl_append]; rfl
                  · rw [agZ _ _ (by omega), agX _ _ h2 h3 (by omega) (by omega) (by omega) (by omega)]
            · exact hX.elim
        · exact hK.elim
    · exact hJ.elim
end
