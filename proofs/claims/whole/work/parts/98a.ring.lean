/-! B: who needs whom, through others too; the rounds. -/
def wb (N : Nat → Nat → Bool) : Nat → Nat → Nat → Bool
  | 0 => N
  | k + 1 => fun i m => wb N k i m || (wb N k i k && wb N k k m)
theorem wb_s (N : Nat → Nat → Bool) (k i m : Nat) : wb N (k + 1) i m = (wb N k i m || (wb N k i k && wb N k k m)) := rfl
def nbt (O : Ofc) : Nat → Nat → Bool := fun i m => decide (i < oN O) && hb (O 12 i) m
def Wb (O : Ofc) : Nat → Nat → Bool := wb (nbt O) (oN O)
theorem wb_tr {N : Nat → Nat → Bool} : ∀ k i j m, j < k → wb N k i j = true → wb N k j m = true → wb N k i m = true := by
  intro k
  induction k with
  | zero => intro i j m h; exact absurd h (by omega)
  | succ k ih =>
    intro i j m hj h1 h2
    rw [wb_s, Bool.or_eq_true, Bool.and_eq_true] at h1 h2 ⊢
    by_cases e : j = k
    · subst e
      right
      exact ⟨h1.elim id (fun q => q.1), h2.elim id (fun q => q.2)⟩
    · have hj' : j < k := by omega
      rcases h1 with h1 | ⟨h1, h1'⟩
      · rcases h2 with h2 | ⟨h2, h2'⟩
        · exact Or.inl (ih i j m hj' h1 h2)
        · exact Or.inr ⟨ih i j k hj' h1 h2, h2'⟩
      · rcases h2 with h2 | ⟨h2, h2'⟩
        · exact Or.inr ⟨h1, ih k j m hj' h1' h2⟩
        · exact Or.inr ⟨h1, h2'⟩
theorem wb_0 {N : Nat → Nat → Bool} : ∀ k i m, N i m = true → wb N k i m = true := by
  intro k
  induction k with
  | zero => intro i m h; exact h
  | succ k ih => intro i m h; rw [wb_s, ih i m h, Bool.true_or]
theorem wb_out {N : Nat → Nat → Bool} {n : Nat} (h : ∀ i m, n ≤ m → N i m = false) : ∀ k i m, n ≤ m → wb N k i m = false := by
  intro k
  induction k with
  | zero => intro i m hm; exact h i m hm
  | succ k ih => intro i m hm; rw [wb_s, ih i m hm, ih k m hm, Bool.and_false]; rfl
theorem wb_row {N : Nat → Nat → Bool} {n : Nat} (h : ∀ i m, n ≤ i → N i m = false) : ∀ k i m, n ≤ i → wb N k i m = false := by
  intro k
  induction k with
  | zero => intro i m hm; exact h i m hm
  | succ k ih => intro i m hm; rw [wb_s, ih i m hm, ih i k hm, Bool.false_and]; rfl
theorem wb_more {N : Nat → Nat → Bool} {n : Nat} (h : ∀ i m, n ≤ m → N i m = false) : ∀ k, wb N (n + k) = wb N n := by
  intro k
  induction k with
  | zero => rfl
  | succ k ih =>
    rw [← Nat.add_assoc]
    funext i m
    rw [wb_s, wb_out h (n + k) i (n + k) (by omega), Bool.false_and, Bool.or_false, ih]
theorem nbt_m {O : Ofc} (wf : WF O) (i m : Nat) (h : oN O ≤ m) : nbt O i m = false := by
  obtain ⟨hn, en⟩ := on_le wf
  unfold nbt
  by_cases c : i < oN O
  · have w := wf.2.2.2.2.2.2.2.2.1 i (by omega)
    have := w.2.2.2.2.2.2.2.2.1.1
    rw [this.2 m (by unfold oN at h; omega), Bool.and_false]
  · rw [decide_eq_false c, Bool.false_and]
theorem nbt_i {O : Ofc} (i m : Nat) (h : oN O ≤ i) : nbt O i m = false := by
  unfold nbt
  rw [decide_eq_false (by omega), Bool.false_and]
section
variable {T : Knd} {A : Rfs} {O : Ofc} {I : Mem}
theorem q101 (h : Ag T A) : (T 101).1 = 6 ∧ gr T A 6 0 101 = some 102 ∧ gr T A 6 1 101 = some 103 ∧ gr T A 6 2 101 = some 104 ∧ gr T A 6 3 101 = some 105 ∧ gr T A 6 4 101 = some 106 ∧ (∀ k I, gi T 6 k 101 I = some (I 101 k)) := by
  refine ⟨by rw [kT_101 h], ?_, ?_, ?_, ?_, ?_, fun k I => ?_⟩
  · exact ev_gr (kT_101 h) rfl (kA h (by decide +kernel)) (by decide)
  · exact ev_gr (kT_101 h) rfl (kA h (by decide +kernel)) (by decide)
  · exact ev_gr (kT_101 h) rfl (kA h (by decide +kernel)) (by decide)
  · exact ev_gr (kT_101 h) rfl (kA h (by decide +kernel)) (by decide)
  · exact ev_gr (kT_101 h) rfl (kA h (by decide +kernel)) (by decide)
  · exact ev_gi (kT_101 h) rfl k I
theorem c_follow_ (h : Ag T A) {n : Nat} (hn : n ≤ 8) (h5 : I 101 5 = (n : Int)) {N : Nat → Nat → Bool} (hN : ∀ i m, i < n → hb (I 102 i) m = N i m) : OK (f_X6_followNeeds T A 101 I) (fun J => (∀ i m, i < n → hb (J 105 i) m = wb N n i m) ∧ Fo 105 105 I J) := by
  obtain ⟨k0, k1, k2, k3, k4, k5, k6⟩ := q101 h
  unfold f_X6_followNeeds
  rw [if_pos k0, k1, some_bind, k4, some_bind]
  unfold acp
  rw [kT_102 h, kT_105 h, if_pos (by decide), some_bind]
  obtain ⟨U, eU⟩ : ∃ U : Mem, U = fun x j => if x = 105 ∧ (0 : Int).toNat ≤ j ∧ j < (0 : Int).toNat + (8 : Int).toNat then I 102 ((0 : Int).toNat + (j - (0 : Int).toNat)) else I x j := ⟨_, rfl⟩
  rw [← eU]
  have z8 : (0 : Int).toNat = 0 ∧ (8 : Int).toNat = 8 := ⟨rfl, rfl⟩
  rw [z8.1, z8.2] at eU
  have u1 : ∀ i, i < 8 → U 105 i = I 102 i := fun i hi => by
    rw [eU]
    show (if _ then _ else _) = _
    rw [if_pos (by omega), show 0 + (i - 0) = i by omega]
  have u2 : Fo 105 105 I U := fun x j hx => by
    rw [eU]
    show (if _ then _ else _) = _
    rw [if_neg (by omega)]
  refine it_run (fun k (x : Int × Mem) => x.1 = (k : Int) ∧ (∀ i m, i < n → hb (x.2 105 i) m = wb N k i m) ∧ Fo 105 105 I x.2) n ?_ ?_ 0 FU _ (by omega) (by unfold FU; omega) ⟨rfl, fun i m hi => by (try dsimp only); rw [u1 i (by omega)]; exact hN i m hi, u2⟩
  · rintro k ⟨x1, M⟩ hk ⟨rfl, hW, hF⟩
    try dsimp only at hW hF ⊢
    rw [k6, some_bind, hF _ _ (by omega), h5, if_pos (by omega)]
    refine it_run (fun t (x : Int × Mem) => x.1 = (t : Int) ∧ (∀ i m, i < n → hb (x.2 105 i) m = if i < t then wb N (k + 1) i m else wb N k i m) ∧ Fo 105 105 I x.2) n ?_ ?_ 0 FU _ (by omega) (by unfold FU; omega) ⟨rfl, fun i m hi => by rw [if_neg (by omega)]; exact hW i m hi, hF⟩
    · rintro t ⟨x1, V⟩ ht ⟨rfl, hV, hG⟩
      try dsimp only at hV hG ⊢
      rw [k6, some_bind, hG _ _ (by omega), h5, if_pos (by omega), some_bind, ev_ld (kT_105 h), if_pos (by omega), some_bind, Int.toNat_natCast, f_hasBit (by omega), some_bind, ia_1 (by omega)]
      have e1 : hb (V 105 t) k = wb N k t k := by rw [hV t k ht, if_neg (by omega)]
      cases hx : hb (V 105 t) k
      · rw [if_pos (show (if false = true then (1 : Int) else 0) = 0 from rfl)]
        refine ok_i ⟨rfl, fun i m hi => ?_, hG⟩
        try dsimp only
        rw [hV i m hi]
        by_cases c : i = t
        · subst c
          rw [if_neg (by omega), if_pos (by omega), wb_s, ← e1, hx, Bool.false_and, Bool.or_false]
        · by_cases c2 : i < t
          · rw [if_pos c2, if_pos (by omega)]
          · rw [if_neg c2, if_neg (by omega)]
      · rw [if_neg (show ¬ (if true = true then (1 : Int) else 0) = 0 by decide), some_bind, ev_ld (kT_105 h), if_pos (by omega), some_bind, some_bind, ev_ld (kT_105 h), if_pos (by omega), some_bind, ev_sto (kT_105 h), if_pos (by omega), some_bind, Int.toNat_natCast, Int.toNat_natCast]
        refine ok_i ⟨rfl, fun i m hi => ?_, fo_mu hG (by decide) (by decide)⟩
        try dsimp only
        by_cases c : i = t
        · subst c
          rw [mu_s, hb_or, hV i m hi, hV k m hk, if_neg (show ¬ i < i by omega), if_pos (show i < i + 1 by omega), wb_s N k i m, ← e1, hx, Bool.true_and]
          by_cases c2 : k < i
          · rw [if_pos c2, wb_s]
            cases wb N k i m <;> cases wb N k k k <;> cases wb N k k m <;> rfl
          · rw [if_neg c2]
        · rw [mu_o _ _ (by omega), hV i m hi]
          by_cases c2 : i < t
          · rw [if_pos c2, if_pos (by omega)]
          · rw [if_neg c2, if_neg (by omega)]
    · rintro ⟨x1, V⟩ ⟨rfl, hV, hG⟩
      try dsimp only at hV hG ⊢
      rw [k6, some_bind, hG _ _ (by omega), h5, if_neg (by omega), ia_1 (by omega)]
      refine ok_i ⟨rfl, fun i m hi => ?_, hG⟩
      try dsimp only
      rw [hV i m hi, if_pos hi]
  · rintro ⟨x1, M⟩ ⟨rfl, hW, hF⟩
    try dsimp only at hW hF ⊢
    rw [k6, some_bind, hF _ _ (by omega), h5, if_neg (by omega)]
    exact ok_i ⟨hW, hF⟩
theorem c_rounds (h : Ag T A) {n : Nat} (hn : n ≤ 8) (h5 : I 101 5 = (n : Int)) {N : Nat → Nat → Bool} (hN : ∀ i m, i < n → hb (I 102 i) m = N i m) : OK (f_X6_rounds T A 101 I) (fun z => z.1 = sor (fun i => wb N n i i) n ∧ (∀ i m, i < n → hb (z.2 105 i) m = wb N n i m) ∧ Fo 105 105 I z.2) := by
  obtain ⟨k0, k1, k2, k3, k4, k5, k6⟩ := q101 h
  unfold f_X6_rounds
  rw [if_pos k0]
  refine ok_b (ok_m (c_follow_ h hn h5 hN) (fun J hJ => ?_))
  obtain ⟨j1, j2⟩ := hJ
  refine ok_e (v := (sor (fun i => wb N n i i) n, J)) ?_ ⟨rfl, j1, j2⟩
  refine it_seq (fun i => (sor (fun i => wb N n i i) i, (i : Int))) n (fun i hi => ?_) ?_ FU (by unfold FU; omega)
  · try dsimp only
    rw [k6, some_bind, j2 _ _ (by omega), h5, if_pos (by omega), k4, some_bind, ev_ld (kT_105 h), if_pos (by omega), some_bind, Int.toNat_natCast, f_hasBit (by omega), some_bind, ia_1 (by omega), j1 i i hi, sor]
    cases wb N n i i <;> rfl
  · try dsimp only
    rw [k6, some_bind, j2 _ _ (by omega), h5, if_neg (by omega)]
end
