/-! B: the longest chain of needs. -/
def mxd (p : Nat → Bool) (g : Nat → Int) : Nat → Int
  | 0 => 0
  | k + 1 => if (if p k then g k else 0) ≤ mxd p g k then mxd p g k else (if p k then g k else 0)
theorem mxd_0 (p : Nat → Bool) (g : Nat → Int) : ∀ n, 0 ≤ mxd p g n := by
  intro n
  induction n with
  | zero => exact Int.le_refl _
  | succ n ih => rw [mxd]; split <;> omega
theorem mxd_ge {p : Nat → Bool} {g : Nat → Int} : ∀ n k, k < n → p k = true → g k ≤ mxd p g n := by
  intro n
  induction n with
  | zero => intro k hk; exact absurd hk (by omega)
  | succ n ih =>
    intro k hk hp
    rw [mxd]
    by_cases e : k = n
    · subst e
      rw [hp, if_pos rfl]
      split <;> omega
    · have := ih k (by omega) hp
      split <;> omega
theorem mxd_at {p : Nat → Bool} {g : Nat → Int} : ∀ n, mxd p g n = 0 ∨ ∃ k, k < n ∧ p k = true ∧ mxd p g n = g k := by
  intro n
  induction n with
  | zero => exact Or.inl rfl
  | succ n ih =>
    rw [mxd]
    by_cases c : (if p n then g n else 0) ≤ mxd p g n
    · rw [if_pos c]
      rcases ih with e | ⟨k, h1, h2, h3⟩
      · exact Or.inl e
      · exact Or.inr ⟨k, by omega, h2, h3⟩
    · rw [if_neg c]
      cases hp : p n
      · exact Or.inl rfl
      · exact Or.inr ⟨n, by omega, hp, rfl⟩
theorem mxd_ext {p : Nat → Bool} {g g' : Nat → Int} : ∀ n, (∀ k, k < n → p k = true → g k = g' k) → mxd p g n = mxd p g' n := by
  intro n
  induction n with
  | zero => intro _; rfl
  | succ n ih =>
    intro h
    rw [mxd, mxd, ih (fun k hk => h k (by omega))]
    cases hp : p n
    · rfl
    · rw [if_pos rfl, if_pos rfl, h n (by omega) hp]
def dep (N : Nat → Nat → Bool) (n : Nat) : Nat → Nat → Int
  | 0 => fun _ => 0
  | f + 1 => fun i => mxd (N i) (dep N n f) n + 1
theorem dep_s (N : Nat → Nat → Bool) (n f i : Nat) : dep N n (f + 1) i = mxd (N i) (dep N n f) n + 1 := rfl
/-- none of those that it needs needs itself round -/
def gdi (W : Nat → Nat → Bool) (n i : Nat) : Prop := i < n ∧ W i i = false ∧ ∀ m, W i m = true → W m m = false
theorem scn_sub {p q : Nat → Bool} (h : ∀ i, p i = true → q i = true) : ∀ n, scn p n ≤ scn q n := by
  intro n
  induction n with
  | zero => exact Int.le_refl _
  | succ n ih =>
    rw [scn, scn]
    cases hp : p n
    · rw [if_neg (by decide)]; split <;> omega
    · rw [h n hp]; omega
theorem scn_lt {p q : Nat → Bool} (h : ∀ i, p i = true → q i = true) {o : Nat} (h1 : p o = false) (h2 : q o = true) : ∀ n, o < n → scn p n < scn q n := by
  intro n
  induction n with
  | zero => intro h; exact absurd h (by omega)
  | succ n ih =>
    intro ho
    rw [scn, scn]
    by_cases e : o = n
    · subst e
      rw [h1, h2, if_neg (by decide), if_pos rfl]
      have := scn_sub h o
      omega
    · have := ih (by omega)
      cases hp : p n
      · rw [if_neg (by decide)]; split <;> omega
      · rw [h n hp]; omega
section
variable {N : Nat → Nat → Bool} {n : Nat}
theorem gd_need (hm : ∀ i m, n ≤ m → N i m = false) {i j : Nat} (g : gdi (wb N n) n i) (hj : N i j = true) : gdi (wb N n) n j ∧ j ≠ i ∧ scn (wb N n j) n < scn (wb N n i) n := by
  obtain ⟨g1, g2, g3⟩ := g
  have jn : j < n := by
    rcases Nat.lt_or_ge j n with c | c
    · exact c
    · rw [hm i j c] at hj; exact absurd hj (by decide)
  have wij := wb_0 n i j hj
  have wjj := g3 j wij
  have sub : ∀ m, wb N n j m = true → wb N n i m = true := fun m h => wb_tr n i j m jn wij h
  refine ⟨⟨jn, wjj, fun m h => g3 m (sub m h)⟩, fun e => ?_, scn_lt sub wjj wij n jn⟩
  rw [e, g2] at wij
  exact absurd wij (by decide)
theorem dep_fix (hm : ∀ i m, n ≤ m → N i m = false) : ∀ (f f' i : Nat), gdi (wb N n) n i → scn (wb N n i) n < (f : Int) → scn (wb N n i) n < (f' : Int) → dep N n f i = dep N n f' i := by
  intro f
  induction f with
  | zero => intro f' i g h1; have := scn_rg (wb N n i) n; exact absurd h1 (by omega)
  | succ f ih =>
    intro f' i g h1 h2
    cases f' with
    | zero => have := scn_rg (wb N n i) n; exact absurd h2 (by omega)
    | succ f' =>
      rw [dep_s, dep_s, mxd_ext n (fun k hk hp => ?_)]
      obtain ⟨q1, q2, q3⟩ := gd_need hm g hp
      exact ih f' k q1 (by omega) (by omega)
theorem dep_le (hm : ∀ i m, n ≤ m → N i m = false) : ∀ f i, gdi (wb N n) n i → dep N n f i ≤ scn (wb N n i) n + 1 := by
  intro f
  induction f with
  | zero => intro i g; have := scn_rg (wb N n i) n; show (0 : Int) ≤ _; omega
  | succ f ih =>
    intro i g
    rw [dep_s]
    rcases mxd_at (p := N i) (g := dep N n f) n with e | ⟨k, h1, h2, h3⟩
    · have := scn_rg (wb N n i) n
      omega
    · obtain ⟨q1, q2, q3⟩ := gd_need hm g h2
      have := ih k q1
      omega
/-- the depth, by its own equation -/
theorem dep_eq (hm : ∀ i m, n ≤ m → N i m = false) (hn : n ≤ 8) {i : Nat} (g : gdi (wb N n) n i) : dep N n 12 i = mxd (N i) (dep N n 12) n + 1 := by
  have hc := scn_rg (wb N n i) n
  rw [dep_fix hm 12 13 i g (by omega) (by omega)]
  rfl
theorem dep_n (hm : ∀ i m, n ≤ m → N i m = false) {i : Nat} (g : gdi (wb N n) n i) : dep N n 12 i ≤ n := by
  have h1 := dep_le hm 12 i g
  have h2 := scn_no g.2.1 n g.1
  omega
end
section
variable {T : Knd} {A : Rfs} {O : Ofc} {I : Mem}
theorem m_depthOf (h : Ag T A) (wf : WF O) (hm : MW O 0 I) : ∀ (f i : Nat), gdi (Wb O) (oN O) i → scn (Wb O i) (oN O) < (f : Int) → f_X12_depthOf f T A 129 (i : Int) I = some (dep (nbt O) (oN O) f i) := by
  obtain ⟨hn, en⟩ := on_le wf
  have g17 : gr T A 12 17 129 = some 136 := by simp only [agMg h]
  have g19 : gr T A 12 19 129 = some 138 := by simp only [agMg h]
  have hN : ∀ i m, oN O ≤ m → nbt O i m = false := fun i m hm => nbt_m wf i m hm
  have dr : ∀ f i, gdi (Wb O) (oN O) i → dep (nbt O) (oN O) f i ≤ 9 := fun f i g => by
    have h1 := dep_le hN f i g
    have h2 := scn_rg (Wb O i) (oN O)
    unfold Wb at h2
    omega
  intro f
  induction f with
  | zero => intro i g h1; have := scn_rg (Wb O i) (oN O); exact absurd h1 (by omega)
  | succ f ih =>
    intro i g h1
    have hi := g.1
    rw [f_X12_depthOf, if_pos (by rw [kT_129 h]), dep_s]
    have nr : ∀ k, hb (O 12 i) k = nbt O i k := fun k => by unfold nbt; rw [decide_eq_true hi, Bool.true_and]
    refine it_seq (fun k => (mxd (nbt O i) (dep (nbt O) (oN O) f) k, (k : Int))) (oN O) (fun k hk => ?_) ?_ FU (by unfold FU; omega)
    · try dsimp only
      rw [g17, some_bind, m_h3 h hm, some_bind, if_pos (by omega), g19, some_bind, m_needs h wf hm (by omega), some_bind, f_isBit (by omega), some_bind, ia_1 (by omega), mxd, nr k]
      cases hx : nbt O i k
      · rw [if_pos (show (if false = true then (1 : Int) else 0) = 0 from rfl), thn_l, if_neg (show ¬ false = true by decide)]
        split <;> rfl
      · obtain ⟨q1, q2, q3⟩ := gd_need hN g hx
        rw [if_neg (show ¬ (if true = true then (1 : Int) else 0) = 0 by decide), ih k q1 (by show scn (wb (nbt O) (oN O) k) (oN O) < _; unfold Wb at h1; omega), some_bind, thn_l, if_pos (show true = true from rfl)]
        split <;> rfl
    · try dsimp only
      rw [g17, some_bind, m_h3 h hm, some_bind, if_neg (by omega)]
      have h0 := mxd_0 (nbt O i) (dep (nbt O) (oN O) f) (oN O)
      have hs : mxd (nbt O i) (dep (nbt O) (oN O) f) (oN O) ≤ 9 := by
        rcases mxd_at (p := nbt O i) (g := dep (nbt O) (oN O) f) (oN O) with e | ⟨k, h1, h2, h3⟩
        · omega
        · have := dr f k (gd_need hN g h2).1
          omega
      rw [ia_eq (by omega) (by omega)]
/-- the chains of the class, as far as they have grown -/
def ChI (N : Nat → Nat → Bool) (n : Nat) (b : Nat) (M : Mem) : Prop := (∀ t, t < n → 1 ≤ M 106 t ∧ M 106 t ≤ (b : Int)) ∧ ∀ t, gdi (wb N n) n t → M 106 t ≤ dep N n 12 t
def lb (N : Nat → Nat → Bool) (n : Nat) (M : Mem) (t : Nat) (x : Int) : Prop := dep N n 12 t ≤ M 106 t ∨ x ≤ M 106 t
theorem c_lengthen (h : Ag T A) {N : Nat → Nat → Bool} {n b q : Nat} (hn : n ≤ 8) (hbb : b < 10000) (h5 : I 101 5 = (n : Int)) (hN : ∀ i m, i < n → hb (I 102 i) m = N i m) (hm : ∀ i m, n ≤ m → N i m = false) (c0 : ChI N n b I) (l0 : ∀ t, gdi (wb N n) n t → lb N n I t ((q : Int) + 1)) : OK (f_X6_lengthenChains T A 101 I) (fun J => Fo 106 106 I J ∧ ChI N n (b + 64) J ∧ ∀ t, gdi (wb N n) n t → lb N n J t ((q : Int) + 2)) := by
  obtain ⟨k0, k1, k2, k3, k4, k5, k6⟩ := q101 h
  unfold f_X6_lengthenChains
  rw [if_pos k0]
  refine it_run (fun i (x : Int × Mem) => x.1 = (i : Int) ∧ Fo 106 106 I x.2 ∧ ChI N n (b + 8 * i) x.2 ∧ (∀ t, gdi (wb N n) n t → lb N n x.2 t ((q : Int) + 1)) ∧ ∀ t, t < i → gdi (wb N n) n t → lb N n x.2 t ((q : Int) + 2)) n ?_ ?_ 0 FU _ (by omega) (by unfold FU; omega) ⟨rfl, fo_r _ _ _, c0, l0, fun t ht => absurd ht (by omega)⟩
  · rintro i ⟨x1, M⟩ hi ⟨rfl, hF, hC, hL, hL2⟩
    try dsimp only at hF hC hL hL2 ⊢
    rw [k6, some_bind, hF _ _ (by omega), h5, if_pos (by omega)]
    refine it_run (fun j (x : Int × Mem) => x.1 = (j : Int) ∧ Fo 106 106 I x.2 ∧ (∀ t, t ≠ i → x.2 106 t = M 106 t) ∧ M 106 i ≤ x.2 106 i ∧ ChI N n (b + 8 * i + j) x.2 ∧ ∀ t, t < j → gdi (wb N n) n i → N i t = true → M 106 t + 1 ≤ x.2 106 i) n ?_ ?_ 0 FU _ (by omega) (by unfold FU; omega) ⟨rfl, hF, fun _ _ => rfl, Int.le_refl _, hC, fun t ht => absurd ht (by omega)⟩
    · rintro j ⟨x1, V⟩ hj ⟨rfl, vF, vO, vI, vC, vN⟩
      try dsimp only at vF vO vI vC vN ⊢
      rw [k6, some_bind, vF _ _ (by omega), h5, if_pos (by omega), k1, some_bind, ev_ld (kT_102 h), if_pos (by omega), some_bind, Int.toNat_natCast, vF 102 i (by omega), f_hasBit (by omega), some_bind, hN i j hi, ia_1 (by omega)]
      cases hx : N i j
      · rw [if_pos (show (if false = true then (1 : Int) else 0) = 0 from rfl)]
        refine ok_i ⟨rfl, vF, vO, vI, ⟨fun t ht => ?_, vC.2⟩, fun t ht g hg => ?_⟩
        · have := vC.1 t ht
          try dsimp only
          omega
        · by_cases e : t = j
          · rw [e, hx] at hg; exact absurd hg (by decide)
          · exact vN t (by omega) g hg
      · have b1 := vC.1 i hi
        have b2 := vC.1 j hj
        rw [if_neg (show ¬ (if true = true then (1 : Int) else 0) = 0 by decide), k5, some_bind, some_bind, ev_ld (kT_106 h), if_pos (by omega), some_bind, some_bind, ev_ld (kT_106 h), if_pos (by omega), some_bind, ev_sto (kT_106 h), if_pos (by omega), some_bind, Int.toNat_natCast, Int.toNat_natCast, ia_eq (by omega) (by omega)]
        have mx : ∀ x y : Int, (x ≤ imax x y ∧ y ≤ imax x y) ∧ (imax x y = x ∨ imax x y = y) := fun x y => by unfold imax; split <;> omega
        obtain ⟨⟨m1, m2⟩, m3⟩ := mx (V 106 i) (V 106 j + 1)
        refine ok_i ⟨rfl, fo_mu vF (by decide) (by decide), fun t ht => ?_, ?_, ⟨fun t ht => ?_, fun t g => ?_⟩, fun t ht g hg => ?_⟩
        · try dsimp only
          rw [mu_o _ _ (by omega)]; exact vO t ht
        · try dsimp only
          rw [mu_s]; omega
        · try dsimp only
          by_cases e : t = i
          · rw [e, mu_s]; omega
          · have := vC.1 t ht
            rw [mu_o _ _ (by omega)]; omega
        · try dsimp only
          by_cases e : t = i
          · rw [e, mu_s]
            rw [e] at g
            have u1 := vC.2 i g
            obtain ⟨q1, q2, q3⟩ := gd_need hm g hx
            have u2 := vC.2 j q1
            have u3 := dep_eq hm hn g
            have u4 := mxd_ge (g := dep N n 12) n j hj hx
            omega
          · rw [mu_o _ _ (by omega)]; exact vC.2 t g
        · try dsimp only
          rw [mu_s]
          by_cases e : t = j
          · rw [e]
            obtain ⟨q1, q2, q3⟩ := gd_need hm g hx
            rw [← vO j q2]
            exact m2
          · have := vN t (by omega) g hg
            omega
    · rintro ⟨x1, V⟩ ⟨rfl, vF, vO, vI, vC, vN⟩
      try dsimp only at vF vO vI vC vN ⊢
      rw [k6, some_bind, vF _ _ (by omega), h5, if_neg (by omega), ia_1 (by omega)]
      have mono : ∀ t, M 106 t ≤ V 106 t := fun t => by
        by_cases e : t = i
        · rw [e]; exact vI
        · rw [vO t e]; exact Int.le_refl _
      refine ok_i ⟨rfl, vF, ⟨fun t ht => ?_, vC.2⟩, fun t g => ?_, fun t ht g => ?_⟩
      · have := vC.1 t ht
        try dsimp only
        omega
      · have := mono t
        try dsimp only
        rcases hL t g with w | w
        · exact Or.inl (by omega)
        · exact Or.inr (by omega)
      · try dsimp only
        have := mono t
        by_cases e : t = i
        · subst e
          have u3 := dep_eq hm hn g
          rcases mxd_at (p := N t) (g := dep N n 12) n with z | ⟨k, y1, y2, y3⟩
          · have := vC.1 t hi
            exact Or.inl (by omega)
          · have w := vN k y1 g y2
            have := hL k (gd_need hm g y2).1
            rcases this with w2 | w2
            · exact Or.inl (by omega)
            · exact Or.inr (by omega)
        · rcases hL2 t (by omega) g with w | w
          · exact Or.inl (by omega)
          · exact Or.inr (by omega)
  · rintro ⟨x1, M⟩ ⟨rfl, hF, hC, hL, hL2⟩
    try dsimp only at hF hC hL hL2 ⊢
    rw [k6, some_bind, hF _ _ (by omega), h5, if_neg (by omega)]
    refine ok_i ⟨hF, ⟨fun t ht => ?_, hC.2⟩, fun t g => hL2 t g.1 g⟩
    have := hC.1 t ht
    omega
theorem and_bit (r x : Int) (hx : cn x) {i : Nat} (hi : i < 32) : iand (ior r (ishl 1 (i : Int))) x = 0 ↔ (∀ m, hb r m = true → hb x m = false) ∧ hb x i = false := by
  rw [and_0]
  constructor
  · intro q
    refine ⟨fun m hm => q m (by rw [hb_or, hm, Bool.true_or]), q i (by rw [hb_or, hb_shl hi, decide_eq_true rfl, Bool.or_true])⟩
  · rintro ⟨q1, q2⟩ m hm
    rw [hb_or, hb_shl hi, Bool.or_eq_true] at hm
    rcases hm with hm | hm
    · exact q1 m hm
    · rw [of_decide_eq_true hm]; exact q2
theorem gd_and (wf : WF O) {r : Int} {i : Nat} (hi : i < oN O) (hr : ∀ m, hb r m = Wb O i m) : iand (ior r (ishl 1 (i : Int))) (sor (fun i => Wb O i i) (oN O)) = 0 ↔ gdi (Wb O) (oN O) i := by
  obtain ⟨hn, en⟩ := on_le wf
  rw [and_bit r _ (cn_sor _ _) (by omega)]
  have hs : ∀ m, hb (sor (fun i => Wb O i i) (oN O)) m = Wb O m m := fun m => by
    rw [hb_sor _ _ (by omega)]
    by_cases c : m < oN O
    · rw [decide_eq_true c, Bool.true_and]
    · rw [decide_eq_false c, Bool.false_and]
      exact (wb_out (fun i m hm => nbt_m wf i m hm) _ _ _ (by omega)).symm
  constructor
  · rintro ⟨q1, q2⟩
    exact ⟨hi, by rw [← hs i]; exact q2, fun m hm => by rw [← hs m]; exact q1 m (by rw [hr m]; exact hm)⟩
  · rintro ⟨_, q1, q2⟩
    exact ⟨fun m hm => by rw [hs m]; exact q2 m (by rw [← hr m]; exact hm), by rw [hs i]; exact q1⟩

end
