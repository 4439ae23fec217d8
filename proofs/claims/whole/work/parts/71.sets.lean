/-! B: the sets. -/
def scx (o k : Nat) : Bool := scr o k || (decide (66 ≤ o) && decide (o ≤ 67)) || (decide (90 ≤ o) && decide (o ≤ 110)) || (decide (119 ≤ o) && decide (o ≤ 127))
def FX (I J : Mem) : Prop := ∀ o k, scx o k = false → J o k = I o k
theorem fx_fr {I J : Mem} (h : Fr I J) : FX I J := fun o k hk => h o k (by unfold scx at hk; simp only [Bool.or_eq_false_iff] at hk; exact hk.1.1.1)
theorem fx_t {I J K : Mem} (h : FX I J) (g : FX J K) : FX I K := fun o k hk => by rw [g o k hk, h o k hk]
theorem fx_r (I : Mem) : FX I I := fun _ _ _ => rfl
theorem fx_fo {I J : Mem} {a b : Nat} (h : Fo a b I J) (e : (66 ≤ a ∧ b ≤ 67) ∨ (90 ≤ a ∧ b ≤ 110) ∨ (119 ≤ a ∧ b ≤ 127)) : FX I J := fun o k hk => by
  refine h o k ?_
  rcases Nat.lt_or_ge o a with h1 | h1
  · exact Or.inl h1
  · rcases Nat.lt_or_ge b o with h2 | h2
    · exact Or.inr h2
    · exfalso
      unfold scx at hk
      simp only [Bool.or_eq_false_iff, Bool.and_eq_false_iff, decide_eq_false_iff_not] at hk
      omega
theorem fr_149 {I J : Mem} (hF : Fo 149 149 I J) : Fr I J := by
  intro o k hk
  refine hF o k ?_
  rcases Nat.lt_trichotomy o 149 with g | g | g
  · exact Or.inl g
  · rw [g] at hk
    exact absurd hk (by unfold scr; simp)
  · exact Or.inr g
/-- a call of the class that may set what is not looked at later, and the reference's -/
def Quiet2 (cx : Option (Int × Mem)) (mx : Mem → Option (Int × Mem)) (I : Mem) : Prop := ∃ v J K, cx = some (v, J) ∧ mx J = some (v, K) ∧ FX I K
def ase (k i : Nat) : Int := iand (k : Int) (ixor (ishl 1 (i : Int)) (-1))
theorem ase_in : ∀ k : Nat, k < 256 → ∀ i : Nat, i < 8 → 0 ≤ ase k i ∧ ase k i ≤ k ∧ (ase k i = k ↔ hb (k : Int) i = false) := by
  have : ∀ k : Nat, k < 256 → ∀ i : Nat, i < 8 → 0 ≤ iand (k : Int) (ixor (ishl 1 (i : Int)) (-1)) ∧ iand (k : Int) (ixor (ishl 1 (i : Int)) (-1)) ≤ k ∧ (iand (k : Int) (ixor (ishl 1 (i : Int)) (-1)) = k ↔ hb (k : Int) i = false) := by decide +kernel
  exact this
def mst (nd br : Int) (x : Int) : Prop := iand nd (ixor x (-1)) = 0 ∧ iand br x = 0
def osum (tab : Nat → Int) (nd br : Nat → Int) (k : Nat) : Nat → Int
  | 0 => 0
  | i + 1 => if hb (k : Int) i = true ∧ iand (nd i) (ixor (ase k i) (-1)) = 0 ∧ iand (br i) (ase k i) = 0 then ila (osum tab nd br k i) (tab (ase k i).toNat) else osum tab nd br k i
def otab (nd br : Nat → Int) (n : Nat) : Nat → Nat → Int
  | 0 => fun _ => 0
  | k + 1 => fun s => if s = k then (if k = 0 then 1 else osum (otab nd br n k) nd br k n) else otab nd br n k s
theorem osum_ext {tab tab' nd br nd' br' : Nat → Int} {k : Nat} (hk : k < 256) : ∀ {n : Nat}, n ≤ 8 → (∀ s, s < k → tab s = tab' s) → (∀ i, i < n → nd i = nd' i) → (∀ i, i < n → br i = br' i) → osum tab nd br k n = osum tab' nd' br' k n := by
  intro n
  induction n with
  | zero => intro _ _ _ _; rfl
  | succ n ih =>
    intro hn h1 h2 h3
    rw [osum, osum, ih (by omega) h1 (fun i hi => h2 i (by omega)) (fun i hi => h3 i (by omega)), h2 n (by omega), h3 n (by omega)]
    by_cases c : hb (k : Int) n = true ∧ iand (nd' n) (ixor (ase k n) (-1)) = 0 ∧ iand (br' n) (ase k n) = 0
    · rw [if_pos c, if_pos c]
      have ha := ase_in k hk n (by omega)
      have hne : ase k n ≠ k := fun e => by rw [ha.2.2.mp e] at c; exact absurd c.1 (by decide)
      rw [h1 _ (by omega)]
    · rw [if_neg c, if_neg c]
theorem otab_ext {nd br nd' br' : Nat → Int} {n : Nat} (hn : n ≤ 8) (h2 : ∀ i, i < n → nd i = nd' i) (h3 : ∀ i, i < n → br i = br' i) : ∀ k, k ≤ 256 → otab nd br n k = otab nd' br' n k := by
  intro k
  induction k with
  | zero => intro _; rfl
  | succ k ih =>
    intro hk
    funext s
    show (if s = k then (if k = 0 then 1 else osum (otab nd br n k) nd br k n) else otab nd br n k s) = (if s = k then (if k = 0 then 1 else osum (otab nd' br' n k) nd' br' k n) else otab nd' br' n k s)
    rw [ih (by omega), osum_ext (tab := otab nd' br' n k) (by omega) hn (fun _ _ => rfl) h2 h3]
theorem otab_at (nd br : Nat → Int) (n k : Nat) : otab nd br n (k + 1) k = if k = 0 then 1 else osum (otab nd br n k) nd br k n := by
  show (if k = k then _ else _) = _
  rw [if_pos rfl]
theorem otab_ne (nd br : Nat → Int) (n k : Nat) {s : Nat} (h : s ≠ k) : otab nd br n (k + 1) s = otab nd br n k s := by
  show (if s = k then _ else _) = _
  rw [if_neg h]
section
variable {T : Knd} {A : Rfs} {O : Ofc} {I : Mem}
theorem ishl_n {n : Nat} (h : n < 9) : ishl 1 (n : Int) = ((2 ^ n : Nat) : Int) := by
  rw [ishl_2 n h, Int.natCast_pow]; rfl
theorem pw_le {n : Nat} (h : n ≤ 8) : 1 ≤ 2 ^ n ∧ 2 ^ n ≤ 256 := ⟨Nat.one_le_two_pow, Nat.pow_le_pow_right (by decide) h⟩
/-- the class's sum -/
theorem c_osum (h : Ag T A) {J : Mem} {n k : Nat} (hn : n ≤ 8) (h5 : J 101 5 = (n : Int)) (hk : k < 256) (tab : Nat → Int) (ht : ∀ s, s < k → J 104 s = tab s) {R : Type} : it (fun (s12 : Int × Int) => (gi T 6 5 101 J).bind fun x15 => if s12.2 < x15 then if (iand (k : Int) (ixor (ishl 1 s12.2) (-1))) = (k : Int) then some (.inl (s12.1, ia s12.2 1)) else (gr T A 6 0 101).bind fun x17 => (ld T 20 x17 s12.2 J).bind fun x18 => if (iand x18 (ixor (iand (k : Int) (ixor (ishl 1 s12.2) (-1))) (-1))) = 0 then (gr T A 6 1 101).bind fun x20 => (ld T 20 x20 s12.2 J).bind fun x21 => if (iand x21 (iand (k : Int) (ixor (ishl 1 s12.2) (-1)))) = 0 then (gr T A 6 2 101).bind fun x23 => (ld T 21 x23 (iand (k : Int) (ixor (ishl 1 s12.2) (-1))) J).bind fun x24 => some (.inl (ila s12.1 x24, ia s12.2 1)) else some (.inl (s12.1, ia s12.2 1)) else some (.inl (s12.1, ia s12.2 1)) else some (.inr (.inl s12.1))) FU (0, 0) = (some (.inl (osum tab (fun i => J 102 i) (fun i => J 103 i) k n)) : Option (Int ⊕ R)) := by
  have g0 : gr T A 6 0 101 = some 102 := by simp only [agSets h]
  have g1 : gr T A 6 1 101 = some 103 := by simp only [agSets h]
  have g2 : gr T A 6 2 101 = some 104 := by simp only [agSets h]
  have g5 : gi T 6 5 101 J = some (J 101 5) := by simp only [agSets h]
  refine it_seq (fun i => (osum tab (fun i => J 102 i) (fun i => J 103 i) k i, (i : Int))) n (fun i hi => ?_) ?_ FU (by unfold FU; omega)
  · try dsimp only
    have ha := ase_in k hk i (by omega)
    rw [g5, some_bind, h5, if_pos (by omega), ia_1 (by omega), osum]
    show (if ase k i = (k : Int) then _ else _) = _
    by_cases c : hb (k : Int) i = true
    · rw [if_neg (fun e => by rw [ha.2.2.mp e] at c; exact absurd c (by decide))]
      have hne : ase k i ≠ k := fun e => by rw [ha.2.2.mp e] at c; exact absurd c (by decide)
      rw [g0, some_bind, ev_ld (kT_102 h), if_pos (by omega), some_bind, Int.toNat_natCast]
      show (if iand (J 102 i) (ixor (ase k i) (-1)) = 0 then _ else _) = _
      by_cases d : iand (J 102 i) (ixor (ase k i) (-1)) = 0
      · rw [if_pos d, g1, some_bind, ev_ld (kT_103 h), if_pos (by omega), some_bind, Int.toNat_natCast]
        show (if iand (J 103 i) (ase k i) = 0 then _ else _) = _
        by_cases e : iand (J 103 i) (ase k i) = 0
        · rw [if_pos e, if_pos ⟨c, d, e⟩, g2, some_bind]
          show (ld T 21 104 (ase k i) J).bind _ = _
          rw [ev_ld (kT_104 h), if_pos (by omega), some_bind, ht _ (by omega)]
        · rw [if_neg e, if_neg (fun q => e q.2.2)]
      · rw [if_neg d, if_neg (fun q => d q.2.1)]
    · rw [if_pos (ha.2.2.mpr (by simpa using c)), if_neg (fun q => c q.1)]
  · try dsimp only
    rw [g5, some_bind, h5, if_neg (by omega)]
theorem c_count (h : Ag T A) {n : Nat} (hn : n ≤ 8) (h5 : I 101 5 = (n : Int)) (h6 : I 101 6 = ((2 ^ n : Nat) : Int)) : OK (f_X6_countOrders T A 101 I) (fun J => Fo 104 104 I J ∧ ∀ s, s < 2 ^ n → J 104 s = otab (fun i => I 102 i) (fun i => I 103 i) n (2 ^ n) s) := by
  have hp := pw_le hn
  have g2 : gr T A 6 2 101 = some 104 := by simp only [agSets h]
  have g6 : ∀ J : Mem, gi T 6 6 101 J = some (J 101 6) := fun J => by simp only [agSets h]
  unfold f_X6_countOrders
  rw [if_pos (by rw [kT_101 h])]
  refine ok_b (ok_e g2 ?_)
  rw [ev_sto (kT_104 h), if_pos (by decide), some_bind]
  refine it_run (fun k (q : Int × Mem) => q.1 = ((k + 1 : Nat) : Int) ∧ Fo 104 104 I q.2 ∧ ∀ s, s < k + 1 → q.2 104 s = otab (fun i => I 102 i) (fun i => I 103 i) n (k + 1) s) (2 ^ n - 1) ?_ ?_ 0 FU _ (by omega) (by unfold FU; omega) ⟨rfl, fo_mu (fo_r _ _ _) (by decide) (by decide), fun s hs => ?_⟩
  · rintro k ⟨sk, M⟩ hk ⟨rfl, mF, mD⟩
    try dsimp only at mF mD ⊢
    have e2 : (fun i => M 102 i) = (fun i => I 102 i) := funext (fun i => mF _ _ (by omega))
    have e3 : (fun i => M 103 i) = (fun i => I 103 i) := funext (fun i => mF _ _ (by omega))
    rw [g6, some_bind, mF 101 6 (by omega), h6, if_pos (by omega)]
    refine ok_tn (ok_e (c_osum h hn (by rw [mF _ _ (by omega)]; exact h5) (by omega) _ mD) ?_)
    show OK _ _
    dsimp only
    rw [g2, some_bind, ev_sto (kT_104 h), if_pos (by omega), some_bind, Int.toNat_natCast, ia_1 (by omega), e2, e3]
    refine ok_i ⟨rfl, fo_mu mF (by decide) (by decide), fun s hs => ?_⟩
    try dsimp only
    by_cases z : s = k + 1
    · subst z
      rw [mu_s, otab_at, if_neg (by omega)]
    · rw [mu_o _ _ (by omega), otab_ne _ _ _ _ z]
      exact mD s (by omega)
  · rintro ⟨sk, M⟩ ⟨rfl, mF, mD⟩
    try dsimp only at mF mD ⊢
    rw [g6, some_bind, mF 101 6 (by omega), h6, if_neg (by omega)]
    rw [show 2 ^ n - 1 + 1 = 2 ^ n by omega] at mD
    exact ok_i ⟨mF, mD⟩
  · rw [show s = 0 by omega]
    rfl
theorem m_mayS (h : Ag T A) {i : Nat} (hi : i < 40) (x : Int) : f_X12_mayStamp T A 129 (i : Int) x I = some (if iand (I 138 i) (ixor x (-1)) = 0 ∧ iand (I 139 i) x = 0 then 1 else 0) := by
  unfold f_X12_mayStamp
  rw [if_pos (by rw [kT_129 h]), show gr T A 12 19 129 = some 138 by simp only [agMg h], some_bind, ev_ld (kT_138 h), if_pos (by omega), some_bind, Int.toNat_natCast]
  by_cases c : iand (I 138 i) (ixor x (-1)) = 0
  · rw [if_pos c, show gr T A 12 20 129 = some 139 by simp only [agMg h], some_bind, ev_ld (kT_139 h), if_pos (by omega), some_bind, Int.toNat_natCast]
    by_cases d : iand (I 139 i) x = 0
    · rw [if_pos d, if_pos ⟨c, d⟩]
    · rw [if_neg d, if_neg (fun q => d q.2)]
  · rw [if_neg c, if_neg (fun q => c q.1)]
theorem m_sets0 (h : Ag T A) {n : Nat} (hn : n ≤ 8) (h3 : I 136 3 = (n : Int)) : f_X12_sets0 T A 129 I = some ((2 ^ n : Nat) : Int) := by
  unfold f_X12_sets0
  rw [if_pos (by rw [kT_129 h]), show gr T A 12 17 129 = some 136 by simp only [agMg h], some_bind, ev_ld (kT_136 h), if_pos (by decide), some_bind, show (3 : Int).toNat = 3 from rfl, h3, ishl_n (by omega)]
theorem m_laysS (h : Ag T A) {n : Nat} (hn : n ≤ 8) (h3 : I 136 3 = (n : Int)) : OK (f_X12_laysSets T A 129 I) (fun J => Fo 149 149 I J ∧ ∀ s, s < 2 ^ n → J 149 s = otab (fun i => I 138 i) (fun i => I 139 i) n (2 ^ n) s) := by
  have hp := pw_le hn
  have g44 : gr T A 12 44 129 = some 149 := by simp only [agMg h]
  have g17 : gr T A 12 17 129 = some 136 := by simp only [agMg h]
  unfold f_X12_laysSets
  rw [if_pos (by rw [kT_129 h])]
  refine it_run (fun k (q : Int × Mem) => q.1 = (k : Int) ∧ Fo 149 149 I q.2 ∧ ∀ s, s < k → q.2 149 s = otab (fun i => I 138 i) (fun i => I 139 i) n k s) (2 ^ n) ?_ ?_ 0 FU _ (by omega) (by unfold FU; omega) ⟨rfl, fo_r _ _ _, fun s hs => absurd hs (by omega)⟩
  · rintro k ⟨sk, M⟩ hk ⟨rfl, mF, mD⟩
    try dsimp only at mF mD ⊢
    rw [m_sets0 h hn (by rw [mF _ _ (by omega)]; exact h3), some_bind, if_pos (by omega), g44, some_bind]
    refine ok_tn (ok_e (v := .inl (if k = 0 then 1 else 0)) ?_ ?_)
    · by_cases z : k = 0
      · rw [if_pos (by omega), if_pos z]
      · rw [if_neg (by omega), if_neg z]
    · show OK _ _
      dsimp only
      rw [ev_sto (kT_149 h), if_pos (by omega), some_bind, Int.toNat_natCast]
      refine it_run (fun i (q : Int × Mem) => q.1 = (i : Int) ∧ Fo 149 149 I q.2 ∧ (∀ s, s < k → q.2 149 s = otab (fun i => I 138 i) (fun i => I 139 i) n k s) ∧ q.2 149 k = if k = 0 then 1 else osum (otab (fun i => I 138 i) (fun i => I 139 i) n k) (fun i => I 138 i) (fun i => I 139 i) k i) n ?_ ?_ 0 FU _ (by omega) (by unfold FU; omega) ⟨rfl, fo_mu mF (by decide) (by decide), fun s hs => ?_, ?_⟩
      · rintro i ⟨si, L⟩ hi ⟨rfl, lF, lD, lE⟩
        try dsimp only at lF lD lE ⊢
        have ha := ase_in k (by omega) i (by omega)
        rw [g17, some_bind, ev_ld (kT_136 h), if_pos (by decide), some_bind, show (3 : Int).toNat = 3 from rfl, lF 136 3 (by omega), h3, if_pos (by omega), f_isBit (by omega), some_bind, ia_1 (by omega)]
        by_cases c : hb (k : Int) i = true
        · have hne : ase k i ≠ k := fun e => by rw [ha.2.2.mp e] at c; exact absurd c (by decide)
          have hk0 : k ≠ 0 := fun e => by subst e; rw [show (((0 : Nat) : Int)) = 0 from rfl, hb_0] at c; exact absurd c (by decide)
          rw [if_pos c, if_neg (by decide), m_mayS h (by omega), some_bind, lF 138 i (by omega), lF 139 i (by omega)]
          show OK (if (if iand (I 138 i) (ixor (ase k i) (-1)) = 0 ∧ iand (I 139 i) (ase k i) = 0 then (1 : Int) else 0) = 0 then _ else _) _
          by_cases d : iand (I 138 i) (ixor (ase k i) (-1)) = 0 ∧ iand (I 139 i) (ase k i) = 0
          · rw [if_pos d, if_neg (by decide), some_bind, ev_ld (kT_149 h), if_pos (by omega), some_bind, Int.toNat_natCast, some_bind]
            show OK ((ld T 21 149 (ase k i) L).bind _) _
            rw [ev_ld (kT_149 h), if_pos (by omega), some_bind, ev_sto (kT_149 h), if_pos (by omega), some_bind, Int.toNat_natCast, lE, if_neg hk0, lD _ (by omega)]
            refine ok_i ⟨rfl, fo_mu lF (by decide) (by decide), fun s hs => ?_, ?_⟩
            · try dsimp only
              rw [mu_o _ _ (by omega)]; exact lD s hs
            · try dsimp only
              rw [mu_s, if_neg hk0, osum, if_pos ⟨c, d.1, d.2⟩]
          · rw [if_neg d, if_pos rfl]
            refine ok_i ⟨rfl, lF, lD, ?_⟩
            try dsimp only
            rw [lE, if_neg hk0, if_neg hk0, osum, if_neg (fun q => d ⟨q.2.1, q.2.2⟩)]
        · rw [if_neg c, if_pos rfl]
          refine ok_i ⟨rfl, lF, lD, ?_⟩
          try dsimp only
          rw [lE]
          by_cases z : k = 0
          · rw [if_pos z, if_pos z]
          · rw [if_neg z, if_neg z, osum, if_neg (fun q => c q.1)]
      · rintro ⟨si, L⟩ ⟨rfl, lF, lD, lE⟩
        try dsimp only at lF lD lE ⊢
        rw [g17, some_bind, ev_ld (kT_136 h), if_pos (by decide), some_bind, show (3 : Int).toNat = 3 from rfl, lF 136 3 (by omega), h3, if_neg (by omega), ia_1 (by omega)]
        refine ok_i ⟨rfl, lF, fun s hs => ?_⟩
        try dsimp only
        by_cases z : s = k
        · subst z; rw [lE, otab_at]
        · rw [otab_ne _ _ _ _ z]; exact lD s (by omega)
      · try dsimp only
        rw [mu_o _ _ (by omega)]; exact mD s hs
      · try dsimp only
        rw [mu_s]; rfl
  · rintro ⟨sk, M⟩ ⟨rfl, mF, mD⟩
    try dsimp only at mF mD ⊢
    rw [m_sets0 h hn (by rw [mF _ _ (by omega)]; exact h3), some_bind, if_neg (by omega)]
    exact ok_i ⟨mF, mD⟩
end
