/-! B: the tokens of a tape, and the class's way through them. -/
def skp (q : Nat → Bool) : Nat → Nat → Nat
  | 0, p => p
  | k + 1, p => if q p then skp q k (p + 1) else p
theorem skp_in (q : Nat → Bool) : ∀ k p, (p ≤ skp q k p ∧ skp q k p ≤ p + k) ∧ (∀ i, p ≤ i → i < skp q k p → q i = true) ∧ (skp q k p < p + k → q (skp q k p) = false) := by
  intro k
  induction k with
  | zero => intro p; exact ⟨⟨Nat.le_refl _, Nat.le_refl _⟩, fun i h1 h2 => absurd (show i < p from h2) (by omega), fun h => absurd (show p < p + 0 from h) (by omega)⟩
  | succ k ih =>
    intro p
    rw [skp]
    cases hq : q p
    · rw [if_neg (by decide)]
      exact ⟨⟨Nat.le_refl _, by omega⟩, fun i h1 h2 => absurd h2 (by omega), fun _ => hq⟩
    · rw [if_pos rfl]
      obtain ⟨⟨i1, i2⟩, i3, i4⟩ := ih (p + 1)
      refine ⟨⟨by omega, by omega⟩, fun i h1 h2 => ?_, fun h => i4 (by omega)⟩
      by_cases e : i = p
      · rw [e]; exact hq
      · exact i3 i (by omega) h2
def blk (x : Int) : Bool := decide (x = 32) || decide (x = 10)
def ltr (x : Int) : Bool := decide (97 ≤ x) && decide (x ≤ 122)
def dgt (x : Int) : Bool := decide (48 ≤ x) && decide (x ≤ 57)
theorem blk_iff (x : Int) : blk x = true ↔ (x = 32 ∨ x = 10) := by unfold blk; rw [Bool.or_eq_true, decide_eq_true_iff, decide_eq_true_iff]
theorem ltr_iff (x : Int) : ltr x = true ↔ (97 ≤ x ∧ x ≤ 122) := by unfold ltr; rw [Bool.and_eq_true, decide_eq_true_iff, decide_eq_true_iff]
theorem dgt_iff (x : Int) : dgt x = true ↔ (48 ≤ x ∧ x ≤ 57) := by unfold dgt; rw [Bool.and_eq_true, decide_eq_true_iff, decide_eq_true_iff]
def tf (b : Nat → Int) (L p : Nat) : Nat := skp (fun i => blk (b i)) (L - p) p
def te (q : Int → Bool) (b : Nat → Int) (L f : Nat) : Nat := skp (fun i => q (b i)) (L - f) f
def tk (b : Nat → Int) (L p : Nat) : Int := if tf b L p < L then (if ltr (b (tf b L p)) = true then 1 else if dgt (b (tf b L p)) = true then 2 else if b (tf b L p) = 59 then 3 else 4) else 0
def tt (b : Nat → Int) (L p : Nat) : Nat := if tf b L p < L then (if ltr (b (tf b L p)) = true then te ltr b L (tf b L p) else if dgt (b (tf b L p)) = true then te dgt b L (tf b L p) else tf b L p + 1) else tf b L p
def cnu (b : Nat → Int) (f : Nat) : Nat → Int
  | 0 => 0
  | k + 1 => imin 100000 (cnu b f k * 10 + b (f + k) - 48)
def mnu (b : Nat → Int) (f : Nat) : Nat → Int
  | 0 => 0
  | k + 1 => if mnu b f k ≤ 100000 then 10 * mnu b f k + b (f + k) - 48 else 1000000
def pk (b : Nat → Int) (f : Nat) : Nat → Int
  | 0 => 0
  | k + 1 => 27 * pk b f k + b (f + k) - 96
def mwd (b : Nat → Int) (f k : Nat) : Int := if k ≤ 12 then pk b f k else -1
theorem tf_in (b : Nat → Int) {L p : Nat} (hp : p ≤ L) : (p ≤ tf b L p ∧ tf b L p ≤ L) ∧ (∀ i, p ≤ i → i < tf b L p → blk (b i) = true) ∧ (tf b L p < L → blk (b (tf b L p)) = false) := by
  obtain ⟨h1, h2, h3⟩ := skp_in (fun i => blk (b i)) (L - p) p
  unfold tf
  exact ⟨⟨h1.1, by omega⟩, h2, fun h => h3 (by omega)⟩
theorem te_in (q : Int → Bool) (b : Nat → Int) {L f : Nat} (hf : f ≤ L) : (f ≤ te q b L f ∧ te q b L f ≤ L) ∧ (∀ i, f ≤ i → i < te q b L f → q (b i) = true) ∧ (te q b L f < L → q (b (te q b L f)) = false) := by
  obtain ⟨h1, h2, h3⟩ := skp_in (fun i => q (b i)) (L - f) f
  unfold te
  exact ⟨⟨h1.1, by omega⟩, h2, fun h => h3 (by omega)⟩
theorem te_pos {q : Int → Bool} {b : Nat → Int} {L f : Nat} (hf : f < L) (hq : q (b f) = true) : f < te q b L f := by
  obtain ⟨h1, h2, h3⟩ := te_in q b (Nat.le_of_lt hf)
  rcases Nat.lt_or_ge f (te q b L f) with c | c
  · exact c
  · have e : te q b L f = f := by omega
    have := h3 (by omega)
    rw [e, hq] at this
    exact absurd this (by decide)
theorem te_eq {q : Int → Bool} {b : Nat → Int} {L f : Nat} (hf : f ≤ L) (hq : ¬ (f < L ∧ q (b f) = true)) : te q b L f = f := by
  obtain ⟨h1, h2, h3⟩ := te_in q b hf
  rcases Nat.lt_or_ge f (te q b L f) with c | c
  · exact absurd ⟨by omega, h2 f (Nat.le_refl _) c⟩ hq
  · omega
theorem tt_in (b : Nat → Int) {L p : Nat} (hp : p ≤ L) : (tf b L p ≤ tt b L p ∧ tt b L p ≤ L) ∧ (tk b L p ≠ 0 → tf b L p < tt b L p) := by
  obtain ⟨⟨h1, h2⟩, h3, h4⟩ := tf_in b hp
  unfold tt tk
  by_cases c : tf b L p < L
  · rw [if_pos c, if_pos c]
    by_cases d : ltr (b (tf b L p)) = true
    · rw [if_pos d]
      have := te_in ltr b h2
      have := te_pos c d
      exact ⟨by omega, fun _ => by omega⟩
    · rw [if_neg d]
      by_cases e : dgt (b (tf b L p)) = true
      · rw [if_pos e]
        have := te_in dgt b h2
        have := te_pos c e
        exact ⟨by omega, fun _ => by omega⟩
      · rw [if_neg e]
        exact ⟨by omega, fun _ => by omega⟩
  · rw [if_neg c, if_neg c]
    exact ⟨by omega, fun h => absurd rfl h⟩
theorem tk_1 {b : Nat → Int} {L p : Nat} (h : tk b L p = 1) : tf b L p < L ∧ ltr (b (tf b L p)) = true ∧ tt b L p = te ltr b L (tf b L p) := by
  unfold tk at h
  unfold tt
  by_cases c : tf b L p < L
  · rw [if_pos c] at h ⊢
    by_cases d : ltr (b (tf b L p)) = true
    · rw [if_pos d]; exact ⟨c, d, rfl⟩
    · rw [if_neg d] at h
      split at h
      · exact absurd h (by decide)
      · split at h <;> exact absurd h (by decide)
  · rw [if_neg c] at h; exact absurd h (by decide)
theorem tk_2 {b : Nat → Int} {L p : Nat} (h : tk b L p = 2) : tf b L p < L ∧ ltr (b (tf b L p)) = false ∧ dgt (b (tf b L p)) = true ∧ tt b L p = te dgt b L (tf b L p) := by
  unfold tk at h
  unfold tt
  by_cases c : tf b L p < L
  · rw [if_pos c] at h ⊢
    by_cases d : ltr (b (tf b L p)) = true
    · rw [if_pos d] at h; exact absurd h (by decide)
    · rw [if_neg d] at h ⊢
      by_cases e : dgt (b (tf b L p)) = true
      · rw [if_pos e]; exact ⟨c, by simpa using d, e, rfl⟩
      · rw [if_neg e] at h
        split at h <;> exact absurd h (by decide)
  · rw [if_neg c] at h; exact absurd h (by decide)
theorem cnu_rg {b : Nat → Int} {f : Nat} : ∀ k, (∀ i, i < k → dgt (b (f + i)) = true) → 0 ≤ cnu b f k ∧ cnu b f k ≤ 100000 := by
  intro k
  induction k with
  | zero => intro _; exact ⟨Int.le_refl 0, show (0 : Int) ≤ 100000 by decide⟩
  | succ k ih =>
    intro h
    have := ih (fun i hi => h i (by omega))
    have d := (dgt_iff _).mp (h k (by omega))
    rw [cnu]
    unfold imin
    split <;> omega
theorem mnu_rg {b : Nat → Int} {f : Nat} : ∀ k, (∀ i, i < k → dgt (b (f + i)) = true) → (0 ≤ mnu b f k ∧ mnu b f k ≤ 1000009) ∧ ((cnu b f k = mnu b f k ∧ mnu b f k ≤ 100000) ∨ (cnu b f k = 100000 ∧ 100000 ≤ mnu b f k)) := by
  intro k
  induction k with
  | zero => intro _; exact ⟨⟨Int.le_refl 0, show (0 : Int) ≤ 1000009 by decide⟩, Or.inl ⟨rfl, show (0 : Int) ≤ 100000 by decide⟩⟩
  | succ k ih =>
    intro h
    have := ih (fun i hi => h i (by omega))
    have d := (dgt_iff _).mp (h k (by omega))
    rw [mnu, cnu]
    unfold imin
    split <;> split <;> omega
theorem pk_rg {b : Nat → Int} {f : Nat} : ∀ k, (∀ i, i < k → ltr (b (f + i)) = true) → 0 ≤ pk b f k ∧ pk b f k < (27 : Int) ^ k := by
  intro k
  induction k with
  | zero => intro _; exact ⟨Int.le_refl 0, show (0 : Int) < 27 ^ 0 by decide⟩
  | succ k ih =>
    intro h
    have := ih (fun i hi => h i (by omega))
    have d := (ltr_iff _).mp (h k (by omega))
    rw [pk, Int.pow_succ]
    omega
theorem pk_inj {b c : Nat → Int} {f g : Nat} : ∀ k m, (∀ i, i < k → ltr (b (f + i)) = true) → (∀ i, i < m → ltr (c (g + i)) = true) → pk b f k = pk c g m → k = m ∧ ∀ i, i < k → b (f + i) = c (g + i) := by
  intro k
  induction k with
  | zero =>
    intro m h1 h2 e
    cases m with
    | zero => exact ⟨rfl, fun i hi => absurd hi (by omega)⟩
    | succ m =>
      have := pk_rg m (fun i hi => h2 i (by omega))
      have d := (ltr_iff _).mp (h2 m (by omega))
      rw [pk, pk] at e
      omega
  | succ k ih =>
    intro m h1 h2 e
    have r1 := pk_rg k (fun i hi => h1 i (by omega))
    have d1 := (ltr_iff _).mp (h1 k (by omega))
    cases m with
    | zero => rw [pk, pk] at e; omega
    | succ m =>
      have r2 := pk_rg m (fun i hi => h2 i (by omega))
      have d2 := (ltr_iff _).mp (h2 m (by omega))
      rw [pk, pk] at e
      obtain ⟨q1, q2⟩ := ih m (fun i hi => h1 i (by omega)) (fun i hi => h2 i (by omega)) (by omega)
      subst q1
      refine ⟨rfl, fun i hi => ?_⟩
      by_cases z : i = k
      · subst z
        rw [show pk b f i = pk c g i by omega] at e
        omega
      · exact q2 i (by omega)
def wpk (w : Nat) : Int := [218546996, 9872488, 257, 47, 159320763039, 365647, 131638, 555, 80155, 6800930, 3211399, 8863997, 16819, 7542361, 40600, 6477035, 232603751].getD w 0
def wch (w i : Nat) : Int := ((bytS.getD w []).getD i 0).toInt
def wln (w : Nat) : Nat := lenS.getD w 0
theorem wpk_all : ∀ w : Nat, w < 17 → pk (wch w) 0 (wln w) = wpk w ∧ wln w ≤ 12 ∧ 0 ≤ wpk w ∧ ∀ i : Nat, i < wln w → ltr (wch w (0 + i)) = true := by decide +kernel
def isw (b : Nat → Int) (L p w : Nat) : Bool := decide (tk b L p = 1) && decide (mwd b (tf b L p) (tt b L p - tf b L p) = wpk w)
theorem isw_0 {b : Nat → Int} {L p w : Nat} (h : tk b L p ≠ 1) : isw b L p w = false := by unfold isw; rw [decide_eq_false h, Bool.false_and]
theorem isw_k {b : Nat → Int} {L p w : Nat} (h : isw b L p w = true) : tk b L p = 1 := by
  unfold isw at h
  rw [Bool.and_eq_true, decide_eq_true_iff] at h
  exact h.1
theorem isw_ne {b : Nat → Int} {L p w v : Nat} (h : isw b L p w = true) (hv : wpk w ≠ wpk v) : isw b L p v = false := by
  unfold isw at h ⊢
  rw [Bool.and_eq_true, decide_eq_true_iff, decide_eq_true_iff] at h
  have no : ¬ mwd b (tf b L p) (tt b L p - tf b L p) = wpk v := fun e => hv (by rw [← h.2, e])
  rw [decide_eq_false no, Bool.and_false]
theorem isw_iff {b : Nat → Int} {L p w : Nat} (hp : p ≤ L) (hw : w < 17) (h : tk b L p = 1) : isw b L p w = true ↔ tt b L p - tf b L p = wln w ∧ ∀ i, i < wln w → b (tf b L p + i) = wch w i := by
  obtain ⟨w1, w2, w3, w4⟩ := wpk_all w hw
  obtain ⟨k1, k2, k3⟩ := tk_1 h
  obtain ⟨e1, e2, e3⟩ := te_in ltr b (Nat.le_of_lt k1)
  have hl : ∀ i, i < tt b L p - tf b L p → ltr (b (tf b L p + i)) = true := fun i hi => e2 _ (by omega) (by omega)
  unfold isw
  rw [decide_eq_true h, Bool.true_and, decide_eq_true_iff]
  unfold mwd
  constructor
  · intro e
    by_cases c : tt b L p - tf b L p ≤ 12
    · rw [if_pos c, ← w1] at e
      obtain ⟨q1, q2⟩ := pk_inj _ _ hl w4 e
      refine ⟨q1, fun i hi => ?_⟩
      rw [q2 i (by omega), Nat.zero_add]
    · rw [if_neg c] at e; omega
  · rintro ⟨q1, q2⟩
    rw [if_pos (by omega), ← w1, q1]
    have key : ∀ k, k ≤ wln w → pk b (tf b L p) k = pk (wch w) 0 k := by
      intro k
      induction k with
      | zero => intro _; rfl
      | succ k ih => intro hk; rw [pk, pk, ih (by omega), q2 k (by omega), Nat.zero_add]
    exact key _ (Nat.le_refl _)
def Bt (b : Nat → Int) (L : Nat) (I : Mem) : Prop := L ≤ 1600 ∧ I 2 1 = (L : Int) ∧ ∀ k, k < L → I 3 k = b k
def TkC (b : Nat → Int) (L p : Nat) (I : Mem) : Prop := I 2 2 = tk b L p ∧ I 2 3 = (tf b L p : Int) ∧ I 2 4 = (tt b L p : Int) ∧ (tk b L p = 2 → I 2 5 = cnu b (tf b L p) (tt b L p - tf b L p))
def Ftk (I J : Mem) : Prop := ∀ o k, ¬ (o = 2 ∧ 2 ≤ k ∧ k ≤ 5) → J o k = I o k
theorem bt_ag {b : Nat → Int} {L : Nat} {I J : Mem} (t : Bt b L I) (f : Ftk I J) : Bt b L J := ⟨t.1, by rw [f _ _ (by omega)]; exact t.2.1, fun k hk => by rw [f _ _ (by omega)]; exact t.2.2 k hk⟩
section
variable {T : Knd} {A : Rfs} {I : Mem} {b : Nat → Int} {L : Nat}
theorem t_ev (h : Ag T A) : (T 2).1 = 8 ∧ gr T A 8 0 2 = some 3 ∧ (∀ k I, gi T 8 k 2 I = some (I 2 k)) ∧ (∀ k v I, pi T 8 k 2 v I = some (mu I 2 k v)) ∧ ∀ j I, ld T 22 3 j I = if 0 ≤ j ∧ j < 1600 then some (I 3 j.toNat) else none :=
  ⟨by rw [kT_2 h], ev_gr (kT_2 h) rfl (kA h (by decide +kernel)) (by decide), ev_gi (kT_2 h) rfl, ev_pi (kT_2 h) rfl, fun j I => ev_ld (kT_3 h) j I⟩
theorem c_advance (h : Ag T A) (t : Bt b L I) {q : Nat} (hq : I 2 4 = (q : Int)) (hL : q ≤ L) : OK (f_X8_advance T A 2 I) (fun J => TkC b L q J ∧ Ftk I J) := by
  obtain ⟨k0, k1, k2, k3, k4⟩ := t_ev h
  obtain ⟨t1, t2, t3⟩ := t
  obtain ⟨⟨f1, f2⟩, f3, f4⟩ := tf_in b hL
  unfold f_X8_advance
  rw [if_pos k0, k2, some_bind, k3, some_bind]
  refine ok_tn (ok_m (P := fun z => match z with | .inl v => v 2 3 = (tf b L q : Int) ∧ ∀ o k, ¬ (o = 2 ∧ k = 3) → v o k = I o k | .inr _ => False) ?_ ?_)
  · refine it_run (fun i (s : Mem) => s 2 3 = ((q + i : Nat) : Int) ∧ ∀ o k, ¬ (o = 2 ∧ k = 3) → s o k = I o k) (tf b L q - q) ?_ ?_ 0 FU _ (by omega) (by unfold FU; omega) ⟨by rw [mu_s]; exact hq, fun o k hk => mu_o _ _ hk⟩
    · rintro i s hi ⟨s1, s2⟩
      have sb : s 3 (q + i) = b (q + i) := by rw [s2 _ _ (by omega)]; exact t3 _ (by omega)
      have hb1 := (blk_iff _).mp (f3 (q + i) (by omega) (by omega))
      have lv : ld T 22 3 ((q + i : Nat) : Int) s = some (b (q + i)) := by rw [k4, if_pos (by omega), Int.toNat_natCast, sb]
      simp only [k1, k2, k3, some_bind, s1, s2 2 1 (by omega), t2, lv]
      rw [if_pos (by omega)]
      refine ok_tn (ok_e (v := .inl ()) ?_ ?_)
      · by_cases c : b (q + i) = 32
        · rw [if_pos c]
        · rw [if_neg c, if_pos (by omega)]
      · show OK _ _
        dsimp only
        rw [ia_1 (by omega)]
        refine ok_i ⟨?_, fun o k hk => ?_⟩
        · try dsimp only
          rw [mu_s, Nat.add_assoc]
        · try dsimp only
          rw [mu_o _ _ hk]; exact s2 o k hk
    · rintro s ⟨s1, s2⟩
      simp only [k1, k2, k3, some_bind, s1, s2 2 1 (by omega), t2]
      by_cases c : tf b L q < L
      · have e : q + (tf b L q - q) = tf b L q := by omega
        have sb : s 3 (tf b L q) = b (tf b L q) := by rw [s2 _ _ (by omega)]; exact t3 _ c
        have nb : ¬ (b (tf b L q) = 32 ∨ b (tf b L q) = 10) := fun z => by
          have := f4 c
          rw [(blk_iff _).mpr z] at this
          exact absurd this (by decide)
        have lv : ld T 22 3 ((tf b L q : Nat) : Int) s = some (b (tf b L q)) := by rw [k4, if_pos (by omega), Int.toNat_natCast, sb]
        rw [e]
        simp only [lv, some_bind]
        rw [if_pos (by omega), if_neg (fun z => nb (Or.inl z)), if_neg (fun z => nb (Or.inr z)), thn_r]
        exact ok_i ⟨by rw [s1, e], s2⟩
      · rw [if_neg (by omega)]
        exact ok_i ⟨by rw [s1]; congr 1; omega, s2⟩
  · rintro (v | v) hz
    · obtain ⟨v1, v2⟩ := hz
      show OK _ _
      dsimp only
      rw [k2, some_bind, k3, some_bind, k3, some_bind]
      obtain ⟨f, ef⟩ : ∃ f, tf b L q = f := ⟨_, rfl⟩
      rw [ef] at v1 f1 f2
      have fr0 : ∀ o k, ¬ (o = 2 ∧ 3 ≤ k ∧ k ≤ 5) → mu (mu v 2 4 (v 2 3)) 2 5 0 o k = I o k := fun o k hk => by rw [mu_o _ _ (by omega), mu_o _ _ (by omega), v2 _ _ (by omega)]
      obtain ⟨e1, e2, e3⟩ := te_in ltr b (L := L) (f := f) f2
      refine ok_tn (ok_m (P := fun z => match z with | .inl s => s 2 3 = (f : Int) ∧ s 2 4 = (te ltr b L f : Int) ∧ s 2 5 = 0 ∧ ∀ o k, ¬ (o = 2 ∧ 3 ≤ k ∧ k ≤ 5) → s o k = I o k | .inr _ => False) ?_ ?_)
      · refine it_run (fun i (s : Mem) => s 2 3 = (f : Int) ∧ s 2 4 = ((f + i : Nat) : Int) ∧ s 2 5 = 0 ∧ ∀ o k, ¬ (o = 2 ∧ 3 ≤ k ∧ k ≤ 5) → s o k = I o k) (te ltr b L f - f) ?_ ?_ 0 FU _ (by omega) (by unfold FU; omega) ⟨by rw [mu_o _ _ (by omega), mu_o _ _ (by omega)]; exact v1, by rw [mu_o _ _ (by omega), mu_s]; exact v1, by rw [mu_s], fr0⟩
        · rintro i s hi ⟨s1, s2, s3, s4⟩
          have sb : s 3 (f + i) = b (f + i) := by rw [s4 _ _ (by omega)]; exact t3 _ (by omega)
          have hb1 := (ltr_iff _).mp (e2 (f + i) (by omega) (by omega))
          have lv : ld T 22 3 ((f + i : Nat) : Int) s = some (b (f + i)) := by rw [k4, if_pos (by omega), Int.toNat_natCast, sb]
          simp only [k1, k2, k3, some_bind, s2, s4 2 1 (by omega), t2, lv]
          rw [if_pos (by omega), if_neg (by omega), if_pos (by omega), ia_1 (by omega)]
          refine ok_i ⟨?_, ?_, ?_, fun o k hk => ?_⟩
          · try dsimp only
            rw [mu_o _ _ (by omega)]; exact s1
          · try dsimp only
            rw [mu_s, Nat.add_assoc]
          · try dsimp only
            rw [mu_o _ _ (by omega)]; exact s3
          · try dsimp only
            rw [mu_o _ _ (by omega)]; exact s4 o k hk
        · rintro s ⟨s1, s2, s3, s4⟩
          rw [show f + (te ltr b L f - f) = te ltr b L f by omega] at s2
          simp only [k1, k2, k3, some_bind, s2, s4 2 1 (by omega), t2]
          by_cases c : te ltr b L f < L
          · have sb : s 3 (te ltr b L f) = b (te ltr b L f) := by rw [s4 _ _ (by omega)]; exact t3 _ c
            have nb : ¬ (97 ≤ b (te ltr b L f) ∧ b (te ltr b L f) ≤ 122) := fun z => by
              have := e3 c
              rw [(ltr_iff _).mpr z] at this
              exact absurd this (by decide)
            have lv : ld T 22 3 ((te ltr b L f : Nat) : Int) s = some (b (te ltr b L f)) := by rw [k4, if_pos (by omega), Int.toNat_natCast, sb]
            simp only [lv, some_bind]
            rw [if_pos (by omega)]
            by_cases d : b (te ltr b L f) < 97
            · rw [if_pos d]
              exact ok_i ⟨s1, s2, s3, s4⟩
            · rw [if_neg d, if_neg (by omega)]
              exact ok_i ⟨s1, s2, s3, s4⟩
          · rw [if_neg (by omega)]
            exact ok_i ⟨s1, s2, s3, s4⟩
      · rintro (s | s) hz
        · obtain ⟨s1, s2, s3, s4⟩ := hz
          show OK _ _
          dsimp only
          rw [k2, some_bind, k2, some_bind, s1, s2]
          by_cases c1 : f < L ∧ ltr (b f) = true
          · have := te_pos c1.1 c1.2
            have ek : tk b L q = 1 := by unfold tk; rw [ef, if_pos c1.1, if_pos c1.2]
            have et : tt b L q = te ltr b L f := by unfold tt; rw [ef, if_pos c1.1, if_pos c1.2]
            rw [if_neg (by omega), k3, some_bind]
            refine ok_i ⟨⟨?_, ?_, ?_, fun z => absurd z (by rw [ek]; decide)⟩, fun o k hk => ?_⟩
            · try dsimp only
              rw [mu_s, ek]
            · try dsimp only
              rw [mu_o _ _ (by omega), ef]; exact s1
            · try dsimp only
              rw [mu_o _ _ (by omega), et]; exact s2
            · try dsimp only
              rw [mu_o _ _ (by omega)]; exact s4 o k (by omega)
          · have eL := te_eq f2 c1
            rw [eL] at s2
            rw [eL, if_pos (Int.le_refl _)]
            obtain ⟨g1, g2, g3⟩ := te_in dgt b (L := L) (f := f) f2
            have dg : ∀ i, f + i < te dgt b L f → dgt (b (f + i)) = true := fun i hi => g2 _ (by omega) hi
            refine ok_tn (ok_m (P := fun z => match z with | .inl s => s 2 3 = (f : Int) ∧ s 2 4 = (te dgt b L f : Int) ∧ s 2 5 = cnu b f (te dgt b L f - f) ∧ ∀ o k, ¬ (o = 2 ∧ 3 ≤ k ∧ k ≤ 5) → s o k = I o k | .inr _ => False) ?_ ?_)
            · refine it_run (fun i (s : Mem) => s 2 3 = (f : Int) ∧ s 2 4 = ((f + i : Nat) : Int) ∧ s 2 5 = cnu b f i ∧ ∀ o k, ¬ (o = 2 ∧ 3 ≤ k ∧ k ≤ 5) → s o k = I o k) (te dgt b L f - f) ?_ ?_ 0 FU _ (by omega) (by unfold FU; omega) ⟨s1, s2, s3, s4⟩
              · rintro i s hi ⟨s1, s2, s3, s4⟩
                have sb : s 3 (f + i) = b (f + i) := by rw [s4 _ _ (by omega)]; exact t3 _ (by omega)
                have hb1 := (dgt_iff _).mp (g2 (f + i) (by omega) (by omega))
                have hc := cnu_rg (b := b) (f := f) i (fun j hj => dg j (by omega))
                have lv : ld T 22 3 ((f + i : Nat) : Int) s = some (b (f + i)) := by rw [k4, if_pos (by omega), Int.toNat_natCast, sb]
                have e24 : ∀ v, mu s 2 5 v 2 4 = ((f + i : Nat) : Int) := fun v => by rw [mu_o _ _ (by omega)]; exact s2
                simp only [k1, k2, k3, some_bind, s2, s3, s4 2 1 (by omega), t2, lv, e24]
                rw [if_pos (by omega), if_neg (by omega), if_pos (by omega), ia_1 (by omega), im_eq (a := cnu b f i) (by omega) (by omega), ia_eq (a := cnu b f i * 10) (by omega) (by omega), isb_eq (by omega) (by omega)]
                refine ok_i ⟨?_, ?_, ?_, fun o k hk => ?_⟩
                · try dsimp only
                  rw [mu_o _ _ (by omega), mu_o _ _ (by omega)]; exact s1
                · try dsimp only
                  rw [mu_s, Nat.add_assoc]
                · try dsimp only
                  rw [mu_o _ _ (by omega), mu_s, cnu]
                · try dsimp only
                  rw [mu_o _ _ (by omega), mu_o _ _ (by omega)]; exact s4 o k hk
              · rintro s ⟨s1, s2, s3, s4⟩
                rw [show f + (te dgt b L f - f) = te dgt b L f by omega] at s2
                simp only [k1, k2, k3, some_bind, s2, s4 2 1 (by omega), t2]
                by_cases c : te dgt b L f < L
                · have sb : s 3 (te dgt b L f) = b (te dgt b L f) := by rw [s4 _ _ (by omega)]; exact t3 _ c
                  have nb : ¬ (48 ≤ b (te dgt b L f) ∧ b (te dgt b L f) ≤ 57) := fun z => by
                    have := g3 c
                    rw [(dgt_iff _).mpr z] at this
                    exact absurd this (by decide)
                  have lv : ld T 22 3 ((te dgt b L f : Nat) : Int) s = some (b (te dgt b L f)) := by rw [k4, if_pos (by omega), Int.toNat_natCast, sb]
                  simp only [lv, some_bind]
                  rw [if_pos (by omega)]
                  by_cases d : b (te dgt b L f) < 48
                  · rw [if_pos d]
                    exact ok_i ⟨s1, s2, s3, s4⟩
                  · rw [if_neg d, if_neg (by omega)]
                    exact ok_i ⟨s1, s2, s3, s4⟩
                · rw [if_neg (by omega)]
                  exact ok_i ⟨s1, s2, s3, s4⟩
            · rintro (s | s) hz
              · obtain ⟨s1, s2, s3, s4⟩ := hz
                show OK _ _
                dsimp only
                rw [k2, some_bind, k2, some_bind, s1, s2]
                by_cases c2 : f < L ∧ dgt (b f) = true
                · have := te_pos c2.1 c2.2
                  have nl : ¬ ltr (b f) = true := fun z => c1 ⟨c2.1, z⟩
                  have ek : tk b L q = 2 := by unfold tk; rw [ef, if_pos c2.1, if_neg nl, if_pos c2.2]
                  have et : tt b L q = te dgt b L f := by unfold tt; rw [ef, if_pos c2.1, if_neg nl, if_pos c2.2]
                  rw [if_neg (by omega), k3, some_bind]
                  refine ok_i ⟨⟨?_, ?_, ?_, fun z => ?_⟩, fun o k hk => ?_⟩
                  · try dsimp only
                    rw [mu_s, ek]
                  · try dsimp only
                    rw [mu_o _ _ (by omega), ef]; exact s1
                  · try dsimp only
                    rw [mu_o _ _ (by omega), et]; exact s2
                  · try dsimp only
                    rw [mu_o _ _ (by omega), et, ef]; exact s3
                  · try dsimp only
                    rw [mu_o _ _ (by omega)]; exact s4 o k (by omega)
                · have eD := te_eq f2 c2
                  rw [eD, if_pos (Int.le_refl _), some_bind, k2, some_bind, s4 2 1 (by omega), t2]
                  by_cases c3 : f < L
                  · have nl : ¬ ltr (b f) = true := fun z => c1 ⟨c3, z⟩
                    have nd : ¬ dgt (b f) = true := fun z => c2 ⟨c3, z⟩
                    have sb : s 3 f = b f := by rw [s4 _ _ (by omega)]; exact t3 _ c3
                    have et : tt b L q = f + 1 := by unfold tt; rw [ef, if_pos c3, if_neg nl, if_neg nd]
                    have ek : tk b L q = if b f = 59 then 3 else 4 := by unfold tk; rw [ef, if_pos c3, if_neg nl, if_neg nd]
                    rw [if_pos (by omega), k1, some_bind, some_bind, k4, if_pos (by omega), some_bind, Int.toNat_natCast, sb]
                    refine ok_tn (ok_e (v := .inl (tk b L q)) ?_ ?_)
                    · rw [ek]
                      split <;> rfl
                    · show OK _ _
                      dsimp only
                      rw [k3, some_bind, k2, some_bind, k3, some_bind, mu_o _ _ (by omega), s1, ia_1 (by omega)]
                      refine ok_i ⟨⟨?_, ?_, ?_, fun z => ?_⟩, fun o k hk => ?_⟩
                      · try dsimp only
                        rw [mu_o _ _ (by omega), mu_s]
                      · try dsimp only
                        rw [mu_o _ _ (by omega), mu_o _ _ (by omega), ef]; exact s1
                      · try dsimp only
                        rw [mu_s, et]
                      · rw [ek] at z
                        split at z <;> exact absurd z (by decide)
                      · try dsimp only
                        rw [mu_o _ _ (by omega), mu_o _ _ (by omega)]; exact s4 o k (by omega)
                  · have et : tt b L q = f := by unfold tt; rw [ef, if_neg c3]
                    have ek : tk b L q = 0 := by unfold tk; rw [ef, if_neg c3]
                    rw [if_neg (by omega), k3, some_bind]
                    refine ok_i ⟨⟨?_, ?_, ?_, fun z => absurd z (by rw [ek]; decide)⟩, fun o k hk => ?_⟩
                    · try dsimp only
                      rw [mu_s, ek]
                    · try dsimp only
                      rw [mu_o _ _ (by omega), ef]; exact s1
                    · try dsimp only
                      rw [mu_o _ _ (by omega), et, s2, eD]
                    · try dsimp only
                      rw [mu_o _ _ (by omega)]; exact s4 o k (by omega)
              · exact hz.elim
        · exact hz.elim
    · exact hz.elim
theorem c_isWord (h : Ag T A) (t : Bt b L I) {p w : Nat} (hp : p ≤ L) (hw : w < 17) (c : TkC b L p I) : f_X8_isWord T A 2 w I = some (bi (isw b L p w)) := by
  obtain ⟨k0, k1, k2, k3, k4⟩ := t_ev h
  obtain ⟨t1, t2, t3⟩ := t
  obtain ⟨c1, c2, c3, c4⟩ := c
  obtain ⟨⟨i1, i2⟩, i3⟩ := tt_in b hp
  have sl1 : slen w = some ((wln w : Nat) : Int) := by unfold slen wln; rw [if_pos hw]
  unfold f_X8_isWord
  rw [if_pos k0, k2, some_bind, c1]
  by_cases d : tk b L p = 1
  · obtain ⟨l1, l2, l3⟩ := tk_1 d
    have hi := isw_iff hp hw d
    rw [if_pos d, k2, some_bind, c3]
    simp only [c2, sl1, k1, k2, some_bind, t2]
    rw [isb_eq (by omega) (by omega)]
    by_cases e : tt b L p - tf b L p = wln w
    · rw [if_pos (by omega)]
      have l : it (fun (s10 : Int) => if s10 < ((wln w : Nat) : Int) then if ia (tf b L p : Int) s10 < (L : Int) then (ld T 22 3 (ia (tf b L p : Int) s10) I).bind fun x21 => (sch w s10).bind fun x23 => if x21 = x23 then some (.inl (ia s10 1)) else some (.inr 0) else some (.inr 1) else some (.inr 1)) FU 0 = some (1 - bi (anyf (fun i => decide (b (tf b L p + i) ≠ wch w i)) 0 (wln w))) := by
        refine it_any (fun i => decide (b (tf b L p + i) ≠ wch w i)) (fun v => 1 - v) (wln w) (fun s hs => ?_) ?_ FU (by unfold FU; omega)
        · try dsimp only
          have hs1 : sch w (s : Int) = some (wch w s) := by
            unfold sch
            rw [if_pos ⟨hw, by omega, by show (s : Int) < ((wln w : Nat) : Int); omega⟩, Int.toNat_natCast]
            rfl
          have ls : ld T 22 3 (ia (tf b L p : Int) (s : Int)) I = some (b (tf b L p + s)) := by rw [ia_eq (by omega) (by omega), k4, if_pos (by omega), show ((tf b L p : Int) + (s : Int)).toNat = tf b L p + s by omega, t3 _ (by omega)]
          rw [if_pos (by omega), ls, some_bind, hs1, some_bind, ia_eq (a := (tf b L p : Int)) (by omega) (by omega), if_pos (by omega), ia_1 (by omega)]
          by_cases z : b (tf b L p + s) = wch w s
          · rw [if_pos z, if_neg (by rw [decide_eq_false (fun q => q z)]; decide)]
          · rw [if_neg z, if_pos (decide_eq_true z)]; rfl
        · try dsimp only
          rw [if_neg (by omega)]; rfl
      rw [l]
      congr 1
      cases hx : isw b L p w
      · have : anyf (fun i => decide (b (tf b L p + i) ≠ wch w i)) 0 (wln w) = true := by
          rw [anyf_iff]
          apply Classical.byContradiction
          intro no
          have : isw b L p w = true := hi.mpr ⟨e, fun i hi => by
            apply Classical.byContradiction
            intro nz
            exact no ⟨i, by omega, by omega, decide_eq_true nz⟩⟩
          rw [hx] at this
          exact absurd this (by decide)
        rw [this]; rfl
      · have : anyf (fun i => decide (b (tf b L p + i) ≠ wch w i)) 0 (wln w) = false := by
          cases ha : anyf (fun i => decide (b (tf b L p + i) ≠ wch w i)) 0 (wln w)
          · rfl
          · obtain ⟨j, j1, j2, j3⟩ := (anyf_iff _ _ _).mp ha
            exact absurd ((hi.mp hx).2 j (by omega)) (of_decide_eq_true j3)
        rw [this]; rfl
    · rw [if_neg (by omega)]
      have : isw b L p w = false := by
        cases hx : isw b L p w
        · rfl
        · exact absurd (hi.mp hx).1 e
      rw [this]; rfl
  · rw [if_neg d, isw_0 d]; rfl
end
