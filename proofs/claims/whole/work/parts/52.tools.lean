/-! B: tools: loops, what is some, bits of numbers. -/
theorem ok_i {Z : Type} {z : Z} {fin : Z → Prop} (h : fin z) : OK (some z) fin := ⟨z, rfl, h⟩
theorem ok_b {Y Z : Type} {o : Option Y} {k : Y → Option Z} {fin : Z → Prop} (h : OK o (fun y => OK (k y) fin)) : OK (o.bind k) fin := by
  obtain ⟨y, h1, z, h2, h3⟩ := h
  exact ⟨z, by rw [h1]; exact h2, h3⟩
theorem ok_m {Z : Type} {o : Option Z} {P Q : Z → Prop} (h : OK o P) (hq : ∀ z, P z → Q z) : OK o Q := by
  obtain ⟨z, h1, h2⟩ := h
  exact ⟨z, h1, hq z h2⟩
theorem ok_e {Z : Type} {o : Option Z} {v : Z} {fin : Z → Prop} (h : o = some v) (hf : fin v) : OK o fin := ⟨v, h, hf⟩
theorem ok_tn {V X : Type} {o : Option (V ⊕ X)} {k : V → Option X} {fin : X → Prop} (h : OK o (thf k fin)) : OK (thn o k) fin := by
  unfold thn
  refine ok_b (ok_m h (fun z hz => ?_))
  cases z with
  | inl v => exact hz
  | inr x => exact ok_i hz
theorem thn_l {V X : Type} (v : V) (k : V → Option X) : thn (some (.inl v)) k = k v := rfl
theorem thn_r {V X : Type} (x : X) (k : V → Option X) : thn (some (.inr x)) k = some x := rfl
theorem thn_if {V X : Type} (c : Prop) [Decidable c] (a b : Option (V ⊕ X)) (k : V → Option X) : thn (if c then a else b) k = if c then thn a k else thn b k := by split <;> rfl
theorem bind_if {Y Z : Type} (c : Prop) [Decidable c] (a b : Option Y) (k : Y → Option Z) : (if c then a else b).bind k = if c then a.bind k else b.bind k := by split <;> rfl
theorem some_bind {Y Z : Type} (a : Y) (k : Y → Option Z) : (some a).bind k = k a := rfl
theorem it_seq {S R : Type} {step : S → Option (S ⊕ R)} (σ : Nat → S) (N : Nat) {r : R} (hs : ∀ i, i < N → step (σ i) = some (.inl (σ (i + 1)))) (he : step (σ N) = some (.inr r)) : ∀ n, N < n → it step n (σ 0) = some r := by
  induction N generalizing σ with
  | zero =>
    intro n hn
    cases n with
    | zero => exact absurd hn (by omega)
    | succ n => rw [it, he]
  | succ N ih =>
    intro n hn
    cases n with
    | zero => exact absurd hn (by omega)
    | succ n =>
      rw [it, hs 0 (by omega)]
      exact ih (fun i => σ (i + 1)) (fun i hi => hs (i + 1) (by omega)) he n (by omega)
theorem it_from {S R : Type} {step : S → Option (S ⊕ R)} (σ : Nat → S) (a N : Nat) {r : R} (ha : a ≤ N) (hs : ∀ i, a ≤ i → i < N → step (σ i) = some (.inl (σ (i + 1)))) (he : step (σ N) = some (.inr r)) (n : Nat) (hn : N < n + a) : it step n (σ a) = some r := by
  have h := it_seq (step := step) (r := r) (fun i => σ (a + i)) (N - a) (fun i hi => hs (a + i) (by omega) (by omega)) (by rw [show a + (N - a) = N by omega]; exact he) n (by omega)
  exact h
theorem it_run {S R : Type} {step : S → Option (S ⊕ R)} {fin : R → Prop} (P : Nat → S → Prop) (N : Nat) (hs : ∀ i s, i < N → P i s → OK (step s) (fun z => match z with | .inl s' => P (i + 1) s' | .inr r => fin r)) (he : ∀ s, P N s → OK (step s) (fun z => match z with | .inl _ => False | .inr r => fin r)) : ∀ (i n : Nat) (s : S), i ≤ N → N < n + i → P i s → OK (it step n s) fin := by
  intro i n
  induction n generalizing i with
  | zero => intro s h1 h2; exact absurd h2 (by omega)
  | succ n ih =>
    intro s h1 h2 hp
    rw [it]
    rcases Nat.lt_or_ge i N with hi | hi
    · obtain ⟨z, e, hz⟩ := hs i s hi hp
      rw [e]
      cases z with
      | inl s' => exact ih (i + 1) s' (by omega) (by omega) hz
      | inr r => exact ok_i hz
    · have : i = N := by omega
      subst this
      obtain ⟨z, e, hz⟩ := he s hp
      rw [e]
      cases z with
      | inl s' => exact hz.elim
      | inr r => exact ok_i hz
theorem ia_eq {a b : Int} (h1 : -2147483648 ≤ a + b) (h2 : a + b < 2147483648) : ia a b = a + b := wrap_id ⟨h1, h2⟩
theorem isb_eq {a b : Int} (h1 : -2147483648 ≤ a - b) (h2 : a - b < 2147483648) : isb a b = a - b := wrap_id ⟨h1, h2⟩
theorem im_eq {a b : Int} (h1 : -2147483648 ≤ a * b) (h2 : a * b < 2147483648) : im a b = a * b := wrap_id ⟨h1, h2⟩
theorem ia_1 {i : Nat} (h : i < 2000000000) : ia (i : Int) 1 = ((i + 1 : Nat) : Int) := by rw [ia_eq (by omega) (by omega)]; rfl
theorem cn_i {z : Int} (h1 : -2147483648 ≤ z) (h2 : z < 2147483648) : cn z := ⟨h1, h2⟩
theorem mu_s (I : Mem) (a k : Nat) (v : Int) : mu I a k v a k = v := by unfold mu; rw [if_pos ⟨rfl, rfl⟩]
theorem mu_o (I : Mem) {a k b j : Nat} (v : Int) (h : ¬ (b = a ∧ j = k)) : mu I a k v b j = I b j := by unfold mu; rw [if_neg h]
theorem mu_app (I : Mem) (a k b j : Nat) (v : Int) : mu I a k v b j = if b = a ∧ j = k then v else I b j := rfl
/-! bits -/
theorem cn_0 : cn 0 := ⟨by decide, by decide⟩
theorem cn_1 : cn 1 := ⟨by decide, by decide⟩
def hb (z : Int) (i : Nat) : Bool := (BitVec.ofInt 32 z).getLsbD i
theorem hb_big (z : Int) {i : Nat} (h : 32 ≤ i) : hb z i = false := BitVec.getLsbD_of_ge _ _ h
theorem bv_and (a b : Int) : BitVec.ofInt 32 (iand a b) = BitVec.ofInt 32 a &&& BitVec.ofInt 32 b := by
  unfold iand
  show BitVec.ofInt 32 (Int32.ofInt a &&& Int32.ofInt b).toBitVec.toInt = _
  rw [BitVec.ofInt_toInt, Int32.toBitVec_and]
  rfl
theorem bv_or (a b : Int) : BitVec.ofInt 32 (ior a b) = BitVec.ofInt 32 a ||| BitVec.ofInt 32 b := by
  unfold ior
  show BitVec.ofInt 32 (Int32.ofInt a ||| Int32.ofInt b).toBitVec.toInt = _
  rw [BitVec.ofInt_toInt, Int32.toBitVec_or]
  rfl
theorem bv_xor (a b : Int) : BitVec.ofInt 32 (ixor a b) = BitVec.ofInt 32 a ^^^ BitVec.ofInt 32 b := by
  unfold ixor
  show BitVec.ofInt 32 (Int32.ofInt a ^^^ Int32.ofInt b).toBitVec.toInt = _
  rw [BitVec.ofInt_toInt, Int32.toBitVec_xor]
  rfl
theorem hb_and (a b : Int) (i : Nat) : hb (iand a b) i = (hb a i && hb b i) := by unfold hb; rw [bv_and, BitVec.getLsbD_and]
theorem hb_or (a b : Int) (i : Nat) : hb (ior a b) i = (hb a i || hb b i) := by unfold hb; rw [bv_or, BitVec.getLsbD_or]
theorem hb_xor (a b : Int) (i : Nat) : hb (ixor a b) i = (hb a i ^^ hb b i) := by unfold hb; rw [bv_xor, BitVec.getLsbD_xor]
theorem hb_m1 {i : Nat} (h : i < 32) : hb (-1) i = true := (by decide +kernel : ∀ i, i < 32 → hb (-1) i = true) i h
theorem hb_0 (i : Nat) : hb 0 i = false := by
  rcases Nat.lt_or_ge i 32 with h | h
  · exact (by decide +kernel : ∀ i, i < 32 → hb 0 i = false) i h
  · exact hb_big _ h
theorem hb_1 (i : Nat) : hb 1 i = decide (i = 0) := by
  rcases Nat.lt_or_ge i 32 with h | h
  · exact (by decide +kernel : ∀ i, i < 32 → hb 1 i = decide (i = 0)) i h
  · rw [hb_big _ h, decide_eq_false (by omega)]
theorem hb_not (a : Int) {i : Nat} (h : i < 32) : hb (ixor a (-1)) i = !hb a i := by rw [hb_xor, hb_m1 h, Bool.xor_true]
theorem hb_an (a b : Int) (i : Nat) : hb (iand a (ixor b (-1))) i = (hb a i && !hb b i) := by
  rw [hb_and]
  rcases Nat.lt_or_ge i 32 with h | h
  · rw [hb_not _ h]
  · rw [hb_big a h, Bool.false_and, Bool.false_and]
theorem hb_shl {k : Nat} (hk : k < 32) (i : Nat) : hb (ishl 1 (k : Int)) i = decide (i = k) := by
  rcases Nat.lt_or_ge i 32 with h | h
  · exact (by decide +kernel : ∀ k : Nat, k < 32 → ∀ i : Nat, i < 32 → hb (ishl 1 (k : Int)) i = decide (i = k)) k hk i h
  · rw [hb_big _ h, decide_eq_false (by omega)]
theorem sh_s : ∀ n : Nat, n < 32 → ((Int32.ofInt (n : Int) &&& 31).toBitVec.smod 32).toNat = n := by decide +kernel
theorem hb_shr (s : Int) {n : Nat} (hn : n < 32) {i : Nat} (hi : i < 32) : hb (ishr s (n : Int)) i = if n + i < 32 then hb s (n + i) else hb s 31 := by
  unfold hb ishr
  show (BitVec.ofInt 32 (Int32.ofInt s >>> (Int32.ofInt (n : Int) &&& 31)).toBitVec.toInt).getLsbD i = _
  rw [BitVec.ofInt_toInt, Int32.toBitVec_shiftRight]
  show ((Int32.ofInt s).toBitVec.sshiftRight ((Int32.ofInt (n : Int) &&& 31).toBitVec.smod 32).toNat).getLsbD i = _
  rw [sh_s n hn, BitVec.getLsbD_sshiftRight, BitVec.msb_eq_getLsbD_last]
  show (!decide (32 ≤ i) && if n + i < 32 then (BitVec.ofInt 32 s).getLsbD (n + i) else (BitVec.ofInt 32 s).getLsbD (32 - 1)) = _
  simp [hi]
theorem cn_iand (a b : Int) : cn (iand a b) := cn_toInt _
theorem cn_ior (a b : Int) : cn (ior a b) := cn_toInt _
theorem cn_ixor (a b : Int) : cn (ixor a b) := cn_toInt _
theorem cn_ishl (a b : Int) : cn (ishl a b) := cn_toInt _
theorem cn_ishr (a b : Int) : cn (ishr a b) := cn_toInt _
theorem hb_ext {a b : Int} (ha : cn a) (hb' : cn b) (h : ∀ i, i < 32 → hb a i = hb b i) : a = b := by
  have e : BitVec.ofInt 32 a = BitVec.ofInt 32 b := BitVec.eq_of_getLsbD_eq (fun i hi => h i hi)
  have e2 : Int32.ofInt a = Int32.ofInt b := Int32.toBitVec_inj.mp e
  rw [← toInt_ofInt32 ha, ← toInt_ofInt32 hb', e2]
theorem bit1 (s : Int) {i : Nat} (hi : i < 32) : iand (ishr s (i : Int)) 1 = if hb s i then 1 else 0 := by
  refine hb_ext (cn_iand _ _) (by split; exact cn_1; exact cn_0) (fun j hj => ?_)
  rw [hb_and, hb_1, hb_shr s hi hj]
  rcases Nat.eq_zero_or_pos j with h | h
  · subst h
    rw [Nat.add_zero, if_pos hi]
    cases hb s i <;> rfl
  · rw [decide_eq_false (by omega), Bool.and_false]
    split
    · rw [hb_1, decide_eq_false (by omega)]
    · rw [hb_0]
def sl (n : Nat) (a : Int) : Prop := cn a ∧ ∀ i, n ≤ i → hb a i = false
theorem sl_rg {n : Nat} {a : Int} (hn : n ≤ 31) (h : sl n a) : 0 ≤ a ∧ a < 2 ^ n := by
  have e : (BitVec.ofInt 32 a).toInt = a := toInt_ofInt32 h.1
  have hm : (BitVec.ofInt 32 a).msb = false := by rw [BitVec.msb_eq_getLsbD_last]; exact h.2 31 hn
  rw [BitVec.toInt_eq_toNat_of_msb hm] at e
  have hl : (BitVec.ofInt 32 a).toNat < 2 ^ n := Nat.lt_pow_two_of_testBit _ (fun i hi => h.2 i hi)
  have hl2 : (((BitVec.ofInt 32 a).toNat : Nat) : Int) < (2 : Int) ^ n := by
    have h3 := Int.ofNat_lt.mpr hl
    rw [Int.natCast_pow] at h3
    exact h3
  rw [e] at hl2
  exact ⟨by omega, hl2⟩
theorem sl_of {n : Nat} {a : Int} (hn : n ≤ 31) (h0 : 0 ≤ a) (h1 : a < 2 ^ n) : sl n a := by
  obtain ⟨m, rfl⟩ := Int.eq_ofNat_of_zero_le h0
  have h2 : m < 2 ^ n := by
    have h4 : (m : Int) < ((2 ^ n : Nat) : Int) := by rw [Int.natCast_pow]; exact h1
    exact Int.ofNat_lt.mp h4
  have h3 : 2 ^ n ≤ 2 ^ 31 := Nat.pow_le_pow_right (by decide) hn
  refine ⟨⟨by omega, by omega⟩, fun i hi => ?_⟩
  unfold hb
  show (BitVec.ofInt 32 ((m : Nat) : Int)).getLsbD i = false
  rw [BitVec.ofInt_natCast, BitVec.getLsbD_ofNat, Nat.testBit_lt_two_pow (Nat.lt_of_lt_of_le h2 (Nat.pow_le_pow_right (by decide) hi)), Bool.and_false]
theorem sl_8 {a : Int} : sl 8 a ↔ 0 ≤ a ∧ a < 256 := ⟨fun h => by have := sl_rg (by decide) h; omega, fun h => sl_of (by decide) h.1 (by omega)⟩
theorem sl_le {n m : Nat} {a : Int} (h : sl n a) (hnm : n ≤ m) : sl m a := ⟨h.1, fun i hi => h.2 i (by omega)⟩
theorem hb_at {n : Nat} {a : Int} {i : Nat} (h : sl n a) (hi : hb a i = true) : i < n := by
  rcases Nat.lt_or_ge i n with h1 | h1
  · exact h1
  · rw [h.2 i h1] at hi; exact absurd hi (by decide)
theorem an_0 (a b : Int) : iand a (ixor b (-1)) = 0 ↔ ∀ i, hb a i = true → hb b i = true := by
  constructor
  · intro h i hi
    have := hb_an a b i
    rw [h, hb_0, hi, Bool.true_and] at this
    cases hc : hb b i
    · rw [hc] at this; exact absurd this (by decide)
    · rfl
  · intro h
    refine hb_ext (cn_iand _ _) cn_0 (fun i _ => ?_)
    rw [hb_an, hb_0]
    cases hc : hb a i
    · rfl
    · rw [h i hc]; rfl
theorem and_0 (a b : Int) : iand a b = 0 ↔ ∀ i, hb a i = true → hb b i = false := by
  constructor
  · intro h i hi
    have := hb_and a b i
    rw [h, hb_0, hi, Bool.true_and] at this
    exact this.symm
  · intro h
    refine hb_ext (cn_iand _ _) cn_0 (fun i _ => ?_)
    rw [hb_and, hb_0]
    cases hc : hb a i
    · rfl
    · rw [h i hc]; rfl
theorem ior_0 {a : Int} (h : cn a) : ior a 0 = a := hb_ext (cn_ior _ _) h (fun i _ => by rw [hb_or, hb_0, Bool.or_false])
def sor (p : Nat → Bool) : Nat → Int
  | 0 => 0
  | n + 1 => if p n then ior (sor p n) (ishl 1 (n : Int)) else sor p n
theorem cn_sor (p : Nat → Bool) (n : Nat) : cn (sor p n) := by
  induction n with
  | zero => exact cn_0
  | succ n ih =>
    rw [sor]
    split
    · exact cn_ior _ _
    · exact ih
theorem hb_sor (p : Nat → Bool) : ∀ n, n ≤ 32 → ∀ i, hb (sor p n) i = (decide (i < n) && p i) := by
  intro n
  induction n with
  | zero => intro _ i; rw [sor, hb_0, decide_eq_false (by omega)]; rfl
  | succ n ih =>
    intro hn i
    rw [sor]
    have h1 := ih (by omega) i
    by_cases hi : i = n
    · subst hi
      rw [decide_eq_false (by omega)] at h1
      rw [decide_eq_true (by omega : i < i + 1)]
      cases hp : p i
      · rw [if_neg (by decide)]; rw [h1, hp]; rfl
      · rw [if_pos rfl, hb_or, h1, hb_shl (by omega), decide_eq_true rfl]; rfl
    · have e : decide (i < n + 1) = decide (i < n) := by
        rcases Nat.lt_or_ge i n with h2 | h2
        · rw [decide_eq_true h2, decide_eq_true (by omega)]
        · rw [decide_eq_false (by omega), decide_eq_false (by omega)]
      rw [e]
      cases hp : p n
      · rw [if_neg (by decide)]; exact h1
      · rw [if_pos rfl, hb_or, h1, hb_shl (by omega), decide_eq_false hi, Bool.or_false]
theorem sl_sor (p : Nat → Bool) {n : Nat} (hn : n ≤ 32) : sl n (sor p n) := ⟨cn_sor p n, fun i hi => by rw [hb_sor p n hn, decide_eq_false (by omega), Bool.false_and]⟩
theorem sor_ext {p q : Nat → Bool} : ∀ {n : Nat}, (∀ i, i < n → p i = q i) → sor p n = sor q n := by
  intro n
  induction n with
  | zero => intro _; rfl
  | succ n ih =>
    intro h
    rw [sor, sor, h n (by omega), ih (fun i hi => h i (by omega))]
theorem sor_pad {p : Nat → Bool} {n m : Nat} (hnm : n ≤ m) (h : ∀ i, n ≤ i → p i = false) : sor p m = sor p n := by
  induction m with
  | zero => rw [show n = 0 by omega]
  | succ m ih =>
    rcases Nat.lt_or_ge m n with h1 | h1
    · rw [show n = m + 1 by omega]
    · rw [sor, h m h1, if_neg (by decide)]; exact ih h1
theorem f_hasBit {T : Knd} {A : Rfs} {s : Int} {i : Nat} {I : Mem} (hi : i < 32) : f_X11_hasBit T A s (i : Int) I = some (if hb s i then 1 else 0) := by
  unfold f_X11_hasBit
  rw [bit1 s hi]
  cases hb s i <;> rfl
theorem f_isBit {T : Knd} {A : Rfs} {s : Int} {i : Nat} {I : Mem} (hi : i < 32) : f_X12_isBit T A s (i : Int) I = some (if hb s i then 1 else 0) := by
  unfold f_X12_isBit
  rw [bit1 s hi]
  cases hb s i <;> rfl
