/-! The words that the methods' meanings are told in: a memory of numbers (object, place), a table of references, of kinds and lengths; no machine here. -/
abbrev Mem : Type := Nat → Nat → Int
abbrev Rfs : Type := Nat → Nat → Nat
abbrev Knd : Type := Nat → Nat × Nat
def cn (z : Int) : Prop := -2147483648 ≤ z ∧ z < 2147483648
def cl (z : Int) : Prop := -9223372036854775808 ≤ z ∧ z < 9223372036854775808
def wrap (z : Int) : Int := (z + 2147483648) % 4294967296 - 2147483648
def wrapl (z : Int) : Int := (z + 9223372036854775808) % 18446744073709551616 - 9223372036854775808
theorem cn_wrap (z : Int) : cn (wrap z) := by unfold cn wrap; omega
theorem cl_wrapl (z : Int) : cl (wrapl z) := by unfold cl wrapl; omega
theorem wrap_id {z : Int} (h : cn z) : wrap z = z := by unfold cn at h; unfold wrap; omega
theorem wrapl_id {z : Int} (h : cl z) : wrapl z = z := by unfold cl at h; unfold wrapl; omega
theorem cl_cn {z : Int} (h : cn z) : cl z := by unfold cn at h; unfold cl; omega
theorem ofInt_wrap (z : Int) : Int32.ofInt (wrap z) = Int32.ofInt z := by
  apply Int32.toInt_inj.mp
  rw [Int32.toInt_ofInt, Int32.toInt_ofInt]
  unfold wrap
  simp only [Int.bmod_def]
  have h : (Int32.size : Nat) = 4294967296 := rfl
  rw [h]
  omega
theorem ofInt_wrapl (z : Int) : Int64.ofInt (wrapl z) = Int64.ofInt z := by
  apply Int64.toInt_inj.mp
  rw [Int64.toInt_ofInt, Int64.toInt_ofInt]
  unfold wrapl
  simp only [Int.bmod_def]
  have h : (Int64.size : Nat) = 18446744073709551616 := rfl
  rw [h]
  omega
theorem toInt_ofInt32 {z : Int} (h : cn z) : (Int32.ofInt z).toInt = z := by
  unfold cn at h
  rw [Int32.toInt_ofInt]
  have e : (Int32.size : Nat) = 4294967296 := rfl
  rw [Int.bmod_def, e]
  omega
theorem toInt_ofInt64 {z : Int} (h : cl z) : (Int64.ofInt z).toInt = z := by
  unfold cl at h
  rw [Int64.toInt_ofInt]
  have e : (Int64.size : Nat) = 18446744073709551616 := rfl
  rw [Int.bmod_def, e]
  omega
theorem cn_toInt (x : Int32) : cn x.toInt := by
  have h1 := Int32.le_toInt x
  have h2 := Int32.toInt_lt x
  unfold cn
  omega
theorem cl_toInt (x : Int64) : cl x.toInt := by
  have h1 := Int64.le_toInt x
  have h2 := Int64.toInt_lt x
  unfold cl
  omega
theorem ofInt_toInt32 (x : Int32) : Int32.ofInt x.toInt = x := by
  apply Int32.toInt_inj.mp
  exact toInt_ofInt32 (cn_toInt x)
theorem ofInt_toInt64 (x : Int64) : Int64.ofInt x.toInt = x := by
  apply Int64.toInt_inj.mp
  exact toInt_ofInt64 (cl_toInt x)
def ia (a b : Int) : Int := wrap (a + b)
def isb (a b : Int) : Int := wrap (a - b)
def im (a b : Int) : Int := wrap (a * b)
def idv (a b : Int) : Int := (Int32.ofInt a / Int32.ofInt b).toInt
def irm (a b : Int) : Int := (Int32.ofInt a - Int32.ofInt a / Int32.ofInt b * Int32.ofInt b).toInt
def ishl (a b : Int) : Int := (Int32.ofInt a <<< (Int32.ofInt b &&& 31)).toInt
def ishr (a b : Int) : Int := (Int32.ofInt a >>> (Int32.ofInt b &&& 31)).toInt
def iand (a b : Int) : Int := (Int32.ofInt a &&& Int32.ofInt b).toInt
def ior (a b : Int) : Int := (Int32.ofInt a ||| Int32.ofInt b).toInt
def ixor (a b : Int) : Int := (Int32.ofInt a ^^^ Int32.ofInt b).toInt
def ila (a b : Int) : Int := wrapl (a + b)
def ilm (a b : Int) : Int := wrapl (a * b)
def ils (a b : Int) : Int := wrapl (a - b)
def ildv (a b : Int) : Int := (Int64.ofInt a / Int64.ofInt b).toInt
def ilrm (a b : Int) : Int := (Int64.ofInt a - Int64.ofInt a / Int64.ofInt b * Int64.ofInt b).toInt
def iland (a b : Int) : Int := (Int64.ofInt a &&& Int64.ofInt b).toInt
def ilor (a b : Int) : Int := (Int64.ofInt a ||| Int64.ofInt b).toInt
def ilshl (a b : Int) : Int := (Int64.ofInt a <<< ((Int32.ofInt b).toInt64 &&& 63)).toInt
def ilcmp (a b : Int) : Int := if a < b then -1 else if a = b then 0 else 1
def i2b (a : Int) : Int := (Int32.ofInt a).toInt8.toInt32.toInt
def i2s (a : Int) : Int := (Int32.ofInt a).toInt16.toInt32.toInt
def i2z (a : Int) : Int := a % 2
def mu (I : Mem) (a k : Nat) (v : Int) : Mem := fun b j => if b = a ∧ j = k then v else I b j
/-- a field that is a number; a field that is a reference -/
def gi (T : Knd) (c k a : Nat) (I : Mem) : Option Int := if (T a).1 = c then some (I a k) else none
def gr (T : Knd) (A : Rfs) (c k a : Nat) : Option Nat := if (T a).1 = c ∧ A a k ≠ 0 then some (A a k) else none
def pi (T : Knd) (c k a : Nat) (v : Int) (I : Mem) : Option Mem := if (T a).1 = c then some (mu I a k v) else none
/-- a boolean field is set -/
def pz (T : Knd) (c k a : Nat) (v : Int) (I : Mem) : Option Mem := if (T a).1 = c ∧ (v = 0 ∨ v = 1) then some (mu I a k v) else none
/-- arrays: a place read, a place set, a reference read, the length -/
def ld (T : Knd) (kd a : Nat) (j : Int) (I : Mem) : Option Int := if (T a).1 = kd ∧ 0 ≤ j ∧ j < (T a).2 then some (I a j.toNat) else none
def sto (T : Knd) (kd a : Nat) (j v : Int) (I : Mem) : Option Mem := if (T a).1 = kd ∧ 0 ≤ j ∧ j < (T a).2 then some (mu I a j.toNat v) else none
def lr (T : Knd) (A : Rfs) (kd a : Nat) (j : Int) : Option Nat := if (T a).1 = kd ∧ 0 ≤ j ∧ j < (T a).2 ∧ A a j.toNat ≠ 0 then some (A a j.toNat) else none
/-- a reference that may be null is looked at: is it null -/
def lrz (T : Knd) (A : Rfs) (kd a : Nat) (j : Int) : Option Bool := if (T a).1 = kd ∧ 0 ≤ j ∧ j < (T a).2 then some (A a j.toNat == 0) else none
def aln (T : Knd) (kd a : Nat) : Option Int := if (T a).1 = kd then some ((T a).2 : Int) else none
def dvz (b : Int) : Option Unit := if b = 0 then none else some ()
/-- System.arraycopy -/
def acp (T : Knd) (kd a : Nat) (i : Int) (b : Nat) (k n : Int) (I : Mem) : Option Mem := if (T a).1 = kd ∧ (T b).1 = kd ∧ 0 ≤ i ∧ 0 ≤ k ∧ 0 ≤ n ∧ i + n ≤ (T a).2 ∧ k + n ≤ (T b).2 then some (fun x j => if x = b ∧ k.toNat ≤ j ∧ j < k.toNat + n.toNat then I a (i.toNat + (j - k.toNat)) else I x j) else none
/-- a loop: its step tells the next state or the end -/
def it {S R : Type} (step : S → Option (S ⊕ R)) : Nat → S → Option R
  | 0, _ => none
  | n + 1, s => match step s with
    | none => none
    | some (.inl s') => it step n s'
    | some (.inr r) => some r
def FU : Nat := 1000000
/-- a part with a road on and roads out -/
def thn {V X : Type} (o : Option (V ⊕ X)) (k : V → Option X) : Option X := o.bind (fun z => match z with | .inl v => k v | .inr x => some x)
def OK {Z : Type} (o : Option Z) (fin : Z → Prop) : Prop := ∃ z, o = some z ∧ fin z
theorem ok_some {Z : Type} {z : Z} {fin : Z → Prop} (h : OK (some z) fin) : fin z := by
  obtain ⟨z', h1, h2⟩ := h
  cases h1
  exact h2
theorem ok_none {Z : Type} {fin : Z → Prop} (h : OK (none : Option Z) fin) : False := by
  obtain ⟨z', h1, h2⟩ := h
  cases h1
theorem ok_bind {Y Z : Type} {o : Option Y} {k : Y → Option Z} {fin : Z → Prop} (h : OK (o.bind k) fin) : ∃ y, o = some y ∧ OK (k y) fin := by
  obtain ⟨z', h1, h2⟩ := h
  cases o with
  | none => cases h1
  | some y => exact ⟨y, rfl, z', h1, h2⟩
def thf {V X : Type} (k : V → Option X) (fin : X → Prop) : V ⊕ X → Prop := fun z => match z with
  | .inl v => OK (k v) fin
  | .inr x => fin x
theorem ok_thn {V X : Type} {o : Option (V ⊕ X)} {k : V → Option X} {fin : X → Prop} (h : OK (thn o k) fin) : OK o (thf k fin) := by
  obtain ⟨z, h1, h2⟩ := ok_bind h
  refine ⟨z, h1, ?_⟩
  cases z with
  | inl v => exact h2
  | inr x =>
    have h3 : OK (some x) fin := h2
    have h4 : fin x := ok_some h3
    exact h4
def bnf {V X : Type} (k : V → Option X) (fin : X → Prop) : V → Prop := fun v => OK (k v) fin
theorem ok_bnd {V X : Type} {o : Option V} {k : V → Option X} {fin : X → Prop} (h : OK (o.bind k) fin) : OK o (bnf k fin) := ok_bind h
def itf {S R : Type} (step : S → Option (S ⊕ R)) (n : Nat) (fin : R → Prop) : S ⊕ R → Prop := fun z => match z with
  | .inl s => OK (it step n s) fin
  | .inr r => fin r
theorem it_ind {S R : Type} {step : S → Option (S ⊕ R)} {fin : R → Prop} {P : S → Prop} (hs : ∀ (n : Nat) (s : S), (∀ s', OK (it step n s') fin → P s') → OK (step s) (itf step n fin) → P s) : ∀ (n : Nat) (s : S), OK (it step n s) fin → P s
  | 0, s, h => (ok_none h).elim
  | n + 1, s, h => by
    refine hs n s (fun s' h' => it_ind hs n s' h') ?_
    obtain ⟨r, h1, h2⟩ := h
    rw [it] at h1
    split at h1
    · cases h1
    · rename_i s' e
      exact ⟨_, e, r, h1, h2⟩
    · rename_i r' e
      cases h1
      exact ⟨_, e, h2⟩
theorem ok_pos {Z : Type} {c : Prop} [Decidable c] {a b : Option Z} {fin : Z → Prop} (h : c) (hf : OK (if c then a else b) fin) : OK a fin := by rwa [if_pos h] at hf
theorem ok_neg {Z : Type} {c : Prop} [Decidable c] {a b : Option Z} {fin : Z → Prop} (h : ¬ c) (hf : OK (if c then a else b) fin) : OK b fin := by rwa [if_neg h] at hf
