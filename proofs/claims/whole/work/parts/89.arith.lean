/-! B: quotients and remainders. -/
theorem i64_div {a b : Int} (h0 : 0 ≤ a) (h1 : a < 9223372036854775808) (h2 : 0 < b) (h3 : b < 9223372036854775808) : ildv a b = a / b := by
  unfold ildv
  rw [← Int64.ofInt_tdiv (by show -9223372036854775808 ≤ a; omega) (by show a ≤ 9223372036854775807; omega) (by show -9223372036854775808 ≤ b; omega) (by show b ≤ 9223372036854775807; omega)]
  have hq : a.tdiv b = a / b := Int.tdiv_eq_ediv_of_nonneg h0
  rw [hq]
  have q0 : 0 ≤ a / b := Int.ediv_nonneg h0 (by omega)
  have q1 : a / b ≤ a := Int.ediv_le_self _ h0
  exact Int64.toInt_ofInt_of_le (by omega) (by omega)
theorem i64_rem {a b : Int} (h0 : 0 ≤ a) (h1 : a < 9223372036854775808) (h2 : 0 < b) (h3 : b < 9223372036854775808) : ilrm a b = a % b := by
  unfold ilrm
  rw [← Int64.ofInt_tdiv (by show -9223372036854775808 ≤ a; omega) (by show a ≤ 9223372036854775807; omega) (by show -9223372036854775808 ≤ b; omega) (by show b ≤ 9223372036854775807; omega)]
  have hq : a.tdiv b = a / b := Int.tdiv_eq_ediv_of_nonneg h0
  rw [hq, ← Int64.ofInt_mul, ← Int64.ofInt_sub]
  have e : a - a / b * b = a % b := by
    have := Int.mul_ediv_add_emod a b
    rw [Int.mul_comm] at this
    omega
  rw [e]
  have m0 : 0 ≤ a % b := Int.emod_nonneg _ (by omega)
  have m1 : a % b < b := Int.emod_lt_of_pos _ h2
  exact Int64.toInt_ofInt_of_le (by omega) (by omega)
theorem i32_rem {a b : Int} (ha : cn a) (hb' : cn b) : irm a b = a.tmod b := by
  unfold irm
  unfold cn at ha hb'
  rw [← Int32.ofInt_tdiv (by show -2147483648 ≤ a; omega) (by show a ≤ 2147483647; omega) (by show -2147483648 ≤ b; omega) (by show b ≤ 2147483647; omega), ← Int32.ofInt_mul, ← Int32.ofInt_sub]
  have e : a - a.tdiv b * b = a.tmod b := by
    have := Int.mul_tdiv_add_tmod a b
    rw [Int.mul_comm] at this
    omega
  rw [e]
  by_cases hz : b = 0
  · subst hz
    rw [Int.tmod_zero]
    exact Int32.toInt_ofInt_of_le (by omega) (by omega)
  · have := Int.natAbs_tmod a b
    have h2 : a.natAbs % b.natAbs < b.natAbs := Nat.mod_lt _ (by omega)
    exact Int32.toInt_ofInt_of_le (by omega) (by omega)
theorem irm_lt {a b : Int} (ha : cn a) (hb' : cn b) (hz : b ≠ 0) : (irm a b).natAbs < b.natAbs := by
  rw [i32_rem ha hb', Int.natAbs_tmod]
  exact Nat.mod_lt _ (by omega)
theorem irm_cn {a b : Int} : cn (irm a b) := by
  unfold irm
  have h1 := Int32.le_toInt (Int32.ofInt a - Int32.ofInt a / Int32.ofInt b * Int32.ofInt b)
  have h2 := Int32.toInt_lt (Int32.ofInt a - Int32.ofInt a / Int32.ofInt b * Int32.ofInt b)
  unfold cn
  omega
def gc : Nat → Int → Int → Int
  | 0, a, _ => a
  | n + 1, a, b => if b = 0 then a else gc n b (irm a b)
theorem gc_ne : ∀ n {a b : Int}, a ≠ 0 → gc n a b ≠ 0 := by
  intro n
  induction n with
  | zero => intro a b h; exact h
  | succ n ih =>
    intro a b h
    rw [gc]
    split
    · exact h
    · exact ih (by assumption)
section
variable {T : Knd} {A : Rfs} {I : Mem}
theorem c_gcd (a b : Int) : f_X11_commonDivisor T A a b I = some (gc 64 a b) := by
  refine ok_eq ?_
  unfold f_X11_commonDivisor
  refine it_run (fun i (x : Int × Int × Int) => x.2.2 = (i : Int) ∧ gc (64 - i) x.1 x.2.1 = gc 64 a b) 64 ?_ ?_ 0 FU _ (by omega) (by unfold FU; omega) ⟨rfl, rfl⟩
  · rintro i ⟨x1, x2, x3⟩ hi ⟨rfl, e⟩
    try dsimp only at e ⊢
    rw [show 64 - i = (63 - i) + 1 by omega, gc] at e
    rw [if_pos (by omega)]
    by_cases c : x2 = 0
    · rw [if_pos c] at e ⊢
      exact ok_i e
    · rw [if_neg c] at e ⊢
      rw [show dvz x2 = some () from if_neg c, some_bind, ia_1 (by omega)]
      exact ok_i ⟨rfl, by rw [show 64 - (i + 1) = 63 - i by omega]; exact e⟩
  · rintro ⟨x1, x2, x3⟩ ⟨rfl, e⟩
    try dsimp only at e ⊢
    rw [if_neg (by decide)]
    exact ok_i e
theorem m_gcd : ∀ (n : Nat) {a b : Int}, cn a → cn b → b.natAbs < n → f_X12_common n T A a b I = some (gc n a b) := by
  intro n
  induction n with
  | zero => intro a b _ _ h; exact absurd h (by omega)
  | succ n ih =>
    intro a b ha hb' h
    rw [f_X12_common, gc]
    by_cases c : b = 0
    · rw [if_pos c, if_pos c]
    · have := irm_lt ha hb' c
      rw [if_neg c, if_neg c, show dvz b = some () from if_neg c, some_bind, ih hb' irm_cn (by omega), some_bind]
end
