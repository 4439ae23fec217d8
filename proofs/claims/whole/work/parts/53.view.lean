/-! B: an office as both sides hold it: O 0 its counts (lines, rooms, first room, first hour, officials, permit, moves), O 1 the moves, O 3 to O 13 what each official is told by, O 15 to O 20 the ways. -/
abbrev Ofc : Type := Nat → Nat → Int
def CV (O : Ofc) (P : Nat) (I : Mem) : Prop := (∀ k, k < 7 → I P k = O 0 k) ∧ (∀ k : Nat, (k : Int) < O 0 6 → I (P + 1) k = O 1 k) ∧ (∀ w o : Nat, w < 11 → (o : Int) < O 0 4 → I (P + 3 + w) o = O (3 + w) o) ∧ (∀ r c, r < 6 → c < 6 → I (P + 15 + r) c = O (15 + r) c)
def MW (O : Ofc) (s : Nat) (I : Mem) : Prop := I 135 s = O 0 0 ∧ (∀ k, k < 6 → I 136 (6 * s + k) = O 0 (k + 1)) ∧ (∀ k : Nat, (k : Int) < O 0 6 → I 141 (40 * s + k) = O 1 k) ∧ (∀ w o : Nat, w < 9 → (o : Int) < O 0 4 → I 137 (9 * (8 * s + o) + w) = O (3 + w) o) ∧ (∀ o : Nat, (o : Int) < O 0 4 → I 138 (8 * s + o) = O 12 o) ∧ (∀ o : Nat, (o : Int) < O 0 4 → I 139 (8 * s + o) = O 13 o) ∧ (∀ r c, r < 6 → c < 6 → I 140 (36 * s + 6 * r + c) = O (15 + r) c)
/-- what an official is told by is in its bounds -/
def WO (O : Ofc) (o : Nat) : Prop := (0 ≤ O 3 o ∧ O 3 o < O 0 1) ∧ (0 ≤ O 4 o ∧ O 4 o ≤ 9) ∧ (0 ≤ O 5 o ∧ O 5 o ≤ 9) ∧ (1 ≤ O 6 o ∧ O 6 o ≤ 31) ∧ (-1 ≤ O 7 o ∧ O 7 o ≤ 9) ∧ (O 8 o = -1 ∨ 1 ≤ O 8 o ∧ O 8 o ≤ 20) ∧ (0 ≤ O 9 o ∧ O 9 o ≤ 99) ∧ (O 10 o = -1 ∧ O 11 o = -1 ∨ 0 ≤ O 10 o ∧ O 10 o ≤ O 11 o ∧ O 11 o ≤ 39) ∧ (sl (O 0 4).toNat (O 12 o) ∧ hb (O 12 o) o = false) ∧ (sl (O 0 4).toNat (O 13 o) ∧ hb (O 13 o) o = false)
def WF (O : Ofc) : Prop := (0 ≤ O 0 0 ∧ O 0 0 ≤ 1600) ∧ (0 ≤ O 0 1 ∧ O 0 1 ≤ 6) ∧ (0 ≤ O 0 2 ∧ (0 < O 0 0 → O 0 2 < O 0 1)) ∧ (0 ≤ O 0 3 ∧ O 0 3 ≤ 399) ∧ (0 ≤ O 0 4 ∧ O 0 4 ≤ 8) ∧ sl (O 0 4).toNat (O 0 5) ∧ (0 ≤ O 0 6 ∧ O 0 6 ≤ 40) ∧ (O 0 0 = 0 → O 0 1 = 0 ∧ O 0 2 = 0 ∧ O 0 4 = 0 ∧ O 0 6 = 0) ∧ (∀ o : Nat, (o : Int) < O 0 4 → WO O o) ∧ (∀ r c, r < 6 → c < 6 → 0 ≤ O (15 + r) c ∧ O (15 + r) c ≤ 9 ∧ (0 < O (15 + r) c → (r : Int) < O 0 1 ∧ (c : Int) < O 0 1))
/-- cells of the reference that no later call reads before it sets them -/
def scr (o k : Nat) : Bool := o == 129 && (k == 0 || (7 ≤ k && k ≤ 13) || (25 ≤ k && k ≤ 28) || (32 ≤ k && k ≤ 49)) || o == 133 || o == 143 || o == 144 || o == 145 || o == 146 || o == 147 || o == 148 || o == 149 || o == 150 || o == 151 || o == 152 || o == 153
def Fr (I J : Mem) : Prop := ∀ o k, scr o k = false → J o k = I o k
theorem fr_r (I : Mem) : Fr I I := fun _ _ _ => rfl
theorem fr_t {I J K : Mem} (h : Fr I J) (g : Fr J K) : Fr I K := fun o k hk => by rw [g o k hk, h o k hk]
theorem fr_mu {I : Mem} {a k : Nat} {v : Int} (h : scr a k = true) : Fr I (mu I a k v) := by
  intro o j hj
  refine mu_o I v (fun e => ?_)
  rw [e.1, e.2, h] at hj
  exact absurd hj (by decide)
theorem fr_0 (I : Mem) : Fr I (mu I 129 0 0) := fr_mu (by decide)
theorem scr_lt {o k : Nat} (h : o < 129) : scr o k = false := by
  have e : ∀ n, 129 ≤ n → (o == n) = false := fun n hn => by rw [beq_eq_false_iff_ne]; omega
  unfold scr
  simp [e]
theorem scr_mw {o k : Nat} (h1 : 134 ≤ o) (h2 : o ≤ 142) : scr o k = false := by
  have e : ∀ n, n < 134 → (o == n) = false := fun n hn => by rw [beq_eq_false_iff_ne]; omega
  have e2 : ∀ n, 142 < n → (o == n) = false := fun n hn => by rw [beq_eq_false_iff_ne]; omega
  unfold scr
  simp [e, e2]
theorem cv_fr {O : Ofc} {P : Nat} {I J : Mem} (hP : P < 100) (h : CV O P I) (hf : Fr I J) : CV O P J := by
  have e : ∀ o k, o < 129 → J o k = I o k := fun o k ho => hf o k (scr_lt ho)
  refine ⟨fun k hk => ?_, fun k hk => ?_, fun w o hw ho => ?_, fun r c hr hc => ?_⟩
  · rw [e _ _ (by omega)]; exact h.1 k hk
  · rw [e _ _ (by omega)]; exact h.2.1 k hk
  · rw [e _ _ (by omega)]; exact h.2.2.1 w o hw ho
  · rw [e _ _ (by omega)]; exact h.2.2.2 r c hr hc
theorem mw_fr {O : Ofc} {s : Nat} {I J : Mem} (h : MW O s I) (hf : Fr I J) : MW O s J := by
  have e : ∀ o k, 134 ≤ o → o ≤ 142 → J o k = I o k := fun o k h1 h2 => hf o k (scr_mw h1 h2)
  obtain ⟨h1, h2, h3, h4, h5, h6, h7⟩ := h
  refine ⟨?_, fun k hk => ?_, fun k hk => ?_, fun w o hw ho => ?_, fun o ho => ?_, fun o ho => ?_, fun r c hr hc => ?_⟩
  · rw [e _ _ (by omega) (by omega)]; exact h1
  · rw [e _ _ (by omega) (by omega)]; exact h2 k hk
  · rw [e _ _ (by omega) (by omega)]; exact h3 k hk
  · rw [e _ _ (by omega) (by omega)]; exact h4 w o hw ho
  · rw [e _ _ (by omega) (by omega)]; exact h5 o ho
  · rw [e _ _ (by omega) (by omega)]; exact h6 o ho
  · rw [e _ _ (by omega) (by omega)]; exact h7 r c hr hc
def b2 (p : Prop) [Decidable p] : Int := if p then 1 else 0
theorem b2_0 {p : Prop} [Decidable p] : b2 p = 0 ↔ ¬ p := by
  unfold b2
  by_cases h : p
  · rw [if_pos h]; exact ⟨fun e => absurd e (by decide), fun e => absurd h e⟩
  · rw [if_neg h]; exact ⟨fun _ => h, fun _ => rfl⟩
theorem m_in {T : Knd} {A : Rfs} {a b c : Int} {I : Mem} : f_X12_in T A a b c I = some (if b ≤ a ∧ a ≤ c then 1 else 0) := by
  unfold f_X12_in ilcmp
  by_cases h1 : a < b
  · rw [if_pos h1, if_pos (by decide), if_neg (by omega)]
  · rw [if_neg h1]
    have h2 : ¬ ((if a = b then (0 : Int) else 1) < 0) := by split <;> decide
    rw [if_neg h2]
    by_cases h3 : a ≤ c
    · have e2 : (if a < c then (-1 : Int) else if a = c then 0 else 1) ≤ 0 := by
        split
        · decide
        · split
          · decide
          · omega
      rw [if_pos e2, if_pos (by omega : b ≤ a ∧ a ≤ c)]
    · have e2 : ¬ (if a < c then (-1 : Int) else if a = c then 0 else 1) ≤ 0 := by
        rw [if_neg (by omega), if_neg (by omega)]
        decide
      rw [if_neg e2, if_neg (by omega : ¬ (b ≤ a ∧ a ≤ c))]
section
variable {T : Knd} {A : Rfs} {O : Ofc} {I : Mem}
theorem wf_n (w : WF O) : 0 ≤ O 0 4 ∧ O 0 4 ≤ 8 := w.2.2.2.2.1
theorem mw_n (h : MW O 0 I) : I 136 3 = O 0 4 := h.2.1 3 (by decide)
theorem mw_rooms (h : MW O 0 I) : I 136 0 = O 0 1 := h.2.1 0 (by decide)
theorem mw_room (h : MW O 0 I) : I 136 1 = O 0 2 := h.2.1 1 (by decide)
theorem mw_hour (h : MW O 0 I) : I 136 2 = O 0 3 := h.2.1 2 (by decide)
theorem mw_permit (h : MW O 0 I) : I 136 4 = O 0 5 := h.2.1 4 (by decide)
theorem mw_acts (h : MW O 0 I) : I 136 5 = O 0 6 := h.2.1 5 (by decide)
theorem mw_lines (h : MW O 0 I) : I 135 0 = O 0 0 := h.1
theorem mw_of (h : MW O 0 I) {w o : Nat} (hw : w < 9) (ho : (o : Int) < O 0 4) : I 137 (9 * o + w) = O (3 + w) o := by
  have := h.2.2.2.1 w o hw ho
  rwa [show 9 * (8 * 0 + o) + w = 9 * o + w by omega] at this
theorem mw_needs (h : MW O 0 I) {o : Nat} (ho : (o : Int) < O 0 4) : I 138 o = O 12 o := by
  have := h.2.2.2.2.1 o ho
  rwa [show 8 * 0 + o = o by omega] at this
theorem mw_bars (h : MW O 0 I) {o : Nat} (ho : (o : Int) < O 0 4) : I 139 o = O 13 o := by
  have := h.2.2.2.2.2.1 o ho
  rwa [show 8 * 0 + o = o by omega] at this
theorem cv_n (h : CV O 26 I) : I 26 4 = O 0 4 := h.1 4 (by decide)
theorem cv_rooms (h : CV O 26 I) : I 26 1 = O 0 1 := h.1 1 (by decide)
theorem cv_lines (h : CV O 26 I) : I 26 0 = O 0 0 := h.1 0 (by decide)
theorem cv_room (h : CV O 26 I) : I 26 2 = O 0 2 := h.1 2 (by decide)
theorem cv_hour (h : CV O 26 I) : I 26 3 = O 0 3 := h.1 3 (by decide)
theorem cv_permit (h : CV O 26 I) : I 26 5 = O 0 5 := h.1 5 (by decide)
theorem cv_moved (h : CV O 26 I) : I 26 6 = O 0 6 := h.1 6 (by decide)
theorem cv_told (h : CV O 26 I) {w o : Nat} (hw : w < 11) (ho : (o : Int) < O 0 4) : I (29 + w) o = O (3 + w) o := h.2.2.1 w o hw ho
theorem m_isOfficial (h : Ag T A) (w : WF O) (hm : MW O 0 I) (a : Int) : f_X12_isOfficial T A 129 a I = some (if 0 ≤ a ∧ a < O 0 4 then 1 else 0) := by
  have hn := wf_n w
  unfold f_X12_isOfficial
  simp only [agM h, if_true, some_bind, m_in]
  rw [if_pos (by decide), some_bind, show (3 : Int).toNat = 3 from rfl, mw_n hm]
  have e : ils (O 0 4) 1 = O 0 4 - 1 := wrapl_id ⟨by omega, by omega⟩
  rw [e]
  by_cases c : 0 ≤ a ∧ a < O 0 4
  · rw [if_pos c, if_pos (by omega)]; rfl
  · rw [if_neg c, if_neg (by omega)]; rfl
theorem m_isOffice (h : Ag T A) (hm : MW O 0 I) : f_X12_isOffice T A 129 I = some (if 0 < O 0 0 then 1 else 0) := by
  unfold f_X12_isOffice
  simp only [agM h, if_true, some_bind]
  rw [if_pos (by decide), some_bind, show (0 : Int).toNat = 0 from rfl, mw_lines hm]
  by_cases c : 0 < O 0 0
  · rw [if_pos c, if_neg (by omega)]
  · rw [if_neg c, if_pos (by omega)]
theorem c_has (h : Ag T A) (w : WF O) (hc : CV O 26 I) (a : Int) : f_X2_hasOfficial T A 26 a I = some (if 0 ≤ a ∧ a < O 0 4 then 1 else 0) := by
  have hn := wf_n w
  unfold f_X2_hasOfficial
  simp only [agPl h, if_true, some_bind, cv_n hc]
  by_cases c : 0 ≤ a ∧ a < O 0 4
  · rw [if_pos c, if_neg (by omega), if_pos c.2, if_pos (by omega)]
  · rw [if_neg c]
    split
    · rfl
    · split
      · omega
      · rfl
theorem c_isThere (h : Ag T A) (hc : CV O 26 I) : f_X2_isThere T A 26 I = some (if 0 < O 0 0 then 1 else 0) := by
  unfold f_X2_isThere
  simp only [agPl h, if_true, some_bind, cv_lines hc]
  by_cases c : 0 < O 0 0
  · rw [if_pos c, if_neg (by omega)]
  · rw [if_neg c, if_pos (by omega)]
theorem m_of (h : Ag T A) (w : WF O) (hm : MW O 0 I) {o k : Nat} (hk : k < 9) (ho : (o : Int) < O 0 4) : f_X12_of T A 129 (o : Int) (k : Int) I = some (O (3 + k) o) := by
  have hn := wf_n w
  unfold f_X12_of
  simp only [agM h, if_true, some_bind]
  rw [im_eq (by omega) (by omega), ia_eq (by omega) (by omega), if_pos (by omega), some_bind]
  rw [show (9 * (o : Int) + k).toNat = 9 * o + k by omega, mw_of hm hk ho]
end
