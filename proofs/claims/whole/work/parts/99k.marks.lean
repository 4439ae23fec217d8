/-! B: the lines, side by side: an official's marks. -/
def mkM (T : Knd) (A : Rfs) (e4 : Int) : Int × Mem → Option ((Int × Mem) ⊕ (Mem ⊕ Mem)) := fun s51 => (f_X12_isGood T A 129 s51.2).bind fun e53 => if e53 = 0 then some (.inr (.inl s51.2)) else (gi T 12 8 129 s51.2).bind fun x56 => if x56 = 1 then (f_X12_is T A 129 6800930 s51.2).bind fun e58 => thn (if e58 = 0 then (f_X12_is T A 129 3211399 s51.2).bind fun e64 => if e64 = 0 then (f_X12_is T A 129 8863997 s51.2).bind fun e67 => if e67 = 0 then some (.inl (-1)) else some (.inl 6) else some (.inl 5) else some (.inl 4)) (fun (v62 : Int) => thn (thn (if v62 = (-1) then some (.inl ()) else if v62 = 6 then if s51.1 = 0 then some (.inr (.inl s51.2)) else some (.inl ()) else (gr T A 12 18 129).bind fun x74 => (ld T 20 x74 (ia e4 v62) s51.2).bind fun x75 => if x75 = (-1) then some (.inr (.inl s51.2)) else some (.inl ())) (fun (v73 : Unit) => (f_X12_fails T A 129 1 s51.2).bind fun e77 => some (.inl e77))) (fun (v71 : Mem) => (gi T 12 12 129 v71).bind fun x79 => if x79 = 0 then (f_X12_next T A 129 v71).bind fun e81 => (gr T A 12 18 129).bind fun x83 => thn (if v62 = 4 then (f_X12_number T A 129 0 9 e81).bind fun e93 => some (.inl (e93.1, e93.2)) else if v62 = 5 then (f_X12_number T A 129 1 20 e81).bind fun e90 => some (.inl (e90.1, e90.2)) else (f_X12_number T A 129 0 99 e81).bind fun e87 => some (.inl (e87.1, e87.2))) (fun (v85 : Int × Mem) => (sto T 20 x83 (ia e4 v62) v85.1 v85.2).bind fun I96 => if s51.1 = 0 then if v62 = 6 then some (.inl (1, I96)) else some (.inl (0, I96)) else some (.inl (1, I96))) else some (.inr (.inr v71)))) else some (.inr (.inl s51.2))
/-- the marks: lunch, fades, price: their bounds -/
def mlo (m : Nat) : Int := if m = 1 then 1 else 0
def mhi (m : Nat) : Int := if m = 0 then 9 else if m = 1 then 20 else 99
def mcw (c : Nat → Int) (m : Nat) : Int := if m = 2 ∧ c 2 = -1 then 0 else c m
def mip (c : Nat → Int) : Int := if c 2 = -1 then 0 else 1
def upc (c : Nat → Int) (m : Nat) (v : Int) : Nat → Int := fun k => if k = m then v else c k
def abn (c : Nat → Int) : Nat := (if c 0 = -1 then 1 else 0) + (if c 1 = -1 then 1 else 0) + (if c 2 = -1 then 1 else 0)
theorem abn_up {c : Nat → Int} {m : Nat} (hm : m < 3) (h : c m = -1) {v : Int} (hv : v ≠ -1) : abn (upc c m v) + 1 = abn c := by
  unfold abn upc
  rcases (by omega : m = 0 ∨ m = 1 ∨ m = 2) with e | e | e
  · subst e
    rw [if_pos rfl, if_neg (by omega : ¬ 1 = 0), if_neg (by omega : ¬ 2 = 0), if_neg hv, if_pos h]
    omega
  · subst e
    rw [if_neg (by omega : ¬ 0 = 1), if_pos rfl, if_neg (by omega : ¬ 2 = 1), if_neg hv, if_pos h]
    omega
  · subst e
    rw [if_neg (by omega : ¬ 0 = 2), if_neg (by omega : ¬ 1 = 2), if_pos rfl, if_neg hv, if_pos h]
    all_goals omega
def stuck (b : Nat → Int) (L p : Nat) (c : Nat → Int) : Prop := ∀ m, m < 3 → c m = -1 → isw b L p (9 + m) = false
section
variable (I0 M0 : Mem) (b : Nat → Int) (L : Nat)
/-- the official that is being read, on both sides -/
def MKo (n : Nat) (O : Ofc) (c : Nat → Int) (I M : Mem) : Prop := (∀ w, w < 4 → I (8 + w) n = O (3 + w) n ∧ M 137 (9 * (32 + n) + w) = O (3 + w) n) ∧ (∀ m, m < 3 → I (12 + m) n = c m ∧ M 137 (9 * (32 + n) + (4 + m)) = mcw c m) ∧ (I 15 n = -1 ∧ I 16 n = -1) ∧ (M 137 (9 * (32 + n) + 7) = -1 ∧ M 137 (9 * (32 + n) + 8) = -1) ∧ (M 138 (32 + n) = 0 ∧ M 139 (32 + n) = 0) ∧ ∀ m, m < 3 → c m = -1 ∨ (mlo m ≤ c m ∧ c m ≤ mhi m)
def MK (n : Nat) (O : Ofc) (p : Nat) (c : Nat → Int) (I M : Mem) : Prop := RG I0 M0 b L n 0 O p I M ∧ MKo n O c I M
end
section
variable {T : Knd} {A : Rfs} {I M I0 M0 : Mem} {b : Nat → Int} {L n u p : Nat} {O : Ofc} {Ψ : Prop} {c : Nat → Int}
theorem c_tell (h : Ag T A) {w : Nat} (hw : w < 11) (hn : n < 8) (h4 : I 5 4 = (n : Int)) (v : Int) : f_X4_tell T A 4 (w : Int) v I = some (mu I (8 + w) n v) := by
  obtain ⟨k0, k1, k2, k3, k4, k5, k6, k7, k8, k9⟩ := r_ev h
  unfold f_X4_tell
  rw [if_pos k0, k2, some_bind, k5, some_bind, h4, if_pos (by omega), some_bind, k8, some_bind, r5_told h hw, some_bind, some_bind, k5, some_bind, h4, ev_sto (kT5_told h hw), if_pos (by omega), some_bind, Int.toNat_natCast]
theorem mko_tok {J N : Mem} (q : MKo n O c I M) (hn : n < 8) (e1 : ∀ o k, 5 ≤ o → o ≤ 25 → J o k = I o k) (e2 : ∀ o k, 134 ≤ o → N o k = M o k) : MKo n O c J N := by
  obtain ⟨q1, q2, q3, q4, q5, q6⟩ := q
  refine ⟨fun w hw => ?_, fun m hm => ?_, ?_, ?_, ?_, q6⟩
  · rw [e1 _ _ (by omega) (by omega), e2 _ _ (by omega)]; exact q1 w hw
  · rw [e1 _ _ (by omega) (by omega), e2 _ _ (by omega)]; exact q2 m hm
  · rw [e1 _ _ (by omega) (by omega), e1 _ _ (by omega) (by omega)]; exact q3
  · rw [e2 _ _ (by omega), e2 _ _ (by omega)]; exact q4
  · rw [e2 _ _ (by omega), e2 _ _ (by omega)]; exact q5
theorem wne0 : ∀ m : Nat, m < 3 → ∀ k : Nat, k < 3 → m ≠ k → wpk (9 + m) ≠ wpk (9 + k) := by decide +kernel
theorem wne (m k : Nat) (h1 : m < 3) (h2 : k < 3) (h3 : m ≠ k) : wpk (9 + m) ≠ wpk (9 + k) := wne0 m h1 k h2 h3
/-- one round of the reference at a mark that is not there yet -/
theorem mk_it (h : Ag T A) (k : Nat) {m : Nat} (hm : m < 3) (hn : n < 8) (q : MK I0 M0 b L n O p c I M) (hc : c m = -1) (hw : isw b L p (9 + m) = true) : it (mkM T A (9 * (32 + (n : Int)))) (k + 1) (mip c, M) = (f_X12_next T A 129 M).bind (fun e81 => (f_X12_number T A 129 (mlo m) (mhi m) e81).bind (fun e => (sto T 20 137 (9 * (32 + (n : Int)) + (4 + m)) e.1 e.2).bind (fun I96 => it (mkM T A (9 * (32 + (n : Int)))) k (if m = 2 then 1 else mip c, I96)))) := by
  obtain ⟨r, q1, q2, q3, q4, q5, q6⟩ := q
  obtain ⟨g0, g1, g2, g3, g4⟩ := g_ev h
  obtain ⟨u16, u17, u18, u19, u20, u21, u22, u23⟩ := q_ev h
  have g := r.2.2.2.2.1
  have hk := isw_k hw
  have i9 : f_X12_is T A 129 6800930 M = some (bi (isw b L p 9)) := m_is h (w := 9) r.2.2.2.1 g
  have i10 : f_X12_is T A 129 3211399 M = some (bi (isw b L p 10)) := m_is h (w := 10) r.2.2.2.1 g
  have i11 : f_X12_is T A 129 8863997 M = some (bi (isw b L p 11)) := m_is h (w := 11) r.2.2.2.1 g
  have oth : ∀ k, k < 3 → m ≠ k → isw b L p (9 + k) = false := fun k hk hne => isw_ne hw (wne m k hm hk hne)
  have ph : ∀ (v62 : Int), (if bi (isw b L p 9) = 0 then (f_X12_is T A 129 3211399 M).bind fun e64 => if e64 = 0 then (f_X12_is T A 129 8863997 M).bind fun e67 => if e67 = 0 then some (.inl (-1)) else some (.inl 6) else some (.inl 5) else some (.inl 4)) = (some (.inl ((4 : Int) + m)) : Option (Int ⊕ ((Int × Mem) ⊕ (Mem ⊕ Mem)))) := fun _ => by
    rcases (by omega : m = 0 ∨ m = 1 ∨ m = 2) with e | e | e
    · subst e
      rw [show isw b L p 9 = true from hw, if_neg (show ¬ bi true = 0 by decide)]; rfl
    · subst e
      rw [show isw b L p 9 = false from oth 0 (by decide) (by decide), if_pos (show bi false = 0 from rfl), i10, some_bind, show isw b L p 10 = true from hw, if_neg (show ¬ bi true = 0 by decide)]; rfl
    · subst e
      rw [show isw b L p 9 = false from oth 0 (by decide) (by decide), if_pos (show bi false = 0 from rfl), i10, some_bind, show isw b L p 10 = false from oth 1 (by decide) (by decide), if_pos (show bi false = 0 from rfl), i11, some_bind, show isw b L p 11 = true from hw, if_neg (show ¬ bi true = 0 by decide)]; rfl
  rw [it]
  unfold mkM
  dsimp only
  rw [m_isGood h, if_pos g, some_bind, if_neg (by decide), g2, some_bind, r.2.2.2.1.1, if_pos hk, i9, some_bind, ph 0, thn_l]
  have there : (if (4 : Int) + m = (-1) then some (.inl ()) else if (4 : Int) + m = 6 then if mip c = 0 then some (.inr (.inl M)) else some (.inl ()) else (gr T A 12 18 129).bind fun x74 => (ld T 20 x74 (ia (9 * (32 + (n : Int))) (4 + m)) M).bind fun x75 => if x75 = (-1) then some (.inr (.inl M)) else some (.inl ())) = (some (.inr (.inl M)) : Option (Unit ⊕ (Mem ⊕ ((Int × Mem) ⊕ (Mem ⊕ Mem))))) := by
    rw [if_neg (by omega)]
    by_cases e : m = 2
    · subst e
      have : mip c = 0 := if_pos hc
      rw [if_pos (by decide), if_pos this]
    · have hq := (q2 m hm).2
      have hcw : mcw c m = c m := if_neg (fun z => e z.1)
      rw [if_neg (by omega), u18, some_bind, ia_eq (by omega) (by omega), ev_ld (kT_137 h), if_pos (by omega), some_bind, show (9 * (32 + (n : Int)) + (4 + (m : Int))).toNat = 9 * (32 + n) + (4 + m) by omega, hq, hcw, if_pos hc]
  rw [there, thn_r, thn_l, g2, some_bind, if_pos g]
  cases hx : f_X12_next T A 129 M with
  | none => rfl
  | some N =>
    rw [some_bind, some_bind, u18, some_bind]
    have num : (if (4 : Int) + m = 4 then (f_X12_number T A 129 0 9 N).bind fun e93 => some (.inl (e93.1, e93.2)) else if (4 : Int) + m = 5 then (f_X12_number T A 129 1 20 N).bind fun e90 => some (.inl (e90.1, e90.2)) else (f_X12_number T A 129 0 99 N).bind fun e87 => some (.inl (e87.1, e87.2))) = (f_X12_number T A 129 (mlo m) (mhi m) N).bind (fun e => (some (.inl e) : Option ((Int × Mem) ⊕ ((Int × Mem) ⊕ (Mem ⊕ Mem))))) := by
      rcases (by omega : m = 0 ∨ m = 1 ∨ m = 2) with e | e | e
      · subst e; rw [if_pos (by decide)]; rfl
      · subst e; rw [if_neg (by decide), if_pos (by decide)]; rfl
      · subst e; rw [if_neg (by decide), if_neg (by decide)]; rfl
    rw [num]
    cases hy : f_X12_number T A 129 (mlo m) (mhi m) N with
    | none => rfl
    | some e =>
      rw [some_bind, some_bind, thn_l, ia_eq (by omega) (by omega)]
      cases hz : sto T 20 137 (9 * (32 + (n : Int)) + (4 + m)) e.1 e.2 with
      | none => rfl
      | some V =>
        rw [some_bind, some_bind]
        by_cases e2 : m = 2
        · subst e2
          have : mip c = 0 := if_pos hc
          rw [if_pos rfl, this, if_pos rfl, if_pos (by decide)]
          all_goals rfl
        · rw [if_neg e2]
          by_cases e3 : mip c = 0
          · rw [if_pos e3, if_neg (by omega), e3]
            all_goals rfl
          · have : mip c = 1 := by
              unfold mip at e3 ⊢
              by_cases z : c 2 = -1
              · rw [if_pos z] at e3; exact absurd rfl e3
              · rw [if_neg z]
            rw [if_neg e3, this]
            all_goals rfl
/-- the reference, where no mark is to be read -/
theorem mk_end (h : Ag T A) (k : Nat) (hn : n < 8) (q : MK I0 M0 b L n O p c I M) (hs : stuck b L p c) : it (mkM T A (9 * (32 + (n : Int)))) (k + 1) (mip c, M) = if tk b L p = 1 then some (.inr (mu (mu M 129 12 1) 129 13 (M 129 9))) else some (.inl M) := by
  obtain ⟨r, q1, q2, q3, q4, q5, q6⟩ := q
  obtain ⟨g0, g1, g2, g3, g4⟩ := g_ev h
  obtain ⟨u16, u17, u18, u19, u20, u21, u22, u23⟩ := q_ev h
  have g := r.2.2.2.2.1
  have i9 : f_X12_is T A 129 6800930 M = some (bi (isw b L p 9)) := m_is h (w := 9) r.2.2.2.1 g
  have i10 : f_X12_is T A 129 3211399 M = some (bi (isw b L p 10)) := m_is h (w := 10) r.2.2.2.1 g
  have i11 : f_X12_is T A 129 8863997 M = some (bi (isw b L p 11)) := m_is h (w := 11) r.2.2.2.1 g
  rw [it]
  unfold mkM
  dsimp only
  rw [m_isGood h, if_pos g, some_bind, if_neg (by decide), g2, some_bind, r.2.2.2.1.1]
  by_cases d : tk b L p = 1
  · rw [if_pos d, if_pos d, i9, some_bind]
    have fl : f_X12_fails T A 129 1 M = some (mu (mu M 129 12 1) 129 13 (M 129 9)) := by rw [m_fails h, if_pos g]
    have fin : ∀ v62 : Int, ((if v62 = (-1) then some (.inl ()) else if v62 = 6 then if mip c = 0 then some (.inr (.inl M)) else some (.inl ()) else (gr T A 12 18 129).bind fun x74 => (ld T 20 x74 (ia (9 * (32 + (n : Int))) v62) M).bind fun x75 => if x75 = (-1) then some (.inr (.inl M)) else some (.inl ())) = (some (.inl ()) : Option (Unit ⊕ (Mem ⊕ ((Int × Mem) ⊕ (Mem ⊕ Mem)))))) → thn (thn (if v62 = (-1) then some (.inl ()) else if v62 = 6 then if mip c = 0 then some (.inr (.inl M)) else some (.inl ()) else (gr T A 12 18 129).bind fun x74 => (ld T 20 x74 (ia (9 * (32 + (n : Int))) v62) M).bind fun x75 => if x75 = (-1) then some (.inr (.inl M)) else some (.inl ())) (fun (v73 : Unit) => (f_X12_fails T A 129 1 M).bind fun e77 => some (.inl e77))) (fun (v71 : Mem) => (gi T 12 12 129 v71).bind fun x79 => if x79 = 0 then (f_X12_next T A 129 v71).bind fun e81 => (gr T A 12 18 129).bind fun x83 => thn (if v62 = 4 then (f_X12_number T A 129 0 9 e81).bind fun e93 => some (.inl (e93.1, e93.2)) else if v62 = 5 then (f_X12_number T A 129 1 20 e81).bind fun e90 => some (.inl (e90.1, e90.2)) else (f_X12_number T A 129 0 99 e81).bind fun e87 => some (.inl (e87.1, e87.2))) (fun (v85 : Int × Mem) => (sto T 20 x83 (ia (9 * (32 + (n : Int))) v62) v85.1 v85.2).bind fun I96 => if mip c = 0 then if v62 = 6 then some (.inl (1, I96)) else some (.inl (0, I96)) else some (.inl (1, I96))) else some (.inr (.inr v71))) = (some (.inr (.inr (mu (mu M 129 12 1) 129 13 (M 129 9)))) : Option ((Int × Mem) ⊕ (Mem ⊕ Mem))) := fun v62 e => by
      rw [e, thn_l, fl, some_bind, thn_l, g2, some_bind, mu_o _ _ (by omega), mu_s, if_neg (by decide)]
    have hit : ∀ m : Nat, m < 3 → isw b L p (9 + m) = true → (if (4 : Int) + m = (-1) then some (.inl ()) else if (4 : Int) + m = 6 then if mip c = 0 then some (.inr (.inl M)) else some (.inl ()) else (gr T A 12 18 129).bind fun x74 => (ld T 20 x74 (ia (9 * (32 + (n : Int))) (4 + m)) M).bind fun x75 => if x75 = (-1) then some (.inr (.inl M)) else some (.inl ())) = (some (.inl ()) : Option (Unit ⊕ (Mem ⊕ ((Int × Mem) ⊕ (Mem ⊕ Mem))))) := fun m hm hw => by
      have hc : c m ≠ -1 := fun e => by rw [hs m hm e] at hw; exact absurd hw (by decide)
      rw [if_neg (by omega)]
      by_cases e : m = 2
      · subst e
        have : mip c = 1 := if_neg hc
        rw [if_pos (by decide), this, if_neg (by decide)]
      · have hq := (q2 m hm).2
        have hcw : mcw c m = c m := if_neg (fun z => e z.1)
        rw [if_neg (by omega), u18, some_bind, ia_eq (by omega) (by omega), ev_ld (kT_137 h), if_pos (by omega), some_bind, show (9 * (32 + (n : Int)) + (4 + (m : Int))).toNat = 9 * (32 + n) + (4 + m) by omega, hq, hcw, if_neg hc]
    cases h9 : isw b L p 9
    · rw [if_pos (show bi false = 0 from rfl), i10, some_bind]
      cases h10 : isw b L p 10
      · rw [if_pos (show bi false = 0 from rfl), i11, some_bind]
        cases h11 : isw b L p 11
        · rw [if_pos (show bi false = 0 from rfl), thn_l]
          rw [fin (-1) (if_pos rfl)]
        · rw [if_neg (show ¬ bi true = 0 by decide), thn_l]
          rw [fin 6 (hit 2 (by decide) h11)]
      · rw [if_neg (show ¬ bi true = 0 by decide), thn_l]
        rw [fin 5 (hit 1 (by decide) h10)]
    · rw [if_neg (show ¬ bi true = 0 by decide), thn_l]
      rw [fin 4 (hit 0 (by decide) h9)]
  · rw [if_neg d, if_neg d]
theorem mk_bad (h : Ag T A) (k : Nat) (e4 ip : Int) (g : M 129 12 ≠ 0) : it (mkM T A e4) (k + 1) (ip, M) = some (.inl M) := by
  rw [it]
  unfold mkM
  dsimp only
  rw [m_isGood h, if_neg g, some_bind, if_pos rfl]
end
