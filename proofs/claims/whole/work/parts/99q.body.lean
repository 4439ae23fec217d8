/-! B: a line, side by side. -/
theorem ok2_bs {X Y U : Type} {c : Option X} {x : X} {m : Option Y} {k : X → Option U} {P : U → Y → Prop} (e : c = some x) (h : OK2 (k x) m P) : OK2 (c.bind k) m P := by rw [e]; exact h
def lnC (T : Knd) (A : Rfs) (b : Nat → Int) (L p : Nat) (I : Mem) : Option Mem := if isw b L p 0 = true then (f_X4_blame T A 4 1 I).bind (fun e => some e.2) else if isw b L p 4 = true then f_X4_readOfficial T A 4 I else if isw b L p 12 = true then f_X4_readWay T A 4 I else if isw b L p 13 = true then f_X4_readAsking T A 4 9 I else if isw b L p 14 = true then f_X4_readAsking T A 4 10 I else if isw b L p 15 = true then f_X4_readLeave T A 4 I else if isw b L p 16 = true then f_X4_readPermit T A 4 I else (f_X4_blame T A 4 1 I).bind (fun e => some e.2)
def pmX (T : Knd) (A : Rfs) (M : Mem) : Option (Unit ⊕ Mem) := thn (it (pmM T A (Unit ⊕ Mem)) FU (0, M)) (fun (v30 : Int × Mem) => (f_X12_isGood T A 129 v30.2).bind fun e43 => if e43 = 0 then some (.inr v30.2) else (f_X12_reads T A 129 4 v30.1 v30.2).bind fun e46 => some (.inr e46))
section
variable {T : Knd} {A : Rfs} {I M I0 M0 M1 : Mem} {b : Nat → Int} {L n u p : Nat} {O : Ofc} {Ψ : Prop} {c : Nat → Int} {ln : Int}
theorem bT : ¬ bi true = 0 := by decide
theorem bF : bi false = 0 := rfl
theorem fT : ¬ false = true := by decide
theorem c_line (h : Ag T A) (r : RG I0 M0 b L n u O p I M) (hl : O 0 0 ≠ 0) : f_X4_readLine T A 4 I = (lnC T A b L p I).bind (fun J => f_X4_takeSign T A 4 J) := by
  obtain ⟨k0, k1, k2, k3, k4, k5, k6, k7, k8, k9⟩ := r_ev h
  have wd : ∀ w, w < 17 → f_X8_isWord T A 2 w I = some (bi (isw b L p w)) := fun w hw => c_isWord h r.2.1.2.1 r.2.1.1 hw r.2.1.2.2.1
  have e0 : I 5 0 = O 0 0 := rg_5 r (by decide)
  unfold f_X4_readLine lnC
  rw [if_pos k0]
  simp only [k1, k2, k5, some_bind, wd 0 (by decide), wd 4 (by decide), wd 12 (by decide), wd 13 (by decide), wd 14 (by decide), wd 15 (by decide), wd 16 (by decide), c_blame h]
  rw [e0, if_neg hl, thn_l]
  have fin : ∀ o : Option Mem, (thn (o.bind fun e => (some (.inl e) : Option (Mem ⊕ Mem))) fun v12 => (f_X4_takeSign T A 4 v12).bind fun e57 => some e57) = o.bind fun J => f_X4_takeSign T A 4 J := fun o => by
    cases o with
    | none => rfl
    | some J =>
      rw [some_bind, thn_l, some_bind]
      cases f_X4_takeSign T A 4 J <;> rfl
  have fin2 : ∀ J : Mem, (thn (some (.inl J) : Option (Mem ⊕ Mem)) fun v12 => (f_X4_takeSign T A 4 v12).bind fun e57 => some e57) = f_X4_takeSign T A 4 J := fun J => by
    rw [thn_l]
    cases f_X4_takeSign T A 4 J <;> rfl
  cases isw b L p 0
  · rw [if_pos bF, if_pos bF, if_neg fT]
    cases isw b L p 4
    · rw [if_pos bF, if_neg fT]
      cases isw b L p 12
      · rw [if_pos bF, if_neg fT]
        cases isw b L p 13
        · rw [if_pos bF, if_neg fT]
          cases isw b L p 14
          · rw [if_pos bF, if_neg fT]
            cases isw b L p 15
            · rw [if_pos bF, if_neg fT]
              cases isw b L p 16
              · rw [if_pos bF, if_neg fT, fin2, some_bind]
              · rw [if_neg bT, if_pos rfl, fin]
            · rw [if_neg bT, if_pos rfl, fin]
          · rw [if_neg bT, if_pos rfl, fin]
        · rw [if_neg bT, if_pos rfl, fin]
      · rw [if_neg bT, if_pos rfl, fin]
    · rw [if_neg bT, if_pos rfl, fin]
  · rw [if_neg bT, if_pos rfl, fin2, some_bind]
theorem pmx_bad (h : Ag T A) (g : M 129 12 ≠ 0) : pmX T A M = some (.inr M) := by
  unfold pmX
  rw [show FU = 999999 + 1 from rfl, pm_it h, m_officialHere h, m_number0 h g, some_bind]
  unfold pmP
  dsimp only
  rw [if_neg g, thn_l, m_isGood h, if_neg g, some_bind, if_pos rfl]
theorem m_line4 (h : Ag T A) (r : RG I0 M0 b L n u O p I M) (hw : isw b L p 4 = true) : f_X12_line T A 129 M = if n = 8 then f_X12_fails T A 129 3 M else (f_X12_next T A 129 M).bind (fun e => f_X12_officialLine T A 129 e) := by
  obtain ⟨g0, g1, g2, g3, g4⟩ := g_ev h
  have g := r.2.2.2.2.1
  have i4 : f_X12_is T A 129 159320763039 M = some (bi (isw b L p 4)) := m_is h (w := 4) r.2.2.2.1 g
  have i13 : f_X12_is T A 129 7542361 M = some (bi (isw b L p 13)) := m_is h (w := 13) r.2.2.2.1 g
  have h3 : M 136 27 = (n : Int) := by rw [rg_6 (k := 3) r (by decide)]; exact r.1.1
  unfold f_X12_line
  rw [if_pos g0, i4, some_bind, hw, if_neg bT, m_hr3 h, some_bind, h3]
  by_cases c : n = 8
  · rw [if_pos (by omega), if_pos c, m_fails h, if_pos g, some_bind, thn_l, g2, some_bind, mu_o _ _ (by omega), mu_s, if_neg (by decide)]
  · rw [if_neg (by omega), if_neg c, thn_l, g2, some_bind, if_pos g, i13, some_bind, if_neg bT]
    cases f_X12_next T A 129 M
    · rfl
    · rename_i N
      rw [some_bind, some_bind]
      cases f_X12_officialLine T A 129 N <;> rfl
theorem m_line13 (h : Ag T A) (r : RG I0 M0 b L n u O p I M) {w : Nat} (hw2 : w < 2) (hw : isw b L p (13 + w) = true) : f_X12_line T A 129 M = (f_X12_next T A 129 M).bind (fun e => f_X12_askLine T A 129 (138 + w) e) := by
  obtain ⟨g0, g1, g2, g3, g4⟩ := g_ev h
  obtain ⟨u16, u17, u18, u19, u20, u21, u22, u23⟩ := q_ev h
  have g := r.2.2.2.2.1
  have i4 : f_X12_is T A 129 159320763039 M = some (bi (isw b L p 4)) := m_is h (w := 4) r.2.2.2.1 g
  have i13 : f_X12_is T A 129 7542361 M = some (bi (isw b L p 13)) := m_is h (w := 13) r.2.2.2.1 g
  have i14 : f_X12_is T A 129 40600 M = some (bi (isw b L p 14)) := m_is h (w := 14) r.2.2.2.1 g
  have n4 : isw b L p 4 = false := by
    rcases (by omega : w = 0 ∨ w = 1) with e | e
    · subst e; exact isw_ne hw (by decide)
    · subst e; exact isw_ne hw (by decide)
  unfold f_X12_line
  rw [if_pos g0, i4, some_bind, n4, if_pos bF, thn_l, g2, some_bind, if_pos g, i13, some_bind, if_pos bF]
  rcases (by omega : w = 0 ∨ w = 1) with e | e
  · subst e
    rw [show isw b L p 13 = true from hw, if_neg bT, thn_l, if_neg bT, u19]
    cases f_X12_next T A 129 M
    · rfl
    · rename_i N
      rw [some_bind, some_bind, some_bind, thn_l]
      cases f_X12_askLine T A 129 138 N <;> rfl
  · subst e
    have n13 : isw b L p 13 = false := isw_ne hw (by decide)
    rw [n13, if_pos bF, i14, some_bind, show isw b L p 14 = true from hw, if_neg bT, thn_l, if_pos bF, u20]
    cases f_X12_next T A 129 M
    · rfl
    · rename_i N
      rw [some_bind, some_bind, some_bind, thn_l]
      cases f_X12_askLine T A 129 139 N <;> rfl
theorem m_line12 (h : Ag T A) (r : RG I0 M0 b L n u O p I M) (hw : isw b L p 12 = true) : f_X12_line T A 129 M = (f_X12_next T A 129 M).bind (fun e => f_X12_wayLine T A 129 e) := by
  obtain ⟨g0, g1, g2, g3, g4⟩ := g_ev h
  have g := r.2.2.2.2.1
  have i4 : f_X12_is T A 129 159320763039 M = some (bi (isw b L p 4)) := m_is h (w := 4) r.2.2.2.1 g
  have i13 : f_X12_is T A 129 7542361 M = some (bi (isw b L p 13)) := m_is h (w := 13) r.2.2.2.1 g
  have i14 : f_X12_is T A 129 40600 M = some (bi (isw b L p 14)) := m_is h (w := 14) r.2.2.2.1 g
  have t12 : f_X12_takes T A 129 16819 M = (f_X12_next T A 129 M).bind (fun e => some (1, e)) := by
    have := m_takes h r (w := 12)
    rw [if_pos hw] at this
    exact this
  unfold f_X12_line
  rw [if_pos g0, i4, some_bind, isw_ne hw (v := 4) (by decide), if_pos bF, thn_l, g2, some_bind, if_pos g, i13, some_bind, if_pos bF, isw_ne hw (v := 13) (by decide), if_pos bF, i14, some_bind, isw_ne hw (v := 14) (by decide), if_pos bF, t12]
  cases f_X12_next T A 129 M
  · rfl
  · rename_i N
    rw [some_bind, some_bind, if_neg (show ¬ (1 : Int) = 0 by decide)]
    show thn ((f_X12_wayLine T A 129 N).bind _) _ = f_X12_wayLine T A 129 N
    cases f_X12_wayLine T A 129 N <;> rfl
theorem m_line15 (h : Ag T A) (r : RG I0 M0 b L n u O p I M) (hw : isw b L p 15 = true) : f_X12_line T A 129 M = (f_X12_next T A 129 M).bind (fun e => f_X12_leaveLine T A 129 e) := by
  obtain ⟨g0, g1, g2, g3, g4⟩ := g_ev h
  have g := r.2.2.2.2.1
  have i4 : f_X12_is T A 129 159320763039 M = some (bi (isw b L p 4)) := m_is h (w := 4) r.2.2.2.1 g
  have i13 : f_X12_is T A 129 7542361 M = some (bi (isw b L p 13)) := m_is h (w := 13) r.2.2.2.1 g
  have i14 : f_X12_is T A 129 40600 M = some (bi (isw b L p 14)) := m_is h (w := 14) r.2.2.2.1 g
  have t12 : f_X12_takes T A 129 16819 M = some (0, M) := by
    have := m_takes h r (w := 12)
    rw [isw_ne hw (v := 12) (by decide), if_neg (by decide)] at this
    exact this
  have t15 : f_X12_takes T A 129 6477035 M = (f_X12_next T A 129 M).bind (fun e => some (1, e)) := by
    have := m_takes h r (w := 15)
    rw [if_pos hw] at this
    exact this
  unfold f_X12_line
  rw [if_pos g0, i4, some_bind, isw_ne hw (v := 4) (by decide), if_pos bF, thn_l, g2, some_bind, if_pos g, i13, some_bind, if_pos bF, isw_ne hw (v := 13) (by decide), if_pos bF, i14, some_bind, isw_ne hw (v := 14) (by decide), if_pos bF, t12, some_bind, if_pos rfl, t15]
  cases f_X12_next T A 129 M
  · rfl
  · rename_i N
    rw [some_bind, some_bind, if_neg (show ¬ (1 : Int) = 0 by decide)]
    show thn ((f_X12_leaveLine T A 129 N).bind _) _ = f_X12_leaveLine T A 129 N
    cases f_X12_leaveLine T A 129 N <;> rfl
/-- permit, and what is no line: behind asks -/
theorem m_line16 (h : Ag T A) (r : RG I0 M0 b L n u O p I M) (hw : ∀ v, v = 4 ∨ v = 12 ∨ v = 13 ∨ v = 14 ∨ v = 15 → isw b L p v = false) : ∃ K : Unit → Option Mem, f_X12_line T A 129 M = thn ((f_X12_asks T A 129 232603751 M).bind (fun e27 => pmX T A e27)) K := by
  obtain ⟨g0, g1, g2, g3, g4⟩ := g_ev h
  have g := r.2.2.2.2.1
  have i4 : f_X12_is T A 129 159320763039 M = some (bi (isw b L p 4)) := m_is h (w := 4) r.2.2.2.1 g
  have i13 : f_X12_is T A 129 7542361 M = some (bi (isw b L p 13)) := m_is h (w := 13) r.2.2.2.1 g
  have i14 : f_X12_is T A 129 40600 M = some (bi (isw b L p 14)) := m_is h (w := 14) r.2.2.2.1 g
  have t12 : f_X12_takes T A 129 16819 M = some (0, M) := by
    have := m_takes h r (w := 12)
    rw [hw 12 (by omega), if_neg (by decide)] at this
    exact this
  have t15 : f_X12_takes T A 129 6477035 M = some (0, M) := by
    have := m_takes h r (w := 15)
    rw [hw 15 (by omega), if_neg (by decide)] at this
    exact this
  unfold f_X12_line
  rw [if_pos g0, i4, some_bind, hw 4 (by omega), if_pos bF, thn_l, g2, some_bind, if_pos g, i13, some_bind, if_pos bF, hw 13 (by omega), if_pos bF, i14, some_bind, hw 14 (by omega), if_pos bF, t12, some_bind, if_pos rfl, t15, some_bind, if_pos rfl]
  exact ⟨_, rfl⟩
end
