/-! B: judge, bribed. -/
def stS (c : Nat → Nat) : Nat → Int
  | 0 => 0
  | i + 1 => ior (stS c i) (ishl 1 ((c i : Nat) : Int))
def mok (O : Ofc) (x : Int) (o : Nat) : Bool := !hb x o && (decide (iand (O 12 o) (ixor x (-1)) = 0) && decide (iand (O 13 o) x = 0))
def wrg (O : Ofc) (c : Nat → Nat) : Nat → Int
  | 0 => 0
  | i + 1 => if mok O (stS c i) (c i) then wrg O c i else ior (wrg O c i) (ishl 1 ((c i : Nat) : Int))
theorem cn_wrg (O : Ofc) (c : Nat → Nat) (i : Nat) : cn (wrg O c i) := by
  induction i with
  | zero => exact cn_0
  | succ i ih =>
    rw [wrg]
    split
    · exact ih
    · exact cn_ior _ _
def jsC (T : Knd) (A : Rfs) (s : Nat) (I : Mem) : Int × Int → Option ((Int × Int) ⊕ (Unit ⊕ Int)) := fun (s7 : Int × Int) => (some 111).bind fun x10 => (f_X7_lengthOf T A x10 (s : Int) I).bind fun e11 => if s7.2 < e11 then (some 111).bind fun x14 => (f_X7_officialAt T A x14 (s : Int) s7.2 I).bind fun e15 => (some 26).bind fun x18 => (f_X2_mayStamp T A x18 e15 s7.1 I).bind fun e19 => if e19 = 0 then some (.inr (.inr s7.2)) else some (.inl (ior s7.1 (ishl 1 e15), ia s7.2 1)) else some (.inr (.inl ()))
def jsM (T : Knd) (A : Rfs) (s : Nat) (I : Mem) : Int × Int → Option ((Int × Int) ⊕ (Unit ⊕ (Int × Mem))) := fun (s8 : Int × Int) => (some 131).bind fun x11 => (ld T 20 x11 (s : Int) (mu I 129 0 0)).bind fun x12 => if s8.2 < x12 then (f_X12_cellOf T A 129 (s : Int) s8.2 (mu I 129 0 0)).bind fun e14 => (f_X12_isBit T A s8.1 e14 (mu I 129 0 0)).bind fun e17 => if e17 = 0 then (f_X12_mayStamp T A 129 e14 s8.1 (mu I 129 0 0)).bind fun e20 => if e20 = 0 then some (.inr (.inr (s8.2, mu I 129 0 0))) else some (.inl (ior s8.1 (ishl 1 e14), ia s8.2 1)) else some (.inr (.inr (s8.2, mu I 129 0 0))) else some (.inr (.inl ()))
section
variable {T : Knd} {A : Rfs} {O : Ofc} {I J : Mem}
theorem c_officialAt (h : Ag T A) {s i : Nat} (hs : s < 4) (hi : (i : Int) < I 118 s) (h60 : I 118 s ≤ 60) : f_X7_officialAt T A 111 (s : Int) (i : Int) I = some (wrap (I (113 + s) i)) := by
  unfold f_X7_officialAt
  rw [if_pos (by rw [kT_111 h]), if_neg (by omega), c_lengthOf h hs, some_bind, if_neg (show ¬ I 118 s = -1 by omega), if_pos hi, show gr T A 7 0 111 = some 112 by simp only [agSl h], some_bind, r112 h hs, some_bind, l21 h hs (by omega), some_bind]
theorem c_mayStamp (h : Ag T A) (wf : WF O) (hc : CV O 26 I) {o : Nat} (ho : (o : Int) < O 0 4) (x : Int) : f_X2_mayStamp T A 26 (o : Int) x I = some (if mok O x o = true then 1 else 0) := by
  have hn := wf_n wf
  unfold f_X2_mayStamp mok
  rw [if_pos (by rw [kT_26 h]), c_has1 h wf hc ho, some_bind, if_neg (by decide), f_hasBit (by omega), some_bind, pg h]
  cases hb x o
  · rw [if_pos (show (if false = true then (1 : Int) else 0) = 0 from rfl), some_bind, c_r9 h, some_bind, c_t9 h wf hc ho, some_bind]
    by_cases c1 : iand (O 12 o) (ixor x (-1)) = 0
    · rw [if_pos c1, some_bind, c_r10 h, some_bind, c_t10 h wf hc ho, some_bind, decide_eq_true c1]
      by_cases c2 : iand (O 13 o) x = 0
      · rw [if_pos c2, decide_eq_true c2]; rfl
      · rw [if_neg c2, decide_eq_false c2]; rfl
    · rw [if_neg c1, decide_eq_false c1]; rfl
  · rw [if_neg (show ¬ (if true = true then (1 : Int) else 0) = 0 by decide)]; rfl
theorem m_mayStamp (h : Ag T A) (wf : WF O) (hm : MW O 0 I) {o : Nat} (ho : (o : Int) < O 0 4) (x : Int) : f_X12_mayStamp T A 129 (o : Int) x I = some (if iand (O 12 o) (ixor x (-1)) = 0 ∧ iand (O 13 o) x = 0 then 1 else 0) := by
  have hn := wf_n wf
  rw [m_mayS h (by omega), mw_needs hm ho, mw_bars hm ho]
theorem m_cellOf (h : Ag T A) {s i : Nat} (hs : s < 4) (hi : i < 60) : f_X12_cellOf T A 129 (s : Int) (i : Int) I = some (wrap (I 132 (60 * s + i))) := by
  unfold f_X12_cellOf
  rw [if_pos (by rw [kT_129 h]), show gr T A 12 3 129 = some 132 by simp only [agMg h], some_bind, l132 h hs hi, some_bind]
theorem q_judge (b : Bas T A O I) (u : SL I) (a : Int) : Quiet (f_X11_judge T A 1 a I) (f_X12_judge T A 129 a I) I := by
  obtain ⟨h, wf, hc, hm, g, ht, hnx, k, hq⟩ := b
  have hn := wf_n wf
  have hm0 := mw_fr hm (fr_0 I)
  have u0 := sl_0 u
  have er : rfz O (mu I 129 0 0) a = rfz O I a := by
    unfold rfz rbad
    have e1 : ∀ j, mu I 129 0 0 130 j = I 130 j := fun j => mu_o _ _ (by omega)
    have e2 : ∀ j, mu I 129 0 0 131 j = I 131 j := fun j => mu_o _ _ (by omega)
    have e3 : ∀ j, mu I 129 0 0 132 j = I 132 j := fun j => mu_o _ _ (by omega)
    simp only [e1, e2, e3]
  have pi' : ∀ q v (J : Mem), pi T 12 q 129 v J = some (mu J 129 q v) := fun q v J => by simp only [agMg h]
  unfold f_X11_judge f_X12_judge
  rw [if_pos (show (T 1).1 = 11 by rw [kT_1 h]), if_pos (show (T 129).1 = 12 by rw [kT_129 h]), pi', some_bind, c_refusal h wf hc u, some_bind, m_whyNot h wf hm0 u0, some_bind, er]
  by_cases z : rfz O I a = 0
  · obtain ⟨s, rfl, hs, hl, w3, w4, w5, w6⟩ := rfz_0 u z
    rw [if_pos z, if_pos z]
    obtain ⟨len, el⟩ := Int.eq_ofNat_of_zero_le w3.1
    obtain ⟨c, ec⟩ : ∃ c : Nat → Nat, c = fun i => (I 132 (60 * s + i)).toNat := ⟨_, rfl⟩
    have hcell : ∀ i, i < len → I 132 (60 * s + i) = ((c i : Nat) : Int) ∧ ((c i : Nat) : Int) < O 0 4 := fun i hi => by
      have := w6 i (by omega)
      rw [ec]
      dsimp only
      omega
    have g11 : gr T A 11 11 1 = some 111 := by simp only [agX h]
    have g2 : gr T A 11 2 1 = some 26 := by simp only [agX h]
    have m2 : gr T A 12 2 129 = some 131 := by simp only [agMg h]
    have elen : f_X7_lengthOf T A 111 (s : Int) I = some (len : Int) := by rw [c_lengthOf h hs, if_neg (by omega), w4, el]
    have wc : ∀ i, i < len → wrap (I 132 (60 * s + i)) = ((c i : Nat) : Int) := fun i hi => by
      have := hcell i hi
      rw [this.1, wrap_id ⟨by omega, by omega⟩]
    have ec1 : ∀ i, i < len → f_X7_officialAt T A 111 (s : Int) (i : Int) I = some ((c i : Nat) : Int) := fun i hi => by
      rw [c_officialAt h hs (by omega) (by omega), w5 i (by omega), wc i hi]
    have em1 : ∀ i, i < len → f_X12_cellOf T A 129 (s : Int) (i : Int) (mu I 129 0 0) = some ((c i : Nat) : Int) := fun i hi => by
      rw [m_cellOf h hs (by omega), mu_o _ _ (by omega), wc i hi]
    have ml : ld T 20 131 (s : Int) (mu I 129 0 0) = some (len : Int) := by rw [l131 h hs, mu_o _ _ (by omega), el]
    rw [g11, g2, m2]
    have cs : ∀ i, i < len → mok O (stS c i) (c i) = true → jsC T A s I (stS c i, (i : Int)) = some (.inl (stS c (i + 1), ((i + 1 : Nat) : Int))) := fun i hi hok => by
      unfold jsC
      dsimp only
      rw [some_bind, elen, some_bind, if_pos (by omega), some_bind, ec1 i hi, some_bind, some_bind, c_mayStamp h wf hc (hcell i hi).2, some_bind, if_pos hok, if_neg (by decide), ia_1 (by omega)]
      rfl
    have ms : ∀ i, i < len → mok O (stS c i) (c i) = true → jsM T A s I (stS c i, (i : Int)) = some (.inl (stS c (i + 1), ((i + 1 : Nat) : Int))) := fun i hi hok => by
      have hok' := hok
      unfold mok at hok'
      rw [Bool.and_eq_true, Bool.and_eq_true, decide_eq_true_iff, decide_eq_true_iff] at hok'
      have hb0 : hb (stS c i) (c i) = false := by simpa using hok'.1
      unfold jsM
      dsimp only
      rw [some_bind, ml, some_bind, if_pos (by omega), em1 i hi, some_bind, f_isBit (by have := (hcell i hi).2; omega), some_bind, hb0, if_pos (show (if false = true then (1 : Int) else 0) = 0 from rfl), m_mayStamp h wf hm0 (hcell i hi).2, some_bind, if_pos hok'.2, if_neg (by decide), ia_1 (by omega)]
      rfl
    by_cases q : fst_ (fun i => !mok O (stS c i) (c i)) len 0 = -1
    · have hno := fst_no q
      have hok : ∀ i, i < len → mok O (stS c i) (c i) = true := fun i hi => by
        have := hno i (by omega) (by omega)
        simpa using this
      refine ⟨(len : Int), mu I 129 0 0, ?_, ?_, fr_0 I⟩
      · have l := it_seq (step := jsC T A s I) (fun i => (stS c i, (i : Int))) len (fun i hi => cs i hi (hok i hi)) (r := .inl ()) (by
          unfold jsC
          dsimp only
          rw [some_bind, elen, some_bind, if_neg (by omega)]) FU (by unfold FU; omega)
        refine (congrArg (fun o => thn o _) l).trans ?_
        rw [thn_l, some_bind, elen, some_bind]
      · have l := it_seq (step := jsM T A s I) (fun i => (stS c i, (i : Int))) len (fun i hi => ms i hi (hok i hi)) (r := .inl ()) (by
          unfold jsM
          dsimp only
          rw [some_bind, ml, some_bind, if_neg (by omega)]) FU (by unfold FU; omega)
        refine (congrArg (fun o => thn o _) l).trans ?_
        rw [thn_l, some_bind, ml, some_bind]
    · obtain ⟨N, eN, n1, n2, n3, n4⟩ := fst_hit rfl q
      have hN : N < len := by omega
      have hok : ∀ i, i < N → mok O (stS c i) (c i) = true := fun i hi => by
        have := n4 i (by omega) hi
        simpa using this
      have hbad : mok O (stS c N) (c N) = false := by simpa using n3
      refine ⟨(N : Int), mu I 129 0 0, ?_, ?_, fr_0 I⟩
      · have l := it_seq (step := jsC T A s I) (fun i => (stS c i, (i : Int))) N (fun i hi => cs i (by omega) (hok i hi)) (r := .inr (N : Int)) (by
          unfold jsC
          dsimp only
          rw [some_bind, elen, some_bind, if_pos (by omega), some_bind, ec1 N hN, some_bind, some_bind, c_mayStamp h wf hc (hcell N hN).2, some_bind, hbad, if_pos (show (if false = true then (1 : Int) else 0) = 0 from rfl)]) FU (by unfold FU; omega)
        exact congrArg (fun o => thn o _) l
      · have l := it_seq (step := jsM T A s I) (fun i => (stS c i, (i : Int))) N (fun i hi => ms i (by omega) (hok i hi)) (r := .inr ((N : Int), mu I 129 0 0)) (by
          unfold jsM
          dsimp only
          rw [some_bind, ml, some_bind, if_pos (by omega), em1 N hN, some_bind, f_isBit (by have := (hcell N hN).2; omega), some_bind]
          unfold mok at hbad
          cases hx : hb (stS c N) (c N)
          · rw [if_pos (show (if false = true then (1 : Int) else 0) = 0 from rfl), m_mayStamp h wf hm0 (hcell N hN).2, some_bind]
            rw [hx, Bool.not_false, Bool.true_and, Bool.and_eq_false_iff, decide_eq_false_iff_not, decide_eq_false_iff_not] at hbad
            rw [if_neg (show ¬ (iand (O 12 (c N)) (ixor (stS c N) (-1)) = 0 ∧ iand (O 13 (c N)) (stS c N) = 0) from fun q => by rcases hbad with p | p; exact p q.1; exact p q.2), if_pos rfl]
          · rw [if_neg (show ¬ (if true = true then (1 : Int) else 0) = 0 by decide)]) FU (by unfold FU; omega)
        exact congrArg (fun o => thn o _) l
  · rw [if_neg z, if_neg z]
    exact ⟨_, _, rfl, rfl, fr_0 I⟩
theorem q_bribed (b : Bas T A O I) (u : SL I) (a : Int) : Quiet (f_X11_bribed T A 1 a I) (f_X12_bribed T A 129 a I) I := by
  obtain ⟨h, wf, hc, hm, g, ht, hnx, k, hq⟩ := b
  have hn := wf_n wf
  have hm0 := mw_fr hm (fr_0 I)
  have u0 := sl_0 u
  have er : rfz O (mu I 129 0 0) a = rfz O I a := by
    unfold rfz rbad
    have e1 : ∀ j, mu I 129 0 0 130 j = I 130 j := fun j => mu_o _ _ (by omega)
    have e2 : ∀ j, mu I 129 0 0 131 j = I 131 j := fun j => mu_o _ _ (by omega)
    have e3 : ∀ j, mu I 129 0 0 132 j = I 132 j := fun j => mu_o _ _ (by omega)
    simp only [e1, e2, e3]
  have pi' : ∀ q v (J : Mem), pi T 12 q 129 v J = some (mu J 129 q v) := fun q v J => by simp only [agMg h]
  unfold f_X11_bribed f_X12_bribed
  rw [if_pos (show (T 1).1 = 11 by rw [kT_1 h]), if_pos (show (T 129).1 = 12 by rw [kT_129 h]), pi', some_bind, c_refusal h wf hc u, some_bind, m_whyNot h wf hm0 u0, some_bind, er]
  by_cases z : rfz O I a = 0
  · obtain ⟨s, rfl, hs, hl, w3, w4, w5, w6⟩ := rfz_0 u z
    rw [if_pos z, if_pos z]
    obtain ⟨len, el⟩ := Int.eq_ofNat_of_zero_le w3.1
    obtain ⟨c, ec⟩ : ∃ c : Nat → Nat, c = fun i => (I 132 (60 * s + i)).toNat := ⟨_, rfl⟩
    have hcell : ∀ i, i < len → I 132 (60 * s + i) = ((c i : Nat) : Int) ∧ ((c i : Nat) : Int) < O 0 4 := fun i hi => by
      have := w6 i (by omega)
      rw [ec]
      dsimp only
      omega
    have g11 : gr T A 11 11 1 = some 111 := by simp only [agX h]
    have g2 : gr T A 11 2 1 = some 26 := by simp only [agX h]
    have m2 : gr T A 12 2 129 = some 131 := by simp only [agMg h]
    have elen : f_X7_lengthOf T A 111 (s : Int) I = some (len : Int) := by rw [c_lengthOf h hs, if_neg (by omega), w4, el]
    have wc : ∀ i, i < len → wrap (I 132 (60 * s + i)) = ((c i : Nat) : Int) := fun i hi => by
      have := hcell i hi
      rw [this.1, wrap_id ⟨by omega, by omega⟩]
    have ec1 : ∀ i, i < len → f_X7_officialAt T A 111 (s : Int) (i : Int) I = some ((c i : Nat) : Int) := fun i hi => by
      rw [c_officialAt h hs (by omega) (by omega), w5 i (by omega), wc i hi]
    have em1 : ∀ i, i < len → f_X12_cellOf T A 129 (s : Int) (i : Int) (mu I 129 0 0) = some ((c i : Nat) : Int) := fun i hi => by
      rw [m_cellOf h hs (by omega), mu_o _ _ (by omega), wc i hi]
    have ml : ld T 20 131 (s : Int) (mu I 129 0 0) = some (len : Int) := by rw [l131 h hs, mu_o _ _ (by omega), el]
    rw [g11, g2, m2]
    refine ⟨wrg O c len, mu I 129 0 0, ?_, ?_, fr_0 I⟩
    · refine it_seq (fun i => (stS c i, wrg O c i, (i : Int))) len (fun i hi => ?_) ?_ FU (by unfold FU; omega)
      · dsimp only
        rw [some_bind, elen, some_bind, if_pos (by omega), some_bind, ec1 i hi, some_bind, some_bind, c_mayStamp h wf hc (hcell i hi).2, some_bind, ia_1 (by omega), wrg]
        by_cases q : mok O (stS c i) (c i) = true
        · rw [if_pos q, if_neg (by decide), thn_l, if_pos q]; rfl
        · rw [if_neg q, if_pos rfl, thn_l, if_neg q]; rfl
      · dsimp only
        rw [some_bind, elen, some_bind, if_neg (by omega)]
    · refine it_seq (fun i => (stS c i, wrg O c i, (i : Int))) len (fun i hi => ?_) ?_ FU (by unfold FU; omega)
      · dsimp only
        rw [some_bind, ml, some_bind, if_pos (by omega), em1 i hi, some_bind, f_isBit (by have := (hcell i hi).2; omega), some_bind, ia_1 (by omega), wrg, m_mayStamp h wf hm0 (hcell i hi).2, some_bind]
        unfold mok
        cases hx : hb (stS c i) (c i)
        · rw [if_pos (show (if false = true then (1 : Int) else 0) = 0 from rfl)]
          by_cases q : iand (O 12 (c i)) (ixor (stS c i) (-1)) = 0 ∧ iand (O 13 (c i)) (stS c i) = 0
          · rw [if_pos q, if_neg (by decide), thn_r, thn_l, decide_eq_true q.1, decide_eq_true q.2, ior_0 (cn_wrg _ _ _)]; rfl
          · rw [if_neg q, if_pos rfl, thn_l, thn_l]
            have : (decide (iand (O 12 (c i)) (ixor (stS c i) (-1)) = 0) && decide (iand (O 13 (c i)) (stS c i) = 0)) = false := by
              rw [Bool.and_eq_false_iff, decide_eq_false_iff_not, decide_eq_false_iff_not]
              by_cases p : iand (O 12 (c i)) (ixor (stS c i) (-1)) = 0
              · exact Or.inr (fun r => q ⟨p, r⟩)
              · exact Or.inl p
            rw [this]; rfl
        · rw [if_neg (show ¬ (if true = true then (1 : Int) else 0) = 0 by decide), thn_l, thn_l]; rfl
      · dsimp only
        rw [some_bind, ml, some_bind, if_neg (by omega)]
  · rw [if_neg z, if_neg z]
    exact ⟨_, _, rfl, rfl, fr_0 I⟩
end
