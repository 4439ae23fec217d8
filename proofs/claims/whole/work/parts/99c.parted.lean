/-! B: parted. -/
def hd (O : Ofc) (nd br : Nat → Int) : Bool := anyf (fun s => decide (¬ otab nd br (oN O) (2 ^ oN O) s ≤ 0) && decide (iand (O 0 5) (ixor (s : Int) (-1)) = 0)) 0 (2 ^ oN O)
def clr (f : Nat → Int) (i j : Nat) : Nat → Int := fun t => if t = i then iand (f t) (ixor (ishl 1 (j : Int)) (-1)) else f t
def ndw (O : Ofc) (w i j : Nat) : Nat → Int := if w = 0 then clr (O 12) i j else O 12
def brw (O : Ofc) (w i j : Nat) : Nat → Int := if w = 0 then O 13 else clr (O 13) i j
def pt (O : Ofc) (w i j : Nat) : Bool := hb (O (12 + w) i) j && hd O (ndw O w i j) (brw O w i j)
def ptj (O : Ofc) (w i : Nat) : Int := fst_ (pt O w i) (oN O) 0
def pti (O : Ofc) (w : Nat) : Int := fst_ (fun i => decide (ptj O w i ≠ -1)) (oN O) 0
def prw (O : Ofc) (w : Nat) : Int := if pti O w = -1 then -1 else 10 * pti O w + ptj O w (pti O w).toNat
def prt (O : Ofc) : Int := if prw O 0 = -1 then (if prw O 1 = -1 then -1 else 100 + prw O 1) else prw O 0
def hit (O : Ofc) (w i j : Nat) : Prop := i < oN O ∧ j < oN O ∧ pt O w i j = true ∧ (∀ j', j' < j → pt O w i j' = false) ∧ ∀ i', i' < i → ∀ j', j' < oN O → pt O w i' j' = false
theorem hit_val {O : Ofc} {w i j : Nat} (t : hit O w i j) : prw O w = 10 * (i : Int) + (j : Int) := by
  obtain ⟨h1, h2, h3, h4, h5⟩ := t
  have e1 : ptj O w i = (j : Int) := fst_is (by omega) (by omega) h3 (fun j' _ hj => h4 j' hj)
  have e2 : pti O w = (i : Int) := fst_is (by omega) (by omega) (decide_eq_true (by rw [e1]; omega)) (fun i' _ hi => by
    have : ptj O w i' = -1 := fst_none (fun j' _ hj => h5 i' hi j' (by omega))
    rw [this]; rfl)
  unfold prw
  rw [e2, if_neg (by omega), Int.toNat_natCast, e1]
theorem hit_no {O : Ofc} {w : Nat} (t : ∀ i, i < oN O → ∀ j, j < oN O → pt O w i j = false) : prw O w = -1 := by
  have e2 : pti O w = -1 := fst_none (fun i' _ hi => by
    have : ptj O w i' = -1 := fst_none (fun j' _ hj => t i' (by omega) j' (by omega))
    rw [this]; rfl)
  unfold prw
  rw [e2, if_pos rfl]
theorem xor_clr {x : Int} {j : Nat} (hj : j < 32) (hx : hb x j = true) : ixor x (ishl 1 (j : Int)) = iand x (ixor (ishl 1 (j : Int)) (-1)) := by
  refine hb_ext (cn_ixor _ _) (cn_iand _ _) (fun i hi => ?_)
  rw [hb_xor, hb_an, hb_shl hj]
  by_cases c : i = j
  · rw [c, hx, decide_eq_true rfl]; rfl
  · rw [decide_eq_false c]; cases hb x i <;> rfl
theorem xor_xor {x b : Int} (hx : cn x) : ixor (ixor x b) b = x := by
  refine hb_ext (cn_ixor _ _) hx (fun i hi => ?_)
  rw [hb_xor, hb_xor]
  cases hb x i <;> cases hb b i <;> rfl
theorem or_clr {x : Int} {j : Nat} (hx : cn x) (hj : j < 32) (hxj : hb x j = true) : ior (iand x (ixor (ishl 1 (j : Int)) (-1))) (ishl 1 (j : Int)) = x := by
  refine hb_ext (cn_ior _ _) hx (fun i hi => ?_)
  rw [hb_or, hb_an, hb_shl hj]
  by_cases c : i = j
  · rw [c, hxj, decide_eq_true rfl]; rfl
  · rw [decide_eq_false c]; cases hb x i <;> rfl
theorem hd_ext {O : Ofc} (hn : oN O ≤ 8) {nd br nd' br' : Nat → Int} (h2 : ∀ i, i < oN O → nd i = nd' i) (h3 : ∀ i, i < oN O → br i = br' i) : hd O nd br = hd O nd' br' := by
  unfold hd
  rw [otab_ext hn h2 h3 _ (pw_le hn).2]
theorem zck_bi (b : Bool) : zck (bi b) = some () := by cases b <;> rfl
section
variable {T : Knd} {A : Rfs} {O : Ofc} {I : Mem}
theorem had_step {tab : Nat → Int} {p : Int} {s : Nat} {R : Type} (a b : Option R) : (if tab s ≤ 0 then a else if iand p (ixor (s : Int) (-1)) = 0 then b else a) = if (decide (¬ tab s ≤ 0) && decide (iand p (ixor (s : Int) (-1)) = 0)) = true then b else a := by
  by_cases c : tab s ≤ 0
  · rw [if_pos c, if_neg (by rw [decide_eq_false (fun q => q c), Bool.false_and]; decide)]
  · rw [if_neg c]
    by_cases d : iand p (ixor (s : Int) (-1)) = 0
    · rw [if_pos d, if_pos (by rw [decide_eq_true c, decide_eq_true d]; rfl)]
    · rw [if_neg d, if_neg (by rw [decide_eq_false d, Bool.and_false]; decide)]
theorem c_had (h : Ag T A) {n : Nat} (hn : n ≤ 8) (h6 : I 101 6 = ((2 ^ n : Nat) : Int)) {tab : Nat → Int} (ht : ∀ s, s < 2 ^ n → I 104 s = tab s) (p : Int) : f_X6_canBeHad T A 101 p I = some (bi (anyf (fun s => decide (¬ tab s ≤ 0) && decide (iand p (ixor (s : Int) (-1)) = 0)) 0 (2 ^ n))) := by
  obtain ⟨k0, k1, k2, k3, k4, k5, k6⟩ := q101 h
  have hp := pw_le hn
  unfold f_X6_canBeHad
  rw [if_pos k0]
  refine it_any (fun s => decide (¬ tab s ≤ 0) && decide (iand p (ixor (s : Int) (-1)) = 0)) (fun v => v) (2 ^ n) (fun s hs => ?_) ?_ FU (by unfold FU; omega)
  · try dsimp only
    rw [k6, some_bind, h6, if_pos (by omega), k3, some_bind, ev_ld (kT_104 h), if_pos (by omega), some_bind, Int.toNat_natCast, ht s hs, ia_1 (by omega)]
    simp only [gt_le]
    exact had_step _ _
  · try dsimp only
    rw [k6, some_bind, h6, if_neg (by omega)]
theorem m_had (h : Ag T A) (hn : oN O ≤ 8) (h3 : I 136 3 = ((oN O : Nat) : Int)) (h4 : I 136 4 = O 0 5) : OK (f_X12_canBeHad T A 129 I) (fun z => z.1 = bi (hd O (fun i => I 138 i) (fun i => I 139 i)) ∧ Fo 149 149 I z.2) := by
  have hp := pw_le hn
  unfold f_X12_canBeHad
  rw [if_pos (by rw [kT_129 h])]
  refine ok_b (ok_m (m_laysS h hn h3) (fun J hJ => ?_))
  obtain ⟨j1, j2⟩ := hJ
  have l4 : ld T 20 136 4 J = some (O 0 5) := by rw [ev_ld (kT_136 h), if_pos (by decide), show (4 : Int).toNat = 4 from rfl, j1 136 4 (by omega), h4]
  refine ok_e (v := (bi (hd O (fun i => I 138 i) (fun i => I 139 i)), J)) ?_ ⟨rfl, j1⟩
  refine it_any (fun s => decide (¬ otab (fun i => I 138 i) (fun i => I 139 i) (oN O) (2 ^ oN O) s ≤ 0) && decide (iand (O 0 5) (ixor (s : Int) (-1)) = 0)) (fun v => (v, J)) (2 ^ oN O) (fun s hs => ?_) ?_ FU (by unfold FU; omega)
  · try dsimp only
    rw [m_sets0 h hn (by rw [j1 _ _ (by omega)]; exact h3), some_bind, if_pos (by omega), show gr T A 12 44 129 = some 149 by simp only [agMg h], some_bind, ev_ld (kT_149 h), if_pos (by omega), some_bind, Int.toNat_natCast, j2 s hs, ia_1 (by omega), show gr T A 12 17 129 = some 136 by simp only [agMg h], some_bind, l4, some_bind]
    simp only [gt_le]
    exact had_step _ _
  · try dsimp only
    rw [m_sets0 h hn (by rw [j1 _ _ (by omega)]; exact h3), some_bind, if_neg (by omega)]
theorem clr_at {f : Nat → Int} {M : Mem} {x i j n : Nat} (hj : j < 32) (hi : i < n) (e : ∀ t, t < n → M x t = f t) (hb1 : hb (f i) j = true) : ∀ t, t < n → mu M x i (iand (M x i) (ixor (ishl 1 (j : Int)) (-1))) x t = clr f i j t := by
  intro t ht
  unfold clr
  by_cases c : t = i
  · subst c
    rw [mu_s, if_pos rfl, e t ht]
  · rw [mu_o _ _ (by omega), if_neg c, e t ht]
theorem wo_row (wf : WF O) {w i : Nat} (hw : w < 2) (hi : i < oN O) : cn (O (12 + w) i) := by
  obtain ⟨hn, en⟩ := on_le wf
  have q := wf.2.2.2.2.2.2.2.2.1 i (by omega)
  rcases (by omega : w = 0 ∨ w = 1) with e | e
  · subst e; exact q.2.2.2.2.2.2.2.2.1.1.1
  · subst e; exact q.2.2.2.2.2.2.2.2.2.1.1
/-- the class's sets, as they are learnt -/
def Lrn (O : Ofc) (I : Mem) : Prop := I 101 5 = ((oN O : Nat) : Int) ∧ I 101 6 = ((2 ^ oN O : Nat) : Int) ∧ ∀ w, w < 2 → ∀ i, i < oN O → I (102 + w) i = O (12 + w) i
theorem lrn_fo {J : Mem} (l : Lrn O I) (f : Fo 104 104 I J) : Lrn O J := ⟨by rw [f _ _ (by omega)]; exact l.1, by rw [f _ _ (by omega)]; exact l.2.1, fun w hw i hi => by rw [f _ _ (by omega)]; exact l.2.2 w hw i hi⟩
theorem c_without (h : Ag T A) (wf : WF O) (l : Lrn O I) {w i j : Nat} (hw : w < 2) (hi : i < oN O) (hj : j < oN O) (hx : hb (O (12 + w) i) j = true) : OK (f_X6_isHadWithout T A 101 (102 + w) (i : Int) (j : Int) (O 0 5) I) (fun z => z.1 = bi (pt O w i j) ∧ Fo 104 104 I z.2) := by
  obtain ⟨hn, en⟩ := on_le wf
  obtain ⟨k0, k1, k2, k3, k4, k5, k6⟩ := q101 h
  obtain ⟨l1, l2, l3⟩ := l
  have hT : T (102 + w) = (20, 8) := by
    rcases (by omega : w = 0 ∨ w = 1) with e | e
    · subst e; exact kT_102 h
    · subst e; exact kT_103 h
  have ev := l3 w hw i hi
  have cv := wo_row wf hw hi
  unfold f_X6_isHadWithout
  rw [if_pos k0, ev_ld hT, if_pos (by omega), some_bind, Int.toNat_natCast, ev_sto hT, if_pos (by omega), some_bind, Int.toNat_natCast, ev, xor_clr (by omega) hx, ← ev]
  refine ok_b (ok_m (c_count h hn (by rw [mu_o _ _ (by omega)]; exact l1) (by rw [mu_o _ _ (by omega)]; exact l2)) (fun L hL => ?_))
  obtain ⟨f1, d1⟩ := hL
  rw [ev_ld hT, if_pos (by omega), some_bind, Int.toNat_natCast, ev_sto hT, if_pos (by omega), some_bind, Int.toNat_natCast, f1 _ _ (by omega), mu_s, ev, ← xor_clr (by omega) hx, xor_xor cv]
  have d2 : ∀ s, s < 2 ^ oN O → mu L (102 + w) i (O (12 + w) i) 104 s = otab (ndw O w i j) (brw O w i j) (oN O) (2 ^ oN O) s := fun s hs => by
    rw [mu_o _ _ (by omega), d1 s hs]
    refine congrFun (otab_ext hn (fun t ht => ?_) (fun t ht => ?_) _ (pw_le hn).2) s
    · rcases (by omega : w = 0 ∨ w = 1) with e | e
      · subst e
        unfold ndw
        rw [if_pos rfl]
        exact clr_at (x := 102) (by omega) hi (fun t ht => l3 0 (by omega) t ht) hx t ht
      · subst e
        unfold ndw
        rw [if_neg (by decide)]
        rw [mu_o _ _ (by omega)]
        exact l3 0 (by omega) t ht
    · rcases (by omega : w = 0 ∨ w = 1) with e | e
      · subst e
        unfold brw
        rw [if_pos rfl]
        rw [mu_o _ _ (by omega)]
        exact l3 1 (by omega) t ht
      · subst e
        unfold brw
        rw [if_neg (by decide)]
        exact clr_at (x := 103) (by omega) hi (fun t ht => l3 1 (by omega) t ht) hx t ht
  rw [c_had h hn (by rw [mu_o _ _ (by omega), f1 _ _ (by omega), mu_o _ _ (by omega)]; exact l2) d2, some_bind, zck_bi, some_bind]
  refine ok_i ⟨?_, fun a b hab => ?_⟩
  · try dsimp only
    unfold pt hd
    rw [hx, Bool.true_and]
  · try dsimp only
    by_cases c : a = 102 + w ∧ b = i
    · rw [c.1, c.2, mu_s, ev]
    · rw [mu_o _ _ c, f1 _ _ hab, mu_o _ _ c]
theorem c_pof (h : Ag T A) (wf : WF O) (l : Lrn O I) {w : Nat} (hw : w < 2) : OK (f_X6_firstPartingOf T A 101 (102 + w) (O 0 5) I) (fun z => (z.1 = prw O w ∧ -1 ≤ z.1 ∧ z.1 ≤ 100) ∧ Fo 104 104 I z.2) := by
  obtain ⟨hn, en⟩ := on_le wf
  obtain ⟨k0, k1, k2, k3, k4, k5, k6⟩ := q101 h
  have hT : T (102 + w) = (20, 8) := by
    rcases (by omega : w = 0 ∨ w = 1) with e | e
    · subst e; exact kT_102 h
    · subst e; exact kT_103 h
  unfold f_X6_firstPartingOf
  rw [if_pos k0]
  refine ok_tn (ok_m (P := fun z => match z with | .inl v => (∃ i j : Nat, v.1 = (i : Int) ∧ v.2.1 = (j : Int) ∧ hit O w i j) ∧ Fo 104 104 I v.2.2 | .inr r => r.1 = -1 ∧ prw O w = -1 ∧ Fo 104 104 I r.2) ?_ ?_)
  · refine it_run (fun i (x : Int × Mem) => x.1 = (i : Int) ∧ Fo 104 104 I x.2 ∧ ∀ i', i' < i → ∀ j', j' < oN O → pt O w i' j' = false) (oN O) ?_ ?_ 0 FU _ (by omega) (by unfold FU; omega) ⟨rfl, fo_r _ _ _, fun i' hi => absurd hi (by omega)⟩
    · rintro i ⟨x1, M⟩ hi ⟨rfl, mF, mN⟩
      try dsimp only at mF mN ⊢
      rw [k6, some_bind, mF _ _ (by omega), l.1, if_pos (by omega)]
      refine it_run (fun j (x : Int × Mem) => x.1 = (j : Int) ∧ Fo 104 104 I x.2 ∧ ∀ j', j' < j → pt O w i j' = false) (oN O) ?_ ?_ 0 FU _ (by omega) (by unfold FU; omega) ⟨rfl, mF, fun j' hj => absurd hj (by omega)⟩
      · rintro j ⟨x1, V⟩ hj ⟨rfl, vF, vN⟩
        try dsimp only at vF vN ⊢
        have lV := lrn_fo l vF
        rw [k6, some_bind, lV.1, if_pos (by omega), ev_ld hT, if_pos (by omega), some_bind, Int.toNat_natCast, f_hasBit (by omega), some_bind, ia_1 (by omega), lV.2.2 w hw i hi]
        cases hx : hb (O (12 + w) i) j
        · rw [if_pos (show (if false = true then (1 : Int) else 0) = 0 from rfl)]
          refine ok_i ⟨rfl, vF, fun j' hj' => ?_⟩
          by_cases e : j' = j
          · rw [e]; unfold pt; rw [hx, Bool.false_and]
          · exact vN j' (by omega)
        · rw [if_neg (show ¬ (if true = true then (1 : Int) else 0) = 0 by decide)]
          refine ok_b (ok_m (c_without h wf lV hw hi hj hx) (fun z hz => ?_))
          obtain ⟨zv, U⟩ := z
          obtain ⟨z1, z2⟩ := hz
          dsimp only at z1 z2 ⊢
          rw [z1]
          cases hp : pt O w i j
          · rw [if_pos (show bi false = 0 from rfl)]
            refine ok_i ⟨rfl, fo_t vF z2, fun j' hj' => ?_⟩
            by_cases e : j' = j
            · rw [e]; exact hp
            · exact vN j' (by omega)
          · rw [if_neg (show ¬ bi true = 0 by decide)]
            exact ok_i ⟨⟨i, j, rfl, rfl, hi, hj, hp, vN, mN⟩, fo_t vF z2⟩
      · rintro ⟨x1, V⟩ ⟨rfl, vF, vN⟩
        try dsimp only at vF vN ⊢
        rw [k6, some_bind, vF _ _ (by omega), l.1, if_neg (by omega), ia_1 (by omega)]
        refine ok_i ⟨rfl, vF, fun i' hi' => ?_⟩
        by_cases e : i' = i
        · rw [e]; exact vN
        · exact mN i' (by omega)
    · rintro ⟨x1, M⟩ ⟨rfl, mF, mN⟩
      try dsimp only at mF mN ⊢
      rw [k6, some_bind, mF _ _ (by omega), l.1, if_neg (by omega)]
      exact ok_i ⟨rfl, hit_no mN, mF⟩
  · rintro (⟨v1, v2, M⟩ | ⟨r1, M⟩) hz
    · obtain ⟨⟨i, j, e1, e2, ht⟩, mF⟩ := hz
      show OK _ _
      dsimp only at e1 e2 mF ⊢
      have t1 := ht.1
      have t2 := ht.2.1
      rw [e1, e2, im_eq (by omega) (by omega), ia_eq (by omega) (by omega)]
      exact ok_i ⟨⟨(hit_val ht).symm, by (try dsimp only); omega, by (try dsimp only); omega⟩, mF⟩
    · obtain ⟨e1, e2, mF⟩ := hz
      dsimp only at e1 mF
      show _ ∧ _
      exact ⟨⟨by rw [e2]; exact e1, by (try dsimp only); omega, by (try dsimp only); omega⟩, mF⟩
end
