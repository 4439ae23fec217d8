/-! B: run, queue, served, chair. -/
def mxv (f : Nat → Int) : Nat → Int
  | 0 => 0
  | i + 1 => imax (mxv f i) (f i)
def lsv (f : Nat → Int) (n : Nat) : Int := if fst_ (fun i => decide (f i = -1)) n 0 = -1 then mxv f n else -1
def cnv (f : Nat → Int) (x : Int) : Nat → Int
  | 0 => 0
  | i + 1 => if f i = -1 then cnv f x i else if f i ≤ x then cnv f x i + 1 else cnv f x i
def lwv (p : Nat → Bool) (w : Nat → Int) : Nat → Int
  | 0 => -1
  | i + 1 => if p i = false then lwv p w i else if lwv p w i = -1 then (i : Int) else if w i ≤ w (lwv p w i).toNat then lwv p w i else (i : Int)
theorem cnv_rg (f : Nat → Int) (x : Int) : ∀ n, 0 ≤ cnv f x n ∧ cnv f x n ≤ n := by
  intro n
  induction n with
  | zero => exact ⟨Int.le_refl _, Int.le_refl _⟩
  | succ n ih =>
    rw [cnv]
    split
    · omega
    · split <;> omega
theorem lwv_rg (p : Nat → Bool) (w : Nat → Int) : ∀ n, lwv p w n = -1 ∨ (0 ≤ lwv p w n ∧ lwv p w n < n) := by
  intro n
  induction n with
  | zero => exact Or.inl rfl
  | succ n ih =>
    rw [lwv]
    split
    · omega
    · split
      · omega
      · split <;> omega
theorem lwv_ext {p q : Nat → Bool} {w : Nat → Int} : ∀ n, (∀ i, i < n → p i = q i) → lwv p w n = lwv q w n := by
  intro n
  induction n with
  | zero => intro _; rfl
  | succ n ih => intro e; rw [lwv, lwv, ih (fun i hi => e i (by omega)), e n (by omega)]
theorem lwv_more {p : Nat → Bool} {w : Nat → Int} {n : Nat} : ∀ k, (∀ i, n ≤ i → i < n + k → p i = false) → lwv p w (n + k) = lwv p w n := by
  intro k
  induction k with
  | zero => intro _; rfl
  | succ k ih =>
    intro e
    rw [← Nat.add_assoc, lwv, if_pos (e (n + k) (by omega) (by omega)), ih (fun i h1 h2 => e i h1 (by omega))]
theorem hb_mtn (c : Nat → Nat) (m : Int) (o : Nat) : ∀ k, (∀ i, i < k → c i < 32) → hb (mtn c m k) o = (hb m o || anyf (fun i => decide (c i = o)) 0 k) := by
  intro k
  induction k with
  | zero => intro _; rw [mtn, anyf, Bool.or_false]
  | succ k ih =>
    intro h
    rw [mtn, hb_or, ih (fun i hi => h i (by omega)), hb_shl (h k (by omega)), anyf, Nat.zero_add, Bool.or_assoc]
    congr 2
    by_cases e : o = c k
    · subst e; rfl
    · rw [decide_eq_false e, decide_eq_false (fun q => e q.symm)]
section
variable {T : Knd} {A : Rfs} {O : Ofc} {I : Mem} {W : Wkr} {tk : Nat → Nat → Bool} {wt : Nat → Int} {mt : Int} {c : Nat → Nat} {len s : Nat} {m : Bool}
theorem c_serve (h : Ag T A) (wf : WF O) (hl : 0 < O 0 0) (hc : CV O 26 I) (ht : TW O I) (hn : TN O I) (r : Rw O I s len c) {n : Nat} (h9 : n ≤ 9) : OK (f_X3_serve T A 119 111 (s : Int) (n : Int) I) (fun K => (∀ j, j < n → K 123 j = thr O c len j) ∧ QC (qsv O c len n).1 (qsv O c len n).2 (mts O c len n) K ∧ ∀ a b, (a < 119 ∨ 124 < a) → K a b = I a b) := by
  obtain ⟨k0, k1, k2, k3, k4, k5, k6⟩ := q119 h
  unfold f_X3_serve
  rw [if_pos k0, k2, some_bind]
  refine ok_b (ok_m (c_fill (kT_122 h) (by decide) 0) (fun A1 hA => ?_))
  rw [k4, some_bind]
  refine ok_b (ok_m (c_fill (kT_124 h) (by decide) 0) (fun B hB => ?_))
  rw [k3, some_bind]
  refine ok_b (ok_m (c_fill (kT_123 h) (by decide) (-1)) (fun C hC => ?_))
  rw [k6, some_bind]
  have hF : ∀ a b, (a < 119 ∨ 124 < a) → C a b = I a b := fun a b hab => by rw [hC.1 a b (by omega), hB.1 a b (by omega), hA.1 a b (by omega)]
  refine it_run (fun i (x : Int × Mem) => x.1 = (i : Int) ∧ (∀ j, j < i → x.2 123 j = thr O c len j) ∧ QC (qsv O c len i).1 (qsv O c len i).2 (mts O c len i) x.2 ∧ ∀ a b, (a < 119 ∨ 124 < a) → x.2 a b = I a b) n ?_ ?_ 0 FU _ (by omega) (by unfold FU; omega) ⟨rfl, fun j hj => absurd hj (by omega), ⟨fun o x ho hx => ?_, fun o ho => ?_, ?_⟩, fun a b hab => by (try dsimp only); rw [mu_o _ _ (by omega)]; exact hF a b hab⟩
  · rintro i ⟨x1, M⟩ hi ⟨rfl, h1, hQ, h2⟩
    try dsimp only at h1 hQ h2 ⊢
    rw [if_pos (by omega), if_pos (by omega), some_bind]
    have rM : Rw O M s len c := by
      obtain ⟨r1, r2, r3, r4, r5⟩ := r
      refine ⟨r1, r2, ?_, ?_, fun i hi => ⟨?_, ?_, (r5 i hi).2.2⟩⟩
      · rw [h2 _ _ (by omega)]; exact r3
      · rw [h2 _ _ (by omega)]; exact r4
      · rw [h2 _ _ (by omega)]; exact (r5 i hi).1
      · rw [h2 _ _ (by omega)]; exact (r5 i hi).2.1
    refine ok_b (ok_m (c_goBy h wf hl (cv_ag hc (fun a b d1 d2 => h2 a b (by omega))) (tw_ag wf ht (fun a b d1 d2 => h2 a b (by omega))) (tn_ag wf hn (fun a b d1 d2 => h2 a b (by omega))) hQ rM) (fun z hz => ?_))
    obtain ⟨z1, z2, z3⟩ := hz
    rw [ev_sto (kT_123 h), if_pos (by omega), some_bind, Int.toNat_natCast, ia_1 (by omega), z1]
    refine ok_i ⟨rfl, fun j hj => ?_, ⟨fun o x ho hx => ?_, fun o ho => ?_, ?_⟩, fun a b hab => ?_⟩
    · try dsimp only
      by_cases e : j = i
      · subst e; rw [mu_s]; rfl
      · rw [mu_o _ _ (by omega), z3 _ _ (by omega)]; exact h1 j (by omega)
    · (try dsimp only); rw [mu_o _ _ (by omega)]; exact z2.1 o x ho hx
    · (try dsimp only); rw [mu_o _ _ (by omega)]; exact z2.2.1 o ho
    · (try dsimp only); rw [mu_o _ _ (by omega)]; exact z2.2.2
    · (try dsimp only); rw [mu_o _ _ (by omega), z3 _ _ (by omega)]; exact h2 a b hab
  · rintro ⟨x1, M⟩ ⟨rfl, h1, hQ, h2⟩
    try dsimp only at h1 hQ h2 ⊢
    rw [if_neg (by omega)]
    exact ok_i ⟨h1, hQ, h2⟩
  · try dsimp only
    rw [mu_o _ _ (by omega), hC.1 _ _ (by omega), hB.1 _ _ (by omega), hA.2 _ hx, hb_0]; rfl
  · try dsimp only
    rw [mu_o _ _ (by omega), hC.1 _ _ (by omega), hB.2 _ ho]; rfl
  · try dsimp only
    rw [mu_s]; rfl
def Fqs (I J : Mem) : Prop := ∀ o k, ¬ (o = 129 ∧ 25 ≤ k ∧ k ≤ 28) → ¬ (o = 129 ∧ k = 31) → o ≠ 143 → o ≠ 144 → o ≠ 145 → o ≠ 152 → o ≠ 153 → J o k = I o k
theorem m_queues (h : Ag T A) (wf : WF O) (hl : 0 < O 0 0) (hm : MW O 0 I) (r : Rw O I s len c) {n : Nat} (h9 : n ≤ 9) : OK (f_X12_queues T A 129 (s : Int) (n : Int) I) (fun K => (∀ j, j < n → K 153 j = thr O c len j) ∧ (∀ o, o < 8 → K 152 o = (qsv O c len n).2 o) ∧ Fqs I K ∧ K 129 31 = 0) := by
  unfold f_X12_queues
  rw [if_pos (show (T 129).1 = 12 by rw [kT_129 h]), show gr T A 12 30 129 = some 145 by simp only [agMg h], show gr T A 12 47 129 = some 152 by simp only [agMg h], show gr T A 12 48 129 = some 153 by simp only [agMg h]]
  refine ok_tn (it_run (fun i (x : Int × Mem) => x.1 = (i : Int) ∧ (∀ j, j < i → x.2 145 j = 0) ∧ Fqs I x.2) 3200 ?_ ?_ 0 FU _ (by omega) (by unfold FU; omega) ⟨rfl, fun j hj => absurd hj (by omega), fun _ _ _ _ _ _ _ _ _ => rfl⟩)
  · rintro i ⟨x1, M⟩ hi ⟨rfl, h1, h2⟩
    try dsimp only at h1 h2 ⊢
    rw [if_pos (by omega), some_bind, ev_sto (kT_145 h), if_pos (by omega), some_bind, Int.toNat_natCast, ia_1 (by omega)]
    refine ok_i ⟨rfl, fun j hj => ?_, fun a b d1 d2 d3 d4 d5 d6 d7 => ?_⟩
    · try dsimp only
      by_cases e : j = i
      · subst e; rw [mu_s]; rfl
      · rw [mu_o _ _ (by omega)]; exact h1 j (by omega)
    · (try dsimp only); rw [mu_o _ _ (by omega)]; exact h2 a b d1 d2 d3 d4 d5 d6 d7
  · rintro ⟨x1, M⟩ ⟨rfl, h1, h2⟩
    try dsimp only at h1 h2 ⊢
    rw [if_neg (by omega)]
    refine ok_i ?_
    show OK _ _
    try dsimp only
    refine ok_tn (it_run (fun i (x : Int × Mem) => x.1 = (i : Int) ∧ (∀ j, j < i → x.2 152 j = 0) ∧ (∀ j, j < 3200 → x.2 145 j = 0) ∧ Fqs I x.2) 8 ?_ ?_ 0 FU _ (by omega) (by unfold FU; omega) ⟨rfl, fun j hj => absurd hj (by omega), h1, h2⟩)
    · rintro i ⟨x1, M⟩ hi ⟨rfl, h0, h1, h2⟩
      try dsimp only at h0 h1 h2 ⊢
      rw [if_pos (by omega), some_bind, ev_sto (kT_152 h), if_pos (by omega), some_bind, Int.toNat_natCast, ia_1 (by omega)]
      refine ok_i ⟨rfl, fun j hj => ?_, fun j hj => ?_, fun a b d1 d2 d3 d4 d5 d6 d7 => ?_⟩
      · try dsimp only
        by_cases e : j = i
        · subst e; rw [mu_s]
        · rw [mu_o _ _ (by omega)]; exact h0 j (by omega)
      · (try dsimp only); rw [mu_o _ _ (by omega)]; exact h1 j hj
      · (try dsimp only); rw [mu_o _ _ (by omega)]; exact h2 a b d1 d2 d3 d4 d5 d6 d7
    · rintro ⟨x1, M⟩ ⟨rfl, h0, h1, h2⟩
      try dsimp only at h0 h1 h2 ⊢
      rw [if_neg (by omega)]
      refine ok_i ?_
      show OK _ _
      try dsimp only
      rw [show ∀ J : Mem, pz T 12 31 129 1 J = some (mu J 129 31 1) from fun J => by simp only [agMg h], some_bind]
      refine ok_tn (it_run (fun i (x : Int × Mem) => x.1 = (i : Int) ∧ (∀ j, j < i → x.2 153 j = thr O c len j) ∧ TKm true (qsv O c len i).1 x.2 ∧ (∀ o, o < 8 → x.2 152 o = (qsv O c len i).2 o) ∧ Fqs I x.2) n ?_ ?_ 0 FU _ (by omega) (by unfold FU; omega) ⟨rfl, fun j hj => absurd hj (by omega), Or.inr ⟨rfl, by (try dsimp only); rw [mu_s], fun o x ho hx => ?_⟩, fun o ho => ?_, fun a b d1 d2 d3 d4 d5 d6 d7 => ?_⟩)
      · rintro i ⟨x1, M⟩ hi ⟨rfl, g1, g2, g3, g4⟩
        try dsimp only at g1 g2 g3 g4 ⊢
        have rM : Rw O M s len c := by
          obtain ⟨r1, r2, r3, r4, r5⟩ := r
          refine ⟨r1, r2, ?_, ?_, fun i hi => ⟨?_, ?_, (r5 i hi).2.2⟩⟩
          · rw [g4 _ _ (by omega) (by omega) (by omega) (by omega) (by omega) (by omega) (by omega)]; exact r3
          · rw [g4 _ _ (by omega) (by omega) (by omega) (by omega) (by omega) (by omega) (by omega)]; exact r4
          · rw [g4 _ _ (by omega) (by omega) (by omega) (by omega) (by omega) (by omega) (by omega)]; exact (r5 i hi).1
          · rw [g4 _ _ (by omega) (by omega) (by omega) (by omega) (by omega) (by omega) (by omega)]; exact (r5 i hi).2.1
        rw [if_pos (by omega), some_bind]
        refine ok_b (ok_m (m_runs h wf hl (mw_ag hm (fun a b d1 d2 => g4 a b (by omega) (by omega) (by omega) (by omega) (by omega) (by omega) (by omega))) g2 g3 rM) (fun z hz => ?_))
        obtain ⟨z1, z2, z3, z4⟩ := hz
        rw [ev_sto (kT_153 h), if_pos (by omega), some_bind, Int.toNat_natCast, ia_1 (by omega), z1]
        refine ok_i ⟨rfl, fun j hj => ?_, ?_, fun o ho => ?_, fun a b d1 d2 d3 d4 d5 d6 d7 => ?_⟩
        · try dsimp only
          by_cases e : j = i
          · subst e; rw [mu_s]; rfl
          · rw [mu_o _ _ (by omega), z4 _ _ (by omega) (by omega) (by omega) (by omega) (by omega)]; exact g1 j (by omega)
        · refine tkm_ag z2 ?_ (fun k => ?_)
          · (try dsimp only); rw [mu_o _ _ (by omega)]
          · (try dsimp only); rw [mu_o _ _ (by omega)]
        · (try dsimp only); rw [mu_o _ _ (by omega)]; exact z3 o ho
        · (try dsimp only); rw [mu_o _ _ (by omega), z4 a b d1 d3 d4 d5 d6]; exact g4 a b d1 d2 d3 d4 d5 d6 d7
      · rintro ⟨x1, M⟩ ⟨rfl, g1, g2, g3, g4⟩
        try dsimp only at g1 g2 g3 g4 ⊢
        rw [if_neg (by omega)]
        refine ok_i ?_
        show OK _ _
        try dsimp only
        rw [show ∀ J : Mem, pz T 12 31 129 0 J = some (mu J 129 31 0) from fun J => by simp only [agMg h], some_bind]
        refine ok_i ⟨fun j hj => ?_, fun o ho => ?_, fun a b d1 d2 d3 d4 d5 d6 d7 => ?_, mu_s _ _ _ _⟩
        · rw [mu_o _ _ (by omega)]; exact g1 j hj
        · rw [mu_o _ _ (by omega)]; exact g3 o ho
        · rw [mu_o _ _ (by omega)]; exact g4 a b d1 d2 d3 d4 d5 d6 d7
      · try dsimp only
        rw [mu_o _ _ (by omega), h1 _ (by omega)]; rfl
      · try dsimp only
        rw [mu_o _ _ (by omega), h0 o ho]; rfl
      · try dsimp only
        rw [mu_o _ _ (by omega)]; exact h2 a b d1 d2 d3 d4 d5 d6 d7
theorem c_lastThrough (h : Ag T A) {f : Nat → Int} {n : Nat} (h9 : n ≤ 9) (e : ∀ j, j < n → I 123 j = f j) : f_X3_lastThrough T A 119 (n : Int) I = some (lsv f n) := by
  obtain ⟨k0, k1, k2, k3, k4, k5, k6⟩ := q119 h
  suffices OK (f_X3_lastThrough T A 119 (n : Int) I) (fun z => z = lsv f n) by
    obtain ⟨z, e1, e2⟩ := this
    rw [e1, e2]
  unfold f_X3_lastThrough
  rw [if_pos k0, k3]
  refine it_run (fun i (x : Int × Int) => x.2 = (i : Int) ∧ x.1 = mxv f i ∧ ∀ j, j < i → f j ≠ -1) n ?_ ?_ 0 FU _ (by omega) (by unfold FU; omega) ⟨rfl, rfl, fun j hj => absurd hj (by omega)⟩
  · rintro i ⟨x1, x2⟩ hi ⟨rfl, rfl, h1⟩
    try dsimp only
    rw [if_pos (by omega), if_pos (by omega), some_bind, ev_ld (kT_123 h), if_pos (by omega), some_bind, some_bind, Int.toNat_natCast, e i hi]
    by_cases c1 : f i = -1
    · rw [if_pos c1]
      refine ok_i ?_
      have : fst_ (fun i => decide (f i = -1)) n 0 = (i : Int) := fst_is (by omega) (by omega) (decide_eq_true c1) (fun j _ hj => decide_eq_false (h1 j hj))
      unfold lsv
      rw [this, if_neg (by omega)]
    · rw [if_neg c1, ev_ld (kT_123 h), if_pos (by omega), some_bind, Int.toNat_natCast, e i hi, ia_1 (by omega)]
      refine ok_i ⟨rfl, rfl, fun j hj => ?_⟩
      by_cases d : j = i
      · subst d; exact c1
      · exact h1 j (by omega)
  · rintro ⟨x1, x2⟩ ⟨rfl, rfl, h1⟩
    try dsimp only
    rw [if_neg (by omega)]
    refine ok_i ?_
    unfold lsv
    rw [if_pos (fst_none (fun j _ hj => decide_eq_false (h1 j (by omega))))]
theorem m_lastOf (h : Ag T A) {f : Nat → Int} {n : Nat} (h9 : n ≤ 9) (e : ∀ j, j < n → I 153 j = f j) : f_X12_lastOf T A 129 (n : Int) I = some (lsv f n) := by
  suffices OK (f_X12_lastOf T A 129 (n : Int) I) (fun z => z = lsv f n) by
    obtain ⟨z, e1, e2⟩ := this
    rw [e1, e2]
  unfold f_X12_lastOf
  rw [if_pos (show (T 129).1 = 12 by rw [kT_129 h]), show gr T A 12 48 129 = some 153 by simp only [agMg h]]
  refine it_run (fun i (x : Int × Int) => x.2 = (i : Int) ∧ x.1 = mxv f i ∧ ∀ j, j < i → f j ≠ -1) n ?_ ?_ 0 FU _ (by omega) (by unfold FU; omega) ⟨rfl, rfl, fun j hj => absurd hj (by omega)⟩
  · rintro i ⟨x1, x2⟩ hi ⟨rfl, rfl, h1⟩
    try dsimp only
    rw [if_pos (by omega), some_bind, ev_ld (kT_153 h), if_pos (by omega), some_bind, some_bind, some_bind, Int.toNat_natCast, e i hi]
    by_cases c1 : f i = -1
    · rw [if_pos c1]
      refine ok_i ?_
      have : fst_ (fun i => decide (f i = -1)) n 0 = (i : Int) := fst_is (by omega) (by omega) (decide_eq_true c1) (fun j _ hj => decide_eq_false (h1 j hj))
      unfold lsv
      rw [this, if_neg (by omega)]
    · rw [if_neg c1, ev_ld (kT_153 h), if_pos (by omega), some_bind, Int.toNat_natCast, e i hi, ia_1 (by omega)]
      have hx : (if mxv f i < f i then f i else mxv f i) = mxv f (i + 1) := rfl
      by_cases c2 : f i ≤ mxv f i
      · rw [if_pos c2]
        rw [if_neg (by omega)] at hx
        refine ok_i ⟨rfl, hx, fun j hj => ?_⟩
        by_cases d : j = i
        · subst d; exact c1
        · exact h1 j (by omega)
      · rw [if_neg c2]
        rw [if_pos (by omega)] at hx
        refine ok_i ⟨rfl, hx, fun j hj => ?_⟩
        by_cases d : j = i
        · subst d; exact c1
        · exact h1 j (by omega)
  · rintro ⟨x1, x2⟩ ⟨rfl, rfl, h1⟩
    try dsimp only
    rw [if_neg (by omega)]
    refine ok_i ?_
    unfold lsv
    rw [if_pos (fst_none (fun j _ hj => decide_eq_false (h1 j (by omega))))]
theorem c_throughBy (h : Ag T A) {f : Nat → Int} (e : ∀ j, j < 9 → I 123 j = f j) (x : Int) : f_X3_throughBy T A 119 x I = some (cnv f x 9) := by
  obtain ⟨k0, k1, k2, k3, k4, k5, k6⟩ := q119 h
  unfold f_X3_throughBy
  rw [if_pos k0, k3]
  refine it_seq (fun i => (cnv f x i, (i : Int))) 9 (fun i hi => ?_) ?_ FU (by decide)
  · have := cnv_rg f x i
    try dsimp only
    rw [if_pos (by omega), some_bind, ev_ld (kT_123 h), if_pos (by omega), some_bind, some_bind, Int.toNat_natCast, e i hi, ia_1 (by omega), cnv]
    by_cases c1 : f i = -1
    · rw [if_pos c1, if_pos c1]
    · rw [if_neg c1, if_neg c1, ev_ld (kT_123 h), if_pos (by omega), some_bind, Int.toNat_natCast, e i hi]
      by_cases c2 : f i ≤ x
      · rw [if_pos c2, if_pos c2, ia_eq (by omega) (by omega)]
      · rw [if_neg c2, if_neg c2]
  · try dsimp only
    rw [if_neg (by decide)]
theorem c_longest (h : Ag T A) {w : Nat → Int} {mt : Int} (e : ∀ j, j < 8 → I 124 j = w j) (em : I 119 4 = mt) : f_X3_longestWaitedAt T A 119 I = some (lwv (hb mt) w 8) := by
  obtain ⟨k0, k1, k2, k3, k4, k5, k6⟩ := q119 h
  unfold f_X3_longestWaitedAt
  rw [if_pos k0, k4, k5, em]
  refine it_seq (fun i => (lwv (hb mt) w i, (i : Int))) 8 (fun i hi => ?_) ?_ FU (by decide)
  · have hr := lwv_rg (hb mt) w i
    try dsimp only
    rw [if_pos (by omega), some_bind, f_hasBit (by omega), some_bind, ia_1 (by omega), lwv]
    cases hb mt i
    · rw [if_pos (show (if false = true then (1 : Int) else 0) = 0 from rfl), if_pos rfl]
    · rw [if_neg (show ¬ (if true = true then (1 : Int) else 0) = 0 by decide), if_neg (show ¬ true = false by decide)]
      by_cases c1 : lwv (hb mt) w i = -1
      · rw [if_pos c1, if_pos c1]
      · rw [if_neg c1, if_neg c1, some_bind, ev_ld (kT_124 h), if_pos (by omega), some_bind, some_bind, ev_ld (kT_124 h), if_pos (by omega), some_bind, Int.toNat_natCast, e i (by omega), e _ (by omega)]
        split <;> rfl
  · try dsimp only
    rw [if_neg (by decide)]
end
