/-! B: the reference's way through the tokens. -/
def BtM (b : Nat → Int) (L : Nat) (M : Mem) : Prop := L ≤ 1600 ∧ M 129 6 = (L : Int) ∧ ∀ k, k < L → M 134 k = b k
def TkM (b : Nat → Int) (L p : Nat) (M : Mem) : Prop := M 129 8 = tk b L p ∧ M 129 9 = (tf b L p : Int) ∧ M 129 7 = (tt b L p : Int) ∧ (tk b L p = 2 → M 129 10 = mnu b (tf b L p) (tt b L p - tf b L p)) ∧ (tk b L p = 1 → M 129 11 = mwd b (tf b L p) (tt b L p - tf b L p))
def Ftm (I J : Mem) : Prop := ∀ o k, ¬ (o = 129 ∧ 7 ≤ k ∧ k ≤ 11) → J o k = I o k
theorem ftm_r (I : Mem) : Ftm I I := fun _ _ _ => rfl
theorem ftm_mu {I J : Mem} {k : Nat} {v : Int} (h : Ftm I J) (h1 : 7 ≤ k) (h2 : k ≤ 11) : Ftm I (mu J 129 k v) := fun o j hj => by rw [mu_o _ _ (by omega)]; exact h o j hj
theorem btm_ag {b : Nat → Int} {L : Nat} {I J : Mem} (t : BtM b L I) (f : Ftm I J) : BtM b L J := ⟨t.1, by rw [f _ _ (by omega)]; exact t.2.1, fun k hk => by rw [f _ _ (by omega)]; exact t.2.2 k hk⟩
section
variable {T : Knd} {A : Rfs} {I : Mem} {b : Nat → Int} {L : Nat}
theorem g_ev (h : Ag T A) : (T 129).1 = 12 ∧ gr T A 12 5 129 = some 134 ∧ (∀ k I, gi T 12 k 129 I = some (I 129 k)) ∧ (∀ k v I, pi T 12 k 129 v I = some (mu I 129 k v)) ∧ ∀ j I, ld T 22 134 j I = if 0 ≤ j ∧ j < 1600 then some (I 134 j.toNat) else none :=
  ⟨by rw [kT_129 h], ev_gr (kT_129 h) rfl (kA h (by decide +kernel)) (by decide), ev_gi (kT_129 h) rfl, ev_pi (kT_129 h) rfl, fun j I => ev_ld (kT_134 h) j I⟩
theorem m_isByte (h : Ag T A) (t : BtM b L I) (x : Nat) (lo hi : Int) : f_X12_isByte T A 129 (x : Int) lo hi I = some (if x < L ∧ lo ≤ b x ∧ b x ≤ hi then 1 else 0) := by
  obtain ⟨k0, k1, k2, k3, k4⟩ := g_ev h
  obtain ⟨t1, t2, t3⟩ := t
  unfold f_X12_isByte
  rw [if_pos k0, k2, some_bind, t2]
  by_cases c : x < L
  · rw [if_pos (by omega), k1, some_bind, k4, if_pos (by omega), some_bind, Int.toNat_natCast, t3 x c]
    by_cases d : b x < lo
    · rw [if_pos d, if_neg (fun q => by omega)]
    · rw [if_neg d, some_bind, k4, if_pos (by omega), some_bind, Int.toNat_natCast, t3 x c]
      by_cases e : b x ≤ hi
      · rw [if_pos e, if_pos ⟨c, by omega, e⟩]
      · rw [if_neg e, if_neg (fun q => e q.2.2)]
  · rw [if_neg (by omega), if_neg (fun q => c q.1)]
theorem m_isByte1 (h : Ag T A) (t : BtM b L I) {x : Nat} {lo hi : Int} (q : x < L ∧ lo ≤ b x ∧ b x ≤ hi) : f_X12_isByte T A 129 (x : Int) lo hi I = some 1 := by rw [m_isByte h t, if_pos q]
theorem m_isByte0 (h : Ag T A) (t : BtM b L I) {x : Nat} {lo hi : Int} (q : ¬ (x < L ∧ lo ≤ b x ∧ b x ≤ hi)) : f_X12_isByte T A 129 (x : Int) lo hi I = some 0 := by rw [m_isByte h t, if_neg q]
theorem m_next (h : Ag T A) (t : BtM b L I) {q : Nat} (hq : I 129 7 = (q : Int)) (hL : q ≤ L) : OK (f_X12_next T A 129 I) (fun J => TkM b L q J ∧ Ftm I J) := by
  obtain ⟨k0, k1, k2, k3, k4⟩ := g_ev h
  have t1 := t.1
  have t2 := t.2.1
  have t3 := t.2.2
  obtain ⟨⟨f1, f2⟩, f3, f4⟩ := tf_in b hL
  unfold f_X12_next
  rw [if_pos k0]
  refine ok_tn (ok_m (P := fun z => match z with | .inl v => v 129 7 = (tf b L q : Int) ∧ Ftm I v | .inr _ => False) ?_ ?_)
  · refine it_run (fun i (s : Mem) => s 129 7 = ((q + i : Nat) : Int) ∧ Ftm I s) (tf b L q - q) ?_ ?_ 0 FU _ (by omega) (by unfold FU; omega) ⟨hq, ftm_r I⟩
    · rintro i s hi ⟨s1, s2⟩
      have hb1 := (blk_iff _).mp (f3 (q + i) (by omega) (by omega))
      have ts := btm_ag t s2
      rw [k2, some_bind, s1]
      refine ok_b (ok_e (v := if b (q + i) = 32 then 1 else 0) ?_ ?_)
      · by_cases c : b (q + i) = 32
        · rw [m_isByte1 h ts ⟨by omega, by omega, by omega⟩, if_pos c]
        · rw [m_isByte0 h ts (by omega), if_neg c]
      refine ok_tn (ok_e (v := .inl ()) ?_ ?_)
      · by_cases c : b (q + i) = 32
        · rw [if_pos c, if_neg (by decide)]
        · rw [if_neg c, if_pos rfl, some_bind, m_isByte1 h ts ⟨by omega, by omega, by omega⟩, some_bind, if_neg (by decide)]
      · show OK _ _
        dsimp only
        rw [some_bind, k3, some_bind, ia_1 (by omega)]
        refine ok_i ⟨?_, ftm_mu s2 (by decide) (by decide)⟩
        try dsimp only
        rw [mu_s, Nat.add_assoc]
    · rintro s ⟨s1, s2⟩
      have ts := btm_ag t s2
      have e : q + (tf b L q - q) = tf b L q := by omega
      rw [e] at s1
      have nb : ¬ (tf b L q < L ∧ (b (tf b L q) = 32 ∨ b (tf b L q) = 10)) := fun z => by
        have := f4 z.1
        rw [(blk_iff _).mpr z.2] at this
        exact absurd this (by decide)
      rw [k2, some_bind, s1, m_isByte0 h ts (fun z => nb ⟨z.1, Or.inl (by omega)⟩), some_bind, if_pos rfl, some_bind, m_isByte0 h ts (fun z => nb ⟨z.1, Or.inr (by omega)⟩), some_bind, if_pos rfl, thn_r]
      exact ok_i ⟨s1, s2⟩
  · rintro (v | v) hz
    · obtain ⟨v1, v2⟩ := hz
      show OK _ _
      dsimp only
      rw [k2, some_bind, k3, some_bind, k3, some_bind, k3, some_bind]
      obtain ⟨f, ef⟩ : ∃ f, tf b L q = f := ⟨_, rfl⟩
      rw [ef] at v1 f1 f2
      obtain ⟨V, eV⟩ : ∃ V : Mem, V = mu (mu (mu v 129 9 (v 129 7)) 129 10 0) 129 11 0 := ⟨_, rfl⟩
      rw [← eV]
      have fV : Ftm I V := by rw [eV]; exact ftm_mu (ftm_mu (ftm_mu v2 (by decide) (by decide)) (by decide) (by decide)) (by decide) (by decide)
      have V7 : V 129 7 = (f : Int) := by rw [eV, mu_o _ _ (by omega), mu_o _ _ (by omega), mu_o _ _ (by omega)]; exact v1
      have V9 : V 129 9 = (f : Int) := by rw [eV, mu_o _ _ (by omega), mu_o _ _ (by omega), mu_s]; exact v1
      have V10 : V 129 10 = 0 := by rw [eV, mu_o _ _ (by omega), mu_s]
      have V11 : V 129 11 = 0 := by rw [eV, mu_s]
      have tV := btm_ag t fV
      rw [k2, some_bind, k2, some_bind, V7, tV.2.1]
      by_cases c0 : f < L
      · rw [if_neg (by omega), some_bind]
        by_cases c1 : ltr (b f) = true
        · have l1 := (ltr_iff _).mp c1
          have ek : tk b L q = 1 := by unfold tk; rw [ef, if_pos c0, if_pos c1]
          have et : tt b L q = te ltr b L f := by unfold tt; rw [ef, if_pos c0, if_pos c1]
          obtain ⟨e1, e2, e3⟩ := te_in ltr b (L := L) (f := f) f2
          have hl : ∀ i, f + i < te ltr b L f → ltr (b (f + i)) = true := fun i hi => e2 _ (by omega) hi
          rw [m_isByte1 h tV ⟨c0, l1⟩, some_bind, if_neg (by decide), k3, some_bind]
          refine it_run (fun i (s : Int × Mem) => s.1 = (i : Int) ∧ s.2 129 8 = 1 ∧ s.2 129 9 = (f : Int) ∧ s.2 129 7 = ((f + i : Nat) : Int) ∧ s.2 129 11 = mwd b f i ∧ Ftm I s.2) (te ltr b L f - f) ?_ ?_ 0 FU _ (by omega) (by unfold FU; omega) ⟨rfl, by (try dsimp only); rw [mu_s], by (try dsimp only); rw [mu_o _ _ (by omega)]; exact V9, by (try dsimp only); rw [mu_o _ _ (by omega)]; exact V7, by (try dsimp only); rw [mu_o _ _ (by omega)]; exact V11, ftm_mu fV (by decide) (by decide)⟩
          · rintro i ⟨si, s⟩ hi ⟨rfl, s1, s2, s3, s4, s5⟩
            try dsimp only at s1 s2 s3 s4 s5 ⊢
            have ts := btm_ag t s5
            have hb1 := (ltr_iff _).mp (hl i (by omega))
            have sb : s 134 (f + i) = b (f + i) := ts.2.2 _ (by omega)
            rw [k2, some_bind, s3, m_isByte1 h ts ⟨by omega, hb1⟩, some_bind, if_neg (by decide)]
            refine ok_tn (ok_e (v := .inl (if i ≤ 11 then pk b f (i + 1) else -1)) ?_ ?_)
            · by_cases d : i ≤ 11
              · have r := pk_rg (b := b) (f := f) i (fun j hj => hl j (by omega))
                have r2 : (27 : Int) ^ i ≤ 27 ^ 11 := by
                  have : (27 : Nat) ^ i ≤ 27 ^ 11 := Nat.pow_le_pow_right (by decide) d
                  have e := Int.ofNat_le.mpr this
                  rw [Int.natCast_pow, Int.natCast_pow] at e
                  exact e
                have r3 : (27 : Int) ^ 11 = 5559060566555523 := by decide
                rw [if_pos (by omega), if_pos d, k2, some_bind, k1, some_bind, some_bind, k4, if_pos (by omega), some_bind, Int.toNat_natCast, sb, s4]
                unfold mwd
                rw [if_pos (by omega)]
                have x1 : ilm 27 (pk b f i) = 27 * pk b f i := wrapl_id ⟨by omega, by omega⟩
                have x2 : ila (27 * pk b f i) (b (f + i)) = 27 * pk b f i + b (f + i) := wrapl_id ⟨by omega, by omega⟩
                have x3 : ils (27 * pk b f i + b (f + i)) 96 = 27 * pk b f i + b (f + i) - 96 := wrapl_id ⟨by omega, by omega⟩
                rw [x1, x2, x3]
                rfl
              · rw [if_neg (by omega), if_neg d]
            · show OK _ _
              dsimp only
              rw [k3, some_bind]
              obtain ⟨U, eU⟩ : ∃ U : Mem, U = mu (mu s 129 11 (if i ≤ 11 then pk b f (i + 1) else -1)) 129 11 (mwd b f (i + 1)) := ⟨_, rfl⟩
              have em : (if i ≤ 11 then pk b f (i + 1) else -1) = mwd b f (i + 1) := by
                unfold mwd
                by_cases d : i ≤ 11
                · rw [if_pos d, if_pos (by omega)]
                · rw [if_neg d, if_neg (by omega)]
              rw [em]
              refine ok_tn (ok_m (P := fun z => match z with | .inl w => w 129 11 = mwd b f (i + 1) ∧ ∀ o j, ¬ (o = 129 ∧ j = 11) → w o j = s o j | .inr _ => False) ?_ ?_)
              · by_cases d : i ≤ 11
                · rw [if_pos (by omega)]
                  exact ok_i ⟨mu_s _ _ _ _, fun o j hj => mu_o _ _ hj⟩
                · rw [if_neg (by omega), k3, some_bind]
                  refine ok_i ⟨?_, fun o j hj => ?_⟩
                  · try dsimp only
                    rw [mu_s, ← em, if_neg d]
                  · try dsimp only
                    rw [mu_o _ _ hj, mu_o _ _ hj]
              · rintro (w | w) hz
                · obtain ⟨w1, w2⟩ := hz
                  show OK _ _
                  dsimp only
                  rw [k2, some_bind, w2 129 7 (by omega), s3, ia_1 (by omega), k3, some_bind, ia_1 (by omega)]
                  refine ok_i ⟨rfl, ?_, ?_, ?_, ?_, fun o j hj => ?_⟩
                  · try dsimp only
                    rw [mu_o _ _ (by omega), w2 _ _ (by omega)]; exact s1
                  · try dsimp only
                    rw [mu_o _ _ (by omega), w2 _ _ (by omega)]; exact s2
                  · try dsimp only
                    rw [mu_s, Nat.add_assoc]
                  · try dsimp only
                    rw [mu_o _ _ (by omega)]; exact w1
                  · try dsimp only
                    rw [mu_o _ _ (by omega), w2 _ _ (by omega)]; exact s5 o j hj
                · exact hz.elim
          · rintro ⟨si, s⟩ ⟨rfl, s1, s2, s3, s4, s5⟩
            try dsimp only at s1 s2 s3 s4 s5 ⊢
            have ts := btm_ag t s5
            have e : f + (te ltr b L f - f) = te ltr b L f := by omega
            rw [e] at s3
            rw [k2, some_bind, s3, m_isByte0 h ts (fun z => by
              have := e3 z.1
              rw [(ltr_iff _).mpr z.2] at this
              exact absurd this (by decide)), some_bind, if_pos rfl]
            refine ok_i ⟨⟨?_, ?_, ?_, fun z => absurd z (by rw [ek]; decide), fun _ => ?_⟩, s5⟩
            · rw [ek]; exact s1
            · rw [ef]; exact s2
            · rw [et]; exact s3
            · rw [ef, et]; exact s4
        · have nl : ¬ (97 ≤ b f ∧ b f ≤ 122) := fun z => c1 ((ltr_iff _).mpr z)
          rw [m_isByte0 h tV (fun z => nl z.2), some_bind, if_pos rfl, some_bind]
          by_cases c2 : dgt (b f) = true
          · have l2 := (dgt_iff _).mp c2
            have ek : tk b L q = 2 := by unfold tk; rw [ef, if_pos c0, if_neg c1, if_pos c2]
            have et : tt b L q = te dgt b L f := by unfold tt; rw [ef, if_pos c0, if_neg c1, if_pos c2]
            obtain ⟨e1, e2, e3⟩ := te_in dgt b (L := L) (f := f) f2
            have hl : ∀ i, f + i < te dgt b L f → dgt (b (f + i)) = true := fun i hi => e2 _ (by omega) hi
            rw [m_isByte1 h tV ⟨c0, l2⟩, some_bind, if_neg (by decide), k3, some_bind]
            refine it_run (fun i (s : Mem) => s 129 8 = 2 ∧ s 129 9 = (f : Int) ∧ s 129 7 = ((f + i : Nat) : Int) ∧ s 129 10 = mnu b f i ∧ Ftm I s) (te dgt b L f - f) ?_ ?_ 0 FU _ (by omega) (by unfold FU; omega) ⟨by rw [mu_s], by rw [mu_o _ _ (by omega)]; exact V9, by rw [mu_o _ _ (by omega)]; exact V7, by rw [mu_o _ _ (by omega)]; exact V10, ftm_mu fV (by decide) (by decide)⟩
            · rintro i s hi ⟨s1, s2, s3, s4, s5⟩
              have ts := btm_ag t s5
              have hb1 := (dgt_iff _).mp (hl i (by omega))
              have sb : s 134 (f + i) = b (f + i) := ts.2.2 _ (by omega)
              have r := (mnu_rg (b := b) (f := f) i (fun j hj => hl j (by omega))).1
              rw [k2, some_bind, s3, m_isByte1 h ts ⟨by omega, hb1⟩, some_bind, if_neg (by decide), k2, some_bind, s4]
              refine ok_tn (ok_e (v := .inl (mnu b f (i + 1))) ?_ ?_)
              · rw [mnu]
                by_cases d : mnu b f i ≤ 100000
                · rw [if_pos d, if_pos d, some_bind, k1, some_bind, some_bind, k4, if_pos (by omega), some_bind, Int.toNat_natCast, sb, im_eq (by omega) (by omega), ia_eq (by omega) (by omega), isb_eq (by omega) (by omega)]
                · rw [if_neg d, if_neg d]
              · show OK _ _
                dsimp only
                rw [k3, some_bind, k2, some_bind, mu_o _ _ (by omega), s3, k3, some_bind, ia_1 (by omega)]
                refine ok_i ⟨?_, ?_, ?_, ?_, ftm_mu (ftm_mu s5 (by decide) (by decide)) (by decide) (by decide)⟩
                · try dsimp only
                  rw [mu_o _ _ (by omega), mu_o _ _ (by omega)]; exact s1
                · try dsimp only
                  rw [mu_o _ _ (by omega), mu_o _ _ (by omega)]; exact s2
                · try dsimp only
                  rw [mu_s, Nat.add_assoc]
                · try dsimp only
                  rw [mu_o _ _ (by omega), mu_s]
            · rintro s ⟨s1, s2, s3, s4, s5⟩
              have ts := btm_ag t s5
              have e : f + (te dgt b L f - f) = te dgt b L f := by omega
              rw [e] at s3
              rw [k2, some_bind, s3, m_isByte0 h ts (fun z => by
                have := e3 z.1
                rw [(dgt_iff _).mpr z.2] at this
                exact absurd this (by decide)), some_bind, if_pos rfl]
              refine ok_i ⟨⟨?_, ?_, ?_, fun _ => ?_, fun z => absurd z (by rw [ek]; decide)⟩, s5⟩
              · rw [ek]; exact s1
              · rw [ef]; exact s2
              · rw [et]; exact s3
              · rw [ef, et]; exact s4
          · have nd : ¬ (48 ≤ b f ∧ b f ≤ 57) := fun z => c2 ((dgt_iff _).mpr z)
            have et : tt b L q = f + 1 := by unfold tt; rw [ef, if_pos c0, if_neg c1, if_neg c2]
            have ek : tk b L q = if b f = 59 then 3 else 4 := by unfold tk; rw [ef, if_pos c0, if_neg c1, if_neg c2]
            have sb : V 134 f = b f := tV.2.2 _ c0
            rw [m_isByte0 h tV (fun z => nd z.2), some_bind, if_pos rfl, k1, some_bind, some_bind, k4, if_pos (by omega), some_bind, Int.toNat_natCast, sb]
            refine ok_tn (ok_e (v := .inl (tk b L q)) ?_ ?_)
            · rw [ek]
              split <;> rfl
            · show OK _ _
              dsimp only
              rw [k3, some_bind, k2, some_bind, mu_o _ _ (by omega), V7, k3, some_bind, ia_1 (by omega)]
              refine ok_i ⟨⟨?_, ?_, ?_, fun z => ?_, fun z => ?_⟩, ftm_mu (ftm_mu fV (by decide) (by decide)) (by decide) (by decide)⟩
              · try dsimp only
                rw [mu_o _ _ (by omega), mu_s]
              · try dsimp only
                rw [mu_o _ _ (by omega), mu_o _ _ (by omega), ef]; exact V9
              · try dsimp only
                rw [mu_s, et]
              · rw [ek] at z
                split at z <;> exact absurd z (by decide)
              · rw [ek] at z
                split at z <;> exact absurd z (by decide)
      · have et : tt b L q = f := by unfold tt; rw [ef, if_neg c0]
        have ek : tk b L q = 0 := by unfold tk; rw [ef, if_neg c0]
        rw [if_pos (by omega), k3, some_bind]
        refine ok_i ⟨⟨?_, ?_, ?_, fun z => absurd z (by rw [ek]; decide), fun z => absurd z (by rw [ek]; decide)⟩, ftm_mu fV (by decide) (by decide)⟩
        · try dsimp only
          rw [mu_s, ek]
        · try dsimp only
          rw [mu_o _ _ (by omega), ef]; exact V9
        · try dsimp only
          rw [mu_o _ _ (by omega), et]; exact V7
    · exact hz.elim
theorem m_is (h : Ag T A) {p w : Nat} (c : TkM b L p I) (g : I 129 12 = 0) : f_X12_is T A 129 (wpk w) I = some (bi (isw b L p w)) := by
  obtain ⟨k0, k1, k2, k3, k4⟩ := g_ev h
  obtain ⟨c1, c2, c3, c4, c5⟩ := c
  unfold f_X12_is
  rw [if_pos k0, k2, some_bind, if_pos g, k2, some_bind, c1]
  by_cases d : tk b L p = 1
  · rw [if_pos d, k2, some_bind, c5 d]
    unfold isw
    rw [decide_eq_true d, Bool.true_and]
    by_cases e : mwd b (tf b L p) (tt b L p - tf b L p) = wpk w
    · rw [decide_eq_true e, e, if_pos (by unfold ilcmp; rw [if_neg (by omega), if_pos rfl])]; rfl
    · rw [decide_eq_false e, if_neg (by
      unfold ilcmp
      by_cases z : mwd b (tf b L p) (tt b L p - tf b L p) < wpk w
      · rw [if_pos z]; decide
      · rw [if_neg z, if_neg e]; decide)]; rfl
  · rw [if_neg d, isw_0 d]; rfl
theorem m_is0 (h : Ag T A) (g : I 129 12 ≠ 0) (w : Int) : f_X12_is T A 129 w I = some 0 := by
  obtain ⟨k0, k1, k2, k3, k4⟩ := g_ev h
  unfold f_X12_is
  rw [if_pos k0, k2, some_bind, if_neg g]
end
