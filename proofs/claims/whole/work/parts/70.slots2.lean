/-! B: write, paste. -/
section
variable {T : Knd} {A : Rfs} {I : Mem}
theorem cut_eq (a w : Int) (J : Mem) : f_X7_cut T A a w I = f_X12_cut T A a w J := rfl
theorem cut_some (a w : Int) (J : Mem) : ∃ v, f_X12_cut T A a w J = some v := by
  unfold f_X12_cut
  by_cases c0 : w = 0
  · exact ⟨_, if_pos c0⟩
  · rw [if_neg c0]
    by_cases c1 : w = 1
    · exact ⟨_, if_pos c1⟩
    · rw [if_neg c1]
      by_cases c2 : w = 2
      · exact ⟨_, if_pos c2⟩
      · exact ⟨_, if_neg c2⟩
theorem c_reaches (h : Ag T A) {s : Nat} (hs : s < 4) (i n : Int) {m : Int} (hm : (if I 118 s = -1 then 0 else I 118 s) = m) (h60 : 0 ≤ m ∧ m ≤ 60) : f_X7_reaches T A 111 (s : Int) i n I = some (if 0 ≤ i ∧ 0 ≤ n ∧ i + n ≤ m then 1 else 0) := by
  unfold f_X7_reaches
  rw [if_pos (by rw [kT_111 h]), c_lengthOf h hs, hm, some_bind]
  by_cases c1 : i < 0
  · rw [if_pos c1, if_neg (by omega)]
  · rw [if_neg c1]
    by_cases c2 : n < 0
    · rw [if_pos c2, if_neg (by omega)]
    · rw [if_neg c2]
      by_cases c3 : i ≤ m
      · rw [if_pos c3, isb_eq (by omega) (by omega)]
        by_cases c4 : n ≤ m - i
        · rw [if_pos c4, if_pos (by omega)]
        · rw [if_neg c4, if_neg (by omega)]
      · rw [if_neg c3, if_neg (by omega)]
theorem q_write (h : Ag T A) (t : SL I) (a1 a2 a3 : Int) : ∃ v J K, f_X11_write T A 1 a1 a2 a3 I = some (v, J) ∧ f_X12_write T A 129 a1 a2 a3 J = some (v, K) ∧ SL K ∧ Fsl I K := by
  have pi' : ∀ q v (J : Mem), pi T 12 q 129 v J = some (mu J 129 q v) := fun q v J => by simp only [agMg h]
  have g11 : gr T A 11 11 1 = some 111 := by simp only [agX h]
  have m1 : gr T A 12 1 129 = some 130 := by simp only [agMg h]
  have m2 : gr T A 12 2 129 = some 131 := by simp only [agMg h]
  have m3 : gr T A 12 3 129 = some 132 := by simp only [agMg h]
  have refuse : ∀ {v : Int}, f_X11_write T A 1 a1 a2 a3 I = some (v, I) → f_X12_write T A 129 a1 a2 a3 I = some (v, mu I 129 0 0) → ∃ v J K, f_X11_write T A 1 a1 a2 a3 I = some (v, J) ∧ f_X12_write T A 129 a1 a2 a3 J = some (v, K) ∧ SL K ∧ Fsl I K := fun {v} e1 e2 => ⟨v, I, _, e1, e2, sl_0 t, fsl_0 I⟩
  by_cases c : 0 ≤ a1 ∧ a1 ≤ 3
  · obtain ⟨s, rfl⟩ := Int.eq_ofNat_of_zero_le c.1
    have hs : s < 4 := by omega
    rcases t s hs with ⟨w1, w2⟩ | ⟨w1, w2, w3, w4, w5⟩
    · refine refuse (v := -6) ?_ ?_
      · unfold f_X11_write
        rw [if_pos (by rw [kT_1 h]), g11, some_bind, c_isSlot h, some_bind, if_pos c, if_neg (by decide), some_bind, c_hasRow h hs, some_bind, if_pos w2, if_pos rfl]
      · unfold f_X12_write
        rw [if_pos (by rw [kT_129 h]), pi', some_bind, m_isSlot, some_bind, if_pos c, if_neg (by decide), m1, some_bind, l130 h hs, some_bind, mu_o _ _ (by omega), if_pos w1]
    · by_cases d : 0 ≤ a2 ∧ a2 < I 131 s
      · obtain ⟨i, rfl⟩ := Int.eq_ofNat_of_zero_le d.1
        obtain ⟨x, ex⟩ := cut_some (T := T) (A := A) a3 (I 130 s) I
        have hi : i < 60 := by omega
        obtain ⟨J, eJ⟩ : ∃ J, J = mu I (113 + s) i x := ⟨_, rfl⟩
        refine ⟨0, J, mu (mu J 129 0 0) 132 (60 * s + i) x, ?_, ?_, fun u hu => ?_, fun o j h1 h2 h3 h4 h5 h6 => by rw [mu_o _ _ (by omega), mu_o _ _ (by omega), eJ, mu_o _ _ (by omega)]⟩
        · unfold f_X11_write f_X7_set
          rw [if_pos (by rw [kT_1 h]), g11, some_bind, c_isSlot h, some_bind, if_pos c, if_neg (by decide), some_bind, c_hasRow h hs, some_bind, if_neg (show ¬ I 118 s = -1 by omega), if_neg (by decide), some_bind, if_pos (by rw [kT_111 h]), if_neg (by omega), c_lengthOf h hs, some_bind, if_neg (show ¬ I 118 s = -1 by omega), if_pos (by omega), show gr T A 7 0 111 = some 112 by simp only [agSl h], some_bind, r112 h hs, some_bind, show gr T A 7 1 111 = some 117 by simp only [agSl h], some_bind, l117 h hs, some_bind, w2, show f_X7_cut T A a3 (I 130 s) I = some x from ex, some_bind, ev_sto (kT_num h hs), if_pos (by omega), some_bind, some_bind, if_neg (fun q => absurd q (by decide : ¬ (1 : Int) = 0)), Int.toNat_natCast, eJ]
        · have j1 : J 130 s = I 130 s := by rw [eJ, mu_o _ _ (by omega)]
          have j2 : J 131 s = I 131 s := by rw [eJ, mu_o _ _ (by omega)]
          unfold f_X12_write
          rw [if_pos (by rw [kT_129 h]), pi', some_bind, m_isSlot, some_bind, if_pos c, if_neg (by decide), m1, some_bind, l130 h hs, some_bind, mu_o _ _ (by omega), j1, if_neg (by omega), m2, some_bind, l131 h hs, some_bind, mu_o _ _ (by omega), j2, isb_eq (by omega) (by omega), m_in, some_bind, if_pos (show 0 ≤ (i : Int) ∧ (i : Int) ≤ I 131 s - 1 by omega), if_neg (by decide), m3, some_bind, some_bind, l130 h hs, some_bind, mu_o _ _ (by omega), j1, show f_X12_cut T A a3 (I 130 s) (mu J 129 0 0) = some x from ex, some_bind, im_eq (by omega) (by omega), ia_eq (by omega) (by omega), ev_sto (kT_132 h), if_pos (by omega), some_bind, show (60 * (s : Int) + i).toNat = 60 * s + i by omega]
        · have e1 : ∀ o j, (o = 130 ∨ o = 131 ∨ o = 117 ∨ o = 118) → mu (mu J 129 0 0) 132 (60 * s + i) x o j = I o j := fun o j ho => by rw [mu_o _ _ (by omega), mu_o _ _ (by omega), eJ, mu_o _ _ (by omega)]
          rw [e1 _ _ (by omega), e1 _ _ (by omega), e1 _ _ (by omega), e1 _ _ (by omega)]
          rcases t u hu with v | ⟨v1, v2, v3, v4, v5⟩
          · exact Or.inl v
          · refine Or.inr ⟨v1, v2, v3, v4, fun k hk => ?_⟩
            rw [mu_o _ _ (by omega), mu_o _ _ (by omega), eJ]
            by_cases z : u = s ∧ k = i
            · obtain ⟨rfl, rfl⟩ := z
              rw [mu_s, mu_s]
            · rw [mu_o _ _ (by omega), mu_o _ _ (by omega), mu_o _ _ (by omega), mu_o _ _ (by omega)]
              exact v5 k hk
      · refine refuse (v := -7) ?_ ?_
        · unfold f_X11_write f_X7_set
          rw [if_pos (by rw [kT_1 h]), g11, some_bind, c_isSlot h, some_bind, if_pos c, if_neg (by decide), some_bind, c_hasRow h hs, some_bind, if_neg (show ¬ I 118 s = -1 by omega), if_neg (by decide), some_bind, if_pos (by rw [kT_111 h])]
          by_cases z : a2 < 0
          · rw [if_pos z, some_bind, if_pos rfl]
          · rw [if_neg z, c_lengthOf h hs, some_bind, if_neg (show ¬ I 118 s = -1 by omega), if_neg (by omega), some_bind, if_pos rfl]
        · unfold f_X12_write
          rw [if_pos (by rw [kT_129 h]), pi', some_bind, m_isSlot, some_bind, if_pos c, if_neg (by decide), m1, some_bind, l130 h hs, some_bind, mu_o _ _ (by omega), if_neg (by omega), m2, some_bind, l131 h hs, some_bind, mu_o _ _ (by omega), isb_eq (by omega) (by omega), m_in, some_bind, if_neg (show ¬ (0 ≤ a2 ∧ a2 ≤ I 131 s - 1) by omega), if_pos rfl]
  · refine refuse (v := -2) ?_ ?_
    · unfold f_X11_write
      rw [if_pos (by rw [kT_1 h]), g11, some_bind, c_isSlot h, some_bind, if_neg c, if_pos rfl]
    · unfold f_X12_write
      rw [if_pos (by rw [kT_129 h]), pi', some_bind, m_isSlot, some_bind, if_neg c, if_pos rfl]
theorem m_moves (h : Ag T A) {a b n : Nat} (ha : a + n ≤ 240) (hb1 : b + n ≤ 240) (hn : n ≤ 60) {x y : Int → Int} (hx : ∀ i : Nat, i < n → x i = ((a + i : Nat) : Int)) (hy : ∀ i : Nat, i < n → y i = ((b + i : Nat) : Int)) : OK (thn (it (fun (s29 : Int × Mem) => if s29.1 < (n : Int) then (gr T A 12 4 129).bind fun x31 => (gr T A 12 3 129).bind fun x32 => (ld T 21 x32 (x s29.1) s29.2).bind fun x33 => (sto T 21 x31 s29.1 x33 s29.2).bind fun I35 => some (.inl (ia s29.1 1, I35)) else some (.inr (.inl s29.2))) FU (0, I)) (fun (v27 : Mem) => it (fun (s37 : Int × Mem) => if s37.1 < (n : Int) then (gr T A 12 3 129).bind fun x39 => (gr T A 12 4 129).bind fun x40 => (ld T 21 x40 s37.1 s37.2).bind fun x41 => (sto T 21 x39 (y s37.1) x41 s37.2).bind fun I43 => some (.inl (ia s37.1 1, I43)) else some (.inr (0, s37.2))) FU (0, v27))) (fun (z : Int × Mem) => z.1 = 0 ∧ (∀ k, k < n → z.2 132 (b + k) = I 132 (a + k)) ∧ ∀ o j, o ≠ 133 → ¬ (o = 132 ∧ b ≤ j ∧ j < b + n) → z.2 o j = I o j) := by
  have m3 : gr T A 12 3 129 = some 132 := by simp only [agMg h]
  have m4 : gr T A 12 4 129 = some 133 := by simp only [agMg h]
  refine ok_tn (ok_m (P := fun z => match z with | .inl v => (∀ k, k < n → v 133 k = I 132 (a + k)) ∧ ∀ o j, o ≠ 133 → v o j = I o j | .inr _ => False) ?_ ?_)
  · refine it_run (fun i (q : Int × Mem) => q.1 = (i : Int) ∧ (∀ k, k < i → q.2 133 k = I 132 (a + k)) ∧ ∀ o j, o ≠ 133 → q.2 o j = I o j) n ?_ ?_ 0 FU (0, I) (by omega) (by unfold FU; omega) ⟨rfl, fun k hk => absurd hk (by omega), fun _ _ _ => rfl⟩
    · rintro i ⟨si, M⟩ hi ⟨rfl, m1, m2⟩
      try dsimp only at m1 m2 ⊢
      rw [if_pos (by omega), m4, some_bind, m3, some_bind, hx i hi, ev_ld (kT_132 h), if_pos (by omega), some_bind, Int.toNat_natCast, ev_sto (kT_133 h), if_pos (by omega), some_bind, Int.toNat_natCast, ia_1 (by omega)]
      refine ok_i ⟨rfl, fun k hk => ?_, fun o j hoj => ?_⟩
      · try dsimp only
        by_cases z : k = i
        · subst z; rw [mu_s]; exact m2 _ _ (by omega)
        · rw [mu_o _ _ (by omega)]; exact m1 k (by omega)
      · try dsimp only
        rw [mu_o _ _ (by omega)]; exact m2 o j hoj
    · rintro ⟨si, M⟩ ⟨rfl, m1, m2⟩
      try dsimp only at m1 m2 ⊢
      rw [if_neg (by omega)]
      exact ok_i ⟨m1, m2⟩
  · rintro (v | v) hv
    · obtain ⟨v1, v2⟩ := hv
      show OK _ _
      dsimp only
      refine it_run (fun i (q : Int × Mem) => q.1 = (i : Int) ∧ (∀ k, k < i → q.2 132 (b + k) = I 132 (a + k)) ∧ (∀ k, k < n → q.2 133 k = I 132 (a + k)) ∧ ∀ o j, o ≠ 133 → ¬ (o = 132 ∧ b ≤ j ∧ j < b + n) → q.2 o j = I o j) n ?_ ?_ 0 FU (0, v) (by omega) (by unfold FU; omega) ⟨rfl, fun k hk => absurd hk (by omega), v1, fun o j h1 _ => v2 o j h1⟩
      · rintro i ⟨si, M⟩ hi ⟨rfl, m1, m2, m5⟩
        try dsimp only at m1 m2 m5 ⊢
        rw [if_pos (by omega), m3, some_bind, m4, some_bind, hy i hi, ev_ld (kT_133 h), if_pos (by omega), some_bind, Int.toNat_natCast, ev_sto (kT_132 h), if_pos (by omega), some_bind, Int.toNat_natCast, ia_1 (by omega)]
        refine ok_i ⟨rfl, fun k hk => ?_, fun k hk => ?_, fun o j h1 h2 => ?_⟩
        · try dsimp only
          by_cases z : k = i
          · subst z; rw [mu_s]; exact m2 k hi
          · rw [mu_o _ _ (by omega)]; exact m1 k (by omega)
        · try dsimp only
          rw [mu_o _ _ (by omega)]; exact m2 k hk
        · try dsimp only
          rw [mu_o _ _ (by omega)]; exact m5 o j h1 h2
      · rintro ⟨si, M⟩ ⟨rfl, m1, m2, m5⟩
        try dsimp only at m1 m2 m5 ⊢
        rw [if_neg (by omega)]
        exact ok_i ⟨rfl, m1, m5⟩
    · exact hv.elim
theorem cmp_le (a b : Int) : (ilcmp a b ≤ 0) = (a ≤ b) := by
  unfold ilcmp
  by_cases c : a < b
  · rw [if_pos c]; exact propext ⟨fun _ => by omega, fun _ => by decide⟩
  · rw [if_neg c]
    by_cases d : a = b
    · rw [if_pos d]; exact propext ⟨fun _ => by omega, fun _ => by decide⟩
    · rw [if_neg d]; exact propext ⟨fun e => absurd e (by decide), fun e => absurd e (by omega)⟩
theorem q_paste (h : Ag T A) (t : SL I) {a1 a2 a3 a4 a5 : Int} (n2 : cn a2) (n4 : cn a4) (n5 : cn a5) : ∃ v J K, f_X11_paste T A 1 a1 a2 a3 a4 a5 I = some (v, J) ∧ f_X12_paste T A 129 a1 a2 a3 a4 a5 J = some (v, K) ∧ SL K ∧ Fsl I K := by
  have pi' : ∀ q v (J : Mem), pi T 12 q 129 v J = some (mu J 129 q v) := fun q v J => by simp only [agMg h]
  have g11 : gr T A 11 11 1 = some 111 := by simp only [agX h]
  have m1 : gr T A 12 1 129 = some 130 := by simp only [agMg h]
  have m2 : gr T A 12 2 129 = some 131 := by simp only [agMg h]
  have refuse : ∀ {v : Int}, f_X11_paste T A 1 a1 a2 a3 a4 a5 I = some (v, I) → f_X12_paste T A 129 a1 a2 a3 a4 a5 I = some (v, mu I 129 0 0) → ∃ v J K, f_X11_paste T A 1 a1 a2 a3 a4 a5 I = some (v, J) ∧ f_X12_paste T A 129 a1 a2 a3 a4 a5 J = some (v, K) ∧ SL K ∧ Fsl I K := fun {v} e1 e2 => ⟨v, I, _, e1, e2, sl_0 t, fsl_0 I⟩
  by_cases c : 0 ≤ a1 ∧ a1 ≤ 3
  · obtain ⟨s, rfl⟩ := Int.eq_ofNat_of_zero_le c.1
    have hs : s < 4 := by omega
    by_cases c' : 0 ≤ a3 ∧ a3 ≤ 3
    · obtain ⟨r, rfl⟩ := Int.eq_ofNat_of_zero_le c'.1
      have hr : r < 4 := by omega
      have l0 : ∀ {s : Nat}, s < 4 → ld T 20 130 (s : Int) (mu I 129 0 0) = some (I 130 s) := fun hs => by rw [l130 h hs, mu_o _ _ (by omega)]
      have l1 : ∀ {s : Nat}, s < 4 → ld T 20 131 (s : Int) (mu I 129 0 0) = some (I 131 s) := fun hs => by rw [l131 h hs, mu_o _ _ (by omega)]
      rcases t s hs with ⟨w1, w2⟩ | ⟨w1, w2, w3, w4, w5⟩
      · refine refuse (v := -6) ?_ ?_
        · unfold f_X11_paste
          simp only [kT_1 h, if_true, g11, some_bind, c_isSlot h, if_pos c, if_pos c', n10, if_false, c_hasRow h hs, if_pos w2, n00]
        · unfold f_X12_paste
          simp only [kT_129 h, if_true, pi', some_bind, m_isSlot, if_pos c, if_pos c', n10, if_false, m1, l0 hs, if_pos w1]
      · have nw2 : ¬ I 118 s = -1 := by omega
        have nw1 : ¬ I 130 s = -1 := by omega
        rcases t r hr with ⟨v1, v2⟩ | ⟨v1, v2, v3, v4, v5⟩
        · refine refuse (v := -6) ?_ ?_
          · unfold f_X11_paste
            simp only [kT_1 h, if_true, g11, some_bind, c_isSlot h, if_pos c, if_pos c', n10, if_false, c_hasRow h hs, c_hasRow h hr, if_neg nw2, if_pos v2, n00]
          · unfold f_X12_paste
            simp only [kT_129 h, if_true, pi', some_bind, m_isSlot, if_pos c, if_pos c', n10, if_false, m1, l0 hs, l0 hr, if_neg nw1, if_pos v1]
        · have nv2 : ¬ I 118 r = -1 := by omega
          have nv1 : ¬ I 130 r = -1 := by omega
          by_cases e : I 130 s = I 130 r
          · have rs := fun i n => c_reaches (I := I) h hs i n (m := I 131 s) (by rw [if_neg nw2, w4]) w3
            have rr := fun i n => c_reaches (I := I) h hr i n (m := I 131 r) (by rw [if_neg nv2, v4]) v3
            have e' : I 117 s = I 117 r := by rw [w2, v2, e]
            have hadd : ∀ a b : Int, cn a → cn b → 0 ≤ a → 0 ≤ b → ila a b = a + b := fun a b ha hb1 h1 h2 => by
              unfold cn at ha hb1
              exact wrapl_id ⟨by omega, by omega⟩
            by_cases d : (0 ≤ a2 ∧ 0 ≤ a5 ∧ a2 + a5 ≤ I 131 s) ∧ (0 ≤ a4 ∧ 0 ≤ a5 ∧ a4 + a5 ≤ I 131 r)
            · obtain ⟨d1, d2⟩ := d
              obtain ⟨i, rfl⟩ := Int.eq_ofNat_of_zero_le d1.1
              obtain ⟨k, rfl⟩ := Int.eq_ofNat_of_zero_le d2.1
              obtain ⟨n, rfl⟩ := Int.eq_ofNat_of_zero_le d1.2.1
              obtain ⟨J, eJ⟩ : ∃ J : Mem, J = fun x j => if x = 113 + r ∧ (k : Int).toNat ≤ j ∧ j < (k : Int).toNat + (n : Int).toNat then I (113 + s) ((i : Int).toNat + (j - (k : Int).toNat)) else I x j := ⟨_, rfl⟩
              simp only [Int.toNat_natCast] at eJ
              have agJ : ∀ o j, o ≠ 113 + r → J o j = I o j := fun o j ho => by rw [eJ]; exact if_neg (fun q => ho q.1)
              have ml := m_moves (I := mu J 129 0 0) h (a := 60 * s + i) (b := 60 * r + k) (n := n) (by omega) (by omega) (by omega) (x := fun z => ia (ia (im 60 (s : Int)) (i : Int)) z) (y := fun z => ia (ia (im 60 (r : Int)) (k : Int)) z) (fun z hz => by rw [im_eq (by omega) (by omega), ia_eq (a := 60 * (s : Int)) (by omega) (by omega), ia_eq (by omega) (by omega)]; omega) (fun z hz => by rw [im_eq (by omega) (by omega), ia_eq (a := 60 * (r : Int)) (by omega) (by omega), ia_eq (by omega) (by omega)]; omega)
              obtain ⟨⟨z0, K⟩, eK, k0, k1, k2⟩ := ml
              dsimp only at k0 k1 k2
              subst k0
              refine ⟨0, J, K, ?_, ?_, fun u hu => ?_, fun o j h1 h2 h3 h4 h5 h6 => by rw [k2 _ _ h6 (by omega), mu_o _ _ h2, agJ _ _ (by omega)]⟩
              · unfold f_X11_paste f_X7_copy
                simp only [kT_1 h, kT_111 h, if_true, g11, some_bind, c_isSlot h, if_pos c, if_pos c', n10, if_false, c_hasRow h hs, c_hasRow h hr, if_neg nw2, if_neg nv2, c_widthOf h hs, c_widthOf h hr, if_pos e', rs, rr, if_pos d1, if_pos d2, show gr T A 7 0 111 = some 112 by simp only [agSl h], r112 h hs, r112 h hr]
                unfold acp
                rw [kT_num h hs, kT_num h hr, if_pos (show (21, 60).1 = 21 ∧ (21, 60).1 = 21 ∧ 0 ≤ (i : Int) ∧ 0 ≤ (k : Int) ∧ 0 ≤ (n : Int) ∧ (i : Int) + n ≤ ((21, 60).2 : Nat) ∧ (k : Int) + n ≤ ((21, 60).2 : Nat) from ⟨rfl, rfl, by omega, by omega, by omega, by show (i : Int) + n ≤ 60; omega, by show (k : Int) + n ≤ 60; omega⟩), some_bind, some_bind, eJ]
                simp only [Int.toNat_natCast]
              · have j0 : ∀ {s : Nat}, s < 4 → ld T 20 130 (s : Int) (mu J 129 0 0) = some (I 130 s) := fun hs => by rw [l130 h hs, mu_o _ _ (by omega), agJ _ _ (by omega)]
                have j1 : ∀ {s : Nat}, s < 4 → ld T 20 131 (s : Int) (mu J 129 0 0) = some (I 131 s) := fun hs => by rw [l131 h hs, mu_o _ _ (by omega), agJ _ _ (by omega)]
                unfold f_X12_paste
                simp only [kT_129 h, if_true, pi', some_bind, m_isSlot, if_pos c, if_pos c', n10, if_false, m1, m2, j0 hs, j0 hr, j1 hs, j1 hr, if_neg nw1, if_neg nv1, if_pos e]
                rw [if_neg (by omega), if_neg (by omega), if_neg (by omega), hadd _ _ n2 n5 (by omega) (by omega), hadd _ _ n4 n5 (by omega) (by omega)]
                simp only [cmp_le, if_pos d1.2.2, if_pos d2.2.2]
                exact eK
              · have e1 : ∀ o j, (o = 130 ∨ o = 131 ∨ o = 117 ∨ o = 118) → K o j = I o j := fun o j ho => by rw [k2 _ _ (by omega) (by omega), mu_o _ _ (by omega), agJ _ _ (by omega)]
                rw [e1 _ _ (by omega), e1 _ _ (by omega), e1 _ _ (by omega), e1 _ _ (by omega)]
                rcases t u hu with v | ⟨x1, x2, x3, x4, x5⟩
                · exact Or.inl v
                · refine Or.inr ⟨x1, x2, x3, x4, fun q hq => ?_⟩
                  rw [k2 (113 + u) _ (by omega) (by omega), mu_o _ _ (by omega)]
                  by_cases z : u = r ∧ k ≤ q ∧ q < k + n
                  · obtain ⟨rfl, z1, z2⟩ := z
                    have g1 := k1 (q - k) (by omega)
                    rw [show 60 * u + k + (q - k) = 60 * u + q by omega, mu_o _ _ (by omega), agJ _ _ (by omega)] at g1
                    rw [g1, eJ]
                    dsimp only
                    rw [if_pos ⟨rfl, z1, z2⟩, show 60 * s + i + (q - k) = 60 * s + (i + (q - k)) by omega]
                    exact w5 _ (by omega)
                  · rw [k2 132 _ (by omega) (by omega), mu_o _ _ (by omega), agJ 132 _ (by omega), eJ]
                    dsimp only
                    rw [if_neg (by omega)]
                    exact x5 q hq
            · refine refuse (v := -7) ?_ ?_
              · unfold f_X11_paste
                simp only [kT_1 h, if_true, g11, some_bind, c_isSlot h, if_pos c, if_pos c', n10, if_false, c_hasRow h hs, c_hasRow h hr, if_neg nw2, if_neg nv2, c_widthOf h hs, c_widthOf h hr, if_pos e', rs, rr]
                by_cases d1 : 0 ≤ a2 ∧ 0 ≤ a5 ∧ a2 + a5 ≤ I 131 s
                · have d2 : ¬ (0 ≤ a4 ∧ 0 ≤ a5 ∧ a4 + a5 ≤ I 131 r) := fun q => d ⟨d1, q⟩
                  simp only [if_pos d1, if_neg d2, n10, n00, if_true, if_false]
                · simp only [if_neg d1, n00, if_true]
              · unfold f_X12_paste
                simp only [kT_129 h, if_true, pi', some_bind, m_isSlot, if_pos c, if_pos c', n10, if_false, m1, m2, l0 hs, l0 hr, l1 hs, l1 hr, if_neg nw1, if_neg nv1, if_pos e]
                by_cases z1 : a2 < 0
                · rw [if_pos z1]
                · rw [if_neg z1]
                  by_cases z2 : a4 < 0
                  · rw [if_pos z2]
                  · rw [if_neg z2]
                    by_cases z3 : a5 < 0
                    · rw [if_pos z3]
                    · rw [if_neg z3, hadd _ _ n2 n5 (by omega) (by omega), hadd _ _ n4 n5 (by omega) (by omega)]
                      simp only [cmp_le]
                      by_cases z4 : a2 + a5 ≤ I 131 s
                      · rw [if_pos z4, if_neg (by omega)]
                      · rw [if_neg z4]
          · have e' : ¬ I 117 s = I 117 r := by rw [w2, v2]; exact e
            refine refuse (v := -8) ?_ ?_
            · unfold f_X11_paste
              simp only [kT_1 h, if_true, g11, some_bind, c_isSlot h, if_pos c, if_pos c', n10, if_false, c_hasRow h hs, c_hasRow h hr, if_neg nw2, if_neg nv2, c_widthOf h hs, c_widthOf h hr, if_neg e']
            · unfold f_X12_paste
              simp only [kT_129 h, if_true, pi', some_bind, m_isSlot, if_pos c, if_pos c', n10, if_false, m1, l0 hs, l0 hr, if_neg nw1, if_neg nv1, if_neg e]
    · refine refuse (v := -2) ?_ ?_
      · unfold f_X11_paste
        simp only [kT_1 h, if_true, g11, some_bind, c_isSlot h, if_pos c, if_neg c', n10, n00, if_false]
      · unfold f_X12_paste
        simp only [kT_129 h, if_true, pi', some_bind, m_isSlot, if_pos c, if_neg c', n10, n00, if_false]
  · refine refuse (v := -2) ?_ ?_
    · unfold f_X11_paste
      simp only [kT_1 h, if_true, g11, some_bind, c_isSlot h, if_neg c, n00]
    · unfold f_X12_paste
      simp only [kT_129 h, if_true, pi', some_bind, m_isSlot, if_neg c, n00]
end
