/-! B: what drawUp leaves: walks and next open hours. -/
def TN (O : Ofc) (I : Mem) : Prop := ∀ o k : Nat, (o : Int) < O 0 4 → k < 400 → I (56 + o) k = fst_ (opn O o) (400 - k) k
theorem cw_real {x : Int} (h : x < 100000) : cw x = x := if_pos h
theorem cw_far {x : Int} (h : ¬ x < 100000) : cw x = -1 := if_neg h
section
variable {T : Knd} {A : Rfs} {O : Ofc} {I : Mem}
theorem kT_way (h : Ag T A) {x : Nat} (hx : x < 6) : T (41 + x) = (20, 6) := h.1 (41 + x, 20, 6) ((by decide +kernel : ∀ w, w < 6 → (41 + w, 20, 6) ∈ agK) x hx)
theorem kT_next (h : Ag T A) {x : Nat} (hx : x < 8) : T (56 + x) = (20, 400) := h.1 (56 + x, 20, 400) ((by decide +kernel : ∀ w, w < 8 → (56 + w, 20, 400) ∈ agK) x hx)
theorem c_nr (h : Ag T A) {x : Nat} (hx : x < 8) : lr T A 24 55 (x : Int) = some (56 + x) := by
  simp only [agTt h]
  rw [if_pos (by omega), Int.toNat_natCast]
theorem c_yr (h : Ag T A) {x : Nat} (hx : x < 6) : lr T A 24 40 (x : Int) = some (41 + x) := by
  simp only [agPl h]
  rw [if_pos (by omega), Int.toNat_natCast]
theorem c_yl (h : Ag T A) {J : Mem} (hc : CV O 26 J) {x y : Nat} (hx : x < 6) (hy : y < 6) : ld T 20 (41 + x) (y : Int) J = some (O (15 + x) y) := by
  rw [ev_ld (kT_way h hx), if_pos (by omega), Int.toNat_natCast]
  have := hc.2.2.2 x y hx hy
  rw [show 26 + 15 + x = 41 + x by omega] at this
  rw [this]
theorem c_layWays (h : Ag T A) (w : WF O) (hc : CV O 26 I) : OK (f_X9_layWays T A 47 26 I) (fun J => Fo 49 54 I J ∧ ∀ x y : Nat, (x : Int) < O 0 1 → (y : Int) < O 0 1 → J (49 + x) y = cw (d0 O x y)) := by
  have hR := w.2.1
  have hw := w.2.2.2.2.2.2.2.2.2
  obtain ⟨R, eR⟩ := Int.eq_ofNat_of_zero_le hR.1
  have g1 : gr T A 9 0 47 = some 48 := by simp only [agTt h]
  have g2 : gr T A 2 9 26 = some 40 := by simp only [agPl h]
  have g3 : ∀ J : Mem, gi T 2 1 26 J = some (J 26 1) := fun J => by simp only [agPl h]
  unfold f_X9_layWays
  rw [if_pos (by rw [kT_47 h])]
  refine it_run (fun i (s : Int × Mem) => s.1 = (i : Int) ∧ Fo 49 54 I s.2 ∧ ∀ x y : Nat, x < i → y < R → s.2 (49 + x) y = cw (d0 O x y)) R ?_ ?_ 0 FU (0, I) (by omega) (by unfold FU; omega) ⟨rfl, fo_r _ _ _, fun x y hx => absurd hx (by omega)⟩
  · rintro i ⟨si, J⟩ hi ⟨rfl, hF, hD⟩
    dsimp only at hF hD ⊢
    have hcJ := cv_fo hc hF (by decide)
    rw [g3, some_bind, cv_rooms hcJ, if_pos (by omega)]
    refine ok_tn (ok_m (P := fun z => match z with | .inl v => Fo 49 54 I v ∧ (∀ x y : Nat, x < i → y < R → v (49 + x) y = cw (d0 O x y)) ∧ ∀ y, y < R → v (49 + i) y = if 0 < O (15 + i) y then O (15 + i) y else -1 | .inr _ => False) ?_ ?_)
    · refine it_run (fun j (s : Int × Mem) => s.1 = (j : Int) ∧ Fo 49 54 I s.2 ∧ (∀ x y : Nat, x < i → y < R → s.2 (49 + x) y = cw (d0 O x y)) ∧ ∀ y, y < j → s.2 (49 + i) y = if 0 < O (15 + i) y then O (15 + i) y else -1) R ?_ ?_ 0 FU (0, J) (by omega) (by unfold FU; omega) ⟨rfl, hF, hD, fun y hy => absurd hy (by omega)⟩
      · rintro j ⟨sj, K⟩ hj ⟨rfl, gF, gD, gE⟩
        dsimp only at gF gD gE ⊢
        have hcK := cv_fo hc gF (by decide)
        rw [g3, some_bind, cv_rooms hcK, if_pos (by omega), g1, g2]
        simp only [some_bind, c_wr h (by omega : i < 6), c_yr h (by omega : i < 6), c_yl h hcK (by omega : i < 6) (by omega : j < 6)]
        refine ok_tn (ok_e (v := .inl (if 0 < O (15 + i) j then O (15 + i) j else -1)) ?_ ?_)
        · by_cases q : 0 < O (15 + i) j
          · rw [if_neg (by omega), if_pos q]
          · rw [if_pos (by omega), if_neg q]
        · show OK _ _
          dsimp only
          rw [c_ws h K _ (by omega : i < 6) (by omega : j < 6), some_bind, ia_1 (by omega)]
          refine ok_i ⟨rfl, fo_mu gF (by omega) (by omega), fun x y hx hy => ?_, fun y hy => ?_⟩
          · try dsimp only
            rw [mu_o K _ (by omega)]; exact gD x y hx hy
          · by_cases q : y = j
            · subst q; exact mu_s K _ _ _
            · try dsimp only
              rw [mu_o K _ (by omega)]; exact gE y (by omega)
      · rintro ⟨sj, K⟩ ⟨rfl, gF, gD, gE⟩
        dsimp only at gF gD gE ⊢
        have hcK := cv_fo hc gF (by decide)
        rw [g3, some_bind, cv_rooms hcK, if_neg (by omega)]
        exact ok_i ⟨gF, gD, gE⟩
    · rintro (K | x) hz
      · obtain ⟨gF, gD, gE⟩ := hz
        show OK _ _
        dsimp only
        rw [g1, some_bind, c_wr h (by omega : i < 6), some_bind, c_ws h K _ (by omega : i < 6) (by omega : i < 6), some_bind, ia_1 (by omega)]
        refine ok_i ⟨rfl, fo_mu gF (by omega) (by omega), fun x y hx hy => ?_⟩
        dsimp only
        by_cases q : x = i ∧ y = i
        · obtain ⟨rfl, rfl⟩ := q
          rw [mu_s]
          unfold d0
          rw [if_pos rfl]
          rfl
        · try dsimp only
          rw [mu_o K _ (by omega)]
          by_cases r : x = i
          · subst r
            rw [gE y hy]
            have := hw x y (by omega) (by omega)
            unfold d0
            rw [if_neg (show ¬ x = y by omega)]
            by_cases s : 0 < O (15 + x) y
            · rw [if_pos s, if_pos s, cw_real (by omega)]
            · rw [if_neg s, if_neg s]; rfl
          · exact gD x y (by omega) hy
      · exact hz.elim
  · rintro ⟨si, J⟩ ⟨rfl, hF, hD⟩
    dsimp only at hF hD ⊢
    have hcJ := cv_fo hc hF (by decide)
    rw [g3, some_bind, cv_rooms hcJ, if_neg (by omega)]
    exact ok_i ⟨hF, fun x y hx hy => hD x y (by omega) (by omega)⟩
theorem c_short (h : Ag T A) (w : WF O) {J : Mem} {a b c R : Nat} (eR : O 0 1 = (R : Int)) (ha : a < R) (hb : b < R) (hc : c < R) (hD : ∀ x y : Nat, x < R → y < R → J (49 + x) y = if x < a ∨ x = a ∧ y < b then cw (fwk O (c + 1) x y) else cw (fwk O c x y)) : OK (f_X9_shorten T A 47 (a : Int) (c : Int) (b : Int) J) (fun K => Fo 49 54 J K ∧ ∀ x y : Nat, x < R → y < R → K (49 + x) y = if x < a ∨ x = a ∧ y < b + 1 then cw (fwk O (c + 1) x y) else cw (fwk O c x y)) := by
  have hR := w.2.1
  have g1 : gr T A 9 0 47 = some 48 := by simp only [agTt h]
  have ha6 : a < 6 := by omega
  have hb6 : b < 6 := by omega
  have hc6 : c < 6 := by omega
  have e1 : J (49 + a) c = cw (fwk O c a c) := by
    rw [hD a c ha hc]
    split
    · rw [fw_col w hc6 ha6]
    · rfl
  have e2 : J (49 + c) b = cw (fwk O c c b) := by
    rw [hD c b hc hb]
    split
    · rw [fw_row w hc6 hb6]
    · rfl
  have e3 : J (49 + a) b = cw (fwk O c a b) := by rw [hD a b ha hb, if_neg (by omega)]
  have n1 := fwk_in w c (by omega) a c ha6 hc6
  have n2 := fwk_in w c (by omega) c b hc6 hb6
  have n3 := fwk_in w c (by omega) a b ha6 hb6
  have e4 : fwk O (c + 1) a b = ps (fwk O c) c a b := rfl
  have hbd : 2 * bnd c < 100000 := (by decide : ∀ k, k < 6 → 2 * bnd k < 100000) c hc6
  unfold ps at e4
  have stay : fwk O (c + 1) a b = fwk O c a b → Fo 49 54 J J ∧ ∀ x y : Nat, x < R → y < R → J (49 + x) y = if x < a ∨ x = a ∧ y < b + 1 then cw (fwk O (c + 1) x y) else cw (fwk O c x y) := by
    intro e5
    refine ⟨fo_r _ _ _, fun x y hx hy => ?_⟩
    rw [hD x y hx hy]
    by_cases r : x = a ∧ y = b
    · obtain ⟨rfl, rfl⟩ := r
      rw [if_neg (by omega), if_pos (by omega), e5]
    · by_cases r2 : x < a ∨ x = a ∧ y < b
      · rw [if_pos r2, if_pos (by omega)]
      · rw [if_neg r2, if_neg (by omega)]
  have put : cw (fwk O (c + 1) a b) = fwk O c a c + fwk O c c b → Fo 49 54 J (mu J (49 + a) b (fwk O c a c + fwk O c c b)) ∧ ∀ x y : Nat, x < R → y < R → mu J (49 + a) b (fwk O c a c + fwk O c c b) (49 + x) y = if x < a ∨ x = a ∧ y < b + 1 then cw (fwk O (c + 1) x y) else cw (fwk O c x y) := by
    intro e5
    refine ⟨fo_mu (fo_r _ _ _) (by omega) (by omega), fun x y hx hy => ?_⟩
    by_cases r : x = a ∧ y = b
    · obtain ⟨rfl, rfl⟩ := r
      rw [mu_s, if_pos (by omega), e5]
    · try dsimp only
      rw [mu_o J _ (by omega), hD x y hx hy]
      by_cases r2 : x < a ∨ x = a ∧ y < b
      · rw [if_pos r2, if_pos (by omega)]
      · rw [if_neg r2, if_neg (by omega)]
  unfold f_X9_shorten
  rw [if_pos (by rw [kT_47 h]), g1]
  simp only [some_bind, c_wr h ha6, c_wr h hc6, c_wl h J ha6 hc6, c_wl h J hc6 hb6, c_wl h J ha6 hb6]
  rw [e1, e2, e3]
  by_cases q1 : fwk O c a c < 100000
  · rw [cw_real q1, if_neg (by omega)]
    by_cases q2 : fwk O c c b < 100000
    · rw [cw_real q2, if_neg (by omega)]
      have b1 := n1.2.2.1 q1
      have b2 := n2.2.2.1 q2
      rw [ia_eq (by omega) (by omega)]
      by_cases q3 : fwk O c a b < 100000
      · rw [cw_real q3, if_neg (by omega)]
        by_cases q4 : fwk O c a b ≤ fwk O c a c + fwk O c c b
        · rw [if_pos q4, thn_r]
          exact ok_i (stay (by rw [e4, if_neg (by omega)]))
        · rw [if_neg q4, thn_l, c_ws h J _ ha6 hb6, some_bind]
          refine ok_i (put ?_)
          rw [e4, if_pos (by omega), cw_real (by omega)]
      · rw [cw_far q3, if_pos rfl, thn_l, c_ws h J _ ha6 hb6, some_bind]
        refine ok_i (put ?_)
        rw [e4, if_pos (by omega), cw_real (by omega)]
    · rw [cw_far q2, if_pos rfl]
      exact ok_i (stay (by rw [e4, if_neg (by omega)]))
  · rw [cw_far q1, if_pos rfl]
    exact ok_i (stay (by rw [e4, if_neg (by omega)]))
theorem c_shortens (h : Ag T A) (w : WF O) {R : Nat} (eR : O 0 1 = (R : Int)) (hD0 : ∀ x y : Nat, x < R → y < R → I (49 + x) y = cw (d0 O x y)) : OK (f_X9_shortenWalks T A 47 (R : Int) I) (fun J => Fo 49 54 I J ∧ ∀ x y : Nat, x < R → y < R → J (49 + x) y = cw (fw O x y)) := by
  have hR := w.2.1
  unfold f_X9_shortenWalks
  rw [if_pos (by rw [kT_47 h])]
  refine it_run (fun c (s : Int × Mem) => s.1 = (c : Int) ∧ Fo 49 54 I s.2 ∧ ∀ x y : Nat, x < R → y < R → s.2 (49 + x) y = cw (fwk O c x y)) R ?_ ?_ 0 FU (0, I) (by omega) (by unfold FU; omega) ⟨rfl, fo_r _ _ _, hD0⟩
  · rintro c ⟨sc, J⟩ hc ⟨rfl, hF, hD⟩
    dsimp only at hF hD ⊢
    rw [if_pos (by omega)]
    refine it_run (fun a (s : Int × Mem) => s.1 = (a : Int) ∧ Fo 49 54 I s.2 ∧ ∀ x y : Nat, x < R → y < R → s.2 (49 + x) y = if x < a then cw (fwk O (c + 1) x y) else cw (fwk O c x y)) R ?_ ?_ 0 FU (0, J) (by omega) (by unfold FU; omega) ⟨rfl, hF, fun x y hx hy => by (try dsimp only); rw [if_neg (by omega)]; exact hD x y hx hy⟩
    · rintro a ⟨sa, K⟩ ha ⟨rfl, gF, gD⟩
      dsimp only at gF gD ⊢
      rw [if_pos (by omega)]
      refine it_run (fun b (s : Int × Mem) => s.1 = (b : Int) ∧ Fo 49 54 I s.2 ∧ ∀ x y : Nat, x < R → y < R → s.2 (49 + x) y = if x < a ∨ x = a ∧ y < b then cw (fwk O (c + 1) x y) else cw (fwk O c x y)) R ?_ ?_ 0 FU (0, K) (by omega) (by unfold FU; omega) ⟨rfl, gF, fun x y hx hy => by (try dsimp only); rw [gD x y hx hy]; by_cases q : x < a; rw [if_pos q, if_pos (Or.inl q)]; rw [if_neg q, if_neg (by omega)]⟩
      · rintro b ⟨sb, L⟩ hb ⟨rfl, lF, lD⟩
        dsimp only at lF lD ⊢
        rw [if_pos (by omega)]
        refine ok_b (ok_m (c_short h w eR ha hb hc lD) (fun M hM => ?_))
        rw [ia_1 (by omega)]
        exact ok_i ⟨rfl, fo_t lF hM.1, hM.2⟩
      · rintro ⟨sb, L⟩ ⟨rfl, lF, lD⟩
        dsimp only at lF lD ⊢
        rw [if_neg (by omega), ia_1 (by omega)]
        refine ok_i ⟨rfl, lF, fun x y hx hy => ?_⟩
        dsimp only
        rw [lD x y hx hy]
        by_cases r2 : x < a + 1
        · rw [if_pos (by omega), if_pos r2]
        · rw [if_neg (by omega), if_neg r2]
    · rintro ⟨sa, K⟩ ⟨rfl, gF, gD⟩
      dsimp only at gF gD ⊢
      rw [if_neg (by omega), ia_1 (by omega)]
      refine ok_i ⟨rfl, gF, fun x y hx hy => ?_⟩
      dsimp only
      rw [gD x y hx hy, if_pos hx]
  · rintro ⟨sc, J⟩ ⟨rfl, hF, hD⟩
    dsimp only at hF hD ⊢
    rw [if_neg (by omega)]
    refine ok_i ⟨hF, fun x y hx hy => ?_⟩
    rw [hD x y hx hy]
    exact congrArg cw (fw_upto w eR hx hy 6 (by omega) (by decide)).symm
theorem c_drawUp (h : Ag T A) (w : WF O) (hc : CV O 26 I) : OK (f_X9_drawUp T A 47 26 I) (fun J => Fo 49 63 I J ∧ TW O J ∧ TN O J) := by
  have hR := w.2.1
  have hn := wf_n w
  obtain ⟨R, eR⟩ := Int.eq_ofNat_of_zero_le hR.1
  obtain ⟨n, en⟩ := Int.eq_ofNat_of_zero_le hn.1
  have g2 : ∀ J : Mem, gi T 2 1 26 J = some (J 26 1) := fun J => by simp only [agPl h]
  have g4 : ∀ J : Mem, gi T 2 4 26 J = some (J 26 4) := fun J => by simp only [agPl h]
  have g5 : gr T A 9 1 47 = some 55 := by simp only [agTt h]
  unfold f_X9_drawUp
  rw [if_pos (by rw [kT_47 h])]
  refine ok_b (ok_m (c_layWays h w hc) (fun J hJ => ?_))
  rw [g2, some_bind, cv_rooms (cv_fo hc hJ.1 (by decide)), eR]
  refine ok_b (ok_m (c_shortens h w eR (fun x y hx hy => hJ.2 x y (by omega) (by omega))) (fun K hK => ?_))
  have hF1 : Fo 49 63 I K := fo_w (fo_t hJ.1 hK.1) (by decide) (by decide)
  refine it_run (fun i (s : Int × Mem) => s.1 = (i : Int) ∧ Fo 49 63 I s.2 ∧ Fo 56 63 K s.2 ∧ ∀ o k : Nat, o < i → k < 400 → s.2 (56 + o) k = fst_ (opn O o) (400 - k) k) n ?_ ?_ 0 FU (0, K) (by omega) (by unfold FU; omega) ⟨rfl, hF1, fo_r _ _ _, fun x y hx => absurd hx (by omega)⟩
  · rintro i ⟨si, L⟩ hi ⟨rfl, lF, lK, lN⟩
    dsimp only at lF lK lN ⊢
    have hcL := cv_fo hc lF (by decide)
    rw [g4, some_bind, cv_n hcL, if_pos (by omega)]
    refine it_run (fun j (s : Int × Int × Mem) => s.1 = fst_ (opn O i) j (400 - j) ∧ s.2.1 = 399 - (j : Int) ∧ Fo 49 63 I s.2.2 ∧ Fo 56 63 K s.2.2 ∧ (∀ o k : Nat, o < i → k < 400 → s.2.2 (56 + o) k = fst_ (opn O o) (400 - k) k) ∧ ∀ k : Nat, 400 ≤ k + j → k < 400 → s.2.2 (56 + i) k = fst_ (opn O i) (400 - k) k) 400 ?_ ?_ 0 FU (-1, 399, L) (by omega) (by unfold FU; omega) ⟨rfl, rfl, lF, lK, lN, fun k h1 h2 => absurd h1 (by omega)⟩
    · rintro j ⟨sf, sh, M⟩ hj ⟨rfl, rfl, mF, mK, mN, mE⟩
      dsimp only at mF mK mN mE ⊢
      have hcM := cv_fo hc mF (by decide)
      obtain ⟨q, hq⟩ : ∃ q : Nat, q = 399 - j := ⟨_, rfl⟩
      have eq : (399 - (j : Int)) = (q : Int) := by omega
      rw [eq, if_neg (by omega), c_open h w hcM (by omega) (by omega : q < 400), some_bind]
      refine ok_tn (ok_e (v := .inl (fst_ (opn O i) (j + 1) q)) ?_ ?_)
      · rw [fst_]
        rw [show q + 1 = 400 - j by omega]
        cases opn O i q <;> rfl
      · show OK _ _
        dsimp only
        rw [g5, some_bind, c_nr h (by omega : i < 8), some_bind, ev_sto (kT_next h (by omega : i < 8)), if_pos (by omega), some_bind, Int.toNat_natCast, ia_eq (by omega) (by omega)]
        refine ok_i ⟨?_, by (try dsimp only); omega, fo_mu mF (by omega) (by omega), fo_mu mK (by omega) (by omega), fun o k ho hk => ?_, fun k h1 h2 => ?_⟩
        · dsimp only
          rw [show 400 - (j + 1) = q by omega]
        · dsimp only
          rw [mu_o M _ (by omega)]; exact mN o k ho hk
        · dsimp only
          by_cases c : k = q
          · subst c
            rw [mu_s, show 400 - k = j + 1 by omega]
          · try dsimp only
            rw [mu_o M _ (by omega)]; exact mE k (by omega) h2
    · rintro ⟨sf, sh, M⟩ ⟨rfl, rfl, mF, mK, mN, mE⟩
      dsimp only at mF mK mN mE ⊢
      rw [if_pos (by omega), ia_1 (by omega)]
      refine ok_i ⟨rfl, mF, mK, fun o k ho hk => ?_⟩
      dsimp only
      by_cases c : o = i
      · subst c; exact mE k (by omega) hk
      · exact mN o k (by omega) hk
  · rintro ⟨si, L⟩ ⟨rfl, lF, lK, lN⟩
    dsimp only at lF lK lN ⊢
    have hcL := cv_fo hc lF (by decide)
    rw [g4, some_bind, cv_n hcL, if_neg (by omega)]
    refine ok_i ⟨lF, fun r c hr hcc => ?_, fun o k ho hk => lN o k (by omega) hk⟩
    rw [lK _ _ (by omega)]
    exact hK.2 r c (by omega) (by omega)
theorem c_firstOpen (h : Ag T A) (w : WF O) (ht : TN O I) {o : Nat} (ho : (o : Int) < O 0 4) (k : Nat) : f_X9_firstOpen T A 47 (o : Int) (k : Int) I = some (fst_ (opn O o) (400 - k) k) := by
  have hn := wf_n w
  unfold f_X9_firstOpen
  rw [if_pos (by rw [kT_47 h]), if_neg (by omega), if_pos (by omega), if_neg (by omega)]
  by_cases c : k < 400
  · rw [if_pos (by omega), show gr T A 9 1 47 = some 55 by simp only [agTt h], some_bind, c_nr h (by omega), some_bind, ev_ld (kT_next h (by omega)), if_pos (by omega), some_bind, Int.toNat_natCast, ht o k ho c]
  · rw [if_neg (by omega), show 400 - k = 0 by omega]; rfl
theorem q_opens (h : Ag T A) (w : WF O) (hc : CV O 26 I) (hm : MW O 0 I) (ht : TN O I) (a1 a2 : Int) : Quiet (f_X11_opens T A 1 a1 a2 I) (f_X12_opens T A 129 a1 a2 I) I := by
  have hm0 := mw_fr hm (fr_0 I)
  unfold f_X11_opens f_X12_opens
  simp only [agX h, agM h, if_true, some_bind, c_has h w hc, m_isOfficial h w hm0, f_isHour, m_isHour]
  by_cases c : 0 ≤ a1 ∧ a1 < O 0 4
  · obtain ⟨o, rfl⟩ := Int.eq_ofNat_of_zero_le c.1
    by_cases d : 0 ≤ a2 ∧ a2 ≤ 399
    · obtain ⟨k, rfl⟩ := Int.eq_ofNat_of_zero_le d.1
      have hk : k < 400 := by omega
      simp only [if_pos c, if_pos d, n10, if_false, c_firstOpen h w ht c.2, some_bind]
      refine ⟨_, mu I 129 0 0, rfl, ?_, fr_0 I⟩
      refine it_fst (opn O o) (fun r => (r, mu I 129 0 0)) (fun j hj => ?_) (fun j hj => ?_) (400 - k) k FU rfl (by unfold FU; omega)
      · try dsimp only
        rw [if_pos (by omega), m_open h w hm0 c.2 hj, some_bind, ia_1 (by omega)]
        cases opn O o j <;> rfl
      · try dsimp only
        rw [if_neg (by omega)]
    · simp only [if_pos c, if_neg d, n10, n00, if_false, if_true]
      exact ⟨-2, _, rfl, rfl, fr_0 I⟩
  · simp only [if_neg c, n00, if_true]
    exact ⟨-2, _, rfl, rfl, fr_0 I⟩
end
