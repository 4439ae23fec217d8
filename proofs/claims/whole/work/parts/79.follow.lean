/-! B: the class's rows, all of them. -/
def Sim (al : Int) (V L : List Lf) : Prop := (al ≠ 0 → V = L) ∧ bl (key 0) V = bl (key 0) L ∧ V.length ≤ L.length
theorem sim_snoc {al : Int} {V L : List Lf} (s : Sim al V L) (l : Lf) : Sim al (V ++ [l]) (L ++ [l]) := ⟨fun h => by rw [s.1 h], by rw [bl_snoc, bl_snoc, s.2.1], by rw [List.length_append, List.length_append]; have := s.2.2; omega⟩
theorem scn_ext {p q : Nat → Bool} : ∀ {n : Nat}, (∀ i, i < n → p i = q i) → scn p n = scn q n := by
  intro n
  induction n with
  | zero => intro _; rfl
  | succ n ih => intro h; rw [scn, scn, h n (by omega), ih (fun i hi => h i (by omega))]
def FcR (R : Nat) (I J : Mem) : Prop := ∀ o j, ¬ (R ≤ o ∧ o ≤ R + 10 ∧ ¬ (o = R ∧ j < 9)) → J o j = I o j
section
variable {T : Knd} {A : Rfs} {O : Ofc} {I : Mem} {W : Wkr} {p : Nat → Int} {n : Nat} {u : Int} {R : Nat} {h0 al : Int} {V L : List Lf}
def msg (O : Ofc) (W : Wkr) : Int := iand (O 0 5) (ixor (hset O W (W 0).toNat) (-1))
theorem msg_hb (wf : WF O) (s : WS O W) (i : Nat) : hb (msg O W) i = (hb (O 0 5) i && decide (W (4 + i) < W 0)) := by
  have hn := wf_n wf
  have s0 := s.1
  have hp : sl (O 0 4).toNat (O 0 5) := wf.2.2.2.2.2.1
  unfold msg hset
  rw [hb_an, hb_sor _ _ (by omega)]
  cases c : hb (O 0 5) i
  · rfl
  · have hi := hb_at hp c
    rw [decide_eq_true hi, Bool.true_and, Bool.true_and, Bool.true_and]
    by_cases d : W (4 + i) < W 0
    · rw [decide_eq_true d, decide_eq_false (by omega)]; rfl
    · rw [decide_eq_false d, decide_eq_true (by omega)]; rfl
theorem msg_sl (wf : WF O) : sl 8 (msg O W) := by
  have hn := wf_n wf
  have hp : sl (O 0 4).toNat (O 0 5) := wf.2.2.2.2.2.1
  unfold msg
  exact ⟨cn_iand _ _, fun i hi => by rw [hb_an, hp.2 i (by omega)]; rfl⟩
theorem msg_cnt (wf : WF O) (s : WS O W) (J : Mem) : f_J6_bitCount_0f7a4 T A (msg O W) J = some (mis O W) := by
  have hr := sl_8.mp (msg_sl (W := W) wf)
  obtain ⟨x, ex⟩ := Int.eq_ofNat_of_zero_le hr.1
  rw [ex, f_bitCount (by omega), ← ex]
  unfold mis
  rw [scn_ext (fun i _ => msg_hb wf s i)]
theorem msg_dn : dn O W = decide (msg O W = 0) := rfl
theorem c_hopeless (h : Ag T A) (k : Rk T A R) (wf : WF O) (hc : CV O 26 I) (w : CW W (R + 1) I) (nd : Nd O W n u) (hu : I R 9 = u) (ha : I R 7 = al) (rc : RC R h0 V I) : OK (f_X5_isHopeless T A R (msg O W) (n : Int) I) (fun r => r = 0 ∨ (r = 1 ∧ ((∀ f p, lv O f W p n u = []) ∨ (al = 0 ∧ ∃ m, bl (key 0) V = some m ∧ ¬ (W 0 + mis O W < key 0 m ∨ (W 0 + mis O W = key 0 m ∧ (n : Int) + mis O W < (m.2.2.1 : Int))))))) := by
  have hn := nd_n nd
  have hn8 := wf_n wf
  have s0 := nd.1.1
  have hp : sl (O 0 4).toNat (O 0 5) := wf.2.2.2.2.2.1
  have hm := scn_rg (fun i => hb (O 0 5) i && decide (W (4 + i) < W 0)) 8
  obtain ⟨k0, k1, k2, k3, k4, k5, k6, k7, k8, k9, k10⟩ := rk_ev k
  have wk := k.2.2.2.2.2.2.2.2
  have wg := (wk_ev wk).2.2.2.2.1
  unfold f_X5_isHopeless
  rw [if_pos k0, k7, some_bind, hu]
  by_cases c : iand (msg O W) u = 0
  · rw [if_pos c]
    refine ok_tn (ok_m (P := fun z => match z with | .inl _ => True | .inr r => r = 1 ∧ ∀ f p, lv O f W p n u = []) ?_ ?_)
    · refine it_run (fun i (s : Int) => s = (i : Int)) 8 ?_ ?_ 0 FU 0 (by decide) (by decide) rfl
      · rintro i si hi rfl
        rw [if_pos (by omega), f_hasBit (by omega), some_bind, ia_1 (by omega), msg_hb wf nd.1]
        by_cases d : (hb (O 0 5) i && decide (W (4 + i) < W 0)) = true
        · rw [if_pos d, if_neg (by decide), k1, some_bind, some_bind, wg, some_bind, w.1.1]
          rw [Bool.and_eq_true, decide_eq_true_iff] at d
          have hi4 := hb_at hp d.1
          refine ok_b (ok_m (c_unbarred h wk wf hc w nd.1 (by omega) (W 0)) (fun r hr => ?_))
          by_cases e : r < 400
          · rw [if_pos e]; exact ok_i rfl
          · rw [if_neg e]
            refine ok_i ⟨rfl, fun f p => dead2 wf nd d.1 d.2 ?_⟩
            by_cases q : 400 ≤ W 0
            · exact Or.inl q
            · right
              have hne : ¬ r ≤ 399 := by omega
              rw [hr] at hne
              by_cases ex : ∃ j, hb (O 13 i) j = true ∧ 399 ≤ W (4 + j)
              · exact ex
              · exfalso
                apply hne
                refine ⟨by omega, fun j hj => ?_⟩
                have h1 : ¬ 399 ≤ W (4 + j) := fun g => ex ⟨j, hj, g⟩
                have := ev_ge (x := W (4 + j)) (h := 399) (by omega)
                omega
        · rw [if_neg d, if_pos rfl]; exact ok_i rfl
      · rintro si rfl
        rw [if_neg (by decide)]
        exact ok_i trivial
    · rintro (z | r) hz
      · show OK _ _
        dsimp only
        rw [k7, some_bind, ha]
        by_cases d : al = 0
        · rw [if_pos d, k7, some_bind, rc.1]
          by_cases e : ((V.length : Nat) : Int) = 0
          · rw [if_pos e]; exact ok_i (Or.inl rfl)
          · rw [if_neg e, msg_cnt wf nd.1, some_bind, k1, some_bind, wg, some_bind, w.1.1]
            have hV : V ≠ [] := fun q => by rw [q] at e; exact e rfl
            have hm' : 0 ≤ mis O W ∧ mis O W ≤ 8 := hm
            obtain ⟨mn, emn⟩ := Int.eq_ofNat_of_zero_le hm'.1
            rw [ia_eq (by omega) (by omega), ia_eq (by omega) (by omega), emn, show (n : Int) + (mn : Int) = ((n + mn : Nat) : Int) by omega]
            have b0 := c_better (n := n + mn) k (a := 0) (by decide) rc.1 (rc.2.1 0 (by decide)) (W 0 + (mn : Int))
            rw [show (((0 : Nat) : Int)) = 0 from rfl] at b0
            rw [b0, some_bind]
            cases hbl : bl (key 0) V with
            | none => exact absurd ((bl_nil _ _).mp hbl) hV
            | some m =>
              have hz := bez_some (key := key (kk 0)) (n := n + mn) (v := W 0 + (mn : Int)) hbl
              rw [hz]
              by_cases g : (decide (W 0 + (mn : Int) < key (kk 0) m) || (decide (W 0 + (mn : Int) = key (kk 0) m) && decide (n + mn < m.2.2.1))) = true
              · rw [if_pos g, if_neg (by decide)]; exact ok_i (Or.inl rfl)
              · rw [if_neg g, if_pos rfl]
                refine ok_i (Or.inr ⟨rfl, Or.inr ⟨d, m, rfl, fun q => g ?_⟩⟩)
                rw [Bool.or_eq_true, Bool.and_eq_true, decide_eq_true_iff, decide_eq_true_iff, decide_eq_true_iff]
                rcases q with q | q
                · exact Or.inl q
                · exact Or.inr ⟨q.1, by have := q.2; omega⟩
        · rw [if_neg d]; exact ok_i (Or.inl rfl)
      · exact Or.inr (And.intro hz.1 (Or.inl hz.2))
  · rw [if_neg c]
    refine ok_i (Or.inr ⟨rfl, Or.inl (fun f p => ?_)⟩)
    rw [and_0] at c
    by_cases ex : ∃ i, hb (msg O W) i = true ∧ hb u i = true
    · obtain ⟨i, i1, i2⟩ := ex
      rw [msg_hb wf nd.1, Bool.and_eq_true, decide_eq_true_iff] at i1
      exact dead1 wf nd i1.1 i2 i1.2
    · exfalso
      apply c
      intro i hi
      cases e : hb u i
      · rfl
      · exact absurd ⟨i, hi, e⟩ ex
theorem c_follow (h : Ag T A) (k : Rk T A R) (hR : 65 < R) (wf : WF O) : ∀ f W p n u V L I, 9 ≤ f + n → Nd O W n u → CV O 26 I → TW O I → TN O I → CW W (R + 1) I → I R 7 = al → I R 8 = h0 → I R 9 = u → (∀ t, t < n → I (R + 3) t = p t) → RC R h0 V I → Sim al V L → L.length + 8 ^ (8 - n) ≤ 1000000000 → OK (f_X5_follow f T A R (n : Int) I) (fun J => ∃ V', RC R h0 V' J ∧ Sim al V' (L ++ lv O f W p n u) ∧ CW W (R + 1) J ∧ J R 9 = u ∧ (∀ t, t < n → J (R + 3) t = p t) ∧ FcR R I J) := by
  intro f
  induction f with
  | zero => intro W p n u V L I hf nd; have := nd_n nd; omega
  | succ f ih =>
    intro W p n u V L I hf nd hc ht hnx w ha hh hu hrow rc sm hL
    obtain ⟨hn8, en⟩ := on_le wf
    have hn := nd_n nd
    obtain ⟨k0, k1, k2, k3, k4, k5, k6, k7, k8, k9, k10⟩ := rk_ev k
    have wk := k.2.2.2.2.2.2.2.2
    obtain ⟨x0, x1, x2, x3, x4, x5, x6, x7⟩ := wk_ev wk
    rw [f_X5_follow, k1, some_bind, c_missing h wk wf hc w nd.1, some_bind]
    have hms : iand (O 0 5) (ixor (hset O W (W 0).toNat) (-1)) = msg O W := rfl
    rw [hms]
    by_cases d : msg O W = 0
    · have d1 : dn O W = true := by rw [msg_dn]; exact decide_eq_true d
      rw [if_pos d, lv_s, if_pos d1]
      have hVl : V.length < 2000000000 := by
        have := sm.2.2
        have := Nat.le_add_right L.length (8 ^ (8 - n))
        omega
      refine ok_b (ok_m (c_take (p := p) k w nd hh hu hrow rc hVl) (fun J hJ => ?_))
      exact ok_i ⟨V ++ [(W, p, n, u)], hJ.1, sim_snoc sm _, cw_ag w (fun o j ho => hJ.2 o j (by omega) (by omega) (by omega) (by omega)), by rw [hJ.2 _ _ (by omega) (by omega) (by omega) (by omega)]; exact hu, fun t ht' => by rw [hJ.2 _ _ (by omega) (by omega) (by omega) (by omega)]; exact hrow t ht', fun o j hoj => hJ.2 o j (by omega) (by omega) (by omega) (by omega)⟩
    · have d1 : dn O W = false := by rw [msg_dn]; exact decide_eq_false d
      have elv : lv O (f + 1) W p n u = (List.range (oN O)).flatMap (chl O f W p n u) := by rw [lv_s, d1, if_neg (by decide)]
      have same : ∀ (e : lv O (f + 1) W p n u = []), ∃ V', RC R h0 V' I ∧ Sim al V' (L ++ lv O (f + 1) W p n u) ∧ CW W (R + 1) I ∧ I R 9 = u ∧ (∀ t, t < n → I (R + 3) t = p t) ∧ FcR R I I := fun e => ⟨V, rc, by rw [e, List.append_nil]; exact sm, w, hu, hrow, fun _ _ _ => rfl⟩
      rw [if_neg d]
      by_cases n8 : n < 8
      · rw [if_pos (by omega)]
        refine ok_b (ok_m (c_hopeless h k wf hc w nd hu ha rc) (fun r hr => ?_))
        rcases hr with hr | ⟨hr, hd⟩
        · rw [if_pos hr, x4, some_bind, x4, some_bind, x4, some_bind, x4, some_bind, w.1.1, w.1.2.1, w.1.2.2.1, w.1.2.2.2]
          refine it_run (fun i (s : Int × Mem) => s.1 = (i : Int) ∧ ∃ V', RC R h0 V' s.2 ∧ Sim al V' (L ++ (List.range i).flatMap (chl O f W p n u)) ∧ CW W (R + 1) s.2 ∧ s.2 R 9 = u ∧ (∀ t, t < n → s.2 (R + 3) t = p t) ∧ FcR R I s.2) (oN O) ?_ ?_ 0 FU (0, I) (by omega) (by unfold FU; omega) ⟨rfl, V, rc, by simpa using sm, w, hu, hrow, fun _ _ _ => rfl⟩
          · rintro i ⟨si, K⟩ hi ⟨rfl, V1, vrc, vsm, kW, ku, kR, kF⟩
            try dsimp only at vrc vsm kW ku kR kF ⊢
            have hio : (i : Int) < O 0 4 := by omega
            have agK : ∀ o j, (o < R ∨ R + 10 < o) → K o j = I o j := fun o j ho => kF o j (by omega)
            have hcK : CV O 26 K := cv_ag hc (fun o j h1 h2 => agK o j (by omega))
            have htK : TW O K := tw_ag wf ht (fun o j h1 h2 => agK o j (by omega))
            have hnK : TN O K := tn_ag wf hnx (fun o j h1 h2 => agK o j (by omega))
            rw [x1, some_bind, show gi T 2 4 26 K = some (K 26 4) by simp only [agPl h], some_bind, cv_n hcK, if_pos hio, if_pos (by omega), k7, some_bind, ku, f_hasBit (by omega), some_bind, ia_1 (by omega)]
            refine ok_tn (ok_e (v := .inl (if hb u i = true then -1 else stp O ntk W i)) ?_ ?_)
            · cases cb : hb u i
              · rw [if_pos (show (if false = true then (1 : Int) else 0) = 0 from rfl), c_stamp h wk wf hcK htK hnK kW nd.1 hio, some_bind, if_neg (show ¬ false = true by decide)]
              · rw [if_neg (show ¬ (if true = true then (1 : Int) else 0) = 0 by decide), if_pos rfl]
            · show OK _ _
              dsimp only
              by_cases c : mayg O W u i = true
              · have c' := c
                unfold mayg at c'
                rw [Bool.and_eq_true, decide_eq_true_iff] at c'
                have cb : hb u i = false := by simpa using c'.1
                have g := nd_go wf nd hi c
                have hr' := stp_rg wf nd.1 hio c'.2
                have s0 := nd.1.1
                rw [cb, if_neg (show ¬ false = true by decide), if_neg c'.2, x3, some_bind, c_lastl wk kW (by omega), some_bind, k2, some_bind, ev_sto k.2.2.1, if_pos (by omega), some_bind, Int.toNat_natCast, k7, some_bind, k8, some_bind, mu_o K _ (by omega), ku]
                obtain ⟨Q, eQ⟩ : ∃ Q, Q = mu (mu K (R + 3) n (i : Int)) R 9 (ior u (ishl 1 (i : Int))) := ⟨_, rfl⟩
                rw [← eQ]
                have agQ : ∀ o j, ¬ (o = R + 3 ∧ j = n) → ¬ (o = R ∧ j = 9) → Q o j = K o j := fun o j h1 h2 => by rw [eQ, mu_o _ _ h2, mu_o _ _ h1]
                have hcQ : CV O 26 Q := cv_ag hcK (fun o j h1 h2 => agQ o j (by omega) (by omega))
                have htQ : TW O Q := tw_ag wf htK (fun o j h1 h2 => agQ o j (by omega) (by omega))
                have hnQ : TN O Q := tn_ag wf hnK (fun o j h1 h2 => agQ o j (by omega) (by omega))
                have kWQ : CW W (R + 1) Q := cw_ag kW (fun o j ho => agQ o j (by omega) (by omega))
                refine ok_b (ok_m (c_stampIn h wk (by omega) wf hcQ htQ kWQ nd.1 hio hr'.2.2.2.1 (by omega) hr'.2.2.1) (fun M hM => ?_))
                obtain ⟨mF, mW⟩ := hM
                have agM : ∀ o j, ¬ (o = R + 1 ∨ o = R + 2) → M o j = Q o j := fun o j ho => mF o j (by omega)
                have hpw : 8 ^ (8 - n) = 8 * 8 ^ (8 - (n + 1)) := by rw [show 8 - n = (8 - (n + 1)) + 1 by omega, Nat.pow_succ, Nat.mul_comm]
                have hpl := pre_len (p := p) (f := f) wf nd i (by omega)
                have hmul : i * 8 ^ (8 - (n + 1)) + 8 ^ (8 - (n + 1)) ≤ 8 * 8 ^ (8 - (n + 1)) := by
                  rw [← Nat.succ_mul]; exact Nat.mul_le_mul_right _ (by omega)
                have hlen : (L ++ (List.range i).flatMap (chl O f W p n u)).length + 8 ^ (8 - (n + 1)) ≤ 1000000000 := by
                  rw [List.length_append]; omega
                have echl : chl O f W p n u i = lv O f (goS O W i (stp O ntk W i)) (updp p n (i : Int)) (n + 1) (ior u (ishl 1 (i : Int))) := by unfold chl; rw [if_pos c]
                have rcM : RC R h0 V1 M := by
                  obtain ⟨r1, r2, r3, r4, r5, r6, r7⟩ := vrc
                  have e10 : ∀ j, 10 ≤ j → M R j = K R j := fun j hj => by rw [agM _ _ (by omega), agQ _ _ (by omega) (by omega)]
                  refine ⟨by rw [e10 _ (by omega)]; exact r1, fun a ha => ra_ag (r2 a ha) (fun o j ho => by rw [agM _ _ (by omega), agQ _ _ (by omega) (by omega)]), fun m hm o ho => by rw [agM _ _ (by omega), agQ _ _ (by omega) (by omega)]; exact r3 m hm o ho, fun m hm => by rw [e10 _ (by omega)]; exact r4 m hm, fun z => by rw [e10 _ (by omega), e10 _ (by omega)]; exact r5 z, fun z => by rw [e10 _ (by omega)]; exact r6 z, by rw [e10 _ (by omega)]; exact r7⟩
                have eM : ∀ j, j ≤ 8 → M R j = I R j := fun j hj => by rw [agM _ _ (by omega), agQ _ _ (by omega) (by omega), kF _ _ (by omega)]
                rw [ia_1 (by omega)]
                refine ok_b (ok_m (ih (goS O W i (stp O ntk W i)) (updp p n (i : Int)) (n + 1) (ior u (ishl 1 (i : Int))) V1 (L ++ (List.range i).flatMap (chl O f W p n u)) M (by omega) g.1 (cv_ag hcQ (fun o j h1 h2 => agM o j (by omega))) (tw_ag wf htQ (fun o j h1 h2 => agM o j (by omega))) (tn_ag wf hnQ (fun o j h1 h2 => agM o j (by omega))) mW (by rw [eM _ (by omega)]; exact ha) (by rw [eM _ (by omega)]; exact hh) (by rw [agM _ _ (by omega), eQ, mu_s]) (fun t ht' => ?_) rcM vsm hlen) (fun N hN => ?_))
                · unfold updp
                  by_cases e : t = n
                  · rw [if_pos e, e, agM _ _ (by omega), eQ, mu_o _ _ (by omega), mu_s]
                  · rw [if_neg e, agM _ _ (by omega), agQ _ _ (by omega) (by omega)]; exact kR t (by omega)
                · obtain ⟨V2, n1, n2, n3, n4, n5, n6⟩ := hN
                  rw [some_bind, x7, if_pos (by omega), some_bind, Int.toNat_natCast, x5, some_bind, x5, some_bind, x5, some_bind, x5, some_bind, k7, some_bind, k8, some_bind]
                  obtain ⟨Z0, eZ0⟩ : ∃ Z0, Z0 = mu (mu (mu (mu (mu N (R + 1 + 1) i (ev (W (4 + i)))) (R + 1) 3 (W 0)) (R + 1) 4 (W 1)) (R + 1) 5 (W 2)) (R + 1) 6 (W 3) := ⟨_, rfl⟩
                  rw [← eZ0]
                  have agZ0 : ∀ o j, ¬ (o = R + 1 ∧ 3 ≤ j ∧ j ≤ 6) → ¬ (o = R + 2 ∧ j = i) → Z0 o j = N o j := fun o j h1 h2 => by rw [eZ0, mu_o _ _ (by omega), mu_o _ _ (by omega), mu_o _ _ (by omega), mu_o _ _ (by omega), mu_o _ _ (by omega)]
                  have eu : iand (Z0 R 9) (ixor (ishl 1 (i : Int)) (-1)) = u := by
                    rw [agZ0 _ _ (by omega) (by omega), n4]
                    refine hb_ext (cn_iand _ _) nd.2.1.1 (fun j hj => ?_)
                    rw [hb_an, hb_or, hb_shl (by omega)]
                    by_cases e : j = i
                    · subst e; rw [decide_eq_true rfl, cb]; rfl
                    · rw [decide_eq_false e]; simp
                  rw [eu]
                  have agZ : ∀ o j, ¬ (o = R + 1 ∧ 3 ≤ j ∧ j ≤ 6) → ¬ (o = R + 2 ∧ j = i) → ¬ (o = R ∧ j = 9) → mu Z0 R 9 u o j = N o j := fun o j h1 h2 h3 => by rw [mu_o _ _ h3, agZ0 o j h1 h2]
                  refine ok_i ?_
                  dsimp only
                  refine ⟨rfl, V2, ?_, ?_, ⟨⟨?_, ?_, ?_, ?_⟩, fun o ho => ?_⟩, ?_, fun t ht' => ?_, fun o j hoj => ?_⟩
                  · obtain ⟨r1, r2, r3, r4, r5, r6, r7⟩ := n1
                    have e10 : ∀ j, 10 ≤ j → mu Z0 R 9 u R j = N R j := fun j hj => agZ _ _ (by omega) (by omega) (by omega)
                    refine ⟨by rw [e10 _ (by omega)]; exact r1, fun a ha => ra_ag (r2 a ha) (fun o j ho => agZ _ _ (by omega) (by omega) (by omega)), fun m hm o ho => by rw [agZ _ _ (by omega) (by omega) (by omega)]; exact r3 m hm o ho, fun m hm => by rw [e10 _ (by omega)]; exact r4 m hm, fun z => by rw [e10 _ (by omega), e10 _ (by omega)]; exact r5 z, fun z => by rw [e10 _ (by omega)]; exact r6 z, by rw [e10 _ (by omega)]; exact r7⟩
                  · rw [pre_s, ← List.append_assoc, echl]; exact n2
                  · rw [mu_o _ _ (by omega), eZ0, mu_o _ _ (by omega), mu_o _ _ (by omega), mu_o _ _ (by omega), mu_s]
                  · rw [mu_o _ _ (by omega), eZ0, mu_o _ _ (by omega), mu_o _ _ (by omega), mu_s]
                  · rw [mu_o _ _ (by omega), eZ0, mu_o _ _ (by omega), mu_s]
                  · rw [mu_o _ _ (by omega), eZ0, mu_s]
                  · by_cases e : o = i
                    · subst e; rw [mu_o _ _ (by omega), eZ0, mu_o _ _ (by omega), mu_o _ _ (by omega), mu_o _ _ (by omega), mu_o _ _ (by omega), mu_s]
                    · rw [agZ _ _ (by omega) (by omega) (by omega), n3.2 o ho, goS_l, if_neg e]
                  · rw [mu_s]
                  · rw [agZ _ _ (by omega) (by omega) (by omega), n5 t (by omega)]
                    unfold updp; rw [if_neg (by omega)]
                  · rw [agZ _ _ (by omega) (by omega) (by omega), n6 _ _ hoj, agM _ _ (by omega), agQ _ _ (by omega) (by omega)]; exact kF o j hoj
              · have ev' : (if hb u i = true then (-1 : Int) else stp O ntk W i) = -1 := by
                  by_cases e : hb u i = true
                  · rw [if_pos e]
                  · rw [if_neg e]
                    unfold mayg at c
                    rw [Bool.and_eq_true, decide_eq_true_iff] at c
                    by_cases e2 : stp O ntk W i = -1
                    · exact e2
                    · exact absurd ⟨by simpa using e, e2⟩ c
                have echl : chl O f W p n u i = [] := by unfold chl; rw [if_neg c]
                rw [ev', if_pos rfl]
                refine ok_i ⟨rfl, V1, vrc, ?_, kW, ku, kR, kF⟩
                rw [pre_s, echl, List.append_nil]; exact vsm
          · rintro ⟨si, K⟩ ⟨rfl, V1, vrc, vsm, kW, ku, kR, kF⟩
            try dsimp only at vrc vsm kW ku kR kF ⊢
            have hcK : CV O 26 K := cv_ag hc (fun o j h1 h2 => kF o j (by omega))
            rw [x1, some_bind, show gi T 2 4 26 K = some (K 26 4) by simp only [agPl h], some_bind, cv_n hcK, if_neg (by omega), elv]
            exact ok_i ⟨V1, vrc, vsm, kW, ku, kR, kF⟩
        · rw [if_neg (by omega)]
          refine ok_i ?_
          rcases hd with hd | ⟨hd, m, hm, hb1⟩
          · exact same (hd _ _)
          · refine ⟨V, rc, ⟨fun q => absurd hd q, ?_, ?_⟩, w, hu, hrow, fun _ _ _ => rfl⟩
            · rw [hm]
              have hmL : bl (key 0) L = some m := by rw [← sm.2.1]; exact hm
              refine (bl_stay hmL (fun l hl => ?_)).symm
              have r1 := lv_mis wf _ _ _ _ _ nd l hl
              have kl : key 0 l = l.1 0 := rfl
              unfold bet
              by_cases q1 : key 0 l < key 0 m
              · exact absurd (Or.inl (by omega)) hb1
              · rw [decide_eq_false q1]
                by_cases q2 : key 0 l = key 0 m
                · by_cases q3 : l.2.2.1 < m.2.2.1
                  · exfalso
                    apply hb1
                    by_cases q4 : W 0 + mis O W < key 0 m
                    · exact Or.inl q4
                    · exact Or.inr ⟨by omega, by omega⟩
                  · rw [decide_eq_false q3]; simp
                · rw [decide_eq_false q2]; rfl
            · rw [List.length_append]; have := sm.2.2; omega
      · rw [if_neg (by omega)]
        refine ok_i (same ?_)
        rw [elv, List.flatMap_eq_nil_iff]
        intro i hi
        rw [List.mem_range] at hi
        unfold chl
        by_cases c : mayg O W u i = true
        · exact absurd (nd_go wf nd hi c).2.1 n8
        · rw [if_neg c]
end
