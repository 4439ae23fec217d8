/-! B: the lines, side by side: an official, both sides' whole line. -/
section
variable {T : Knd} {A : Rfs} {I M I0 M0 M1 : Mem} {b : Nat → Int} {L n u p : Nat} {O : Ofc} {Ψ : Prop} {c : Nat → Int}
/-- behind the marks -/
theorem sim_tail (h : Ag T A) (hn : n < 8) {V : Mem} (s : MSt T A Ψ I0 M0 b L n O M1 3 0 V) : OK2 ((gr T A 4 1 4).bind fun x51 => (gr T A 2 8 x51).bind fun x52 => (lr T A 24 x52 6).bind fun x53 => (ld T 20 x53 (n : Int) V).bind fun x54 => thn (if x54 = (-1) then (f_X4_tell T A 4 6 0 V).bind fun e58 => some (.inl e58) else some (.inl V)) (fun (v57 : Mem) => (gr T A 4 1 4).bind fun x60 => (gi T 2 4 x60 v57).bind fun x61 => (pi T 2 4 x60 (ia x61 1) v57).bind fun I63 => some I63)) (ofT T A (9 * (32 + (n : Int))) (n : Int) M1) (fun J N => (∃ c p', Ψ ∧ (∀ m, m < 3 → c m = -1 ∨ (mlo m ≤ c m ∧ c m ≤ mhi m)) ∧ RG I0 M0 b L (n + 1) 0 (ofO O n c) p' J N) ∨ RBd I0 M0 (n + 1) J N ∨ Lag I0 M0 J N) := by
  obtain ⟨k0, k1, k2, k3, k4, k5, k6, k7, k8, k9⟩ := r_ev h
  obtain ⟨k, ip, M', e1, e2⟩ := ms_end s
  have h4 : V 5 4 = (n : Int) := by
    rcases e2 with ⟨p, c, _, mk, _⟩ | g
    · rw [rg_5 mk.1 (by decide)]; exact mk.1.1.1
    · exact g.2.2.2.1
  obtain ⟨J1, eJ1, f1, f2, f3⟩ : ∃ J1, (if V 14 n = (-1) then (f_X4_tell T A 4 6 0 V).bind fun e58 => some (.inl e58) else some (.inl V)) = (some (.inl J1) : Option (Mem ⊕ Mem)) ∧ (∀ o k, ¬ (o = 14 ∧ k = n) → J1 o k = V o k) ∧ (V 14 n = -1 → J1 14 n = 0) ∧ (V 14 n ≠ -1 → J1 14 n = V 14 n) := by
    by_cases d : V 14 n = -1
    · rw [if_pos d, show f_X4_tell T A 4 6 0 V = some (mu V 14 n 0) from c_tell h (w := 6) (by decide) hn h4 0, some_bind]
      exact ⟨_, rfl, fun o k hk => mu_o _ _ hk, fun _ => mu_s _ _ _ _, fun z => absurd d z⟩
    · rw [if_neg d]
      exact ⟨_, rfl, fun _ _ _ => rfl, fun z => absurd z d, fun _ => rfl⟩
  rw [k2, some_bind, k8, some_bind, show lr T A 24 7 6 = some 14 from r5_told h (a := 6) (by decide), some_bind, ev_ld (kT5_told h (a := 6) (by decide)), if_pos (by omega), some_bind, Int.toNat_natCast]
  rw [show (if V (8 + 6) n = (-1) then (f_X4_tell T A 4 6 0 V).bind fun e58 => some (.inl e58) else some (.inl V)) = (some (.inl J1) : Option (Mem ⊕ Mem)) from eJ1, thn_l, some_bind, k5, some_bind, f1 5 4 (by omega), h4, k6, some_bind, ia_1 (by omega)]
  obtain ⟨J, eJ⟩ : ∃ J : Mem, J = mu J1 5 4 ((n + 1 : Nat) : Int) := ⟨_, rfl⟩
  rw [← eJ]
  have j1 : ∀ o k, ¬ (o = 14 ∧ k = n) → ¬ (o = 5 ∧ k = 4) → J o k = V o k := fun o k z1 z2 => by rw [eJ, mu_o _ _ z2]; exact f1 o k z1
  have j3 : J 5 4 = ((n + 1 : Nat) : Int) := by rw [eJ, mu_s]
  unfold ofT
  rw [e1]
  rcases e2 with ⟨p, c, hΨ, mk, e3, e4⟩ | g
  · have j2 : J 14 n = mcw c 2 := by
      rw [eJ, mu_o _ _ (by omega)]
      have := (mk.2.2.1 2 (by decide)).1
      have this : V 14 n = c 2 := this
      unfold mcw
      by_cases d : c 2 = -1
      · rw [if_pos ⟨rfl, d⟩]; exact f2 (by rw [this]; exact d)
      · rw [if_neg (fun z => d z.2), ← this]; exact f3 (by rw [this]; exact d)
    rw [e3, mk_end h k hn mk e4]
    by_cases d : tk b L p = 1
    · rw [if_pos d, thn_r]
      have r := mk.1
      refine ok2_i (Or.inr (Or.inr ⟨?_, ?_, ?_, ?_, ?_, ?_⟩))
      · rw [j1 _ _ (by omega) (by omega)]; exact r.2.1.2.2.2.1
      · rw [j1 _ _ (by omega) (by omega), r.2.1.2.2.1.1, d]; decide
      · rw [mu_o _ _ (by omega), mu_s]
      · rw [mu_s, j1 _ _ (by omega) (by omega), r.2.2.2.1.2.1, r.2.1.2.2.1.2.1]
      · intro o k hk
        rw [j1 _ _ (by omega) (by omega)]
        exact r.2.1.2.2.2.2.2.2.2.1 o k hk
      · exact fcm_mu (fcm_mu r.2.2.2.2.2.2.2.2 (Or.inl ⟨rfl, by decide, by decide⟩)) (Or.inl ⟨rfl, by decide, by decide⟩)
    · rw [if_neg d, thn_l, m_rd3 h, some_bind, ia_1 (by omega)]
      exact ok2_i (Or.inl ⟨c, p, hΨ, mk.2.2.2.2.2.2, rg_fin mk hn j1 j2 j3⟩)
  · rw [mk_bad h k _ _ (show M' 129 12 ≠ 0 by rw [g.2.1]; exact g.1), thn_l, m_rd3 h, some_bind, ia_1 (by omega)]
    obtain ⟨q1, q2, q3, q4, q5, q6⟩ := g
    refine ok2_i (Or.inr (Or.inl ⟨?_, ?_, ?_, j3, ?_, ?_⟩))
    · rw [j1 _ _ (by omega) (by omega)]; exact q1
    · rw [mu_o _ _ (by omega), j1 _ _ (by omega) (by omega)]; exact q2
    · rw [mu_o _ _ (by omega), j1 _ _ (by omega) (by omega)]; exact q3
    · intro o k hk
      rw [j1 _ _ (by omega) (by omega)]
      exact q5 o k hk
    · exact fcm_mu q6 (Or.inr (by unfold sl4; omega))
theorem sim_official (h : Ag T A) (hn : n < 8) (r : RG I0 M0 b L n 0 O p I M) (hR : 1 ≤ O 0 1 ∧ O 0 1 ≤ 6) : OK2 ((gr T A 4 1 4).bind fun x7 => (gi T 2 1 x7 I).bind fun x8 => (f_X4_takeAfter T A 4 5 0 (isb x8 1) I).bind fun e10 => (f_X4_tell T A 4 0 e10.1 e10.2).bind fun e13 => (f_X4_takeAfter T A 4 6 0 9 e13).bind fun e15 => (f_X4_tell T A 4 1 e15.1 e15.2).bind fun e18 => (f_X4_takeAfter T A 4 7 e15.1 9 e18).bind fun e20 => (f_X4_tell T A 4 2 e20.1 e20.2).bind fun e23 => (f_X4_takeAfter T A 4 8 1 31 e23).bind fun e25 => (f_X4_tell T A 4 3 e25.1 e25.2).bind fun e28 => (f_X4_tell T A 4 4 (-1) e28).bind fun e30 => (f_X4_tell T A 4 5 (-1) e30).bind fun e32 => (f_X4_tell T A 4 6 (-1) e32).bind fun e34 => (f_X4_tell T A 4 7 (-1) e34).bind fun e36 => (f_X4_tell T A 4 8 (-1) e36).bind fun e38 => thn (it (fun (s43 : Int × Mem) => if s43.1 < 3 then (f_X4_readMark T A 4 9 4 0 9 s43.2).bind fun e45 => (f_X4_readMark T A 4 10 5 1 20 e45).bind fun e47 => (f_X4_readMark T A 4 11 6 0 99 e47).bind fun e49 => some (.inl (ia s43.1 1, e49)) else some (.inr (.inl s43.2))) FU (0, e38)) (fun (v41 : Mem) => (gr T A 4 1 4).bind fun x51 => (gr T A 2 8 x51).bind fun x52 => (lr T A 24 x52 6).bind fun x53 => (ld T 20 x53 (n : Int) v41).bind fun x54 => thn (if x54 = (-1) then (f_X4_tell T A 4 6 0 v41).bind fun e58 => some (.inl e58) else some (.inl v41)) (fun (v57 : Mem) => (gr T A 4 1 4).bind fun x60 => (gi T 2 4 x60 v57).bind fun x61 => (pi T 2 4 x60 (ia x61 1) v57).bind fun I63 => some I63))) (f_X12_officialLine T A 129 M) (fun J N => (∃ v1 v2 v3 v4 c, ((0 ≤ v1 ∧ v1 ≤ O 0 1 - 1) ∧ (0 ≤ v2 ∧ v2 ≤ 9) ∧ (v2 ≤ v3 ∧ v3 ≤ 9) ∧ (1 ≤ v4 ∧ v4 ≤ 31) ∧ ∀ m, m < 3 → c m = -1 ∨ (mlo m ≤ c m ∧ c m ≤ mhi m)) ∧ ∃ p', RG I0 M0 b L (n + 1) 0 (ofO (of4 O n v1 v2 v3 v4) n c) p' J N) ∨ RBd I0 M0 (n + 1) J N ∨ Lag I0 M0 J N) := by
  obtain ⟨k0, k1, k2, k3, k4, k5, k6, k7, k8, k9⟩ := r_ev h
  obtain ⟨g0, g1, g2, g3, g4⟩ := g_ev h
  obtain ⟨u16, u17, u18, u19, u20, u21, u22, u23⟩ := q_ev h
  have hM : M 136 27 = (n : Int) := by rw [rg_6 (k := 3) r (by decide)]; exact r.1.1
  have hI : I 5 1 = O 0 1 := rg_5 r (by decide)
  obtain ⟨V, eV, v1, v2⟩ := m_ofI (A := A) h hn M
  have st : ∀ (w : Nat) v (W : Mem), w < 9 → sto T 20 137 (ia (9 * (32 + (n : Int))) (w : Int)) v W = some (mu W 137 (9 * (32 + n) + w) v) := fun w v W hw => by
    rw [ia_eq (by omega) (by omega), ev_sto (kT_137 h), if_pos (by omega), show (9 * (32 + (n : Int)) + (w : Int)).toNat = 9 * (32 + n) + w by omega]
  have st0 : ∀ v (W : Mem), sto T 20 137 (9 * (32 + (n : Int))) v W = some (mu W 137 (9 * (32 + n) + 0) v) := fun v W => by
    rw [ev_sto (kT_137 h), if_pos (by omega), show (9 * (32 + (n : Int))).toNat = 9 * (32 + n) + 0 by omega]
  have st1 : ∀ v (W : Mem), sto T 20 137 (ia (9 * (32 + (n : Int))) 1) v W = some (mu W 137 (9 * (32 + n) + 1) v) := fun v W => st 1 v W (by decide)
  have st2 : ∀ v (W : Mem), sto T 20 137 (ia (9 * (32 + (n : Int))) 2) v W = some (mu W 137 (9 * (32 + n) + 2) v) := fun v W => st 2 v W (by decide)
  have st3 : ∀ v (W : Mem), sto T 20 137 (ia (9 * (32 + (n : Int))) 3) v W = some (mu W 137 (9 * (32 + n) + 3) v) := fun v W => st 3 v W (by decide)
  have ldm : ∀ v (W : Mem), ld T 20 137 (ia (9 * (32 + (n : Int))) 1) (mu W 137 (9 * (32 + n) + 1) v) = some v := fun v W => by
    rw [ia_eq (by omega) (by omega), ev_ld (kT_137 h), if_pos (by omega), show (9 * (32 + (n : Int)) + 1).toNat = 9 * (32 + n) + 1 by omega, mu_s]
  have sn : ∀ (x : Nat) (W : Mem), T x = (20, 40) → sto T 20 x (ia 32 (n : Int)) 0 W = some (mu W x (32 + n) 0) := fun x W hx => by
    rw [ia_eq (by omega) (by omega), ev_sto hx, if_pos (by omega), show (32 + (n : Int)).toNat = 32 + n by omega]
  have hp : f_X12_placeRead T A 129 (n : Int) M = some (9 * (32 + (n : Int))) := by
    unfold f_X12_placeRead
    rw [if_pos g0, ia_eq (by omega) (by omega), im_eq (by omega) (by omega)]
  rw [ofl_eq, if_pos g0, m_hr3 h, some_bind, hM, hp, some_bind, eV, thn_l, u19, some_bind, sn 138 _ (kT_138 h), some_bind, u20, some_bind, sn 139 _ (kT_139 h), some_bind]
  obtain ⟨W, eW⟩ : ∃ W : Mem, W = mu (mu V 138 (32 + n) 0) 139 (32 + n) 0 := ⟨_, rfl⟩
  rw [← eW]
  have w3 : ∀ o k, ¬ (o = 137 ∧ 9 * (32 + n) ≤ k ∧ k < 9 * (32 + n) + 9) → ¬ ((o = 138 ∨ o = 139) ∧ k = 32 + n) → W o k = M o k := fun o k z1 z2 => by
    rw [eW, mu_o _ _ (by omega), mu_o _ _ (by omega)]; exact v2 o k z1
  have r1 : RG I0 M0 b L n 1 O p I W := rg_ini r hn (fun w hw => by rw [eW, mu_o _ _ (by omega), mu_o _ _ (by omega)]; exact v1 w hw) ⟨by rw [eW, mu_o _ _ (by omega), mu_s], by rw [eW, mu_s]⟩ w3
  simp only [u18, some_bind, st0, st1, st2, st3, ldm]
  have rl : Rel I0 M0 b L n 1 O (W 136 24 = O 0 1) I W := Or.inl ⟨rg_6 (k := 0) r1 (by decide), p, r1⟩
  rw [k2, some_bind, k5, some_bind, hI, m_askroom h rl (w := 5) (W := 365647) rfl]
  refine ok2_b (ok2_m (sim_after h rl (w := 5) (by decide) rfl (lo := 0) (hi := isb (O 0 1) 1) (fun q => ⟨rfl, by rw [q], by rw [isb_eq (by omega) (by omega)]; omega⟩)) (fun x y hxy => ?_))
  obtain ⟨r2, z2⟩ := hxy
  rw [isb_eq (by omega) (by omega)] at r2 z2
  rw [show f_X4_tell T A 4 0 x.1 x.2 = some (mu x.2 (8 + 0) n x.1) from c_tell h (w := 0) (by decide) hn (rel_4 r2) _, some_bind]
  have s2 := rel_tell (w := 0) (v := x.1) (v' := y.1) (Φ := 0 ≤ x.1 ∧ x.1 ≤ O 0 1 - 1) (by decide) (rel_w r2 (fun p q _ => ⟨q.2.2, q.2.1⟩)) hn
  refine ok2_b (ok2_m (sim_after h s2 (w := 6) (by decide) rfl (lo := 0) (hi := 9) (fun q => ⟨rfl, rfl, by decide⟩)) (fun x2 y2 hxy2 => ?_))
  obtain ⟨r3, z3⟩ := hxy2
  rw [show f_X4_tell T A 4 1 x2.1 x2.2 = some (mu x2.2 (8 + 1) n x2.1) from c_tell h (w := 1) (by decide) hn (rel_4 r3) _, some_bind]
  have s3 := rel_tell (w := 1) (v := x2.1) (v' := y2.1) (Φ := (0 ≤ x.1 ∧ x.1 ≤ O 0 1 - 1) ∧ (0 ≤ x2.1 ∧ x2.1 ≤ 9) ∧ y2.1 = x2.1) (by decide) (rel_w r3 (fun p q _ => ⟨⟨q.1, q.2.2, q.2.1⟩, q.2.1⟩)) hn
  refine ok2_b (ok2_m (sim_after h s3 (w := 7) (by decide) rfl (lo := x2.1) (hi := 9) (fun q => ⟨q.2.2.symm, rfl, by decide⟩)) (fun x3 y3 hxy3 => ?_))
  obtain ⟨r4, z4⟩ := hxy3
  rw [show f_X4_tell T A 4 2 x3.1 x3.2 = some (mu x3.2 (8 + 2) n x3.1) from c_tell h (w := 2) (by decide) hn (rel_4 r4) _, some_bind]
  have s4 := rel_tell (w := 2) (v := x3.1) (v' := y3.1) (Φ := (0 ≤ x.1 ∧ x.1 ≤ O 0 1 - 1) ∧ (0 ≤ x2.1 ∧ x2.1 ≤ 9) ∧ (x2.1 ≤ x3.1 ∧ x3.1 ≤ 9)) (by decide) (rel_w r4 (fun p q _ => ⟨⟨q.1.1, q.1.2.1, q.2.2⟩, q.2.1⟩)) hn
  refine ok2_b (ok2_m (sim_after h s4 (w := 8) (by decide) rfl (lo := 1) (hi := 31) (fun q => ⟨rfl, rfl, by decide⟩)) (fun x4 y4 hxy4 => ?_))
  obtain ⟨r5, z5⟩ := hxy4
  rw [show f_X4_tell T A 4 3 x4.1 x4.2 = some (mu x4.2 (8 + 3) n x4.1) from c_tell h (w := 3) (by decide) hn (rel_4 r5) _, some_bind]
  have s5 := rel_tell (w := 3) (v := x4.1) (v' := y4.1) (Φ := (0 ≤ x.1 ∧ x.1 ≤ O 0 1 - 1) ∧ (0 ≤ x2.1 ∧ x2.1 ≤ 9) ∧ (x2.1 ≤ x3.1 ∧ x3.1 ≤ 9) ∧ (1 ≤ x4.1 ∧ x4.1 ≤ 31)) (by decide) (rel_w r5 (fun p q _ => ⟨⟨q.1.1, q.1.2.1, q.1.2.2, q.2.2⟩, q.2.1⟩)) hn
  rw [c_tells h hn (rel_4 s5)]
  have mb := ms_begin (T := T) (A := A) s5 hn
  obtain ⟨V3, eV3, ms3⟩ := c_marks h hn mb
  rw [eV3, thn_l]
  have tl := sim_tail h hn ms3
  rw [k2] at tl
  refine ok2_m tl (fun J N hJ => ?_)
  rcases hJ with ⟨c, p', q, h1, h2⟩ | hJ
  · exact Or.inl ⟨x.1, x2.1, x3.1, x4.1, c, ⟨q.1, q.2.1, q.2.2.1, q.2.2.2, h1⟩, p', h2⟩
  · exact Or.inr hJ
end
