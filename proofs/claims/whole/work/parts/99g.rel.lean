/-! B: two runs side by side: the class's reading in one memory, the reference's in another. -/
def OK2 {X Y : Type} (c : Option X) (m : Option Y) (P : X → Y → Prop) : Prop := ∃ x y, c = some x ∧ m = some y ∧ P x y
theorem ok2_i {X Y : Type} {x : X} {y : Y} {P : X → Y → Prop} (h : P x y) : OK2 (some x) (some y) P := ⟨x, y, rfl, rfl, h⟩
theorem ok2_b {X Y U V : Type} {c : Option X} {m : Option Y} {k : X → Option U} {k' : Y → Option V} {P : U → V → Prop} (h : OK2 c m (fun x y => OK2 (k x) (k' y) P)) : OK2 (c.bind k) (m.bind k') P := by
  obtain ⟨x, y, h1, h2, h3⟩ := h
  rw [h1, h2]
  exact h3
theorem ok2_m {X Y : Type} {c : Option X} {m : Option Y} {P Q : X → Y → Prop} (h : OK2 c m P) (hq : ∀ x y, P x y → Q x y) : OK2 c m Q := by
  obtain ⟨x, y, h1, h2, h3⟩ := h
  exact ⟨x, y, h1, h2, hq x y h3⟩
theorem ok2_bl {X Y U : Type} {c : Option X} {m : Option Y} {k : X → Option U} {P : U → Y → Prop} (h : OK c (fun x => OK2 (k x) m P)) : OK2 (c.bind k) m P := by
  obtain ⟨x, h1, h3⟩ := h
  rw [h1]
  exact h3
theorem ok2_br {X Y V : Type} {c : Option X} {m : Option Y} {k' : Y → Option V} {P : X → V → Prop} (h : OK m (fun y => OK2 c (k' y) P)) : OK2 c (m.bind k') P := by
  obtain ⟨y, h1, h3⟩ := h
  rw [h1]
  exact h3
def FcC (I J : Mem) : Prop := ∀ o k, (o < 2 ∨ o = 3 ∨ 25 < o ∨ (o = 2 ∧ k < 2)) → J o k = I o k
def sl4 (o k : Nat) : Prop := (o = 135 ∧ k = 4) ∨ (o = 136 ∧ 24 ≤ k ∧ k < 30) ∨ (o = 137 ∧ 288 ≤ k ∧ k < 360) ∨ ((o = 138 ∨ o = 139) ∧ 32 ≤ k ∧ k < 40) ∨ (o = 140 ∧ 144 ≤ k ∧ k < 180)
def FcM (I J : Mem) : Prop := ∀ o k, ¬ (o = 129 ∧ 7 ≤ k ∧ k ≤ 13) → ¬ sl4 o k → J o k = I o k
theorem fcc_ftk {I J K : Mem} (h : FcC I J) (f : Ftk J K) : FcC I K := fun o k hk => by rw [f o k (by omega)]; exact h o k hk
theorem fcm_ftm {I J K : Mem} (h : FcM I J) (f : Ftm J K) : FcM I K := fun o k h1 h2 => by rw [f o k (by omega)]; exact h o k h1 h2
theorem fcc_mu {I J : Mem} {a j : Nat} {v : Int} (h : FcC I J) (h1 : 4 ≤ a) (h2 : a ≤ 25) : FcC I (mu J a j v) := fun o k hk => by rw [mu_o _ _ (by omega)]; exact h o k hk
theorem fcm_mu {I J : Mem} {a j : Nat} {v : Int} (h : FcM I J) (h1 : (a = 129 ∧ 7 ≤ j ∧ j ≤ 13) ∨ sl4 a j) : FcM I (mu J a j v) := fun o k g1 g2 => by
  rw [mu_o _ _ (fun e => by
    rw [← e.1, ← e.2] at h1
    rcases h1 with z | z
    · exact g1 z
    · exact g2 z)]
  exact h o k g1 g2
/-- and no place of a fault -/
def FcG (I J : Mem) : Prop := FcC I J ∧ J 4 3 = -1
theorem fcg_ftk {I J K : Mem} (h : FcG I J) (f : Ftk J K) : FcG I K := ⟨fcc_ftk h.1 f, by rw [f _ _ (by omega)]; exact h.2⟩
theorem fcg_mu {I J : Mem} {a j : Nat} {v : Int} (h : FcG I J) (h1 : 5 ≤ a) (h2 : a ≤ 25) : FcG I (mu J a j v) := ⟨fcc_mu h.1 (by omega) h2, by rw [mu_o _ _ (by omega)]; exact h.2⟩
/-- what the reference lays for an official first -/
def ini (w : Nat) : Int := if w ≤ 3 ∨ w = 6 then 0 else -1
section
variable (I0 M0 : Mem) (b : Nat → Int) (L : Nat)
def RGo (n u : Nat) (O : Ofc) (p : Nat) : Prop := O 0 4 = (n : Int) ∧ n ≤ 8 ∧ O 0 6 = 0 ∧ (0 ≤ O 0 0 ∧ O 0 0 ≤ (p : Int)) ∧ (0 < u → n < 8) ∧ u ≤ 5
def RGc (n u : Nat) (O : Ofc) (p : Nat) (I : Mem) : Prop := p ≤ L ∧ Bt b L I ∧ TkC b L p I ∧ I 4 2 = 0 ∧ CV O 5 I ∧ (∀ o, n ≤ o → o < 8 → I 17 o = 0 ∧ I 18 o = 0) ∧ (∀ w, w + 1 < u → I (8 + w) n = O (3 + w) n) ∧ FcG I0 I
def RGm (n u : Nat) (O : Ofc) (p : Nat) (M : Mem) : Prop := BtM b L M ∧ TkM b L p M ∧ M 129 12 = 0 ∧ MW O 4 M ∧ (0 < u → (∀ w, 4 ≤ w → w < 9 → M 137 (9 * (32 + n) + w) = ini w) ∧ M 138 (32 + n) = 0 ∧ M 139 (32 + n) = 0) ∧ (∀ w, w + 1 < u → M 137 (9 * (32 + n) + w) = O (3 + w) n) ∧ FcM M0 M
def RG (n u : Nat) (O : Ofc) (p : Nat) (I M : Mem) : Prop := RGo n u O p ∧ RGc I0 b L n u O p I ∧ RGm M0 b L n u O p M
def RBd (n : Nat) (I M : Mem) : Prop := I 4 2 ≠ 0 ∧ M 129 12 = I 4 2 ∧ M 129 13 = I 4 3 ∧ I 5 4 = (n : Int) ∧ FcC I0 I ∧ FcM M0 M
def Rel (n u : Nat) (O : Ofc) (Ψ : Prop) (I M : Mem) : Prop := (Ψ ∧ ∃ p, RG I0 M0 b L n u O p I M) ∨ RBd I0 M0 n I M
end
section
variable {T : Knd} {A : Rfs} {I M I0 M0 : Mem} {b : Nat → Int} {L n u p : Nat} {O : Ofc} {Ψ : Prop}
theorem rel_w {Ψ' : Prop} (r : Rel I0 M0 b L n u O Ψ I M) (h : ∀ p, Ψ → RG I0 M0 b L n u O p I M → Ψ') : Rel I0 M0 b L n u O Ψ' I M := by
  rcases r with ⟨h1, p, h2⟩ | h1
  · exact Or.inl ⟨h p h1 h2, p, h2⟩
  · exact Or.inr h1
theorem r_ev (h : Ag T A) : (T 4).1 = 4 ∧ gr T A 4 0 4 = some 2 ∧ gr T A 4 1 4 = some 5 ∧ (∀ k I, gi T 4 k 4 I = some (I 4 k)) ∧ (∀ k v I, pi T 4 k 4 v I = some (mu I 4 k v)) ∧ (∀ k I, gi T 2 k 5 I = some (I 5 k)) ∧ (∀ k v I, pi T 2 k 5 v I = some (mu I 5 k v)) ∧ gr T A 2 7 5 = some 6 ∧ gr T A 2 8 5 = some 7 ∧ gr T A 2 9 5 = some 19 :=
  ⟨by rw [kT_4 h], ev_gr (kT_4 h) rfl (kA h (by decide +kernel)) (by decide), ev_gr (kT_4 h) rfl (kA h (by decide +kernel)) (by decide), ev_gi (kT_4 h) rfl, ev_pi (kT_4 h) rfl, ev_gi (kT_5 h) rfl, ev_pi (kT_5 h) rfl, ev_gr (kT_5 h) rfl (kA h (by decide +kernel)) (by decide), ev_gr (kT_5 h) rfl (kA h (by decide +kernel)) (by decide), ev_gr (kT_5 h) rfl (kA h (by decide +kernel)) (by decide)⟩
theorem q_ev (h : Ag T A) : gr T A 12 16 129 = some 135 ∧ gr T A 12 17 129 = some 136 ∧ gr T A 12 18 129 = some 137 ∧ gr T A 12 19 129 = some 138 ∧ gr T A 12 20 129 = some 139 ∧ gr T A 12 21 129 = some 140 ∧ gr T A 12 22 129 = some 141 ∧ gr T A 12 23 129 = some 142 :=
  ⟨ev_gr (kT_129 h) rfl (kA h (by decide +kernel)) (by decide), ev_gr (kT_129 h) rfl (kA h (by decide +kernel)) (by decide), ev_gr (kT_129 h) rfl (kA h (by decide +kernel)) (by decide), ev_gr (kT_129 h) rfl (kA h (by decide +kernel)) (by decide), ev_gr (kT_129 h) rfl (kA h (by decide +kernel)) (by decide), ev_gr (kT_129 h) rfl (kA h (by decide +kernel)) (by decide), ev_gr (kT_129 h) rfl (kA h (by decide +kernel)) (by decide), ev_gr (kT_129 h) rfl (kA h (by decide +kernel)) (by decide)⟩
theorem cv5_ag {I J : Mem} (h : CV O 5 I) (e : ∀ o k, 5 ≤ o → o ≤ 25 → J o k = I o k) : CV O 5 J := cv_ag h (fun o k h1 h2 => e o k h1 (by omega))
theorem sim_next (h : Ag T A) (r : RG I0 M0 b L n u O p I M) : OK2 (f_X8_advance T A 2 I) (f_X12_next T A 129 M) (fun J N => RG I0 M0 b L n u O (tt b L p) J N) := by
  obtain ⟨⟨o1, o2, o3, o4, o5, o6⟩, ⟨c1, c2, c3, c4, c5, c6, c7, c8⟩, ⟨m1, m2, m3, m4, m5, m6, m7⟩⟩ := r
  have ht := tt_in b c1
  have hf := tf_in b c1
  obtain ⟨J, eJ, j1, j2⟩ := c_advance h c2 c3.2.2.1 ht.1.2
  obtain ⟨N, eN, n1, n2⟩ := m_next h m1 m2.2.2.1 ht.1.2
  refine ⟨J, N, eJ, eN, ⟨o1, o2, o3, ⟨o4.1, by omega⟩, o5, o6⟩, ⟨ht.1.2, bt_ag c2 j2, j1, by rw [j2 _ _ (by omega)]; exact c4, cv5_ag c5 (fun o k h1 h2 => j2 o k (by omega)), fun o h1 h2 => by rw [j2 _ _ (by omega), j2 _ _ (by omega)]; exact c6 o h1 h2, fun w hw => by rw [j2 _ _ (by omega)]; exact c7 w hw, fcg_ftk c8 j2⟩, ⟨btm_ag m1 n2, n1, by rw [n2 _ _ (by omega)]; exact m3, mw_ag m4 (fun o k h1 h2 => n2 o k (by omega)), fun hu => ?_, fun w hw => by rw [n2 _ _ (by omega)]; exact m6 w hw, fcm_ftm m7 n2⟩⟩
  obtain ⟨q1, q2, q3⟩ := m5 hu
  exact ⟨fun w h1 h2 => by rw [n2 _ _ (by omega)]; exact q1 w h1 h2, by rw [n2 _ _ (by omega)]; exact q2, by rw [n2 _ _ (by omega)]; exact q3⟩
theorem c_blame (h : Ag T A) (f : Int) (I : Mem) : f_X4_blame T A 4 f I = some (0, mu (mu I 4 2 f) 4 3 (I 2 3)) := by
  obtain ⟨k0, k1, k2, k3, k4, k5, k6, k7, k8, k9⟩ := r_ev h
  obtain ⟨t0, t1, t2, t3, t4⟩ := t_ev h
  unfold f_X4_blame
  rw [if_pos k0, k4, some_bind, k1, some_bind, t2, some_bind, k4, some_bind, mu_o _ _ (by omega)]
theorem m_fails (h : Ag T A) (f : Int) (M : Mem) : f_X12_fails T A 129 f M = some (if M 129 12 = 0 then mu (mu M 129 12 f) 129 13 (M 129 9) else M) := by
  obtain ⟨k0, k1, k2, k3, k4⟩ := g_ev h
  unfold f_X12_fails
  rw [if_pos k0, k2, some_bind]
  by_cases c : M 129 12 = 0
  · rw [if_pos c, if_pos c, k3, some_bind, k2, some_bind, k3, some_bind, mu_o _ _ (by omega)]
  · rw [if_neg c, if_neg c]
theorem rb_of (r : RG I0 M0 b L n u O p I M) {f : Int} (hf : f ≠ 0) : RBd I0 M0 n (mu (mu I 4 2 f) 4 3 (I 2 3)) (mu (mu M 129 12 f) 129 13 (M 129 9)) := by
  obtain ⟨⟨o1, o2, o3, o4, o5, o6⟩, ⟨c1, c2, c3, c4, c5, c6, c7, c8⟩, ⟨m1, m2, m3, m4, m5, m6, m7⟩⟩ := r
  refine ⟨?_, ?_, ?_, ?_, fcc_mu (fcc_mu c8.1 (by decide) (by decide)) (by decide) (by decide), fcm_mu (fcm_mu m7 (Or.inl ⟨rfl, by decide, by decide⟩)) (Or.inl ⟨rfl, by decide, by decide⟩)⟩
  · rw [mu_o _ _ (by omega), mu_s]; exact hf
  · rw [mu_o _ _ (by omega), mu_s, mu_o _ _ (by omega), mu_s]
  · rw [mu_s, mu_s, c3.2.1, m2.2.1]
  · rw [mu_o _ _ (by omega), mu_o _ _ (by omega), ← o1]
    exact c5.1 4 (by decide)
theorem sim_blame (h : Ag T A) (r : RG I0 M0 b L n u O p I M) {f : Int} (hf : f ≠ 0) : OK2 (f_X4_blame T A 4 f I) (f_X12_fails T A 129 f M) (fun x N => x.1 = 0 ∧ RBd I0 M0 n x.2 N) := by
  rw [c_blame h, m_fails h, if_pos r.2.2.2.2.1]
  exact ok2_i ⟨rfl, rb_of r hf⟩
theorem c_number0 (h : Ag T A) {lo hi : Int} (g : I 4 2 ≠ 0) : f_X4_takeNumber T A 4 lo hi I = some (0, I) := by
  obtain ⟨k0, k1, k2, k3, k4, k5, k6, k7, k8, k9⟩ := r_ev h
  unfold f_X4_takeNumber
  rw [if_pos k0, k3, some_bind, if_neg g]
theorem m_number0 (h : Ag T A) {lo hi : Int} (g : M 129 12 ≠ 0) : f_X12_number T A 129 lo hi M = some (lo, M) := by
  obtain ⟨k0, k1, k2, k3, k4⟩ := g_ev h
  unfold f_X12_number
  rw [if_pos k0, k2, some_bind, if_neg g]
theorem sim_numberG (h : Ag T A) (r : RG I0 M0 b L n u O p I M) {lo hi : Int} (hh : hi < 100000) : OK2 (f_X4_takeNumber T A 4 lo hi I) (f_X12_number T A 129 lo hi M) (fun x y => (RG I0 M0 b L n u O (tt b L p) x.2 y.2 ∧ tk b L p = 2 ∧ y.1 = x.1 ∧ (lo ≤ x.1 ∧ x.1 ≤ hi) ∧ x.1 = mnu b (tf b L p) (tt b L p - tf b L p)) ∨ (RBd I0 M0 n x.2 y.2 ∧ x.1 = 0)) := by
  obtain ⟨k0, k1, k2, k3, k4, k5, k6, k7, k8, k9⟩ := r_ev h
  obtain ⟨t0, t1, t2, t3, t4⟩ := t_ev h
  obtain ⟨g0, g1, g2, g3, g4⟩ := g_ev h
  have r' := r
  obtain ⟨⟨o1, o2, o3, o4, o5, o6⟩, ⟨c1, c2, c3, c4, c5, c6, c7, c8⟩, ⟨m1, m2, m3, m4, m5, m6, m7⟩⟩ := r
  unfold f_X4_takeNumber f_X12_number
  rw [if_pos k0, if_pos g0]
  simp only [k1, k3, t2, g2, some_bind, m_in]
  rw [if_pos c4, if_pos m3, c3.1, m2.1]
  by_cases c : tk b L p = 2
  · have ec := c3.2.2.2 c
    have em := m2.2.2.2.1 c
    obtain ⟨d1, d2, d3, d4⟩ := tk_2 c
    have te1 := te_in dgt b (Nat.le_of_lt d1)
    have rg := mnu_rg (b := b) (f := tf b L p) (tt b L p - tf b L p) (fun i hi => te1.2.1 _ (by omega) (by omega))
    rw [if_pos c, if_pos c, ec, em]
    by_cases d : lo ≤ mnu b (tf b L p) (tt b L p - tf b L p) ∧ mnu b (tf b L p) (tt b L p - tf b L p) ≤ hi
    · have eq : cnu b (tf b L p) (tt b L p - tf b L p) = mnu b (tf b L p) (tt b L p - tf b L p) := by omega
      obtain ⟨J, N, eJ, eN, rJ⟩ := sim_next h r'
      rw [if_neg (by omega), if_pos (by omega), eJ, some_bind, thn_r, if_pos d, if_neg (by decide), eN, some_bind]
      refine ok2_i (Or.inl ⟨rJ, c, eq.symm, ?_, eq⟩)
      try dsimp only
      omega
    · have nl : ∀ z : Option (Unit ⊕ (Int × Mem)), (if cnu b (tf b L p) (tt b L p - tf b L p) < lo then some (.inl ()) else if cnu b (tf b L p) (tt b L p - tf b L p) ≤ hi then z else some (.inl ())) = (some (.inl ()) : Option (Unit ⊕ (Int × Mem))) := fun z => by
        by_cases e : cnu b (tf b L p) (tt b L p - tf b L p) < lo
        · rw [if_pos e]
        · rw [if_neg e, if_neg (by omega)]
      rw [nl, thn_l, if_neg d, if_pos rfl]
      refine ok2_b (ok2_m (sim_blame h r' (by decide)) (fun x N hx => ok2_i (Or.inr ⟨hx.2, hx.1⟩)))
  · rw [if_neg c, if_neg c]
    refine ok2_b (ok2_m (sim_blame h r' (by decide)) (fun x N hx => ok2_i (Or.inr ⟨hx.2, hx.1⟩)))
theorem sim_number (h : Ag T A) (r : Rel I0 M0 b L n u O Ψ I M) {lo hi lo' hi' : Int} (hh : Ψ → lo = lo' ∧ hi = hi' ∧ hi < 100000) : OK2 (f_X4_takeNumber T A 4 lo hi I) (f_X12_number T A 129 lo' hi' M) (fun x y => Rel I0 M0 b L n u O (Ψ ∧ y.1 = x.1 ∧ lo ≤ x.1 ∧ x.1 ≤ hi) x.2 y.2 ∧ (x.1 = 0 ∨ (lo ≤ x.1 ∧ x.1 ≤ hi))) := by
  rcases r with ⟨h1, p, r⟩ | r
  · obtain ⟨e1, e2, e3⟩ := hh h1
    subst e1 e2
    refine ok2_m (sim_numberG h r e3) (fun x y hxy => ?_)
    rcases hxy with ⟨q1, q2, q3, ⟨q4, q5⟩, q6⟩ | ⟨q1, q2⟩
    · exact ⟨Or.inl ⟨⟨h1, q3, q4, q5⟩, _, q1⟩, Or.inr ⟨q4, q5⟩⟩
    · exact ⟨Or.inr q1, Or.inl q2⟩
  · rw [c_number0 h r.1, m_number0 h (by rw [r.2.1]; exact r.1)]
    exact ok2_i ⟨Or.inr r, Or.inl rfl⟩
theorem m_takes (h : Ag T A) (r : RG I0 M0 b L n u O p I M) {w : Nat} : f_X12_takes T A 129 (wpk w) M = if isw b L p w = true then (f_X12_next T A 129 M).bind (fun e => some (1, e)) else some (0, M) := by
  obtain ⟨g0, g1, g2, g3, g4⟩ := g_ev h
  unfold f_X12_takes
  rw [if_pos g0, m_is h r.2.2.2.1 r.2.2.2.2.1, some_bind]
  cases isw b L p w
  · rw [if_pos (show bi false = 0 from rfl), if_neg (by decide)]
  · rw [if_neg (show ¬ bi true = 0 by decide), if_pos rfl]
theorem m_asks0 (h : Ag T A) (g : M 129 12 ≠ 0) (w : Int) : f_X12_asks T A 129 w M = some M := by
  obtain ⟨g0, g1, g2, g3, g4⟩ := g_ev h
  unfold f_X12_asks f_X12_takes
  rw [if_pos g0, if_pos g0, m_is0 h g, some_bind, if_pos rfl, some_bind, if_pos rfl, m_fails h, if_neg g, some_bind]
theorem m_asks (h : Ag T A) (r : RG I0 M0 b L n u O p I M) {w : Nat} : f_X12_asks T A 129 (wpk w) M = if isw b L p w = true then f_X12_next T A 129 M else f_X12_fails T A 129 1 M := by
  obtain ⟨g0, g1, g2, g3, g4⟩ := g_ev h
  unfold f_X12_asks
  rw [if_pos g0, m_takes h r]
  cases isw b L p w
  · rw [if_neg (by decide), if_neg (by decide), some_bind, if_pos rfl]
    cases f_X12_fails T A 129 1 M <;> rfl
  · rw [if_pos rfl, if_pos rfl]
    cases f_X12_next T A 129 M
    · rfl
    · rw [some_bind, some_bind, if_neg (show ¬ (1 : Int) = 0 by decide)]
theorem sim_after (h : Ag T A) (r : Rel I0 M0 b L n u O Ψ I M) {w : Nat} (hw : w < 17) {W : Int} (hW : W = wpk w) {lo hi lo' hi' : Int} (hh : Ψ → lo = lo' ∧ hi = hi' ∧ hi < 100000) : OK2 (f_X4_takeAfter T A 4 w lo hi I) (f_X12_number_ T A 129 W lo' hi' M) (fun x y => Rel I0 M0 b L n u O (Ψ ∧ y.1 = x.1 ∧ lo ≤ x.1 ∧ x.1 ≤ hi) x.2 y.2 ∧ (x.1 = 0 ∨ (lo ≤ x.1 ∧ x.1 ≤ hi))) := by
  obtain ⟨k0, k1, k2, k3, k4, k5, k6, k7, k8, k9⟩ := r_ev h
  obtain ⟨g0, g1, g2, g3, g4⟩ := g_ev h
  subst hW
  unfold f_X4_takeAfter f_X12_number_
  rw [if_pos k0, k3, some_bind, if_pos g0]
  rcases r with ⟨h1, p, r⟩ | r
  · have c4 := r.2.1.2.2.2.1
    rw [if_pos c4, k1, some_bind, c_isWord h r.2.1.2.1 r.2.1.1 hw r.2.1.2.2.1, some_bind, m_asks h r]
    cases isw b L p w
    · rw [if_pos (show bi false = 0 from rfl), if_neg (by decide)]
      refine ok2_b (ok2_m (sim_blame h r (by decide)) (fun x N hx => ?_))
      rw [m_number0 h (by rw [hx.2.2.1]; exact hx.2.1), some_bind]
      exact ok2_i ⟨Or.inr hx.2, Or.inl hx.1⟩
    · rw [if_neg (show ¬ bi true = 0 by decide), if_pos rfl, some_bind]
      refine ok2_b (ok2_m (sim_next h r) (fun J N rJ => ?_))
      refine ok2_b (ok2_m (sim_number h (Or.inl ⟨h1, _, rJ⟩) hh) (fun x y hxy => ?_))
      exact ok2_i hxy
  · rw [if_neg r.1, m_asks0 h (by rw [r.2.1]; exact r.1), some_bind, m_number0 h (by rw [r.2.1]; exact r.1), some_bind]
    exact ok2_i ⟨Or.inr r, Or.inl rfl⟩
/-! what is told is put on both sides -/
theorem cv_rw {P r o : Nat} {v : Int} (hc : CV O P I) (h : r = 0 → o ≠ 4 ∧ o ≠ 6) : CV (rwO O r o v) P (mu I (P + r) o v) := by
  have s : ∀ r' o', I (P + r') o' = O r' o' → mu I (P + r) o v (P + r') o' = rwO O r o v r' o' := fun r' o' he => by
    by_cases c : r' = r ∧ o' = o
    · rw [c.1, c.2, mu_s, rw_s]
    · rw [mu_o _ _ (by omega), rw_o _ _ c]; exact he
  have k4 : rwO O r o v 0 4 = O 0 4 := rw_o _ _ (fun z => (h z.1.symm).1 z.2.symm)
  have k6 : rwO O r o v 0 6 = O 0 6 := rw_o _ _ (fun z => (h z.1.symm).2 z.2.symm)
  refine ⟨fun k hk => s 0 k (hc.1 k hk), fun k hk => ?_, fun w o' hw ho' => ?_, fun r' c hr hcc => ?_⟩
  · rw [k6] at hk
    exact s 1 k (hc.2.1 k hk)
  · rw [k4] at ho'
    have := s (3 + w) o' (by rw [show P + (3 + w) = P + 3 + w by omega]; exact hc.2.2.1 w o' hw ho')
    rw [show P + (3 + w) = P + 3 + w by omega] at this
    exact this
  · have := s (15 + r') c (by rw [show P + (15 + r') = P + 15 + r' by omega]; exact hc.2.2.2 r' c hr hcc)
    rw [show P + (15 + r') = P + 15 + r' by omega] at this
    exact this
theorem rgc_set {r o : Nat} {v : Int} (q : RGc I0 b L n u O p I) (hr : r ≤ 20) (h0 : r = 0 → o ≠ 4 ∧ o ≠ 6) (hz : r = 12 ∨ r = 13 → o < n) : RGc I0 b L n u (rwO O r o v) p (mu I (5 + r) o v) := by
  obtain ⟨c1, c2, c3, c4, c5, c6, c7, c8⟩ := q
  refine ⟨c1, ⟨c2.1, by rw [mu_o _ _ (by omega)]; exact c2.2.1, fun k hk => by rw [mu_o _ _ (by omega)]; exact c2.2.2 k hk⟩, ⟨by rw [mu_o _ _ (by omega)]; exact c3.1, by rw [mu_o _ _ (by omega)]; exact c3.2.1, by rw [mu_o _ _ (by omega)]; exact c3.2.2.1, fun hk => by rw [mu_o _ _ (by omega)]; exact c3.2.2.2 hk⟩, by rw [mu_o _ _ (by omega)]; exact c4, cv_rw c5 h0, fun x h1 h2 => by rw [mu_o _ _ (by omega), mu_o _ _ (by omega)]; exact c6 x h1 h2, fun w hw => ?_, fcg_mu c8 (by omega) (by omega)⟩
  by_cases c : 3 + w = r ∧ n = o
  · rw [← c.1, c.2, show 5 + (3 + w) = 8 + w by omega, mu_s, rw_s]
  · rw [mu_o _ _ (by omega), rw_o _ _ (by omega)]; exact c7 w hw
/-- the place of the reference's READ office for what an office holds -/
def mpl (r o mo mk : Nat) : Prop := (r = 0 ∧ o = 0 ∧ mo = 135 ∧ mk = 4) ∨ (r = 0 ∧ 1 ≤ o ∧ o ≤ 5 ∧ o ≠ 4 ∧ mo = 136 ∧ mk = 23 + o) ∨ (3 ≤ r ∧ r ≤ 11 ∧ o < 8 ∧ mo = 137 ∧ mk = 9 * (32 + o) + (r - 3)) ∨ (12 ≤ r ∧ r ≤ 13 ∧ o < 8 ∧ mo = 126 + r ∧ mk = 32 + o) ∨ (15 ≤ r ∧ r ≤ 20 ∧ o < 6 ∧ mo = 140 ∧ mk = 144 + 6 * (r - 15) + o)
theorem mpl_sl {r o mo mk : Nat} (h : mpl r o mo mk) : sl4 mo mk ∧ 134 < mo ∧ mo < 141 := by
  unfold mpl at h
  unfold sl4
  omega
theorem mw_rw {r o mo mk : Nat} {v : Int} (hm : MW O 4 M) (h : mpl r o mo mk) : MW (rwO O r o v) 4 (mu M mo mk v) := by
  obtain ⟨q1, q2, q3, q4, q5, q6, q7⟩ := hm
  unfold mpl at h
  have k4 : rwO O r o v 0 4 = O 0 4 := rw_o _ _ (by omega)
  have k6 : rwO O r o v 0 6 = O 0 6 := rw_o _ _ (by omega)
  have e : ∀ r' o' x y, (r' = r ∧ o' = o → x = mo ∧ y = mk) → (¬ (r' = r ∧ o' = o) → ¬ (x = mo ∧ y = mk)) → M x y = O r' o' → mu M mo mk v x y = rwO O r o v r' o' := fun r' o' x y h1 h2 he => by
    by_cases c : r' = r ∧ o' = o
    · obtain ⟨z1, z2⟩ := h1 c
      rw [z1, z2, c.1, c.2, mu_s, rw_s]
    · rw [mu_o _ _ (h2 c), rw_o _ _ c]; exact he
  refine ⟨e 0 0 _ _ (by omega) (by omega) q1, fun k hk => e 0 (k + 1) _ _ ?_ (by omega) (q2 k hk), fun k hk => ?_, fun w o' hw ho' => ?_, fun o' ho' => ?_, fun o' ho' => ?_, fun r' c hr hc => e (15 + r') c _ _ (by omega) (by omega) (q7 r' c hr hc)⟩
  · omega
  · rw [k6] at hk
    rw [mu_o _ _ (by omega), rw_o _ _ (by omega)]; exact q3 k hk
  · rw [k4] at ho'
    exact e (3 + w) o' _ _ (by omega) (by omega) (q4 w o' hw ho')
  · rw [k4] at ho'
    exact e 12 o' _ _ (by omega) (by omega) (q5 o' ho')
  · rw [k4] at ho'
    exact e 13 o' _ _ (by omega) (by omega) (q6 o' ho')
theorem tkm_mu {a j : Nat} {v : Int} (h1 : BtM b L M) (h2 : TkM b L p M) (h3 : 134 < a) : BtM b L (mu M a j v) ∧ TkM b L p (mu M a j v) :=
  ⟨⟨h1.1, by rw [mu_o _ _ (by omega)]; exact h1.2.1, fun k hk => by rw [mu_o _ _ (by omega)]; exact h1.2.2 k hk⟩, ⟨by rw [mu_o _ _ (by omega)]; exact h2.1, by rw [mu_o _ _ (by omega)]; exact h2.2.1, by rw [mu_o _ _ (by omega)]; exact h2.2.2.1, fun hk => by rw [mu_o _ _ (by omega)]; exact h2.2.2.2.1 hk, fun hk => by rw [mu_o _ _ (by omega)]; exact h2.2.2.2.2 hk⟩⟩
theorem rgm_set {r o mo mk : Nat} {v : Int} (q : RGm M0 b L n u O p M) (h : mpl r o mo mk) (hn : n ≤ 8) (hu5 : u ≤ 5) (hu : 0 < u → ¬ (12 ≤ r ∧ r ≤ 13 ∧ o = n) ∧ ¬ (7 ≤ r ∧ r ≤ 11 ∧ o = n)) : RGm M0 b L n u (rwO O r o v) p (mu M mo mk v) := by
  obtain ⟨m1, m2, m3, m4, m5, m6, m7⟩ := q
  obtain ⟨s1, s2, s3⟩ := mpl_sl h
  obtain ⟨x1, x2⟩ := tkm_mu (v := v) (j := mk) m1 m2 s2
  have h' := h
  unfold mpl at h'
  refine ⟨x1, x2, by rw [mu_o _ _ (by omega)]; exact m3, mw_rw m4 h, fun hu0 => ?_, fun w hw => ?_, fcm_mu m7 (Or.inr s1)⟩
  · obtain ⟨z1, z2⟩ := hu hu0
    obtain ⟨q1, q2, q3⟩ := m5 hu0
    exact ⟨fun w h1 h2 => by rw [mu_o _ _ (by omega)]; exact q1 w h1 h2, by rw [mu_o _ _ (by omega)]; exact q2, by rw [mu_o _ _ (by omega)]; exact q3⟩
  · by_cases c : 3 + w = r ∧ n = o
    · have e : 137 = mo ∧ 9 * (32 + n) + w = mk := by omega
      rw [e.1, e.2, mu_s, c.1, c.2, rw_s]
    · rw [rw_o _ _ (by omega), mu_o _ _ (by omega)]; exact m6 w hw
theorem rg_set {r o mo mk : Nat} {v : Int} (q : RG I0 M0 b L n u O p I M) (h : mpl r o mo mk) (h0 : r = 0 → o = 0 → 0 ≤ v ∧ v ≤ (p : Int)) (hz : r = 12 ∨ r = 13 → o < n) (hu : 0 < u → ¬ (7 ≤ r ∧ r ≤ 11 ∧ o = n)) : RG I0 M0 b L n u (rwO O r o v) p (mu I (5 + r) o v) (mu M mo mk v) := by
  obtain ⟨⟨o1, o2, o3, o4, o5, o6⟩, q2, q3⟩ := q
  have h' := h
  unfold mpl at h'
  refine ⟨⟨by rw [rw_o _ _ (by omega)]; exact o1, o2, by rw [rw_o _ _ (by omega)]; exact o3, ?_, o5, o6⟩, rgc_set q2 (by omega) (by omega) hz, rgm_set q3 h o2 o6 (fun hu0 => ⟨fun z => by have := hz (by omega); omega, hu hu0⟩)⟩
  by_cases c : r = 0 ∧ o = 0
  · rw [c.1, c.2, rw_s]; exact h0 c.1 c.2
  · rw [rw_o _ _ (by omega)]; exact o4
theorem rb_set {a j mo mk : Nat} {v v' : Int} (q : RBd I0 M0 n I M) (h1 : 5 ≤ a ∧ a ≤ 25) (h2 : ¬ (a = 5 ∧ j = 4)) (h3 : sl4 mo mk) : RBd I0 M0 n (mu I a j v) (mu M mo mk v') := by
  obtain ⟨q1, q2, q3, q4, q5, q6⟩ := q
  have hm : mo ≠ 129 := by unfold sl4 at h3; omega
  exact ⟨by rw [mu_o _ _ (by omega)]; exact q1, by rw [mu_o _ _ (by omega), mu_o _ _ (by omega)]; exact q2, by rw [mu_o _ _ (by omega), mu_o _ _ (by omega)]; exact q3, by rw [mu_o _ _ (by omega)]; exact q4, fcc_mu q5 (by omega) (by omega), fcm_mu q6 (Or.inr h3)⟩
theorem rel_set {r o mo mk : Nat} {v v' : Int} {Φ : Prop} (q : Rel I0 M0 b L n u O (Φ ∧ v' = v) I M) (h : mpl r o mo mk) (h0 : r = 0 → o ≠ 0) (hz : r = 12 ∨ r = 13 → o < n) (hu : 0 < u → ¬ (7 ≤ r ∧ r ≤ 11 ∧ o = n)) : Rel I0 M0 b L n u (rwO O r o v) Φ (mu I (5 + r) o v) (mu M mo mk v') := by
  rcases q with ⟨⟨z1, z2⟩, p, q⟩ | q
  · rw [z2]
    exact Or.inl ⟨z1, p, rg_set q h (fun e1 e2 => absurd e2 (h0 e1)) hz hu⟩
  · have h' := h
    unfold mpl at h'
    exact Or.inr (rb_set q (by omega) (by omega) (mpl_sl h).1)
/-- one more of the official's numbers is told on both sides -/
theorem rel_tell {w : Nat} {v v' : Int} {Φ : Prop} (hw : w < 4) (q : Rel I0 M0 b L n (w + 1) O (Φ ∧ v' = v) I M) (hn : n < 8) : Rel I0 M0 b L n (w + 2) (rwO O (3 + w) n v) Φ (mu I (8 + w) n v) (mu M 137 (9 * (32 + n) + w) v') := by
  have h : mpl (3 + w) n 137 (9 * (32 + n) + w) := by unfold mpl; omega
  have := rel_set q h (by omega) (by omega) (by omega)
  rw [show 5 + (3 + w) = 8 + w by omega] at this
  rcases this with ⟨z1, p, ⟨⟨o1, o2, o3, o4, o5, o6⟩, ⟨c1, c2, c3, c4, c5, c6, c7, c8⟩, ⟨m1, m2, m3, m4, m5, m6, m7⟩⟩⟩ | q2
  · rcases q with ⟨⟨y1, y2⟩, _⟩ | q
    · refine Or.inl ⟨z1, p, ⟨o1, o2, o3, o4, fun _ => hn, by omega⟩, ⟨c1, c2, c3, c4, c5, c6, fun x hx => ?_, c8⟩, ⟨m1, m2, m3, m4, fun _ => m5 (by omega), fun x hx => ?_, m7⟩⟩
      · by_cases e : x = w
        · subst e; rw [mu_s, rw_s]
        · exact c7 x (by omega)
      · by_cases e : x = w
        · subst e; rw [mu_s, rw_s, y2]
        · exact m6 x (by omega)
    · exact Or.inr (rb_set q (by omega) (by omega) (mpl_sl h).1)
  · exact Or.inr q2
end
