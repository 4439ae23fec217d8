/-! B: the lines, side by side: an official, whole. -/
def ofT (T : Knd) (A : Rfs) (e4 e1 : Int) (v : Mem) : Option Mem := thn (it (mkM T A e4) FU (0, v)) (fun (v49 : Mem) => (f_X12_reads T A 129 3 (ia e1 1) v49).bind fun e97 => some e97)
def ofI (T : Knd) (A : Rfs) (e4 : Int) : Int × Mem → Option ((Int × Mem) ⊕ (Mem ⊕ Mem)) := fun (s10 : Int × Mem) => if s10.1 < 9 then (gr T A 12 18 129).bind fun x12 => thn (thn (if s10.1 ≤ 3 then some (.inl ()) else if s10.1 = 6 then some (.inl ()) else some (.inr (.inl (-1)))) (fun (v17 : Unit) => some (.inl 0))) (fun (v14 : Int) => (sto T 20 x12 (ia e4 s10.1) v14 s10.2).bind fun I18 => some (.inl (ia s10.1 1, I18))) else some (.inr (.inl s10.2))
theorem ofl_eq (T : Knd) (A : Rfs) (M : Mem) : f_X12_officialLine T A 129 M = if (T 129).1 = 12 then (f_X12_hasRead T A 129 3 M).bind fun e1 => (f_X12_placeRead T A 129 e1 M).bind fun e4 => thn (it (ofI T A e4) FU (0, M)) (fun (v8 : Mem) => (gr T A 12 19 129).bind fun x19 => (sto T 20 x19 (ia 32 e1) 0 v8).bind fun I20 => (gr T A 12 20 129).bind fun x21 => (sto T 20 x21 (ia 32 e1) 0 I20).bind fun I22 => (f_X12_asks T A 129 365647 I22).bind fun e23 => (gr T A 12 18 129).bind fun x25 => (f_X12_roomHere T A 129 e23).bind fun e26 => (sto T 20 x25 e4 e26.1 e26.2).bind fun I29 => (gr T A 12 18 129).bind fun x30 => (f_X12_number_ T A 129 131638 0 9 I29).bind fun e31 => (sto T 20 x30 (ia e4 1) e31.1 e31.2).bind fun I34 => (gr T A 12 18 129).bind fun x35 => (gr T A 12 18 129).bind fun x36 => (ld T 20 x36 (ia e4 1) I34).bind fun x37 => (f_X12_number_ T A 129 555 x37 9 I34).bind fun e39 => (sto T 20 x35 (ia e4 2) e39.1 e39.2).bind fun I42 => (gr T A 12 18 129).bind fun x43 => (f_X12_number_ T A 129 80155 1 31 I42).bind fun e44 => (sto T 20 x43 (ia e4 3) e44.1 e44.2).bind fun I47 => ofT T A e4 e1 I47) else none := rfl
def MSt (T : Knd) (A : Rfs) (Ψ : Prop) (I0 M0 : Mem) (b : Nat → Int) (L n : Nat) (O : Ofc) (M1 : Mem) (r j : Nat) (J : Mem) : Prop := ∃ k ip M', it (mkM T A (9 * (32 + (n : Int)))) FU (0, M1) = it (mkM T A (9 * (32 + (n : Int)))) k (ip, M') ∧ FU ≤ k + (3 * r + j) ∧ ((∃ p c, Ψ ∧ MK I0 M0 b L n O p c J M' ∧ ip = mip c ∧ (stuck b L p c ∨ abn c + (r + 1) ≤ 3 ∨ (abn c + r ≤ 3 ∧ ∃ m, j ≤ m ∧ m < 3 ∧ c m = -1 ∧ isw b L p (9 + m) = true))) ∨ RBd I0 M0 n J M')
theorem abn_pos {c : Nat → Int} {m : Nat} (hm : m < 3) (h : c m = -1) : 1 ≤ abn c := by
  unfold abn
  rcases (by omega : m = 0 ∨ m = 1 ∨ m = 2) with e | e | e
  · subst e; rw [if_pos h]; omega
  · subst e; rw [if_pos h]; omega
  · subst e; rw [if_pos h]; omega
theorem abn_le (c : Nat → Int) : abn c ≤ 3 := by
  unfold abn
  split <;> split <;> split <;> omega
theorem stuck_or (b : Nat → Int) (L p : Nat) (c : Nat → Int) : stuck b L p c ∨ ∃ m, 0 ≤ m ∧ m < 3 ∧ c m = -1 ∧ isw b L p (9 + m) = true := by
  by_cases ex : ∃ m, 0 ≤ m ∧ m < 3 ∧ c m = -1 ∧ isw b L p (9 + m) = true
  · exact Or.inr ex
  · refine Or.inl (fun m hm hc => ?_)
    cases hx : isw b L p (9 + m)
    · rfl
    · exact absurd ⟨m, Nat.zero_le _, hm, hc, hx⟩ ex
section
variable {T : Knd} {A : Rfs} {I M I0 M0 M1 : Mem} {b : Nat → Int} {L n u p : Nat} {O : Ofc} {Ψ : Prop} {c : Nat → Int}
theorem ms_try (h : Ag T A) (hn : n < 8) {r j : Nat} (hj : j < 3) (hr : r < 3) {J : Mem} (s : MSt T A Ψ I0 M0 b L n O M1 r j J) : OK (f_X4_readMark T A 4 (9 + j) ((4 + j : Nat) : Int) (mlo j) (mhi j) J) (fun J' => MSt T A Ψ I0 M0 b L n O M1 r (j + 1) J') := by
  have hF : FU = 1000000 := rfl
  obtain ⟨k, ip, M', e1, e2, e3⟩ := s
  rcases e3 with ⟨p, c, hΨ, mk, e4, e5⟩ | bd
  · obtain ⟨k', ek⟩ : ∃ k', k = k' + 1 := ⟨k - 1, by omega⟩
    obtain ⟨J', eJ, q1, q2⟩ := c_mark h hj hn mk k'
    rw [eJ]
    by_cases d : c j = -1 ∧ isw b L p (9 + j) = true
    · obtain ⟨ip', M2, f1, f2⟩ := q2 d.1 d.2
      refine ok_i ⟨k', ip', M2, by rw [e1, ek, e4, f1], by omega, ?_⟩
      rcases f2 with ⟨v, p', g1, g2, g3⟩ | g
      · have ha := abn_up hj d.1 g2
        refine Or.inl ⟨p', _, hΨ, g1, g3, Or.inr (Or.inl ?_)⟩
        rcases e5 with z | z | z
        · have := z j hj d.1
          rw [d.2] at this
          exact absurd this (by decide)
        · omega
        · omega
      · exact Or.inr g
    · have eq := q1 d
      subst eq
      refine ok_i ⟨k, ip, M', e1, by omega, Or.inl ⟨p, c, hΨ, mk, e4, ?_⟩⟩
      rcases e5 with z | z | ⟨z1, m, z2, z3, z4, z5⟩
      · exact Or.inl z
      · exact Or.inr (Or.inl z)
      · refine Or.inr (Or.inr ⟨z1, m, ?_, z3, z4, z5⟩)
        by_cases e : m = j
        · exact absurd ⟨by rw [← e]; exact z4, by rw [← e]; exact z5⟩ d
        · omega
  · rw [c_mark0 h hj bd.1]
    exact ok_i ⟨k, ip, M', e1, by omega, Or.inr bd⟩
theorem ms_round {r : Nat} {J : Mem} (s : MSt T A Ψ I0 M0 b L n O M1 r 3 J) : MSt T A Ψ I0 M0 b L n O M1 (r + 1) 0 J := by
  obtain ⟨k, ip, M', e1, e2, e3⟩ := s
  refine ⟨k, ip, M', e1, by omega, ?_⟩
  rcases e3 with ⟨p, c, hΨ, mk, e4, e5⟩ | bd
  · refine Or.inl ⟨p, c, hΨ, mk, e4, ?_⟩
    rcases e5 with z | z | ⟨z1, m, z2, z3, z4, z5⟩
    · exact Or.inl z
    · rcases stuck_or b L p c with w | w
      · exact Or.inl w
      · exact Or.inr (Or.inr ⟨z, w⟩)
    · omega
  · exact Or.inr bd
theorem ms_end {J : Mem} (s : MSt T A Ψ I0 M0 b L n O M1 3 0 J) : ∃ k ip M', it (mkM T A (9 * (32 + (n : Int)))) FU (0, M1) = it (mkM T A (9 * (32 + (n : Int)))) (k + 1) (ip, M') ∧ ((∃ p c, Ψ ∧ MK I0 M0 b L n O p c J M' ∧ ip = mip c ∧ stuck b L p c) ∨ RBd I0 M0 n J M') := by
  have hF : FU = 1000000 := rfl
  obtain ⟨k, ip, M', e1, e2, e3⟩ := s
  obtain ⟨k', ek⟩ : ∃ k', k = k' + 1 := ⟨k - 1, by omega⟩
  refine ⟨k', ip, M', by rw [e1, ek], ?_⟩
  rcases e3 with ⟨p, c, hΨ, mk, e4, e5⟩ | bd
  · refine Or.inl ⟨p, c, hΨ, mk, e4, ?_⟩
    rcases e5 with z | z | ⟨z1, m, z2, z3, z4, z5⟩
    · exact z
    · omega
    · have := abn_pos z3 z4
      omega
  · exact Or.inr bd
theorem c_marks (h : Ag T A) (hn : n < 8) {J : Mem} (s : MSt T A Ψ I0 M0 b L n O M1 0 0 J) : ∃ V, it (fun (s43 : Int × Mem) => if s43.1 < 3 then (f_X4_readMark T A 4 9 4 0 9 s43.2).bind fun e45 => (f_X4_readMark T A 4 10 5 1 20 e45).bind fun e47 => (f_X4_readMark T A 4 11 6 0 99 e47).bind fun e49 => some (.inl (ia s43.1 1, e49)) else some (.inr (.inl s43.2))) FU (0, J) = (some (.inl V) : Option (Mem ⊕ Mem)) ∧ MSt T A Ψ I0 M0 b L n O M1 3 0 V := by
  suffices hz : OK (it (fun (s43 : Int × Mem) => if s43.1 < 3 then (f_X4_readMark T A 4 9 4 0 9 s43.2).bind fun e45 => (f_X4_readMark T A 4 10 5 1 20 e45).bind fun e47 => (f_X4_readMark T A 4 11 6 0 99 e47).bind fun e49 => some (.inl (ia s43.1 1, e49)) else some (.inr (.inl s43.2))) FU (0, J)) (fun (z : Mem ⊕ Mem) => match z with | .inl v => MSt T A Ψ I0 M0 b L n O M1 3 0 v | .inr _ => False) by
    obtain ⟨z, e, hz⟩ := hz
    cases z with
    | inl v => exact ⟨v, e, hz⟩
    | inr v => exact hz.elim
  refine it_run (fun r (x : Int × Mem) => x.1 = (r : Int) ∧ MSt T A Ψ I0 M0 b L n O M1 r 0 x.2) 3 ?_ ?_ 0 FU _ (by omega) (by unfold FU; omega) ⟨rfl, s⟩
  · rintro r ⟨x1, V⟩ hr ⟨rfl, hV⟩
    try dsimp only at hV ⊢
    rw [if_pos (by omega)]
    refine ok_b (ok_m (ms_try h hn (j := 0) (by decide) hr hV) (fun V1 h1 => ?_))
    refine ok_b (ok_m (ms_try h hn (j := 1) (by decide) hr h1) (fun V2 h2 => ?_))
    refine ok_b (ok_m (ms_try h hn (j := 2) (by decide) hr h2) (fun V3 h3 => ?_))
    rw [ia_1 (by omega)]
    exact ok_i ⟨rfl, ms_round h3⟩
  · rintro ⟨x1, V⟩ ⟨rfl, hV⟩
    try dsimp only at hV ⊢
    rw [if_neg (by omega)]
    exact ok_i hV
theorem m_ofI (h : Ag T A) (hn : n < 8) (M : Mem) : ∃ V, it (ofI T A (9 * (32 + (n : Int)))) FU (0, M) = some (.inl V) ∧ (∀ w, w < 9 → V 137 (9 * (32 + n) + w) = ini w) ∧ ∀ o k, ¬ (o = 137 ∧ 9 * (32 + n) ≤ k ∧ k < 9 * (32 + n) + 9) → V o k = M o k := by
  suffices hz : OK (it (ofI T A (9 * (32 + (n : Int)))) FU (0, M)) (fun (z : Mem ⊕ Mem) => match z with | .inl V => (∀ w, w < 9 → V 137 (9 * (32 + n) + w) = ini w) ∧ ∀ o k, ¬ (o = 137 ∧ 9 * (32 + n) ≤ k ∧ k < 9 * (32 + n) + 9) → V o k = M o k | .inr _ => False) by
    obtain ⟨z, e, hz⟩ := hz
    cases z with
    | inl v => exact ⟨v, e, hz.1, hz.2⟩
    | inr v => exact hz.elim
  refine it_run (fun r (x : Int × Mem) => x.1 = (r : Int) ∧ (∀ w, w < r → x.2 137 (9 * (32 + n) + w) = ini w) ∧ ∀ o k, ¬ (o = 137 ∧ 9 * (32 + n) ≤ k ∧ k < 9 * (32 + n) + 9) → x.2 o k = M o k) 9 ?_ ?_ 0 FU _ (by omega) (by unfold FU; omega) ⟨rfl, fun w hw => absurd hw (by omega), fun _ _ _ => rfl⟩
  · rintro r ⟨x1, V⟩ hr ⟨rfl, h1, h2⟩
    try dsimp only at h1 h2 ⊢
    unfold ofI
    dsimp only
    rw [if_pos (by omega), (q_ev h).2.2.1, some_bind]
    refine ok_tn (ok_e (v := .inl (ini r)) ?_ ?_)
    · unfold ini
      by_cases c1 : r ≤ 3
      · rw [if_pos (by omega), if_pos (Or.inl c1), thn_l]
      · rw [if_neg (by omega)]
        by_cases c2 : r = 6
        · rw [if_pos (by omega), if_pos (Or.inr c2), thn_l]
        · rw [if_neg (by omega), if_neg (by omega), thn_r]
    · show OK _ _
      dsimp only
      rw [ia_eq (by omega) (by omega), ev_sto (kT_137 h), if_pos (by omega), some_bind, ia_1 (by omega), show (9 * (32 + (n : Int)) + (r : Int)).toNat = 9 * (32 + n) + r by omega]
      refine ok_i ⟨rfl, fun w hw => ?_, fun o k hk => ?_⟩
      · try dsimp only
        by_cases e : w = r
        · subst e; rw [mu_s]
        · rw [mu_o _ _ (by omega)]; exact h1 w (by omega)
      · try dsimp only
        rw [mu_o _ _ (by omega)]; exact h2 o k hk
  · rintro ⟨x1, V⟩ ⟨rfl, h1, h2⟩
    unfold ofI
    try dsimp only at h1 h2 ⊢
    rw [if_neg (by omega)]
    exact ok_i ⟨h1, h2⟩
theorem rg_ini (r : RG I0 M0 b L n 0 O p I M) (hn : n < 8) {V : Mem} (v1 : ∀ w, w < 9 → V 137 (9 * (32 + n) + w) = ini w) (v2 : V 138 (32 + n) = 0 ∧ V 139 (32 + n) = 0) (v3 : ∀ o k, ¬ (o = 137 ∧ 9 * (32 + n) ≤ k ∧ k < 9 * (32 + n) + 9) → ¬ ((o = 138 ∨ o = 139) ∧ k = 32 + n) → V o k = M o k) : RG I0 M0 b L n 1 O p I V := by
  obtain ⟨⟨o1, o2, o3, o4, o5, o6⟩, ⟨c1, c2, c3, c4, c5, c6, c7, c8⟩, ⟨m1, m2, m3, m4, m5, m6, m7⟩⟩ := r
  refine ⟨⟨o1, o2, o3, o4, fun _ => hn, by decide⟩, ⟨c1, c2, c3, c4, c5, c6, fun w hw => absurd hw (by omega), c8⟩, ⟨⟨m1.1, by rw [v3 _ _ (by omega) (by omega)]; exact m1.2.1, fun k hk => by rw [v3 _ _ (by omega) (by omega)]; exact m1.2.2 k hk⟩, ⟨by rw [v3 _ _ (by omega) (by omega)]; exact m2.1, by rw [v3 _ _ (by omega) (by omega)]; exact m2.2.1, by rw [v3 _ _ (by omega) (by omega)]; exact m2.2.2.1, fun hk => by rw [v3 _ _ (by omega) (by omega)]; exact m2.2.2.2.1 hk, fun hk => by rw [v3 _ _ (by omega) (by omega)]; exact m2.2.2.2.2 hk⟩, by rw [v3 _ _ (by omega) (by omega)]; exact m3, ?_, fun _ => ⟨fun w _ h2 => v1 w h2, v2⟩, fun w hw => absurd hw (by omega), fun o k h1 h2 => ?_⟩⟩
  · obtain ⟨q1, q2, q3, q4, q5, q6, q7⟩ := m4
    refine ⟨by rw [v3 _ _ (by omega) (by omega)]; exact q1, fun k hk => by rw [v3 _ _ (by omega) (by omega)]; exact q2 k hk, fun k hk => by rw [v3 _ _ (by omega) (by omega)]; exact q3 k hk, fun w o hw ho => ?_, fun o ho => ?_, fun o ho => ?_, fun r c hr hc => by rw [v3 _ _ (by omega) (by omega)]; exact q7 r c hr hc⟩
    · rw [v3 _ _ (by rw [o1] at ho; omega) (by omega)]; exact q4 w o hw ho
    · rw [v3 _ _ (by omega) (by rw [o1] at ho; omega)]; exact q5 o ho
    · rw [v3 _ _ (by omega) (by rw [o1] at ho; omega)]; exact q6 o ho
  · unfold sl4 at h2
    rw [v3 _ _ (by omega) (by omega)]; exact m7 o k h1 (by unfold sl4; exact h2)
theorem rb_ini (r : RBd I0 M0 n I M) (hn : n < 8) {V : Mem} (v3 : ∀ o k, ¬ (o = 137 ∧ 9 * (32 + n) ≤ k ∧ k < 9 * (32 + n) + 9) → ¬ ((o = 138 ∨ o = 139) ∧ k = 32 + n) → V o k = M o k) : RBd I0 M0 n I V := by
  obtain ⟨q1, q2, q3, q4, q5, q6⟩ := r
  refine ⟨q1, by rw [v3 _ _ (by omega) (by omega)]; exact q2, by rw [v3 _ _ (by omega) (by omega)]; exact q3, q4, q5, fun o k h1 h2 => ?_⟩
  unfold sl4 at h2
  rw [v3 _ _ (by omega) (by omega)]; exact q6 o k h1 (by unfold sl4; exact h2)
end
