/-! B: what is to be dropped: the class's table. -/
abbrev R3 : Type := Int × Int × Int
def jn (s i : Nat) : Nat := (ior (s : Int) (ishl 1 (i : Int))).toNat
def dpa (O : Ofc) (s i : Nat) : Int := scn (hb (iand (O 12 i) (ixor (s : Int) (-1)))) 8
def dpb (O : Ofc) (s i : Nat) : Int := scn (hb (iand (O 13 i) (s : Int))) 8
def pnx (O : Ofc) (t : Nat → R3) (s i : Nat) (q : R3) : R3 := if hb (s : Int) i = true then q else if q.2.2 = -1 ∨ (ia (ia (t (jn s i)).1 (dpa O s i)) (dpb O s i) < q.1 ∨ (ia (ia (t (jn s i)).1 (dpa O s i)) (dpb O s i) = q.1 ∧ ia (t (jn s i)).2.1 1 < q.2.1)) then (ia (ia (t (jn s i)).1 (dpa O s i)) (dpb O s i), ia (t (jn s i)).2.1 1, (i : Int)) else q
def pkf (O : Ofc) (t : Nat → R3) (s : Nat) : Nat → R3
  | 0 => (0, 0, -1)
  | i + 1 => pnx O t s i (pkf O t s i)
def dnx (O : Ofc) (D : Nat → Int) (s i : Nat) (q : Int) : Int := if hb (s : Int) i = true then q else if ia (ia (im 16 (ia (dpa O s i) (dpb O s i))) 1) (D (jn s i)) < q then ia (ia (im 16 (ia (dpa O s i) (dpb O s i))) 1) (D (jn s i)) else q
def dkf (O : Ofc) (D : Nat → Int) (s : Nat) : Nat → Int
  | 0 => 100000
  | i + 1 => dnx O D s i (dkf O D s i)
def pok (O : Ofc) (s : Nat) : Bool := decide (iand (O 0 5) (ixor (s : Int) (-1)) = 0)
def tb3 (I : Mem) : Nat → R3 := fun x => (I 108 x, I 109 x, I 110 x)
theorem jn_in : ∀ k : Nat, k < 256 → ∀ i : Nat, i < 8 → 0 ≤ ior (k : Int) (ishl 1 (i : Int)) ∧ ior (k : Int) (ishl 1 (i : Int)) < 256 ∧ (ior (k : Int) (ishl 1 (i : Int)) = (k : Int) ↔ hb (k : Int) i = true) ∧ (k : Int) ≤ ior (k : Int) (ishl 1 (i : Int)) := by decide +kernel
theorem jn_lt {n s i : Nat} (hn : n ≤ 8) (hs : s < 2 ^ n) (hi : i < n) (hb0 : hb (s : Int) i = false) : s < jn s i ∧ jn s i < 2 ^ n ∧ ior (s : Int) (ishl 1 (i : Int)) = (jn s i : Int) := by
  have hp := pw_le hn
  have j := jn_in s (by omega) i (by omega)
  have hsl : sl n (ior (s : Int) (ishl 1 (i : Int))) := ⟨cn_ior _ _, fun k hk => by
    have h2 : sl n (s : Int) := sl_of (by omega) (by omega) (by rw [show ((2 : Int) ^ n) = ((2 ^ n : Nat) : Int) by rw [Int.natCast_pow]; rfl]; omega)
    rw [hb_or, h2.2 k hk, hb_shl (by omega), decide_eq_false (by omega)]; rfl⟩
  have r := sl_rg (by omega) hsl
  rw [show ((2 : Int) ^ n) = ((2 ^ n : Nat) : Int) by rw [Int.natCast_pow]; rfl] at r
  have ne : ior (s : Int) (ishl 1 (i : Int)) ≠ (s : Int) := fun e => by rw [j.2.2.1.mp e] at hb0; exact absurd hb0 (by decide)
  unfold jn
  omega
theorem pkf_ext {O : Ofc} {t t' : Nat → R3} {s : Nat} : ∀ n, (∀ i, i < n → hb (s : Int) i = false → t (jn s i) = t' (jn s i)) → pkf O t s n = pkf O t' s n := by
  intro n
  induction n with
  | zero => intro _; rfl
  | succ n ih =>
    intro e
    rw [pkf, pkf, ih (fun i hi => e i (by omega))]
    unfold pnx
    cases hx : hb (s : Int) n
    · rw [e n (by omega) hx]
    · rw [if_pos rfl, if_pos rfl]
theorem dkf_ext {O : Ofc} {t t' : Nat → Int} {s : Nat} : ∀ n, (∀ i, i < n → hb (s : Int) i = false → t (jn s i) = t' (jn s i)) → dkf O t s n = dkf O t' s n := by
  intro n
  induction n with
  | zero => intro _; rfl
  | succ n ih =>
    intro e
    rw [dkf, dkf, ih (fun i hi => e i (by omega))]
    unfold dnx
    cases hx : hb (s : Int) n
    · rw [e n (by omega) hx]
    · rw [if_pos rfl, if_pos rfl]
section
variable {T : Knd} {A : Rfs} {O : Ofc} {I : Mem}
theorem q107 (h : Ag T A) : (T 107).1 = 1 ∧ gr T A 1 0 107 = some 108 ∧ gr T A 1 1 107 = some 109 ∧ gr T A 1 2 107 = some 110 := by
  refine ⟨by rw [kT_107 h], ?_, ?_, ?_⟩
  · exact ev_gr (kT_107 h) rfl (kA h (by decide +kernel)) (by decide)
  · exact ev_gr (kT_107 h) rfl (kA h (by decide +kernel)) (by decide)
  · exact ev_gr (kT_107 h) rfl (kA h (by decide +kernel)) (by decide)
theorem f_bc {x : Int} (hx : sl 8 x) : f_J6_bitCount_0f7a4 T A x I = some (scn (hb x) 8) := by
  have r := sl_8.mp hx
  obtain ⟨k, rfl⟩ := Int.eq_ofNat_of_zero_le r.1
  exact f_bitCount (by omega)
theorem f_so {x : Int} (hx : sl 8 x) : f_X12_sizeOf T A x I = some (scn (hb x) 8) := by
  have r := sl_8.mp hx
  obtain ⟨k, rfl⟩ := Int.eq_ofNat_of_zero_le r.1
  exact f_sizeOf (by omega)
theorem sl_and {n : Nat} {a b : Int} (h : sl n a) : sl n (iand a b) := ⟨cn_iand _ _, fun i hi => by rw [hb_and, h.2 i hi, Bool.false_and]⟩
theorem wo_sl (wf : WF O) {i : Nat} (hi : (i : Int) < O 0 4) : sl 8 (O 12 i) ∧ sl 8 (O 13 i) := by
  have hn8 := wf_n wf
  have w := wf.2.2.2.2.2.2.2.2.1 i hi
  exact ⟨sl_le w.2.2.2.2.2.2.2.2.1.1 (by omega), sl_le w.2.2.2.2.2.2.2.2.2.1 (by omega)⟩
theorem c_rest (h : Ag T A) {s i : Nat} (hs : s < 256) {cc ll v : Int} {M : Mem} {fin : (Int × Mem) ⊕ Mem → Prop} (hf : ∀ J, tb3 J s = (if M 110 s = -1 ∨ v ≠ 0 then (cc, ll, (i : Int)) else tb3 M s) → (∀ a b, ¬ ((108 ≤ a ∧ a ≤ 110) ∧ b = s) → J a b = M a b) → fin (.inl (((i + 1 : Nat) : Int), J))) : OK ((some 110).bind fun x40 => (ld T 20 x40 (s : Int) M).bind fun x41 => thn (if x41 = (-1) then some (.inl ()) else if v = 0 then some (.inr (.inl (((i + 1 : Nat) : Int), M))) else some (.inl ())) (fun (v44 : Unit) => (some 108).bind fun x45 => (sto T 20 x45 (s : Int) cc M).bind fun I46 => (some 109).bind fun x47 => (sto T 20 x47 (s : Int) ll I46).bind fun I48 => (some 110).bind fun x49 => (sto T 20 x49 (s : Int) (i : Int) I48).bind fun I50 => some (.inl (((i + 1 : Nat) : Int), I50)))) fin := by
  have st : OK ((some 108).bind fun x45 => (sto T 20 x45 (s : Int) cc M).bind fun I46 => (some 109).bind fun x47 => (sto T 20 x47 (s : Int) ll I46).bind fun I48 => (some 110).bind fun x49 => (sto T 20 x49 (s : Int) (i : Int) I48).bind fun I50 => some (.inl (((i + 1 : Nat) : Int), I50))) (fun (z : (Int × Mem) ⊕ Mem) => ∃ J, z = .inl (((i + 1 : Nat) : Int), J) ∧ tb3 J s = (cc, ll, (i : Int)) ∧ ∀ a b, ¬ ((108 ≤ a ∧ a ≤ 110) ∧ b = s) → J a b = M a b) := by
    rw [some_bind, ev_sto (kT_108 h), if_pos (by omega), some_bind, some_bind, ev_sto (kT_109 h), if_pos (by omega), some_bind, some_bind, ev_sto (kT_110 h), if_pos (by omega), some_bind, Int.toNat_natCast]
    refine ok_i ⟨_, rfl, ?_, fun a b hab => ?_⟩
    · unfold tb3
      rw [mu_o _ _ (by omega), mu_o _ _ (by omega), mu_s, mu_o _ _ (by omega), mu_s, mu_s]
    · rw [mu_o _ _ (by omega), mu_o _ _ (by omega), mu_o _ _ (by omega)]
  rw [some_bind, ev_ld (kT_110 h), if_pos (by omega), some_bind, Int.toNat_natCast]
  by_cases c1 : M 110 s = -1
  · rw [if_pos c1, thn_l]
    obtain ⟨z, e, J, rfl, j1, j2⟩ := st
    exact ⟨_, e, hf J (by rw [if_pos (Or.inl c1)]; exact j1) j2⟩
  · rw [if_neg c1]
    by_cases c2 : v = 0
    · rw [if_pos c2, thn_r]
      exact ok_i (hf M (by rw [if_neg (fun q => q.elim c1 (fun q => q c2))]) (fun _ _ _ => rfl))
    · rw [if_neg c2, thn_l]
      obtain ⟨z, e, J, rfl, j1, j2⟩ := st
      exact ⟨_, e, hf J (by rw [if_pos (Or.inr c2)]; exact j1) j2⟩
theorem c_pick (h : Ag T A) (wf : WF O) (hc : CV O 26 I) {s : Nat} (hs : s < 2 ^ oN O) (h0 : I 108 s = 0 ∧ I 109 s = 0 ∧ I 110 s = -1) : OK (f_X1_pick T A 107 26 (s : Int) I) (fun J => tb3 J s = pkf O (tb3 I) s (oN O) ∧ ∀ a b, ¬ ((108 ≤ a ∧ a ≤ 110) ∧ b = s) → J a b = I a b) := by
  obtain ⟨hn, en⟩ := on_le wf
  have hp := pw_le hn
  obtain ⟨k0, k1, k2, k3⟩ := q107 h
  have g28 : gr T A 2 8 26 = some 28 := pg h
  unfold f_X1_pick
  rw [if_pos k0, k1, k2, k3, g28]
  refine it_run (fun i (x : Int × Mem) => x.1 = (i : Int) ∧ tb3 x.2 s = pkf O (tb3 I) s i ∧ ∀ a b, ¬ ((108 ≤ a ∧ a ≤ 110) ∧ b = s) → x.2 a b = I a b) (oN O) ?_ ?_ 0 FU _ (by omega) (by unfold FU; omega) ⟨rfl, by show (I 108 s, I 109 s, I 110 s) = (0, 0, -1); rw [h0.1, h0.2.1, h0.2.2], fun _ _ _ => rfl⟩
  · rintro i ⟨x1, M⟩ hi ⟨rfl, hq, hF⟩
    try dsimp only at hq hF ⊢
    have cvM : CV O 26 M := cv_ag hc (fun a b d1 d2 => hF a b (by omega))
    have ho : (i : Int) < O 0 4 := by omega
    have hj := jn_in s (by omega) i (by omega)
    rw [show gi T 2 4 26 M = some (M 26 4) by simp only [agPl h], cv_n cvM, some_bind, if_pos ho, ia_1 (by omega)]
    obtain ⟨q, eq⟩ : ∃ q, q = pkf O (tb3 I) s i := ⟨_, rfl⟩
    rw [← eq] at hq
    have hq' : (M 108 s, M 109 s, M 110 s) = q := hq
    have q1 : M 108 s = q.1 := by rw [← hq']
    have q2 : M 109 s = q.2.1 := by rw [← hq']
    have q3 : M 110 s = q.2.2 := by rw [← hq']
    have ep : pkf O (tb3 I) s (i + 1) = pnx O (tb3 I) s i q := by rw [pkf, ← eq]
    cases hx : hb (s : Int) i
    · obtain ⟨l1, l2, l3⟩ := jn_lt hn hs hi hx
      have pe : pnx O (tb3 I) s i q = if q.2.2 = -1 ∨ (ia (ia (tb3 I (jn s i)).1 (dpa O s i)) (dpb O s i) < q.1 ∨ (ia (ia (tb3 I (jn s i)).1 (dpa O s i)) (dpb O s i) = q.1 ∧ ia (tb3 I (jn s i)).2.1 1 < q.2.1)) then (ia (ia (tb3 I (jn s i)).1 (dpa O s i)) (dpb O s i), ia (tb3 I (jn s i)).2.1 1, (i : Int)) else q := by
        unfold pnx; rw [hx, if_neg (by decide)]
      have e1 : M 108 (jn s i) = (tb3 I (jn s i)).1 := hF _ _ (by omega)
      have e2 : M 109 (jn s i) = (tb3 I (jn s i)).2.1 := hF _ _ (by omega)
      obtain ⟨cc, ecc⟩ : ∃ cc, cc = ia (ia (tb3 I (jn s i)).1 (dpa O s i)) (dpb O s i) := ⟨_, rfl⟩
      obtain ⟨ll, ell⟩ : ∃ ll, ll = ia (tb3 I (jn s i)).2.1 1 := ⟨_, rfl⟩
      rw [← ecc, ← ell] at pe
      rw [if_neg (fun e => by rw [hj.2.2.1.mp e] at hx; exact absurd hx (by decide)), if_pos hj.2.1, l3, some_bind, ev_ld (kT_108 h), if_pos (by omega), some_bind, some_bind, c_r9 h, some_bind, ev_ld (kT_38 h), if_pos (by omega), some_bind, Int.toNat_natCast, Int.toNat_natCast, show M 38 i = O 12 i from cv_told cvM (w := 9) (by decide) ho, f_bc (sl_and (wo_sl wf ho).1), some_bind, some_bind, c_r10 h, some_bind, ev_ld (kT_39 h), if_pos (by omega), some_bind, Int.toNat_natCast, show M 39 i = O 13 i from cv_told cvM (w := 10) (by decide) ho, f_bc (sl_and (wo_sl wf ho).2), some_bind, some_bind, ev_ld (kT_109 h), if_pos (by omega), some_bind, Int.toNat_natCast, some_bind, ev_ld (kT_108 h), if_pos (by omega), some_bind, Int.toNat_natCast, e1, e2, show ia (ia (tb3 I (jn s i)).1 (scn (hb (iand (O 12 i) (ixor (s : Int) (-1)))) 8)) (scn (hb (iand (O 13 i) (s : Int))) 8) = cc from ecc.symm, ← ell, q1]
      have l109 : ld T 20 109 (s : Int) M = some q.2.1 := by rw [ev_ld (kT_109 h), if_pos (by omega), Int.toNat_natCast, q2]
      have l108 : ld T 20 108 (s : Int) M = some q.1 := by rw [ev_ld (kT_108 h), if_pos (by omega), Int.toNat_natCast, q1]
      have l110 : ld T 20 110 (s : Int) M = some q.2.2 := by rw [ev_ld (kT_110 h), if_pos (by omega), Int.toNat_natCast, q3]
      have hM : tb3 M s = q := hq
      have fin : ∀ v : Int, (v ≠ 0 ↔ (cc < q.1 ∨ (cc = q.1 ∧ ll < q.2.1))) → ∀ J, tb3 J s = (if M 110 s = -1 ∨ v ≠ 0 then (cc, ll, (i : Int)) else tb3 M s) → tb3 J s = pkf O (tb3 I) s (i + 1) := fun v hv J e => by
        rw [e, ep, pe, hM, q3]
        by_cases c1 : q.2.2 = -1 ∨ v ≠ 0
        · rw [if_pos c1, if_pos (c1.imp id hv.mp)]
        · rw [if_neg c1, if_neg (fun r => c1 (r.imp id hv.mpr))]
      have fr : ∀ J : Mem, (∀ a b, ¬ ((108 ≤ a ∧ a ≤ 110) ∧ b = s) → J a b = M a b) → ∀ a b, ¬ ((108 ≤ a ∧ a ≤ 110) ∧ b = s) → J a b = I a b := fun J e a b hab => (e a b hab).trans (hF a b hab)
      by_cases f1 : cc < q.1
      · rw [if_pos f1, thn_l, thn_l]
        exact c_rest h (by omega) (fun J j1 j2 => ⟨rfl, fin 1 ⟨fun _ => Or.inl f1, fun _ => by decide⟩ J j1, fr J j2⟩)
      · rw [if_neg f1, some_bind, l108, some_bind]
        by_cases f2 : cc = q.1
        · rw [if_pos f2, some_bind, l109, some_bind]
          by_cases f3 : ll < q.2.1
          · rw [if_pos f3, thn_l, thn_l]
            exact c_rest h (by omega) (fun J j1 j2 => ⟨rfl, fin 1 ⟨fun _ => Or.inr ⟨f2, f3⟩, fun _ => by decide⟩ J j1, fr J j2⟩)
          · rw [if_neg f3, thn_r, thn_l]
            exact c_rest h (by omega) (fun J j1 j2 => ⟨rfl, fin 0 ⟨fun d => absurd rfl d, fun d => d.elim (fun d => absurd d f1) (fun d => absurd d.2 f3)⟩ J j1, fr J j2⟩)
        · rw [if_neg f2, thn_r, thn_l]
          exact c_rest h (by omega) (fun J j1 j2 => ⟨rfl, fin 0 ⟨fun d => absurd rfl d, fun d => d.elim (fun d => absurd d f1) (fun d => absurd d.1 f2)⟩ J j1, fr J j2⟩)
    · have pe : pnx O (tb3 I) s i q = q := by unfold pnx; rw [hx, if_pos rfl]
      rw [if_pos (hj.2.2.1.mpr hx)]
      exact ok_i ⟨rfl, by (try dsimp only); rw [ep, pe]; exact hq, hF⟩
  · rintro ⟨x1, M⟩ ⟨rfl, hq, hF⟩
    try dsimp only at hq hF ⊢
    have cvM : CV O 26 M := cv_ag hc (fun a b d1 d2 => hF a b (by omega))
    rw [show gi T 2 4 26 M = some (M 26 4) by simp only [agPl h], cv_n cvM, some_bind, if_neg (by omega)]
    exact ok_i ⟨hq, hF⟩
end
