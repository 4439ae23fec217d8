/-! B: why. -/
def anyf (p : Nat → Bool) (a : Nat) : Nat → Bool
  | 0 => false
  | n + 1 => anyf p a n || p (a + n)
theorem anyf_iff (p : Nat → Bool) (a : Nat) : ∀ n, anyf p a n = true ↔ ∃ j, a ≤ j ∧ j < a + n ∧ p j = true := by
  intro n
  induction n with
  | zero => exact ⟨fun h => by rw [anyf] at h; exact absurd h (by decide), fun ⟨j, h1, h2, _⟩ => absurd h1 (by omega)⟩
  | succ n ih =>
    rw [anyf, Bool.or_eq_true, ih]
    constructor
    · rintro (⟨j, h1, h2, h3⟩ | h)
      · exact ⟨j, h1, by omega, h3⟩
      · exact ⟨a + n, by omega, by omega, h⟩
    · rintro ⟨j, h1, h2, h3⟩
      by_cases c : j = a + n
      · subst c; exact Or.inr h3
      · exact Or.inl ⟨j, h1, by omega, h3⟩
theorem anyf_fst (p : Nat → Bool) (a n : Nat) : anyf p a n = true ↔ fst_ p n a ≠ -1 := by
  rw [anyf_iff]
  constructor
  · rintro ⟨j, h1, h2, h3⟩ e
    have := fst_no e j h1 h2
    rw [h3] at this; exact absurd this (by decide)
  · intro h
    obtain ⟨N, _, h1, h2, h3, _⟩ := fst_hit rfl h
    exact ⟨N, h1, h2, h3⟩
def bi (b : Bool) : Int := if b then 1 else 0
theorem bi_0 (b : Bool) : (bi b = 0) = (b = false) := by cases b <;> simp [bi]
section
variable {T : Knd} {A : Rfs} {O : Ofc} {I : Mem} {W : Wkr} {w : Nat}
theorem q_why (b : Bas T A O I) (a1 : Int) : Quiet (f_X11_why T A 1 a1 I) (f_X12_why T A 129 a1 I) I := by
  have b' := b
  obtain ⟨h, wf, hc, hm, g, ht, hn, k, hq⟩ := b
  have hn8 := wf_n wf
  unfold f_X11_why f_X12_why
  simp only [agX h, agMg h, if_true, some_bind, c_has h wf hc, m_isOfficial h wf (mw_fr hm (fr_0 I))]
  by_cases c : 0 ≤ a1 ∧ a1 < O 0 4
  · have hl := n_lines wf c
    have s := wn_ws wf hl g
    have hR := wf.2.1
    obtain ⟨o, rfl⟩ := Int.eq_ofNat_of_zero_le c.1
    have ho : (o : Int) < O 0 4 := c.2
    obtain ⟨J, e, f, k', d, hmJ, tJ, _⟩ := lays_q b' hl
    have hw : WO O o := wf.2.2.2.2.2.2.2.2.1 o ho
    have hw1 := hw.1
    have h0 := s.1
    have h1 := s.2.1
    have hlk := wlk_in wf s ho
    obtain ⟨r, er⟩ := Int.eq_ofNat_of_zero_le h1.1
    obtain ⟨t, et⟩ := Int.eq_ofNat_of_zero_le hw1.1
    have el : wlk O (Wn O) o = fw O r t := by unfold wlk; rw [er, et]; rfl
    have efar : ld T 20 143 (ia (im 6 (Wn O 1)) (O 3 o)) J = some (wlk O (Wn O) o) := by
      rw [er, et, m_far h J (by omega) (by omega), d r t (by omega) (by omega), el]
    simp only [if_pos c, n10, if_false, e, some_bind, k'.1.1, m_isHeld h k' (by omega : o < 8) h0.1, k'.1.2.1, m_o0 h wf hmJ ho, efar, m_needs h wf hmJ ho, m_bars h wf hmJ ho]
    unfold f_X10_obstacle
    rw [if_pos (wk_ev (wk_64 h)).1, c_holds (wk_64 h) k s (by omega), some_bind]
    by_cases q1 : Wn O 0 ≤ Wn O (4 + o)
    · rw [if_pos q1]
      simp only [n10, if_false, some_bind]
      exact ⟨_, _, rfl, rfl, f⟩
    · rw [if_neg q1]
      simp only [if_true]
      rw [c_arrival h (wk_64 h) wf hc ht k s ho, some_bind]
      by_cases q2 : wlk O (Wn O) o < 100000
      · have ha : Wn O 0 + wlk O (Wn O) o = ((arr O (Wn O) o : Nat) : Int) := by unfold arr; omega
        rw [if_pos q2, if_neg (by omega), if_pos q2, (wk_ev (wk_64 h)).2.2.1, some_bind, ia_eq (by omega) (by omega), ha]
        obtain ⟨a, ea⟩ : ∃ a, a = arr O (Wn O) o := ⟨_, rfl⟩
        rw [← ea] at ha ⊢
        obtain ⟨u, eu, hu⟩ := c_unbarred h (wk_64 h) wf hc k s ho (a : Int)
        obtain ⟨v, evv, hv⟩ := c_supported h (wk_64 h) wf hc k s ho
        rw [c_firstOpen h wf hn ho a, some_bind, c_stamp h (wk_64 h) wf hc ht hn k s ho, evv, some_bind, some_bind]
        have loop : it (fun (s28 : Int × Int × Int × Int) => if s28.2.2.2 < 400 then (f_X12_isOpen T A 129 (o : Int) s28.2.2.2 J).bind fun e33 => if e33 = 0 then some (.inl (s28.1, s28.2.1, s28.2.2.1, ia s28.2.2.2 1)) else (f_X12_heldIn T A 129 s28.2.2.2 J).bind fun e36 => if iand (O 12 o) (ixor e36 (-1)) = 0 then if s28.2.2.1 = 0 then if iand (O 13 o) e36 = 0 then some (.inl (1, 1, 1, ia s28.2.2.2 1)) else some (.inl (1, 1, 0, ia s28.2.2.2 1)) else some (.inl (1, 1, 1, ia s28.2.2.2 1)) else some (.inl (1, s28.2.1, s28.2.2.1, ia s28.2.2.2 1)) else some (.inr (.inl (s28.1, s28.2.1, s28.2.2.1)))) FU (0, 0, 0, (a : Int)) = (some (.inl (bi (anyf (opn O o) a (400 - a)), bi (anyf (fun j => opn O o j && ndh O (Wn O) o j) a (400 - a)), bi (anyf (okh O ntk (Wn O) o) a (400 - a)))) : Option ((Int × Int × Int) ⊕ (Int × Mem))) := by
          refine it_seq (fun i => (bi (anyf (opn O o) a i), bi (anyf (fun j => opn O o j && ndh O (Wn O) o j) a i), bi (anyf (okh O ntk (Wn O) o) a i), ((a + i : Nat) : Int))) (400 - a) (fun i hi => ?_) ?_ FU (by unfold FU; omega)
          · try dsimp only
            rw [if_pos (by omega), m_open h wf hmJ ho (by omega), some_bind, m_heldIn h wf hmJ k', some_bind, ia_1 (by omega), anyf, anyf, anyf]
            have ek : okh O ntk (Wn O) o (a + i) = (opn O o (a + i) && (ndh O (Wn O) o (a + i) && brh O (Wn O) o (a + i))) := by unfold okh ntk; rw [Bool.not_false, Bool.and_true]
            rw [ek]
            cases hop : opn O o (a + i)
            · simp only [Bool.false_eq_true, if_false, if_true, Bool.false_and, Bool.or_false]; rfl
            · simp only [if_true, n10, if_false, Bool.true_and, Bool.or_true]
              unfold ndh brh
              by_cases d1 : iand (O 12 o) (ixor (hset O (Wn O) (a + i)) (-1)) = 0
              · rw [if_pos d1, decide_eq_true d1]
                simp only [bi_0, Bool.true_and, Bool.or_true]
                by_cases d2 : iand (O 13 o) (hset O (Wn O) (a + i)) = 0
                · rw [if_pos d2, decide_eq_true d2, Bool.or_true]
                  split <;> rfl
                · rw [if_neg d2, decide_eq_false d2, Bool.or_false]
                  cases anyf (okh O ntk (Wn O) o) a i <;> rfl
              · rw [if_neg d1, decide_eq_false d1]
                simp only [Bool.false_and, Bool.or_false]
                rfl
          · try dsimp only
            rw [if_neg (by omega)]
        rw [loop, thn_l]
        try dsimp only
        simp only [bi_0]
        have es : stp O ntk (Wn O) o = fst_ (okh O ntk (Wn O) o) (400 - a) a := by
          unfold stp; rw [if_neg q1, if_pos q2, ea]
        have i1 := anyf_fst (opn O o) a (400 - a)
        have i3 := anyf_fst (okh O ntk (Wn O) o) a (400 - a)
        rw [es]
        by_cases z1 : fst_ (opn O o) (400 - a) a = -1
        · rw [if_pos z1]
          have y1 : anyf (opn O o) a (400 - a) = false := by
            cases y : anyf (opn O o) a (400 - a)
            · rfl
            · exact absurd z1 (i1.mp y)
          rw [if_pos y1]
          exact ⟨_, _, rfl, rfl, f⟩
        · rw [if_neg z1]
          have y1 : ¬ anyf (opn O o) a (400 - a) = false := by rw [i1.mpr z1]; decide
          rw [if_neg y1]
          obtain ⟨N, eN, n1, n2, n3, n4⟩ := fst_hit rfl z1
          have i2 : anyf (fun j => opn O o j && ndh O (Wn O) o j) a (400 - a) = true ↔ (N : Int) ≤ v := by
            rw [anyf_iff]
            constructor
            · rintro ⟨j, j1, j2, j3⟩
              rw [Bool.and_eq_true, ndh_iff wf s ho (by omega)] at j3
              have jv : (j : Int) ≤ v := (hv _).mpr ⟨by omega, j3.2⟩
              rcases Nat.lt_or_ge j N with jn | jn
              · have := n4 j j1 jn; rw [j3.1] at this; exact absurd this (by decide)
              · omega
            · intro hNv
              refine ⟨N, n1, by omega, ?_⟩
              rw [Bool.and_eq_true, ndh_iff wf s ho (by omega)]
              exact ⟨n3, ((hv _).mp hNv).2⟩
          rw [eN]
          by_cases z2 : (N : Int) ≤ v
          · have y2 : ¬ anyf (fun j => opn O o j && ndh O (Wn O) o j) a (400 - a) = false := by rw [i2.mpr z2]; decide
            rw [if_pos z2, if_neg y2]
            by_cases z3 : fst_ (okh O ntk (Wn O) o) (400 - a) a = -1
            · have y3 : anyf (okh O ntk (Wn O) o) a (400 - a) = false := by
                cases y : anyf (okh O ntk (Wn O) o) a (400 - a)
                · rfl
                · exact absurd z3 (i3.mp y)
              rw [if_pos z3, if_pos y3]
              exact ⟨_, _, rfl, rfl, f⟩
            · have y3 : ¬ anyf (okh O ntk (Wn O) o) a (400 - a) = false := by rw [i3.mpr z3]; decide
              rw [if_neg z3, if_neg y3]
              exact ⟨_, _, rfl, rfl, f⟩
          · have y2 : anyf (fun j => opn O o j && ndh O (Wn O) o j) a (400 - a) = false := by
              cases y : anyf (fun j => opn O o j && ndh O (Wn O) o j) a (400 - a)
              · rfl
              · exact absurd (i2.mp y) z2
            rw [if_neg z2, if_pos y2]
            exact ⟨_, _, rfl, rfl, f⟩
      · rw [if_neg q2, if_pos rfl, if_neg q2]
        exact ⟨_, _, rfl, rfl, f⟩
  · simp only [if_neg c, n00, if_true]
    exact ⟨-2, _, rfl, rfl, fr_0 I⟩
end
