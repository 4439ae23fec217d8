/-! B: walks. -/
def d0 (O : Ofc) (a b : Nat) : Int := if a = b then 0 else if 0 < O (15 + a) b then O (15 + a) b else 100000
def ps (D : Nat → Nat → Int) (c : Nat) : Nat → Nat → Int := fun x y => if D x c + D c y < D x y then D x c + D c y else D x y
def fwk (O : Ofc) : Nat → Nat → Nat → Int
  | 0 => d0 O
  | k + 1 => ps (fwk O k) k
def fw (O : Ofc) : Nat → Nat → Int := fwk O 6
def cw (x : Int) : Int := if x < 100000 then x else -1
def Fo (a b : Nat) (I J : Mem) : Prop := ∀ o k, (o < a ∨ b < o) → J o k = I o k
theorem fo_r (a b : Nat) (I : Mem) : Fo a b I I := fun _ _ _ => rfl
theorem fo_t {a b : Nat} {I J K : Mem} (h : Fo a b I J) (g : Fo a b J K) : Fo a b I K := fun o k hk => by rw [g o k hk, h o k hk]
theorem fo_mu {a b x k : Nat} {v : Int} {I J : Mem} (h : Fo a b I J) (h1 : a ≤ x) (h2 : x ≤ b) : Fo a b I (mu J x k v) := fun o j hj => by
  rw [mu_o J v (by omega)]
  exact h o j hj
theorem fo_w {a b c d : Nat} {I J : Mem} (h : Fo a b I J) (h1 : c ≤ a) (h2 : b ≤ d) : Fo c d I J := fun o k hk => h o k (by omega)
def bnd (k : Nat) : Int := 9 * 2 ^ k
theorem fwk_in {O : Ofc} (w : WF O) : ∀ k, k ≤ 6 → ∀ x y, x < 6 → y < 6 → (0 ≤ fwk O k x y ∧ fwk O k x y ≤ 100000) ∧ fwk O k x x = 0 ∧ (fwk O k x y < 100000 → fwk O k x y ≤ bnd k) ∧ (x ≠ y → (O 0 1 ≤ (x : Int) ∨ O 0 1 ≤ (y : Int)) → fwk O k x y = 100000) := by
  have hw := w.2.2.2.2.2.2.2.2.2
  intro k
  induction k with
  | zero =>
    intro _ x y hx hy
    have h1 := hw x y hx hy
    have e : ∀ a b, fwk O 0 a b = d0 O a b := fun _ _ => rfl
    rw [e, e]
    unfold d0 bnd
    refine ⟨?_, if_pos rfl, ?_, fun hxy hr => ?_⟩
    · split
      · omega
      · split <;> omega
    · split
      · intro _; decide
      · split
        · intro _; simp; omega
        · intro h; exact absurd h (by decide)
    · rw [if_neg hxy, if_neg]
      omega
  | succ k ih =>
    intro hk x y hx hy
    have e : ∀ a b, fwk O (k + 1) a b = ps (fwk O k) k a b := fun _ _ => rfl
    have hkk : k < 6 := by omega
    have a1 := ih (by omega) x y hx hy
    have a2 := ih (by omega) x k hx hkk
    have a3 := ih (by omega) k y hkk hy
    have a4 := ih (by omega) k x hkk hx
    have hb : bnd (k + 1) = 2 * bnd k := by unfold bnd; rw [Int.pow_succ]; omega
    have hb0 : 0 ≤ bnd k := by
      have : ∀ k, k < 6 → 0 ≤ bnd k := by decide
      exact this k hkk
    have hb1 : 2 * bnd k < 100000 := by
      have : ∀ k, k < 6 → 2 * bnd k < 100000 := by decide
      exact this k hkk
    rw [e, e]
    unfold ps
    refine ⟨?_, ?_, ?_, fun hxy hr => ?_⟩
    · split <;> omega
    · rw [if_neg]
      · exact a1.2.1
      · rw [a1.2.1]; omega
    · intro hlt
      rw [hb]
      split
      · rename_i h1
        rw [if_pos h1] at hlt
        have := a2.2.2.1
        have := a3.2.2.1
        omega
      · rename_i h1
        rw [if_neg h1] at hlt
        have := a1.2.2.1 hlt
        omega
    · have e1 := a1.2.2.2 hxy hr
      rw [if_neg, e1]
      rw [e1]
      by_cases c1 : x = k
      · subst c1
        have := a3.2.2.2 hxy hr
        omega
      · by_cases c2 : y = k
        · subst c2
          have := a2.2.2.2 hxy hr
          omega
        · rcases hr with hr | hr
          · have := a2.2.2.2 c1 (Or.inl hr); omega
          · have := a3.2.2.2 (fun e => c2 e.symm) (Or.inr hr); omega
/-- a pass leaves its own row and column -/
theorem fw_col {O : Ofc} (w : WF O) {k x : Nat} (hk : k < 6) (hx : x < 6) : fwk O (k + 1) x k = fwk O k x k := by
  have e : fwk O (k + 1) x k = ps (fwk O k) k x k := rfl
  have a := (fwk_in w k (by omega) k k hk hk).2.1
  rw [e]; unfold ps; rw [if_neg (by omega)]
theorem fw_row {O : Ofc} (w : WF O) {k y : Nat} (hk : k < 6) (hy : y < 6) : fwk O (k + 1) k y = fwk O k k y := by
  have e : fwk O (k + 1) k y = ps (fwk O k) k k y := rfl
  have a := (fwk_in w k (by omega) k k hk hk).2.1
  rw [e]; unfold ps; rw [if_neg (by omega)]
/-- passes by rooms that there aren't change nothing among those that there are -/
theorem fw_out {O : Ofc} (w : WF O) {k x y : Nat} (hk : k < 6) (hr : O 0 1 ≤ (k : Int)) (hx : (x : Int) < O 0 1) (hy : (y : Int) < O 0 1) : fwk O (k + 1) x y = fwk O k x y := by
  have hR : O 0 1 ≤ 6 := w.2.1.2
  have e : fwk O (k + 1) x y = ps (fwk O k) k x y := rfl
  have a1 := (fwk_in w k (by omega) x k (by omega) hk).2.2.2 (by omega) (Or.inr hr)
  have a2 := (fwk_in w k (by omega) k y hk (by omega)).1
  have a3 := (fwk_in w k (by omega) x y (by omega) (by omega)).1
  rw [e]; unfold ps; rw [if_neg (by omega)]
theorem fw_upto {O : Ofc} (w : WF O) {R x y : Nat} (hR : O 0 1 = (R : Int)) (hx : x < R) (hy : y < R) : ∀ k, R ≤ k → k ≤ 6 → fwk O k x y = fwk O R x y := by
  intro k
  induction k with
  | zero => intro h1 _; rw [show R = 0 by omega]
  | succ k ih =>
    intro h1 h2
    rcases Nat.lt_or_ge k R with h3 | h3
    · rw [show R = k + 1 by omega]
    · rw [fw_out w (by omega) (by omega) (by omega) (by omega)]
      exact ih h3 (by omega)
/-- no way round is shorter -/
theorem fw_tri {O : Ofc} (w : WF O) : ∀ k, k ≤ 6 → ∀ c, c < k → ∀ a b, a < 6 → b < 6 → fwk O k a b ≤ fwk O k a c + fwk O k c b := by
  intro k
  induction k with
  | zero => intro _ c hc; exact absurd hc (by omega)
  | succ k ih =>
    intro hk c hc a b ha hb
    have hkk : k < 6 := by omega
    have e : ∀ x y, fwk O (k + 1) x y = ps (fwk O k) k x y := fun _ _ => rfl
    have n1 := (fwk_in w k (by omega) a k ha hkk).1
    have n2 := (fwk_in w k (by omega) k b hkk hb).1
    by_cases c1 : c = k
    · subst c1
      rw [fw_col w hkk ha, fw_row w hkk hb, e]
      unfold ps
      split <;> omega
    · have hck : c < k := by omega
      have hc6 : c < 6 := by omega
      have t1 := ih (by omega) c hck a b ha hb
      have t2 := ih (by omega) c hck a k ha hkk
      have t3 := ih (by omega) c hck k b hkk hb
      have n3 := (fwk_in w k (by omega) k c hkk hc6).1
      have n4 := (fwk_in w k (by omega) c k hc6 hkk).1
      rw [e, e, e]
      unfold ps
      split <;> split <;> split <;> omega
theorem fw_in {O : Ofc} (w : WF O) {x y : Nat} (hx : x < 6) (hy : y < 6) : (0 ≤ fw O x y ∧ fw O x y ≤ 100000) ∧ fw O x x = 0 ∧ (fw O x y < 100000 → fw O x y ≤ 576) := by
  have h := fwk_in w 6 (by decide) x y hx hy
  have e : bnd 6 = 576 := by decide
  rw [e] at h
  exact ⟨h.1, h.2.1, h.2.2.1⟩
def TW (O : Ofc) (I : Mem) : Prop := ∀ r c : Nat, (r : Int) < O 0 1 → (c : Int) < O 0 1 → I (49 + r) c = cw (fw O r c)
def Far (O : Ofc) (I : Mem) : Prop := ∀ x y, x < 6 → y < 6 → I 143 (6 * x + y) = fw O x y
section
variable {T : Knd} {A : Rfs} {O : Ofc} {I : Mem}
theorem m_far (h : Ag T A) (J : Mem) {x y : Nat} (hx : x < 6) (hy : y < 6) : ld T 20 143 (ia (im 6 (x : Int)) (y : Int)) J = some (J 143 (6 * x + y)) := by
  simp only [agM h]
  rw [im_eq (by omega) (by omega), ia_eq (by omega) (by omega), if_pos (by omega), show (6 * (x : Int) + y).toNat = 6 * x + y by omega]
theorem m_sfar (h : Ag T A) (J : Mem) {x y : Nat} (v : Int) (hx : x < 6) (hy : y < 6) : sto T 20 143 (ia (im 6 (x : Int)) (y : Int)) v J = some (mu J 143 (6 * x + y) v) := by
  simp only [agM h]
  rw [im_eq (by omega) (by omega), ia_eq (by omega) (by omega), if_pos (by omega), show (6 * (x : Int) + y).toNat = 6 * x + y by omega]
theorem m_way (h : Ag T A) {J : Mem} (hm : MW O 0 J) {x y : Nat} (hx : x < 6) (hy : y < 6) : ld T 20 140 (ia (im 6 (x : Int)) (y : Int)) J = some (O (15 + x) y) := by
  simp only [agM h]
  rw [im_eq (by omega) (by omega), ia_eq (by omega) (by omega), if_pos (by omega), show (6 * (x : Int) + y).toNat = 6 * x + y by omega]
  have := hm.2.2.2.2.2.2 x y hx hy
  rw [show 36 * 0 + 6 * x + y = 6 * x + y by omega] at this
  rw [this]
theorem mw_fo {J : Mem} {s a b : Nat} (h : MW O s I) (hf : Fo a b I J) (ha : b < 134 ∨ 142 < a) : MW O s J := by
  have e : ∀ o k, 134 ≤ o → o ≤ 142 → J o k = I o k := fun o k h1 h2 => hf o k (by omega)
  obtain ⟨h1, h2, h3, h4, h5, h6, h7⟩ := h
  refine ⟨?_, fun k hk => ?_, fun k hk => ?_, fun w o hw ho => ?_, fun o ho => ?_, fun o ho => ?_, fun r c hr hc => ?_⟩
  · rw [e _ _ (by omega) (by omega)]; exact h1
  · rw [e _ _ (by omega) (by omega)]; exact h2 k hk
  · rw [e _ _ (by omega) (by omega)]; exact h3 k hk
  · rw [e _ _ (by omega) (by omega)]; exact h4 w o hw ho
  · rw [e _ _ (by omega) (by omega)]; exact h5 o ho
  · rw [e _ _ (by omega) (by omega)]; exact h6 o ho
  · rw [e _ _ (by omega) (by omega)]; exact h7 r c hr hc
theorem cv_fo {J : Mem} {P a b : Nat} (h : CV O P I) (hf : Fo a b I J) (ha : b < P ∨ P + 20 < a) : CV O P J := by
  have e : ∀ o k, P ≤ o → o ≤ P + 20 → J o k = I o k := fun o k h1 h2 => hf o k (by omega)
  refine ⟨fun k hk => ?_, fun k hk => ?_, fun w o hw ho => ?_, fun r c hr hc => ?_⟩
  · rw [e _ _ (by omega) (by omega)]; exact h.1 k hk
  · rw [e _ _ (by omega) (by omega)]; exact h.2.1 k hk
  · rw [e _ _ (by omega) (by omega)]; exact h.2.2.1 w o hw ho
  · rw [e _ _ (by omega) (by omega)]; exact h.2.2.2 r c hr hc
theorem m_lays (h : Ag T A) (w : WF O) (hm : MW O 0 I) : ∃ J, f_X12_laysWalks T A 129 I = some J ∧ Fo 143 143 I J ∧ Far O J := by
  have key : OK (f_X12_laysWalks T A 129 I) (fun J => Fo 143 143 I J ∧ Far O J) := by
    unfold f_X12_laysWalks
    rw [if_pos (by rw [kT_129 h])]
    have g1 : gr T A 12 24 129 = some 143 := by simp only [agM h]
    have g2 : gr T A 12 21 129 = some 140 := by simp only [agM h]
    refine ok_tn (ok_m (P := fun z => match z with | .inl v => Fo 143 143 I v ∧ ∀ x y, x < 6 → y < 6 → v 143 (6 * x + y) = fwk O 0 x y | .inr _ => False) ?_ ?_)
    · refine it_run (fun i (s : Int × Mem) => s.1 = (i : Int) ∧ Fo 143 143 I s.2 ∧ ∀ x y, x < i → y < 6 → s.2 143 (6 * x + y) = d0 O x y) 6 ?_ ?_ 0 FU (0, I) (by decide) (by decide) ⟨rfl, fo_r _ _ _, fun x y hx => absurd hx (by omega)⟩
      · rintro i ⟨si, J⟩ hi ⟨rfl, hF, hD⟩
        dsimp only at hF hD ⊢
        rw [if_pos (by omega)]
        refine it_run (fun j (s : Int × Mem) => s.1 = (j : Int) ∧ Fo 143 143 I s.2 ∧ (∀ x y, x < i → y < 6 → s.2 143 (6 * x + y) = d0 O x y) ∧ ∀ y, y < j → s.2 143 (6 * i + y) = d0 O i y) 6 ?_ ?_ 0 FU (0, J) (by decide) (by decide) ⟨rfl, hF, hD, fun y hy => absurd hy (by omega)⟩
        · rintro j ⟨sj, K⟩ hj ⟨rfl, gF, gD, gE⟩
          dsimp only at gF gD gE ⊢
          have hm' : MW O 0 K := mw_fo hm gF (by decide)
          rw [if_pos (by omega), g1, g2]
          simp only [some_bind]
          refine ok_tn (ok_e (v := .inl (d0 O i j)) ?_ ?_)
          · unfold d0
            by_cases c : i = j
            · rw [if_pos (by omega), if_pos c]
            · rw [if_neg (by omega), if_neg c, m_way h hm' hi hj]
              simp only [some_bind]
              by_cases d : 0 < O (15 + i) j
              · rw [if_neg (by omega), if_pos d]
              · rw [if_pos (by omega), if_neg d]
          · show OK _ _
            dsimp only
            rw [m_sfar h K _ hi hj, some_bind, ia_1 (by omega)]
            refine ok_i ⟨rfl, fo_mu gF (by decide) (by decide), fun x y hx hy => ?_, fun y hy => ?_⟩
            · try dsimp only
              rw [mu_o K _ (by omega)]; exact gD x y hx hy
            · by_cases c : y = j
              · subst c; exact mu_s K _ _ _
              · try dsimp only
                rw [mu_o K _ (by omega)]; exact gE y (by omega)
        · rintro ⟨sj, K⟩ ⟨rfl, gF, gD, gE⟩
          dsimp only at gF gD gE ⊢
          rw [if_neg (by decide), ia_1 (by omega)]
          refine ok_i ⟨rfl, gF, fun x y hx hy => ?_⟩
          by_cases c : x = i
          · subst c; exact gE y hy
          · exact gD x y (by omega) hy
      · rintro ⟨si, J⟩ ⟨rfl, hF, hD⟩
        dsimp only at hF hD ⊢
        rw [if_neg (by decide)]
        exact ok_i ⟨hF, hD⟩
    · rintro (v | x) hz
      · obtain ⟨vF, vD⟩ := hz
        show OK _ _
        dsimp only
        refine it_run (fun c (s : Int × Mem) => s.1 = (c : Int) ∧ Fo 143 143 I s.2 ∧ ∀ x y, x < 6 → y < 6 → s.2 143 (6 * x + y) = fwk O c x y) 6 ?_ ?_ 0 FU (0, v) (by decide) (by decide) ⟨rfl, vF, vD⟩
        · rintro c ⟨sc, J⟩ hc ⟨rfl, hF, hD⟩
          dsimp only at hF hD ⊢
          rw [if_pos (by omega)]
          refine it_run (fun a (s : Int × Mem) => s.1 = (a : Int) ∧ Fo 143 143 I s.2 ∧ ∀ x y, x < 6 → y < 6 → s.2 143 (6 * x + y) = if x < a then fwk O (c + 1) x y else fwk O c x y) 6 ?_ ?_ 0 FU (0, J) (by decide) (by decide) ⟨rfl, hF, fun x y hx hy => by (try dsimp only); rw [if_neg (by omega)]; exact hD x y hx hy⟩
          · rintro a ⟨sa, K⟩ ha ⟨rfl, gF, gD⟩
            dsimp only at gF gD ⊢
            rw [if_pos (by omega)]
            refine it_run (fun b (s : Int × Mem) => s.1 = (b : Int) ∧ Fo 143 143 I s.2 ∧ ∀ x y, x < 6 → y < 6 → s.2 143 (6 * x + y) = if x < a ∨ x = a ∧ y < b then fwk O (c + 1) x y else fwk O c x y) 6 ?_ ?_ 0 FU (0, K) (by decide) (by decide) ⟨rfl, gF, fun x y hx hy => by (try dsimp only); rw [gD x y hx hy]; by_cases q : x < a; rw [if_pos q, if_pos (Or.inl q)]; rw [if_neg q, if_neg (by omega)]⟩
            · rintro b ⟨sb, L⟩ hb ⟨rfl, lF, lD⟩
              dsimp only at lF lD ⊢
              rw [if_pos (by omega), g1]
              simp only [some_bind, m_far h L ha hc, m_far h L hc hb, m_far h L ha hb]
              have e1 : L 143 (6 * a + c) = fwk O c a c := by
                rw [lD a c ha hc]
                split
                · exact fw_col w hc ha
                · rfl
              have e2 : L 143 (6 * c + b) = fwk O c c b := by
                rw [lD c b hc hb]
                split
                · exact fw_row w hc hb
                · rfl
              have e3 : L 143 (6 * a + b) = fwk O c a b := by
                rw [lD a b ha hb, if_neg (by omega)]
              have e4 : fwk O (c + 1) a b = ps (fwk O c) c a b := rfl
              have n1 := (fwk_in w c (by omega) a c ha hc).1
              have n2 := (fwk_in w c (by omega) c b hc hb).1
              rw [e1, e2, e3, ia_eq (by omega) (by omega), ia_1 (by omega)]
              unfold ps at e4
              by_cases q : fwk O c a c + fwk O c c b < fwk O c a b
              · rw [if_pos q, m_sfar h L _ ha hb, some_bind]
                rw [if_pos q] at e4
                refine ok_i ⟨rfl, fo_mu lF (by decide) (by decide), fun x y hx hy => ?_⟩
                dsimp only
                by_cases r : x = a ∧ y = b
                · obtain ⟨rfl, rfl⟩ := r
                  rw [mu_s, if_pos (by omega), e4]
                · try dsimp only
                  rw [mu_o L _ (by omega), lD x y hx hy]
                  by_cases r2 : x < a ∨ x = a ∧ y < b
                  · rw [if_pos r2, if_pos (by omega)]
                  · rw [if_neg r2, if_neg (by omega)]
              · rw [if_neg q]
                rw [if_neg q] at e4
                refine ok_i ⟨rfl, lF, fun x y hx hy => ?_⟩
                dsimp only
                rw [lD x y hx hy]
                by_cases r : x = a ∧ y = b
                · obtain ⟨rfl, rfl⟩ := r
                  rw [if_neg (by omega), if_pos (by omega), e4]
                · by_cases r2 : x < a ∨ x = a ∧ y < b
                  · rw [if_pos r2, if_pos (by omega)]
                  · rw [if_neg r2, if_neg (by omega)]
            · rintro ⟨sb, L⟩ ⟨rfl, lF, lD⟩
              dsimp only at lF lD ⊢
              rw [if_neg (by decide), ia_1 (by omega)]
              refine ok_i ⟨rfl, lF, fun x y hx hy => ?_⟩
              dsimp only
              rw [lD x y hx hy]
              by_cases r2 : x < a + 1
              · rw [if_pos (by omega), if_pos r2]
              · rw [if_neg (by omega), if_neg r2]
          · rintro ⟨sa, K⟩ ⟨rfl, gF, gD⟩
            dsimp only at gF gD ⊢
            rw [if_neg (by decide), ia_1 (by omega)]
            refine ok_i ⟨rfl, gF, fun x y hx hy => ?_⟩
            dsimp only
            rw [gD x y hx hy, if_pos hx]
        · rintro ⟨sc, J⟩ ⟨rfl, hF, hD⟩
          dsimp only at hF hD ⊢
          rw [if_neg (by decide)]
          exact ok_i ⟨hF, hD⟩
      · exact hz.elim
  exact key
theorem fr_143 {J : Mem} (hF : Fo 143 143 I J) : Fr I J := by
  intro o k hk
  refine hF o k ?_
  rcases Nat.lt_trichotomy o 143 with g | g | g
  · exact Or.inl g
  · rw [g] at hk
    exact absurd hk (by unfold scr; simp)
  · exact Or.inr g
theorem m_walk (h : Ag T A) (w : WF O) (hm : MW O 0 I) {x y : Nat} (hx : x < 6) (hy : y < 6) : ∃ J, f_X12_laysWalks T A 129 I = some J ∧ Fr I J ∧ ld T 20 143 (ia (im 6 (x : Int)) (y : Int)) J = some (fw O x y) := by
  obtain ⟨J, e, hF, hD⟩ := m_lays h w hm
  exact ⟨J, e, fr_143 hF, by rw [m_far h J hx hy, hD x y hx hy]⟩
theorem m_isRoom (h : Ag T A) (w : WF O) (hm : MW O 0 I) (a : Int) : f_X12_isRoom T A 129 a I = some (if 0 ≤ a ∧ a < O 0 1 then 1 else 0) := by
  have hR := w.2.1
  unfold f_X12_isRoom
  rw [if_pos (by rw [kT_129 h]), show gr T A 12 17 129 = some 136 by simp only [agM h]]
  simp only [some_bind, m_h0 h hm, m_in]
  rw [isb_eq (by omega) (by omega)]
  by_cases c : 0 ≤ a ∧ a < O 0 1
  · rw [if_pos c, if_pos (by omega)]; rfl
  · rw [if_neg c, if_neg (by omega)]; rfl
theorem c_hasRoom (h : Ag T A) (w : WF O) (hc : CV O 26 I) (a : Int) : f_X2_hasRoom T A 26 a I = some (if 0 ≤ a ∧ a < O 0 1 then 1 else 0) := by
  have hR := w.2.1
  unfold f_X2_hasRoom
  simp only [agPl h, if_true, some_bind, cv_rooms hc]
  by_cases c : 0 ≤ a ∧ a < O 0 1
  · rw [if_pos c, if_neg (by omega), if_pos c.2, if_pos (by omega)]
  · rw [if_neg c]
    split
    · rfl
    · rw [if_neg (by omega)]
theorem kT_wk (h : Ag T A) {x : Nat} (hx : x < 6) : T (49 + x) = (20, 6) := h.1 (49 + x, 20, 6) ((by decide +kernel : ∀ w, w < 6 → (49 + w, 20, 6) ∈ agK) x hx)
theorem c_wr (h : Ag T A) {x : Nat} (hx : x < 6) : lr T A 24 48 (x : Int) = some (49 + x) := by
  simp only [agTt h]
  rw [if_pos (by omega), Int.toNat_natCast]
theorem c_wl (h : Ag T A) (J : Mem) {x y : Nat} (hx : x < 6) (hy : y < 6) : ld T 20 (49 + x) (y : Int) J = some (J (49 + x) y) := by
  rw [ev_ld (kT_wk h hx), if_pos (by omega), Int.toNat_natCast]
theorem c_ws (h : Ag T A) (J : Mem) {x y : Nat} (v : Int) (hx : x < 6) (hy : y < 6) : sto T 20 (49 + x) (y : Int) v J = some (mu J (49 + x) y v) := by
  rw [ev_sto (kT_wk h hx), if_pos (by omega), Int.toNat_natCast]
theorem c_between (h : Ag T A) (J : Mem) {x y : Nat} (hx : x < 6) (hy : y < 6) : f_X9_hoursBetween T A 47 (x : Int) (y : Int) J = some (J (49 + x) y) := by
  unfold f_X9_hoursBetween
  rw [if_pos (by rw [kT_47 h]), if_neg (by omega), if_pos (by omega), if_neg (by omega), if_pos (by omega), show gr T A 9 0 47 = some 48 by simp only [agTt h]]
  simp only [some_bind, c_wr h hx, c_wl h J hx hy]
theorem q_walk (h : Ag T A) (w : WF O) (hc : CV O 26 I) (hm : MW O 0 I) (ht : TW O I) (a1 a2 : Int) : Quiet (f_X11_walk T A 1 a1 a2 I) (f_X12_walk T A 129 a1 a2 I) I := by
  have hm0 := mw_fr hm (fr_0 I)
  have hR := w.2.1
  unfold f_X11_walk f_X12_walk
  rw [if_pos (by rw [kT_1 h]), if_pos (by rw [kT_129 h]), show gr T A 11 2 1 = some 26 by simp only [agX h], show gr T A 11 3 1 = some 47 by simp only [agX h], show pi T 12 0 129 0 I = some (mu I 129 0 0) by simp only [agM h]]
  simp only [some_bind, c_hasRoom h w hc, m_isRoom h w hm0]
  by_cases c : 0 ≤ a1 ∧ a1 < O 0 1
  · obtain ⟨x, rfl⟩ := Int.eq_ofNat_of_zero_le c.1
    by_cases d : 0 ≤ a2 ∧ a2 < O 0 1
    · obtain ⟨y, rfl⟩ := Int.eq_ofNat_of_zero_le d.1
      have hx : x < 6 := by omega
      have hy : y < 6 := by omega
      obtain ⟨J, e, hF, hD⟩ := m_walk h w hm0 hx hy
      have g24 : gr T A 12 24 129 = some 143 := by simp only [agM h]
      rw [if_pos c, if_pos d]
      simp only [n10, if_false, c_between h I hx hy, some_bind, e, g24, hD]
      rw [ht x y c.2 d.2]
      unfold cw
      have hfr := fr_t (fr_0 I) hF
      by_cases q : fw O x y < 100000
      · rw [if_pos q, if_pos q]
        exact ⟨_, _, rfl, rfl, hfr⟩
      · rw [if_neg q, if_neg q]
        exact ⟨_, _, rfl, rfl, hfr⟩
    · simp only [if_pos c, if_neg d, n10, n00, if_false, if_true]
      exact ⟨-2, _, rfl, rfl, fr_0 I⟩
  · simp only [if_neg c, n00, if_true]
    exact ⟨-2, _, rfl, rfl, fr_0 I⟩
end
