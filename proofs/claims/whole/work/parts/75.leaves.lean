/-! B: all rows by which it is done, in their order. -/
abbrev Lf : Type := Wkr × (Nat → Int) × Nat × Int
def dn (O : Ofc) (W : Wkr) : Bool := decide (iand (O 0 5) (ixor (hset O W (W 0).toNat) (-1)) = 0)
def mayg (O : Ofc) (W : Wkr) (u : Int) (i : Nat) : Bool := !hb u i && decide (stp O ntk W i ≠ -1)
def updp (p : Nat → Int) (n : Nat) (v : Int) : Nat → Int := fun k => if k = n then v else p k
def lv (O : Ofc) : Nat → Wkr → (Nat → Int) → Nat → Int → List Lf
  | 0, _, _, _, _ => []
  | f + 1, W, p, n, u => if dn O W then [(W, p, n, u)] else (List.range (oN O)).flatMap (fun i => if mayg O W u i then lv O f (goS O W i (stp O ntk W i)) (updp p n (i : Int)) (n + 1) (ior u (ishl 1 (i : Int))) else [])
def chl (O : Ofc) (f : Nat) (W : Wkr) (p : Nat → Int) (n : Nat) (u : Int) (i : Nat) : List Lf := if mayg O W u i then lv O f (goS O W i (stp O ntk W i)) (updp p n (i : Int)) (n + 1) (ior u (ishl 1 (i : Int))) else []
theorem lv_s (O : Ofc) (f : Nat) (W : Wkr) (p : Nat → Int) (n : Nat) (u : Int) : lv O (f + 1) W p n u = if dn O W then [(W, p, n, u)] else (List.range (oN O)).flatMap (chl O f W p n u) := rfl
def Nd (O : Ofc) (W : Wkr) (n : Nat) (u : Int) : Prop := WS O W ∧ sl 8 u ∧ (n : Int) ≤ scn (hb u) 8 ∧ (0 ≤ W 2 ∧ W 2 ≤ 576 * n) ∧ (0 ≤ W 3 ∧ W 3 ≤ 99 * n)
theorem scn_le {p q : Nat → Bool} {o : Nat} (h : ∀ i, i ≠ o → p i = true → q i = true) : ∀ n, scn p n ≤ scn q n + 1 ∧ (n ≤ o → scn p n ≤ scn q n) := by
  intro n
  induction n with
  | zero => exact ⟨by rw [scn, scn]; decide, fun _ => by rw [scn, scn]; decide⟩
  | succ n ih =>
    rw [scn, scn]
    have h0 : (if p n = true then (1 : Int) else 0) ≤ 1 ∧ 0 ≤ (if q n = true then (1 : Int) else 0) := by
      constructor <;> split <;> decide
    by_cases c : n = o
    · have := ih.2 (by omega)
      exact ⟨by omega, fun h2 => absurd h2 (by omega)⟩
    · have e : (if p n = true then (1 : Int) else 0) ≤ (if q n = true then (1 : Int) else 0) := by
        by_cases d : p n = true
        · rw [if_pos d, if_pos (h n c d)]; exact Int.le_refl _
        · rw [if_neg d]; exact h0.2
      exact ⟨by omega, fun h2 => by have := ih.2 (by omega); omega⟩
theorem scn_add {p q : Nat → Bool} {o : Nat} (hq : ∀ i, q i = (p i || decide (i = o))) (hp : p o = false) : ∀ n, scn q n = scn p n + (if o < n then 1 else 0) := by
  intro n
  induction n with
  | zero => rfl
  | succ n ih =>
    rw [scn, scn, ih, hq n]
    by_cases c : n = o
    · subst c
      rw [hp, decide_eq_true rfl, if_neg (show ¬ n < n by omega), if_pos (show n < n + 1 by omega)]
      rfl
    · rw [decide_eq_false c, Bool.or_false]
      by_cases d : o < n
      · rw [if_pos d, if_pos (show o < n + 1 by omega)]; omega
      · rw [if_neg d, if_neg (show ¬ o < n + 1 by omega)]; omega
theorem scn_no {p : Nat → Bool} {o : Nat} (hp : p o = false) : ∀ n, o < n → scn p n ≤ (n : Int) - 1 := by
  intro n
  induction n with
  | zero => intro h; exact absurd h (by omega)
  | succ n ih =>
    intro h
    rw [scn]
    have := scn_rg p n
    by_cases c : o = n
    · subst c; rw [hp, if_neg (by decide)]; omega
    · have := ih (by omega)
      split <;> omega
section
variable {O : Ofc} {W : Wkr} {p : Nat → Int} {n : Nat} {u : Int}
theorem nd_n (nd : Nd O W n u) : n ≤ 8 := by
  have := scn_rg (hb u) 8
  have := nd.2.2.1
  omega
theorem nd_go (wf : WF O) (nd : Nd O W n u) {i : Nat} (hi : i < oN O) (hm : mayg O W u i = true) : Nd O (goS O W i (stp O ntk W i)) (n + 1) (ior u (ishl 1 (i : Int))) ∧ n < 8 ∧ hb u i = false ∧ (W 0 + 1 ≤ goS O W i (stp O ntk W i) 0 ∧ W 2 ≤ goS O W i (stp O ntk W i) 2 ∧ W 3 ≤ goS O W i (stp O ntk W i) 3) := by
  obtain ⟨hn, en⟩ := on_le wf
  obtain ⟨s, hs, hc, h2, h3⟩ := nd
  unfold mayg at hm
  rw [Bool.and_eq_true, decide_eq_true_iff] at hm
  have hb0 : hb u i = false := by simpa using hm.1
  have hio : (i : Int) < O 0 4 := by omega
  have hr := stp_rg wf s hio hm.2
  have hl := wlk_in wf s hio
  have hw : WO O i := wf.2.2.2.2.2.2.2.2.1 i hio
  have hpr := hw.2.2.2.2.2.2.1
  have h8 := scn_no hb0 8 (by omega)
  have s0 := s.1
  have e2 : goS O W i (stp O ntk W i) 2 = W 2 + wlk O W i := by
    show ia (W 2) (wlk O W i) = _
    rw [ia_eq (by omega) (by omega)]
  have e3 : goS O W i (stp O ntk W i) 3 = W 3 + O 9 i := by
    show ia (W 3) (O 9 i) = _
    rw [ia_eq (by omega) (by omega)]
  have e0 : goS O W i (stp O ntk W i) 0 = stp O ntk W i + 1 := rfl
  refine ⟨⟨go_ws wf s hio (by omega) hr.2.2.1, ⟨cn_ior _ _, fun j hj => ?_⟩, ?_, ?_, ?_⟩, by omega, hb0, by omega, by omega, by omega⟩
  · rw [hb_or, hs.2 j hj, hb_shl (by omega), decide_eq_false (by omega)]; rfl
  · rw [scn_add (p := hb u) (o := i) (fun j => by rw [hb_or, hb_shl (by omega)]) hb0 8, if_pos (by omega)]
    omega
  · rw [e2]; omega
  · rw [e3]; omega
theorem lv_in (wf : WF O) : ∀ f W p n u, Nd O W n u → ∀ l, l ∈ lv O f W p n u → Nd O l.1 l.2.2.1 l.2.2.2 ∧ W 0 ≤ l.1 0 ∧ W 2 ≤ l.1 2 ∧ W 3 ≤ l.1 3 ∧ n ≤ l.2.2.1 ∧ (∀ t, t < n → l.2.1 t = p t) ∧ dn O l.1 = true := by
  intro f
  induction f with
  | zero => intro W p n u _ l hl; rw [lv] at hl; exact absurd hl (by simp)
  | succ f ih =>
    intro W p n u nd l hl
    rw [lv_s] at hl
    by_cases d : dn O W = true
    · rw [if_pos d, List.mem_singleton] at hl
      subst hl
      exact ⟨nd, Int.le_refl _, Int.le_refl _, Int.le_refl _, Nat.le_refl _, fun _ _ => rfl, d⟩
    · rw [if_neg d, List.mem_flatMap] at hl
      obtain ⟨i, hi, hl⟩ := hl
      rw [List.mem_range] at hi
      unfold chl at hl
      by_cases c : mayg O W u i = true
      · rw [if_pos c] at hl
        have g := nd_go wf nd hi c
        have r := ih _ _ _ _ g.1 l hl
        refine ⟨r.1, by omega, by omega, by omega, by omega, fun t ht => ?_, r.2.2.2.2.2.2⟩
        rw [r.2.2.2.2.2.1 t (by omega)]
        unfold updp
        rw [if_neg (by omega)]
      · rw [if_neg c] at hl; exact absurd hl (by simp)
/-- by their places the earlier row is the lesser one -/
def lx (a b : Lf) : Prop := ∃ j, j < a.2.2.1 ∧ j < b.2.2.1 ∧ (∀ t, t < j → a.2.1 t = b.2.1 t) ∧ a.2.1 j < b.2.1 j
theorem chl_at (wf : WF O) (nd : Nd O W n u) {f i : Nat} (hi : i < oN O) {l : Lf} (hl : l ∈ chl O f W p n u i) : n < l.2.2.1 ∧ l.2.1 n = (i : Int) ∧ ∀ t, t < n → l.2.1 t = p t := by
  unfold chl at hl
  by_cases c : mayg O W u i = true
  · rw [if_pos c] at hl
    have g := nd_go wf nd hi c
    have r := lv_in wf _ _ _ _ _ g.1 l hl
    refine ⟨r.2.2.2.2.1, ?_, fun t ht => ?_⟩
    · rw [r.2.2.2.2.2.1 n (by omega)]; unfold updp; rw [if_pos rfl]
    · rw [r.2.2.2.2.2.1 t (by omega)]; unfold updp; rw [if_neg (by omega)]
  · rw [if_neg c] at hl; exact absurd hl (by simp)
theorem lv_pw (wf : WF O) : ∀ f W p n u, Nd O W n u → (lv O f W p n u).Pairwise lx := by
  intro f
  induction f with
  | zero => intro W p n u _; rw [lv]; exact List.Pairwise.nil
  | succ f ih =>
    intro W p n u nd
    rw [lv_s]
    by_cases d : dn O W = true
    · rw [if_pos d]; exact List.pairwise_singleton _ _
    · rw [if_neg d, List.pairwise_flatMap]
      refine ⟨fun i hi => ?_, ?_⟩
      · rw [List.mem_range] at hi
        unfold chl
        by_cases c : mayg O W u i = true
        · rw [if_pos c]; exact ih _ _ _ _ (nd_go wf nd hi c).1
        · rw [if_neg c]; exact List.Pairwise.nil
      · refine List.Pairwise.imp_of_mem ?_ List.pairwise_lt_range
        intro a b ha hb1 hab x hx y hy
        rw [List.mem_range] at ha hb1
        have x1 := chl_at wf nd ha hx
        have y1 := chl_at wf nd hb1 hy
        refine ⟨n, x1.1, y1.1, fun t ht => by rw [x1.2.2 t ht, y1.2.2 t ht], ?_⟩
        rw [x1.2.1, y1.2.1]; omega
theorem lv_len (wf : WF O) : ∀ f W p n u, Nd O W n u → (lv O f W p n u).length ≤ 8 ^ (8 - n) := by
  intro f
  induction f with
  | zero => intro W p n u _; rw [lv]; exact Nat.zero_le _
  | succ f ih =>
    intro W p n u nd
    rw [lv_s]
    by_cases d : dn O W = true
    · rw [if_pos d]; exact Nat.one_le_pow _ _ (by decide)
    · rw [if_neg d]
      obtain ⟨hn, en⟩ := on_le wf
      have key : ∀ k, k ≤ oN O → ((List.range k).flatMap (chl O f W p n u)).length ≤ k * 8 ^ (8 - (n + 1)) ∧ (n = 8 → ((List.range k).flatMap (chl O f W p n u)).length = 0) := by
        intro k
        induction k with
        | zero => intro _; exact ⟨by simp, fun _ => by simp⟩
        | succ k ihk =>
          intro hk
          have r := ihk (by omega)
          rw [List.range_succ, List.flatMap_append, List.length_append, List.flatMap_singleton]
          have c1 : (chl O f W p n u k).length ≤ 8 ^ (8 - (n + 1)) ∧ (n = 8 → (chl O f W p n u k).length = 0) := by
            unfold chl
            by_cases c : mayg O W u k = true
            · rw [if_pos c]
              have g := nd_go wf nd (by omega) c
              exact ⟨ih _ _ _ _ g.1, fun e => absurd g.2.1 (by omega)⟩
            · rw [if_neg c]; exact ⟨Nat.zero_le _, fun _ => rfl⟩
          refine ⟨?_, fun e => by rw [r.2 e, c1.2 e]⟩
          rw [Nat.succ_mul]
          omega
      have k8 := key (oN O) (Nat.le_refl _)
      rcases Nat.lt_or_ge n 8 with h8 | h8
      · refine Nat.le_trans k8.1 ?_
        rw [show 8 - n = (8 - (n + 1)) + 1 by omega, Nat.pow_succ, Nat.mul_comm]
        exact Nat.mul_le_mul_left _ hn
      · have := nd_n nd
        rw [k8.2 (by omega)]; exact Nat.zero_le _
/-! the best of so many: the least by a measure, of like ones the shortest, of like ones the first -/
def bet (key : Lf → Int) (l m : Lf) : Bool := decide (key l < key m) || (decide (key l = key m) && decide (l.2.2.1 < m.2.2.1))
def bst (key : Lf → Int) (b : Option Lf) (l : Lf) : Option Lf := match b with
  | none => some l
  | some m => if bet key l m then some l else some m
def bl (key : Lf → Int) (L : List Lf) : Option Lf := L.foldl (bst key) none
theorem bl_app (key : Lf → Int) (L M : List Lf) : bl key (L ++ M) = M.foldl (bst key) (bl key L) := List.foldl_append
theorem bl_snoc (key : Lf → Int) (L : List Lf) (l : Lf) : bl key (L ++ [l]) = bst key (bl key L) l := by rw [bl_app]; rfl
theorem fold_stay {key : Lf → Int} {m : Lf} : ∀ {M : List Lf}, (∀ l ∈ M, bet key l m = false) → M.foldl (bst key) (some m) = some m := by
  intro M
  induction M with
  | nil => intro _; rfl
  | cons l M ih =>
    intro h
    show M.foldl (bst key) (bst key (some m) l) = some m
    have : bst key (some m) l = some m := by
      show (if bet key l m then some l else some m) = some m
      rw [h l (by simp), if_neg (by decide)]
    rw [this]
    exact ih (fun x hx => h x (by simp [hx]))
theorem fold_some {key : Lf → Int} : ∀ {M : List Lf} {b : Option Lf}, (b ≠ none ∨ M ≠ []) → ∃ m, M.foldl (bst key) b = some m ∧ (b = some m ∨ m ∈ M) := by
  intro M
  induction M with
  | nil =>
    intro b h
    cases b with
    | none => rcases h with h | h; exact absurd rfl h; exact absurd rfl h
    | some m => exact ⟨m, rfl, Or.inl rfl⟩
  | cons l M ih =>
    intro b _
    show ∃ m, M.foldl (bst key) (bst key b l) = some m ∧ _
    have hb1 : bst key b l = some l ∨ bst key b l = b ∧ b ≠ none := by
      cases b with
      | none => exact Or.inl rfl
      | some m =>
        show (if bet key l m then some l else some m) = some l ∨ (if bet key l m then some l else some m) = some m ∧ _
        by_cases c : bet key l m = true
        · rw [if_pos c]; exact Or.inl rfl
        · rw [if_neg c]; exact Or.inr ⟨rfl, by simp⟩
    have hne : bst key b l ≠ none := by
      rcases hb1 with e | e
      · rw [e]; simp
      · rw [e.1]; exact e.2
    obtain ⟨m, e1, e2⟩ := ih (b := bst key b l) (Or.inl hne)
    refine ⟨m, e1, ?_⟩
    rcases e2 with e2 | e2
    · rcases hb1 with e | e
      · rw [e] at e2
        have : l = m := by simpa using e2
        exact Or.inr (by simp [this])
      · rw [e.1] at e2; exact Or.inl e2
    · exact Or.inr (by simp [e2])
theorem bl_nil (key : Lf → Int) (L : List Lf) : bl key L = none ↔ L = [] := by
  constructor
  · intro h
    by_cases c : L = []
    · exact c
    · obtain ⟨m, e, _⟩ := fold_some (key := key) (M := L) (b := none) (Or.inr c)
      have : bl key L = some m := e
      rw [this] at h; exact absurd h (by simp)
  · intro h; rw [h]; rfl
theorem bl_mem {key : Lf → Int} {L : List Lf} {m : Lf} (h : bl key L = some m) : m ∈ L := by
  have hL : L ≠ [] := fun e => by rw [e] at h; exact absurd h (by simp [bl])
  obtain ⟨m', e, e2⟩ := fold_some (key := key) (M := L) (b := none) (Or.inr hL)
  have h' : bl key L = some m' := e
  rw [h] at h'
  have : m = m' := by simpa using h'
  rcases e2 with e2 | e2
  · exact absurd e2 (by simp)
  · rw [this]; exact e2
theorem bl_stay {key : Lf → Int} {L M : List Lf} {m : Lf} (h : bl key L = some m) (hs : ∀ l ∈ M, bet key l m = false) : bl key (L ++ M) = some m := by
  rw [bl_app, h]; exact fold_stay hs
/-! where none is left to come -/
theorem lv_none (D : Wkr → Int → Prop) (hD : ∀ W u, D W u → dn O W = false) (hg : ∀ W n u i, D W u → Nd O W n u → i < oN O → mayg O W u i = true → D (goS O W i (stp O ntk W i)) (ior u (ishl 1 (i : Int)))) (wf : WF O) : ∀ f W p n u, Nd O W n u → D W u → lv O f W p n u = [] := by
  intro f
  induction f with
  | zero => intro W p n u _ _; rfl
  | succ f ih =>
    intro W p n u nd d
    rw [lv_s, hD W u d, if_neg (by decide), List.flatMap_eq_nil_iff]
    intro i hi
    rw [List.mem_range] at hi
    unfold chl
    by_cases c : mayg O W u i = true
    · rw [if_pos c]; exact ih _ _ _ _ (nd_go wf nd hi c).1 (hg W n u i d nd hi c)
    · rw [if_neg c]
theorem dn_iff (wf : WF O) (s : WS O W) : dn O W = true ↔ ∀ i, hb (O 0 5) i = true → W 0 ≤ W (4 + i) := by
  have hn := wf_n wf
  have s0 := s.1
  have hp : sl (O 0 4).toNat (O 0 5) := wf.2.2.2.2.2.1
  unfold dn hset
  rw [decide_eq_true_iff, an_0]
  refine ⟨fun g i hi => ?_, fun g i hi => ?_⟩
  · have := g i hi
    rw [hb_sor _ _ (by omega), Bool.and_eq_true, decide_eq_true_iff, decide_eq_true_iff] at this
    omega
  · have h2 := g i hi
    have h3 := hb_at hp hi
    rw [hb_sor _ _ (by omega), decide_eq_true h3, Bool.true_and, decide_eq_true_iff]
    omega
/-- one of the permit was gone to already and is not held -/
theorem dead1 (wf : WF O) {f : Nat} (nd : Nd O W n u) {i : Nat} (h1 : hb (O 0 5) i = true) (h2 : hb u i = true) (h3 : W (4 + i) < W 0) : lv O f W p n u = [] := by
  refine lv_none (fun W u => WS O W ∧ hb u i = true ∧ W (4 + i) < W 0) (fun W u d => ?_) (fun W n u j d nd hj c => ?_) wf f W p n u nd ⟨nd.1, h2, h3⟩
  · cases e : dn O W
    · rfl
    · have := (dn_iff wf d.1).mp e i h1; have := d.2.2; omega
  · have g := nd_go wf nd hj c
    refine ⟨g.1.1, by rw [hb_or, d.2.1]; rfl, ?_⟩
    have hij : i ≠ j := fun e => by rw [e, g.2.2.1] at d; exact absurd d.2.1 (by decide)
    rw [goS_l, if_neg hij]
    have := d.2.2
    omega
/-- one of the permit that is not held is barred for good -/
theorem dead2 (wf : WF O) {f : Nat} (nd : Nd O W n u) {i : Nat} (h1 : hb (O 0 5) i = true) (h3 : W (4 + i) < W 0) (h4 : 400 ≤ W 0 ∨ ∃ j, hb (O 13 i) j = true ∧ 399 ≤ W (4 + j)) : lv O f W p n u = [] := by
  refine lv_none (fun W _ => WS O W ∧ W (4 + i) < W 0 ∧ (400 ≤ W 0 ∨ ∃ j, hb (O 13 i) j = true ∧ 399 ≤ W (4 + j))) (fun W u d => ?_) (fun W n u k d nd hk c => ?_) wf f W p n u nd ⟨nd.1, h3, h4⟩
  · cases e : dn O W
    · rfl
    · have := (dn_iff wf d.1).mp e i h1; have := d.2.1; omega
  · have g := nd_go wf nd hk c
    obtain ⟨hn, en⟩ := on_le wf
    have hko : (k : Int) < O 0 4 := by omega
    have c' := c
    unfold mayg at c'
    rw [Bool.and_eq_true, decide_eq_true_iff] at c'
    have hr := stp_rg wf nd.1 hko c'.2
    have hlt : ¬ 400 ≤ W 0 := by omega
    obtain ⟨j, j1, j2⟩ := d.2.2.resolve_left hlt
    have hik : i ≠ k := by
      intro e
      subst e
      -- its stamp would be barred
      have hs := c'.2
      unfold stp at hs
      rw [if_neg (by have := d.2.1; omega), if_pos hr.2.2.2.1] at hs
      obtain ⟨N, e1, n1, n2, n3, n4⟩ := fst_hit rfl hs
      unfold okh at n3
      simp only [Bool.and_eq_true] at n3
      have hb1 := (brh_iff wf nd.1 hko (by omega)).mp n3.2.2 j j1
      have := (ev_ge (x := W (4 + j)) (h := 399) (by omega)).mpr j2
      omega
    have hjk : j ≠ k := by
      intro e
      subst e
      have := hr.2.2.2.2
      omega
    refine ⟨g.1.1, ?_, Or.inr ⟨j, j1, ?_⟩⟩
    · rw [goS_l, if_neg hik]; have := d.2.1; omega
    · rw [goS_l, if_neg hjk]; exact j2
def mis (O : Ofc) (W : Wkr) : Int := scn (fun i => hb (O 0 5) i && decide (W (4 + i) < W 0)) 8
theorem mis_go (wf : WF O) (nd : Nd O W n u) {i : Nat} (hi : i < oN O) (hm : mayg O W u i = true) : mis O W ≤ mis O (goS O W i (stp O ntk W i)) + 1 := by
  have g := nd_go wf nd hi hm
  unfold mis
  refine (scn_le (o := i) (fun j hj hp => ?_) 8).1
  rw [Bool.and_eq_true, decide_eq_true_iff] at hp ⊢
  refine ⟨hp.1, ?_⟩
  rw [goS_l, if_neg hj]
  have := hp.2
  omega
theorem mis_dn (wf : WF O) (s : WS O W) (d : dn O W = true) : mis O W = 0 := by
  have h := (dn_iff wf s).mp d
  unfold mis
  have : ∀ k, scn (fun i => hb (O 0 5) i && decide (W (4 + i) < W 0)) k = 0 := by
    intro k
    induction k with
    | zero => rfl
    | succ k ih =>
      rw [scn, ih, if_neg]
      · rfl
      · intro q
        rw [Bool.and_eq_true, decide_eq_true_iff] at q
        have := h k q.1
        have := q.2
        omega
  exact this 8
/-- each that is missing takes an hour and a place -/
theorem lv_mis (wf : WF O) : ∀ f W p n u, Nd O W n u → ∀ l, l ∈ lv O f W p n u → W 0 + mis O W ≤ l.1 0 ∧ (n : Int) + mis O W ≤ l.2.2.1 := by
  intro f
  induction f with
  | zero => intro W p n u _ l hl; rw [lv] at hl; exact absurd hl (by simp)
  | succ f ih =>
    intro W p n u nd l hl
    rw [lv_s] at hl
    by_cases d : dn O W = true
    · rw [if_pos d, List.mem_singleton] at hl
      subst hl
      rw [mis_dn wf nd.1 d]
      exact ⟨by show W 0 + 0 ≤ W 0; omega, by show (n : Int) + 0 ≤ (n : Int); omega⟩
    · rw [if_neg d, List.mem_flatMap] at hl
      obtain ⟨i, hi, hl⟩ := hl
      rw [List.mem_range] at hi
      unfold chl at hl
      by_cases c : mayg O W u i = true
      · rw [if_pos c] at hl
        have g := nd_go wf nd hi c
        have r := ih _ _ _ _ g.1 l hl
        have := mis_go wf nd hi c
        exact ⟨by omega, by omega⟩
      · rw [if_neg c] at hl; exact absurd hl (by simp)
end
