/-! B: the blind goes. -/
abbrev BS : Type := Wkr × Int × Int
def bdc (O : Ofc) (W : Wkr) (a : Int) : Int := iand (sor (fun o => decide (stp O ntk W o ≠ -1)) (O 0 4).toNat) (ixor a (-1))
def nxx (x : Int) : Int := ilrm (ila (ilm 1103515245 x) 12345) 2147483648
def memb (s b : Int) : Int := fst_ (fun i => hb s i && decide (scn (hb s) i = b)) 8 0
def pck (s x : Int) : Nat := (memb s (wrap (ilrm (ildv x 65536) (scn (hb s) 8)))).toNat
def bds (O : Ofc) (q : BS) : BS := (goS O q.1 (pck (bdc O q.1 q.2.1) (nxx q.2.2)) (stp O ntk q.1 (pck (bdc O q.1 q.2.1) (nxx q.2.2))), ior q.2.1 (ishl 1 ((pck (bdc O q.1 q.2.1) (nxx q.2.2) : Nat) : Int)), nxx q.2.2)
def bdn (O : Ofc) (q : BS) : Nat → BS
  | 0 => q
  | i + 1 => bds O (bdn O q i)
def dnb (O : Ofc) (W : Wkr) : Bool := decide (iand (O 0 5) (ixor (hset O W (W 0).toNat) (-1)) = 0)
def bstp (O : Ofc) (q : BS) (i : Nat) : Bool := dnb O (bdn O q i).1 || decide (bdc O (bdn O q i).1 (bdn O q i).2.1 = 0)
def bdN (O : Ofc) (q : BS) : Nat := (fst_ (bstp O q) 9 0).toNat
def bdq (O : Ofc) (a : Int) : BS := (rt (Wn O), hset O (rt (Wn O)) (rt (Wn O) 0).toNat, a)
def bdh (O : Ofc) (a : Int) : Int := if dnb O (bdn O (bdq O a) (bdN O (bdq O a))).1 = true then (bdn O (bdq O a) (bdN O (bdq O a))).1 0 else -1
def Eqw (W V : Wkr) : Prop := ∀ k, k ≠ 2 → k ≠ 3 → V k = W k
theorem nxx_rg {x : Int} (h0 : 0 ≤ x) (h1 : x < 2147483648) : 0 ≤ nxx x ∧ nxx x < 2147483648 := by
  unfold nxx
  have e : ila (ilm 1103515245 x) 12345 = 1103515245 * x + 12345 := by
    unfold ila ilm wrapl
    omega
  rw [e, i64_rem (by omega) (by omega) (by decide) (by decide)]
  omega
theorem scn_pos : ∀ s : Nat, s < 256 → s ≠ 0 → 1 ≤ scn (hb (s : Int)) 8 := by decide +kernel
theorem pck_ok {s x : Int} (hs : 0 ≤ s ∧ s < 256) (hz : s ≠ 0) (h0 : 0 ≤ x) (h1 : x < 2147483648) : ∃ b N : Nat, wrap (ilrm (ildv x 65536) (scn (hb s) 8)) = (b : Int) ∧ pck s x = N ∧ N < 8 ∧ hb s N = true ∧ scn (hb s) N = (b : Int) ∧ (∀ i, i ≤ N → scn (hb s) i ≤ (b : Int)) ∧ (∀ i, i < N → hb s i = true → scn (hb s) i < (b : Int)) ∧ 1 ≤ scn (hb s) 8 := by
  obtain ⟨k, rfl⟩ := Int.eq_ofNat_of_zero_le hs.1
  have hp := scn_pos k (by omega) (by omega)
  have hr := scn_rg (hb (k : Int)) 8
  have ed : ildv x 65536 = x / 65536 := i64_div h0 (by omega) (by decide) (by decide)
  have em : ilrm (x / 65536) (scn (hb (k : Int)) 8) = (x / 65536) % (scn (hb (k : Int)) 8) := i64_rem (by omega) (by omega) (by omega) (by omega)
  have m0 : 0 ≤ (x / 65536) % (scn (hb (k : Int)) 8) := Int.emod_nonneg _ (by omega)
  have m1 : (x / 65536) % (scn (hb (k : Int)) 8) < scn (hb (k : Int)) 8 := Int.emod_lt_of_pos _ (by omega)
  obtain ⟨b, eb⟩ := Int.eq_ofNat_of_zero_le m0
  have ew : wrap (ilrm (ildv x 65536) (scn (hb (k : Int)) 8)) = (b : Int) := by rw [ed, em, eb, wrap_id ⟨by omega, by omega⟩]
  have mono : ∀ n, (∀ i, i < n → (hb (k : Int) i && decide (scn (hb (k : Int)) i = (b : Int))) = false) → scn (hb (k : Int)) n ≤ (b : Int) := by
    intro n
    induction n with
    | zero => intro _; rw [scn]; omega
    | succ n ih =>
      intro hn
      have h1 := ih (fun i hi => hn i (by omega))
      have h2 := hn n (by omega)
      rw [scn]
      cases hbn : hb (k : Int) n
      · rw [if_neg (by decide)]; omega
      · rw [hbn, Bool.true_and, decide_eq_false_iff_not] at h2
        rw [if_pos rfl]; omega
  have hne : memb (k : Int) (b : Int) ≠ -1 := fun e => by
    have := mono 8 (fun i hi => fst_no e i (by omega) (by omega))
    omega
  obtain ⟨N, e1, n1, n2, n3, n4⟩ := fst_hit rfl hne
  rw [Bool.and_eq_true, decide_eq_true_iff] at n3
  refine ⟨b, N, ew, ?_, by omega, n3.1, n3.2, fun i hi => mono i (fun j hj => n4 j (by omega) (by omega)), fun i hi hbi => ?_, hp⟩
  · unfold pck
    rw [ew]
    unfold memb
    rw [e1]; rfl
  · have h1 := mono i (fun j hj => n4 j (by omega) (by omega))
    have h2 := n4 i (by omega) hi
    try dsimp only at h2
    rw [hbi, Bool.true_and, decide_eq_false_iff_not] at h2
    omega
section
variable {T : Knd} {A : Rfs} {O : Ofc} {I : Mem} {W V : Wkr} {q : BS}
theorem eqw_r (W : Wkr) : Eqw W W := fun _ _ _ => rfl
theorem eqw_hset (e : Eqw W V) (k : Nat) : hset O V k = hset O W k := by
  unfold hset
  exact sor_ext (fun i _ => by rw [e (4 + i) (by omega) (by omega)])
theorem eqw_stp (e : Eqw W V) (tk : Nat → Nat → Bool) (o : Nat) : stp O tk V o = stp O tk W o := by
  have ew : wlk O V o = wlk O W o := by unfold wlk; rw [e 1 (by omega) (by omega)]
  have ea : arr O V o = arr O W o := by unfold arr; rw [ew, e 0 (by omega) (by omega)]
  unfold stp
  rw [ew, ea, e 0 (by omega) (by omega), e (4 + o) (by omega) (by omega)]
  have : okh O tk V o = okh O tk W o := by
    funext h
    unfold okh ndh brh
    rw [eqw_hset e]
  rw [this]
theorem eqw_go (e : Eqw W V) (o : Nat) (h : Int) : Eqw (goS O W o h) (goS O V o h) := fun k h2 h3 => by
  unfold goS
  rw [if_neg h2, if_neg h3, if_neg h2, if_neg h3, e k h2 h3]
theorem eqw_rt (W : Wkr) : Eqw (rt W) W := fun k h2 h3 => by
  unfold rt
  rw [if_neg (by omega)]
theorem eqw_dn (e : Eqw W V) : dnb O V = dnb O W := by
  unfold dnb
  rw [eqw_hset e, e 0 (by omega) (by omega)]
theorem eqw_c (e : Eqw W V) (a : Int) : bdc O V a = bdc O W a := by
  unfold bdc
  have : (fun o => decide (stp O ntk V o ≠ -1)) = (fun o => decide (stp O ntk W o ≠ -1)) := by funext o; rw [eqw_stp e]
  rw [this]
theorem bdc_8 (wf : WF O) (W : Wkr) (a : Int) : 0 ≤ bdc O W a ∧ bdc O W a < 256 := by
  have hn8 := wf_n wf
  refine sl_8.mp ⟨cn_iand _ _, fun i hi => ?_⟩
  unfold bdc
  rw [hb_an, hb_sor _ _ (by omega), decide_eq_false (by omega), Bool.false_and, Bool.false_and]
theorem bdc_hb (wf : WF O) {W : Wkr} {a : Int} {o : Nat} (h : hb (bdc O W a) o = true) : (o : Int) < O 0 4 ∧ stp O ntk W o ≠ -1 ∧ hb a o = false := by
  have hn8 := wf_n wf
  unfold bdc at h
  rw [hb_an, hb_sor _ _ (by omega), Bool.and_eq_true, Bool.and_eq_true, decide_eq_true_iff, decide_eq_true_iff] at h
  exact ⟨by omega, h.1.2, by simpa using h.2⟩
def BI (O : Ofc) (q : BS) (i : Nat) : Prop := WS O (bdn O q i).1 ∧ sl 8 (bdn O q i).2.1 ∧ (i : Int) ≤ scn (hb (bdn O q i).2.1) 8 ∧ 0 ≤ (bdn O q i).2.2 ∧ (bdn O q i).2.2 < 2147483648
theorem bd_step (wf : WF O) {i : Nat} (v : BI O q i) (hs : bstp O q i = false) : ∃ b N : Nat, wrap (ilrm (ildv (nxx (bdn O q i).2.2) 65536) (scn (hb (bdc O (bdn O q i).1 (bdn O q i).2.1)) 8)) = (b : Int) ∧ pck (bdc O (bdn O q i).1 (bdn O q i).2.1) (nxx (bdn O q i).2.2) = N ∧ N < 8 ∧ hb (bdc O (bdn O q i).1 (bdn O q i).2.1) N = true ∧ scn (hb (bdc O (bdn O q i).1 (bdn O q i).2.1)) N = (b : Int) ∧ (∀ j, j ≤ N → scn (hb (bdc O (bdn O q i).1 (bdn O q i).2.1)) j ≤ (b : Int)) ∧ (∀ j, j < N → hb (bdc O (bdn O q i).1 (bdn O q i).2.1) j = true → scn (hb (bdc O (bdn O q i).1 (bdn O q i).2.1)) j < (b : Int)) ∧ 1 ≤ scn (hb (bdc O (bdn O q i).1 (bdn O q i).2.1)) 8 ∧ (N : Int) < O 0 4 ∧ stp O ntk (bdn O q i).1 N ≠ -1 ∧ hb (bdn O q i).2.1 N = false ∧ bdc O (bdn O q i).1 (bdn O q i).2.1 ≠ 0 ∧ bdn O q (i + 1) = (goS O (bdn O q i).1 N (stp O ntk (bdn O q i).1 N), ior (bdn O q i).2.1 (ishl 1 (N : Int)), nxx (bdn O q i).2.2) ∧ BI O q (i + 1) := by
  obtain ⟨v1, v2, v3, v4, v5⟩ := v
  unfold bstp at hs
  rw [Bool.or_eq_false_iff, decide_eq_false_iff_not] at hs
  have hx := nxx_rg v4 v5
  obtain ⟨b, N, p1, p2, p3, p4, p5, p6, p7, p8⟩ := pck_ok (bdc_8 wf (bdn O q i).1 (bdn O q i).2.1) hs.2 hx.1 hx.2
  have hh := bdc_hb wf p4
  have hr := stp_rg wf v1 hh.1 hh.2.1
  have v0 := v1.1
  have en : bdn O q (i + 1) = (goS O (bdn O q i).1 N (stp O ntk (bdn O q i).1 N), ior (bdn O q i).2.1 (ishl 1 (N : Int)), nxx (bdn O q i).2.2) := by
    rw [bdn, bds, p2]
  refine ⟨b, N, p1, p2, p3, p4, p5, p6, p7, p8, hh.1, hh.2.1, hh.2.2, hs.2, en, ?_⟩
  unfold BI
  rw [en]
  refine ⟨go_ws wf v1 hh.1 (by omega) (by omega), ⟨cn_ior _ _, fun j hj => ?_⟩, ?_, hx.1, hx.2⟩
  · rw [hb_or, v2.2 j hj, hb_shl (by omega), decide_eq_false (by omega)]; rfl
  · have := scn_add (p := hb (bdn O q i).2.1) (q := hb (ior (bdn O q i).2.1 (ishl 1 (N : Int)))) (o := N) (fun j => by rw [hb_or, hb_shl (by omega)]) hh.2.2 8
    rw [if_pos p3] at this
    show ((i + 1 : Nat) : Int) ≤ scn (hb (ior (bdn O q i).2.1 (ishl 1 (N : Int)))) 8
    omega
theorem bd_inv (wf : WF O) (v : BI O q 0) : ∀ i, (∀ j, j < i → bstp O q j = false) → BI O q i := by
  intro i
  induction i with
  | zero => intro _; exact v
  | succ i ih =>
    intro hj
    obtain ⟨b, N, _, _, _, _, _, _, _, _, _, _, _, _, _, r⟩ := bd_step wf (ih (fun j h => hj j (by omega))) (hj i (by omega))
    exact r
theorem bd_end (wf : WF O) (v : BI O q 0) : bdN O q ≤ 8 ∧ bstp O q (bdN O q) = true ∧ (∀ j, j < bdN O q → bstp O q j = false) ∧ (∀ j, j ≤ bdN O q → BI O q j) := by
  have hne : fst_ (bstp O q) 9 0 ≠ -1 := fun e => by
    have hn := fst_no e
    have w := bd_inv wf v 8 (fun j hj => hn j (by omega) (by omega))
    have h8 := hn 8 (by omega) (by omega)
    unfold bstp at h8
    rw [Bool.or_eq_false_iff, decide_eq_false_iff_not] at h8
    refine h8.2 ?_
    unfold bdc
    rw [an_0]
    intro j hj
    have hn8 := wf_n wf
    rw [hb_sor _ _ (by omega), Bool.and_eq_true, decide_eq_true_iff] at hj
    cases hx : hb (bdn O q 8).2.1 j
    · have := scn_no hx 8 (by omega)
      have := w.2.2.1
      omega
    · rfl
  obtain ⟨N, e1, n1, n2, n3, n4⟩ := fst_hit rfl hne
  have eN : bdN O q = N := by unfold bdN; rw [e1]; rfl
  rw [eN]
  exact ⟨by omega, n3, fun j hj => n4 j (by omega) hj, fun j hj => bd_inv wf v j (fun t ht => n4 t (by omega) (by omega))⟩
theorem bd_0 (wf : WF O) (hl : 0 < O 0 0) (g : LG O) {a : Int} (h0 : 0 ≤ a) (h1 : a < 2147483648) : BI O (bdq O a) 0 := by
  have hn8 := wf_n wf
  refine ⟨rt_ws (wn_ws wf hl g), ?_, (scn_rg _ _).1, h0, h1⟩
  exact sl_le (sl_sor _ (by omega)) (by omega)
end
