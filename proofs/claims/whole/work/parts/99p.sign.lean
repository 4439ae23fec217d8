/-! B: the lines' ends, side by side; what stays well formed. -/
def WFc (O : Ofc) : Prop := (1 ≤ O 0 1 ∧ O 0 1 ≤ 6) ∧ (0 ≤ O 0 2 ∧ O 0 2 < O 0 1) ∧ (0 ≤ O 0 3 ∧ O 0 3 ≤ 399) ∧ (0 ≤ O 0 4 ∧ O 0 4 ≤ 8) ∧ sl (O 0 4).toNat (O 0 5) ∧ O 0 6 = 0 ∧ (∀ o : Nat, (o : Int) < O 0 4 → WO O o) ∧ ∀ r c, r < 6 → c < 6 → 0 ≤ O (15 + r) c ∧ O (15 + r) c ≤ 9 ∧ (0 < O (15 + r) c → (r : Int) < O 0 1 ∧ (c : Int) < O 0 1)
def RBx (I0 M0 I M : Mem) : Prop := I 4 2 ≠ 0 ∧ M 129 12 = I 4 2 ∧ M 129 13 = I 4 3 ∧ FcC I0 I ∧ FcM M0 M
def LE (I0 M0 : Mem) (b : Nat → Int) (L : Nat) (ln : Int) (I M : Mem) : Prop := (∃ n O p, WFc O ∧ O 0 0 = ln ∧ RG I0 M0 b L n 0 O p I M) ∨ RBx I0 M0 I M ∨ Lag I0 M0 I M
def sgnM (T : Knd) (A : Rfs) (v19 : Mem) : Option Mem := (f_X12_isGood T A 129 v19).bind fun e41 => thn (if e41 = 0 then some (.inl v19) else (f_X12_ends T A 129 v19).bind fun e46 => some (.inl e46)) (fun (v45 : Mem) => (gr T A 12 16 129).bind fun x48 => (ld T 20 x48 4 v45).bind fun x49 => (sto T 20 x48 4 (ia x49 1) v45).bind fun I51 => some I51)
theorem wf_of {O : Ofc} (w : WFc O) (h : 0 < O 0 0 ∧ O 0 0 ≤ 1600) : WF O := by
  obtain ⟨w1, w2, w3, w4, w5, w6, w7, w8⟩ := w
  exact ⟨⟨by omega, h.2⟩, ⟨by omega, w1.2⟩, ⟨w2.1, fun _ => w2.2⟩, w3, w4, w5, ⟨by omega, by omega⟩, fun z => by omega, w7, w8⟩
theorem rbx_of {I0 M0 I M : Mem} {n : Nat} (q : RBd I0 M0 n I M) : RBx I0 M0 I M := ⟨q.1, q.2.1, q.2.2.1, q.2.2.2.2.1, q.2.2.2.2.2⟩
theorem wo_c {O O' : Ofc} {o : Nat} (h : WO O o) (e1 : O' 0 1 = O 0 1) (e4 : (O 0 4).toNat ≤ (O' 0 4).toNat) (e : ∀ a, 3 ≤ a → a ≤ 13 → O' a o = O a o) : WO O' o := by
  obtain ⟨h1, h2, h3, h4, h5, h6, h7, h8, h9, h10⟩ := h
  unfold WO
  rw [e 3 (by omega) (by omega), e 4 (by omega) (by omega), e 5 (by omega) (by omega), e 6 (by omega) (by omega), e 7 (by omega) (by omega), e 8 (by omega) (by omega), e 9 (by omega) (by omega), e 10 (by omega) (by omega), e 11 (by omega) (by omega), e 12 (by omega) (by omega), e 13 (by omega) (by omega), e1]
  exact ⟨h1, h2, h3, h4, h5, h6, h7, h8, ⟨sl_le h9.1 e4, h9.2⟩, ⟨sl_le h10.1 e4, h10.2⟩⟩
theorem wfc_0 {O : Ofc} (w : WFc O) (v : Int) : WFc (rwO O 0 0 v) := by
  obtain ⟨w1, w2, w3, w4, w5, w6, w7, w8⟩ := w
  have e : ∀ a k, ¬ (a = 0 ∧ k = 0) → rwO O 0 0 v a k = O a k := fun a k h => rw_o _ _ h
  unfold WFc
  rw [e 0 1 (by omega), e 0 2 (by omega), e 0 3 (by omega), e 0 4 (by omega), e 0 5 (by omega), e 0 6 (by omega)]
  refine ⟨w1, w2, w3, w4, w5, w6, fun o ho => wo_c (w7 o ho) (e _ _ (by omega)) (by rw [e 0 4 (by omega)]; exact Nat.le_refl _) (fun a h1 h2 => e _ _ (by omega)), fun r c hr hc => ?_⟩
  rw [e _ _ (by omega)]
  exact w8 r c hr hc
theorem wfc_way {O : Ofc} (w : WFc O) {x y : Nat} {v : Int} (hx : (x : Int) < O 0 1) (hy : (y : Int) < O 0 1) (hv : 1 ≤ v ∧ v ≤ 9) : WFc (rwO (rwO O (15 + x) y v) (15 + y) x v) := by
  obtain ⟨w1, w2, w3, w4, w5, w6, w7, w8⟩ := w
  have e : ∀ a k, a < 15 → rwO (rwO O (15 + x) y v) (15 + y) x v a k = O a k := fun a k h => by rw [rw_o _ _ (by omega), rw_o _ _ (by omega)]
  unfold WFc
  rw [e 0 1 (by omega), e 0 2 (by omega), e 0 3 (by omega), e 0 4 (by omega), e 0 5 (by omega), e 0 6 (by omega)]
  refine ⟨w1, w2, w3, w4, w5, w6, fun o ho => wo_c (w7 o ho) (e _ _ (by omega)) (by rw [e 0 4 (by omega)]; exact Nat.le_refl _) (fun a h1 h2 => e _ _ (by omega)), fun r c hr hc => ?_⟩
  by_cases c1 : 15 + r = 15 + y ∧ c = x
  · rw [c1.1, c1.2, rw_s]
    exact ⟨by omega, hv.2, fun _ => ⟨by omega, hx⟩⟩
  · rw [rw_o _ _ c1]
    by_cases c2 : 15 + r = 15 + x ∧ c = y
    · rw [c2.1, c2.2, rw_s]
      exact ⟨by omega, hv.2, fun _ => ⟨by omega, hy⟩⟩
    · rw [rw_o _ _ c2]; exact w8 r c hr hc
theorem wfc_ask {O : Ofc} (w : WFc O) {q x y n : Nat} (hq : q < 2) (hn : O 0 4 = (n : Int)) (hx : x < n) (hy : y < n) (hxy : x ≠ y) : WFc (rwO O (12 + q) x (ior (O (12 + q) x) (ishl 1 (y : Int)))) := by
  obtain ⟨w1, w2, w3, w4, w5, w6, w7, w8⟩ := w
  have e : ∀ a k, ¬ (a = 12 + q ∧ k = x) → rwO O (12 + q) x (ior (O (12 + q) x) (ishl 1 (y : Int))) a k = O a k := fun a k h => rw_o _ _ h
  have en : (O 0 4).toNat = n := by omega
  have hs : ∀ z : Int, sl n z → hb z x = false → sl n (ior z (ishl 1 (y : Int))) ∧ hb (ior z (ishl 1 (y : Int))) x = false := fun z h1 h2 => ⟨sl_or h1 hy (by omega), by rw [hb_or, h2, hb_shl (by omega), decide_eq_false hxy]; rfl⟩
  unfold WFc
  rw [e 0 1 (by omega), e 0 2 (by omega), e 0 3 (by omega), e 0 4 (by omega), e 0 5 (by omega), e 0 6 (by omega)]
  refine ⟨w1, w2, w3, w4, w5, w6, fun o ho => ?_, fun r c hr hc => by rw [e _ _ (by omega)]; exact w8 r c hr hc⟩
  by_cases c : o = x
  · subst c
    obtain ⟨h1, h2, h3, h4, h5, h6, h7, h8, h9, h10⟩ := w7 o ho
    unfold WO
    rw [e 3 o (by omega), e 4 o (by omega), e 5 o (by omega), e 6 o (by omega), e 7 o (by omega), e 8 o (by omega), e 9 o (by omega), e 10 o (by omega), e 11 o (by omega), e 0 1 (by omega), e 0 4 (by omega), en]
    rw [en] at h9 h10
    rcases (by omega : q = 0 ∨ q = 1) with z | z
    · subst z
      rw [show rwO O (12 + 0) o (ior (O (12 + 0) o) (ishl 1 (y : Int))) 12 o = ior (O 12 o) (ishl 1 (y : Int)) from rw_s _ _ _ _, e 13 o (by omega)]
      exact ⟨h1, h2, h3, h4, h5, h6, h7, h8, hs _ h9.1 h9.2, h10⟩
    · subst z
      rw [show rwO O (12 + 1) o (ior (O (12 + 1) o) (ishl 1 (y : Int))) 13 o = ior (O 13 o) (ishl 1 (y : Int)) from rw_s _ _ _ _, e 12 o (by omega)]
      exact ⟨h1, h2, h3, h4, h5, h6, h7, h8, h9, hs _ h10.1 h10.2⟩
  · exact wo_c (w7 o ho) (e _ _ (by omega)) (by rw [e 0 4 (by omega)]; exact Nat.le_refl _) (fun a h1 h2 => e _ _ (by omega))
theorem wfc_leave {O : Ofc} (w : WFc O) {x : Nat} {v1 v2 : Int} (h1 : 0 ≤ v1 ∧ v1 ≤ v2) (h2 : v2 ≤ 39) : WFc (rwO (rwO O 10 x v1) 11 x v2) := by
  obtain ⟨w1, w2, w3, w4, w5, w6, w7, w8⟩ := w
  have e : ∀ a k, ¬ ((a = 10 ∨ a = 11) ∧ k = x) → rwO (rwO O 10 x v1) 11 x v2 a k = O a k := fun a k h => by rw [rw_o _ _ (by omega), rw_o _ _ (by omega)]
  unfold WFc
  rw [e 0 1 (by omega), e 0 2 (by omega), e 0 3 (by omega), e 0 4 (by omega), e 0 5 (by omega), e 0 6 (by omega)]
  refine ⟨w1, w2, w3, w4, w5, w6, fun o ho => ?_, fun r c hr hc => by rw [e _ _ (by omega)]; exact w8 r c hr hc⟩
  by_cases c : o = x
  · subst c
    obtain ⟨h1', h2', h3, h4, h5, h6, h7, h8, h9, h10⟩ := w7 o ho
    unfold WO
    rw [e 3 o (by omega), e 4 o (by omega), e 5 o (by omega), e 6 o (by omega), e 7 o (by omega), e 8 o (by omega), e 9 o (by omega), e 12 o (by omega), e 13 o (by omega), e 0 1 (by omega), e 0 4 (by omega), rw_s, rw_o (rwO O 10 o v1) v2 (by omega), rw_s]
    exact ⟨h1', h2', h3, h4, h5, h6, h7, Or.inr ⟨h1.1, h1.2, h2⟩, h9, h10⟩
  · exact wo_c (w7 o ho) (e _ _ (by omega)) (by rw [e 0 4 (by omega)]; exact Nat.le_refl _) (fun a h1 h2 => e _ _ (by omega))
theorem wfc_permit {O : Ofc} (w : WFc O) {n : Nat} (hn : O 0 4 = (n : Int)) {s : Int} (hs : sl n s) : WFc (rwO O 0 5 s) := by
  obtain ⟨w1, w2, w3, w4, w5, w6, w7, w8⟩ := w
  have e : ∀ a k, ¬ (a = 0 ∧ k = 5) → rwO O 0 5 s a k = O a k := fun a k h => rw_o _ _ h
  unfold WFc
  rw [e 0 1 (by omega), e 0 2 (by omega), e 0 3 (by omega), e 0 4 (by omega), rw_s, e 0 6 (by omega)]
  refine ⟨w1, w2, w3, w4, by rw [show (O 0 4).toNat = n by omega]; exact hs, w6, fun o ho => wo_c (w7 o ho) (e _ _ (by omega)) (by rw [e 0 4 (by omega)]; exact Nat.le_refl _) (fun a h1 h2 => e _ _ (by omega)), fun r c hr hc => by rw [e _ _ (by omega)]; exact w8 r c hr hc⟩
theorem wfc_official {O : Ofc} (w : WFc O) {n : Nat} (hn : O 0 4 = (n : Int)) (hn8 : n < 8) {v1 v2 v3 v4 : Int} {c : Nat → Int} (h1 : 0 ≤ v1 ∧ v1 ≤ O 0 1 - 1) (h2 : 0 ≤ v2 ∧ v2 ≤ 9) (h3 : v2 ≤ v3 ∧ v3 ≤ 9) (h4 : 1 ≤ v4 ∧ v4 ≤ 31) (hc : ∀ m, m < 3 → c m = -1 ∨ (mlo m ≤ c m ∧ c m ≤ mhi m)) : WFc (ofO (of4 O n v1 v2 v3 v4) n c) := by
  obtain ⟨w1, w2, w3, w4, w5, w6, w7, w8⟩ := w
  have f : ∀ a k, ¬ (k = n ∧ 3 ≤ a ∧ a ≤ 6) → of4 O n v1 v2 v3 v4 a k = O a k := fun a k h => by
    unfold of4
    rw [rw_o _ _ (by omega), rw_o _ _ (by omega), rw_o _ _ (by omega), rw_o _ _ (by omega)]
  have e : ∀ a k, ¬ (a = 0 ∧ k = 4) → ¬ (k = n ∧ 3 ≤ a ∧ a ≤ 13) → ofO (of4 O n v1 v2 v3 v4) n c a k = O a k := fun a k h1 h2 => by rw [ofO_o _ _ h1 (by omega), f _ _ (by omega)]
  unfold WFc
  rw [e 0 1 (by omega) (by omega), e 0 2 (by omega) (by omega), e 0 3 (by omega) (by omega), ofO_4, e 0 5 (by omega) (by omega), e 0 6 (by omega) (by omega), show (((n + 1 : Nat) : Int)).toNat = n + 1 by omega]
  rw [show (O 0 4).toNat = n by omega] at w5
  refine ⟨w1, w2, w3, ⟨by omega, by omega⟩, sl_le w5 (by omega), w6, fun o ho => ?_, fun r cc hr hcc => by rw [e _ _ (by omega) (by omega)]; exact w8 r cc hr hcc⟩
  by_cases z : o = n
  · subst z
    unfold WO
    rw [ofO_4, e 0 1 (by omega) (by omega), ofO_n _ _ (a := 7) (by omega) (by omega), ofO_n _ _ (a := 8) (by omega) (by omega), ofO_n _ _ (a := 9) (by omega) (by omega), ofO_n _ _ (a := 10) (by omega) (by omega), ofO_n _ _ (a := 11) (by omega) (by omega), ofO_n _ _ (a := 12) (by omega) (by omega), ofO_n _ _ (a := 13) (by omega) (by omega), ofO_o (of4 O o v1 v2 v3 v4) c (a := 3) (by omega) (by omega), ofO_o (of4 O o v1 v2 v3 v4) c (a := 4) (by omega) (by omega), ofO_o (of4 O o v1 v2 v3 v4) c (a := 5) (by omega) (by omega), ofO_o (of4 O o v1 v2 v3 v4) c (a := 6) (by omega) (by omega)]
    have g3 : of4 O o v1 v2 v3 v4 3 o = v1 := by unfold of4; rw [rw_o _ _ (by omega), rw_o _ _ (by omega), rw_o _ _ (by omega), rw_s]
    have g4 : of4 O o v1 v2 v3 v4 4 o = v2 := by unfold of4; rw [rw_o _ _ (by omega), rw_o _ _ (by omega), rw_s]
    have g5 : of4 O o v1 v2 v3 v4 5 o = v3 := by unfold of4; rw [rw_o _ _ (by omega), rw_s]
    have g6 : of4 O o v1 v2 v3 v4 6 o = v4 := by unfold of4; rw [rw_s]
    rw [g3, g4, g5, g6]
    have c0 := hc 0 (by decide)
    have c1 := hc 1 (by decide)
    have c2 := hc 2 (by decide)
    unfold mlo mhi at c0 c1 c2
    refine ⟨⟨h1.1, by omega⟩, h2, ⟨by omega, h3.2⟩, h4, ?_, ?_, ?_, Or.inl ⟨rfl, rfl⟩, ⟨⟨cn_0, fun i _ => hb_0 i⟩, hb_0 _⟩, ⟨⟨cn_0, fun i _ => hb_0 i⟩, hb_0 _⟩⟩
    · rw [if_pos rfl]
      rw [if_neg (by omega), if_pos rfl] at c0
      omega
    · rw [if_neg (by omega), if_pos rfl]
      rw [if_pos rfl, if_neg (by omega), if_pos rfl] at c1
      omega
    · rw [if_neg (by omega), if_neg (by omega), if_pos rfl]
      rw [if_neg (by omega), if_neg (by omega), if_neg (by omega)] at c2
      unfold mcw
      by_cases d : c 2 = -1
      · rw [if_pos ⟨rfl, d⟩]; omega
      · rw [if_neg (fun z => d z.2)]; omega
  · have ho' : (o : Int) < O 0 4 := by omega
    exact wo_c (w7 o ho') (e _ _ (by omega) (by omega)) (by rw [ofO_4]; omega) (fun a h1 h2 => e _ _ (by omega) (by omega))
section
variable {T : Knd} {A : Rfs} {I M I0 M0 M1 : Mem} {b : Nat → Int} {L n u p : Nat} {O : Ofc} {Ψ : Prop} {c : Nat → Int} {ln : Int}
theorem s135 (h : Ag T A) (M : Mem) : ((gr T A 12 16 129).bind fun x48 => (ld T 20 x48 4 M).bind fun x49 => (sto T 20 x48 4 (ia x49 1) M).bind fun I51 => some I51) = some (mu M 135 4 (ia (M 135 4) 1)) := by
  rw [(q_ev h).1, some_bind, ev_ld (kT_135 h), if_pos (by decide), some_bind, ev_sto (kT_135 h), if_pos (by decide), some_bind]
  rfl
theorem sgn_bad (h : Ag T A) (g : M 129 12 ≠ 0) : sgnM T A M = some (mu M 135 4 (ia (M 135 4) 1)) := by
  unfold sgnM
  rw [m_isGood h, if_neg g, some_bind, if_pos rfl, thn_l, s135 h]
theorem sim_sign (h : Ag T A) (r : LE I0 M0 b L ln I M) : OK2 (f_X4_takeSign T A 4 I) (sgnM T A M) (fun J N => (∃ n O p, WFc O ∧ O 0 0 = ln + 1 ∧ RG I0 M0 b L n 0 O p J N) ∨ RBx I0 M0 J N) := by
  obtain ⟨k0, k1, k2, k3, k4, k5, k6, k7, k8, k9⟩ := r_ev h
  obtain ⟨t0, t1, t2, t3, t4⟩ := t_ev h
  obtain ⟨g0, g1, g2, g3, g4⟩ := g_ev h
  have hs4 : sl4 135 4 := by unfold sl4; omega
  unfold f_X4_takeSign
  rw [if_pos k0, k3, some_bind]
  rcases r with ⟨n, O, p, wf, e0, r⟩ | r | r
  · rw [if_pos r.2.1.2.2.2.1]
    unfold sgnM
    rw [m_isGood h, if_pos r.2.2.2.2.1, some_bind, if_neg (by decide)]
    unfold f_X12_ends
    rw [if_pos g0, g2, some_bind, r.2.2.2.1.1, k1, some_bind, t2, some_bind, r.2.1.2.2.1.1]
    by_cases d : tk b L p = 3
    · rw [if_pos d, if_pos d, some_bind, thn_l, g2, some_bind, if_pos r.2.2.2.2.1]
      obtain ⟨J, N, eJ, eN, rJ⟩ := sim_next h r
      rw [eJ, some_bind, k2, some_bind, k5, some_bind, k6, some_bind, eN, some_bind, some_bind, thn_l, s135 h]
      have q1 := (tf_in b r.2.1.1).1
      have q2 := (tt_in b r.2.1.1).2 (by rw [d]; decide)
      have q3 := r.1.2.2.2.1
      have z1 : J 5 0 = O 0 0 := rg_5 rJ (by decide)
      have z2 : N 135 4 = O 0 0 := rJ.2.2.2.2.2.1.1
      have q4 := rJ.2.1.1
      have q5 := rJ.2.1.2.1.1
      rw [z1, z2, ia_eq (by omega) (by omega)]
      refine ok2_i (Or.inl ⟨n, _, _, wfc_0 wf (O 0 0 + 1), by rw [rw_s, e0], rg_set (r := 0) (o := 0) (mo := 135) (mk := 4) rJ (by unfold mpl; omega) (fun _ _ => ⟨by omega, by omega⟩) (by omega) (by omega)⟩)
    · rw [if_neg d, if_neg d, c_blame h, some_bind, m_fails h, if_pos r.2.2.2.2.1, some_bind, thn_l, g2, some_bind]
      have hb := rb_of (f := 1) r (by decide)
      rw [if_neg (show ¬ mu (mu M 129 12 1) 129 13 (M 129 9) 129 12 = 0 by rw [hb.2.1]; exact hb.1), some_bind, thn_l, s135 h]
      obtain ⟨q1, q2, q3, q4, q5, q6⟩ := hb
      exact ok2_i (Or.inr ⟨q1, by rw [mu_o _ _ (by omega)]; exact q2, by rw [mu_o _ _ (by omega)]; exact q3, q5, fcm_mu q6 (Or.inr hs4)⟩)
  · rw [if_neg r.1, sgn_bad h (show M 129 12 ≠ 0 by rw [r.2.1]; exact r.1)]
    obtain ⟨q1, q2, q3, q5, q6⟩ := r
    exact ok2_i (Or.inr ⟨q1, by rw [mu_o _ _ (by omega)]; exact q2, by rw [mu_o _ _ (by omega)]; exact q3, q5, fcm_mu q6 (Or.inr hs4)⟩)
  · obtain ⟨q1, q2, q3, q4, q5, q6⟩ := r
    rw [if_pos q1, k1, some_bind, t2, some_bind, if_neg q2, c_blame h, some_bind, sgn_bad h (show M 129 12 ≠ 0 by rw [q3]; decide)]
    refine ok2_i (Or.inr ⟨?_, ?_, ?_, fcc_mu (fcc_mu q5 (by decide) (by decide)) (by decide) (by decide), fcm_mu q6 (Or.inr hs4)⟩)
    · dsimp only
      rw [mu_o _ _ (by omega), mu_s]; decide
    · dsimp only
      rw [mu_o _ _ (by omega), q3, mu_o _ _ (by omega), mu_s]
    · dsimp only
      rw [mu_o _ _ (by omega), q4, mu_s]
end
