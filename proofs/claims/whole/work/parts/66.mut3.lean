/-! B: another permit, other needs, other leave. -/
def rwO (O : Ofc) (r o : Nat) (v : Int) : Ofc := fun a k => if a = r ∧ k = o then v else O a k
theorem rw_s (O : Ofc) (r o : Nat) (v : Int) : rwO O r o v r o = v := if_pos ⟨rfl, rfl⟩
theorem rw_o (O : Ofc) {r o a k : Nat} (v : Int) (h : ¬ (a = r ∧ k = o)) : rwO O r o v a k = O a k := if_neg h
section
variable {T : Knd} {A : Rfs} {O O' : Ofc} {I J K : Mem} {W : Wkr}
theorem cg_fwk (s : ∀ a k, 15 ≤ a → O' a k = O a k) : ∀ k, fwk O' k = fwk O k := by
  intro k
  induction k with
  | zero =>
    funext a b
    show d0 O' a b = d0 O a b
    unfold d0
    rw [s _ _ (by omega)]
  | succ k ih =>
    show ps (fwk O' k) k = ps (fwk O k) k
    rw [ih]
theorem cg_fw (s : ∀ a k, 15 ≤ a → O' a k = O a k) : fw O' = fw O := cg_fwk s 6
theorem cg_opn (s : ∀ a k, (4 ≤ a ∧ a ≤ 7) ∨ (10 ≤ a ∧ a ≤ 11) → O' a k = O a k) : opn O' = opn O := by
  funext o h
  unfold opn awy off
  rw [s 6 _ (by omega), s 4 _ (by omega), s 5 _ (by omega), s 7 _ (by omega), s 10 _ (by omega), s 11 _ (by omega)]
theorem cv_td (hc : CV O 26 I) {w o : Nat} (hw : w < 11) (v : Int) : CV (rwO O (3 + w) o v) 26 (mu I (29 + w) o v) := by
  refine ⟨fun k hk => ?_, fun k hk => ?_, fun w' o' hw' ho' => ?_, fun r c hr hcc => ?_⟩
  · rw [mu_o _ _ (by omega), rw_o _ _ (by omega)]; exact hc.1 k hk
  · rw [rw_o _ _ (by omega)] at hk
    rw [mu_o _ _ (by omega), rw_o _ _ (by omega)]; exact hc.2.1 k hk
  · rw [rw_o _ _ (by omega)] at ho'
    by_cases c : w' = w ∧ o' = o
    · obtain ⟨rfl, rfl⟩ := c
      rw [show 26 + 3 + w' = 29 + w' by omega, mu_s, rw_s]
    · rw [mu_o _ _ (by omega), rw_o _ _ (by omega)]; exact hc.2.2.1 w' o' hw' ho'
  · rw [mu_o _ _ (by omega), rw_o _ _ (by omega)]; exact hc.2.2.2 r c hr hcc
theorem mw_td (hm : MW O 0 I) {w o : Nat} (hw : w < 9) (v : Int) : MW (rwO O (3 + w) o v) 0 (mu I 137 (9 * o + w) v) := by
  obtain ⟨q1, q2, q3, q4, q5, q6, q7⟩ := hm
  refine ⟨?_, fun k hk => ?_, fun k hk => ?_, fun w' o' hw' ho' => ?_, fun o ho => ?_, fun o ho => ?_, fun r c hr hc => ?_⟩
  · rw [mu_o _ _ (by omega), rw_o _ _ (by omega)]; exact q1
  · rw [mu_o _ _ (by omega), rw_o _ _ (by omega)]; exact q2 k hk
  · rw [rw_o _ _ (by omega)] at hk
    rw [mu_o _ _ (by omega), rw_o _ _ (by omega)]; exact q3 k hk
  · rw [rw_o _ _ (by omega)] at ho'
    by_cases c : w' = w ∧ o' = o
    · obtain ⟨rfl, rfl⟩ := c
      rw [show 9 * (8 * 0 + o') + w' = 9 * o' + w' by omega, mu_s, rw_s]
    · rw [mu_o _ _ (by omega), rw_o _ _ (by omega)]; exact q4 w' o' hw' ho'
  · rw [rw_o _ _ (by omega)] at ho
    rw [mu_o _ _ (by omega), rw_o _ _ (by omega)]; exact q5 o ho
  · rw [rw_o _ _ (by omega)] at ho
    rw [mu_o _ _ (by omega), rw_o _ _ (by omega)]; exact q6 o ho
  · rw [mu_o _ _ (by omega), rw_o _ _ (by omega)]; exact q7 r c hr hc
theorem mw_nd (hm : MW O 0 I) {w o : Nat} (hw : w < 2) (v : Int) : MW (rwO O (12 + w) o v) 0 (mu I (138 + w) o v) := by
  obtain ⟨q1, q2, q3, q4, q5, q6, q7⟩ := hm
  refine ⟨?_, fun k hk => ?_, fun k hk => ?_, fun w' o' hw' ho' => ?_, fun o' ho' => ?_, fun o' ho' => ?_, fun r c hr hc => ?_⟩
  · rw [mu_o _ _ (by omega), rw_o _ _ (by omega)]; exact q1
  · rw [mu_o _ _ (by omega), rw_o _ _ (by omega)]; exact q2 k hk
  · rw [rw_o _ _ (by omega)] at hk
    rw [mu_o _ _ (by omega), rw_o _ _ (by omega)]; exact q3 k hk
  · rw [rw_o _ _ (by omega)] at ho'
    rw [mu_o _ _ (by omega), rw_o _ _ (by omega)]; exact q4 w' o' hw' ho'
  · rw [rw_o _ _ (by omega)] at ho'
    by_cases c : w = 0 ∧ o' = o
    · obtain ⟨rfl, rfl⟩ := c
      rw [show 8 * 0 + o' = o' by omega]
      show mu I (138 + 0) o' v (138 + 0) o' = rwO O (12 + 0) o' v (12 + 0) o'
      rw [mu_s, rw_s]
    · rw [mu_o _ _ (by omega), rw_o _ _ (by omega)]; exact q5 o' ho'
  · rw [rw_o _ _ (by omega)] at ho'
    by_cases c : w = 1 ∧ o' = o
    · obtain ⟨rfl, rfl⟩ := c
      rw [show 8 * 0 + o' = o' by omega]
      show mu I (138 + 1) o' v (138 + 1) o' = rwO O (12 + 1) o' v (12 + 1) o'
      rw [mu_s, rw_s]
    · rw [mu_o _ _ (by omega), rw_o _ _ (by omega)]; exact q6 o' ho'
  · rw [mu_o _ _ (by omega), rw_o _ _ (by omega)]; exact q7 r c hr hc
theorem c_forgetAll (h : Ag T A) (I : Mem) : f_X11_forgetAll T A 1 I = some (mu (mu (mu I 1 15 0) 68 6 0) 79 6 0) := by
  unfold f_X11_forgetAll
  simp only [agX h, if_true, some_bind, c_forgetRows h]
theorem ishl_2 : ∀ n : Nat, n < 9 → ishl 1 (n : Int) = 2 ^ n := by decide +kernel
theorem c_hasSet (h : Ag T A) (wf : WF O) (hc : CV O 26 I) (a : Int) : f_X2_hasSet T A 26 a I = some (if 0 < O 0 0 ∧ 0 ≤ a ∧ a < 2 ^ (O 0 4).toNat then 1 else 0) := by
  have hn := wf_n wf
  obtain ⟨n, en⟩ := Int.eq_ofNat_of_zero_le hn.1
  unfold f_X2_hasSet
  rw [if_pos (by rw [kT_26 h]), c_isThere h hc, some_bind, show gi T 2 4 26 I = some (I 26 4) by simp only [agPl h], some_bind, cv_n hc, en, ishl_2 n (by omega), Int.toNat_natCast]
  by_cases c : 0 < O 0 0
  · rw [if_pos c, if_neg (by decide)]
    by_cases d : 0 ≤ a ∧ a < 2 ^ n
    · rw [if_neg (by omega), if_pos d.2, if_pos ⟨c, d⟩]
    · have e0 : ¬ (0 < O 0 0 ∧ 0 ≤ a ∧ a < 2 ^ n) := fun q => d q.2
      rw [if_neg e0]
      by_cases d1 : a < 0
      · rw [if_pos d1]
      · rw [if_neg d1, if_neg (fun q => d ⟨by omega, q⟩)]
  · rw [if_neg c, if_pos rfl, if_neg (fun q => c q.1)]
theorem m_isSet (h : Ag T A) (wf : WF O) (hm : MW O 0 I) (a : Int) : f_X12_isSet T A 129 a I = some (if 0 < O 0 0 ∧ 0 ≤ a ∧ a < 2 ^ (O 0 4).toNat then 1 else 0) := by
  have hn := wf_n wf
  obtain ⟨n, en⟩ := Int.eq_ofNat_of_zero_le hn.1
  have h2 : ∀ n : Nat, n < 9 → isb (ishl 1 (n : Int)) 1 = 2 ^ n - 1 := by decide +kernel
  unfold f_X12_isSet
  rw [if_pos (by rw [kT_129 h]), m_isOffice h hm, some_bind, show gr T A 12 17 129 = some 136 by simp only [agMg h], some_bind, m_h3 h hm, some_bind, en, h2 n (by omega), m_in, some_bind, Int.toNat_natCast]
  by_cases c : 0 < O 0 0
  · rw [if_pos c, if_neg (by decide)]
    by_cases d : 0 ≤ a ∧ a < 2 ^ n
    · rw [if_pos (show 0 ≤ a ∧ a ≤ 2 ^ n - 1 from ⟨d.1, by have := d.2; omega⟩), if_neg (by decide), if_pos ⟨c, d⟩]
    · have e0 : ¬ (0 < O 0 0 ∧ 0 ≤ a ∧ a < 2 ^ n) := fun q => d q.2
      rw [if_neg e0, if_neg (show ¬ (0 ≤ a ∧ a ≤ 2 ^ n - 1) from fun q => d ⟨q.1, by have := q.2; omega⟩), if_pos rfl]
  · rw [if_neg c, if_pos rfl, if_neg (fun q => c q.1)]
theorem rf_ag (e : ∀ o k, 111 ≤ o ∨ o < 5 → J o k = I o k) : RF I J := by
  intro o k hr
  rcases Nat.lt_or_ge o 5 with h1 | h1
  · exact e o k (Or.inr h1)
  · rcases Nat.lt_or_ge 110 o with h2 | h2
    · exact e o k (Or.inl h2)
    · rw [rst_w h1 h2] at hr; exact absurd hr (by decide)
theorem s_wants (b : Bas T A O I) (a1 : Int) : ∃ v J K O', f_X11_wants T A 1 a1 I = some (v, J) ∧ f_X12_wants T A 129 a1 J = some (v, K) ∧ Bas T A O' K ∧ Out O I O' K := by
  have b' := b
  obtain ⟨h, wf, hc, hm, g, ht, hn, k, hq⟩ := b
  have hn8 := wf_n wf
  have h6 := wf.2.2.2.2.2.2.1
  have pi' : ∀ q v (J : Mem), pi T 12 q 129 v J = some (mu J 129 q v) := fun q v J => by simp only [agMg h]
  have g17 : gr T A 12 17 129 = some 136 := by simp only [agMg h]
  by_cases c : 0 < O 0 0 ∧ 0 ≤ a1 ∧ a1 < 2 ^ (O 0 4).toNat
  · obtain ⟨O', eO⟩ : ∃ O', O' = rwO O 0 5 a1 := ⟨_, rfl⟩
    have sq : Sq O O' := by rw [eO]; exact ⟨fun a k ha => rw_o _ _ (by omega), fun k hk => rw_o _ _ (by omega)⟩
    have e1 : ∀ j, O' 1 j = O 1 j := fun j => by rw [eO, rw_o _ _ (by omega)]
    have e6 : O' 0 6 = O 0 6 := by rw [eO, rw_o _ _ (by omega)]
    have e5 : O' 0 5 = a1 := by rw [eO, rw_s]
    have wf' : WF O' := sq_wf sq wf (by rw [e5]; exact sl_of (by omega) c.2.1 c.2.2) (by omega) (fun e => by omega)
    have er : ∀ k, rep O' k = rep O k := fun k => sq_rep sq k (fun j _ => e1 j)
    have lg : LG O' := fun k hk => by rw [er, sq_okS sq, e1]; exact g k (by omega)
    obtain ⟨J, eJ⟩ : ∃ J, J = mu (mu (mu (mu I 26 5 a1) 1 15 0) 68 6 0) 79 6 0 := ⟨_, rfl⟩
    obtain ⟨K, eK⟩ : ∃ K, K = mu (mu J 129 0 0) 136 4 a1 := ⟨_, rfl⟩
    have agJ : ∀ a b, ¬ (a = 26 ∧ b = 5) → ¬ (a = 1 ∧ b = 15) → ¬ ((a = 68 ∨ a = 79) ∧ b = 6) → J a b = I a b := fun a b h1 h2 h3 => by
      rw [eJ, mu_o _ _ (by omega), mu_o _ _ (by omega), mu_o _ _ (by omega), mu_o _ _ (by omega)]
    have agK : ∀ a b, ¬ (a = 129 ∧ b = 0) → ¬ (a = 136 ∧ b = 4) → K a b = J a b := fun a b h1 h2 => by rw [eK, mu_o _ _ (by omega), mu_o _ _ (by omega)]
    have hmJ : MW O 0 J := mw_ag hm (fun a b h1 h2 => agJ a b (by omega) (by omega) (by omega))
    refine ⟨O 0 5, J, K, O', ?_, ?_, ⟨h, wf', ?_, ?_, lg, ?_, ?_, ?_, ?_⟩, Or.inr ⟨?_, ?_, Or.inl ?_, ?_⟩⟩
    · unfold f_X11_wants
      simp only [agX h, agPl h, if_true, some_bind, c_hasSet h wf hc, if_pos c, n10, if_false, cv_permit hc, c_forgetAll h]
      rw [eJ]
    · unfold f_X12_wants
      rw [if_pos (by rw [kT_129 h]), pi', some_bind, m_isSet h wf (mw_fr hmJ (fr_0 J)), some_bind, if_pos c, if_neg (by decide), g17]
      simp only [some_bind, m_h4 h (mw_fr hmJ (fr_0 J))]
      rw [s136_4 h, some_bind, eK]
    · refine ⟨fun k hk => ?_, fun k hk => ?_, fun w o hw ho => ?_, fun r c hr hcc => ?_⟩
      · by_cases q : k = 5
        · subst q
          rw [agK _ _ (by omega) (by omega), e5, eJ, mu_o _ _ (by omega), mu_o _ _ (by omega), mu_o _ _ (by omega), mu_s]
        · rw [agK _ _ (by omega) (by omega), agJ _ _ (by omega) (by omega) (by omega), eO, rw_o _ _ (by omega)]; exact hc.1 k hk
      · rw [agK _ _ (by omega) (by omega), agJ _ _ (by omega) (by omega) (by omega), e1]; exact hc.2.1 k (by omega)
      · rw [sq.2 4 (by omega)] at ho
        rw [agK _ _ (by omega) (by omega), agJ _ _ (by omega) (by omega) (by omega), sq.1 _ _ (by omega)]; exact hc.2.2.1 w o hw ho
      · rw [agK _ _ (by omega) (by omega), agJ _ _ (by omega) (by omega) (by omega), sq.1 _ _ (by omega)]; exact hc.2.2.2 r c hr hcc
    · obtain ⟨q1, q2, q3, q4, q5, q6, q7⟩ := hmJ
      refine ⟨?_, fun k hk => ?_, fun k hk => ?_, fun w o hw ho => ?_, fun o ho => ?_, fun o ho => ?_, fun r c hr hc => ?_⟩
      · rw [agK _ _ (by omega) (by omega), sq.2 0 (by omega)]; exact q1
      · by_cases q : k = 4
        · subst q
          rw [show 6 * 0 + 4 = 4 from rfl, eK, mu_s, e5]
        · rw [agK _ _ (by omega) (by omega), eO, rw_o _ _ (by omega)]; exact q2 k hk
      · rw [agK _ _ (by omega) (by omega), e1]; exact q3 k (by omega)
      · rw [sq.2 4 (by omega)] at ho
        rw [agK _ _ (by omega) (by omega), sq.1 _ _ (by omega)]; exact q4 w o hw ho
      · rw [sq.2 4 (by omega)] at ho
        rw [agK _ _ (by omega) (by omega), sq.1 _ _ (by omega)]; exact q5 o ho
      · rw [sq.2 4 (by omega)] at ho
        rw [agK _ _ (by omega) (by omega), sq.1 _ _ (by omega)]; exact q6 o ho
      · rw [agK _ _ (by omega) (by omega), sq.1 _ _ (by omega)]; exact q7 r c hr hc
    · exact tw_ag wf' (sq_tw sq ht) (fun a b h1 h2 => by rw [agK _ _ (by omega) (by omega), agJ _ _ (by omega) (by omega) (by omega)])
    · exact tn_ag wf' (sq_tn sq hn) (fun a b h1 h2 => by rw [agK _ _ (by omega) (by omega), agJ _ _ (by omega) (by omega) (by omega)])
    · have : Wn O' = Wn O := by unfold Wn; rw [e6, er]
      rw [this]
      exact cw_ag k (fun a b h1 => by rw [agK _ _ (by omega) (by omega), agJ _ _ (by omega) (by omega) (by omega)])
    · rw [agK _ _ (by omega) (by omega), agJ _ _ (by omega) (by omega) (by omega)]; exact hq
    · rw [agK _ _ (by omega) (by omega), eJ, mu_o _ _ (by omega), mu_s]
    · rw [agK _ _ (by omega) (by omega), eJ, mu_s]
    · rw [agK _ _ (by omega) (by omega), eJ, mu_o _ _ (by omega), mu_o _ _ (by omega), mu_s]
    · rw [eK, eJ]
      exact rf_mu (rf_mu (rf_mu (rf_mu (rf_mu (rf_mu (rf_r I) (by decide)) (by decide)) (by decide)) (by decide)) (by decide)) (by decide)
  · refine ⟨-2, I, mu I 129 0 0, O, ?_, ?_, bas_fr b' (fr_0 I), Or.inl ⟨rfl, fr_0 I⟩⟩
    · unfold f_X11_wants
      simp only [agX h, if_true, some_bind, c_hasSet h wf hc, if_neg c, n00]
    · unfold f_X12_wants
      rw [if_pos (by rw [kT_129 h]), pi', some_bind, m_isSet h wf (mw_fr hm (fr_0 I)), some_bind, if_neg c, if_pos rfl]
theorem wn_0 (h6 : O 0 6 = 0) : Wn O = st0 O (O 0 3) := by unfold Wn; rw [h6]; rfl
theorem lg_0 (h6 : O 0 6 = 0) : LG O := fun k hk => absurd hk (by omega)
/-- the official's row that is asked in is another one -/
theorem askv (old : Int) (hold : cn old) (q : Nat) (hq : q < 32) (is : Int) (his : is = 0 ∨ is = 1) : (if (if hb old q then (1 : Int) else 0) = is then old else ixor old (ishl 1 (q : Int))) = (if is = 1 then ior old (ishl 1 (q : Int)) else iand old (ixor (ishl 1 (q : Int)) (-1))) := by
  rcases his with e | e
  · subst e
    rw [if_neg (show ¬ (0 : Int) = 1 by decide)]
    cases c : hb old q
    · rw [if_pos (show (if false = true then (1 : Int) else 0) = 0 from rfl)]
      refine hb_ext hold (cn_iand _ _) (fun i hi => ?_)
      rw [hb_an, hb_shl hq]
      by_cases d : i = q
      · subst d; rw [c]; rfl
      · rw [decide_eq_false d, Bool.not_false, Bool.and_true]
    · rw [if_neg (show ¬ (if true = true then (1 : Int) else 0) = 0 by decide)]
      refine hb_ext (cn_ixor _ _) (cn_iand _ _) (fun i hi => ?_)
      rw [hb_an, hb_xor, hb_shl hq]
      by_cases d : i = q
      · subst d; rw [c, decide_eq_true rfl]; rfl
      · rw [decide_eq_false d, Bool.not_false, Bool.and_true, Bool.xor_false]
  · subst e
    rw [if_pos (show (1 : Int) = 1 from rfl)]
    cases c : hb old q
    · rw [if_neg (show ¬ (if false = true then (1 : Int) else 0) = 1 by decide)]
      refine hb_ext (cn_ixor _ _) (cn_ior _ _) (fun i hi => ?_)
      rw [hb_or, hb_xor, hb_shl hq]
      by_cases d : i = q
      · subst d; rw [c, decide_eq_true rfl]; rfl
      · rw [decide_eq_false d, Bool.or_false, Bool.xor_false]
    · rw [if_pos (show (if true = true then (1 : Int) else 0) = 1 from rfl)]
      refine hb_ext hold (cn_ior _ _) (fun i hi => ?_)
      rw [hb_or, hb_shl hq]
      by_cases d : i = q
      · subst d; rw [c]; rfl
      · rw [decide_eq_false d, Bool.or_false]
def askw (old : Int) (q : Nat) (is : Int) : Int := if is = 1 then ior old (ishl 1 (q : Int)) else iand old (ixor (ishl 1 (q : Int)) (-1))
theorem sl_askw {n : Nat} {old : Int} (h : sl n old) {q : Nat} (hq : q < n) (hn : n ≤ 31) (is : Int) : sl n (askw old q is) := by
  unfold askw
  split
  · refine ⟨cn_ior _ _, fun i hi => ?_⟩
    rw [hb_or, h.2 i hi, hb_shl (by omega), decide_eq_false (by omega)]; rfl
  · refine ⟨cn_iand _ _, fun i hi => ?_⟩
    rw [hb_an, h.2 i hi]; rfl
theorem hb_askw {old : Int} {q o : Nat} (hq : q < 32) (ho : hb old o = false) (hqo : o ≠ q) (is : Int) : hb (askw old q is) o = false := by
  unfold askw
  split
  · rw [hb_or, ho, hb_shl hq, decide_eq_false hqo]; rfl
  · rw [hb_an, ho]; rfl
end
