/-! B: the lines, side by side: an official, from its word to its end. -/
def of4 (O : Ofc) (n : Nat) (v1 v2 v3 v4 : Int) : Ofc := rwO (rwO (rwO (rwO O 3 n v1) 4 n v2) 5 n v3) 6 n v4
section
variable {T : Knd} {A : Rfs} {I M I0 M0 M1 : Mem} {b : Nat → Int} {L n u p : Nat} {O : Ofc} {Ψ : Prop} {c : Nat → Int}
theorem c_tells (h : Ag T A) (hn : n < 8) (h4 : I 5 4 = (n : Int)) {X : Type} (k : Mem → Option X) : ((f_X4_tell T A 4 4 (-1) I).bind fun e30 => (f_X4_tell T A 4 5 (-1) e30).bind fun e32 => (f_X4_tell T A 4 6 (-1) e32).bind fun e34 => (f_X4_tell T A 4 7 (-1) e34).bind fun e36 => (f_X4_tell T A 4 8 (-1) e36).bind k) = k (mu (mu (mu (mu (mu I 12 n (-1)) 13 n (-1)) 14 n (-1)) 15 n (-1)) 16 n (-1)) := by
  have t : ∀ (w : Nat) (J : Mem), w < 11 → J 5 4 = (n : Int) → f_X4_tell T A 4 (w : Int) (-1) J = some (mu J (8 + w) n (-1)) := fun w J hw hJ => c_tell h hw hn hJ _
  have o : ∀ (a : Nat) (J : Mem), 5 < a → J 5 4 = (n : Int) → mu J a n (-1) 5 4 = (n : Int) := fun a J ha hJ => by rw [mu_o _ _ (by omega)]; exact hJ
  rw [show f_X4_tell T A 4 4 (-1) I = some (mu I 12 n (-1)) from t 4 I (by decide) h4, some_bind]
  have h5 := o 12 I (by decide) h4
  rw [show f_X4_tell T A 4 5 (-1) (mu I 12 n (-1)) = some (mu (mu I 12 n (-1)) 13 n (-1)) from t 5 _ (by decide) h5, some_bind]
  have h6 := o 13 _ (by decide) h5
  rw [show f_X4_tell T A 4 6 (-1) (mu (mu I 12 n (-1)) 13 n (-1)) = some (mu (mu (mu I 12 n (-1)) 13 n (-1)) 14 n (-1)) from t 6 _ (by decide) h6, some_bind]
  have h7 := o 14 _ (by decide) h6
  rw [show f_X4_tell T A 4 7 (-1) (mu (mu (mu I 12 n (-1)) 13 n (-1)) 14 n (-1)) = some (mu (mu (mu (mu I 12 n (-1)) 13 n (-1)) 14 n (-1)) 15 n (-1)) from t 7 _ (by decide) h7, some_bind]
  have h8 := o 15 _ (by decide) h7
  rw [show f_X4_tell T A 4 8 (-1) (mu (mu (mu (mu I 12 n (-1)) 13 n (-1)) 14 n (-1)) 15 n (-1)) = some (mu (mu (mu (mu (mu I 12 n (-1)) 13 n (-1)) 14 n (-1)) 15 n (-1)) 16 n (-1)) from t 8 _ (by decide) h8, some_bind]
/-- where the marks begin -/
theorem ms_begin (r : Rel I0 M0 b L n 5 O Ψ I M) (hn : n < 8) : MSt T A Ψ I0 M0 b L n O M 0 0 (mu (mu (mu (mu (mu I 12 n (-1)) 13 n (-1)) 14 n (-1)) 15 n (-1)) 16 n (-1)) := by
  have hc : ∀ J : Mem, CV O 5 J → O 0 4 = (n : Int) → ∀ w, w < 9 → CV O 5 (mu J (8 + w) n (-1)) := fun J q1 q2 w hw => ⟨fun k hk => by rw [mu_o _ _ (by omega)]; exact q1.1 k hk, fun k hk => by rw [mu_o _ _ (by omega)]; exact q1.2.1 k hk, fun w' o hw' ho => by rw [mu_o _ _ (by rw [q2] at ho; omega)]; exact q1.2.2.1 w' o hw' ho, fun r c hr hcc => by rw [mu_o _ _ (by omega)]; exact q1.2.2.2 r c hr hcc⟩
  rcases r with ⟨z, p, ⟨o1, o2, o3, o4, o5, o6⟩, ⟨c1, c2, c3, c4, c5, c6, c7, c8⟩, ⟨m1, m2, m3, m4, m5, m6, m7⟩⟩ | g
  · obtain ⟨J, eJ⟩ : ∃ J : Mem, J = mu (mu (mu (mu (mu I 12 n (-1)) 13 n (-1)) 14 n (-1)) 15 n (-1)) 16 n (-1) := ⟨_, rfl⟩
    rw [← eJ]
    have ej : ∀ o k, ¬ (12 ≤ o ∧ o ≤ 16 ∧ k = n) → J o k = I o k := fun o k hk => by rw [eJ, mu_o _ _ (by omega), mu_o _ _ (by omega), mu_o _ _ (by omega), mu_o _ _ (by omega), mu_o _ _ (by omega)]
    have en : ∀ o, 12 ≤ o → o ≤ 16 → J o n = -1 := fun o h1 h2 => by
      rw [eJ]
      rcases (by omega : o = 12 ∨ o = 13 ∨ o = 14 ∨ o = 15 ∨ o = 16) with e | e | e | e | e
      · subst e; rw [mu_o _ _ (by omega), mu_o _ _ (by omega), mu_o _ _ (by omega), mu_o _ _ (by omega), mu_s]
      · subst e; rw [mu_o _ _ (by omega), mu_o _ _ (by omega), mu_o _ _ (by omega), mu_s]
      · subst e; rw [mu_o _ _ (by omega), mu_o _ _ (by omega), mu_s]
      · subst e; rw [mu_o _ _ (by omega), mu_s]
      · subst e; rw [mu_s]
    have cvJ : CV O 5 J := by
      rw [eJ]
      exact hc _ (hc _ (hc _ (hc _ (hc _ c5 o1 4 (by decide)) o1 5 (by decide)) o1 6 (by decide)) o1 7 (by decide)) o1 8 (by decide)
    obtain ⟨n1, n2, n3⟩ := m5 (by decide)
    refine ⟨FU, 0, M, rfl, Nat.le_refl _, Or.inl ⟨p, fun _ => -1, z, ⟨⟨⟨o1, o2, o3, o4, fun hu => absurd hu (by decide), by decide⟩, ⟨c1, ⟨c2.1, by rw [ej _ _ (by omega)]; exact c2.2.1, fun k hk => by rw [ej _ _ (by omega)]; exact c2.2.2 k hk⟩, ⟨by rw [ej _ _ (by omega)]; exact c3.1, by rw [ej _ _ (by omega)]; exact c3.2.1, by rw [ej _ _ (by omega)]; exact c3.2.2.1, fun hk => by rw [ej _ _ (by omega)]; exact c3.2.2.2 hk⟩, by rw [ej _ _ (by omega)]; exact c4, cvJ, fun o h1 h2 => by rw [ej _ _ (by omega), ej _ _ (by omega)]; exact c6 o h1 h2, fun w hw => absurd hw (by omega), ⟨fun o k hk => by rw [ej _ _ (by omega)]; exact c8.1 o k hk, by rw [ej _ _ (by omega)]; exact c8.2⟩⟩, ⟨m1, m2, m3, m4, fun hu => absurd hu (by decide), fun w hw => absurd hw (by omega), m7⟩⟩, fun w hw => ⟨by rw [ej _ _ (by omega)]; exact c7 w (by omega), m6 w (by omega)⟩, fun m hm => ⟨en _ (by omega) (by omega), ?_⟩, ⟨en _ (by decide) (by decide), en _ (by decide) (by decide)⟩, ⟨n1 7 (by decide) (by decide), n1 8 (by decide) (by decide)⟩, ⟨n2, n3⟩, fun m hm => Or.inl rfl⟩, rfl, ?_⟩⟩
    · rw [n1 (4 + m) (by omega) (by omega)]
      rcases (by omega : m = 0 ∨ m = 1 ∨ m = 2) with e | e | e
      · subst e; rfl
      · subst e; rfl
      · subst e; rfl
    · rcases stuck_or b L p (fun _ => -1) with w | w
      · exact Or.inl w
      · exact Or.inr (Or.inr ⟨Nat.le_trans (Nat.le_of_eq (Nat.add_zero _)) (abn_le _), w⟩)
  · refine ⟨FU, 0, M, rfl, Nat.le_refl _, Or.inr ?_⟩
    exact rb_c (rb_c (rb_c (rb_c (rb_c g (by omega) (by omega)) (by omega) (by omega)) (by omega) (by omega)) (by omega) (by omega)) (by omega) (by omega)
/-- an official's end -/
theorem rg_fin {p' : Nat} {J : Mem} (q : MK I0 M0 b L n O p' c I M) (hn : n < 8) (j1 : ∀ o k, ¬ (o = 14 ∧ k = n) → ¬ (o = 5 ∧ k = 4) → J o k = I o k) (j2 : J 14 n = mcw c 2) (j3 : J 5 4 = ((n + 1 : Nat) : Int)) : RG I0 M0 b L (n + 1) 0 (ofO O n c) p' J (mu M 136 27 ((n + 1 : Nat) : Int)) := by
  obtain ⟨⟨⟨o1, o2, o3, o4, o5, o6⟩, ⟨c1, c2, c3, c4, c5, c6, c7, c8⟩, ⟨m1, m2, m3, m4, m5, m6, m7⟩⟩, q1, q2, q3, q4, q5, q6⟩ := q
  obtain ⟨x1, x2⟩ := tkm_mu (a := 136) (j := 27) (v := ((n + 1 : Nat) : Int)) m1 m2 (by decide)
  have z0 := c6 n (Nat.le_refl _) hn
  have e06 : ofO O n c 0 6 = O 0 6 := ofO_o _ _ (by omega) (by omega)
  have e00 : ofO O n c 0 0 = O 0 0 := ofO_o _ _ (by omega) (by omega)
  refine ⟨⟨ofO_4 _ _ _, by omega, by rw [e06]; exact o3, by rw [e00]; exact o4, fun hu => absurd hu (by decide), by decide⟩, ⟨c1, ⟨c2.1, by rw [j1 _ _ (by omega) (by omega)]; exact c2.2.1, fun k hk => by rw [j1 _ _ (by omega) (by omega)]; exact c2.2.2 k hk⟩, ⟨by rw [j1 _ _ (by omega) (by omega)]; exact c3.1, by rw [j1 _ _ (by omega) (by omega)]; exact c3.2.1, by rw [j1 _ _ (by omega) (by omega)]; exact c3.2.2.1, fun hk => by rw [j1 _ _ (by omega) (by omega)]; exact c3.2.2.2 hk⟩, by rw [j1 _ _ (by omega) (by omega)]; exact c4, ⟨fun k hk => ?_, fun k hk => ?_, fun w o hw ho => ?_, fun r cc hr hc => ?_⟩, fun o h1 h2 => by rw [j1 _ _ (by omega) (by omega), j1 _ _ (by omega) (by omega)]; exact c6 o (by omega) h2, fun w hw => absurd hw (by omega), ⟨fun o k hk => by rw [j1 _ _ (by omega) (by omega)]; exact c8.1 o k hk, by rw [j1 _ _ (by omega) (by omega)]; exact c8.2⟩⟩, ⟨x1, x2, by rw [mu_o _ _ (by omega)]; exact m3, ?_, fun hu => absurd hu (by decide), fun w hw => absurd hw (by omega), fcm_mu m7 (Or.inr (by unfold sl4; omega))⟩⟩
  · by_cases e : k = 4
    · subst e; rw [j3, ofO_4]
    · rw [j1 _ _ (by omega) (by omega), ofO_o _ _ (by omega) (by omega)]; exact c5.1 k hk
  · rw [e06, o3] at hk
    omega
  · rw [ofO_4] at ho
    by_cases e : o = n
    · subst e
      by_cases w4 : w < 4
      · rw [j1 _ _ (by omega) (by omega), ofO_o _ _ (by omega) (by omega), show 5 + 3 + w = 8 + w by omega]
        exact (q1 w w4).1
      · rw [ofO_n _ _ (by omega) (by omega)]
        rcases (by omega : w = 4 ∨ w = 5 ∨ w = 6 ∨ w = 7 ∨ w = 8 ∨ w = 9 ∨ w = 10) with e | e | e | e | e | e | e
        · subst e; rw [j1 _ _ (by omega) (by omega)]; exact (q2 0 (by decide)).1
        · subst e; rw [j1 _ _ (by omega) (by omega)]; exact (q2 1 (by decide)).1
        · subst e; exact j2
        · subst e; rw [j1 _ _ (by omega) (by omega)]; exact q3.1
        · subst e; rw [j1 _ _ (by omega) (by omega)]; exact q3.2
        · subst e; rw [j1 _ _ (by omega) (by omega)]; exact z0.1
        · subst e; rw [j1 _ _ (by omega) (by omega)]; exact z0.2
    · rw [j1 _ _ (by omega) (by omega), ofO_o _ _ (by omega) (by omega)]
      exact c5.2.2.1 w o hw (by omega)
  · rw [j1 _ _ (by omega) (by omega), ofO_o _ _ (by omega) (by omega)]
    exact c5.2.2.2 r cc hr hc
  · obtain ⟨y1, y2, y3, y4, y5, y6, y7⟩ := m4
    refine ⟨by rw [mu_o _ _ (by omega), ofO_o _ _ (by omega) (by omega)]; exact y1, fun k hk => ?_, fun k hk => ?_, fun w o hw ho => ?_, fun o ho => ?_, fun o ho => ?_, fun r cc hr hc => by rw [mu_o _ _ (by omega), ofO_o _ _ (by omega) (by omega)]; exact y7 r cc hr hc⟩
    · by_cases e : k = 3
      · subst e
        rw [show 6 * 4 + 3 = 27 from rfl, mu_s, ofO_4]
      · rw [mu_o _ _ (by omega), ofO_o _ _ (by omega) (by omega)]; exact y2 k hk
    · rw [e06, o3] at hk
      omega
    · rw [ofO_4] at ho
      rw [mu_o _ _ (by omega)]
      by_cases e : o = n
      · subst e
        rw [show 9 * (8 * 4 + o) + w = 9 * (32 + o) + w by omega]
        by_cases w4 : w < 4
        · rw [ofO_o _ _ (by omega) (by omega)]
          exact (q1 w w4).2
        · rw [ofO_n _ _ (by omega) (by omega)]
          rcases (by omega : w = 4 ∨ w = 5 ∨ w = 6 ∨ w = 7 ∨ w = 8) with e | e | e | e | e
          · subst e
            have := (q2 0 (by decide)).2
            rw [show mcw c 0 = c 0 from if_neg (by omega)] at this
            exact this
          · subst e
            have := (q2 1 (by decide)).2
            rw [show mcw c 1 = c 1 from if_neg (by omega)] at this
            exact this
          · subst e; exact (q2 2 (by decide)).2
          · subst e; exact q4.1
          · subst e; exact q4.2
      · rw [ofO_o _ _ (by omega) (by omega)]
        exact y4 w o hw (by omega)
    · rw [ofO_4] at ho
      rw [mu_o _ _ (by omega)]
      by_cases e : o = n
      · subst e
        rw [ofO_n _ _ (by omega) (by omega)]
        exact q5.1
      · rw [ofO_o _ _ (by omega) (by omega)]
        exact y5 o (by omega)
    · rw [ofO_4] at ho
      rw [mu_o _ _ (by omega)]
      by_cases e : o = n
      · subst e
        rw [ofO_n _ _ (by omega) (by omega)]
        exact q5.2
      · rw [ofO_o _ _ (by omega) (by omega)]
        exact y6 o (by omega)
end
