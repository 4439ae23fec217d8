/-! B: the tables of kinds and references that both constructors leave (objects 1 to 153), and what the accesses are there. -/
def agK : List (Nat × Nat × Nat) := [(1, 11, 0), (2, 8, 0), (3, 22, 1600), (4, 4, 0), (5, 2, 0), (6, 20, 40), (7, 24, 11), (8, 20, 8), (9, 20, 8), (10, 20, 8), (11, 20, 8), (12, 20, 8), (13, 20, 8), (14, 20, 8), (15, 20, 8), (16, 20, 8), (17, 20, 8), (18, 20, 8), (19, 24, 6), (20, 20, 6), (21, 20, 6), (22, 20, 6), (23, 20, 6), (24, 20, 6), (25, 20, 6), (26, 2, 0), (27, 20, 40), (28, 24, 11), (29, 20, 8), (30, 20, 8), (31, 20, 8), (32, 20, 8), (33, 20, 8), (34, 20, 8), (35, 20, 8), (36, 20, 8), (37, 20, 8), (38, 20, 8), (39, 20, 8), (40, 24, 6), (41, 20, 6), (42, 20, 6), (43, 20, 6), (44, 20, 6), (45, 20, 6), (46, 20, 6), (47, 9, 0), (48, 24, 6), (49, 20, 6), (50, 20, 6), (51, 20, 6), (52, 20, 6), (53, 20, 6), (54, 20, 6), (55, 24, 8), (56, 20, 400), (57, 20, 400), (58, 20, 400), (59, 20, 400), (60, 20, 400), (61, 20, 400), (62, 20, 400), (63, 20, 400), (64, 10, 0), (65, 20, 8), (66, 10, 0), (67, 20, 8), (68, 5, 0), (69, 10, 0), (70, 20, 8), (71, 20, 8), (72, 20, 3), (73, 20, 3), (74, 24, 3), (75, 20, 8), (76, 20, 8), (77, 20, 8), (78, 20, 8), (79, 5, 0), (80, 10, 0), (81, 20, 8), (82, 20, 8), (83, 20, 3), (84, 20, 3), (85, 24, 3), (86, 20, 8), (87, 20, 8), (88, 20, 8), (89, 20, 8), (90, 5, 0), (91, 10, 0), (92, 20, 8), (93, 20, 8), (94, 20, 3), (95, 20, 3), (96, 24, 3), (97, 20, 8), (98, 20, 8), (99, 20, 8), (100, 20, 8), (101, 6, 0), (102, 20, 8), (103, 20, 8), (104, 21, 256), (105, 20, 8), (106, 20, 8), (107, 1, 0), (108, 20, 256), (109, 20, 256), (110, 20, 256), (111, 7, 0), (112, 25, 4), (113, 21, 60), (114, 21, 60), (115, 21, 60), (116, 21, 60), (117, 20, 4), (118, 20, 4), (119, 3, 0), (120, 10, 0), (121, 20, 8), (122, 20, 400), (123, 20, 9), (124, 20, 8), (125, 0, 0), (126, 10, 0), (127, 20, 8), (128, 26, 3), (129, 12, 0), (130, 20, 4), (131, 20, 4), (132, 21, 240), (133, 21, 60), (134, 22, 1600), (135, 20, 5), (136, 20, 30), (137, 20, 360), (138, 20, 40), (139, 20, 40), (140, 20, 180), (141, 20, 200), (142, 23, 3), (143, 20, 36), (144, 20, 8), (145, 23, 3200), (146, 20, 9), (147, 20, 8), (148, 20, 8), (149, 21, 256), (150, 20, 8), (151, 20, 256), (152, 20, 8), (153, 20, 9)]
def agR : List (Nat × Nat × Nat) := [(1, 0, 2), (1, 1, 4), (1, 2, 26), (1, 3, 47), (1, 4, 64), (1, 5, 66), (1, 6, 68), (1, 7, 79), (1, 8, 90), (1, 9, 101), (1, 10, 107), (1, 11, 111), (1, 12, 119), (1, 13, 125), (1, 14, 128), (2, 0, 3), (4, 0, 2), (4, 1, 5), (5, 7, 6), (5, 8, 7), (5, 9, 19), (7, 0, 8), (7, 1, 9), (7, 2, 10), (7, 3, 11), (7, 4, 12), (7, 5, 13), (7, 6, 14), (7, 7, 15), (7, 8, 16), (7, 9, 17), (7, 10, 18), (19, 0, 20), (19, 1, 21), (19, 2, 22), (19, 3, 23), (19, 4, 24), (19, 5, 25), (26, 7, 27), (26, 8, 28), (26, 9, 40), (28, 0, 29), (28, 1, 30), (28, 2, 31), (28, 3, 32), (28, 4, 33), (28, 5, 34), (28, 6, 35), (28, 7, 36), (28, 8, 37), (28, 9, 38), (28, 10, 39), (40, 0, 41), (40, 1, 42), (40, 2, 43), (40, 3, 44), (40, 4, 45), (40, 5, 46), (47, 0, 48), (47, 1, 55), (48, 0, 49), (48, 1, 50), (48, 2, 51), (48, 3, 52), (48, 4, 53), (48, 5, 54), (55, 0, 56), (55, 1, 57), (55, 2, 58), (55, 3, 59), (55, 4, 60), (55, 5, 61), (55, 6, 62), (55, 7, 63), (64, 0, 26), (64, 1, 47), (64, 2, 65), (66, 0, 26), (66, 1, 47), (66, 2, 67), (68, 0, 69), (68, 1, 71), (68, 2, 72), (68, 3, 73), (68, 4, 74), (68, 5, 78), (69, 0, 26), (69, 1, 47), (69, 2, 70), (74, 0, 75), (74, 1, 76), (74, 2, 77), (79, 0, 80), (79, 1, 82), (79, 2, 83), (79, 3, 84), (79, 4, 85), (79, 5, 89), (80, 0, 26), (80, 1, 47), (80, 2, 81), (85, 0, 86), (85, 1, 87), (85, 2, 88), (90, 0, 91), (90, 1, 93), (90, 2, 94), (90, 3, 95), (90, 4, 96), (90, 5, 100), (91, 0, 26), (91, 1, 47), (91, 2, 92), (96, 0, 97), (96, 1, 98), (96, 2, 99), (101, 0, 102), (101, 1, 103), (101, 2, 104), (101, 3, 105), (101, 4, 106), (107, 0, 108), (107, 1, 109), (107, 2, 110), (111, 0, 112), (111, 1, 117), (111, 2, 118), (112, 0, 113), (112, 1, 114), (112, 2, 115), (112, 3, 116), (119, 0, 120), (119, 1, 122), (119, 2, 123), (119, 3, 124), (120, 0, 26), (120, 1, 47), (120, 2, 121), (125, 0, 126), (126, 0, 26), (126, 1, 47), (126, 2, 127), (129, 1, 130), (129, 2, 131), (129, 3, 132), (129, 4, 133), (129, 5, 134), (129, 16, 135), (129, 17, 136), (129, 18, 137), (129, 19, 138), (129, 20, 139), (129, 21, 140), (129, 22, 141), (129, 23, 142), (129, 24, 143), (129, 29, 144), (129, 30, 145), (129, 38, 146), (129, 39, 147), (129, 41, 148), (129, 44, 149), (129, 45, 150), (129, 46, 151), (129, 47, 152), (129, 48, 153)]
def Ag (T : Knd) (A : Rfs) : Prop := (∀ t ∈ agK, T t.1 = t.2) ∧ (∀ t ∈ agR, A t.1 t.2.1 = t.2.2)
set_option maxRecDepth 100000 in
theorem ag_S2 : Ag S2v.1 S2v.2.1 := by
  unfold Ag
  exact ⟨by decide +kernel, by decide +kernel⟩
theorem ev_gi {T : Knd} {c a : Nat} {q : Nat × Nat} (h : T a = q) (hc : q.1 = c) : ∀ k I, gi T c k a I = some (I a k) := by
  intro k I; unfold gi; rw [h, if_pos hc]
theorem ev_pi {T : Knd} {c a : Nat} {q : Nat × Nat} (h : T a = q) (hc : q.1 = c) : ∀ k v I, pi T c k a v I = some (mu I a k v) := by
  intro k v I; unfold pi; rw [h, if_pos hc]
theorem ev_pz0 {T : Knd} {c a : Nat} {q : Nat × Nat} (h : T a = q) (hc : q.1 = c) : ∀ k I, pz T c k a 0 I = some (mu I a k 0) := by
  intro k I; unfold pz; rw [h, if_pos ⟨hc, Or.inl rfl⟩]
theorem ev_pz1 {T : Knd} {c a : Nat} {q : Nat × Nat} (h : T a = q) (hc : q.1 = c) : ∀ k I, pz T c k a 1 I = some (mu I a k 1) := by
  intro k I; unfold pz; rw [h, if_pos ⟨hc, Or.inr rfl⟩]
theorem ev_gr {T : Knd} {A : Rfs} {c k a b : Nat} {q : Nat × Nat} (h : T a = q) (hc : q.1 = c) (hA : A a k = b) (hb : b ≠ 0) : gr T A c k a = some b := by
  unfold gr; rw [h, hA, if_pos ⟨hc, hb⟩]
theorem ev_ld {T : Knd} {c a n : Nat} (h : T a = (c, n)) : ∀ j I, ld T c a j I = if 0 ≤ j ∧ j < (n : Int) then some (I a j.toNat) else none := by
  intro j I; unfold ld; simp only [h, true_and]
theorem ev_sto {T : Knd} {c a n : Nat} (h : T a = (c, n)) : ∀ j v I, sto T c a j v I = if 0 ≤ j ∧ j < (n : Int) then some (mu I a j.toNat v) else none := by
  intro j v I; unfold sto; simp only [h, true_and]
theorem ev_aln {T : Knd} {c a n : Nat} (h : T a = (c, n)) : aln T c a = some (n : Int) := by
  unfold aln; simp only [h, if_true]
theorem ev_lr {T : Knd} {A : Rfs} {c a n b : Nat} (h : T a = (c, n)) (hA : ∀ k, k < n → A a k = b + k) (hb : b ≠ 0) : ∀ j, lr T A c a j = if 0 ≤ j ∧ j < (n : Int) then some (b + j.toNat) else none := by
  intro j
  unfold lr
  simp only [h, true_and]
  by_cases h1 : 0 ≤ j ∧ j < (n : Int)
  · have h2 : A a j.toNat ≠ 0 := by rw [hA _ (by omega)]; omega
    rw [if_pos h1, if_pos ⟨h1.1, h1.2, h2⟩, hA _ (by omega)]
  · rw [if_neg h1, if_neg]
    exact fun hh => h1 ⟨hh.1, hh.2.1⟩
theorem kA {T : Knd} {A : Rfs} {a k b : Nat} (h : Ag T A) (hm : (a, k, b) ∈ agR) : A a k = b := h.2 _ hm
theorem kT_1 {T : Knd} {A : Rfs} (h : Ag T A) : T 1 = (11, 0) := h.1 (1, 11, 0) (by decide +kernel)
theorem kT_2 {T : Knd} {A : Rfs} (h : Ag T A) : T 2 = (8, 0) := h.1 (2, 8, 0) (by decide +kernel)
theorem kT_3 {T : Knd} {A : Rfs} (h : Ag T A) : T 3 = (22, 1600) := h.1 (3, 22, 1600) (by decide +kernel)
theorem kT_4 {T : Knd} {A : Rfs} (h : Ag T A) : T 4 = (4, 0) := h.1 (4, 4, 0) (by decide +kernel)
theorem kT_5 {T : Knd} {A : Rfs} (h : Ag T A) : T 5 = (2, 0) := h.1 (5, 2, 0) (by decide +kernel)
theorem kT_6 {T : Knd} {A : Rfs} (h : Ag T A) : T 6 = (20, 40) := h.1 (6, 20, 40) (by decide +kernel)
theorem kT_7 {T : Knd} {A : Rfs} (h : Ag T A) : T 7 = (24, 11) := h.1 (7, 24, 11) (by decide +kernel)
theorem kT_8 {T : Knd} {A : Rfs} (h : Ag T A) : T 8 = (20, 8) := h.1 (8, 20, 8) (by decide +kernel)
theorem kT_9 {T : Knd} {A : Rfs} (h : Ag T A) : T 9 = (20, 8) := h.1 (9, 20, 8) (by decide +kernel)
theorem kT_10 {T : Knd} {A : Rfs} (h : Ag T A) : T 10 = (20, 8) := h.1 (10, 20, 8) (by decide +kernel)
theorem kT_11 {T : Knd} {A : Rfs} (h : Ag T A) : T 11 = (20, 8) := h.1 (11, 20, 8) (by decide +kernel)
theorem kT_12 {T : Knd} {A : Rfs} (h : Ag T A) : T 12 = (20, 8) := h.1 (12, 20, 8) (by decide +kernel)
theorem kT_13 {T : Knd} {A : Rfs} (h : Ag T A) : T 13 = (20, 8) := h.1 (13, 20, 8) (by decide +kernel)
theorem kT_14 {T : Knd} {A : Rfs} (h : Ag T A) : T 14 = (20, 8) := h.1 (14, 20, 8) (by decide +kernel)
theorem kT_15 {T : Knd} {A : Rfs} (h : Ag T A) : T 15 = (20, 8) := h.1 (15, 20, 8) (by decide +kernel)
theorem kT_16 {T : Knd} {A : Rfs} (h : Ag T A) : T 16 = (20, 8) := h.1 (16, 20, 8) (by decide +kernel)
theorem kT_17 {T : Knd} {A : Rfs} (h : Ag T A) : T 17 = (20, 8) := h.1 (17, 20, 8) (by decide +kernel)
theorem kT_18 {T : Knd} {A : Rfs} (h : Ag T A) : T 18 = (20, 8) := h.1 (18, 20, 8) (by decide +kernel)
theorem kT_19 {T : Knd} {A : Rfs} (h : Ag T A) : T 19 = (24, 6) := h.1 (19, 24, 6) (by decide +kernel)
theorem kT_20 {T : Knd} {A : Rfs} (h : Ag T A) : T 20 = (20, 6) := h.1 (20, 20, 6) (by decide +kernel)
theorem kT_21 {T : Knd} {A : Rfs} (h : Ag T A) : T 21 = (20, 6) := h.1 (21, 20, 6) (by decide +kernel)
theorem kT_22 {T : Knd} {A : Rfs} (h : Ag T A) : T 22 = (20, 6) := h.1 (22, 20, 6) (by decide +kernel)
theorem kT_23 {T : Knd} {A : Rfs} (h : Ag T A) : T 23 = (20, 6) := h.1 (23, 20, 6) (by decide +kernel)
theorem kT_24 {T : Knd} {A : Rfs} (h : Ag T A) : T 24 = (20, 6) := h.1 (24, 20, 6) (by decide +kernel)
theorem kT_25 {T : Knd} {A : Rfs} (h : Ag T A) : T 25 = (20, 6) := h.1 (25, 20, 6) (by decide +kernel)
theorem kT_26 {T : Knd} {A : Rfs} (h : Ag T A) : T 26 = (2, 0) := h.1 (26, 2, 0) (by decide +kernel)
theorem kT_27 {T : Knd} {A : Rfs} (h : Ag T A) : T 27 = (20, 40) := h.1 (27, 20, 40) (by decide +kernel)
theorem kT_28 {T : Knd} {A : Rfs} (h : Ag T A) : T 28 = (24, 11) := h.1 (28, 24, 11) (by decide +kernel)
theorem kT_29 {T : Knd} {A : Rfs} (h : Ag T A) : T 29 = (20, 8) := h.1 (29, 20, 8) (by decide +kernel)
theorem kT_30 {T : Knd} {A : Rfs} (h : Ag T A) : T 30 = (20, 8) := h.1 (30, 20, 8) (by decide +kernel)
theorem kT_31 {T : Knd} {A : Rfs} (h : Ag T A) : T 31 = (20, 8) := h.1 (31, 20, 8) (by decide +kernel)
theorem kT_32 {T : Knd} {A : Rfs} (h : Ag T A) : T 32 = (20, 8) := h.1 (32, 20, 8) (by decide +kernel)
theorem kT_33 {T : Knd} {A : Rfs} (h : Ag T A) : T 33 = (20, 8) := h.1 (33, 20, 8) (by decide +kernel)
theorem kT_34 {T : Knd} {A : Rfs} (h : Ag T A) : T 34 = (20, 8) := h.1 (34, 20, 8) (by decide +kernel)
theorem kT_35 {T : Knd} {A : Rfs} (h : Ag T A) : T 35 = (20, 8) := h.1 (35, 20, 8) (by decide +kernel)
theorem kT_36 {T : Knd} {A : Rfs} (h : Ag T A) : T 36 = (20, 8) := h.1 (36, 20, 8) (by decide +kernel)
theorem kT_37 {T : Knd} {A : Rfs} (h : Ag T A) : T 37 = (20, 8) := h.1 (37, 20, 8) (by decide +kernel)
theorem kT_38 {T : Knd} {A : Rfs} (h : Ag T A) : T 38 = (20, 8) := h.1 (38, 20, 8) (by decide +kernel)
theorem kT_39 {T : Knd} {A : Rfs} (h : Ag T A) : T 39 = (20, 8) := h.1 (39, 20, 8) (by decide +kernel)
theorem kT_40 {T : Knd} {A : Rfs} (h : Ag T A) : T 40 = (24, 6) := h.1 (40, 24, 6) (by decide +kernel)
theorem kT_41 {T : Knd} {A : Rfs} (h : Ag T A) : T 41 = (20, 6) := h.1 (41, 20, 6) (by decide +kernel)
theorem kT_42 {T : Knd} {A : Rfs} (h : Ag T A) : T 42 = (20, 6) := h.1 (42, 20, 6) (by decide +kernel)
theorem kT_43 {T : Knd} {A : Rfs} (h : Ag T A) : T 43 = (20, 6) := h.1 (43, 20, 6) (by decide +kernel)
theorem kT_44 {T : Knd} {A : Rfs} (h : Ag T A) : T 44 = (20, 6) := h.1 (44, 20, 6) (by decide +kernel)
theorem kT_45 {T : Knd} {A : Rfs} (h : Ag T A) : T 45 = (20, 6) := h.1 (45, 20, 6) (by decide +kernel)
theorem kT_46 {T : Knd} {A : Rfs} (h : Ag T A) : T 46 = (20, 6) := h.1 (46, 20, 6) (by decide +kernel)
theorem kT_47 {T : Knd} {A : Rfs} (h : Ag T A) : T 47 = (9, 0) := h.1 (47, 9, 0) (by decide +kernel)
theorem kT_48 {T : Knd} {A : Rfs} (h : Ag T A) : T 48 = (24, 6) := h.1 (48, 24, 6) (by decide +kernel)
theorem kT_49 {T : Knd} {A : Rfs} (h : Ag T A) : T 49 = (20, 6) := h.1 (49, 20, 6) (by decide +kernel)
theorem kT_50 {T : Knd} {A : Rfs} (h : Ag T A) : T 50 = (20, 6) := h.1 (50, 20, 6) (by decide +kernel)
theorem kT_51 {T : Knd} {A : Rfs} (h : Ag T A) : T 51 = (20, 6) := h.1 (51, 20, 6) (by decide +kernel)
theorem kT_52 {T : Knd} {A : Rfs} (h : Ag T A) : T 52 = (20, 6) := h.1 (52, 20, 6) (by decide +kernel)
theorem kT_53 {T : Knd} {A : Rfs} (h : Ag T A) : T 53 = (20, 6) := h.1 (53, 20, 6) (by decide +kernel)
theorem kT_54 {T : Knd} {A : Rfs} (h : Ag T A) : T 54 = (20, 6) := h.1 (54, 20, 6) (by decide +kernel)
theorem kT_55 {T : Knd} {A : Rfs} (h : Ag T A) : T 55 = (24, 8) := h.1 (55, 24, 8) (by decide +kernel)
theorem kT_56 {T : Knd} {A : Rfs} (h : Ag T A) : T 56 = (20, 400) := h.1 (56, 20, 400) (by decide +kernel)
theorem kT_57 {T : Knd} {A : Rfs} (h : Ag T A) : T 57 = (20, 400) := h.1 (57, 20, 400) (by decide +kernel)
theorem kT_58 {T : Knd} {A : Rfs} (h : Ag T A) : T 58 = (20, 400) := h.1 (58, 20, 400) (by decide +kernel)
theorem kT_59 {T : Knd} {A : Rfs} (h : Ag T A) : T 59 = (20, 400) := h.1 (59, 20, 400) (by decide +kernel)
theorem kT_60 {T : Knd} {A : Rfs} (h : Ag T A) : T 60 = (20, 400) := h.1 (60, 20, 400) (by decide +kernel)
theorem kT_61 {T : Knd} {A : Rfs} (h : Ag T A) : T 61 = (20, 400) := h.1 (61, 20, 400) (by decide +kernel)
theorem kT_62 {T : Knd} {A : Rfs} (h : Ag T A) : T 62 = (20, 400) := h.1 (62, 20, 400) (by decide +kernel)
theorem kT_63 {T : Knd} {A : Rfs} (h : Ag T A) : T 63 = (20, 400) := h.1 (63, 20, 400) (by decide +kernel)
theorem kT_64 {T : Knd} {A : Rfs} (h : Ag T A) : T 64 = (10, 0) := h.1 (64, 10, 0) (by decide +kernel)
theorem kT_65 {T : Knd} {A : Rfs} (h : Ag T A) : T 65 = (20, 8) := h.1 (65, 20, 8) (by decide +kernel)
theorem kT_66 {T : Knd} {A : Rfs} (h : Ag T A) : T 66 = (10, 0) := h.1 (66, 10, 0) (by decide +kernel)
theorem kT_67 {T : Knd} {A : Rfs} (h : Ag T A) : T 67 = (20, 8) := h.1 (67, 20, 8) (by decide +kernel)
theorem kT_68 {T : Knd} {A : Rfs} (h : Ag T A) : T 68 = (5, 0) := h.1 (68, 5, 0) (by decide +kernel)
theorem kT_69 {T : Knd} {A : Rfs} (h : Ag T A) : T 69 = (10, 0) := h.1 (69, 10, 0) (by decide +kernel)
theorem kT_70 {T : Knd} {A : Rfs} (h : Ag T A) : T 70 = (20, 8) := h.1 (70, 20, 8) (by decide +kernel)
theorem kT_71 {T : Knd} {A : Rfs} (h : Ag T A) : T 71 = (20, 8) := h.1 (71, 20, 8) (by decide +kernel)
theorem kT_72 {T : Knd} {A : Rfs} (h : Ag T A) : T 72 = (20, 3) := h.1 (72, 20, 3) (by decide +kernel)
theorem kT_73 {T : Knd} {A : Rfs} (h : Ag T A) : T 73 = (20, 3) := h.1 (73, 20, 3) (by decide +kernel)
theorem kT_74 {T : Knd} {A : Rfs} (h : Ag T A) : T 74 = (24, 3) := h.1 (74, 24, 3) (by decide +kernel)
theorem kT_75 {T : Knd} {A : Rfs} (h : Ag T A) : T 75 = (20, 8) := h.1 (75, 20, 8) (by decide +kernel)
theorem kT_76 {T : Knd} {A : Rfs} (h : Ag T A) : T 76 = (20, 8) := h.1 (76, 20, 8) (by decide +kernel)
theorem kT_77 {T : Knd} {A : Rfs} (h : Ag T A) : T 77 = (20, 8) := h.1 (77, 20, 8) (by decide +kernel)
theorem kT_78 {T : Knd} {A : Rfs} (h : Ag T A) : T 78 = (20, 8) := h.1 (78, 20, 8) (by decide +kernel)
theorem kT_79 {T : Knd} {A : Rfs} (h : Ag T A) : T 79 = (5, 0) := h.1 (79, 5, 0) (by decide +kernel)
theorem kT_80 {T : Knd} {A : Rfs} (h : Ag T A) : T 80 = (10, 0) := h.1 (80, 10, 0) (by decide +kernel)
theorem kT_81 {T : Knd} {A : Rfs} (h : Ag T A) : T 81 = (20, 8) := h.1 (81, 20, 8) (by decide +kernel)
theorem kT_82 {T : Knd} {A : Rfs} (h : Ag T A) : T 82 = (20, 8) := h.1 (82, 20, 8) (by decide +kernel)
theorem kT_83 {T : Knd} {A : Rfs} (h : Ag T A) : T 83 = (20, 3) := h.1 (83, 20, 3) (by decide +kernel)
theorem kT_84 {T : Knd} {A : Rfs} (h : Ag T A) : T 84 = (20, 3) := h.1 (84, 20, 3) (by decide +kernel)
theorem kT_85 {T : Knd} {A : Rfs} (h : Ag T A) : T 85 = (24, 3) := h.1 (85, 24, 3) (by decide +kernel)
theorem kT_86 {T : Knd} {A : Rfs} (h : Ag T A) : T 86 = (20, 8) := h.1 (86, 20, 8) (by decide +kernel)
theorem kT_87 {T : Knd} {A : Rfs} (h : Ag T A) : T 87 = (20, 8) := h.1 (87, 20, 8) (by decide +kernel)
theorem kT_88 {T : Knd} {A : Rfs} (h : Ag T A) : T 88 = (20, 8) := h.1 (88, 20, 8) (by decide +kernel)
theorem kT_89 {T : Knd} {A : Rfs} (h : Ag T A) : T 89 = (20, 8) := h.1 (89, 20, 8) (by decide +kernel)
theorem kT_90 {T : Knd} {A : Rfs} (h : Ag T A) : T 90 = (5, 0) := h.1 (90, 5, 0) (by decide +kernel)
theorem kT_91 {T : Knd} {A : Rfs} (h : Ag T A) : T 91 = (10, 0) := h.1 (91, 10, 0) (by decide +kernel)
theorem kT_92 {T : Knd} {A : Rfs} (h : Ag T A) : T 92 = (20, 8) := h.1 (92, 20, 8) (by decide +kernel)
theorem kT_93 {T : Knd} {A : Rfs} (h : Ag T A) : T 93 = (20, 8) := h.1 (93, 20, 8) (by decide +kernel)
theorem kT_94 {T : Knd} {A : Rfs} (h : Ag T A) : T 94 = (20, 3) := h.1 (94, 20, 3) (by decide +kernel)
theorem kT_95 {T : Knd} {A : Rfs} (h : Ag T A) : T 95 = (20, 3) := h.1 (95, 20, 3) (by decide +kernel)
theorem kT_96 {T : Knd} {A : Rfs} (h : Ag T A) : T 96 = (24, 3) := h.1 (96, 24, 3) (by decide +kernel)
theorem kT_97 {T : Knd} {A : Rfs} (h : Ag T A) : T 97 = (20, 8) := h.1 (97, 20, 8) (by decide +kernel)
theorem kT_98 {T : Knd} {A : Rfs} (h : Ag T A) : T 98 = (20, 8) := h.1 (98, 20, 8) (by decide +kernel)
theorem kT_99 {T : Knd} {A : Rfs} (h : Ag T A) : T 99 = (20, 8) := h.1 (99, 20, 8) (by decide +kernel)
theorem kT_100 {T : Knd} {A : Rfs} (h : Ag T A) : T 100 = (20, 8) := h.1 (100, 20, 8) (by decide +kernel)
theorem kT_101 {T : Knd} {A : Rfs} (h : Ag T A) : T 101 = (6, 0) := h.1 (101, 6, 0) (by decide +kernel)
theorem kT_102 {T : Knd} {A : Rfs} (h : Ag T A) : T 102 = (20, 8) := h.1 (102, 20, 8) (by decide +kernel)
theorem kT_103 {T : Knd} {A : Rfs} (h : Ag T A) : T 103 = (20, 8) := h.1 (103, 20, 8) (by decide +kernel)
theorem kT_104 {T : Knd} {A : Rfs} (h : Ag T A) : T 104 = (21, 256) := h.1 (104, 21, 256) (by decide +kernel)
theorem kT_105 {T : Knd} {A : Rfs} (h : Ag T A) : T 105 = (20, 8) := h.1 (105, 20, 8) (by decide +kernel)
theorem kT_106 {T : Knd} {A : Rfs} (h : Ag T A) : T 106 = (20, 8) := h.1 (106, 20, 8) (by decide +kernel)
theorem kT_107 {T : Knd} {A : Rfs} (h : Ag T A) : T 107 = (1, 0) := h.1 (107, 1, 0) (by decide +kernel)
theorem kT_108 {T : Knd} {A : Rfs} (h : Ag T A) : T 108 = (20, 256) := h.1 (108, 20, 256) (by decide +kernel)
theorem kT_109 {T : Knd} {A : Rfs} (h : Ag T A) : T 109 = (20, 256) := h.1 (109, 20, 256) (by decide +kernel)
theorem kT_110 {T : Knd} {A : Rfs} (h : Ag T A) : T 110 = (20, 256) := h.1 (110, 20, 256) (by decide +kernel)
theorem kT_111 {T : Knd} {A : Rfs} (h : Ag T A) : T 111 = (7, 0) := h.1 (111, 7, 0) (by decide +kernel)
theorem kT_112 {T : Knd} {A : Rfs} (h : Ag T A) : T 112 = (25, 4) := h.1 (112, 25, 4) (by decide +kernel)
theorem kT_113 {T : Knd} {A : Rfs} (h : Ag T A) : T 113 = (21, 60) := h.1 (113, 21, 60) (by decide +kernel)
theorem kT_114 {T : Knd} {A : Rfs} (h : Ag T A) : T 114 = (21, 60) := h.1 (114, 21, 60) (by decide +kernel)
theorem kT_115 {T : Knd} {A : Rfs} (h : Ag T A) : T 115 = (21, 60) := h.1 (115, 21, 60) (by decide +kernel)
theorem kT_116 {T : Knd} {A : Rfs} (h : Ag T A) : T 116 = (21, 60) := h.1 (116, 21, 60) (by decide +kernel)
theorem kT_117 {T : Knd} {A : Rfs} (h : Ag T A) : T 117 = (20, 4) := h.1 (117, 20, 4) (by decide +kernel)
theorem kT_118 {T : Knd} {A : Rfs} (h : Ag T A) : T 118 = (20, 4) := h.1 (118, 20, 4) (by decide +kernel)
theorem kT_119 {T : Knd} {A : Rfs} (h : Ag T A) : T 119 = (3, 0) := h.1 (119, 3, 0) (by decide +kernel)
theorem kT_120 {T : Knd} {A : Rfs} (h : Ag T A) : T 120 = (10, 0) := h.1 (120, 10, 0) (by decide +kernel)
theorem kT_121 {T : Knd} {A : Rfs} (h : Ag T A) : T 121 = (20, 8) := h.1 (121, 20, 8) (by decide +kernel)
theorem kT_122 {T : Knd} {A : Rfs} (h : Ag T A) : T 122 = (20, 400) := h.1 (122, 20, 400) (by decide +kernel)
theorem kT_123 {T : Knd} {A : Rfs} (h : Ag T A) : T 123 = (20, 9) := h.1 (123, 20, 9) (by decide +kernel)
theorem kT_124 {T : Knd} {A : Rfs} (h : Ag T A) : T 124 = (20, 8) := h.1 (124, 20, 8) (by decide +kernel)
theorem kT_125 {T : Knd} {A : Rfs} (h : Ag T A) : T 125 = (0, 0) := h.1 (125, 0, 0) (by decide +kernel)
theorem kT_126 {T : Knd} {A : Rfs} (h : Ag T A) : T 126 = (10, 0) := h.1 (126, 10, 0) (by decide +kernel)
theorem kT_127 {T : Knd} {A : Rfs} (h : Ag T A) : T 127 = (20, 8) := h.1 (127, 20, 8) (by decide +kernel)
theorem kT_128 {T : Knd} {A : Rfs} (h : Ag T A) : T 128 = (26, 3) := h.1 (128, 26, 3) (by decide +kernel)
theorem kT_129 {T : Knd} {A : Rfs} (h : Ag T A) : T 129 = (12, 0) := h.1 (129, 12, 0) (by decide +kernel)
theorem kT_130 {T : Knd} {A : Rfs} (h : Ag T A) : T 130 = (20, 4) := h.1 (130, 20, 4) (by decide +kernel)
theorem kT_131 {T : Knd} {A : Rfs} (h : Ag T A) : T 131 = (20, 4) := h.1 (131, 20, 4) (by decide +kernel)
theorem kT_132 {T : Knd} {A : Rfs} (h : Ag T A) : T 132 = (21, 240) := h.1 (132, 21, 240) (by decide +kernel)
theorem kT_133 {T : Knd} {A : Rfs} (h : Ag T A) : T 133 = (21, 60) := h.1 (133, 21, 60) (by decide +kernel)
theorem kT_134 {T : Knd} {A : Rfs} (h : Ag T A) : T 134 = (22, 1600) := h.1 (134, 22, 1600) (by decide +kernel)
theorem kT_135 {T : Knd} {A : Rfs} (h : Ag T A) : T 135 = (20, 5) := h.1 (135, 20, 5) (by decide +kernel)
theorem kT_136 {T : Knd} {A : Rfs} (h : Ag T A) : T 136 = (20, 30) := h.1 (136, 20, 30) (by decide +kernel)
theorem kT_137 {T : Knd} {A : Rfs} (h : Ag T A) : T 137 = (20, 360) := h.1 (137, 20, 360) (by decide +kernel)
theorem kT_138 {T : Knd} {A : Rfs} (h : Ag T A) : T 138 = (20, 40) := h.1 (138, 20, 40) (by decide +kernel)
theorem kT_139 {T : Knd} {A : Rfs} (h : Ag T A) : T 139 = (20, 40) := h.1 (139, 20, 40) (by decide +kernel)
theorem kT_140 {T : Knd} {A : Rfs} (h : Ag T A) : T 140 = (20, 180) := h.1 (140, 20, 180) (by decide +kernel)
theorem kT_141 {T : Knd} {A : Rfs} (h : Ag T A) : T 141 = (20, 200) := h.1 (141, 20, 200) (by decide +kernel)
theorem kT_142 {T : Knd} {A : Rfs} (h : Ag T A) : T 142 = (23, 3) := h.1 (142, 23, 3) (by decide +kernel)
theorem kT_143 {T : Knd} {A : Rfs} (h : Ag T A) : T 143 = (20, 36) := h.1 (143, 20, 36) (by decide +kernel)
theorem kT_144 {T : Knd} {A : Rfs} (h : Ag T A) : T 144 = (20, 8) := h.1 (144, 20, 8) (by decide +kernel)
theorem kT_145 {T : Knd} {A : Rfs} (h : Ag T A) : T 145 = (23, 3200) := h.1 (145, 23, 3200) (by decide +kernel)
theorem kT_146 {T : Knd} {A : Rfs} (h : Ag T A) : T 146 = (20, 9) := h.1 (146, 20, 9) (by decide +kernel)
theorem kT_147 {T : Knd} {A : Rfs} (h : Ag T A) : T 147 = (20, 8) := h.1 (147, 20, 8) (by decide +kernel)
theorem kT_148 {T : Knd} {A : Rfs} (h : Ag T A) : T 148 = (20, 8) := h.1 (148, 20, 8) (by decide +kernel)
theorem kT_149 {T : Knd} {A : Rfs} (h : Ag T A) : T 149 = (21, 256) := h.1 (149, 21, 256) (by decide +kernel)
theorem kT_150 {T : Knd} {A : Rfs} (h : Ag T A) : T 150 = (20, 8) := h.1 (150, 20, 8) (by decide +kernel)
theorem kT_151 {T : Knd} {A : Rfs} (h : Ag T A) : T 151 = (20, 256) := h.1 (151, 20, 256) (by decide +kernel)
theorem kT_152 {T : Knd} {A : Rfs} (h : Ag T A) : T 152 = (20, 8) := h.1 (152, 20, 8) (by decide +kernel)
theorem kT_153 {T : Knd} {A : Rfs} (h : Ag T A) : T 153 = (20, 9) := h.1 (153, 20, 9) (by decide +kernel)
theorem agX {T : Knd} {A : Rfs} (h : Ag T A) : T 1 = (11, 0) ∧ (∀ k I, gi T 11 k 1 I = some (I 1 k)) ∧ (∀ k v I, pi T 11 k 1 v I = some (mu I 1 k v)) ∧ (∀ k I, pz T 11 k 1 0 I = some (mu I 1 k 0)) ∧ (∀ k I, pz T 11 k 1 1 I = some (mu I 1 k 1)) ∧ gr T A 11 0 1 = some 2 ∧ gr T A 11 1 1 = some 4 ∧ gr T A 11 2 1 = some 26 ∧ gr T A 11 3 1 = some 47 ∧ gr T A 11 4 1 = some 64 ∧ gr T A 11 5 1 = some 66 ∧ gr T A 11 6 1 = some 68 ∧ gr T A 11 7 1 = some 79 ∧ gr T A 11 8 1 = some 90 ∧ gr T A 11 9 1 = some 101 ∧ gr T A 11 10 1 = some 107 ∧ gr T A 11 11 1 = some 111 ∧ gr T A 11 12 1 = some 119 ∧ gr T A 11 13 1 = some 125 ∧ gr T A 11 14 1 = some 128 :=
  ⟨kT_1 h,
   ev_gi (kT_1 h) rfl,
   ev_pi (kT_1 h) rfl,
   ev_pz0 (kT_1 h) rfl,
   ev_pz1 (kT_1 h) rfl,
   ev_gr (kT_1 h) rfl (kA h (by decide +kernel)) (by decide),
   ev_gr (kT_1 h) rfl (kA h (by decide +kernel)) (by decide),
   ev_gr (kT_1 h) rfl (kA h (by decide +kernel)) (by decide),
   ev_gr (kT_1 h) rfl (kA h (by decide +kernel)) (by decide),
   ev_gr (kT_1 h) rfl (kA h (by decide +kernel)) (by decide),
   ev_gr (kT_1 h) rfl (kA h (by decide +kernel)) (by decide),
   ev_gr (kT_1 h) rfl (kA h (by decide +kernel)) (by decide),
   ev_gr (kT_1 h) rfl (kA h (by decide +kernel)) (by decide),
   ev_gr (kT_1 h) rfl (kA h (by decide +kernel)) (by decide),
   ev_gr (kT_1 h) rfl (kA h (by decide +kernel)) (by decide),
   ev_gr (kT_1 h) rfl (kA h (by decide +kernel)) (by decide),
   ev_gr (kT_1 h) rfl (kA h (by decide +kernel)) (by decide),
   ev_gr (kT_1 h) rfl (kA h (by decide +kernel)) (by decide),
   ev_gr (kT_1 h) rfl (kA h (by decide +kernel)) (by decide),
   ev_gr (kT_1 h) rfl (kA h (by decide +kernel)) (by decide)⟩
theorem agTape {T : Knd} {A : Rfs} (h : Ag T A) : T 2 = (8, 0) ∧ (∀ k I, gi T 8 k 2 I = some (I 2 k)) ∧ (∀ k v I, pi T 8 k 2 v I = some (mu I 2 k v)) ∧ (∀ k I, pz T 8 k 2 0 I = some (mu I 2 k 0)) ∧ (∀ k I, pz T 8 k 2 1 I = some (mu I 2 k 1)) ∧ gr T A 8 0 2 = some 3 ∧ T 3 = (22, 1600) ∧ (∀ j I, ld T 22 3 j I = if 0 ≤ j ∧ j < 1600 then some (I 3 j.toNat) else none) ∧ (∀ j v I, sto T 22 3 j v I = if 0 ≤ j ∧ j < 1600 then some (mu I 3 j.toNat v) else none) ∧ aln T 22 3 = some 1600 :=
  ⟨kT_2 h,
   ev_gi (kT_2 h) rfl,
   ev_pi (kT_2 h) rfl,
   ev_pz0 (kT_2 h) rfl,
   ev_pz1 (kT_2 h) rfl,
   ev_gr (kT_2 h) rfl (kA h (by decide +kernel)) (by decide),
   kT_3 h,
   ev_ld (kT_3 h),
   ev_sto (kT_3 h),
   ev_aln (kT_3 h)⟩
theorem agRd {T : Knd} {A : Rfs} (h : Ag T A) : T 4 = (4, 0) ∧ (∀ k I, gi T 4 k 4 I = some (I 4 k)) ∧ (∀ k v I, pi T 4 k 4 v I = some (mu I 4 k v)) ∧ (∀ k I, pz T 4 k 4 0 I = some (mu I 4 k 0)) ∧ (∀ k I, pz T 4 k 4 1 I = some (mu I 4 k 1)) ∧ gr T A 4 0 4 = some 2 ∧ gr T A 4 1 4 = some 5 ∧ T 5 = (2, 0) ∧ (∀ k I, gi T 2 k 5 I = some (I 5 k)) ∧ (∀ k v I, pi T 2 k 5 v I = some (mu I 5 k v)) ∧ (∀ k I, pz T 2 k 5 0 I = some (mu I 5 k 0)) ∧ (∀ k I, pz T 2 k 5 1 I = some (mu I 5 k 1)) ∧ gr T A 2 7 5 = some 6 ∧ gr T A 2 8 5 = some 7 ∧ gr T A 2 9 5 = some 19 ∧ T 6 = (20, 40) ∧ (∀ j I, ld T 20 6 j I = if 0 ≤ j ∧ j < 40 then some (I 6 j.toNat) else none) ∧ (∀ j v I, sto T 20 6 j v I = if 0 ≤ j ∧ j < 40 then some (mu I 6 j.toNat v) else none) ∧ aln T 20 6 = some 40 ∧ T 7 = (24, 11) ∧ (∀ j, lr T A 24 7 j = if 0 ≤ j ∧ j < 11 then some (8 + j.toNat) else none) ∧ T 8 = (20, 8) ∧ (∀ j I, ld T 20 8 j I = if 0 ≤ j ∧ j < 8 then some (I 8 j.toNat) else none) ∧ (∀ j v I, sto T 20 8 j v I = if 0 ≤ j ∧ j < 8 then some (mu I 8 j.toNat v) else none) ∧ aln T 20 8 = some 8 ∧ T 9 = (20, 8) ∧ (∀ j I, ld T 20 9 j I = if 0 ≤ j ∧ j < 8 then some (I 9 j.toNat) else none) ∧ (∀ j v I, sto T 20 9 j v I = if 0 ≤ j ∧ j < 8 then some (mu I 9 j.toNat v) else none) ∧ aln T 20 9 = some 8 ∧ T 10 = (20, 8) ∧ (∀ j I, ld T 20 10 j I = if 0 ≤ j ∧ j < 8 then some (I 10 j.toNat) else none) ∧ (∀ j v I, sto T 20 10 j v I = if 0 ≤ j ∧ j < 8 then some (mu I 10 j.toNat v) else none) ∧ aln T 20 10 = some 8 ∧ T 11 = (20, 8) ∧ (∀ j I, ld T 20 11 j I = if 0 ≤ j ∧ j < 8 then some (I 11 j.toNat) else none) ∧ (∀ j v I, sto T 20 11 j v I = if 0 ≤ j ∧ j < 8 then some (mu I 11 j.toNat v) else none) ∧ aln T 20 11 = some 8 ∧ T 12 = (20, 8) ∧ (∀ j I, ld T 20 12 j I = if 0 ≤ j ∧ j < 8 then some (I 12 j.toNat) else none) ∧ (∀ j v I, sto T 20 12 j v I = if 0 ≤ j ∧ j < 8 then some (mu I 12 j.toNat v) else none) ∧ aln T 20 12 = some 8 ∧ T 13 = (20, 8) ∧ (∀ j I, ld T 20 13 j I = if 0 ≤ j ∧ j < 8 then some (I 13 j.toNat) else none) ∧ (∀ j v I, sto T 20 13 j v I = if 0 ≤ j ∧ j < 8 then some (mu I 13 j.toNat v) else none) ∧ aln T 20 13 = some 8 ∧ T 14 = (20, 8) ∧ (∀ j I, ld T 20 14 j I = if 0 ≤ j ∧ j < 8 then some (I 14 j.toNat) else none) ∧ (∀ j v I, sto T 20 14 j v I = if 0 ≤ j ∧ j < 8 then some (mu I 14 j.toNat v) else none) ∧ aln T 20 14 = some 8 ∧ T 15 = (20, 8) ∧ (∀ j I, ld T 20 15 j I = if 0 ≤ j ∧ j < 8 then some (I 15 j.toNat) else none) ∧ (∀ j v I, sto T 20 15 j v I = if 0 ≤ j ∧ j < 8 then some (mu I 15 j.toNat v) else none) ∧ aln T 20 15 = some 8 ∧ T 16 = (20, 8) ∧ (∀ j I, ld T 20 16 j I = if 0 ≤ j ∧ j < 8 then some (I 16 j.toNat) else none) ∧ (∀ j v I, sto T 20 16 j v I = if 0 ≤ j ∧ j < 8 then some (mu I 16 j.toNat v) else none) ∧ aln T 20 16 = some 8 ∧ T 17 = (20, 8) ∧ (∀ j I, ld T 20 17 j I = if 0 ≤ j ∧ j < 8 then some (I 17 j.toNat) else none) ∧ (∀ j v I, sto T 20 17 j v I = if 0 ≤ j ∧ j < 8 then some (mu I 17 j.toNat v) else none) ∧ aln T 20 17 = some 8 ∧ T 18 = (20, 8) ∧ (∀ j I, ld T 20 18 j I = if 0 ≤ j ∧ j < 8 then some (I 18 j.toNat) else none) ∧ (∀ j v I, sto T 20 18 j v I = if 0 ≤ j ∧ j < 8 then some (mu I 18 j.toNat v) else none) ∧ aln T 20 18 = some 8 ∧ T 19 = (24, 6) ∧ (∀ j, lr T A 24 19 j = if 0 ≤ j ∧ j < 6 then some (20 + j.toNat) else none) ∧ T 20 = (20, 6) ∧ (∀ j I, ld T 20 20 j I = if 0 ≤ j ∧ j < 6 then some (I 20 j.toNat) else none) ∧ (∀ j v I, sto T 20 20 j v I = if 0 ≤ j ∧ j < 6 then some (mu I 20 j.toNat v) else none) ∧ aln T 20 20 = some 6 ∧ T 21 = (20, 6) ∧ (∀ j I, ld T 20 21 j I = if 0 ≤ j ∧ j < 6 then some (I 21 j.toNat) else none) ∧ (∀ j v I, sto T 20 21 j v I = if 0 ≤ j ∧ j < 6 then some (mu I 21 j.toNat v) else none) ∧ aln T 20 21 = some 6 ∧ T 22 = (20, 6) ∧ (∀ j I, ld T 20 22 j I = if 0 ≤ j ∧ j < 6 then some (I 22 j.toNat) else none) ∧ (∀ j v I, sto T 20 22 j v I = if 0 ≤ j ∧ j < 6 then some (mu I 22 j.toNat v) else none) ∧ aln T 20 22 = some 6 ∧ T 23 = (20, 6) ∧ (∀ j I, ld T 20 23 j I = if 0 ≤ j ∧ j < 6 then some (I 23 j.toNat) else none) ∧ (∀ j v I, sto T 20 23 j v I = if 0 ≤ j ∧ j < 6 then some (mu I 23 j.toNat v) else none) ∧ aln T 20 23 = some 6 ∧ T 24 = (20, 6) ∧ (∀ j I, ld T 20 24 j I = if 0 ≤ j ∧ j < 6 then some (I 24 j.toNat) else none) ∧ (∀ j v I, sto T 20 24 j v I = if 0 ≤ j ∧ j < 6 then some (mu I 24 j.toNat v) else none) ∧ aln T 20 24 = some 6 ∧ T 25 = (20, 6) ∧ (∀ j I, ld T 20 25 j I = if 0 ≤ j ∧ j < 6 then some (I 25 j.toNat) else none) ∧ (∀ j v I, sto T 20 25 j v I = if 0 ≤ j ∧ j < 6 then some (mu I 25 j.toNat v) else none) ∧ aln T 20 25 = some 6 :=
  ⟨kT_4 h,
   ev_gi (kT_4 h) rfl,
   ev_pi (kT_4 h) rfl,
   ev_pz0 (kT_4 h) rfl,
   ev_pz1 (kT_4 h) rfl,
   ev_gr (kT_4 h) rfl (kA h (by decide +kernel)) (by decide),
   ev_gr (kT_4 h) rfl (kA h (by decide +kernel)) (by decide),
   kT_5 h,
   ev_gi (kT_5 h) rfl,
   ev_pi (kT_5 h) rfl,
   ev_pz0 (kT_5 h) rfl,
   ev_pz1 (kT_5 h) rfl,
   ev_gr (kT_5 h) rfl (kA h (by decide +kernel)) (by decide),
   ev_gr (kT_5 h) rfl (kA h (by decide +kernel)) (by decide),
   ev_gr (kT_5 h) rfl (kA h (by decide +kernel)) (by decide),
   kT_6 h,
   ev_ld (kT_6 h),
   ev_sto (kT_6 h),
   ev_aln (kT_6 h),
   kT_7 h,
   ev_lr (kT_7 h) (fun k hk => kA h (by have : ∀ k < 11, (7, k, 8 + k) ∈ agR := (by decide +kernel); exact this k hk)) (by decide),
   kT_8 h,
   ev_ld (kT_8 h),
   ev_sto (kT_8 h),
   ev_aln (kT_8 h),
   kT_9 h,
   ev_ld (kT_9 h),
   ev_sto (kT_9 h),
   ev_aln (kT_9 h),
   kT_10 h,
   ev_ld (kT_10 h),
   ev_sto (kT_10 h),
   ev_aln (kT_10 h),
   kT_11 h,
   ev_ld (kT_11 h),
   ev_sto (kT_11 h),
   ev_aln (kT_11 h),
   kT_12 h,
   ev_ld (kT_12 h),
   ev_sto (kT_12 h),
   ev_aln (kT_12 h),
   kT_13 h,
   ev_ld (kT_13 h),
   ev_sto (kT_13 h),
   ev_aln (kT_13 h),
   kT_14 h,
   ev_ld (kT_14 h),
   ev_sto (kT_14 h),
   ev_aln (kT_14 h),
   kT_15 h,
   ev_ld (kT_15 h),
   ev_sto (kT_15 h),
   ev_aln (kT_15 h),
   kT_16 h,
   ev_ld (kT_16 h),
   ev_sto (kT_16 h),
   ev_aln (kT_16 h),
   kT_17 h,
   ev_ld (kT_17 h),
   ev_sto (kT_17 h),
   ev_aln (kT_17 h),
   kT_18 h,
   ev_ld (kT_18 h),
   ev_sto (kT_18 h),
   ev_aln (kT_18 h),
   kT_19 h,
   ev_lr (kT_19 h) (fun k hk => kA h (by have : ∀ k < 6, (19, k, 20 + k) ∈ agR := (by decide +kernel); exact this k hk)) (by decide),
   kT_20 h,
   ev_ld (kT_20 h),
   ev_sto (kT_20 h),
   ev_aln (kT_20 h),
   kT_21 h,
   ev_ld (kT_21 h),
   ev_sto (kT_21 h),
   ev_aln (kT_21 h),
   kT_22 h,
   ev_ld (kT_22 h),
   ev_sto (kT_22 h),
   ev_aln (kT_22 h),
   kT_23 h,
   ev_ld (kT_23 h),
   ev_sto (kT_23 h),
   ev_aln (kT_23 h),
   kT_24 h,
   ev_ld (kT_24 h),
   ev_sto (kT_24 h),
   ev_aln (kT_24 h),
   kT_25 h,
   ev_ld (kT_25 h),
   ev_sto (kT_25 h),
   ev_aln (kT_25 h)⟩
theorem agPl {T : Knd} {A : Rfs} (h : Ag T A) : T 26 = (2, 0) ∧ (∀ k I, gi T 2 k 26 I = some (I 26 k)) ∧ (∀ k v I, pi T 2 k 26 v I = some (mu I 26 k v)) ∧ (∀ k I, pz T 2 k 26 0 I = some (mu I 26 k 0)) ∧ (∀ k I, pz T 2 k 26 1 I = some (mu I 26 k 1)) ∧ gr T A 2 7 26 = some 27 ∧ gr T A 2 8 26 = some 28 ∧ gr T A 2 9 26 = some 40 ∧ T 27 = (20, 40) ∧ (∀ j I, ld T 20 27 j I = if 0 ≤ j ∧ j < 40 then some (I 27 j.toNat) else none) ∧ (∀ j v I, sto T 20 27 j v I = if 0 ≤ j ∧ j < 40 then some (mu I 27 j.toNat v) else none) ∧ aln T 20 27 = some 40 ∧ T 28 = (24, 11) ∧ (∀ j, lr T A 24 28 j = if 0 ≤ j ∧ j < 11 then some (29 + j.toNat) else none) ∧ T 29 = (20, 8) ∧ (∀ j I, ld T 20 29 j I = if 0 ≤ j ∧ j < 8 then some (I 29 j.toNat) else none) ∧ (∀ j v I, sto T 20 29 j v I = if 0 ≤ j ∧ j < 8 then some (mu I 29 j.toNat v) else none) ∧ aln T 20 29 = some 8 ∧ T 30 = (20, 8) ∧ (∀ j I, ld T 20 30 j I = if 0 ≤ j ∧ j < 8 then some (I 30 j.toNat) else none) ∧ (∀ j v I, sto T 20 30 j v I = if 0 ≤ j ∧ j < 8 then some (mu I 30 j.toNat v) else none) ∧ aln T 20 30 = some 8 ∧ T 31 = (20, 8) ∧ (∀ j I, ld T 20 31 j I = if 0 ≤ j ∧ j < 8 then some (I 31 j.toNat) else none) ∧ (∀ j v I, sto T 20 31 j v I = if 0 ≤ j ∧ j < 8 then some (mu I 31 j.toNat v) else none) ∧ aln T 20 31 = some 8 ∧ T 32 = (20, 8) ∧ (∀ j I, ld T 20 32 j I = if 0 ≤ j ∧ j < 8 then some (I 32 j.toNat) else none) ∧ (∀ j v I, sto T 20 32 j v I = if 0 ≤ j ∧ j < 8 then some (mu I 32 j.toNat v) else none) ∧ aln T 20 32 = some 8 ∧ T 33 = (20, 8) ∧ (∀ j I, ld T 20 33 j I = if 0 ≤ j ∧ j < 8 then some (I 33 j.toNat) else none) ∧ (∀ j v I, sto T 20 33 j v I = if 0 ≤ j ∧ j < 8 then some (mu I 33 j.toNat v) else none) ∧ aln T 20 33 = some 8 ∧ T 34 = (20, 8) ∧ (∀ j I, ld T 20 34 j I = if 0 ≤ j ∧ j < 8 then some (I 34 j.toNat) else none) ∧ (∀ j v I, sto T 20 34 j v I = if 0 ≤ j ∧ j < 8 then some (mu I 34 j.toNat v) else none) ∧ aln T 20 34 = some 8 ∧ T 35 = (20, 8) ∧ (∀ j I, ld T 20 35 j I = if 0 ≤ j ∧ j < 8 then some (I 35 j.toNat) else none) ∧ (∀ j v I, sto T 20 35 j v I = if 0 ≤ j ∧ j < 8 then some (mu I 35 j.toNat v) else none) ∧ aln T 20 35 = some 8 ∧ T 36 = (20, 8) ∧ (∀ j I, ld T 20 36 j I = if 0 ≤ j ∧ j < 8 then some (I 36 j.toNat) else none) ∧ (∀ j v I, sto T 20 36 j v I = if 0 ≤ j ∧ j < 8 then some (mu I 36 j.toNat v) else none) ∧ aln T 20 36 = some 8 ∧ T 37 = (20, 8) ∧ (∀ j I, ld T 20 37 j I = if 0 ≤ j ∧ j < 8 then some (I 37 j.toNat) else none) ∧ (∀ j v I, sto T 20 37 j v I = if 0 ≤ j ∧ j < 8 then some (mu I 37 j.toNat v) else none) ∧ aln T 20 37 = some 8 ∧ T 38 = (20, 8) ∧ (∀ j I, ld T 20 38 j I = if 0 ≤ j ∧ j < 8 then some (I 38 j.toNat) else none) ∧ (∀ j v I, sto T 20 38 j v I = if 0 ≤ j ∧ j < 8 then some (mu I 38 j.toNat v) else none) ∧ aln T 20 38 = some 8 ∧ T 39 = (20, 8) ∧ (∀ j I, ld T 20 39 j I = if 0 ≤ j ∧ j < 8 then some (I 39 j.toNat) else none) ∧ (∀ j v I, sto T 20 39 j v I = if 0 ≤ j ∧ j < 8 then some (mu I 39 j.toNat v) else none) ∧ aln T 20 39 = some 8 ∧ T 40 = (24, 6) ∧ (∀ j, lr T A 24 40 j = if 0 ≤ j ∧ j < 6 then some (41 + j.toNat) else none) ∧ T 41 = (20, 6) ∧ (∀ j I, ld T 20 41 j I = if 0 ≤ j ∧ j < 6 then some (I 41 j.toNat) else none) ∧ (∀ j v I, sto T 20 41 j v I = if 0 ≤ j ∧ j < 6 then some (mu I 41 j.toNat v) else none) ∧ aln T 20 41 = some 6 ∧ T 42 = (20, 6) ∧ (∀ j I, ld T 20 42 j I = if 0 ≤ j ∧ j < 6 then some (I 42 j.toNat) else none) ∧ (∀ j v I, sto T 20 42 j v I = if 0 ≤ j ∧ j < 6 then some (mu I 42 j.toNat v) else none) ∧ aln T 20 42 = some 6 ∧ T 43 = (20, 6) ∧ (∀ j I, ld T 20 43 j I = if 0 ≤ j ∧ j < 6 then some (I 43 j.toNat) else none) ∧ (∀ j v I, sto T 20 43 j v I = if 0 ≤ j ∧ j < 6 then some (mu I 43 j.toNat v) else none) ∧ aln T 20 43 = some 6 ∧ T 44 = (20, 6) ∧ (∀ j I, ld T 20 44 j I = if 0 ≤ j ∧ j < 6 then some (I 44 j.toNat) else none) ∧ (∀ j v I, sto T 20 44 j v I = if 0 ≤ j ∧ j < 6 then some (mu I 44 j.toNat v) else none) ∧ aln T 20 44 = some 6 ∧ T 45 = (20, 6) ∧ (∀ j I, ld T 20 45 j I = if 0 ≤ j ∧ j < 6 then some (I 45 j.toNat) else none) ∧ (∀ j v I, sto T 20 45 j v I = if 0 ≤ j ∧ j < 6 then some (mu I 45 j.toNat v) else none) ∧ aln T 20 45 = some 6 ∧ T 46 = (20, 6) ∧ (∀ j I, ld T 20 46 j I = if 0 ≤ j ∧ j < 6 then some (I 46 j.toNat) else none) ∧ (∀ j v I, sto T 20 46 j v I = if 0 ≤ j ∧ j < 6 then some (mu I 46 j.toNat v) else none) ∧ aln T 20 46 = some 6 :=
  ⟨kT_26 h,
   ev_gi (kT_26 h) rfl,
   ev_pi (kT_26 h) rfl,
   ev_pz0 (kT_26 h) rfl,
   ev_pz1 (kT_26 h) rfl,
   ev_gr (kT_26 h) rfl (kA h (by decide +kernel)) (by decide),
   ev_gr (kT_26 h) rfl (kA h (by decide +kernel)) (by decide),
   ev_gr (kT_26 h) rfl (kA h (by decide +kernel)) (by decide),
   kT_27 h,
   ev_ld (kT_27 h),
   ev_sto (kT_27 h),
   ev_aln (kT_27 h),
   kT_28 h,
   ev_lr (kT_28 h) (fun k hk => kA h (by have : ∀ k < 11, (28, k, 29 + k) ∈ agR := (by decide +kernel); exact this k hk)) (by decide),
   kT_29 h,
   ev_ld (kT_29 h),
   ev_sto (kT_29 h),
   ev_aln (kT_29 h),
   kT_30 h,
   ev_ld (kT_30 h),
   ev_sto (kT_30 h),
   ev_aln (kT_30 h),
   kT_31 h,
   ev_ld (kT_31 h),
   ev_sto (kT_31 h),
   ev_aln (kT_31 h),
   kT_32 h,
   ev_ld (kT_32 h),
   ev_sto (kT_32 h),
   ev_aln (kT_32 h),
   kT_33 h,
   ev_ld (kT_33 h),
   ev_sto (kT_33 h),
   ev_aln (kT_33 h),
   kT_34 h,
   ev_ld (kT_34 h),
   ev_sto (kT_34 h),
   ev_aln (kT_34 h),
   kT_35 h,
   ev_ld (kT_35 h),
   ev_sto (kT_35 h),
   ev_aln (kT_35 h),
   kT_36 h,
   ev_ld (kT_36 h),
   ev_sto (kT_36 h),
   ev_aln (kT_36 h),
   kT_37 h,
   ev_ld (kT_37 h),
   ev_sto (kT_37 h),
   ev_aln (kT_37 h),
   kT_38 h,
   ev_ld (kT_38 h),
   ev_sto (kT_38 h),
   ev_aln (kT_38 h),
   kT_39 h,
   ev_ld (kT_39 h),
   ev_sto (kT_39 h),
   ev_aln (kT_39 h),
   kT_40 h,
   ev_lr (kT_40 h) (fun k hk => kA h (by have : ∀ k < 6, (40, k, 41 + k) ∈ agR := (by decide +kernel); exact this k hk)) (by decide),
   kT_41 h,
   ev_ld (kT_41 h),
   ev_sto (kT_41 h),
   ev_aln (kT_41 h),
   kT_42 h,
   ev_ld (kT_42 h),
   ev_sto (kT_42 h),
   ev_aln (kT_42 h),
   kT_43 h,
   ev_ld (kT_43 h),
   ev_sto (kT_43 h),
   ev_aln (kT_43 h),
   kT_44 h,
   ev_ld (kT_44 h),
   ev_sto (kT_44 h),
   ev_aln (kT_44 h),
   kT_45 h,
   ev_ld (kT_45 h),
   ev_sto (kT_45 h),
   ev_aln (kT_45 h),
   kT_46 h,
   ev_ld (kT_46 h),
   ev_sto (kT_46 h),
   ev_aln (kT_46 h)⟩
theorem agTt {T : Knd} {A : Rfs} (h : Ag T A) : T 47 = (9, 0) ∧ (∀ k I, gi T 9 k 47 I = some (I 47 k)) ∧ (∀ k v I, pi T 9 k 47 v I = some (mu I 47 k v)) ∧ (∀ k I, pz T 9 k 47 0 I = some (mu I 47 k 0)) ∧ (∀ k I, pz T 9 k 47 1 I = some (mu I 47 k 1)) ∧ gr T A 9 0 47 = some 48 ∧ gr T A 9 1 47 = some 55 ∧ T 48 = (24, 6) ∧ (∀ j, lr T A 24 48 j = if 0 ≤ j ∧ j < 6 then some (49 + j.toNat) else none) ∧ T 49 = (20, 6) ∧ (∀ j I, ld T 20 49 j I = if 0 ≤ j ∧ j < 6 then some (I 49 j.toNat) else none) ∧ (∀ j v I, sto T 20 49 j v I = if 0 ≤ j ∧ j < 6 then some (mu I 49 j.toNat v) else none) ∧ aln T 20 49 = some 6 ∧ T 50 = (20, 6) ∧ (∀ j I, ld T 20 50 j I = if 0 ≤ j ∧ j < 6 then some (I 50 j.toNat) else none) ∧ (∀ j v I, sto T 20 50 j v I = if 0 ≤ j ∧ j < 6 then some (mu I 50 j.toNat v) else none) ∧ aln T 20 50 = some 6 ∧ T 51 = (20, 6) ∧ (∀ j I, ld T 20 51 j I = if 0 ≤ j ∧ j < 6 then some (I 51 j.toNat) else none) ∧ (∀ j v I, sto T 20 51 j v I = if 0 ≤ j ∧ j < 6 then some (mu I 51 j.toNat v) else none) ∧ aln T 20 51 = some 6 ∧ T 52 = (20, 6) ∧ (∀ j I, ld T 20 52 j I = if 0 ≤ j ∧ j < 6 then some (I 52 j.toNat) else none) ∧ (∀ j v I, sto T 20 52 j v I = if 0 ≤ j ∧ j < 6 then some (mu I 52 j.toNat v) else none) ∧ aln T 20 52 = some 6 ∧ T 53 = (20, 6) ∧ (∀ j I, ld T 20 53 j I = if 0 ≤ j ∧ j < 6 then some (I 53 j.toNat) else none) ∧ (∀ j v I, sto T 20 53 j v I = if 0 ≤ j ∧ j < 6 then some (mu I 53 j.toNat v) else none) ∧ aln T 20 53 = some 6 ∧ T 54 = (20, 6) ∧ (∀ j I, ld T 20 54 j I = if 0 ≤ j ∧ j < 6 then some (I 54 j.toNat) else none) ∧ (∀ j v I, sto T 20 54 j v I = if 0 ≤ j ∧ j < 6 then some (mu I 54 j.toNat v) else none) ∧ aln T 20 54 = some 6 ∧ T 55 = (24, 8) ∧ (∀ j, lr T A 24 55 j = if 0 ≤ j ∧ j < 8 then some (56 + j.toNat) else none) ∧ T 56 = (20, 400) ∧ (∀ j I, ld T 20 56 j I = if 0 ≤ j ∧ j < 400 then some (I 56 j.toNat) else none) ∧ (∀ j v I, sto T 20 56 j v I = if 0 ≤ j ∧ j < 400 then some (mu I 56 j.toNat v) else none) ∧ aln T 20 56 = some 400 ∧ T 57 = (20, 400) ∧ (∀ j I, ld T 20 57 j I = if 0 ≤ j ∧ j < 400 then some (I 57 j.toNat) else none) ∧ (∀ j v I, sto T 20 57 j v I = if 0 ≤ j ∧ j < 400 then some (mu I 57 j.toNat v) else none) ∧ aln T 20 57 = some 400 ∧ T 58 = (20, 400) ∧ (∀ j I, ld T 20 58 j I = if 0 ≤ j ∧ j < 400 then some (I 58 j.toNat) else none) ∧ (∀ j v I, sto T 20 58 j v I = if 0 ≤ j ∧ j < 400 then some (mu I 58 j.toNat v) else none) ∧ aln T 20 58 = some 400 ∧ T 59 = (20, 400) ∧ (∀ j I, ld T 20 59 j I = if 0 ≤ j ∧ j < 400 then some (I 59 j.toNat) else none) ∧ (∀ j v I, sto T 20 59 j v I = if 0 ≤ j ∧ j < 400 then some (mu I 59 j.toNat v) else none) ∧ aln T 20 59 = some 400 ∧ T 60 = (20, 400) ∧ (∀ j I, ld T 20 60 j I = if 0 ≤ j ∧ j < 400 then some (I 60 j.toNat) else none) ∧ (∀ j v I, sto T 20 60 j v I = if 0 ≤ j ∧ j < 400 then some (mu I 60 j.toNat v) else none) ∧ aln T 20 60 = some 400 ∧ T 61 = (20, 400) ∧ (∀ j I, ld T 20 61 j I = if 0 ≤ j ∧ j < 400 then some (I 61 j.toNat) else none) ∧ (∀ j v I, sto T 20 61 j v I = if 0 ≤ j ∧ j < 400 then some (mu I 61 j.toNat v) else none) ∧ aln T 20 61 = some 400 ∧ T 62 = (20, 400) ∧ (∀ j I, ld T 20 62 j I = if 0 ≤ j ∧ j < 400 then some (I 62 j.toNat) else none) ∧ (∀ j v I, sto T 20 62 j v I = if 0 ≤ j ∧ j < 400 then some (mu I 62 j.toNat v) else none) ∧ aln T 20 62 = some 400 ∧ T 63 = (20, 400) ∧ (∀ j I, ld T 20 63 j I = if 0 ≤ j ∧ j < 400 then some (I 63 j.toNat) else none) ∧ (∀ j v I, sto T 20 63 j v I = if 0 ≤ j ∧ j < 400 then some (mu I 63 j.toNat v) else none) ∧ aln T 20 63 = some 400 :=
  ⟨kT_47 h,
   ev_gi (kT_47 h) rfl,
   ev_pi (kT_47 h) rfl,
   ev_pz0 (kT_47 h) rfl,
   ev_pz1 (kT_47 h) rfl,
   ev_gr (kT_47 h) rfl (kA h (by decide +kernel)) (by decide),
   ev_gr (kT_47 h) rfl (kA h (by decide +kernel)) (by decide),
   kT_48 h,
   ev_lr (kT_48 h) (fun k hk => kA h (by have : ∀ k < 6, (48, k, 49 + k) ∈ agR := (by decide +kernel); exact this k hk)) (by decide),
   kT_49 h,
   ev_ld (kT_49 h),
   ev_sto (kT_49 h),
   ev_aln (kT_49 h),
   kT_50 h,
   ev_ld (kT_50 h),
   ev_sto (kT_50 h),
   ev_aln (kT_50 h),
   kT_51 h,
   ev_ld (kT_51 h),
   ev_sto (kT_51 h),
   ev_aln (kT_51 h),
   kT_52 h,
   ev_ld (kT_52 h),
   ev_sto (kT_52 h),
   ev_aln (kT_52 h),
   kT_53 h,
   ev_ld (kT_53 h),
   ev_sto (kT_53 h),
   ev_aln (kT_53 h),
   kT_54 h,
   ev_ld (kT_54 h),
   ev_sto (kT_54 h),
   ev_aln (kT_54 h),
   kT_55 h,
   ev_lr (kT_55 h) (fun k hk => kA h (by have : ∀ k < 8, (55, k, 56 + k) ∈ agR := (by decide +kernel); exact this k hk)) (by decide),
   kT_56 h,
   ev_ld (kT_56 h),
   ev_sto (kT_56 h),
   ev_aln (kT_56 h),
   kT_57 h,
   ev_ld (kT_57 h),
   ev_sto (kT_57 h),
   ev_aln (kT_57 h),
   kT_58 h,
   ev_ld (kT_58 h),
   ev_sto (kT_58 h),
   ev_aln (kT_58 h),
   kT_59 h,
   ev_ld (kT_59 h),
   ev_sto (kT_59 h),
   ev_aln (kT_59 h),
   kT_60 h,
   ev_ld (kT_60 h),
   ev_sto (kT_60 h),
   ev_aln (kT_60 h),
   kT_61 h,
   ev_ld (kT_61 h),
   ev_sto (kT_61 h),
   ev_aln (kT_61 h),
   kT_62 h,
   ev_ld (kT_62 h),
   ev_sto (kT_62 h),
   ev_aln (kT_62 h),
   kT_63 h,
   ev_ld (kT_63 h),
   ev_sto (kT_63 h),
   ev_aln (kT_63 h)⟩
theorem agSets {T : Knd} {A : Rfs} (h : Ag T A) : T 101 = (6, 0) ∧ (∀ k I, gi T 6 k 101 I = some (I 101 k)) ∧ (∀ k v I, pi T 6 k 101 v I = some (mu I 101 k v)) ∧ (∀ k I, pz T 6 k 101 0 I = some (mu I 101 k 0)) ∧ (∀ k I, pz T 6 k 101 1 I = some (mu I 101 k 1)) ∧ gr T A 6 0 101 = some 102 ∧ gr T A 6 1 101 = some 103 ∧ gr T A 6 2 101 = some 104 ∧ gr T A 6 3 101 = some 105 ∧ gr T A 6 4 101 = some 106 ∧ T 102 = (20, 8) ∧ (∀ j I, ld T 20 102 j I = if 0 ≤ j ∧ j < 8 then some (I 102 j.toNat) else none) ∧ (∀ j v I, sto T 20 102 j v I = if 0 ≤ j ∧ j < 8 then some (mu I 102 j.toNat v) else none) ∧ aln T 20 102 = some 8 ∧ T 103 = (20, 8) ∧ (∀ j I, ld T 20 103 j I = if 0 ≤ j ∧ j < 8 then some (I 103 j.toNat) else none) ∧ (∀ j v I, sto T 20 103 j v I = if 0 ≤ j ∧ j < 8 then some (mu I 103 j.toNat v) else none) ∧ aln T 20 103 = some 8 ∧ T 104 = (21, 256) ∧ (∀ j I, ld T 21 104 j I = if 0 ≤ j ∧ j < 256 then some (I 104 j.toNat) else none) ∧ (∀ j v I, sto T 21 104 j v I = if 0 ≤ j ∧ j < 256 then some (mu I 104 j.toNat v) else none) ∧ aln T 21 104 = some 256 ∧ T 105 = (20, 8) ∧ (∀ j I, ld T 20 105 j I = if 0 ≤ j ∧ j < 8 then some (I 105 j.toNat) else none) ∧ (∀ j v I, sto T 20 105 j v I = if 0 ≤ j ∧ j < 8 then some (mu I 105 j.toNat v) else none) ∧ aln T 20 105 = some 8 ∧ T 106 = (20, 8) ∧ (∀ j I, ld T 20 106 j I = if 0 ≤ j ∧ j < 8 then some (I 106 j.toNat) else none) ∧ (∀ j v I, sto T 20 106 j v I = if 0 ≤ j ∧ j < 8 then some (mu I 106 j.toNat v) else none) ∧ aln T 20 106 = some 8 ∧ T 107 = (1, 0) ∧ (∀ k I, gi T 1 k 107 I = some (I 107 k)) ∧ (∀ k v I, pi T 1 k 107 v I = some (mu I 107 k v)) ∧ (∀ k I, pz T 1 k 107 0 I = some (mu I 107 k 0)) ∧ (∀ k I, pz T 1 k 107 1 I = some (mu I 107 k 1)) ∧ gr T A 1 0 107 = some 108 ∧ gr T A 1 1 107 = some 109 ∧ gr T A 1 2 107 = some 110 ∧ T 108 = (20, 256) ∧ (∀ j I, ld T 20 108 j I = if 0 ≤ j ∧ j < 256 then some (I 108 j.toNat) else none) ∧ (∀ j v I, sto T 20 108 j v I = if 0 ≤ j ∧ j < 256 then some (mu I 108 j.toNat v) else none) ∧ aln T 20 108 = some 256 ∧ T 109 = (20, 256) ∧ (∀ j I, ld T 20 109 j I = if 0 ≤ j ∧ j < 256 then some (I 109 j.toNat) else none) ∧ (∀ j v I, sto T 20 109 j v I = if 0 ≤ j ∧ j < 256 then some (mu I 109 j.toNat v) else none) ∧ aln T 20 109 = some 256 ∧ T 110 = (20, 256) ∧ (∀ j I, ld T 20 110 j I = if 0 ≤ j ∧ j < 256 then some (I 110 j.toNat) else none) ∧ (∀ j v I, sto T 20 110 j v I = if 0 ≤ j ∧ j < 256 then some (mu I 110 j.toNat v) else none) ∧ aln T 20 110 = some 256 :=
  ⟨kT_101 h,
   ev_gi (kT_101 h) rfl,
   ev_pi (kT_101 h) rfl,
   ev_pz0 (kT_101 h) rfl,
   ev_pz1 (kT_101 h) rfl,
   ev_gr (kT_101 h) rfl (kA h (by decide +kernel)) (by decide),
   ev_gr (kT_101 h) rfl (kA h (by decide +kernel)) (by decide),
   ev_gr (kT_101 h) rfl (kA h (by decide +kernel)) (by decide),
   ev_gr (kT_101 h) rfl (kA h (by decide +kernel)) (by decide),
   ev_gr (kT_101 h) rfl (kA h (by decide +kernel)) (by decide),
   kT_102 h,
   ev_ld (kT_102 h),
   ev_sto (kT_102 h),
   ev_aln (kT_102 h),
   kT_103 h,
   ev_ld (kT_103 h),
   ev_sto (kT_103 h),
   ev_aln (kT_103 h),
   kT_104 h,
   ev_ld (kT_104 h),
   ev_sto (kT_104 h),
   ev_aln (kT_104 h),
   kT_105 h,
   ev_ld (kT_105 h),
   ev_sto (kT_105 h),
   ev_aln (kT_105 h),
   kT_106 h,
   ev_ld (kT_106 h),
   ev_sto (kT_106 h),
   ev_aln (kT_106 h),
   kT_107 h,
   ev_gi (kT_107 h) rfl,
   ev_pi (kT_107 h) rfl,
   ev_pz0 (kT_107 h) rfl,
   ev_pz1 (kT_107 h) rfl,
   ev_gr (kT_107 h) rfl (kA h (by decide +kernel)) (by decide),
   ev_gr (kT_107 h) rfl (kA h (by decide +kernel)) (by decide),
   ev_gr (kT_107 h) rfl (kA h (by decide +kernel)) (by decide),
   kT_108 h,
   ev_ld (kT_108 h),
   ev_sto (kT_108 h),
   ev_aln (kT_108 h),
   kT_109 h,
   ev_ld (kT_109 h),
   ev_sto (kT_109 h),
   ev_aln (kT_109 h),
   kT_110 h,
   ev_ld (kT_110 h),
   ev_sto (kT_110 h),
   ev_aln (kT_110 h)⟩
theorem agSl {T : Knd} {A : Rfs} (h : Ag T A) : T 111 = (7, 0) ∧ (∀ k I, gi T 7 k 111 I = some (I 111 k)) ∧ (∀ k v I, pi T 7 k 111 v I = some (mu I 111 k v)) ∧ (∀ k I, pz T 7 k 111 0 I = some (mu I 111 k 0)) ∧ (∀ k I, pz T 7 k 111 1 I = some (mu I 111 k 1)) ∧ gr T A 7 0 111 = some 112 ∧ gr T A 7 1 111 = some 117 ∧ gr T A 7 2 111 = some 118 ∧ T 112 = (25, 4) ∧ (∀ j, lr T A 25 112 j = if 0 ≤ j ∧ j < 4 then some (113 + j.toNat) else none) ∧ T 113 = (21, 60) ∧ (∀ j I, ld T 21 113 j I = if 0 ≤ j ∧ j < 60 then some (I 113 j.toNat) else none) ∧ (∀ j v I, sto T 21 113 j v I = if 0 ≤ j ∧ j < 60 then some (mu I 113 j.toNat v) else none) ∧ aln T 21 113 = some 60 ∧ T 114 = (21, 60) ∧ (∀ j I, ld T 21 114 j I = if 0 ≤ j ∧ j < 60 then some (I 114 j.toNat) else none) ∧ (∀ j v I, sto T 21 114 j v I = if 0 ≤ j ∧ j < 60 then some (mu I 114 j.toNat v) else none) ∧ aln T 21 114 = some 60 ∧ T 115 = (21, 60) ∧ (∀ j I, ld T 21 115 j I = if 0 ≤ j ∧ j < 60 then some (I 115 j.toNat) else none) ∧ (∀ j v I, sto T 21 115 j v I = if 0 ≤ j ∧ j < 60 then some (mu I 115 j.toNat v) else none) ∧ aln T 21 115 = some 60 ∧ T 116 = (21, 60) ∧ (∀ j I, ld T 21 116 j I = if 0 ≤ j ∧ j < 60 then some (I 116 j.toNat) else none) ∧ (∀ j v I, sto T 21 116 j v I = if 0 ≤ j ∧ j < 60 then some (mu I 116 j.toNat v) else none) ∧ aln T 21 116 = some 60 ∧ T 117 = (20, 4) ∧ (∀ j I, ld T 20 117 j I = if 0 ≤ j ∧ j < 4 then some (I 117 j.toNat) else none) ∧ (∀ j v I, sto T 20 117 j v I = if 0 ≤ j ∧ j < 4 then some (mu I 117 j.toNat v) else none) ∧ aln T 20 117 = some 4 ∧ T 118 = (20, 4) ∧ (∀ j I, ld T 20 118 j I = if 0 ≤ j ∧ j < 4 then some (I 118 j.toNat) else none) ∧ (∀ j v I, sto T 20 118 j v I = if 0 ≤ j ∧ j < 4 then some (mu I 118 j.toNat v) else none) ∧ aln T 20 118 = some 4 :=
  ⟨kT_111 h,
   ev_gi (kT_111 h) rfl,
   ev_pi (kT_111 h) rfl,
   ev_pz0 (kT_111 h) rfl,
   ev_pz1 (kT_111 h) rfl,
   ev_gr (kT_111 h) rfl (kA h (by decide +kernel)) (by decide),
   ev_gr (kT_111 h) rfl (kA h (by decide +kernel)) (by decide),
   ev_gr (kT_111 h) rfl (kA h (by decide +kernel)) (by decide),
   kT_112 h,
   ev_lr (kT_112 h) (fun k hk => kA h (by have : ∀ k < 4, (112, k, 113 + k) ∈ agR := (by decide +kernel); exact this k hk)) (by decide),
   kT_113 h,
   ev_ld (kT_113 h),
   ev_sto (kT_113 h),
   ev_aln (kT_113 h),
   kT_114 h,
   ev_ld (kT_114 h),
   ev_sto (kT_114 h),
   ev_aln (kT_114 h),
   kT_115 h,
   ev_ld (kT_115 h),
   ev_sto (kT_115 h),
   ev_aln (kT_115 h),
   kT_116 h,
   ev_ld (kT_116 h),
   ev_sto (kT_116 h),
   ev_aln (kT_116 h),
   kT_117 h,
   ev_ld (kT_117 h),
   ev_sto (kT_117 h),
   ev_aln (kT_117 h),
   kT_118 h,
   ev_ld (kT_118 h),
   ev_sto (kT_118 h),
   ev_aln (kT_118 h)⟩
theorem agQ {T : Knd} {A : Rfs} (h : Ag T A) : T 119 = (3, 0) ∧ (∀ k I, gi T 3 k 119 I = some (I 119 k)) ∧ (∀ k v I, pi T 3 k 119 v I = some (mu I 119 k v)) ∧ (∀ k I, pz T 3 k 119 0 I = some (mu I 119 k 0)) ∧ (∀ k I, pz T 3 k 119 1 I = some (mu I 119 k 1)) ∧ gr T A 3 0 119 = some 120 ∧ gr T A 3 1 119 = some 122 ∧ gr T A 3 2 119 = some 123 ∧ gr T A 3 3 119 = some 124 ∧ T 122 = (20, 400) ∧ (∀ j I, ld T 20 122 j I = if 0 ≤ j ∧ j < 400 then some (I 122 j.toNat) else none) ∧ (∀ j v I, sto T 20 122 j v I = if 0 ≤ j ∧ j < 400 then some (mu I 122 j.toNat v) else none) ∧ aln T 20 122 = some 400 ∧ T 123 = (20, 9) ∧ (∀ j I, ld T 20 123 j I = if 0 ≤ j ∧ j < 9 then some (I 123 j.toNat) else none) ∧ (∀ j v I, sto T 20 123 j v I = if 0 ≤ j ∧ j < 9 then some (mu I 123 j.toNat v) else none) ∧ aln T 20 123 = some 9 ∧ T 124 = (20, 8) ∧ (∀ j I, ld T 20 124 j I = if 0 ≤ j ∧ j < 8 then some (I 124 j.toNat) else none) ∧ (∀ j v I, sto T 20 124 j v I = if 0 ≤ j ∧ j < 8 then some (mu I 124 j.toNat v) else none) ∧ aln T 20 124 = some 8 :=
  ⟨kT_119 h,
   ev_gi (kT_119 h) rfl,
   ev_pi (kT_119 h) rfl,
   ev_pz0 (kT_119 h) rfl,
   ev_pz1 (kT_119 h) rfl,
   ev_gr (kT_119 h) rfl (kA h (by decide +kernel)) (by decide),
   ev_gr (kT_119 h) rfl (kA h (by decide +kernel)) (by decide),
   ev_gr (kT_119 h) rfl (kA h (by decide +kernel)) (by decide),
   ev_gr (kT_119 h) rfl (kA h (by decide +kernel)) (by decide),
   kT_122 h,
   ev_ld (kT_122 h),
   ev_sto (kT_122 h),
   ev_aln (kT_122 h),
   kT_123 h,
   ev_ld (kT_123 h),
   ev_sto (kT_123 h),
   ev_aln (kT_123 h),
   kT_124 h,
   ev_ld (kT_124 h),
   ev_sto (kT_124 h),
   ev_aln (kT_124 h)⟩
theorem agBl {T : Knd} {A : Rfs} (h : Ag T A) : T 125 = (0, 0) ∧ (∀ k I, gi T 0 k 125 I = some (I 125 k)) ∧ (∀ k v I, pi T 0 k 125 v I = some (mu I 125 k v)) ∧ (∀ k I, pz T 0 k 125 0 I = some (mu I 125 k 0)) ∧ (∀ k I, pz T 0 k 125 1 I = some (mu I 125 k 1)) ∧ gr T A 0 0 125 = some 126 :=
  ⟨kT_125 h,
   ev_gi (kT_125 h) rfl,
   ev_pi (kT_125 h) rfl,
   ev_pz0 (kT_125 h) rfl,
   ev_pz1 (kT_125 h) rfl,
   ev_gr (kT_125 h) rfl (kA h (by decide +kernel)) (by decide)⟩
theorem agM {T : Knd} {A : Rfs} (h : Ag T A) : T 129 = (12, 0) ∧ (∀ k I, gi T 12 k 129 I = some (I 129 k)) ∧ (∀ k v I, pi T 12 k 129 v I = some (mu I 129 k v)) ∧ (∀ k I, pz T 12 k 129 0 I = some (mu I 129 k 0)) ∧ (∀ k I, pz T 12 k 129 1 I = some (mu I 129 k 1)) ∧ gr T A 12 1 129 = some 130 ∧ gr T A 12 2 129 = some 131 ∧ gr T A 12 3 129 = some 132 ∧ gr T A 12 4 129 = some 133 ∧ gr T A 12 5 129 = some 134 ∧ gr T A 12 16 129 = some 135 ∧ gr T A 12 17 129 = some 136 ∧ gr T A 12 18 129 = some 137 ∧ gr T A 12 19 129 = some 138 ∧ gr T A 12 20 129 = some 139 ∧ gr T A 12 21 129 = some 140 ∧ gr T A 12 22 129 = some 141 ∧ gr T A 12 23 129 = some 142 ∧ gr T A 12 24 129 = some 143 ∧ gr T A 12 29 129 = some 144 ∧ gr T A 12 30 129 = some 145 ∧ gr T A 12 38 129 = some 146 ∧ gr T A 12 39 129 = some 147 ∧ gr T A 12 41 129 = some 148 ∧ gr T A 12 44 129 = some 149 ∧ gr T A 12 45 129 = some 150 ∧ gr T A 12 46 129 = some 151 ∧ gr T A 12 47 129 = some 152 ∧ gr T A 12 48 129 = some 153 ∧ T 130 = (20, 4) ∧ (∀ j I, ld T 20 130 j I = if 0 ≤ j ∧ j < 4 then some (I 130 j.toNat) else none) ∧ (∀ j v I, sto T 20 130 j v I = if 0 ≤ j ∧ j < 4 then some (mu I 130 j.toNat v) else none) ∧ aln T 20 130 = some 4 ∧ T 131 = (20, 4) ∧ (∀ j I, ld T 20 131 j I = if 0 ≤ j ∧ j < 4 then some (I 131 j.toNat) else none) ∧ (∀ j v I, sto T 20 131 j v I = if 0 ≤ j ∧ j < 4 then some (mu I 131 j.toNat v) else none) ∧ aln T 20 131 = some 4 ∧ T 132 = (21, 240) ∧ (∀ j I, ld T 21 132 j I = if 0 ≤ j ∧ j < 240 then some (I 132 j.toNat) else none) ∧ (∀ j v I, sto T 21 132 j v I = if 0 ≤ j ∧ j < 240 then some (mu I 132 j.toNat v) else none) ∧ aln T 21 132 = some 240 ∧ T 133 = (21, 60) ∧ (∀ j I, ld T 21 133 j I = if 0 ≤ j ∧ j < 60 then some (I 133 j.toNat) else none) ∧ (∀ j v I, sto T 21 133 j v I = if 0 ≤ j ∧ j < 60 then some (mu I 133 j.toNat v) else none) ∧ aln T 21 133 = some 60 ∧ T 134 = (22, 1600) ∧ (∀ j I, ld T 22 134 j I = if 0 ≤ j ∧ j < 1600 then some (I 134 j.toNat) else none) ∧ (∀ j v I, sto T 22 134 j v I = if 0 ≤ j ∧ j < 1600 then some (mu I 134 j.toNat v) else none) ∧ aln T 22 134 = some 1600 ∧ T 135 = (20, 5) ∧ (∀ j I, ld T 20 135 j I = if 0 ≤ j ∧ j < 5 then some (I 135 j.toNat) else none) ∧ (∀ j v I, sto T 20 135 j v I = if 0 ≤ j ∧ j < 5 then some (mu I 135 j.toNat v) else none) ∧ aln T 20 135 = some 5 ∧ T 136 = (20, 30) ∧ (∀ j I, ld T 20 136 j I = if 0 ≤ j ∧ j < 30 then some (I 136 j.toNat) else none) ∧ (∀ j v I, sto T 20 136 j v I = if 0 ≤ j ∧ j < 30 then some (mu I 136 j.toNat v) else none) ∧ aln T 20 136 = some 30 ∧ T 137 = (20, 360) ∧ (∀ j I, ld T 20 137 j I = if 0 ≤ j ∧ j < 360 then some (I 137 j.toNat) else none) ∧ (∀ j v I, sto T 20 137 j v I = if 0 ≤ j ∧ j < 360 then some (mu I 137 j.toNat v) else none) ∧ aln T 20 137 = some 360 ∧ T 138 = (20, 40) ∧ (∀ j I, ld T 20 138 j I = if 0 ≤ j ∧ j < 40 then some (I 138 j.toNat) else none) ∧ (∀ j v I, sto T 20 138 j v I = if 0 ≤ j ∧ j < 40 then some (mu I 138 j.toNat v) else none) ∧ aln T 20 138 = some 40 ∧ T 139 = (20, 40) ∧ (∀ j I, ld T 20 139 j I = if 0 ≤ j ∧ j < 40 then some (I 139 j.toNat) else none) ∧ (∀ j v I, sto T 20 139 j v I = if 0 ≤ j ∧ j < 40 then some (mu I 139 j.toNat v) else none) ∧ aln T 20 139 = some 40 ∧ T 140 = (20, 180) ∧ (∀ j I, ld T 20 140 j I = if 0 ≤ j ∧ j < 180 then some (I 140 j.toNat) else none) ∧ (∀ j v I, sto T 20 140 j v I = if 0 ≤ j ∧ j < 180 then some (mu I 140 j.toNat v) else none) ∧ aln T 20 140 = some 180 ∧ T 141 = (20, 200) ∧ (∀ j I, ld T 20 141 j I = if 0 ≤ j ∧ j < 200 then some (I 141 j.toNat) else none) ∧ (∀ j v I, sto T 20 141 j v I = if 0 ≤ j ∧ j < 200 then some (mu I 141 j.toNat v) else none) ∧ aln T 20 141 = some 200 ∧ T 142 = (23, 3) ∧ (∀ j I, ld T 23 142 j I = if 0 ≤ j ∧ j < 3 then some (I 142 j.toNat) else none) ∧ (∀ j v I, sto T 23 142 j v I = if 0 ≤ j ∧ j < 3 then some (mu I 142 j.toNat v) else none) ∧ aln T 23 142 = some 3 ∧ T 143 = (20, 36) ∧ (∀ j I, ld T 20 143 j I = if 0 ≤ j ∧ j < 36 then some (I 143 j.toNat) else none) ∧ (∀ j v I, sto T 20 143 j v I = if 0 ≤ j ∧ j < 36 then some (mu I 143 j.toNat v) else none) ∧ aln T 20 143 = some 36 ∧ T 144 = (20, 8) ∧ (∀ j I, ld T 20 144 j I = if 0 ≤ j ∧ j < 8 then some (I 144 j.toNat) else none) ∧ (∀ j v I, sto T 20 144 j v I = if 0 ≤ j ∧ j < 8 then some (mu I 144 j.toNat v) else none) ∧ aln T 20 144 = some 8 ∧ T 145 = (23, 3200) ∧ (∀ j I, ld T 23 145 j I = if 0 ≤ j ∧ j < 3200 then some (I 145 j.toNat) else none) ∧ (∀ j v I, sto T 23 145 j v I = if 0 ≤ j ∧ j < 3200 then some (mu I 145 j.toNat v) else none) ∧ aln T 23 145 = some 3200 ∧ T 146 = (20, 9) ∧ (∀ j I, ld T 20 146 j I = if 0 ≤ j ∧ j < 9 then some (I 146 j.toNat) else none) ∧ (∀ j v I, sto T 20 146 j v I = if 0 ≤ j ∧ j < 9 then some (mu I 146 j.toNat v) else none) ∧ aln T 20 146 = some 9 ∧ T 147 = (20, 8) ∧ (∀ j I, ld T 20 147 j I = if 0 ≤ j ∧ j < 8 then some (I 147 j.toNat) else none) ∧ (∀ j v I, sto T 20 147 j v I = if 0 ≤ j ∧ j < 8 then some (mu I 147 j.toNat v) else none) ∧ aln T 20 147 = some 8 ∧ T 148 = (20, 8) ∧ (∀ j I, ld T 20 148 j I = if 0 ≤ j ∧ j < 8 then some (I 148 j.toNat) else none) ∧ (∀ j v I, sto T 20 148 j v I = if 0 ≤ j ∧ j < 8 then some (mu I 148 j.toNat v) else none) ∧ aln T 20 148 = some 8 ∧ T 149 = (21, 256) ∧ (∀ j I, ld T 21 149 j I = if 0 ≤ j ∧ j < 256 then some (I 149 j.toNat) else none) ∧ (∀ j v I, sto T 21 149 j v I = if 0 ≤ j ∧ j < 256 then some (mu I 149 j.toNat v) else none) ∧ aln T 21 149 = some 256 ∧ T 150 = (20, 8) ∧ (∀ j I, ld T 20 150 j I = if 0 ≤ j ∧ j < 8 then some (I 150 j.toNat) else none) ∧ (∀ j v I, sto T 20 150 j v I = if 0 ≤ j ∧ j < 8 then some (mu I 150 j.toNat v) else none) ∧ aln T 20 150 = some 8 ∧ T 151 = (20, 256) ∧ (∀ j I, ld T 20 151 j I = if 0 ≤ j ∧ j < 256 then some (I 151 j.toNat) else none) ∧ (∀ j v I, sto T 20 151 j v I = if 0 ≤ j ∧ j < 256 then some (mu I 151 j.toNat v) else none) ∧ aln T 20 151 = some 256 ∧ T 152 = (20, 8) ∧ (∀ j I, ld T 20 152 j I = if 0 ≤ j ∧ j < 8 then some (I 152 j.toNat) else none) ∧ (∀ j v I, sto T 20 152 j v I = if 0 ≤ j ∧ j < 8 then some (mu I 152 j.toNat v) else none) ∧ aln T 20 152 = some 8 ∧ T 153 = (20, 9) ∧ (∀ j I, ld T 20 153 j I = if 0 ≤ j ∧ j < 9 then some (I 153 j.toNat) else none) ∧ (∀ j v I, sto T 20 153 j v I = if 0 ≤ j ∧ j < 9 then some (mu I 153 j.toNat v) else none) ∧ aln T 20 153 = some 9 :=
  ⟨kT_129 h,
   ev_gi (kT_129 h) rfl,
   ev_pi (kT_129 h) rfl,
   ev_pz0 (kT_129 h) rfl,
   ev_pz1 (kT_129 h) rfl,
   ev_gr (kT_129 h) rfl (kA h (by decide +kernel)) (by decide),
   ev_gr (kT_129 h) rfl (kA h (by decide +kernel)) (by decide),
   ev_gr (kT_129 h) rfl (kA h (by decide +kernel)) (by decide),
   ev_gr (kT_129 h) rfl (kA h (by decide +kernel)) (by decide),
   ev_gr (kT_129 h) rfl (kA h (by decide +kernel)) (by decide),
   ev_gr (kT_129 h) rfl (kA h (by decide +kernel)) (by decide),
   ev_gr (kT_129 h) rfl (kA h (by decide +kernel)) (by decide),
   ev_gr (kT_129 h) rfl (kA h (by decide +kernel)) (by decide),
   ev_gr (kT_129 h) rfl (kA h (by decide +kernel)) (by decide),
   ev_gr (kT_129 h) rfl (kA h (by decide +kernel)) (by decide),
   ev_gr (kT_129 h) rfl (kA h (by decide +kernel)) (by decide),
   ev_gr (kT_129 h) rfl (kA h (by decide +kernel)) (by decide),
   ev_gr (kT_129 h) rfl (kA h (by decide +kernel)) (by decide),
   ev_gr (kT_129 h) rfl (kA h (by decide +kernel)) (by decide),
   ev_gr (kT_129 h) rfl (kA h (by decide +kernel)) (by decide),
   ev_gr (kT_129 h) rfl (kA h (by decide +kernel)) (by decide),
   ev_gr (kT_129 h) rfl (kA h (by decide +kernel)) (by decide),
   ev_gr (kT_129 h) rfl (kA h (by decide +kernel)) (by decide),
   ev_gr (kT_129 h) rfl (kA h (by decide +kernel)) (by decide),
   ev_gr (kT_129 h) rfl (kA h (by decide +kernel)) (by decide),
   ev_gr (kT_129 h) rfl (kA h (by decide +kernel)) (by decide),
   ev_gr (kT_129 h) rfl (kA h (by decide +kernel)) (by decide),
   ev_gr (kT_129 h) rfl (kA h (by decide +kernel)) (by decide),
   ev_gr (kT_129 h) rfl (kA h (by decide +kernel)) (by decide),
   kT_130 h,
   ev_ld (kT_130 h),
   ev_sto (kT_130 h),
   ev_aln (kT_130 h),
   kT_131 h,
   ev_ld (kT_131 h),
   ev_sto (kT_131 h),
   ev_aln (kT_131 h),
   kT_132 h,
   ev_ld (kT_132 h),
   ev_sto (kT_132 h),
   ev_aln (kT_132 h),
   kT_133 h,
   ev_ld (kT_133 h),
   ev_sto (kT_133 h),
   ev_aln (kT_133 h),
   kT_134 h,
   ev_ld (kT_134 h),
   ev_sto (kT_134 h),
   ev_aln (kT_134 h),
   kT_135 h,
   ev_ld (kT_135 h),
   ev_sto (kT_135 h),
   ev_aln (kT_135 h),
   kT_136 h,
   ev_ld (kT_136 h),
   ev_sto (kT_136 h),
   ev_aln (kT_136 h),
   kT_137 h,
   ev_ld (kT_137 h),
   ev_sto (kT_137 h),
   ev_aln (kT_137 h),
   kT_138 h,
   ev_ld (kT_138 h),
   ev_sto (kT_138 h),
   ev_aln (kT_138 h),
   kT_139 h,
   ev_ld (kT_139 h),
   ev_sto (kT_139 h),
   ev_aln (kT_139 h),
   kT_140 h,
   ev_ld (kT_140 h),
   ev_sto (kT_140 h),
   ev_aln (kT_140 h),
   kT_141 h,
   ev_ld (kT_141 h),
   ev_sto (kT_141 h),
   ev_aln (kT_141 h),
   kT_142 h,
   ev_ld (kT_142 h),
   ev_sto (kT_142 h),
   ev_aln (kT_142 h),
   kT_143 h,
   ev_ld (kT_143 h),
   ev_sto (kT_143 h),
   ev_aln (kT_143 h),
   kT_144 h,
   ev_ld (kT_144 h),
   ev_sto (kT_144 h),
   ev_aln (kT_144 h),
   kT_145 h,
   ev_ld (kT_145 h),
   ev_sto (kT_145 h),
   ev_aln (kT_145 h),
   kT_146 h,
   ev_ld (kT_146 h),
   ev_sto (kT_146 h),
   ev_aln (kT_146 h),
   kT_147 h,
   ev_ld (kT_147 h),
   ev_sto (kT_147 h),
   ev_aln (kT_147 h),
   kT_148 h,
   ev_ld (kT_148 h),
   ev_sto (kT_148 h),
   ev_aln (kT_148 h),
   kT_149 h,
   ev_ld (kT_149 h),
   ev_sto (kT_149 h),
   ev_aln (kT_149 h),
   kT_150 h,
   ev_ld (kT_150 h),
   ev_sto (kT_150 h),
   ev_aln (kT_150 h),
   kT_151 h,
   ev_ld (kT_151 h),
   ev_sto (kT_151 h),
   ev_aln (kT_151 h),
   kT_152 h,
   ev_ld (kT_152 h),
   ev_sto (kT_152 h),
   ev_aln (kT_152 h),
   kT_153 h,
   ev_ld (kT_153 h),
   ev_sto (kT_153 h),
   ev_aln (kT_153 h)⟩
theorem agMg {T : Knd} {A : Rfs} (h : Ag T A) : T 129 = (12, 0) ∧ (∀ k I, gi T 12 k 129 I = some (I 129 k)) ∧ (∀ k v I, pi T 12 k 129 v I = some (mu I 129 k v)) ∧ (∀ k I, pz T 12 k 129 0 I = some (mu I 129 k 0)) ∧ (∀ k I, pz T 12 k 129 1 I = some (mu I 129 k 1)) ∧ gr T A 12 1 129 = some 130 ∧ gr T A 12 2 129 = some 131 ∧ gr T A 12 3 129 = some 132 ∧ gr T A 12 4 129 = some 133 ∧ gr T A 12 5 129 = some 134 ∧ gr T A 12 16 129 = some 135 ∧ gr T A 12 17 129 = some 136 ∧ gr T A 12 18 129 = some 137 ∧ gr T A 12 19 129 = some 138 ∧ gr T A 12 20 129 = some 139 ∧ gr T A 12 21 129 = some 140 ∧ gr T A 12 22 129 = some 141 ∧ gr T A 12 23 129 = some 142 ∧ gr T A 12 24 129 = some 143 ∧ gr T A 12 29 129 = some 144 ∧ gr T A 12 30 129 = some 145 ∧ gr T A 12 38 129 = some 146 ∧ gr T A 12 39 129 = some 147 ∧ gr T A 12 41 129 = some 148 ∧ gr T A 12 44 129 = some 149 ∧ gr T A 12 45 129 = some 150 ∧ gr T A 12 46 129 = some 151 ∧ gr T A 12 47 129 = some 152 ∧ gr T A 12 48 129 = some 153 :=
  ⟨kT_129 h,
   ev_gi (kT_129 h) rfl,
   ev_pi (kT_129 h) rfl,
   ev_pz0 (kT_129 h) rfl,
   ev_pz1 (kT_129 h) rfl,
   ev_gr (kT_129 h) rfl (kA h (by decide +kernel)) (by decide),
   ev_gr (kT_129 h) rfl (kA h (by decide +kernel)) (by decide),
   ev_gr (kT_129 h) rfl (kA h (by decide +kernel)) (by decide),
   ev_gr (kT_129 h) rfl (kA h (by decide +kernel)) (by decide),
   ev_gr (kT_129 h) rfl (kA h (by decide +kernel)) (by decide),
   ev_gr (kT_129 h) rfl (kA h (by decide +kernel)) (by decide),
   ev_gr (kT_129 h) rfl (kA h (by decide +kernel)) (by decide),
   ev_gr (kT_129 h) rfl (kA h (by decide +kernel)) (by decide),
   ev_gr (kT_129 h) rfl (kA h (by decide +kernel)) (by decide),
   ev_gr (kT_129 h) rfl (kA h (by decide +kernel)) (by decide),
   ev_gr (kT_129 h) rfl (kA h (by decide +kernel)) (by decide),
   ev_gr (kT_129 h) rfl (kA h (by decide +kernel)) (by decide),
   ev_gr (kT_129 h) rfl (kA h (by decide +kernel)) (by decide),
   ev_gr (kT_129 h) rfl (kA h (by decide +kernel)) (by decide),
   ev_gr (kT_129 h) rfl (kA h (by decide +kernel)) (by decide),
   ev_gr (kT_129 h) rfl (kA h (by decide +kernel)) (by decide),
   ev_gr (kT_129 h) rfl (kA h (by decide +kernel)) (by decide),
   ev_gr (kT_129 h) rfl (kA h (by decide +kernel)) (by decide),
   ev_gr (kT_129 h) rfl (kA h (by decide +kernel)) (by decide),
   ev_gr (kT_129 h) rfl (kA h (by decide +kernel)) (by decide),
   ev_gr (kT_129 h) rfl (kA h (by decide +kernel)) (by decide),
   ev_gr (kT_129 h) rfl (kA h (by decide +kernel)) (by decide),
   ev_gr (kT_129 h) rfl (kA h (by decide +kernel)) (by decide),
   ev_gr (kT_129 h) rfl (kA h (by decide +kernel)) (by decide)⟩
theorem agW64 {T : Knd} {A : Rfs} (h : Ag T A) : T 64 = (10, 0) ∧ (∀ k I, gi T 10 k 64 I = some (I 64 k)) ∧ (∀ k v I, pi T 10 k 64 v I = some (mu I 64 k v)) ∧ (∀ k I, pz T 10 k 64 0 I = some (mu I 64 k 0)) ∧ (∀ k I, pz T 10 k 64 1 I = some (mu I 64 k 1)) ∧ gr T A 10 0 64 = some 26 ∧ gr T A 10 1 64 = some 47 ∧ gr T A 10 2 64 = some 65 ∧ T 65 = (20, 8) ∧ (∀ j I, ld T 20 65 j I = if 0 ≤ j ∧ j < 8 then some (I 65 j.toNat) else none) ∧ (∀ j v I, sto T 20 65 j v I = if 0 ≤ j ∧ j < 8 then some (mu I 65 j.toNat v) else none) ∧ aln T 20 65 = some 8 :=
  ⟨kT_64 h,
   ev_gi (kT_64 h) rfl,
   ev_pi (kT_64 h) rfl,
   ev_pz0 (kT_64 h) rfl,
   ev_pz1 (kT_64 h) rfl,
   ev_gr (kT_64 h) rfl (kA h (by decide +kernel)) (by decide),
   ev_gr (kT_64 h) rfl (kA h (by decide +kernel)) (by decide),
   ev_gr (kT_64 h) rfl (kA h (by decide +kernel)) (by decide),
   kT_65 h,
   ev_ld (kT_65 h),
   ev_sto (kT_65 h),
   ev_aln (kT_65 h)⟩
theorem agW66 {T : Knd} {A : Rfs} (h : Ag T A) : T 66 = (10, 0) ∧ (∀ k I, gi T 10 k 66 I = some (I 66 k)) ∧ (∀ k v I, pi T 10 k 66 v I = some (mu I 66 k v)) ∧ (∀ k I, pz T 10 k 66 0 I = some (mu I 66 k 0)) ∧ (∀ k I, pz T 10 k 66 1 I = some (mu I 66 k 1)) ∧ gr T A 10 0 66 = some 26 ∧ gr T A 10 1 66 = some 47 ∧ gr T A 10 2 66 = some 67 ∧ T 67 = (20, 8) ∧ (∀ j I, ld T 20 67 j I = if 0 ≤ j ∧ j < 8 then some (I 67 j.toNat) else none) ∧ (∀ j v I, sto T 20 67 j v I = if 0 ≤ j ∧ j < 8 then some (mu I 67 j.toNat v) else none) ∧ aln T 20 67 = some 8 :=
  ⟨kT_66 h,
   ev_gi (kT_66 h) rfl,
   ev_pi (kT_66 h) rfl,
   ev_pz0 (kT_66 h) rfl,
   ev_pz1 (kT_66 h) rfl,
   ev_gr (kT_66 h) rfl (kA h (by decide +kernel)) (by decide),
   ev_gr (kT_66 h) rfl (kA h (by decide +kernel)) (by decide),
   ev_gr (kT_66 h) rfl (kA h (by decide +kernel)) (by decide),
   kT_67 h,
   ev_ld (kT_67 h),
   ev_sto (kT_67 h),
   ev_aln (kT_67 h)⟩
theorem agW69 {T : Knd} {A : Rfs} (h : Ag T A) : T 69 = (10, 0) ∧ (∀ k I, gi T 10 k 69 I = some (I 69 k)) ∧ (∀ k v I, pi T 10 k 69 v I = some (mu I 69 k v)) ∧ (∀ k I, pz T 10 k 69 0 I = some (mu I 69 k 0)) ∧ (∀ k I, pz T 10 k 69 1 I = some (mu I 69 k 1)) ∧ gr T A 10 0 69 = some 26 ∧ gr T A 10 1 69 = some 47 ∧ gr T A 10 2 69 = some 70 ∧ T 70 = (20, 8) ∧ (∀ j I, ld T 20 70 j I = if 0 ≤ j ∧ j < 8 then some (I 70 j.toNat) else none) ∧ (∀ j v I, sto T 20 70 j v I = if 0 ≤ j ∧ j < 8 then some (mu I 70 j.toNat v) else none) ∧ aln T 20 70 = some 8 :=
  ⟨kT_69 h,
   ev_gi (kT_69 h) rfl,
   ev_pi (kT_69 h) rfl,
   ev_pz0 (kT_69 h) rfl,
   ev_pz1 (kT_69 h) rfl,
   ev_gr (kT_69 h) rfl (kA h (by decide +kernel)) (by decide),
   ev_gr (kT_69 h) rfl (kA h (by decide +kernel)) (by decide),
   ev_gr (kT_69 h) rfl (kA h (by decide +kernel)) (by decide),
   kT_70 h,
   ev_ld (kT_70 h),
   ev_sto (kT_70 h),
   ev_aln (kT_70 h)⟩
theorem agW80 {T : Knd} {A : Rfs} (h : Ag T A) : T 80 = (10, 0) ∧ (∀ k I, gi T 10 k 80 I = some (I 80 k)) ∧ (∀ k v I, pi T 10 k 80 v I = some (mu I 80 k v)) ∧ (∀ k I, pz T 10 k 80 0 I = some (mu I 80 k 0)) ∧ (∀ k I, pz T 10 k 80 1 I = some (mu I 80 k 1)) ∧ gr T A 10 0 80 = some 26 ∧ gr T A 10 1 80 = some 47 ∧ gr T A 10 2 80 = some 81 ∧ T 81 = (20, 8) ∧ (∀ j I, ld T 20 81 j I = if 0 ≤ j ∧ j < 8 then some (I 81 j.toNat) else none) ∧ (∀ j v I, sto T 20 81 j v I = if 0 ≤ j ∧ j < 8 then some (mu I 81 j.toNat v) else none) ∧ aln T 20 81 = some 8 :=
  ⟨kT_80 h,
   ev_gi (kT_80 h) rfl,
   ev_pi (kT_80 h) rfl,
   ev_pz0 (kT_80 h) rfl,
   ev_pz1 (kT_80 h) rfl,
   ev_gr (kT_80 h) rfl (kA h (by decide +kernel)) (by decide),
   ev_gr (kT_80 h) rfl (kA h (by decide +kernel)) (by decide),
   ev_gr (kT_80 h) rfl (kA h (by decide +kernel)) (by decide),
   kT_81 h,
   ev_ld (kT_81 h),
   ev_sto (kT_81 h),
   ev_aln (kT_81 h)⟩
theorem agW91 {T : Knd} {A : Rfs} (h : Ag T A) : T 91 = (10, 0) ∧ (∀ k I, gi T 10 k 91 I = some (I 91 k)) ∧ (∀ k v I, pi T 10 k 91 v I = some (mu I 91 k v)) ∧ (∀ k I, pz T 10 k 91 0 I = some (mu I 91 k 0)) ∧ (∀ k I, pz T 10 k 91 1 I = some (mu I 91 k 1)) ∧ gr T A 10 0 91 = some 26 ∧ gr T A 10 1 91 = some 47 ∧ gr T A 10 2 91 = some 92 ∧ T 92 = (20, 8) ∧ (∀ j I, ld T 20 92 j I = if 0 ≤ j ∧ j < 8 then some (I 92 j.toNat) else none) ∧ (∀ j v I, sto T 20 92 j v I = if 0 ≤ j ∧ j < 8 then some (mu I 92 j.toNat v) else none) ∧ aln T 20 92 = some 8 :=
  ⟨kT_91 h,
   ev_gi (kT_91 h) rfl,
   ev_pi (kT_91 h) rfl,
   ev_pz0 (kT_91 h) rfl,
   ev_pz1 (kT_91 h) rfl,
   ev_gr (kT_91 h) rfl (kA h (by decide +kernel)) (by decide),
   ev_gr (kT_91 h) rfl (kA h (by decide +kernel)) (by decide),
   ev_gr (kT_91 h) rfl (kA h (by decide +kernel)) (by decide),
   kT_92 h,
   ev_ld (kT_92 h),
   ev_sto (kT_92 h),
   ev_aln (kT_92 h)⟩
theorem agW120 {T : Knd} {A : Rfs} (h : Ag T A) : T 120 = (10, 0) ∧ (∀ k I, gi T 10 k 120 I = some (I 120 k)) ∧ (∀ k v I, pi T 10 k 120 v I = some (mu I 120 k v)) ∧ (∀ k I, pz T 10 k 120 0 I = some (mu I 120 k 0)) ∧ (∀ k I, pz T 10 k 120 1 I = some (mu I 120 k 1)) ∧ gr T A 10 0 120 = some 26 ∧ gr T A 10 1 120 = some 47 ∧ gr T A 10 2 120 = some 121 ∧ T 121 = (20, 8) ∧ (∀ j I, ld T 20 121 j I = if 0 ≤ j ∧ j < 8 then some (I 121 j.toNat) else none) ∧ (∀ j v I, sto T 20 121 j v I = if 0 ≤ j ∧ j < 8 then some (mu I 121 j.toNat v) else none) ∧ aln T 20 121 = some 8 :=
  ⟨kT_120 h,
   ev_gi (kT_120 h) rfl,
   ev_pi (kT_120 h) rfl,
   ev_pz0 (kT_120 h) rfl,
   ev_pz1 (kT_120 h) rfl,
   ev_gr (kT_120 h) rfl (kA h (by decide +kernel)) (by decide),
   ev_gr (kT_120 h) rfl (kA h (by decide +kernel)) (by decide),
   ev_gr (kT_120 h) rfl (kA h (by decide +kernel)) (by decide),
   kT_121 h,
   ev_ld (kT_121 h),
   ev_sto (kT_121 h),
   ev_aln (kT_121 h)⟩
theorem agW126 {T : Knd} {A : Rfs} (h : Ag T A) : T 126 = (10, 0) ∧ (∀ k I, gi T 10 k 126 I = some (I 126 k)) ∧ (∀ k v I, pi T 10 k 126 v I = some (mu I 126 k v)) ∧ (∀ k I, pz T 10 k 126 0 I = some (mu I 126 k 0)) ∧ (∀ k I, pz T 10 k 126 1 I = some (mu I 126 k 1)) ∧ gr T A 10 0 126 = some 26 ∧ gr T A 10 1 126 = some 47 ∧ gr T A 10 2 126 = some 127 ∧ T 127 = (20, 8) ∧ (∀ j I, ld T 20 127 j I = if 0 ≤ j ∧ j < 8 then some (I 127 j.toNat) else none) ∧ (∀ j v I, sto T 20 127 j v I = if 0 ≤ j ∧ j < 8 then some (mu I 127 j.toNat v) else none) ∧ aln T 20 127 = some 8 :=
  ⟨kT_126 h,
   ev_gi (kT_126 h) rfl,
   ev_pi (kT_126 h) rfl,
   ev_pz0 (kT_126 h) rfl,
   ev_pz1 (kT_126 h) rfl,
   ev_gr (kT_126 h) rfl (kA h (by decide +kernel)) (by decide),
   ev_gr (kT_126 h) rfl (kA h (by decide +kernel)) (by decide),
   ev_gr (kT_126 h) rfl (kA h (by decide +kernel)) (by decide),
   kT_127 h,
   ev_ld (kT_127 h),
   ev_sto (kT_127 h),
   ev_aln (kT_127 h)⟩
theorem agR68 {T : Knd} {A : Rfs} (h : Ag T A) : T 68 = (5, 0) ∧ (∀ k I, gi T 5 k 68 I = some (I 68 k)) ∧ (∀ k v I, pi T 5 k 68 v I = some (mu I 68 k v)) ∧ (∀ k I, pz T 5 k 68 0 I = some (mu I 68 k 0)) ∧ (∀ k I, pz T 5 k 68 1 I = some (mu I 68 k 1)) ∧ gr T A 5 0 68 = some 69 ∧ gr T A 5 1 68 = some 71 ∧ gr T A 5 2 68 = some 72 ∧ gr T A 5 3 68 = some 73 ∧ gr T A 5 4 68 = some 74 ∧ gr T A 5 5 68 = some 78 ∧ T 71 = (20, 8) ∧ (∀ j I, ld T 20 71 j I = if 0 ≤ j ∧ j < 8 then some (I 71 j.toNat) else none) ∧ (∀ j v I, sto T 20 71 j v I = if 0 ≤ j ∧ j < 8 then some (mu I 71 j.toNat v) else none) ∧ aln T 20 71 = some 8 ∧ T 72 = (20, 3) ∧ (∀ j I, ld T 20 72 j I = if 0 ≤ j ∧ j < 3 then some (I 72 j.toNat) else none) ∧ (∀ j v I, sto T 20 72 j v I = if 0 ≤ j ∧ j < 3 then some (mu I 72 j.toNat v) else none) ∧ aln T 20 72 = some 3 ∧ T 73 = (20, 3) ∧ (∀ j I, ld T 20 73 j I = if 0 ≤ j ∧ j < 3 then some (I 73 j.toNat) else none) ∧ (∀ j v I, sto T 20 73 j v I = if 0 ≤ j ∧ j < 3 then some (mu I 73 j.toNat v) else none) ∧ aln T 20 73 = some 3 ∧ T 74 = (24, 3) ∧ (∀ j, lr T A 24 74 j = if 0 ≤ j ∧ j < 3 then some (75 + j.toNat) else none) ∧ T 75 = (20, 8) ∧ (∀ j I, ld T 20 75 j I = if 0 ≤ j ∧ j < 8 then some (I 75 j.toNat) else none) ∧ (∀ j v I, sto T 20 75 j v I = if 0 ≤ j ∧ j < 8 then some (mu I 75 j.toNat v) else none) ∧ aln T 20 75 = some 8 ∧ T 76 = (20, 8) ∧ (∀ j I, ld T 20 76 j I = if 0 ≤ j ∧ j < 8 then some (I 76 j.toNat) else none) ∧ (∀ j v I, sto T 20 76 j v I = if 0 ≤ j ∧ j < 8 then some (mu I 76 j.toNat v) else none) ∧ aln T 20 76 = some 8 ∧ T 77 = (20, 8) ∧ (∀ j I, ld T 20 77 j I = if 0 ≤ j ∧ j < 8 then some (I 77 j.toNat) else none) ∧ (∀ j v I, sto T 20 77 j v I = if 0 ≤ j ∧ j < 8 then some (mu I 77 j.toNat v) else none) ∧ aln T 20 77 = some 8 ∧ T 78 = (20, 8) ∧ (∀ j I, ld T 20 78 j I = if 0 ≤ j ∧ j < 8 then some (I 78 j.toNat) else none) ∧ (∀ j v I, sto T 20 78 j v I = if 0 ≤ j ∧ j < 8 then some (mu I 78 j.toNat v) else none) ∧ aln T 20 78 = some 8 :=
  ⟨kT_68 h,
   ev_gi (kT_68 h) rfl,
   ev_pi (kT_68 h) rfl,
   ev_pz0 (kT_68 h) rfl,
   ev_pz1 (kT_68 h) rfl,
   ev_gr (kT_68 h) rfl (kA h (by decide +kernel)) (by decide),
   ev_gr (kT_68 h) rfl (kA h (by decide +kernel)) (by decide),
   ev_gr (kT_68 h) rfl (kA h (by decide +kernel)) (by decide),
   ev_gr (kT_68 h) rfl (kA h (by decide +kernel)) (by decide),
   ev_gr (kT_68 h) rfl (kA h (by decide +kernel)) (by decide),
   ev_gr (kT_68 h) rfl (kA h (by decide +kernel)) (by decide),
   kT_71 h,
   ev_ld (kT_71 h),
   ev_sto (kT_71 h),
   ev_aln (kT_71 h),
   kT_72 h,
   ev_ld (kT_72 h),
   ev_sto (kT_72 h),
   ev_aln (kT_72 h),
   kT_73 h,
   ev_ld (kT_73 h),
   ev_sto (kT_73 h),
   ev_aln (kT_73 h),
   kT_74 h,
   ev_lr (kT_74 h) (fun k hk => kA h (by have : ∀ k < 3, (74, k, 75 + k) ∈ agR := (by decide +kernel); exact this k hk)) (by decide),
   kT_75 h,
   ev_ld (kT_75 h),
   ev_sto (kT_75 h),
   ev_aln (kT_75 h),
   kT_76 h,
   ev_ld (kT_76 h),
   ev_sto (kT_76 h),
   ev_aln (kT_76 h),
   kT_77 h,
   ev_ld (kT_77 h),
   ev_sto (kT_77 h),
   ev_aln (kT_77 h),
   kT_78 h,
   ev_ld (kT_78 h),
   ev_sto (kT_78 h),
   ev_aln (kT_78 h)⟩
theorem agR79 {T : Knd} {A : Rfs} (h : Ag T A) : T 79 = (5, 0) ∧ (∀ k I, gi T 5 k 79 I = some (I 79 k)) ∧ (∀ k v I, pi T 5 k 79 v I = some (mu I 79 k v)) ∧ (∀ k I, pz T 5 k 79 0 I = some (mu I 79 k 0)) ∧ (∀ k I, pz T 5 k 79 1 I = some (mu I 79 k 1)) ∧ gr T A 5 0 79 = some 80 ∧ gr T A 5 1 79 = some 82 ∧ gr T A 5 2 79 = some 83 ∧ gr T A 5 3 79 = some 84 ∧ gr T A 5 4 79 = some 85 ∧ gr T A 5 5 79 = some 89 ∧ T 82 = (20, 8) ∧ (∀ j I, ld T 20 82 j I = if 0 ≤ j ∧ j < 8 then some (I 82 j.toNat) else none) ∧ (∀ j v I, sto T 20 82 j v I = if 0 ≤ j ∧ j < 8 then some (mu I 82 j.toNat v) else none) ∧ aln T 20 82 = some 8 ∧ T 83 = (20, 3) ∧ (∀ j I, ld T 20 83 j I = if 0 ≤ j ∧ j < 3 then some (I 83 j.toNat) else none) ∧ (∀ j v I, sto T 20 83 j v I = if 0 ≤ j ∧ j < 3 then some (mu I 83 j.toNat v) else none) ∧ aln T 20 83 = some 3 ∧ T 84 = (20, 3) ∧ (∀ j I, ld T 20 84 j I = if 0 ≤ j ∧ j < 3 then some (I 84 j.toNat) else none) ∧ (∀ j v I, sto T 20 84 j v I = if 0 ≤ j ∧ j < 3 then some (mu I 84 j.toNat v) else none) ∧ aln T 20 84 = some 3 ∧ T 85 = (24, 3) ∧ (∀ j, lr T A 24 85 j = if 0 ≤ j ∧ j < 3 then some (86 + j.toNat) else none) ∧ T 86 = (20, 8) ∧ (∀ j I, ld T 20 86 j I = if 0 ≤ j ∧ j < 8 then some (I 86 j.toNat) else none) ∧ (∀ j v I, sto T 20 86 j v I = if 0 ≤ j ∧ j < 8 then some (mu I 86 j.toNat v) else none) ∧ aln T 20 86 = some 8 ∧ T 87 = (20, 8) ∧ (∀ j I, ld T 20 87 j I = if 0 ≤ j ∧ j < 8 then some (I 87 j.toNat) else none) ∧ (∀ j v I, sto T 20 87 j v I = if 0 ≤ j ∧ j < 8 then some (mu I 87 j.toNat v) else none) ∧ aln T 20 87 = some 8 ∧ T 88 = (20, 8) ∧ (∀ j I, ld T 20 88 j I = if 0 ≤ j ∧ j < 8 then some (I 88 j.toNat) else none) ∧ (∀ j v I, sto T 20 88 j v I = if 0 ≤ j ∧ j < 8 then some (mu I 88 j.toNat v) else none) ∧ aln T 20 88 = some 8 ∧ T 89 = (20, 8) ∧ (∀ j I, ld T 20 89 j I = if 0 ≤ j ∧ j < 8 then some (I 89 j.toNat) else none) ∧ (∀ j v I, sto T 20 89 j v I = if 0 ≤ j ∧ j < 8 then some (mu I 89 j.toNat v) else none) ∧ aln T 20 89 = some 8 :=
  ⟨kT_79 h,
   ev_gi (kT_79 h) rfl,
   ev_pi (kT_79 h) rfl,
   ev_pz0 (kT_79 h) rfl,
   ev_pz1 (kT_79 h) rfl,
   ev_gr (kT_79 h) rfl (kA h (by decide +kernel)) (by decide),
   ev_gr (kT_79 h) rfl (kA h (by decide +kernel)) (by decide),
   ev_gr (kT_79 h) rfl (kA h (by decide +kernel)) (by decide),
   ev_gr (kT_79 h) rfl (kA h (by decide +kernel)) (by decide),
   ev_gr (kT_79 h) rfl (kA h (by decide +kernel)) (by decide),
   ev_gr (kT_79 h) rfl (kA h (by decide +kernel)) (by decide),
   kT_82 h,
   ev_ld (kT_82 h),
   ev_sto (kT_82 h),
   ev_aln (kT_82 h),
   kT_83 h,
   ev_ld (kT_83 h),
   ev_sto (kT_83 h),
   ev_aln (kT_83 h),
   kT_84 h,
   ev_ld (kT_84 h),
   ev_sto (kT_84 h),
   ev_aln (kT_84 h),
   kT_85 h,
   ev_lr (kT_85 h) (fun k hk => kA h (by have : ∀ k < 3, (85, k, 86 + k) ∈ agR := (by decide +kernel); exact this k hk)) (by decide),
   kT_86 h,
   ev_ld (kT_86 h),
   ev_sto (kT_86 h),
   ev_aln (kT_86 h),
   kT_87 h,
   ev_ld (kT_87 h),
   ev_sto (kT_87 h),
   ev_aln (kT_87 h),
   kT_88 h,
   ev_ld (kT_88 h),
   ev_sto (kT_88 h),
   ev_aln (kT_88 h),
   kT_89 h,
   ev_ld (kT_89 h),
   ev_sto (kT_89 h),
   ev_aln (kT_89 h)⟩
theorem agR90 {T : Knd} {A : Rfs} (h : Ag T A) : T 90 = (5, 0) ∧ (∀ k I, gi T 5 k 90 I = some (I 90 k)) ∧ (∀ k v I, pi T 5 k 90 v I = some (mu I 90 k v)) ∧ (∀ k I, pz T 5 k 90 0 I = some (mu I 90 k 0)) ∧ (∀ k I, pz T 5 k 90 1 I = some (mu I 90 k 1)) ∧ gr T A 5 0 90 = some 91 ∧ gr T A 5 1 90 = some 93 ∧ gr T A 5 2 90 = some 94 ∧ gr T A 5 3 90 = some 95 ∧ gr T A 5 4 90 = some 96 ∧ gr T A 5 5 90 = some 100 ∧ T 93 = (20, 8) ∧ (∀ j I, ld T 20 93 j I = if 0 ≤ j ∧ j < 8 then some (I 93 j.toNat) else none) ∧ (∀ j v I, sto T 20 93 j v I = if 0 ≤ j ∧ j < 8 then some (mu I 93 j.toNat v) else none) ∧ aln T 20 93 = some 8 ∧ T 94 = (20, 3) ∧ (∀ j I, ld T 20 94 j I = if 0 ≤ j ∧ j < 3 then some (I 94 j.toNat) else none) ∧ (∀ j v I, sto T 20 94 j v I = if 0 ≤ j ∧ j < 3 then some (mu I 94 j.toNat v) else none) ∧ aln T 20 94 = some 3 ∧ T 95 = (20, 3) ∧ (∀ j I, ld T 20 95 j I = if 0 ≤ j ∧ j < 3 then some (I 95 j.toNat) else none) ∧ (∀ j v I, sto T 20 95 j v I = if 0 ≤ j ∧ j < 3 then some (mu I 95 j.toNat v) else none) ∧ aln T 20 95 = some 3 ∧ T 96 = (24, 3) ∧ (∀ j, lr T A 24 96 j = if 0 ≤ j ∧ j < 3 then some (97 + j.toNat) else none) ∧ T 97 = (20, 8) ∧ (∀ j I, ld T 20 97 j I = if 0 ≤ j ∧ j < 8 then some (I 97 j.toNat) else none) ∧ (∀ j v I, sto T 20 97 j v I = if 0 ≤ j ∧ j < 8 then some (mu I 97 j.toNat v) else none) ∧ aln T 20 97 = some 8 ∧ T 98 = (20, 8) ∧ (∀ j I, ld T 20 98 j I = if 0 ≤ j ∧ j < 8 then some (I 98 j.toNat) else none) ∧ (∀ j v I, sto T 20 98 j v I = if 0 ≤ j ∧ j < 8 then some (mu I 98 j.toNat v) else none) ∧ aln T 20 98 = some 8 ∧ T 99 = (20, 8) ∧ (∀ j I, ld T 20 99 j I = if 0 ≤ j ∧ j < 8 then some (I 99 j.toNat) else none) ∧ (∀ j v I, sto T 20 99 j v I = if 0 ≤ j ∧ j < 8 then some (mu I 99 j.toNat v) else none) ∧ aln T 20 99 = some 8 ∧ T 100 = (20, 8) ∧ (∀ j I, ld T 20 100 j I = if 0 ≤ j ∧ j < 8 then some (I 100 j.toNat) else none) ∧ (∀ j v I, sto T 20 100 j v I = if 0 ≤ j ∧ j < 8 then some (mu I 100 j.toNat v) else none) ∧ aln T 20 100 = some 8 :=
  ⟨kT_90 h,
   ev_gi (kT_90 h) rfl,
   ev_pi (kT_90 h) rfl,
   ev_pz0 (kT_90 h) rfl,
   ev_pz1 (kT_90 h) rfl,
   ev_gr (kT_90 h) rfl (kA h (by decide +kernel)) (by decide),
   ev_gr (kT_90 h) rfl (kA h (by decide +kernel)) (by decide),
   ev_gr (kT_90 h) rfl (kA h (by decide +kernel)) (by decide),
   ev_gr (kT_90 h) rfl (kA h (by decide +kernel)) (by decide),
   ev_gr (kT_90 h) rfl (kA h (by decide +kernel)) (by decide),
   ev_gr (kT_90 h) rfl (kA h (by decide +kernel)) (by decide),
   kT_93 h,
   ev_ld (kT_93 h),
   ev_sto (kT_93 h),
   ev_aln (kT_93 h),
   kT_94 h,
   ev_ld (kT_94 h),
   ev_sto (kT_94 h),
   ev_aln (kT_94 h),
   kT_95 h,
   ev_ld (kT_95 h),
   ev_sto (kT_95 h),
   ev_aln (kT_95 h),
   kT_96 h,
   ev_lr (kT_96 h) (fun k hk => kA h (by have : ∀ k < 3, (96, k, 97 + k) ∈ agR := (by decide +kernel); exact this k hk)) (by decide),
   kT_97 h,
   ev_ld (kT_97 h),
   ev_sto (kT_97 h),
   ev_aln (kT_97 h),
   kT_98 h,
   ev_ld (kT_98 h),
   ev_sto (kT_98 h),
   ev_aln (kT_98 h),
   kT_99 h,
   ev_ld (kT_99 h),
   ev_sto (kT_99 h),
   ev_aln (kT_99 h),
   kT_100 h,
   ev_ld (kT_100 h),
   ev_sto (kT_100 h),
   ev_aln (kT_100 h)⟩
