/-! The world: objects 1 .. nx at their addresses, told by the memory, the references, the kinds. Kinds below 13 are the classes, by their places in vwCl; 20 int[], 21 long[], 22 byte[], 23 boolean[], 24 int[][], 25 long[][], 26 Plan[]. -/
def ftc : Nat → List Nat := fun c => match c with
  | 0 => [2, 1, 0, 0]
  | 1 => [2, 2, 2]
  | 2 => [0, 0, 0, 0, 0, 0, 0, 2, 2, 2]
  | 3 => [2, 2, 2, 2, 0]
  | 4 => [2, 2, 0, 0]
  | 5 => [2, 2, 2, 2, 2, 2, 0, 0, 0, 0, 0, 0, 0, 0]
  | 6 => [2, 2, 2, 2, 2, 0, 0]
  | 7 => [2, 2, 2]
  | 8 => [2, 0, 0, 0, 0, 0]
  | 9 => [2, 2]
  | 10 => [2, 2, 2, 0, 0, 0, 0]
  | 11 => [2, 2, 2, 2, 2, 2, 2, 2, 2, 2, 2, 2, 2, 2, 2, 0, 0, 0]
  | 12 => [0, 2, 2, 2, 2, 2, 0, 0, 0, 0, 0, 1, 0, 0, 0, 0, 2, 2, 2, 2, 2, 2, 2, 2, 2, 0, 0, 0, 0, 2, 2, 0, 0, 0, 0, 0, 0, 0, 2, 2, 0, 2, 0, 0, 2, 2, 2, 2, 2, 0]
  | _ => []
abbrev iv (z : Int) : Value := .int (Int32.ofInt z)
abbrev jv (z : Int) : Value := .long (Int64.ofInt z)
def ro (ad : Nat → Nat) (k : Nat) : Option Nat := if k = 0 then none else some (ad k)
abbrev rv (ad : Nat → Nat) (k : Nat) : Value := .ref (ad k)
theorem ro_pos {ad : Nat → Nat} {k : Nat} (h : 1 ≤ k) : ro ad k = some (ad k) := if_neg (by omega)
def fv (ad : Nat → Nat) (A : Rfs) (I : Mem) (a k t : Nat) : Value := if t = 0 then iv (I a k) else if t = 1 then jv (I a k) else va_rf (ro ad (A a k))
def flds (ad : Nat → Nat) (A : Rfs) (I : Mem) (c a : Nat) : List Value := (List.range (ftc c).length).map (fun k => fv ad A I a k ((ftc c).getD k 9))
def cont (ad : Nat → Nat) (A : Rfs) (I : Mem) (kd a : Nat) : ((Nat → Int32) ⊕ (Nat → Int64) ⊕ (Nat → UInt32) ⊕ (Nat → UInt64) ⊕ (Nat → Option Nat)) :=
  if kd = 21 then .inr (.inl (fun j => Int64.ofInt (I a j))) else if kd < 24 then .inl (fun j => Int32.ofInt (I a j)) else .inr (.inr (.inr (.inr (fun j => ro ad (A a j)))))
def ent (cA : Nat → ClassId) (ad : Nat → Nat) (T : Knd) (A : Rfs) (I : Mem) (a : Nat) : va_E := if (T a).1 < 13 then .inr ((T a).1, flds ad A I (T a).1 a) else .inl (cA (T a).1, (T a).2, cont ad A I (T a).1 a)
def wl (cA : Nat → ClassId) (ad : Nat → Nat) (T : Knd) (A : Rfs) (nx : Nat) (I : Mem) : va_W := (List.range nx).map (fun i => (ad (i + 1), ent cA ad T A I (i + 1)))
def isL (T : Knd) (a k : Nat) : Bool := (T a).1 == 21 || (ftc (T a).1)[k]? == some 1
def wt (T : Knd) (nx : Nat) (I : Mem) : Prop := (∀ a, (T a).1 < 90 → 1 ≤ a ∧ a ≤ nx) ∧ (∀ a, (T a).2 < 2147483648) ∧ ∀ a k, cl (I a k) ∧ (isL T a k = false → cn (I a k))
def A0 (N : Nat) : Nat → Prop := fun q => N ≤ q
def tyl (cA : Nat → ClassId) : List (ClassId × FieldType) := [(cA 20, .int), (cA 21, .long), (cA 22, .byte), (cA 23, .boolean), (cA 24, .array .int), (cA 25, .array .long), (cA 26, .object RX2)]
def HP (cA : Nat → ClassId) (D : va_G) (ad : Nat → Nat) (T : Knd) (A : Rfs) (nx N : Nat) (I : Mem) (H : Heap) : Prop := va_P D vwCl (wl cA ad T A nx I) H ∧ va_D (A0 N) (wl cA ad T A nx I) ∧ wt T nx I
theorem map_range_set {α : Type} (n k : Nat) (f g : Nat → α) (v : α) (hk : g k = v) (ho : ∀ j, j ≠ k → g j = f j) : ((List.range n).map f).set k v = (List.range n).map g := by
  apply List.ext_getElem?
  intro j
  rw [List.getElem?_set]
  by_cases h : k = j
  · subst h
    by_cases hl : k < n
    · simp [hl, hk]
    · simp [hl]
  · simp only [h, if_false]
    by_cases hl : j < n
    · simp [hl, ho j (Ne.symm h)]
    · simp [hl]
theorem wl_get {cA : Nat → ClassId} {ad : Nat → Nat} {T : Knd} {A : Rfs} {nx a : Nat} {I : Mem} (h1 : 1 ≤ a) (h2 : a ≤ nx) : (wl cA ad T A nx I)[a - 1]? = some (ad a, ent cA ad T A I a) := by
  have e : a - 1 + 1 = a := by omega
  have h : a - 1 < nx := by omega
  simp [wl, h, e]
theorem wl_set {cA : Nat → ClassId} {ad : Nat → Nat} {T : Knd} {A : Rfs} {nx a : Nat} {I I' : Mem} {e : va_E} (h1 : 1 ≤ a) (he : ent cA ad T A I' a = e) (ho : ∀ b, b ≠ a → ent cA ad T A I' b = ent cA ad T A I b) : (wl cA ad T A nx I).set (a - 1) (ad a, e) = wl cA ad T A nx I' := by
  unfold wl
  apply map_range_set
  · have e1 : a - 1 + 1 = a := by omega
    rw [e1, he]
  · intro j hj
    rw [ho (j + 1) (by omega)]
theorem mu_ne {I : Mem} {a k b j : Nat} {v : Int} (h : b ≠ a) : mu I a k v b j = I b j := if_neg (fun q => h q.1)
theorem mu_eq {I : Mem} {a k : Nat} {v : Int} : mu I a k v a k = v := if_pos ⟨rfl, rfl⟩
theorem mu_nk {I : Mem} {a k j : Nat} {v : Int} (h : j ≠ k) : mu I a k v a j = I a j := if_neg (fun q => h q.2)
/-- an object's entry looks at its own places alone -/
theorem ent_congr {cA : Nat → ClassId} {ad : Nat → Nat} {T : Knd} {A : Rfs} {I I' : Mem} {b : Nat} (h : ∀ j, I' b j = I b j) : ent cA ad T A I' b = ent cA ad T A I b := by
  unfold ent flds cont fv
  simp only [h]
theorem ent_cls {cA : Nat → ClassId} {ad : Nat → Nat} {T : Knd} {A : Rfs} {I : Mem} {a c : Nat} (h : (T a).1 = c) (hc : c < 13) : ent cA ad T A I a = .inr (c, flds ad A I c a) := by
  unfold ent
  rw [h, if_pos hc]
theorem ent_i {cA : Nat → ClassId} {ad : Nat → Nat} {T : Knd} {A : Rfs} {I : Mem} {a c : Nat} (h : (T a).1 = c) (hc : c = 20 ∨ c = 22 ∨ c = 23) : ent cA ad T A I a = .inl (cA c, (T a).2, .inl (fun j => Int32.ofInt (I a j))) := by
  unfold ent cont
  rw [h, if_neg (by omega), if_neg (by omega), if_pos (by omega)]
theorem ent_l {cA : Nat → ClassId} {ad : Nat → Nat} {T : Knd} {A : Rfs} {I : Mem} {a : Nat} (h : (T a).1 = 21) : ent cA ad T A I a = .inl (cA 21, (T a).2, .inr (.inl (fun j => Int64.ofInt (I a j)))) := by
  unfold ent cont
  rw [h, if_neg (by omega), if_pos rfl]
theorem ent_r {cA : Nat → ClassId} {ad : Nat → Nat} {T : Knd} {A : Rfs} {I : Mem} {a c : Nat} (h : (T a).1 = c) (hc : 24 ≤ c) : ent cA ad T A I a = .inl (cA c, (T a).2, .inr (.inr (.inr (.inr (fun j => ro ad (A a j)))))) := by
  unfold ent cont
  rw [h, if_neg (by omega), if_neg (by omega), if_neg (by omega)]
theorem flds_get {ad : Nat → Nat} {A : Rfs} {I : Mem} {c a k t : Nat} (h : (ftc c)[k]? = some t) : (flds ad A I c a)[k]? = some (fv ad A I a k t) := by
  have hl := (List.getElem?_eq_some_iff.mp h).1
  have hd : (ftc c).getD k 9 = t := by simp [List.getD, h]
  simp only [flds, List.getElem?_map, List.getElem?_range hl, Option.map_some, hd]
theorem flds_len {ad : Nat → Nat} {A : Rfs} {I : Mem} {c a : Nat} : (flds ad A I c a).length = (ftc c).length := by simp [flds]
theorem flds_set {ad : Nat → Nat} {A : Rfs} {I : Mem} {c a k t : Nat} {z : Int} {v : Value} (h : (ftc c)[k]? = some t) (hv : fv ad A (mu I a k z) a k t = v) : (flds ad A I c a).set k v = flds ad A (mu I a k z) c a := by
  have hd : (ftc c).getD k 9 = t := by simp [List.getD, h]
  unfold flds
  apply map_range_set
  · rw [hd, hv]
  · intro j hj
    unfold fv
    rw [mu_nk hj]
theorem wt_mu {T : Knd} {nx a k : Nat} {I : Mem} {z : Int} (h : wt T nx I) (h1 : cl z) (h2 : isL T a k = false → cn z) : wt T nx (mu I a k z) := by
  refine ⟨h.1, h.2.1, fun b j => ?_⟩
  by_cases e : b = a ∧ j = k
  · obtain ⟨rfl, rfl⟩ := e
    rw [mu_eq]
    exact ⟨h1, h2⟩
  · have e2 : mu I a k z b j = I b j := if_neg e
    rw [e2]
    exact h.2.2 b j
theorem mu_ent {cA : Nat → ClassId} {ad : Nat → Nat} {T : Knd} {A : Rfs} {I : Mem} {a k : Nat} {z : Int} : ∀ b, b ≠ a → ent cA ad T A (mu I a k z) b = ent cA ad T A I b := fun b h => ent_congr (fun j => mu_ne h)
