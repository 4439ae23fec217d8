/-! The meanings of the methods, laid by wip/gen/gen.py out of javap's listing. -/
def f_J7_fill_53178 (T : Knd) (A : Rfs) (w0 : Nat) (a1 : Int) (I : Mem) : Option Mem := (aln T 20 w0).bind fun x1 => it (fun (s4 : Int × Mem) => if s4.1 < x1 then (sto T 20 w0 s4.1 a1 s4.2).bind fun I6 => some (.inl (ia s4.1 1, I6)) else some (.inr s4.2)) FU (0, I)

def f_X8_put (T : Knd) (A : Rfs) (w0 : Nat) (a1 : Int) (I : Mem) : Option Mem := if (T w0).1 = 8 then it (fun (s2 : Int × Mem) => if s2.1 < 0 then some (.inr s2.2) else (gi T 8 1 w0 s2.2).bind fun x4 => (gr T A 8 0 w0).bind fun x6 => (aln T 22 x6).bind fun x7 => if x4 < x7 then (gr T A 8 0 w0).bind fun x9 => (gi T 8 1 w0 s2.2).bind fun x10 => (sto T 22 x9 x10 (i2b (i2b (ishr a1 s2.1))) s2.2).bind fun I12 => (gi T 8 1 w0 I12).bind fun x13 => (pi T 8 1 w0 (ia x13 1) I12).bind fun I15 => some (.inl (ia s2.1 (-8), I15)) else some (.inl (ia s2.1 (-8), s2.2))) FU (24, I) else none
theorem k_X8_put {T : Knd} {A : Rfs} {w0 : Nat} {a1 : Int} {I : Mem} {e : Mem} (h : f_X8_put T A w0 a1 I = some e) : (T w0).1 = 8 := by
  unfold f_X8_put at h
  exact grd_some h

def f_X11_feed (T : Knd) (A : Rfs) (w0 : Nat) (a1 : Int) (a2 : Int) (a3 : Int) (a4 : Int) (a5 : Int) (I : Mem) : Option (Int × Mem) := if (T w0).1 = 11 then (gr T A 11 0 w0).bind fun x1 => (gi T 8 1 x1 I).bind fun x2 => if x2 ≤ 1580 then (gr T A 11 0 w0).bind fun x4 => (f_X8_put T A x4 a1 I).bind fun e5 => (gr T A 11 0 w0).bind fun x7 => (f_X8_put T A x7 a2 e5).bind fun e8 => (gr T A 11 0 w0).bind fun x10 => (f_X8_put T A x10 a3 e8).bind fun e11 => (gr T A 11 0 w0).bind fun x13 => (f_X8_put T A x13 a4 e11).bind fun e14 => (gr T A 11 0 w0).bind fun x16 => (f_X8_put T A x16 a5 e14).bind fun e17 => (gr T A 11 0 w0).bind fun x19 => (gi T 8 1 x19 e17).bind fun x20 => some (x20, e17) else some ((-1), I) else none
theorem k_X11_feed {T : Knd} {A : Rfs} {w0 : Nat} {a1 : Int} {a2 : Int} {a3 : Int} {a4 : Int} {a5 : Int} {I : Mem} {e : (Int × Mem)} (h : f_X11_feed T A w0 a1 a2 a3 a4 a5 I = some e) : (T w0).1 = 11 := by
  unfold f_X11_feed at h
  exact grd_some h

def f_X11_end (T : Knd) (A : Rfs) (w0 : Nat) (a1 : Int) (I : Mem) : Option (Int × Mem) := if (T w0).1 = 11 then if a1 < 0 then some ((-1), I) else (gr T A 11 0 w0).bind fun x1 => (gi T 8 1 x1 I).bind fun x2 => if a1 ≤ x2 then (gr T A 11 0 w0).bind fun x4 => (pi T 8 1 x4 a1 I).bind fun I5 => some (a1, I5) else some ((-1), I) else none
theorem k_X11_end {T : Knd} {A : Rfs} {w0 : Nat} {a1 : Int} {I : Mem} {e : (Int × Mem)} (h : f_X11_end T A w0 a1 I = some e) : (T w0).1 = 11 := by
  unfold f_X11_end at h
  exact grd_some h

def f_X2_clear (T : Knd) (A : Rfs) (w0 : Nat) (I : Mem) : Option Mem := if (T w0).1 = 2 then (pi T 2 0 w0 0 I).bind fun I1 => (pi T 2 1 w0 0 I1).bind fun I2 => (pi T 2 2 w0 0 I2).bind fun I3 => (pi T 2 3 w0 0 I3).bind fun I4 => (pi T 2 4 w0 0 I4).bind fun I5 => (pi T 2 5 w0 0 I5).bind fun I6 => (pi T 2 6 w0 0 I6).bind fun I7 => thn (it (fun (s11 : Int × Mem) => if s11.1 < 11 then (gr T A 2 8 w0).bind fun x13 => (lr T A 24 x13 s11.1).bind fun x14 => (f_J7_fill_53178 T A x14 0 s11.2).bind fun e15 => some (.inl (ia s11.1 1, e15)) else some (.inr (.inl s11.2))) FU (0, I7)) (fun (v9 : Mem) => it (fun (s18 : Int × Mem) => if s18.1 < 6 then (gr T A 2 9 w0).bind fun x20 => (lr T A 24 x20 s18.1).bind fun x21 => (f_J7_fill_53178 T A x21 0 s18.2).bind fun e22 => some (.inl (ia s18.1 1, e22)) else some (.inr s18.2)) FU (0, v9)) else none
theorem k_X2_clear {T : Knd} {A : Rfs} {w0 : Nat} {I : Mem} {e : Mem} (h : f_X2_clear T A w0 I = some e) : (T w0).1 = 2 := by
  unfold f_X2_clear at h
  exact grd_some h

def f_X8_advance (T : Knd) (A : Rfs) (w0 : Nat) (I : Mem) : Option Mem := if (T w0).1 = 8 then (gi T 8 4 w0 I).bind fun x1 => (pi T 8 3 w0 x1 I).bind fun I3 => thn (it (fun (s7 : Mem) => (gi T 8 3 w0 s7).bind fun x8 => (gi T 8 1 w0 s7).bind fun x10 => if x8 < x10 then (gr T A 8 0 w0).bind fun x12 => (gi T 8 3 w0 s7).bind fun x13 => (ld T 22 x12 x13 s7).bind fun x15 => thn (if x15 = 32 then some (.inl ()) else (gr T A 8 0 w0).bind fun x19 => (gi T 8 3 w0 s7).bind fun x20 => (ld T 22 x19 x20 s7).bind fun x22 => if x22 = 10 then some (.inl ()) else some (.inr (.inr (.inl s7)))) (fun (v18 : Unit) => (gi T 8 3 w0 s7).bind fun x24 => (pi T 8 3 w0 (ia x24 1) s7).bind fun I26 => some (.inl I26)) else some (.inr (.inl s7))) FU I3) (fun (v5 : Mem) => (gi T 8 3 w0 v5).bind fun x27 => (pi T 8 4 w0 x27 v5).bind fun I29 => (pi T 8 5 w0 0 I29).bind fun I30 => thn (it (fun (s34 : Mem) => (gi T 8 4 w0 s34).bind fun x35 => (gi T 8 1 w0 s34).bind fun x37 => if x35 < x37 then (gr T A 8 0 w0).bind fun x39 => (gi T 8 4 w0 s34).bind fun x40 => (ld T 22 x39 x40 s34).bind fun x42 => if x42 < 97 then some (.inr (.inl s34)) else (gr T A 8 0 w0).bind fun x44 => (gi T 8 4 w0 s34).bind fun x45 => (ld T 22 x44 x45 s34).bind fun x47 => if x47 ≤ 122 then (gi T 8 4 w0 s34).bind fun x49 => (pi T 8 4 w0 (ia x49 1) s34).bind fun I51 => some (.inl I51) else some (.inr (.inl s34)) else some (.inr (.inl s34))) FU I30) (fun (v32 : Mem) => (gi T 8 4 w0 v32).bind fun x52 => (gi T 8 3 w0 v32).bind fun x54 => if x52 ≤ x54 then thn (it (fun (s59 : Mem) => (gi T 8 4 w0 s59).bind fun x60 => (gi T 8 1 w0 s59).bind fun x62 => if x60 < x62 then (gr T A 8 0 w0).bind fun x64 => (gi T 8 4 w0 s59).bind fun x65 => (ld T 22 x64 x65 s59).bind fun x67 => if x67 < 48 then some (.inr (.inl s59)) else (gr T A 8 0 w0).bind fun x69 => (gi T 8 4 w0 s59).bind fun x70 => (ld T 22 x69 x70 s59).bind fun x72 => if x72 ≤ 57 then (gi T 8 5 w0 s59).bind fun x74 => (gr T A 8 0 w0).bind fun x76 => (gi T 8 4 w0 s59).bind fun x77 => (ld T 22 x76 x77 s59).bind fun x79 => (pi T 8 5 w0 (imin 100000 (isb (ia (im x74 10) x79) 48)) s59).bind fun I81 => (gi T 8 4 w0 I81).bind fun x82 => (pi T 8 4 w0 (ia x82 1) I81).bind fun I84 => some (.inl I84) else some (.inr (.inl s59)) else some (.inr (.inl s59))) FU v32) (fun (v57 : Mem) => (gi T 8 4 w0 v57).bind fun x85 => (gi T 8 3 w0 v57).bind fun x87 => if x85 ≤ x87 then (gi T 8 3 w0 v57).bind fun x89 => (gi T 8 1 w0 v57).bind fun x91 => if x89 < x91 then (gr T A 8 0 w0).bind fun x93 => (gi T 8 3 w0 v57).bind fun x94 => (ld T 22 x93 x94 v57).bind fun x96 => thn (if x96 = 59 then some (.inl 3) else some (.inl 4)) (fun (v99 : Int) => (pi T 8 2 w0 v99 v57).bind fun I101 => (gi T 8 3 w0 I101).bind fun x102 => (pi T 8 4 w0 (ia x102 1) I101).bind fun I104 => some I104) else (pi T 8 2 w0 0 v57).bind fun I105 => some I105 else (pi T 8 2 w0 2 v57).bind fun I106 => some I106) else (pi T 8 2 w0 1 v32).bind fun I107 => some I107)) else none
theorem k_X8_advance {T : Knd} {A : Rfs} {w0 : Nat} {I : Mem} {e : Mem} (h : f_X8_advance T A w0 I = some e) : (T w0).1 = 8 := by
  unfold f_X8_advance at h
  exact grd_some h

def f_X8_rewind (T : Knd) (A : Rfs) (w0 : Nat) (I : Mem) : Option Mem := if (T w0).1 = 8 then (pi T 8 4 w0 0 I).bind fun I1 => (f_X8_advance T A w0 I1).bind fun e2 => some e2 else none
theorem k_X8_rewind {T : Knd} {A : Rfs} {w0 : Nat} {I : Mem} {e : Mem} (h : f_X8_rewind T A w0 I = some e) : (T w0).1 = 8 := by
  unfold f_X8_rewind at h
  exact grd_some h

def f_X4_blame (T : Knd) (A : Rfs) (w0 : Nat) (a1 : Int) (I : Mem) : Option (Int × Mem) := if (T w0).1 = 4 then (pi T 4 2 w0 a1 I).bind fun I1 => (gr T A 4 0 w0).bind fun x2 => (gi T 8 3 x2 I1).bind fun x3 => (pi T 4 3 w0 x3 I1).bind fun I5 => some (0, I5) else none
theorem k_X4_blame {T : Knd} {A : Rfs} {w0 : Nat} {a1 : Int} {I : Mem} {e : (Int × Mem)} (h : f_X4_blame T A w0 a1 I = some e) : (T w0).1 = 4 := by
  unfold f_X4_blame at h
  exact grd_some h

def f_X4_takeNumber (T : Knd) (A : Rfs) (w0 : Nat) (a1 : Int) (a2 : Int) (I : Mem) : Option (Int × Mem) := if (T w0).1 = 4 then (gi T 4 2 w0 I).bind fun x1 => if x1 = 0 then (gr T A 4 0 w0).bind fun x3 => (gi T 8 2 x3 I).bind fun x4 => if x4 = 2 then (gr T A 4 0 w0).bind fun x6 => (gi T 8 5 x6 I).bind fun x7 => thn (if x7 < a1 then some (.inl ()) else (gr T A 4 0 w0).bind fun x11 => (gi T 8 5 x11 I).bind fun x12 => if x12 ≤ a2 then (gr T A 4 0 w0).bind fun x14 => (gi T 8 5 x14 I).bind fun x15 => (gr T A 4 0 w0).bind fun x17 => (f_X8_advance T A x17 I).bind fun e18 => some (.inr (x15, e18)) else some (.inl ())) (fun (v10 : Unit) => (f_X4_blame T A w0 2 I).bind fun e20 => some (e20.1, e20.2)) else (f_X4_blame T A w0 1 I).bind fun e23 => some (e23.1, e23.2) else some (0, I) else none
theorem k_X4_takeNumber {T : Knd} {A : Rfs} {w0 : Nat} {a1 : Int} {a2 : Int} {I : Mem} {e : (Int × Mem)} (h : f_X4_takeNumber T A w0 a1 a2 I = some e) : (T w0).1 = 4 := by
  unfold f_X4_takeNumber at h
  exact grd_some h

def f_X4_tell (T : Knd) (A : Rfs) (w0 : Nat) (a1 : Int) (a2 : Int) (I : Mem) : Option Mem := if (T w0).1 = 4 then (gr T A 4 1 w0).bind fun x1 => (gi T 2 4 x1 I).bind fun x2 => if x2 < 8 then (gr T A 4 1 w0).bind fun x4 => (gr T A 2 8 x4).bind fun x5 => (lr T A 24 x5 a1).bind fun x6 => (gr T A 4 1 w0).bind fun x7 => (gi T 2 4 x7 I).bind fun x8 => (sto T 20 x6 x8 a2 I).bind fun I10 => some I10 else some I else none
theorem k_X4_tell {T : Knd} {A : Rfs} {w0 : Nat} {a1 : Int} {a2 : Int} {I : Mem} {e : Mem} (h : f_X4_tell T A w0 a1 a2 I = some e) : (T w0).1 = 4 := by
  unfold f_X4_tell at h
  exact grd_some h

def f_X11_hasBit (T : Knd) (A : Rfs) (a0 : Int) (a1 : Int) (I : Mem) : Option Int := if (iand (ishr a0 a1) 1) = 0 then some 0 else some 1

def f_X4_takeNumberBut (T : Knd) (A : Rfs) (w0 : Nat) (a1 : Int) (a2 : Int) (I : Mem) : Option (Int × Mem) := if (T w0).1 = 4 then (gr T A 4 0 w0).bind fun x1 => (gi T 8 2 x1 I).bind fun x2 => thn (thn (if x2 = 2 then (gr T A 4 0 w0).bind fun x9 => (gi T 8 5 x9 I).bind fun x10 => if x10 ≤ a2 then some (.inr (.inl 1)) else some (.inl ()) else some (.inl ())) (fun (v8 : Unit) => some (.inl 0))) (fun (v5 : Int) => (gi T 4 2 w0 I).bind fun x12 => thn (if x12 = 0 then if v5 = 0 then some (.inl ()) else (gr T A 4 0 w0).bind fun x16 => (gi T 8 5 x16 I).bind fun x17 => (f_X11_hasBit T A a1 x17 I).bind fun e19 => if e19 = 0 then some (.inl ()) else (f_X4_blame T A w0 2 I).bind fun e22 => some (.inr (e22.1, e22.2)) else some (.inl ())) (fun (v15 : Unit) => (f_X4_takeNumber T A w0 0 a2 I).bind fun e25 => some (e25.1, e25.2))) else none
theorem k_X4_takeNumberBut {T : Knd} {A : Rfs} {w0 : Nat} {a1 : Int} {a2 : Int} {I : Mem} {e : (Int × Mem)} (h : f_X4_takeNumberBut T A w0 a1 a2 I = some e) : (T w0).1 = 4 := by
  unfold f_X4_takeNumberBut at h
  exact grd_some h

def f_X4_readWay (T : Knd) (A : Rfs) (w0 : Nat) (I : Mem) : Option Mem := if (T w0).1 = 4 then (gr T A 4 0 w0).bind fun x1 => (f_X8_advance T A x1 I).bind fun e2 => (gr T A 4 1 w0).bind fun x4 => (gi T 2 1 x4 e2).bind fun x5 => (f_X4_takeNumber T A w0 0 (isb x5 1) e2).bind fun e7 => (gr T A 4 1 w0).bind fun x10 => (gi T 2 1 x10 e7.2).bind fun x11 => (f_X4_takeNumberBut T A w0 (ishl 1 e7.1) (isb x11 1) e7.2).bind fun e13 => (f_X4_takeNumber T A w0 1 9 e13.2).bind fun e16 => (gi T 4 2 w0 e16.2).bind fun x19 => if x19 = 0 then (gr T A 4 1 w0).bind fun x21 => (gr T A 2 9 x21).bind fun x22 => (lr T A 24 x22 e7.1).bind fun x23 => (sto T 20 x23 e13.1 e16.1 e16.2).bind fun I24 => (gr T A 4 1 w0).bind fun x25 => (gr T A 2 9 x25).bind fun x26 => (lr T A 24 x26 e13.1).bind fun x27 => (sto T 20 x27 e7.1 e16.1 I24).bind fun I28 => some I28 else some e16.2 else none
theorem k_X4_readWay {T : Knd} {A : Rfs} {w0 : Nat} {I : Mem} {e : Mem} (h : f_X4_readWay T A w0 I = some e) : (T w0).1 = 4 := by
  unfold f_X4_readWay at h
  exact grd_some h

def f_X4_readAsking (T : Knd) (A : Rfs) (w0 : Nat) (a1 : Int) (I : Mem) : Option Mem := if (T w0).1 = 4 then (gr T A 4 0 w0).bind fun x1 => (f_X8_advance T A x1 I).bind fun e2 => (gr T A 4 1 w0).bind fun x4 => (gi T 2 4 x4 e2).bind fun x5 => (f_X4_takeNumber T A w0 0 (isb x5 1) e2).bind fun e7 => (gr T A 4 1 w0).bind fun x10 => (gr T A 2 8 x10).bind fun x11 => (lr T A 24 x11 a1).bind fun x12 => (ld T 20 x12 e7.1 e7.2).bind fun x13 => (gr T A 4 1 w0).bind fun x15 => (gi T 2 4 x15 e7.2).bind fun x16 => (f_X4_takeNumberBut T A w0 (ior (ishl 1 e7.1) x13) (isb x16 1) e7.2).bind fun e18 => (gi T 4 2 w0 e18.2).bind fun x21 => if x21 = 0 then (gr T A 4 1 w0).bind fun x23 => (gr T A 2 8 x23).bind fun x24 => (lr T A 24 x24 a1).bind fun x25 => (ld T 20 x25 e7.1 e18.2).bind fun x26 => (sto T 20 x25 e7.1 (ior x26 (ishl 1 e18.1)) e18.2).bind fun I28 => some I28 else some e18.2 else none
theorem k_X4_readAsking {T : Knd} {A : Rfs} {w0 : Nat} {a1 : Int} {I : Mem} {e : Mem} (h : f_X4_readAsking T A w0 a1 I = some e) : (T w0).1 = 4 := by
  unfold f_X4_readAsking at h
  exact grd_some h

def f_X4_readPermit (T : Knd) (A : Rfs) (w0 : Nat) (I : Mem) : Option Mem := if (T w0).1 = 4 then (gr T A 4 0 w0).bind fun x1 => (f_X8_advance T A x1 I).bind fun e2 => (gr T A 4 1 w0).bind fun x4 => (gi T 2 4 x4 e2).bind fun x5 => (f_X4_takeNumber T A w0 0 (isb x5 1) e2).bind fun e7 => thn (it (fun (s14 : Int × Int × Mem) => if s14.2.1 < 1600 then (gi T 4 2 w0 s14.2.2).bind fun x17 => if x17 = 0 then (gr T A 4 0 w0).bind fun x19 => (gi T 8 2 x19 s14.2.2).bind fun x20 => if x20 = 2 then (gr T A 4 1 w0).bind fun x22 => (gi T 2 4 x22 s14.2.2).bind fun x23 => (f_X4_takeNumber T A w0 0 (isb x23 1) s14.2.2).bind fun e25 => some (.inl (ior s14.1 (ishl 1 e25.1), ia s14.2.1 1, e25.2)) else some (.inr (.inl (s14.1, s14.2.2))) else some (.inr (.inl (s14.1, s14.2.2))) else some (.inr (.inl (s14.1, s14.2.2)))) FU (ishl 1 e7.1, 0, e7.2)) (fun (v11 : Int × Mem) => (gr T A 4 1 w0).bind fun x28 => (pi T 2 5 x28 v11.1 v11.2).bind fun I29 => some I29) else none
theorem k_X4_readPermit {T : Knd} {A : Rfs} {w0 : Nat} {I : Mem} {e : Mem} (h : f_X4_readPermit T A w0 I = some e) : (T w0).1 = 4 := by
  unfold f_X4_readPermit at h
  exact grd_some h

def f_X4_takeSign (T : Knd) (A : Rfs) (w0 : Nat) (I : Mem) : Option Mem := if (T w0).1 = 4 then (gi T 4 2 w0 I).bind fun x1 => if x1 = 0 then (gr T A 4 0 w0).bind fun x3 => (gi T 8 2 x3 I).bind fun x4 => if x4 = 3 then (gr T A 4 0 w0).bind fun x6 => (f_X8_advance T A x6 I).bind fun e7 => (gr T A 4 1 w0).bind fun x9 => (gi T 2 0 x9 e7).bind fun x10 => (pi T 2 0 x9 (ia x10 1) e7).bind fun I12 => some I12 else (f_X4_blame T A w0 1 I).bind fun e13 => some e13.2 else some I else none
theorem k_X4_takeSign {T : Knd} {A : Rfs} {w0 : Nat} {I : Mem} {e : Mem} (h : f_X4_takeSign T A w0 I = some e) : (T w0).1 = 4 := by
  unfold f_X4_takeSign at h
  exact grd_some h

def f_X2_copyFrom (T : Knd) (A : Rfs) (w0 : Nat) (w1 : Nat) (I : Mem) : Option Mem := if (T w0).1 = 2 then (gi T 2 0 w1 I).bind fun x1 => (pi T 2 0 w0 x1 I).bind fun I3 => (gi T 2 1 w1 I3).bind fun x4 => (pi T 2 1 w0 x4 I3).bind fun I6 => (gi T 2 2 w1 I6).bind fun x7 => (pi T 2 2 w0 x7 I6).bind fun I9 => (gi T 2 3 w1 I9).bind fun x10 => (pi T 2 3 w0 x10 I9).bind fun I12 => (gi T 2 4 w1 I12).bind fun x13 => (pi T 2 4 w0 x13 I12).bind fun I15 => (gi T 2 5 w1 I15).bind fun x16 => (pi T 2 5 w0 x16 I15).bind fun I18 => (gi T 2 6 w1 I18).bind fun x19 => (pi T 2 6 w0 x19 I18).bind fun I21 => (gr T A 2 7 w1).bind fun x22 => (gr T A 2 7 w0).bind fun x23 => (acp T 20 x22 0 x23 0 40 I21).bind fun I24 => thn (it (fun (s28 : Int × Mem) => if s28.1 < 11 then (gr T A 2 8 w1).bind fun x30 => (lr T A 24 x30 s28.1).bind fun x31 => (gr T A 2 8 w0).bind fun x32 => (lr T A 24 x32 s28.1).bind fun x33 => (acp T 20 x31 0 x33 0 8 s28.2).bind fun I34 => some (.inl (ia s28.1 1, I34)) else some (.inr (.inl s28.2))) FU (0, I24)) (fun (v26 : Mem) => it (fun (s36 : Int × Mem) => if s36.1 < 6 then (gr T A 2 9 w1).bind fun x38 => (lr T A 24 x38 s36.1).bind fun x39 => (gr T A 2 9 w0).bind fun x40 => (lr T A 24 x40 s36.1).bind fun x41 => (acp T 20 x39 0 x41 0 6 s36.2).bind fun I42 => some (.inl (ia s36.1 1, I42)) else some (.inr s36.2)) FU (0, v26)) else none
theorem k_X2_copyFrom {T : Knd} {A : Rfs} {w0 : Nat} {w1 : Nat} {I : Mem} {e : Mem} (h : f_X2_copyFrom T A w0 w1 I = some e) : (T w0).1 = 2 := by
  unfold f_X2_copyFrom at h
  exact grd_some h

def f_X9_layWays (T : Knd) (A : Rfs) (w0 : Nat) (w1 : Nat) (I : Mem) : Option Mem := if (T w0).1 = 9 then it (fun (s2 : Int × Mem) => (gi T 2 1 w1 s2.2).bind fun x4 => if s2.1 < x4 then thn (it (fun (s9 : Int × Mem) => (gi T 2 1 w1 s9.2).bind fun x11 => if s9.1 < x11 then (gr T A 9 0 w0).bind fun x13 => (lr T A 24 x13 s2.1).bind fun x14 => (gr T A 2 9 w1).bind fun x15 => (lr T A 24 x15 s2.1).bind fun x16 => (ld T 20 x16 s9.1 s9.2).bind fun x17 => thn (if x17 ≤ 0 then some (.inl (-1)) else (gr T A 2 9 w1).bind fun x22 => (lr T A 24 x22 s2.1).bind fun x23 => (ld T 20 x23 s9.1 s9.2).bind fun x24 => some (.inl x24)) (fun (v20 : Int) => (sto T 20 x14 s9.1 v20 s9.2).bind fun I26 => some (.inl (ia s9.1 1, I26))) else some (.inr (.inl s9.2))) FU (0, s2.2)) (fun (v7 : Mem) => (gr T A 9 0 w0).bind fun x27 => (lr T A 24 x27 s2.1).bind fun x28 => (sto T 20 x28 s2.1 0 v7).bind fun I29 => some (.inl (ia s2.1 1, I29))) else some (.inr s2.2)) FU (0, I) else none
theorem k_X9_layWays {T : Knd} {A : Rfs} {w0 : Nat} {w1 : Nat} {I : Mem} {e : Mem} (h : f_X9_layWays T A w0 w1 I = some e) : (T w0).1 = 9 := by
  unfold f_X9_layWays at h
  exact grd_some h

def f_X9_shorten (T : Knd) (A : Rfs) (w0 : Nat) (a1 : Int) (a2 : Int) (a3 : Int) (I : Mem) : Option Mem := if (T w0).1 = 9 then (gr T A 9 0 w0).bind fun x1 => (lr T A 24 x1 a1).bind fun x2 => (ld T 20 x2 a2 I).bind fun x3 => if x3 = (-1) then some I else (gr T A 9 0 w0).bind fun x5 => (lr T A 24 x5 a2).bind fun x6 => (ld T 20 x6 a3 I).bind fun x7 => if x7 = (-1) then some I else (gr T A 9 0 w0).bind fun x9 => (lr T A 24 x9 a1).bind fun x10 => (ld T 20 x10 a2 I).bind fun x11 => (gr T A 9 0 w0).bind fun x13 => (lr T A 24 x13 a2).bind fun x14 => (ld T 20 x14 a3 I).bind fun x15 => (gr T A 9 0 w0).bind fun x17 => (lr T A 24 x17 a1).bind fun x18 => (ld T 20 x18 a3 I).bind fun x19 => thn (if x19 = (-1) then some (.inl ()) else (gr T A 9 0 w0).bind fun x23 => (lr T A 24 x23 a1).bind fun x24 => (ld T 20 x24 a3 I).bind fun x25 => if x25 ≤ (ia x11 x15) then some (.inr I) else some (.inl ())) (fun (v22 : Unit) => (gr T A 9 0 w0).bind fun x27 => (lr T A 24 x27 a1).bind fun x28 => (sto T 20 x28 a3 (ia x11 x15) I).bind fun I29 => some I29) else none
theorem k_X9_shorten {T : Knd} {A : Rfs} {w0 : Nat} {a1 : Int} {a2 : Int} {a3 : Int} {I : Mem} {e : Mem} (h : f_X9_shorten T A w0 a1 a2 a3 I = some e) : (T w0).1 = 9 := by
  unfold f_X9_shorten at h
  exact grd_some h

def f_X9_shortenWalks (T : Knd) (A : Rfs) (w0 : Nat) (a1 : Int) (I : Mem) : Option Mem := if (T w0).1 = 9 then it (fun (s2 : Int × Mem) => if s2.1 < a1 then it (fun (s5 : Int × Mem) => if s5.1 < a1 then it (fun (s8 : Int × Mem) => if s8.1 < a1 then (f_X9_shorten T A w0 s5.1 s2.1 s8.1 s8.2).bind fun e10 => some (.inl (ia s8.1 1, e10)) else some (.inr (.inl (ia s5.1 1, s8.2)))) FU (0, s5.2) else some (.inr (.inl (ia s2.1 1, s5.2)))) FU (0, s2.2) else some (.inr s2.2)) FU (0, I) else none
theorem k_X9_shortenWalks {T : Knd} {A : Rfs} {w0 : Nat} {a1 : Int} {I : Mem} {e : Mem} (h : f_X9_shortenWalks T A w0 a1 I = some e) : (T w0).1 = 9 := by
  unfold f_X9_shortenWalks at h
  exact grd_some h

def f_X2_hasOfficial (T : Knd) (A : Rfs) (w0 : Nat) (a1 : Int) (I : Mem) : Option Int := if (T w0).1 = 2 then if a1 < 0 then some 0 else (gi T 2 4 w0 I).bind fun x1 => if a1 < x1 then if a1 < 8 then some 1 else some 0 else some 0 else none
theorem k_X2_hasOfficial {T : Knd} {A : Rfs} {w0 : Nat} {a1 : Int} {I : Mem} {e : Int} (h : f_X2_hasOfficial T A w0 a1 I = some e) : (T w0).1 = 2 := by
  unfold f_X2_hasOfficial at h
  exact grd_some h

def f_X2_isOffered (T : Knd) (A : Rfs) (w0 : Nat) (a1 : Int) (a2 : Int) (I : Mem) : Option Int := if (T w0).1 = 2 then (f_X2_hasOfficial T A w0 a1 I).bind fun e1 => if e1 = 0 then some 0 else if a2 < 0 then some 0 else (dvz 10).bind fun _ => (gr T A 2 8 w0).bind fun x4 => (lr T A 24 x4 3).bind fun x5 => (ld T 20 x5 a1 I).bind fun x6 => (dvz 10).bind fun _ => (dvz 5).bind fun _ => (f_X11_hasBit T A x6 (irm (idv a2 10) 5) I).bind fun e8 => if e8 = 0 then some 0 else (gr T A 2 8 w0).bind fun x11 => (lr T A 24 x11 1).bind fun x12 => (ld T 20 x12 a1 I).bind fun x13 => if (irm a2 10) < x13 then some 0 else (gr T A 2 8 w0).bind fun x15 => (lr T A 24 x15 2).bind fun x16 => (ld T 20 x16 a1 I).bind fun x17 => if (irm a2 10) ≤ x17 then (gr T A 2 8 w0).bind fun x19 => (lr T A 24 x19 4).bind fun x20 => (ld T 20 x20 a1 I).bind fun x21 => if (irm a2 10) = x21 then some 0 else some 1 else some 0 else none
theorem k_X2_isOffered {T : Knd} {A : Rfs} {w0 : Nat} {a1 : Int} {a2 : Int} {I : Mem} {e : Int} (h : f_X2_isOffered T A w0 a1 a2 I = some e) : (T w0).1 = 2 := by
  unfold f_X2_isOffered at h
  exact grd_some h

def f_X2_isOpen (T : Knd) (A : Rfs) (w0 : Nat) (a1 : Int) (a2 : Int) (I : Mem) : Option Int := if (T w0).1 = 2 then (f_X2_hasOfficial T A w0 a1 I).bind fun e1 => if e1 = 0 then some 0 else (dvz 10).bind fun _ => (gr T A 2 8 w0).bind fun x4 => (lr T A 24 x4 7).bind fun x5 => (ld T 20 x5 a1 I).bind fun x6 => thn (thn (if (idv a2 10) < x6 then some (.inl ()) else (gr T A 2 8 w0).bind fun x13 => (lr T A 24 x13 8).bind fun x14 => (ld T 20 x14 a1 I).bind fun x15 => if (idv a2 10) ≤ x15 then some (.inr (.inl 1)) else some (.inl ())) (fun (v12 : Unit) => some (.inl 0))) (fun (v9 : Int) => if v9 = 0 then (f_X2_isOffered T A w0 a1 a2 I).bind fun e17 => if e17 = 0 then some 0 else some 1 else some 0) else none
theorem k_X2_isOpen {T : Knd} {A : Rfs} {w0 : Nat} {a1 : Int} {a2 : Int} {I : Mem} {e : Int} (h : f_X2_isOpen T A w0 a1 a2 I = some e) : (T w0).1 = 2 := by
  unfold f_X2_isOpen at h
  exact grd_some h

def f_X9_drawUp (T : Knd) (A : Rfs) (w0 : Nat) (w1 : Nat) (I : Mem) : Option Mem := if (T w0).1 = 9 then (f_X9_layWays T A w0 w1 I).bind fun e1 => (gi T 2 1 w1 e1).bind fun x3 => (f_X9_shortenWalks T A w0 x3 e1).bind fun e5 => it (fun (s8 : Int × Mem) => (gi T 2 4 w1 s8.2).bind fun x10 => if s8.1 < x10 then it (fun (s13 : Int × Int × Mem) => if s13.2.1 < 0 then some (.inr (.inl (ia s8.1 1, s13.2.2))) else (f_X2_isOpen T A w1 s8.1 s13.2.1 s13.2.2).bind fun e16 => thn (if e16 = 0 then some (.inl s13.1) else some (.inl s13.2.1)) (fun (v20 : Int) => (gr T A 9 1 w0).bind fun x22 => (lr T A 24 x22 s8.1).bind fun x23 => (sto T 20 x23 s13.2.1 v20 s13.2.2).bind fun I24 => some (.inl (v20, ia s13.2.1 (-1), I24)))) FU ((-1), 399, s8.2) else some (.inr s8.2)) FU (0, e5) else none
theorem k_X9_drawUp {T : Knd} {A : Rfs} {w0 : Nat} {w1 : Nat} {I : Mem} {e : Mem} (h : f_X9_drawUp T A w0 w1 I = some e) : (T w0).1 = 9 := by
  unfold f_X9_drawUp at h
  exact grd_some h

def f_X10_beginAt (T : Knd) (A : Rfs) (w0 : Nat) (a1 : Int) (I : Mem) : Option Mem := if (T w0).1 = 10 then (pi T 10 3 w0 a1 I).bind fun I1 => (gr T A 10 0 w0).bind fun x2 => (gi T 2 2 x2 I1).bind fun x3 => (pi T 10 4 w0 x3 I1).bind fun I5 => (pi T 10 5 w0 0 I5).bind fun I6 => (pi T 10 6 w0 0 I6).bind fun I7 => (gr T A 10 2 w0).bind fun x8 => (f_J7_fill_53178 T A x8 (-1) I7).bind fun e9 => some e9 else none
theorem k_X10_beginAt {T : Knd} {A : Rfs} {w0 : Nat} {a1 : Int} {I : Mem} {e : Mem} (h : f_X10_beginAt T A w0 a1 I = some e) : (T w0).1 = 10 := by
  unfold f_X10_beginAt at h
  exact grd_some h

def f_X9_hoursBetween (T : Knd) (A : Rfs) (w0 : Nat) (a1 : Int) (a2 : Int) (I : Mem) : Option Int := if (T w0).1 = 9 then if a1 < 0 then some (-1) else if a1 < 6 then if a2 < 0 then some (-1) else if a2 < 6 then (gr T A 9 0 w0).bind fun x1 => (lr T A 24 x1 a1).bind fun x2 => (ld T 20 x2 a2 I).bind fun x3 => some x3 else some (-1) else some (-1) else none
theorem k_X9_hoursBetween {T : Knd} {A : Rfs} {w0 : Nat} {a1 : Int} {a2 : Int} {I : Mem} {e : Int} (h : f_X9_hoursBetween T A w0 a1 a2 I = some e) : (T w0).1 = 9 := by
  unfold f_X9_hoursBetween at h
  exact grd_some h

def f_X10_arrival (T : Knd) (A : Rfs) (w0 : Nat) (a1 : Int) (I : Mem) : Option Int := if (T w0).1 = 10 then (gr T A 10 0 w0).bind fun x1 => (f_X2_hasOfficial T A x1 a1 I).bind fun e2 => if e2 = 0 then some (-1) else (gr T A 10 1 w0).bind fun x5 => (gi T 10 4 w0 I).bind fun x6 => (gr T A 10 0 w0).bind fun x8 => (gr T A 2 8 x8).bind fun x9 => (lr T A 24 x9 0).bind fun x10 => (ld T 20 x10 a1 I).bind fun x11 => (f_X9_hoursBetween T A x5 x6 x11 I).bind fun e13 => if e13 = (-1) then some (-1) else (gi T 10 3 w0 I).bind fun x16 => some (ia x16 e13) else none
theorem k_X10_arrival {T : Knd} {A : Rfs} {w0 : Nat} {a1 : Int} {I : Mem} {e : Int} (h : f_X10_arrival T A w0 a1 I = some e) : (T w0).1 = 10 := by
  unfold f_X10_arrival at h
  exact grd_some h

def f_X10_lastHeld (T : Knd) (A : Rfs) (w0 : Nat) (a1 : Int) (I : Mem) : Option Int := if (T w0).1 = 10 then if a1 < 0 then some (-1) else if a1 < 8 then (gr T A 10 2 w0).bind fun x1 => (ld T 20 x1 a1 I).bind fun x2 => some x2 else some (-1) else none
theorem k_X10_lastHeld {T : Knd} {A : Rfs} {w0 : Nat} {a1 : Int} {I : Mem} {e : Int} (h : f_X10_lastHeld T A w0 a1 I = some e) : (T w0).1 = 10 := by
  unfold f_X10_lastHeld at h
  exact grd_some h

def f_X10_holds (T : Knd) (A : Rfs) (w0 : Nat) (a1 : Int) (I : Mem) : Option Int := if (T w0).1 = 10 then (f_X10_lastHeld T A w0 a1 I).bind fun e1 => (gi T 10 3 w0 I).bind fun x4 => if e1 < x4 then some 0 else some 1 else none
theorem k_X10_holds {T : Knd} {A : Rfs} {w0 : Nat} {a1 : Int} {I : Mem} {e : Int} (h : f_X10_holds T A w0 a1 I = some e) : (T w0).1 = 10 := by
  unfold f_X10_holds at h
  exact grd_some h

def f_X10_unbarred (T : Knd) (A : Rfs) (w0 : Nat) (a1 : Int) (a2 : Int) (I : Mem) : Option Int := if (T w0).1 = 10 then (gr T A 10 0 w0).bind fun x1 => (f_X2_hasOfficial T A x1 a1 I).bind fun e2 => thn (if e2 = 0 then some (.inl 0) else (gr T A 10 0 w0).bind fun x8 => (gr T A 2 8 x8).bind fun x9 => (lr T A 24 x9 10).bind fun x10 => (ld T 20 x10 a1 I).bind fun x11 => some (.inl x11)) (fun (v6 : Int) => it (fun (s14 : Int × Int) => if s14.2 < 8 then if (ishr v6 s14.2) = 0 then some (.inr s14.1) else (f_X11_hasBit T A v6 s14.2 I).bind fun e17 => if e17 = 0 then some (.inl (s14.1, ia s14.2 1)) else (gr T A 10 2 w0).bind fun x20 => (ld T 20 x20 s14.2 I).bind fun x21 => some (.inl (imax s14.1 (ia x21 1), ia s14.2 1)) else some (.inr s14.1)) FU (a2, 0)) else none
theorem k_X10_unbarred {T : Knd} {A : Rfs} {w0 : Nat} {a1 : Int} {a2 : Int} {I : Mem} {e : Int} (h : f_X10_unbarred T A w0 a1 a2 I = some e) : (T w0).1 = 10 := by
  unfold f_X10_unbarred at h
  exact grd_some h

def f_X9_firstOpen (T : Knd) (A : Rfs) (w0 : Nat) (a1 : Int) (a2 : Int) (I : Mem) : Option Int := if (T w0).1 = 9 then if a1 < 0 then some (-1) else if a1 < 8 then if a2 < 0 then some (-1) else if a2 < 400 then (gr T A 9 1 w0).bind fun x1 => (lr T A 24 x1 a1).bind fun x2 => (ld T 20 x2 a2 I).bind fun x3 => some x3 else some (-1) else some (-1) else none
theorem k_X9_firstOpen {T : Knd} {A : Rfs} {w0 : Nat} {a1 : Int} {a2 : Int} {I : Mem} {e : Int} (h : f_X9_firstOpen T A w0 a1 a2 I = some e) : (T w0).1 = 9 := by
  unfold f_X9_firstOpen at h
  exact grd_some h

def f_X10_supported (T : Knd) (A : Rfs) (w0 : Nat) (a1 : Int) (I : Mem) : Option Int := if (T w0).1 = 10 then (gr T A 10 0 w0).bind fun x1 => (f_X2_hasOfficial T A x1 a1 I).bind fun e2 => thn (if e2 = 0 then some (.inl 0) else (gr T A 10 0 w0).bind fun x8 => (gr T A 2 8 x8).bind fun x9 => (lr T A 24 x9 9).bind fun x10 => (ld T 20 x10 a1 I).bind fun x11 => some (.inl x11)) (fun (v6 : Int) => it (fun (s14 : Int × Int) => if s14.2 < 8 then if (ishr v6 s14.2) = 0 then some (.inr s14.1) else (f_X11_hasBit T A v6 s14.2 I).bind fun e17 => if e17 = 0 then some (.inl (s14.1, ia s14.2 1)) else (gr T A 10 2 w0).bind fun x20 => (ld T 20 x20 s14.2 I).bind fun x21 => some (.inl (imin s14.1 x21, ia s14.2 1)) else some (.inr s14.1)) FU (399, 0)) else none
theorem k_X10_supported {T : Knd} {A : Rfs} {w0 : Nat} {a1 : Int} {I : Mem} {e : Int} (h : f_X10_supported T A w0 a1 I = some e) : (T w0).1 = 10 := by
  unfold f_X10_supported at h
  exact grd_some h

def f_X10_stampHour (T : Knd) (A : Rfs) (w0 : Nat) (a1 : Int) (I : Mem) : Option Int := if (T w0).1 = 10 then (f_X10_arrival T A w0 a1 I).bind fun e1 => if e1 = (-1) then some (-1) else (f_X10_holds T A w0 a1 I).bind fun e4 => if e4 = 0 then (gr T A 10 1 w0).bind fun x7 => (f_X10_unbarred T A w0 a1 e1 I).bind fun e8 => (f_X9_firstOpen T A x7 a1 e8 I).bind fun e11 => (f_X10_supported T A w0 a1 I).bind fun e14 => if e11 ≤ e14 then some e11 else some (-1) else some (-1) else none
theorem k_X10_stampHour {T : Knd} {A : Rfs} {w0 : Nat} {a1 : Int} {I : Mem} {e : Int} (h : f_X10_stampHour T A w0 a1 I = some e) : (T w0).1 = 10 := by
  unfold f_X10_stampHour at h
  exact grd_some h

def f_X10_stampIn (T : Knd) (A : Rfs) (w0 : Nat) (a1 : Int) (a2 : Int) (I : Mem) : Option Mem := if (T w0).1 = 10 then (gr T A 10 0 w0).bind fun x1 => (f_X2_hasOfficial T A x1 a1 I).bind fun e2 => if e2 = 0 then some I else if a2 = (-1) then some I else (gr T A 10 0 w0).bind fun x5 => (gr T A 2 8 x5).bind fun x6 => (lr T A 24 x6 0).bind fun x7 => (ld T 20 x7 a1 I).bind fun x8 => (gr T A 10 0 w0).bind fun x10 => (gr T A 2 8 x10).bind fun x11 => (lr T A 24 x11 5).bind fun x12 => (ld T 20 x12 a1 I).bind fun x13 => (gi T 10 5 w0 I).bind fun x15 => (gr T A 10 1 w0).bind fun x17 => (gi T 10 4 w0 I).bind fun x18 => (f_X9_hoursBetween T A x17 x18 x8 I).bind fun e20 => (pi T 10 5 w0 (ia x15 e20) I).bind fun I23 => (gi T 10 6 w0 I23).bind fun x24 => (gr T A 10 0 w0).bind fun x26 => (gr T A 2 8 x26).bind fun x27 => (lr T A 24 x27 6).bind fun x28 => (ld T 20 x28 a1 I23).bind fun x29 => (pi T 10 6 w0 (ia x24 x29) I23).bind fun I31 => (gr T A 10 2 w0).bind fun x32 => thn (if x13 = (-1) then some (.inl 1000000) else some (.inl (ia a2 (im 10 x13)))) (fun (v34 : Int) => (sto T 20 x32 a1 v34 I31).bind fun I36 => (pi T 10 4 w0 x8 I36).bind fun I37 => (pi T 10 3 w0 (ia a2 1) I37).bind fun I38 => some I38) else none
theorem k_X10_stampIn {T : Knd} {A : Rfs} {w0 : Nat} {a1 : Int} {a2 : Int} {I : Mem} {e : Mem} (h : f_X10_stampIn T A w0 a1 a2 I = some e) : (T w0).1 = 10 := by
  unfold f_X10_stampIn at h
  exact grd_some h

def f_X11_forgetRows (T : Knd) (A : Rfs) (w0 : Nat) (I : Mem) : Option Mem := if (T w0).1 = 11 then (gr T A 11 6 w0).bind fun x1 => (pz T 5 6 x1 0 I).bind fun I2 => (gr T A 11 7 w0).bind fun x3 => (pz T 5 6 x3 0 I2).bind fun I4 => some I4 else none
theorem k_X11_forgetRows {T : Knd} {A : Rfs} {w0 : Nat} {I : Mem} {e : Mem} (h : f_X11_forgetRows T A w0 I = some e) : (T w0).1 = 11 := by
  unfold f_X11_forgetRows at h
  exact grd_some h

def f_X11_retrace (T : Knd) (A : Rfs) (w0 : Nat) (I : Mem) : Option Mem := if (T w0).1 = 11 then (gr T A 11 4 w0).bind fun x1 => (gr T A 11 2 w0).bind fun x2 => (gi T 2 3 x2 I).bind fun x3 => (f_X10_beginAt T A x1 x3 I).bind fun e5 => thn (it (fun (s10 : Int × Mem) => (gr T A 11 2 w0).bind fun x12 => (gi T 2 6 x12 s10.2).bind fun x13 => if s10.1 < x13 then (gr T A 11 2 w0).bind fun x15 => (gr T A 2 7 x15).bind fun x16 => (ld T 20 x16 s10.1 s10.2).bind fun x17 => if x17 < 10 then (gr T A 11 4 w0).bind fun x23 => (gr T A 11 4 w0).bind fun x24 => (f_X10_stampHour T A x24 x17 s10.2).bind fun e25 => (f_X10_stampIn T A x23 x17 e25 s10.2).bind fun e28 => some (.inl (ia s10.1 1, e28)) else (gr T A 11 4 w0).bind fun x19 => (gi T 10 3 x19 s10.2).bind fun x20 => (pi T 10 3 x19 (ia x20 (isb x17 10)) s10.2).bind fun I22 => some (.inl (ia s10.1 1, I22)) else some (.inr (.inl s10.2))) FU (0, e5)) (fun (v8 : Mem) => (f_X11_forgetRows T A w0 v8).bind fun e30 => some e30) else none
theorem k_X11_retrace {T : Knd} {A : Rfs} {w0 : Nat} {I : Mem} {e : Mem} (h : f_X11_retrace T A w0 I = some e) : (T w0).1 = 11 := by
  unfold f_X11_retrace at h
  exact grd_some h

def f_X11_planChanged (T : Knd) (A : Rfs) (w0 : Nat) (I : Mem) : Option Mem := if (T w0).1 = 11 then (gr T A 11 3 w0).bind fun x1 => (gr T A 11 2 w0).bind fun x2 => (f_X9_drawUp T A x1 x2 I).bind fun e3 => (pz T 11 15 w0 0 e3).bind fun I5 => (f_X11_retrace T A w0 I5).bind fun e6 => some e6 else none
theorem k_X11_planChanged {T : Knd} {A : Rfs} {w0 : Nat} {I : Mem} {e : Mem} (h : f_X11_planChanged T A w0 I = some e) : (T w0).1 = 11 := by
  unfold f_X11_planChanged at h
  exact grd_some h

def f_X11_fault (T : Knd) (A : Rfs) (w0 : Nat) (a1 : Int) (I : Mem) : Option Int := if (T w0).1 = 11 then if a1 = 0 then (gr T A 11 1 w0).bind fun x4 => (gi T 4 2 x4 I).bind fun x5 => some x5 else if a1 = 1 then (gr T A 11 1 w0).bind fun x1 => (gi T 4 3 x1 I).bind fun x2 => some x2 else some (-1) else none
theorem k_X11_fault {T : Knd} {A : Rfs} {w0 : Nat} {a1 : Int} {I : Mem} {e : Int} (h : f_X11_fault T A w0 a1 I = some e) : (T w0).1 = 11 := by
  unfold f_X11_fault at h
  exact grd_some h

def f_X11_official (T : Knd) (A : Rfs) (w0 : Nat) (a1 : Int) (a2 : Int) (I : Mem) : Option Int := if (T w0).1 = 11 then (gr T A 11 2 w0).bind fun x1 => (f_X2_hasOfficial T A x1 a1 I).bind fun e2 => if e2 = 0 then some (-2) else if a2 < 0 then some (-2) else if a2 ≤ 8 then (gr T A 11 2 w0).bind fun x5 => (gr T A 2 8 x5).bind fun x6 => (lr T A 24 x6 a2).bind fun x7 => (ld T 20 x7 a1 I).bind fun x8 => some x8 else some (-2) else none
theorem k_X11_official {T : Knd} {A : Rfs} {w0 : Nat} {a1 : Int} {a2 : Int} {I : Mem} {e : Int} (h : f_X11_official T A w0 a1 a2 I = some e) : (T w0).1 = 11 := by
  unfold f_X11_official at h
  exact grd_some h

def f_X11_isBit (T : Knd) (A : Rfs) (a0 : Int) (I : Mem) : Option Int := if a0 = 0 then some 1 else if a0 = 1 then some 1 else some 0

def f_X11_asks (T : Knd) (A : Rfs) (w0 : Nat) (a1 : Int) (a2 : Int) (I : Mem) : Option Int := if (T w0).1 = 11 then (gr T A 11 2 w0).bind fun x1 => (f_X2_hasOfficial T A x1 a1 I).bind fun e2 => if e2 = 0 then some (-2) else (f_X11_isBit T A a2 I).bind fun e5 => if e5 = 0 then some (-2) else (gr T A 11 2 w0).bind fun x8 => (gr T A 2 8 x8).bind fun x9 => (lr T A 24 x9 (ia 9 a2)).bind fun x10 => (ld T 20 x10 a1 I).bind fun x11 => some x11 else none
theorem k_X11_asks {T : Knd} {A : Rfs} {w0 : Nat} {a1 : Int} {a2 : Int} {I : Mem} {e : Int} (h : f_X11_asks T A w0 a1 a2 I = some e) : (T w0).1 = 11 := by
  unfold f_X11_asks at h
  exact grd_some h

def f_X11_asked (T : Knd) (A : Rfs) (w0 : Nat) (a1 : Int) (a2 : Int) (I : Mem) : Option Int := if (T w0).1 = 11 then (gr T A 11 2 w0).bind fun x1 => (f_X2_hasOfficial T A x1 a1 I).bind fun e2 => if e2 = 0 then some (-2) else (f_X11_isBit T A a2 I).bind fun e5 => if e5 = 0 then some (-2) else it (fun (s9 : Int × Int) => (gr T A 11 2 w0).bind fun x12 => (gi T 2 4 x12 I).bind fun x13 => if s9.2 < x13 then (gr T A 11 2 w0).bind fun x15 => (gr T A 2 8 x15).bind fun x16 => (lr T A 24 x16 (ia 9 a2)).bind fun x17 => (ld T 20 x17 s9.2 I).bind fun x18 => (f_X11_hasBit T A x18 a1 I).bind fun e20 => if e20 = 0 then some (.inl (s9.1, ia s9.2 1)) else some (.inl (ior s9.1 (ishl 1 s9.2), ia s9.2 1)) else some (.inr s9.1)) FU (0, 0) else none
theorem k_X11_asked {T : Knd} {A : Rfs} {w0 : Nat} {a1 : Int} {a2 : Int} {I : Mem} {e : Int} (h : f_X11_asked T A w0 a1 a2 I = some e) : (T w0).1 = 11 := by
  unfold f_X11_asked at h
  exact grd_some h

def f_X11_isHour (T : Knd) (A : Rfs) (a0 : Int) (I : Mem) : Option Int := if a0 < 0 then some 0 else if a0 < 400 then some 1 else some 0

def f_X11_open (T : Knd) (A : Rfs) (w0 : Nat) (a1 : Int) (a2 : Int) (I : Mem) : Option Int := if (T w0).1 = 11 then (gr T A 11 2 w0).bind fun x1 => (f_X2_hasOfficial T A x1 a1 I).bind fun e2 => if e2 = 0 then some (-2) else (f_X11_isHour T A a2 I).bind fun e5 => if e5 = 0 then some (-2) else (gr T A 11 2 w0).bind fun x8 => (f_X2_isOpen T A x8 a1 a2 I).bind fun e9 => if e9 = 0 then some 0 else some 1 else none
theorem k_X11_open {T : Knd} {A : Rfs} {w0 : Nat} {a1 : Int} {a2 : Int} {I : Mem} {e : Int} (h : f_X11_open T A w0 a1 a2 I = some e) : (T w0).1 = 11 := by
  unfold f_X11_open at h
  exact grd_some h

def f_X11_opens (T : Knd) (A : Rfs) (w0 : Nat) (a1 : Int) (a2 : Int) (I : Mem) : Option Int := if (T w0).1 = 11 then (gr T A 11 2 w0).bind fun x1 => (f_X2_hasOfficial T A x1 a1 I).bind fun e2 => if e2 = 0 then some (-2) else (f_X11_isHour T A a2 I).bind fun e5 => if e5 = 0 then some (-2) else (gr T A 11 3 w0).bind fun x8 => (f_X9_firstOpen T A x8 a1 a2 I).bind fun e9 => some e9 else none
theorem k_X11_opens {T : Knd} {A : Rfs} {w0 : Nat} {a1 : Int} {a2 : Int} {I : Mem} {e : Int} (h : f_X11_opens T A w0 a1 a2 I = some e) : (T w0).1 = 11 := by
  unfold f_X11_opens at h
  exact grd_some h

def f_X11_week (T : Knd) (A : Rfs) (w0 : Nat) (a1 : Int) (I : Mem) : Option Int := if (T w0).1 = 11 then (gr T A 11 2 w0).bind fun x1 => (f_X2_hasOfficial T A x1 a1 I).bind fun e2 => if e2 = 0 then some (-2) else it (fun (s6 : Int × Int) => if s6.2 < 50 then (gr T A 11 2 w0).bind fun x9 => (f_X2_isOffered T A x9 a1 s6.2 I).bind fun e10 => if e10 = 0 then some (.inl (s6.1, ia s6.2 1)) else some (.inl (ia s6.1 1, ia s6.2 1)) else some (.inr s6.1)) FU (0, 0) else none
theorem k_X11_week {T : Knd} {A : Rfs} {w0 : Nat} {a1 : Int} {I : Mem} {e : Int} (h : f_X11_week T A w0 a1 I = some e) : (T w0).1 = 11 := by
  unfold f_X11_week at h
  exact grd_some h

def f_X2_hasRoom (T : Knd) (A : Rfs) (w0 : Nat) (a1 : Int) (I : Mem) : Option Int := if (T w0).1 = 2 then if a1 < 0 then some 0 else (gi T 2 1 w0 I).bind fun x1 => if a1 < x1 then if a1 < 6 then some 1 else some 0 else some 0 else none
theorem k_X2_hasRoom {T : Knd} {A : Rfs} {w0 : Nat} {a1 : Int} {I : Mem} {e : Int} (h : f_X2_hasRoom T A w0 a1 I = some e) : (T w0).1 = 2 := by
  unfold f_X2_hasRoom at h
  exact grd_some h

def f_X11_walk (T : Knd) (A : Rfs) (w0 : Nat) (a1 : Int) (a2 : Int) (I : Mem) : Option Int := if (T w0).1 = 11 then (gr T A 11 2 w0).bind fun x1 => (f_X2_hasRoom T A x1 a1 I).bind fun e2 => if e2 = 0 then some (-2) else (gr T A 11 2 w0).bind fun x5 => (f_X2_hasRoom T A x5 a2 I).bind fun e6 => if e6 = 0 then some (-2) else (gr T A 11 3 w0).bind fun x9 => (f_X9_hoursBetween T A x9 a1 a2 I).bind fun e10 => some e10 else none
theorem k_X11_walk {T : Knd} {A : Rfs} {w0 : Nat} {a1 : Int} {a2 : Int} {I : Mem} {e : Int} (h : f_X11_walk T A w0 a1 a2 I = some e) : (T w0).1 = 11 := by
  unfold f_X11_walk at h
  exact grd_some h

def f_X2_isThere (T : Knd) (A : Rfs) (w0 : Nat) (I : Mem) : Option Int := if (T w0).1 = 2 then (gi T 2 0 w0 I).bind fun x1 => if x1 ≤ 0 then some 0 else some 1 else none
theorem k_X2_isThere {T : Knd} {A : Rfs} {w0 : Nat} {I : Mem} {e : Int} (h : f_X2_isThere T A w0 I = some e) : (T w0).1 = 2 := by
  unfold f_X2_isThere at h
  exact grd_some h

def f_X11_permit (T : Knd) (A : Rfs) (w0 : Nat) (I : Mem) : Option Int := if (T w0).1 = 11 then (gr T A 11 2 w0).bind fun x1 => (f_X2_isThere T A x1 I).bind fun e2 => if e2 = 0 then some (-2) else (gr T A 11 2 w0).bind fun x5 => (gi T 2 5 x5 I).bind fun x6 => some x6 else none
theorem k_X11_permit {T : Knd} {A : Rfs} {w0 : Nat} {I : Mem} {e : Int} (h : f_X11_permit T A w0 I = some e) : (T w0).1 = 11 := by
  unfold f_X11_permit at h
  exact grd_some h

def f_X11_now (T : Knd) (A : Rfs) (w0 : Nat) (I : Mem) : Option Int := if (T w0).1 = 11 then (gr T A 11 2 w0).bind fun x1 => (f_X2_isThere T A x1 I).bind fun e2 => if e2 = 0 then some (-2) else (gr T A 11 4 w0).bind fun x5 => (gi T 10 3 x5 I).bind fun x6 => some x6 else none
theorem k_X11_now {T : Knd} {A : Rfs} {w0 : Nat} {I : Mem} {e : Int} (h : f_X11_now T A w0 I = some e) : (T w0).1 = 11 := by
  unfold f_X11_now at h
  exact grd_some h

def f_X11_room (T : Knd) (A : Rfs) (w0 : Nat) (I : Mem) : Option Int := if (T w0).1 = 11 then (gr T A 11 2 w0).bind fun x1 => (f_X2_isThere T A x1 I).bind fun e2 => if e2 = 0 then some (-2) else (gr T A 11 4 w0).bind fun x5 => (gi T 10 4 x5 I).bind fun x6 => some x6 else none
theorem k_X11_room {T : Knd} {A : Rfs} {w0 : Nat} {I : Mem} {e : Int} (h : f_X11_room T A w0 I = some e) : (T w0).1 = 11 := by
  unfold f_X11_room at h
  exact grd_some h

def f_X10_holding (T : Knd) (A : Rfs) (w0 : Nat) (I : Mem) : Option Int := if (T w0).1 = 10 then it (fun (s2 : Int × Int) => if s2.2 < 8 then (gr T A 10 2 w0).bind fun x5 => (ld T 20 x5 s2.2 I).bind fun x6 => (gi T 10 3 w0 I).bind fun x8 => if x6 < x8 then some (.inl (s2.1, ia s2.2 1)) else some (.inl (ior s2.1 (ishl 1 s2.2), ia s2.2 1)) else some (.inr s2.1)) FU (0, 0) else none
theorem k_X10_holding {T : Knd} {A : Rfs} {w0 : Nat} {I : Mem} {e : Int} (h : f_X10_holding T A w0 I = some e) : (T w0).1 = 10 := by
  unfold f_X10_holding at h
  exact grd_some h

def f_X11_held (T : Knd) (A : Rfs) (w0 : Nat) (I : Mem) : Option Int := if (T w0).1 = 11 then (gr T A 11 2 w0).bind fun x1 => (f_X2_isThere T A x1 I).bind fun e2 => if e2 = 0 then some (-2) else (gr T A 11 4 w0).bind fun x5 => (f_X10_holding T A x5 I).bind fun e6 => some e6 else none
theorem k_X11_held {T : Knd} {A : Rfs} {w0 : Nat} {I : Mem} {e : Int} (h : f_X11_held T A w0 I = some e) : (T w0).1 = 11 := by
  unfold f_X11_held at h
  exact grd_some h

def f_X11_until (T : Knd) (A : Rfs) (w0 : Nat) (a1 : Int) (I : Mem) : Option Int := if (T w0).1 = 11 then (gr T A 11 2 w0).bind fun x1 => (f_X2_hasOfficial T A x1 a1 I).bind fun e2 => if e2 = 0 then some (-2) else (gr T A 11 4 w0).bind fun x5 => (f_X10_lastHeld T A x5 a1 I).bind fun e6 => (gr T A 11 4 w0).bind fun x9 => (f_X10_holds T A x9 a1 I).bind fun e10 => if e10 = 0 then some (-1) else if e6 = 1000000 then some (-1) else some e6 else none
theorem k_X11_until {T : Knd} {A : Rfs} {w0 : Nat} {a1 : Int} {I : Mem} {e : Int} (h : f_X11_until T A w0 a1 I = some e) : (T w0).1 = 11 := by
  unfold f_X11_until at h
  exact grd_some h

def f_X11_when (T : Knd) (A : Rfs) (w0 : Nat) (a1 : Int) (I : Mem) : Option Int := if (T w0).1 = 11 then (gr T A 11 2 w0).bind fun x1 => (f_X2_hasOfficial T A x1 a1 I).bind fun e2 => if e2 = 0 then some (-2) else (gr T A 11 4 w0).bind fun x5 => (f_X10_stampHour T A x5 a1 I).bind fun e6 => some e6 else none
theorem k_X11_when {T : Knd} {A : Rfs} {w0 : Nat} {a1 : Int} {I : Mem} {e : Int} (h : f_X11_when T A w0 a1 I = some e) : (T w0).1 = 11 := by
  unfold f_X11_when at h
  exact grd_some h

def f_X10_obstacle (T : Knd) (A : Rfs) (w0 : Nat) (a1 : Int) (I : Mem) : Option Int := if (T w0).1 = 10 then (f_X10_holds T A w0 a1 I).bind fun e1 => if e1 = 0 then (f_X10_arrival T A w0 a1 I).bind fun e4 => if e4 = (-1) then some 2 else (gr T A 10 1 w0).bind fun x7 => (f_X9_firstOpen T A x7 a1 e4 I).bind fun e8 => if e8 = (-1) then some 3 else (f_X10_supported T A w0 a1 I).bind fun e11 => if e8 ≤ e11 then (f_X10_stampHour T A w0 a1 I).bind fun e14 => if e14 = (-1) then some 5 else some 0 else some 4 else some 1 else none
theorem k_X10_obstacle {T : Knd} {A : Rfs} {w0 : Nat} {a1 : Int} {I : Mem} {e : Int} (h : f_X10_obstacle T A w0 a1 I = some e) : (T w0).1 = 10 := by
  unfold f_X10_obstacle at h
  exact grd_some h

def f_X11_why (T : Knd) (A : Rfs) (w0 : Nat) (a1 : Int) (I : Mem) : Option Int := if (T w0).1 = 11 then (gr T A 11 2 w0).bind fun x1 => (f_X2_hasOfficial T A x1 a1 I).bind fun e2 => if e2 = 0 then some (-2) else (gr T A 11 4 w0).bind fun x5 => (f_X10_obstacle T A x5 a1 I).bind fun e6 => some e6 else none
theorem k_X11_why {T : Knd} {A : Rfs} {w0 : Nat} {a1 : Int} {I : Mem} {e : Int} (h : f_X11_why T A w0 a1 I = some e) : (T w0).1 = 11 := by
  unfold f_X11_why at h
  exact grd_some h

def f_X10_willing (T : Knd) (A : Rfs) (w0 : Nat) (I : Mem) : Option Int := if (T w0).1 = 10 then it (fun (s2 : Int × Int) => (gr T A 10 0 w0).bind fun x5 => (gi T 2 4 x5 I).bind fun x6 => if s2.2 < x6 then (f_X10_stampHour T A w0 s2.2 I).bind fun e8 => if e8 = (-1) then some (.inl (s2.1, ia s2.2 1)) else some (.inl (ior s2.1 (ishl 1 s2.2), ia s2.2 1)) else some (.inr s2.1)) FU (0, 0) else none
theorem k_X10_willing {T : Knd} {A : Rfs} {w0 : Nat} {I : Mem} {e : Int} (h : f_X10_willing T A w0 I = some e) : (T w0).1 = 10 := by
  unfold f_X10_willing at h
  exact grd_some h

def f_X11_can (T : Knd) (A : Rfs) (w0 : Nat) (I : Mem) : Option Int := if (T w0).1 = 11 then (gr T A 11 2 w0).bind fun x1 => (f_X2_isThere T A x1 I).bind fun e2 => if e2 = 0 then some (-2) else (gr T A 11 4 w0).bind fun x5 => (f_X10_willing T A x5 I).bind fun e6 => some e6 else none
theorem k_X11_can {T : Knd} {A : Rfs} {w0 : Nat} {I : Mem} {e : Int} (h : f_X11_can T A w0 I = some e) : (T w0).1 = 11 := by
  unfold f_X11_can at h
  exact grd_some h

def f_X2_noteMove (T : Knd) (A : Rfs) (w0 : Nat) (a1 : Int) (I : Mem) : Option (Int × Mem) := if (T w0).1 = 2 then (gi T 2 6 w0 I).bind fun x1 => if x1 < 0 then some (0, I) else (gi T 2 6 w0 I).bind fun x3 => if x3 < 40 then (gr T A 2 7 w0).bind fun x5 => (gi T 2 6 w0 I).bind fun x6 => (sto T 20 x5 x6 a1 I).bind fun I8 => (gi T 2 6 w0 I8).bind fun x9 => (pi T 2 6 w0 (ia x9 1) I8).bind fun I11 => some (1, I11) else some (0, I) else none
theorem k_X2_noteMove {T : Knd} {A : Rfs} {w0 : Nat} {a1 : Int} {I : Mem} {e : (Int × Mem)} (h : f_X2_noteMove T A w0 a1 I = some e) : (T w0).1 = 2 := by
  unfold f_X2_noteMove at h
  exact grd_some h

def f_X11_go (T : Knd) (A : Rfs) (w0 : Nat) (a1 : Int) (I : Mem) : Option (Int × Mem) := if (T w0).1 = 11 then (gr T A 11 2 w0).bind fun x1 => (f_X2_hasOfficial T A x1 a1 I).bind fun e2 => if e2 = 0 then some ((-2), I) else (gr T A 11 4 w0).bind fun x5 => (f_X10_stampHour T A x5 a1 I).bind fun e6 => if e6 = (-1) then some ((-5), I) else (gr T A 11 2 w0).bind fun x9 => (f_X2_noteMove T A x9 a1 I).bind fun e10 => if e10.1 = 0 then some ((-5), e10.2) else (gr T A 11 4 w0).bind fun x13 => (f_X10_stampIn T A x13 a1 e6 e10.2).bind fun e14 => (f_X11_forgetRows T A w0 e14).bind fun e16 => some (e6, e16) else none
theorem k_X11_go {T : Knd} {A : Rfs} {w0 : Nat} {a1 : Int} {I : Mem} {e : (Int × Mem)} (h : f_X11_go T A w0 a1 I = some e) : (T w0).1 = 11 := by
  unfold f_X11_go at h
  exact grd_some h

def f_X11_waits (T : Knd) (A : Rfs) (w0 : Nat) (a1 : Int) (I : Mem) : Option (Int × Mem) := if (T w0).1 = 11 then (gr T A 11 2 w0).bind fun x1 => (f_X2_isThere T A x1 I).bind fun e2 => if e2 = 0 then some ((-2), I) else if a1 < 1 then some ((-2), I) else if a1 ≤ 99 then (gr T A 11 4 w0).bind fun x5 => (gi T 10 3 x5 I).bind fun x6 => if (ia x6 a1) ≤ 400 then (gr T A 11 2 w0).bind fun x8 => (f_X2_noteMove T A x8 (ia 10 a1) I).bind fun e9 => if e9.1 = 0 then some ((-5), e9.2) else (gr T A 11 4 w0).bind fun x12 => (gi T 10 3 x12 e9.2).bind fun x13 => (pi T 10 3 x12 (ia x13 a1) e9.2).bind fun I15 => (f_X11_forgetRows T A w0 I15).bind fun e16 => (gr T A 11 4 w0).bind fun x18 => (gi T 10 3 x18 e16).bind fun x19 => some (x19, e16) else some ((-5), I) else some ((-2), I) else none
theorem k_X11_waits {T : Knd} {A : Rfs} {w0 : Nat} {a1 : Int} {I : Mem} {e : (Int × Mem)} (h : f_X11_waits T A w0 a1 I = some e) : (T w0).1 = 11 := by
  unfold f_X11_waits at h
  exact grd_some h

def f_X11_undo (T : Knd) (A : Rfs) (w0 : Nat) (I : Mem) : Option (Int × Mem) := if (T w0).1 = 11 then (gr T A 11 2 w0).bind fun x1 => (f_X2_isThere T A x1 I).bind fun e2 => if e2 = 0 then some ((-2), I) else (gr T A 11 2 w0).bind fun x5 => (gi T 2 6 x5 I).bind fun x6 => if x6 = 0 then some ((-5), I) else (gr T A 11 2 w0).bind fun x8 => (gi T 2 6 x8 I).bind fun x9 => (pi T 2 6 x8 (isb x9 1) I).bind fun I11 => (f_X11_retrace T A w0 I11).bind fun e12 => (gr T A 11 2 w0).bind fun x14 => (gi T 2 6 x14 e12).bind fun x15 => some (x15, e12) else none
theorem k_X11_undo {T : Knd} {A : Rfs} {w0 : Nat} {I : Mem} {e : (Int × Mem)} (h : f_X11_undo T A w0 I = some e) : (T w0).1 = 11 := by
  unfold f_X11_undo at h
  exact grd_some h

def f_X11_anew (T : Knd) (A : Rfs) (w0 : Nat) (I : Mem) : Option (Int × Mem) := if (T w0).1 = 11 then (gr T A 11 2 w0).bind fun x1 => (f_X2_isThere T A x1 I).bind fun e2 => if e2 = 0 then some ((-2), I) else (gr T A 11 2 w0).bind fun x5 => (gi T 2 6 x5 I).bind fun x6 => (gr T A 11 2 w0).bind fun x8 => (pi T 2 6 x8 0 I).bind fun I9 => (f_X11_retrace T A w0 I9).bind fun e10 => some (x6, e10) else none
theorem k_X11_anew {T : Knd} {A : Rfs} {w0 : Nat} {I : Mem} {e : (Int × Mem)} (h : f_X11_anew T A w0 I = some e) : (T w0).1 = 11 := by
  unfold f_X11_anew at h
  exact grd_some h

def f_X11_led (T : Knd) (A : Rfs) (w0 : Nat) (a1 : Int) (I : Mem) : Option Int := if (T w0).1 = 11 then (gr T A 11 2 w0).bind fun x1 => (f_X2_isThere T A x1 I).bind fun e2 => if e2 = 0 then some (-2) else if a1 < 0 then some (-1) else (gr T A 11 2 w0).bind fun x5 => (gi T 2 6 x5 I).bind fun x6 => if a1 < x6 then (gr T A 11 2 w0).bind fun x8 => (gr T A 2 7 x8).bind fun x9 => (ld T 20 x9 a1 I).bind fun x10 => some x10 else some (-1) else none
theorem k_X11_led {T : Knd} {A : Rfs} {w0 : Nat} {a1 : Int} {I : Mem} {e : Int} (h : f_X11_led T A w0 a1 I = some e) : (T w0).1 = 11 := by
  unfold f_X11_led at h
  exact grd_some h

def f_X11_shoes (T : Knd) (A : Rfs) (w0 : Nat) (I : Mem) : Option Int := if (T w0).1 = 11 then (gr T A 11 2 w0).bind fun x1 => (f_X2_isThere T A x1 I).bind fun e2 => if e2 = 0 then some (-2) else (gr T A 11 4 w0).bind fun x5 => (gi T 10 5 x5 I).bind fun x6 => some x6 else none
theorem k_X11_shoes {T : Knd} {A : Rfs} {w0 : Nat} {I : Mem} {e : Int} (h : f_X11_shoes T A w0 I = some e) : (T w0).1 = 11 := by
  unfold f_X11_shoes at h
  exact grd_some h

def f_X11_paid (T : Knd) (A : Rfs) (w0 : Nat) (I : Mem) : Option Int := if (T w0).1 = 11 then (gr T A 11 2 w0).bind fun x1 => (f_X2_isThere T A x1 I).bind fun e2 => if e2 = 0 then some (-2) else (gr T A 11 4 w0).bind fun x5 => (gi T 10 6 x5 I).bind fun x6 => some x6 else none
theorem k_X11_paid {T : Knd} {A : Rfs} {w0 : Nat} {I : Mem} {e : Int} (h : f_X11_paid T A w0 I = some e) : (T w0).1 = 11 := by
  unfold f_X11_paid at h
  exact grd_some h

def f_X10_missing (T : Knd) (A : Rfs) (w0 : Nat) (I : Mem) : Option Int := if (T w0).1 = 10 then (gr T A 10 0 w0).bind fun x1 => (gi T 2 5 x1 I).bind fun x2 => (f_X10_holding T A w0 I).bind fun e4 => some (iand x2 (ixor e4 (-1))) else none
theorem k_X10_missing {T : Knd} {A : Rfs} {w0 : Nat} {I : Mem} {e : Int} (h : f_X10_missing T A w0 I = some e) : (T w0).1 = 10 := by
  unfold f_X10_missing at h
  exact grd_some h

def f_X11_done (T : Knd) (A : Rfs) (w0 : Nat) (I : Mem) : Option Int := if (T w0).1 = 11 then (gr T A 11 2 w0).bind fun x1 => (f_X2_isThere T A x1 I).bind fun e2 => if e2 = 0 then some (-2) else (gr T A 11 4 w0).bind fun x5 => (f_X10_missing T A x5 I).bind fun e6 => if e6 = 0 then some 1 else some 0 else none
theorem k_X11_done {T : Knd} {A : Rfs} {w0 : Nat} {I : Mem} {e : Int} (h : f_X11_done T A w0 I = some e) : (T w0).1 = 11 := by
  unfold f_X11_done at h
  exact grd_some h

def f_X10_joins (T : Knd) (A : Rfs) (w0 : Nat) (w1 : Nat) (I : Mem) : Option Mem := if (T w0).1 = 10 then (gi T 10 3 w1 I).bind fun x1 => (pi T 10 3 w0 x1 I).bind fun I3 => (gi T 10 4 w1 I3).bind fun x4 => (pi T 10 4 w0 x4 I3).bind fun I6 => (pi T 10 5 w0 0 I6).bind fun I7 => (pi T 10 6 w0 0 I7).bind fun I8 => (gr T A 10 2 w1).bind fun x9 => (gr T A 10 2 w0).bind fun x10 => (acp T 20 x9 0 x10 0 8 I8).bind fun I11 => some I11 else none
theorem k_X10_joins {T : Knd} {A : Rfs} {w0 : Nat} {w1 : Nat} {I : Mem} {e : Mem} (h : f_X10_joins T A w0 w1 I = some e) : (T w0).1 = 10 := by
  unfold f_X10_joins at h
  exact grd_some h

def f_X5_obtainable (T : Knd) (A : Rfs) (w0 : Nat) (I : Mem) : Option Int := if (T w0).1 = 5 then (gi T 5 8 w0 I).bind fun x1 => it (fun (s4 : Int × Int) => if s4.2 < 8 then it (fun (s8 : Int × Int) => (gr T A 5 0 w0).bind fun x11 => (gr T A 10 0 x11).bind fun x12 => (gi T 2 4 x12 I).bind fun x13 => if s8.2 < x13 then (gr T A 5 0 w0).bind fun x15 => (f_X10_arrival T A x15 s8.2 I).bind fun e16 => thn (thn (if e16 = (-1) then some (.inl ()) else (gr T A 5 0 w0).bind fun x24 => (gr T A 10 1 x24).bind fun x25 => (f_X9_firstOpen T A x25 s8.2 e16 I).bind fun e26 => if e26 = (-1) then some (.inl ()) else some (.inr (.inl 1))) (fun (v23 : Unit) => some (.inl 0))) (fun (v20 : Int) => if v20 = 0 then some (.inl (s8.1, ia s8.2 1)) else (gr T A 5 0 w0).bind fun x29 => (gr T A 10 0 x29).bind fun x30 => (gr T A 2 8 x30).bind fun x31 => (lr T A 24 x31 9).bind fun x32 => (ld T 20 x32 s8.2 I).bind fun x33 => if (iand x33 (ixor s8.1 (-1))) = 0 then some (.inl (ior s8.1 (ishl 1 s8.2), ia s8.2 1)) else some (.inl (s8.1, ia s8.2 1))) else some (.inr (.inl (s8.1, ia s4.2 1)))) FU (s4.1, 0) else some (.inr s4.1)) FU (x1, 0) else none
theorem k_X5_obtainable {T : Knd} {A : Rfs} {w0 : Nat} {I : Mem} {e : Int} (h : f_X5_obtainable T A w0 I = some e) : (T w0).1 = 5 := by
  unfold f_X5_obtainable at h
  exact grd_some h

def f_X5_isBetter (T : Knd) (A : Rfs) (w0 : Nat) (a1 : Int) (a2 : Int) (a3 : Int) (I : Mem) : Option Int := if (T w0).1 = 5 then (gi T 5 10 w0 I).bind fun x1 => if x1 = 0 then some 1 else (gr T A 5 2 w0).bind fun x3 => (ld T 20 x3 a1 I).bind fun x4 => if a2 < x4 then some 1 else (gr T A 5 2 w0).bind fun x6 => (ld T 20 x6 a1 I).bind fun x7 => if a2 = x7 then (gr T A 5 3 w0).bind fun x9 => (ld T 20 x9 a1 I).bind fun x10 => if a3 < x10 then some 1 else some 0 else some 0 else none
theorem k_X5_isBetter {T : Knd} {A : Rfs} {w0 : Nat} {a1 : Int} {a2 : Int} {a3 : Int} {I : Mem} {e : Int} (h : f_X5_isBetter T A w0 a1 a2 a3 I = some e) : (T w0).1 = 5 := by
  unfold f_X5_isBetter at h
  exact grd_some h

def f_X5_put (T : Knd) (A : Rfs) (w0 : Nat) (a1 : Int) (a2 : Int) (a3 : Int) (I : Mem) : Option Mem := if (T w0).1 = 5 then (gr T A 5 2 w0).bind fun x1 => (sto T 20 x1 a1 a2 I).bind fun I2 => (gr T A 5 3 w0).bind fun x3 => (sto T 20 x3 a1 a3 I2).bind fun I4 => (gr T A 5 1 w0).bind fun x5 => (gr T A 5 4 w0).bind fun x6 => (lr T A 24 x6 a1).bind fun x7 => (acp T 20 x5 0 x7 0 8 I4).bind fun I8 => some I8 else none
theorem k_X5_put {T : Knd} {A : Rfs} {w0 : Nat} {a1 : Int} {a2 : Int} {a3 : Int} {I : Mem} {e : Mem} (h : f_X5_put T A w0 a1 a2 a3 I = some e) : (T w0).1 = 5 := by
  unfold f_X5_put at h
  exact grd_some h

def f_X5_take (T : Knd) (A : Rfs) (w0 : Nat) (a1 : Int) (I : Mem) : Option Mem := if (T w0).1 = 5 then (gi T 5 9 w0 I).bind fun x1 => (gi T 5 8 w0 I).bind fun x3 => (gr T A 5 0 w0).bind fun x5 => (gi T 10 3 x5 I).bind fun x6 => (f_X5_isBetter T A w0 0 x6 a1 I).bind fun e8 => thn (if e8 = 0 then some (.inl I) else (gr T A 5 0 w0).bind fun x13 => (gi T 10 3 x13 I).bind fun x14 => (f_X5_put T A w0 0 x14 a1 I).bind fun e16 => (gr T A 5 0 w0).bind fun x18 => (gr T A 10 2 x18).bind fun x19 => (gr T A 5 5 w0).bind fun x20 => (acp T 20 x19 0 x20 0 8 e16).bind fun I21 => some (.inl I21)) (fun (v12 : Mem) => (gr T A 5 0 w0).bind fun x22 => (gi T 10 5 x22 v12).bind fun x23 => (f_X5_isBetter T A w0 1 x23 a1 v12).bind fun e25 => thn (if e25 = 0 then some (.inl v12) else (gr T A 5 0 w0).bind fun x30 => (gi T 10 5 x30 v12).bind fun x31 => (f_X5_put T A w0 1 x31 a1 v12).bind fun e33 => some (.inl e33)) (fun (v29 : Mem) => (gr T A 5 0 w0).bind fun x35 => (gi T 10 6 x35 v29).bind fun x36 => (f_X5_isBetter T A w0 2 x36 a1 v29).bind fun e38 => thn (if e38 = 0 then some (.inl v29) else (gr T A 5 0 w0).bind fun x43 => (gi T 10 6 x43 v29).bind fun x44 => (f_X5_put T A w0 2 x44 a1 v29).bind fun e46 => some (.inl e46)) (fun (v42 : Mem) => (gi T 5 10 w0 v42).bind fun x48 => thn (if x48 = 0 then some (.inl a1) else (gi T 5 11 w0 v42).bind fun x53 => some (.inl (imin x53 a1))) (fun (v51 : Int) => (pi T 5 11 w0 v51 v42).bind fun I55 => (gi T 5 10 w0 I55).bind fun x56 => thn (if x56 = 0 then some (.inl (iand x1 (ixor x3 (-1)))) else (gi T 5 12 w0 I55).bind fun x61 => some (.inl (iand x61 (iand x1 (ixor x3 (-1)))))) (fun (v59 : Int) => (pi T 5 12 w0 v59 I55).bind fun I63 => (gi T 5 13 w0 I63).bind fun x64 => (pi T 5 13 w0 (ior x64 (iand x1 (ixor x3 (-1)))) I63).bind fun I66 => (gi T 5 10 w0 I66).bind fun x67 => (pi T 5 10 w0 (ia x67 1) I66).bind fun I69 => some I69))))) else none
theorem k_X5_take {T : Knd} {A : Rfs} {w0 : Nat} {a1 : Int} {I : Mem} {e : Mem} (h : f_X5_take T A w0 a1 I = some e) : (T w0).1 = 5 := by
  unfold f_X5_take at h
  exact grd_some h

def f_J6_bitCount_0f7a4 (T : Knd) (A : Rfs) (a0 : Int) (I : Mem) : Option Int := some (iand (ia (ia (iand (ia (ia (iand (isb a0 (iand (iushr a0 1) 1431655765)) 858993459) (iand (iushr (isb a0 (iand (iushr a0 1) 1431655765)) 2) 858993459)) (iushr (ia (iand (isb a0 (iand (iushr a0 1) 1431655765)) 858993459) (iand (iushr (isb a0 (iand (iushr a0 1) 1431655765)) 2) 858993459)) 4)) 252645135) (iushr (iand (ia (ia (iand (isb a0 (iand (iushr a0 1) 1431655765)) 858993459) (iand (iushr (isb a0 (iand (iushr a0 1) 1431655765)) 2) 858993459)) (iushr (ia (iand (isb a0 (iand (iushr a0 1) 1431655765)) 858993459) (iand (iushr (isb a0 (iand (iushr a0 1) 1431655765)) 2) 858993459)) 4)) 252645135) 8)) (iushr (ia (iand (ia (ia (iand (isb a0 (iand (iushr a0 1) 1431655765)) 858993459) (iand (iushr (isb a0 (iand (iushr a0 1) 1431655765)) 2) 858993459)) (iushr (ia (iand (isb a0 (iand (iushr a0 1) 1431655765)) 858993459) (iand (iushr (isb a0 (iand (iushr a0 1) 1431655765)) 2) 858993459)) 4)) 252645135) (iushr (iand (ia (ia (iand (isb a0 (iand (iushr a0 1) 1431655765)) 858993459) (iand (iushr (isb a0 (iand (iushr a0 1) 1431655765)) 2) 858993459)) (iushr (ia (iand (isb a0 (iand (iushr a0 1) 1431655765)) 858993459) (iand (iushr (isb a0 (iand (iushr a0 1) 1431655765)) 2) 858993459)) 4)) 252645135) 8)) 16)) 63)

def f_X5_isHopeless (T : Knd) (A : Rfs) (w0 : Nat) (a1 : Int) (a2 : Int) (I : Mem) : Option Int := if (T w0).1 = 5 then (gi T 5 9 w0 I).bind fun x1 => if (iand a1 x1) = 0 then thn (it (fun (s6 : Int) => if s6 < 8 then (f_X11_hasBit T A a1 s6 I).bind fun e8 => if e8 = 0 then some (.inl (ia s6 1)) else (gr T A 5 0 w0).bind fun x11 => (gr T A 5 0 w0).bind fun x12 => (gi T 10 3 x12 I).bind fun x13 => (f_X10_unbarred T A x11 s6 x13 I).bind fun e15 => if e15 < 400 then some (.inl (ia s6 1)) else some (.inr (.inr 1)) else some (.inr (.inl ()))) FU 0) (fun (v4 : Unit) => (gi T 5 7 w0 I).bind fun x18 => if x18 = 0 then (gi T 5 10 w0 I).bind fun x20 => if x20 = 0 then some 0 else (f_J6_bitCount_0f7a4 T A a1 I).bind fun e22 => (gr T A 5 0 w0).bind fun x25 => (gi T 10 3 x25 I).bind fun x26 => (f_X5_isBetter T A w0 0 (ia x26 e22) (ia a2 e22) I).bind fun e28 => if e28 = 0 then some 1 else some 0 else some 0) else some 1 else none
theorem k_X5_isHopeless {T : Knd} {A : Rfs} {w0 : Nat} {a1 : Int} {a2 : Int} {I : Mem} {e : Int} (h : f_X5_isHopeless T A w0 a1 a2 I = some e) : (T w0).1 = 5 := by
  unfold f_X5_isHopeless at h
  exact grd_some h

def f_X5_follow : Nat → Knd → Rfs → Nat → Int → Mem → Option Mem
  | 0, _, _, _, _, _ => none
  | dd + 1, T, A, w0, a1, I => (gr T A 5 0 w0).bind fun x1 => (f_X10_missing T A x1 I).bind fun e2 => if e2 = 0 then (f_X5_take T A w0 a1 I).bind fun e54 => some e54 else if a1 < 8 then (f_X5_isHopeless T A w0 e2 a1 I).bind fun e5 => if e5 = 0 then (gi T 10 3 x1 I).bind fun x8 => (gi T 10 4 x1 I).bind fun x10 => (gi T 10 5 x1 I).bind fun x12 => (gi T 10 6 x1 I).bind fun x14 => it (fun (s17 : Int × Mem) => (gr T A 10 0 x1).bind fun x19 => (gi T 2 4 x19 s17.2).bind fun x20 => if s17.1 < x20 then if s17.1 < 8 then (gi T 5 9 w0 s17.2).bind fun x22 => (f_X11_hasBit T A x22 s17.1 s17.2).bind fun e24 => thn (if e24 = 0 then (f_X10_stampHour T A x1 s17.1 s17.2).bind fun e30 => some (.inl e30) else some (.inl (-1))) (fun (v28 : Int) => if v28 = (-1) then some (.inl (ia s17.1 1, s17.2)) else (gr T A 10 2 x1).bind fun x33 => (ld T 20 x33 s17.1 s17.2).bind fun x34 => (gr T A 5 1 w0).bind fun x36 => (sto T 20 x36 a1 s17.1 s17.2).bind fun I37 => (gi T 5 9 w0 I37).bind fun x38 => (pi T 5 9 w0 (ior x38 (ishl 1 s17.1)) I37).bind fun I40 => (f_X10_stampIn T A x1 s17.1 v28 I40).bind fun e41 => (f_X5_follow dd T A w0 (ia a1 1) e41).bind fun e43 => (gr T A 10 2 x1).bind fun x45 => (sto T 20 x45 s17.1 x34 e43).bind fun I46 => (pi T 10 3 x1 x8 I46).bind fun I47 => (pi T 10 4 x1 x10 I47).bind fun I48 => (pi T 10 5 x1 x12 I48).bind fun I49 => (pi T 10 6 x1 x14 I49).bind fun I50 => (gi T 5 9 w0 I50).bind fun x51 => (pi T 5 9 w0 (iand x51 (ixor (ishl 1 s17.1) (-1))) I50).bind fun I53 => some (.inl (ia s17.1 1, I53))) else some (.inr s17.2) else some (.inr s17.2)) FU (0, I) else some I else some I

def f_X5_search (T : Knd) (A : Rfs) (w0 : Nat) (w1 : Nat) (a2 : Int) (a3 : Int) (I : Mem) : Option Mem := if (T w0).1 = 5 then (gr T A 5 0 w0).bind fun x1 => (f_X10_joins T A x1 w1 I).bind fun e2 => thn (if a2 < 0 then some (.inl e2) else if a2 < 8 then (gr T A 5 0 w0).bind fun x6 => (gr T A 10 2 x6).bind fun x7 => (sto T 20 x7 a2 1000000 e2).bind fun I8 => some (.inl I8) else some (.inl e2)) (fun (v5 : Mem) => (pz T 5 7 w0 a3 v5).bind fun I9 => (gr T A 5 0 w0).bind fun x10 => (f_X10_holding T A x10 I9).bind fun e11 => (pi T 5 8 w0 e11 I9).bind fun I14 => (gi T 5 8 w0 I14).bind fun x15 => (pi T 5 9 w0 x15 I14).bind fun I17 => (pi T 5 10 w0 0 I17).bind fun I18 => (pi T 5 11 w0 (-1) I18).bind fun I19 => (pi T 5 12 w0 0 I19).bind fun I20 => (pi T 5 13 w0 0 I20).bind fun I21 => (gr T A 5 0 w0).bind fun x22 => (gr T A 10 0 x22).bind fun x23 => (gi T 2 5 x23 I21).bind fun x24 => (f_X5_obtainable T A w0 I21).bind fun e26 => thn (if (iand x24 (ixor e26 (-1))) = 0 then (f_X5_follow 12 T A w0 0 I21).bind fun e31 => some (.inl e31) else some (.inl I21)) (fun (v30 : Mem) => (pz T 5 6 w0 1 v30).bind fun I33 => some I33)) else none
theorem k_X5_search {T : Knd} {A : Rfs} {w0 : Nat} {w1 : Nat} {a2 : Int} {a3 : Int} {I : Mem} {e : Mem} (h : f_X5_search T A w0 w1 a2 a3 I = some e) : (T w0).1 = 5 := by
  unfold f_X5_search at h
  exact grd_some h

def f_X11_soonRows (T : Knd) (A : Rfs) (w0 : Nat) (I : Mem) : Option (Nat × Mem) := if (T w0).1 = 11 then (gr T A 11 6 w0).bind fun x1 => (gi T 5 6 x1 I).bind fun x2 => thn (if x2 = 0 then (gr T A 11 6 w0).bind fun x6 => (gr T A 11 4 w0).bind fun x7 => (f_X5_search T A x6 x7 (-1) 0 I).bind fun e8 => some (.inl e8) else some (.inl I)) (fun (v5 : Mem) => (gr T A 11 6 w0).bind fun x10 => some (x10, v5)) else none
theorem k_X11_soonRows {T : Knd} {A : Rfs} {w0 : Nat} {I : Mem} {e : (Nat × Mem)} (h : f_X11_soonRows T A w0 I = some e) : (T w0).1 = 11 := by
  unfold f_X11_soonRows at h
  exact grd_some h

def f_X5_best (T : Knd) (A : Rfs) (w0 : Nat) (a1 : Int) (I : Mem) : Option Int := if (T w0).1 = 5 then (gi T 5 10 w0 I).bind fun x1 => if x1 ≤ 0 then some (-1) else (gr T A 5 2 w0).bind fun x3 => (ld T 20 x3 a1 I).bind fun x4 => some x4 else none
theorem k_X5_best {T : Knd} {A : Rfs} {w0 : Nat} {a1 : Int} {I : Mem} {e : Int} (h : f_X5_best T A w0 a1 I = some e) : (T w0).1 = 5 := by
  unfold f_X5_best at h
  exact grd_some h

def f_X11_soonest (T : Knd) (A : Rfs) (w0 : Nat) (I : Mem) : Option (Int × Mem) := if (T w0).1 = 11 then (gr T A 11 2 w0).bind fun x1 => (f_X2_isThere T A x1 I).bind fun e2 => if e2 = 0 then some ((-2), I) else (f_X11_soonRows T A w0 I).bind fun e5 => (f_X5_best T A e5.1 0 e5.2).bind fun e7 => some (e7, e5.2) else none
theorem k_X11_soonest {T : Knd} {A : Rfs} {w0 : Nat} {I : Mem} {e : (Int × Mem)} (h : f_X11_soonest T A w0 I = some e) : (T w0).1 = 11 := by
  unfold f_X11_soonest at h
  exact grd_some h

def f_X5_officialAt (T : Knd) (A : Rfs) (w0 : Nat) (a1 : Int) (a2 : Int) (I : Mem) : Option Int := if (T w0).1 = 5 then (gi T 5 10 w0 I).bind fun x1 => if x1 ≤ 0 then some (-1) else if a2 < 0 then some (-1) else (gr T A 5 3 w0).bind fun x3 => (ld T 20 x3 a1 I).bind fun x4 => if a2 < x4 then (gr T A 5 4 w0).bind fun x6 => (lr T A 24 x6 a1).bind fun x7 => (ld T 20 x7 a2 I).bind fun x8 => some x8 else some (-1) else none
theorem k_X5_officialAt {T : Knd} {A : Rfs} {w0 : Nat} {a1 : Int} {a2 : Int} {I : Mem} {e : Int} (h : f_X5_officialAt T A w0 a1 a2 I = some e) : (T w0).1 = 5 := by
  unfold f_X5_officialAt at h
  exact grd_some h

def f_X11_step (T : Knd) (A : Rfs) (w0 : Nat) (a1 : Int) (I : Mem) : Option (Int × Mem) := if (T w0).1 = 11 then (gr T A 11 2 w0).bind fun x1 => (f_X2_isThere T A x1 I).bind fun e2 => if e2 = 0 then some ((-2), I) else (f_X11_soonRows T A w0 I).bind fun e5 => (f_X5_officialAt T A e5.1 0 a1 e5.2).bind fun e7 => some (e7, e5.2) else none
theorem k_X11_step {T : Knd} {A : Rfs} {w0 : Nat} {a1 : Int} {I : Mem} {e : (Int × Mem)} (h : f_X11_step T A w0 a1 I = some e) : (T w0).1 = 11 := by
  unfold f_X11_step at h
  exact grd_some h

def f_X11_everyRow (T : Knd) (A : Rfs) (w0 : Nat) (I : Mem) : Option (Nat × Mem) := if (T w0).1 = 11 then (gr T A 11 7 w0).bind fun x1 => (gi T 5 6 x1 I).bind fun x2 => thn (if x2 = 0 then (gr T A 11 7 w0).bind fun x6 => (gr T A 11 4 w0).bind fun x7 => (f_X5_search T A x6 x7 (-1) 1 I).bind fun e8 => some (.inl e8) else some (.inl I)) (fun (v5 : Mem) => (gr T A 11 7 w0).bind fun x10 => some (x10, v5)) else none
theorem k_X11_everyRow {T : Knd} {A : Rfs} {w0 : Nat} {I : Mem} {e : (Nat × Mem)} (h : f_X11_everyRow T A w0 I = some e) : (T w0).1 = 11 := by
  unfold f_X11_everyRow at h
  exact grd_some h

def f_X11_fewest (T : Knd) (A : Rfs) (w0 : Nat) (I : Mem) : Option (Int × Mem) := if (T w0).1 = 11 then (gr T A 11 2 w0).bind fun x1 => (f_X2_isThere T A x1 I).bind fun e2 => if e2 = 0 then some ((-2), I) else (f_X11_everyRow T A w0 I).bind fun e5 => (gi T 5 11 e5.1 e5.2).bind fun x7 => some (x7, e5.2) else none
theorem k_X11_fewest {T : Knd} {A : Rfs} {w0 : Nat} {I : Mem} {e : (Int × Mem)} (h : f_X11_fewest T A w0 I = some e) : (T w0).1 = 11 := by
  unfold f_X11_fewest at h
  exact grd_some h

def f_X11_least (T : Knd) (A : Rfs) (w0 : Nat) (I : Mem) : Option (Int × Mem) := if (T w0).1 = 11 then (gr T A 11 2 w0).bind fun x1 => (f_X2_isThere T A x1 I).bind fun e2 => if e2 = 0 then some ((-2), I) else (f_X11_everyRow T A w0 I).bind fun e5 => (f_X5_best T A e5.1 1 e5.2).bind fun e7 => some (e7, e5.2) else none
theorem k_X11_least {T : Knd} {A : Rfs} {w0 : Nat} {I : Mem} {e : (Int × Mem)} (h : f_X11_least T A w0 I = some e) : (T w0).1 = 11 := by
  unfold f_X11_least at h
  exact grd_some h

def f_X11_tread (T : Knd) (A : Rfs) (w0 : Nat) (a1 : Int) (I : Mem) : Option (Int × Mem) := if (T w0).1 = 11 then (gr T A 11 2 w0).bind fun x1 => (f_X2_isThere T A x1 I).bind fun e2 => if e2 = 0 then some ((-2), I) else (f_X11_everyRow T A w0 I).bind fun e5 => (f_X5_officialAt T A e5.1 1 a1 e5.2).bind fun e7 => some (e7, e5.2) else none
theorem k_X11_tread {T : Knd} {A : Rfs} {w0 : Nat} {a1 : Int} {I : Mem} {e : (Int × Mem)} (h : f_X11_tread T A w0 a1 I = some e) : (T w0).1 = 11 := by
  unfold f_X11_tread at h
  exact grd_some h

def f_X11_cheapest (T : Knd) (A : Rfs) (w0 : Nat) (I : Mem) : Option (Int × Mem) := if (T w0).1 = 11 then (gr T A 11 2 w0).bind fun x1 => (f_X2_isThere T A x1 I).bind fun e2 => if e2 = 0 then some ((-2), I) else (f_X11_everyRow T A w0 I).bind fun e5 => (f_X5_best T A e5.1 2 e5.2).bind fun e7 => some (e7, e5.2) else none
theorem k_X11_cheapest {T : Knd} {A : Rfs} {w0 : Nat} {I : Mem} {e : (Int × Mem)} (h : f_X11_cheapest T A w0 I = some e) : (T w0).1 = 11 := by
  unfold f_X11_cheapest at h
  exact grd_some h

def f_X5_officialsOf (T : Knd) (A : Rfs) (w0 : Nat) (a1 : Int) (I : Mem) : Option Int := if (T w0).1 = 5 then (gi T 5 10 w0 I).bind fun x1 => if x1 = 0 then some (-1) else it (fun (s4 : Int × Int) => (gr T A 5 3 w0).bind fun x7 => (ld T 20 x7 a1 I).bind fun x8 => if s4.2 < x8 then (gr T A 5 4 w0).bind fun x10 => (lr T A 24 x10 a1).bind fun x11 => (ld T 20 x11 s4.2 I).bind fun x12 => some (.inl (ior s4.1 (ishl 1 x12), ia s4.2 1)) else some (.inr s4.1)) FU (0, 0) else none
theorem k_X5_officialsOf {T : Knd} {A : Rfs} {w0 : Nat} {a1 : Int} {I : Mem} {e : Int} (h : f_X5_officialsOf T A w0 a1 I = some e) : (T w0).1 = 5 := by
  unfold f_X5_officialsOf at h
  exact grd_some h

def f_X11_whom (T : Knd) (A : Rfs) (w0 : Nat) (I : Mem) : Option (Int × Mem) := if (T w0).1 = 11 then (gr T A 11 2 w0).bind fun x1 => (f_X2_isThere T A x1 I).bind fun e2 => if e2 = 0 then some ((-2), I) else (f_X11_everyRow T A w0 I).bind fun e5 => (f_X5_officialsOf T A e5.1 2 e5.2).bind fun e7 => some (e7, e5.2) else none
theorem k_X11_whom {T : Knd} {A : Rfs} {w0 : Nat} {I : Mem} {e : (Int × Mem)} (h : f_X11_whom T A w0 I = some e) : (T w0).1 = 11 := by
  unfold f_X11_whom at h
  exact grd_some h

def f_X11_ways (T : Knd) (A : Rfs) (w0 : Nat) (I : Mem) : Option (Int × Mem) := if (T w0).1 = 11 then (gr T A 11 2 w0).bind fun x1 => (f_X2_isThere T A x1 I).bind fun e2 => if e2 = 0 then some ((-2), I) else (f_X11_everyRow T A w0 I).bind fun e5 => (gi T 5 10 e5.1 e5.2).bind fun x7 => some (x7, e5.2) else none
theorem k_X11_ways {T : Knd} {A : Rfs} {w0 : Nat} {I : Mem} {e : (Int × Mem)} (h : f_X11_ways T A w0 I = some e) : (T w0).1 = 11 := by
  unfold f_X11_ways at h
  exact grd_some h

def f_X11_always (T : Knd) (A : Rfs) (w0 : Nat) (a1 : Int) (I : Mem) : Option (Int × Mem) := if (T w0).1 = 11 then (gr T A 11 2 w0).bind fun x1 => (f_X2_isThere T A x1 I).bind fun e2 => if e2 = 0 then some ((-2), I) else (f_X11_isBit T A a1 I).bind fun e5 => if e5 = 0 then some ((-2), I) else if a1 = 0 then (f_X11_everyRow T A w0 I).bind fun e12 => (gi T 5 12 e12.1 e12.2).bind fun x14 => some (x14, e12.2) else (f_X11_everyRow T A w0 I).bind fun e8 => (gi T 5 13 e8.1 e8.2).bind fun x10 => some (x10, e8.2) else none
theorem k_X11_always {T : Knd} {A : Rfs} {w0 : Nat} {a1 : Int} {I : Mem} {e : (Int × Mem)} (h : f_X11_always T A w0 a1 I = some e) : (T w0).1 = 11 := by
  unfold f_X11_always at h
  exact grd_some h

def f_X5_spareHours (T : Knd) (A : Rfs) (w0 : Nat) (a1 : Int) (I : Mem) : Option Int := if (T w0).1 = 5 then (gi T 5 10 w0 I).bind fun x1 => if x1 = 0 then some (-1) else if a1 < 0 then some (-1) else if a1 < 8 then (f_X5_officialsOf T A w0 0 I).bind fun e3 => (f_X11_hasBit T A e3 a1 I).bind fun e6 => if e6 = 0 then some (-1) else (gr T A 5 5 w0).bind fun x9 => (ld T 20 x9 a1 I).bind fun x10 => if x10 = 1000000 then some (-1) else (gr T A 5 2 w0).bind fun x12 => (ld T 20 x12 0 I).bind fun x13 => if x10 < x13 then some (-1) else (gr T A 5 2 w0).bind fun x15 => (ld T 20 x15 0 I).bind fun x16 => some (isb x10 x16) else some (-1) else none
theorem k_X5_spareHours {T : Knd} {A : Rfs} {w0 : Nat} {a1 : Int} {I : Mem} {e : Int} (h : f_X5_spareHours T A w0 a1 I = some e) : (T w0).1 = 5 := by
  unfold f_X5_spareHours at h
  exact grd_some h

def f_X11_slack (T : Knd) (A : Rfs) (w0 : Nat) (a1 : Int) (I : Mem) : Option (Int × Mem) := if (T w0).1 = 11 then (gr T A 11 2 w0).bind fun x1 => (f_X2_hasOfficial T A x1 a1 I).bind fun e2 => if e2 = 0 then some ((-2), I) else (f_X11_soonRows T A w0 I).bind fun e5 => (f_X5_spareHours T A e5.1 a1 e5.2).bind fun e7 => some (e7, e5.2) else none
theorem k_X11_slack {T : Knd} {A : Rfs} {w0 : Nat} {a1 : Int} {I : Mem} {e : (Int × Mem)} (h : f_X11_slack T A w0 a1 I = some e) : (T w0).1 = 11 := by
  unfold f_X11_slack at h
  exact grd_some h

def f_X11_findStart (T : Knd) (A : Rfs) (w0 : Nat) (I : Mem) : Option Mem := if (T w0).1 = 11 then (pi T 11 16 w0 (-1) I).bind fun I1 => (pi T 11 17 w0 (-1) I1).bind fun I2 => thn (it (fun (s6 : Int × Mem) => if s6.1 < 50 then (gr T A 11 5 w0).bind fun x8 => (f_X10_beginAt T A x8 s6.1 s6.2).bind fun e9 => (gr T A 11 8 w0).bind fun x11 => (gr T A 11 5 w0).bind fun x12 => (f_X5_search T A x11 x12 (-1) 0 e9).bind fun e13 => (gr T A 11 8 w0).bind fun x15 => (f_X5_best T A x15 0 e13).bind fun e16 => (gr T A 11 8 w0).bind fun x19 => (gi T 5 10 x19 e13).bind fun x20 => if x20 ≤ 0 then some (.inl (ia s6.1 1, e13)) else (gi T 11 16 w0 e13).bind fun x22 => thn (if x22 = (-1) then some (.inl ()) else (gi T 11 17 w0 e13).bind fun x26 => if (isb e16 s6.1) < x26 then some (.inl ()) else some (.inr (.inl (ia s6.1 1, e13)))) (fun (v25 : Unit) => (pi T 11 16 w0 s6.1 e13).bind fun I28 => (pi T 11 17 w0 (isb e16 s6.1) I28).bind fun I29 => some (.inl (ia s6.1 1, I29))) else some (.inr (.inl s6.2))) FU (0, I2)) (fun (v4 : Mem) => (pz T 11 15 w0 1 v4).bind fun I30 => some I30) else none
theorem k_X11_findStart {T : Knd} {A : Rfs} {w0 : Nat} {I : Mem} {e : Mem} (h : f_X11_findStart T A w0 I = some e) : (T w0).1 = 11 := by
  unfold f_X11_findStart at h
  exact grd_some h

def f_X11_start (T : Knd) (A : Rfs) (w0 : Nat) (a1 : Int) (I : Mem) : Option (Int × Mem) := if (T w0).1 = 11 then (gr T A 11 2 w0).bind fun x1 => (f_X2_isThere T A x1 I).bind fun e2 => if e2 = 0 then some ((-2), I) else (f_X11_isBit T A a1 I).bind fun e5 => if e5 = 0 then some ((-2), I) else (gi T 11 15 w0 I).bind fun x8 => thn (if x8 = 0 then (f_X11_findStart T A w0 I).bind fun e12 => some (.inl e12) else some (.inl I)) (fun (v11 : Mem) => if a1 = 0 then (gi T 11 16 w0 v11).bind fun x16 => some (x16, v11) else (gi T 11 17 w0 v11).bind fun x14 => some (x14, v11)) else none
theorem k_X11_start {T : Knd} {A : Rfs} {w0 : Nat} {a1 : Int} {I : Mem} {e : (Int × Mem)} (h : f_X11_start T A w0 a1 I = some e) : (T w0).1 = 11 := by
  unfold f_X11_start at h
  exact grd_some h

def f_X11_soonerBy (T : Knd) (A : Rfs) (w0 : Nat) (a1 : Int) (a2 : Int) (I : Mem) : Option (Int × Mem) := if (T w0).1 = 11 then if a2 = (-1) then some ((-1000), I) else (gr T A 11 8 w0).bind fun x1 => (gr T A 11 4 w0).bind fun x2 => (f_X5_search T A x1 x2 a1 0 I).bind fun e3 => (gr T A 11 8 w0).bind fun x5 => (f_X5_best T A x5 0 e3).bind fun e6 => if e6 = (-1) then some ((-1000), e3) else some (isb a2 e6, e3) else none
theorem k_X11_soonerBy {T : Knd} {A : Rfs} {w0 : Nat} {a1 : Int} {a2 : Int} {I : Mem} {e : (Int × Mem)} (h : f_X11_soonerBy T A w0 a1 a2 I = some e) : (T w0).1 = 11 := by
  unfold f_X11_soonerBy at h
  exact grd_some h

def f_X11_forged (T : Knd) (A : Rfs) (w0 : Nat) (a1 : Int) (I : Mem) : Option (Int × Mem) := if (T w0).1 = 11 then (gr T A 11 2 w0).bind fun x1 => (f_X2_hasOfficial T A x1 a1 I).bind fun e2 => if e2 = 0 then some ((-2000), I) else (f_X11_soonRows T A w0 I).bind fun e5 => (f_X5_best T A e5.1 0 e5.2).bind fun e7 => (f_X11_soonerBy T A w0 a1 e7 e5.2).bind fun e10 => some (e10.1, e10.2) else none
theorem k_X11_forged {T : Knd} {A : Rfs} {w0 : Nat} {a1 : Int} {I : Mem} {e : (Int × Mem)} (h : f_X11_forged T A w0 a1 I = some e) : (T w0).1 = 11 := by
  unfold f_X11_forged at h
  exact grd_some h

def f_X11_fake (T : Knd) (A : Rfs) (w0 : Nat) (I : Mem) : Option (Int × Mem) := if (T w0).1 = 11 then (gr T A 11 2 w0).bind fun x1 => (f_X2_isThere T A x1 I).bind fun e2 => if e2 = 0 then some ((-2), I) else (f_X11_soonRows T A w0 I).bind fun e5 => (f_X5_best T A e5.1 0 e5.2).bind fun e7 => it (fun (s11 : Int × Int × Int × Mem) => (gr T A 11 2 w0).bind fun x15 => (gi T 2 4 x15 s11.2.2.2).bind fun x16 => if s11.2.2.1 < x16 then (f_X11_soonerBy T A w0 s11.2.2.1 e7 s11.2.2.2).bind fun e18 => if e18.1 ≤ s11.1 then some (.inl (s11.1, s11.2.1, ia s11.2.2.1 1, e18.2)) else some (.inl (e18.1, s11.2.2.1, ia s11.2.2.1 1, e18.2)) else some (.inr (s11.2.1, s11.2.2.2))) FU (0, (-1), 0, e5.2) else none
theorem k_X11_fake {T : Knd} {A : Rfs} {w0 : Nat} {I : Mem} {e : (Int × Mem)} (h : f_X11_fake T A w0 I = some e) : (T w0).1 = 11 := by
  unfold f_X11_fake at h
  exact grd_some h

def f_X2_hasSet (T : Knd) (A : Rfs) (w0 : Nat) (a1 : Int) (I : Mem) : Option Int := if (T w0).1 = 2 then (f_X2_isThere T A w0 I).bind fun e1 => if e1 = 0 then some 0 else if a1 < 0 then some 0 else (gi T 2 4 w0 I).bind fun x4 => if a1 < (ishl 1 x4) then some 1 else some 0 else none
theorem k_X2_hasSet {T : Knd} {A : Rfs} {w0 : Nat} {a1 : Int} {I : Mem} {e : Int} (h : f_X2_hasSet T A w0 a1 I = some e) : (T w0).1 = 2 := by
  unfold f_X2_hasSet at h
  exact grd_some h

def f_X6_countOrders (T : Knd) (A : Rfs) (w0 : Nat) (I : Mem) : Option Mem := if (T w0).1 = 6 then (gr T A 6 2 w0).bind fun x1 => (sto T 21 x1 0 1 I).bind fun I2 => it (fun (s4 : Int × Mem) => (gi T 6 6 w0 s4.2).bind fun x6 => if s4.1 < x6 then thn (it (fun (s12 : Int × Int) => (gi T 6 5 w0 s4.2).bind fun x15 => if s12.2 < x15 then if (iand s4.1 (ixor (ishl 1 s12.2) (-1))) = s4.1 then some (.inl (s12.1, ia s12.2 1)) else (gr T A 6 0 w0).bind fun x17 => (ld T 20 x17 s12.2 s4.2).bind fun x18 => if (iand x18 (ixor (iand s4.1 (ixor (ishl 1 s12.2) (-1))) (-1))) = 0 then (gr T A 6 1 w0).bind fun x20 => (ld T 20 x20 s12.2 s4.2).bind fun x21 => if (iand x21 (iand s4.1 (ixor (ishl 1 s12.2) (-1)))) = 0 then (gr T A 6 2 w0).bind fun x23 => (ld T 21 x23 (iand s4.1 (ixor (ishl 1 s12.2) (-1))) s4.2).bind fun x24 => some (.inl (ila s12.1 x24, ia s12.2 1)) else some (.inl (s12.1, ia s12.2 1)) else some (.inl (s12.1, ia s12.2 1)) else some (.inr (.inl s12.1))) FU (0, 0)) (fun (v9 : Int) => (gr T A 6 2 w0).bind fun x26 => (sto T 21 x26 s4.1 v9 s4.2).bind fun I27 => some (.inl (ia s4.1 1, I27))) else some (.inr s4.2)) FU (1, I2) else none
theorem k_X6_countOrders {T : Knd} {A : Rfs} {w0 : Nat} {I : Mem} {e : Mem} (h : f_X6_countOrders T A w0 I = some e) : (T w0).1 = 6 := by
  unfold f_X6_countOrders at h
  exact grd_some h

def f_X6_learn (T : Knd) (A : Rfs) (w0 : Nat) (w1 : Nat) (I : Mem) : Option Mem := if (T w0).1 = 6 then (gi T 2 4 w1 I).bind fun x1 => (pi T 6 5 w0 (imin x1 8) I).bind fun I3 => (gi T 6 5 w0 I3).bind fun x4 => (pi T 6 6 w0 (ishl 1 x4) I3).bind fun I6 => (gr T A 2 8 w1).bind fun x7 => (lr T A 24 x7 9).bind fun x8 => (gr T A 6 0 w0).bind fun x9 => (acp T 20 x8 0 x9 0 8 I6).bind fun I10 => (gr T A 2 8 w1).bind fun x11 => (lr T A 24 x11 10).bind fun x12 => (gr T A 6 1 w0).bind fun x13 => (acp T 20 x12 0 x13 0 8 I10).bind fun I14 => (f_X6_countOrders T A w0 I14).bind fun e15 => some e15 else none
theorem k_X6_learn {T : Knd} {A : Rfs} {w0 : Nat} {w1 : Nat} {I : Mem} {e : Mem} (h : f_X6_learn T A w0 w1 I = some e) : (T w0).1 = 6 := by
  unfold f_X6_learn at h
  exact grd_some h

def f_X11_knownSets (T : Knd) (A : Rfs) (w0 : Nat) (I : Mem) : Option (Nat × Mem) := if (T w0).1 = 11 then (gr T A 11 9 w0).bind fun x1 => (gr T A 11 2 w0).bind fun x2 => (f_X6_learn T A x1 x2 I).bind fun e3 => (gr T A 11 9 w0).bind fun x5 => some (x5, e3) else none
theorem k_X11_knownSets {T : Knd} {A : Rfs} {w0 : Nat} {I : Mem} {e : (Nat × Mem)} (h : f_X11_knownSets T A w0 I = some e) : (T w0).1 = 11 := by
  unfold f_X11_knownSets at h
  exact grd_some h

def f_X6_ordersOf (T : Knd) (A : Rfs) (w0 : Nat) (a1 : Int) (I : Mem) : Option Int := if (T w0).1 = 6 then if a1 < 0 then some 0 else (gi T 6 6 w0 I).bind fun x1 => if a1 < x1 then (gr T A 6 2 w0).bind fun x3 => (ld T 21 x3 a1 I).bind fun x4 => some x4 else some 0 else none
theorem k_X6_ordersOf {T : Knd} {A : Rfs} {w0 : Nat} {a1 : Int} {I : Mem} {e : Int} (h : f_X6_ordersOf T A w0 a1 I = some e) : (T w0).1 = 6 := by
  unfold f_X6_ordersOf at h
  exact grd_some h

def f_X11_possible (T : Knd) (A : Rfs) (w0 : Nat) (a1 : Int) (I : Mem) : Option (Int × Mem) := if (T w0).1 = 11 then (gr T A 11 2 w0).bind fun x1 => (f_X2_hasSet T A x1 a1 I).bind fun e2 => if e2 = 0 then some ((-2), I) else (f_X11_knownSets T A w0 I).bind fun e5 => (f_X6_ordersOf T A e5.1 a1 e5.2).bind fun e7 => if (ilcmp e7 0) ≤ 0 then some (0, e5.2) else some (1, e5.2) else none
theorem k_X11_possible {T : Knd} {A : Rfs} {w0 : Nat} {a1 : Int} {I : Mem} {e : (Int × Mem)} (h : f_X11_possible T A w0 a1 I = some e) : (T w0).1 = 11 := by
  unfold f_X11_possible at h
  exact grd_some h

def f_X6_howMany (T : Knd) (A : Rfs) (w0 : Nat) (I : Mem) : Option Int := if (T w0).1 = 6 then it (fun (s2 : Int × Int) => (gi T 6 6 w0 I).bind fun x5 => if s2.2 < x5 then (gr T A 6 2 w0).bind fun x7 => (ld T 21 x7 s2.2 I).bind fun x8 => if (ilcmp x8 0) ≤ 0 then some (.inl (s2.1, ia s2.2 1)) else some (.inl (ia s2.1 1, ia s2.2 1)) else some (.inr s2.1)) FU (0, 0) else none
theorem k_X6_howMany {T : Knd} {A : Rfs} {w0 : Nat} {I : Mem} {e : Int} (h : f_X6_howMany T A w0 I = some e) : (T w0).1 = 6 := by
  unfold f_X6_howMany at h
  exact grd_some h

def f_X11_sets (T : Knd) (A : Rfs) (w0 : Nat) (I : Mem) : Option (Int × Mem) := if (T w0).1 = 11 then (gr T A 11 2 w0).bind fun x1 => (f_X2_isThere T A x1 I).bind fun e2 => if e2 = 0 then some ((-2), I) else (f_X11_knownSets T A w0 I).bind fun e5 => (f_X6_howMany T A e5.1 e5.2).bind fun e7 => some (e7, e5.2) else none
theorem k_X11_sets {T : Knd} {A : Rfs} {w0 : Nat} {I : Mem} {e : (Int × Mem)} (h : f_X11_sets T A w0 I = some e) : (T w0).1 = 11 := by
  unfold f_X11_sets at h
  exact grd_some h

def f_X6_outsiders (T : Knd) (A : Rfs) (w0 : Nat) (I : Mem) : Option Int := if (T w0).1 = 6 then thn (it (fun (s5 : Int × Int) => (gi T 6 6 w0 I).bind fun x8 => if s5.2 < x8 then (gr T A 6 2 w0).bind fun x10 => (ld T 21 x10 s5.2 I).bind fun x11 => if (ilcmp x11 0) ≤ 0 then some (.inl (s5.1, ia s5.2 1)) else some (.inl (ior s5.1 s5.2, ia s5.2 1)) else some (.inr (.inl s5.1))) FU (0, 0)) (fun (v2 : Int) => (gi T 6 6 w0 I).bind fun x13 => some (iand (isb x13 1) (ixor v2 (-1)))) else none
theorem k_X6_outsiders {T : Knd} {A : Rfs} {w0 : Nat} {I : Mem} {e : Int} (h : f_X6_outsiders T A w0 I = some e) : (T w0).1 = 6 := by
  unfold f_X6_outsiders at h
  exact grd_some h

def f_X11_never (T : Knd) (A : Rfs) (w0 : Nat) (I : Mem) : Option (Int × Mem) := if (T w0).1 = 11 then (gr T A 11 2 w0).bind fun x1 => (f_X2_isThere T A x1 I).bind fun e2 => if e2 = 0 then some ((-2), I) else (f_X11_knownSets T A w0 I).bind fun e5 => (f_X6_outsiders T A e5.1 e5.2).bind fun e7 => some (e7, e5.2) else none
theorem k_X11_never {T : Knd} {A : Rfs} {w0 : Nat} {I : Mem} {e : (Int × Mem)} (h : f_X11_never T A w0 I = some e) : (T w0).1 = 11 := by
  unfold f_X11_never at h
  exact grd_some h

def f_X6_followNeeds (T : Knd) (A : Rfs) (w0 : Nat) (I : Mem) : Option Mem := if (T w0).1 = 6 then (gr T A 6 0 w0).bind fun x1 => (gr T A 6 3 w0).bind fun x2 => (acp T 20 x1 0 x2 0 8 I).bind fun I3 => it (fun (s5 : Int × Mem) => (gi T 6 5 w0 s5.2).bind fun x7 => if s5.1 < x7 then it (fun (s10 : Int × Mem) => (gi T 6 5 w0 s10.2).bind fun x12 => if s10.1 < x12 then (gr T A 6 3 w0).bind fun x14 => (ld T 20 x14 s10.1 s10.2).bind fun x15 => (f_X11_hasBit T A x15 s5.1 s10.2).bind fun e17 => if e17 = 0 then some (.inl (ia s10.1 1, s10.2)) else (gr T A 6 3 w0).bind fun x20 => (ld T 20 x20 s10.1 s10.2).bind fun x21 => (gr T A 6 3 w0).bind fun x23 => (ld T 20 x23 s5.1 s10.2).bind fun x24 => (sto T 20 x20 s10.1 (ior x21 x24) s10.2).bind fun I26 => some (.inl (ia s10.1 1, I26)) else some (.inr (.inl (ia s5.1 1, s10.2)))) FU (0, s5.2) else some (.inr s5.2)) FU (0, I3) else none
theorem k_X6_followNeeds {T : Knd} {A : Rfs} {w0 : Nat} {I : Mem} {e : Mem} (h : f_X6_followNeeds T A w0 I = some e) : (T w0).1 = 6 := by
  unfold f_X6_followNeeds at h
  exact grd_some h

def f_X6_rounds (T : Knd) (A : Rfs) (w0 : Nat) (I : Mem) : Option (Int × Mem) := if (T w0).1 = 6 then (f_X6_followNeeds T A w0 I).bind fun e1 => it (fun (s4 : Int × Int) => (gi T 6 5 w0 e1).bind fun x7 => if s4.2 < x7 then (gr T A 6 3 w0).bind fun x9 => (ld T 20 x9 s4.2 e1).bind fun x10 => (f_X11_hasBit T A x10 s4.2 e1).bind fun e12 => if e12 = 0 then some (.inl (s4.1, ia s4.2 1)) else some (.inl (ior s4.1 (ishl 1 s4.2), ia s4.2 1)) else some (.inr (s4.1, e1))) FU (0, 0) else none
theorem k_X6_rounds {T : Knd} {A : Rfs} {w0 : Nat} {I : Mem} {e : (Int × Mem)} (h : f_X6_rounds T A w0 I = some e) : (T w0).1 = 6 := by
  unfold f_X6_rounds at h
  exact grd_some h

def f_X11_ring (T : Knd) (A : Rfs) (w0 : Nat) (I : Mem) : Option (Int × Mem) := if (T w0).1 = 11 then (gr T A 11 2 w0).bind fun x1 => (f_X2_isThere T A x1 I).bind fun e2 => if e2 = 0 then some ((-2), I) else (f_X11_knownSets T A w0 I).bind fun e5 => (f_X6_rounds T A e5.1 e5.2).bind fun e7 => some (e7.1, e7.2) else none
theorem k_X11_ring {T : Knd} {A : Rfs} {w0 : Nat} {I : Mem} {e : (Int × Mem)} (h : f_X11_ring T A w0 I = some e) : (T w0).1 = 11 := by
  unfold f_X11_ring at h
  exact grd_some h

def f_X6_lengthenChains (T : Knd) (A : Rfs) (w0 : Nat) (I : Mem) : Option Mem := if (T w0).1 = 6 then it (fun (s2 : Int × Mem) => (gi T 6 5 w0 s2.2).bind fun x4 => if s2.1 < x4 then it (fun (s7 : Int × Mem) => (gi T 6 5 w0 s7.2).bind fun x9 => if s7.1 < x9 then (gr T A 6 0 w0).bind fun x11 => (ld T 20 x11 s2.1 s7.2).bind fun x12 => (f_X11_hasBit T A x12 s7.1 s7.2).bind fun e14 => if e14 = 0 then some (.inl (ia s7.1 1, s7.2)) else (gr T A 6 4 w0).bind fun x17 => (gr T A 6 4 w0).bind fun x18 => (ld T 20 x18 s2.1 s7.2).bind fun x19 => (gr T A 6 4 w0).bind fun x21 => (ld T 20 x21 s7.1 s7.2).bind fun x22 => (sto T 20 x17 s2.1 (imax x19 (ia x22 1)) s7.2).bind fun I24 => some (.inl (ia s7.1 1, I24)) else some (.inr (.inl (ia s2.1 1, s7.2)))) FU (0, s2.2) else some (.inr s2.2)) FU (0, I) else none
theorem k_X6_lengthenChains {T : Knd} {A : Rfs} {w0 : Nat} {I : Mem} {e : Mem} (h : f_X6_lengthenChains T A w0 I = some e) : (T w0).1 = 6 := by
  unfold f_X6_lengthenChains at h
  exact grd_some h

def f_X6_longestChain (T : Knd) (A : Rfs) (w0 : Nat) (a1 : Int) (I : Mem) : Option (Int × Mem) := if (T w0).1 = 6 then (f_X6_rounds T A w0 I).bind fun e1 => if a1 < 0 then some ((-1), e1.2) else (gi T 6 5 w0 e1.2).bind fun x4 => if a1 < x4 then (gr T A 6 3 w0).bind fun x6 => (ld T 20 x6 a1 e1.2).bind fun x7 => if (iand (ior x7 (ishl 1 a1)) e1.1) = 0 then (gr T A 6 4 w0).bind fun x9 => (f_J7_fill_53178 T A x9 1 e1.2).bind fun e10 => thn (it (fun (s15 : Int × Mem) => (gi T 6 5 w0 s15.2).bind fun x17 => if s15.1 < x17 then (f_X6_lengthenChains T A w0 s15.2).bind fun e19 => some (.inl (ia s15.1 1, e19)) else some (.inr (.inl s15.2))) FU (1, e10)) (fun (v13 : Mem) => (gr T A 6 4 w0).bind fun x21 => (ld T 20 x21 a1 v13).bind fun x22 => some (x22, v13)) else some ((-1), e1.2) else some ((-1), e1.2) else none
theorem k_X6_longestChain {T : Knd} {A : Rfs} {w0 : Nat} {a1 : Int} {I : Mem} {e : (Int × Mem)} (h : f_X6_longestChain T A w0 a1 I = some e) : (T w0).1 = 6 := by
  unfold f_X6_longestChain at h
  exact grd_some h

def f_X11_depth (T : Knd) (A : Rfs) (w0 : Nat) (a1 : Int) (I : Mem) : Option (Int × Mem) := if (T w0).1 = 11 then (gr T A 11 2 w0).bind fun x1 => (f_X2_hasOfficial T A x1 a1 I).bind fun e2 => if e2 = 0 then some ((-2), I) else (f_X11_knownSets T A w0 I).bind fun e5 => (f_X6_longestChain T A e5.1 a1 e5.2).bind fun e7 => some (e7.1, e7.2) else none
theorem k_X11_depth {T : Knd} {A : Rfs} {w0 : Nat} {a1 : Int} {I : Mem} {e : (Int × Mem)} (h : f_X11_depth T A w0 a1 I = some e) : (T w0).1 = 11 := by
  unfold f_X11_depth at h
  exact grd_some h

def f_X11_orders (T : Knd) (A : Rfs) (w0 : Nat) (a1 : Int) (I : Mem) : Option (Int × Mem) := if (T w0).1 = 11 then (gr T A 11 2 w0).bind fun x1 => (f_X2_hasSet T A x1 a1 I).bind fun e2 => if e2 = 0 then some ((-2), I) else (f_X11_knownSets T A w0 I).bind fun e5 => (f_X6_ordersOf T A e5.1 a1 e5.2).bind fun e7 => some (e7, e5.2) else none
theorem k_X11_orders {T : Knd} {A : Rfs} {w0 : Nat} {a1 : Int} {I : Mem} {e : (Int × Mem)} (h : f_X11_orders T A w0 a1 I = some e) : (T w0).1 = 11 := by
  unfold f_X11_orders at h
  exact grd_some h

def f_X1_pick (T : Knd) (A : Rfs) (w0 : Nat) (w1 : Nat) (a2 : Int) (I : Mem) : Option Mem := if (T w0).1 = 1 then it (fun (s2 : Int × Mem) => (gi T 2 4 w1 s2.2).bind fun x4 => if s2.1 < x4 then if (ior a2 (ishl 1 s2.1)) = a2 then some (.inl (ia s2.1 1, s2.2)) else if (ior a2 (ishl 1 s2.1)) < 256 then (gr T A 1 0 w0).bind fun x6 => (ld T 20 x6 (ior a2 (ishl 1 s2.1)) s2.2).bind fun x7 => (gr T A 2 8 w1).bind fun x9 => (lr T A 24 x9 9).bind fun x10 => (ld T 20 x10 s2.1 s2.2).bind fun x11 => (f_J6_bitCount_0f7a4 T A (iand x11 (ixor a2 (-1))) s2.2).bind fun e13 => (gr T A 2 8 w1).bind fun x16 => (lr T A 24 x16 10).bind fun x17 => (ld T 20 x17 s2.1 s2.2).bind fun x18 => (f_J6_bitCount_0f7a4 T A (iand x18 a2) s2.2).bind fun e20 => (gr T A 1 1 w0).bind fun x23 => (ld T 20 x23 (ior a2 (ishl 1 s2.1)) s2.2).bind fun x24 => (gr T A 1 0 w0).bind fun x26 => (ld T 20 x26 a2 s2.2).bind fun x27 => thn (thn (if (ia (ia x7 e13) e20) < x27 then some (.inl ()) else (gr T A 1 0 w0).bind fun x34 => (ld T 20 x34 a2 s2.2).bind fun x35 => if (ia (ia x7 e13) e20) = x35 then (gr T A 1 1 w0).bind fun x37 => (ld T 20 x37 a2 s2.2).bind fun x38 => if (ia x24 1) < x38 then some (.inl ()) else some (.inr (.inl 0)) else some (.inr (.inl 0))) (fun (v33 : Unit) => some (.inl 1))) (fun (v30 : Int) => (gr T A 1 2 w0).bind fun x40 => (ld T 20 x40 a2 s2.2).bind fun x41 => thn (if x41 = (-1) then some (.inl ()) else if v30 = 0 then some (.inr (.inl (ia s2.1 1, s2.2))) else some (.inl ())) (fun (v44 : Unit) => (gr T A 1 0 w0).bind fun x45 => (sto T 20 x45 a2 (ia (ia x7 e13) e20) s2.2).bind fun I46 => (gr T A 1 1 w0).bind fun x47 => (sto T 20 x47 a2 (ia x24 1) I46).bind fun I48 => (gr T A 1 2 w0).bind fun x49 => (sto T 20 x49 a2 s2.1 I48).bind fun I50 => some (.inl (ia s2.1 1, I50)))) else some (.inl (ia s2.1 1, s2.2)) else some (.inr s2.2)) FU (0, I) else none
theorem k_X1_pick {T : Knd} {A : Rfs} {w0 : Nat} {w1 : Nat} {a2 : Int} {I : Mem} {e : Mem} (h : f_X1_pick T A w0 w1 a2 I = some e) : (T w0).1 = 1 := by
  unfold f_X1_pick at h
  exact grd_some h

def f_X1_weigh (T : Knd) (A : Rfs) (w0 : Nat) (w1 : Nat) (I : Mem) : Option Mem := if (T w0).1 = 1 then (gi T 2 4 w1 I).bind fun x1 => it (fun (s4 : Int × Mem) => if s4.1 < 0 then some (.inr s4.2) else (gr T A 1 0 w0).bind fun x6 => (sto T 20 x6 s4.1 0 s4.2).bind fun I7 => (gr T A 1 1 w0).bind fun x8 => (sto T 20 x8 s4.1 0 I7).bind fun I9 => (gr T A 1 2 w0).bind fun x10 => (sto T 20 x10 s4.1 (-1) I9).bind fun I11 => (gi T 2 5 w1 I11).bind fun x12 => if (iand x12 (ixor s4.1 (-1))) = 0 then some (.inl (ia s4.1 (-1), I11)) else (f_X1_pick T A w0 w1 s4.1 I11).bind fun e14 => some (.inl (ia s4.1 (-1), e14))) FU (isb (imin (ishl 1 x1) 256) 1, I) else none
theorem k_X1_weigh {T : Knd} {A : Rfs} {w0 : Nat} {w1 : Nat} {I : Mem} {e : Mem} (h : f_X1_weigh T A w0 w1 I = some e) : (T w0).1 = 1 := by
  unfold f_X1_weigh at h
  exact grd_some h

def f_X1_dropped (T : Knd) (A : Rfs) (w0 : Nat) (I : Mem) : Option Int := if (T w0).1 = 1 then (gr T A 1 0 w0).bind fun x1 => (ld T 20 x1 0 I).bind fun x2 => some x2 else none
theorem k_X1_dropped {T : Knd} {A : Rfs} {w0 : Nat} {I : Mem} {e : Int} (h : f_X1_dropped T A w0 I = some e) : (T w0).1 = 1 := by
  unfold f_X1_dropped at h
  exact grd_some h

def f_X11_loose (T : Knd) (A : Rfs) (w0 : Nat) (I : Mem) : Option (Int × Mem) := if (T w0).1 = 11 then (gr T A 11 2 w0).bind fun x1 => (f_X2_isThere T A x1 I).bind fun e2 => if e2 = 0 then some ((-2), I) else (gr T A 11 10 w0).bind fun x5 => (gr T A 11 2 w0).bind fun x6 => (f_X1_weigh T A x5 x6 I).bind fun e7 => (gr T A 11 10 w0).bind fun x9 => (f_X1_dropped T A x9 e7).bind fun e10 => some (e10, e7) else none
theorem k_X11_loose {T : Knd} {A : Rfs} {w0 : Nat} {I : Mem} {e : (Int × Mem)} (h : f_X11_loose T A w0 I = some e) : (T w0).1 = 11 := by
  unfold f_X11_loose at h
  exact grd_some h

def f_X1_officialAt (T : Knd) (A : Rfs) (w0 : Nat) (a1 : Int) (I : Mem) : Option Int := if (T w0).1 = 1 then if a1 < 0 then some (-1) else (gr T A 1 1 w0).bind fun x1 => (ld T 20 x1 0 I).bind fun x2 => if a1 < x2 then thn (it (fun (s8 : Int × Int) => if s8.2 < a1 then if s8.1 < 256 then (gr T A 1 2 w0).bind fun x11 => (ld T 20 x11 s8.1 I).bind fun x12 => if x12 = (-1) then some (.inr (.inl s8.1)) else (gr T A 1 2 w0).bind fun x14 => (ld T 20 x14 s8.1 I).bind fun x15 => some (.inl (ior s8.1 (ishl 1 x15), ia s8.2 1)) else some (.inr (.inl s8.1)) else some (.inr (.inl s8.1))) FU (0, 0)) (fun (v5 : Int) => if v5 < 256 then (gr T A 1 2 w0).bind fun x17 => (ld T 20 x17 v5 I).bind fun x18 => some x18 else some (-1)) else some (-1) else none
theorem k_X1_officialAt {T : Knd} {A : Rfs} {w0 : Nat} {a1 : Int} {I : Mem} {e : Int} (h : f_X1_officialAt T A w0 a1 I = some e) : (T w0).1 = 1 := by
  unfold f_X1_officialAt at h
  exact grd_some h

def f_X11_loosely (T : Knd) (A : Rfs) (w0 : Nat) (a1 : Int) (I : Mem) : Option (Int × Mem) := if (T w0).1 = 11 then (gr T A 11 2 w0).bind fun x1 => (f_X2_isThere T A x1 I).bind fun e2 => if e2 = 0 then some ((-2), I) else (gr T A 11 10 w0).bind fun x5 => (gr T A 11 2 w0).bind fun x6 => (f_X1_weigh T A x5 x6 I).bind fun e7 => (gr T A 11 10 w0).bind fun x9 => (f_X1_officialAt T A x9 a1 e7).bind fun e10 => some (e10, e7) else none
theorem k_X11_loosely {T : Knd} {A : Rfs} {w0 : Nat} {a1 : Int} {I : Mem} {e : (Int × Mem)} (h : f_X11_loosely T A w0 a1 I = some e) : (T w0).1 = 11 := by
  unfold f_X11_loosely at h
  exact grd_some h

def f_X6_canBeHad (T : Knd) (A : Rfs) (w0 : Nat) (a1 : Int) (I : Mem) : Option Int := if (T w0).1 = 6 then it (fun (s2 : Int) => (gi T 6 6 w0 I).bind fun x4 => if s2 < x4 then (gr T A 6 2 w0).bind fun x6 => (ld T 21 x6 s2 I).bind fun x7 => if (ilcmp x7 0) ≤ 0 then some (.inl (ia s2 1)) else if (iand a1 (ixor s2 (-1))) = 0 then some (.inr 1) else some (.inl (ia s2 1)) else some (.inr 0)) FU 0 else none
theorem k_X6_canBeHad {T : Knd} {A : Rfs} {w0 : Nat} {a1 : Int} {I : Mem} {e : Int} (h : f_X6_canBeHad T A w0 a1 I = some e) : (T w0).1 = 6 := by
  unfold f_X6_canBeHad at h
  exact grd_some h

def f_X6_isHadWithout (T : Knd) (A : Rfs) (w0 : Nat) (w1 : Nat) (a2 : Int) (a3 : Int) (a4 : Int) (I : Mem) : Option (Int × Mem) := if (T w0).1 = 6 then (ld T 20 w1 a2 I).bind fun x1 => (sto T 20 w1 a2 (ixor x1 (ishl 1 a3)) I).bind fun I3 => (f_X6_countOrders T A w0 I3).bind fun e4 => (ld T 20 w1 a2 e4).bind fun x6 => (sto T 20 w1 a2 (ixor x6 (ishl 1 a3)) e4).bind fun I8 => (f_X6_canBeHad T A w0 a4 I8).bind fun e9 => (zck e9).bind fun _ => some (e9, I8) else none
theorem k_X6_isHadWithout {T : Knd} {A : Rfs} {w0 : Nat} {w1 : Nat} {a2 : Int} {a3 : Int} {a4 : Int} {I : Mem} {e : (Int × Mem)} (h : f_X6_isHadWithout T A w0 w1 a2 a3 a4 I = some e) : (T w0).1 = 6 := by
  unfold f_X6_isHadWithout at h
  exact grd_some h

def f_X6_firstPartingOf (T : Knd) (A : Rfs) (w0 : Nat) (w1 : Nat) (a2 : Int) (I : Mem) : Option (Int × Mem) := if (T w0).1 = 6 then thn (it (fun (s6 : Int × Mem) => (gi T 6 5 w0 s6.2).bind fun x8 => if s6.1 < x8 then it (fun (s11 : Int × Mem) => (gi T 6 5 w0 s11.2).bind fun x13 => if s11.1 < x13 then (ld T 20 w1 s6.1 s11.2).bind fun x15 => (f_X11_hasBit T A x15 s11.1 s11.2).bind fun e17 => if e17 = 0 then some (.inl (ia s11.1 1, s11.2)) else (f_X6_isHadWithout T A w0 w1 s6.1 s11.1 a2 s11.2).bind fun e20 => if e20.1 = 0 then some (.inl (ia s11.1 1, e20.2)) else some (.inr (.inr (.inl (s6.1, s11.1, e20.2)))) else some (.inr (.inl (ia s6.1 1, s11.2)))) FU (0, s6.2) else some (.inr (.inr ((-1), s6.2)))) FU (0, I)) (fun (v2 : Int × Int × Mem) => some (ia (im 10 v2.1) v2.2.1, v2.2.2)) else none
theorem k_X6_firstPartingOf {T : Knd} {A : Rfs} {w0 : Nat} {w1 : Nat} {a2 : Int} {I : Mem} {e : (Int × Mem)} (h : f_X6_firstPartingOf T A w0 w1 a2 I = some e) : (T w0).1 = 6 := by
  unfold f_X6_firstPartingOf at h
  exact grd_some h

def f_X6_firstParting (T : Knd) (A : Rfs) (w0 : Nat) (a1 : Int) (I : Mem) : Option (Int × Mem) := if (T w0).1 = 6 then (f_X6_canBeHad T A w0 a1 I).bind fun e1 => if e1 = 0 then (gr T A 6 0 w0).bind fun x4 => (f_X6_firstPartingOf T A w0 x4 a1 I).bind fun e5 => if e5.1 = (-1) then (gr T A 6 1 w0).bind fun x8 => (f_X6_firstPartingOf T A w0 x8 a1 e5.2).bind fun e9 => if e9.1 = (-1) then some ((-1), e9.2) else some (ia 100 e9.1, e9.2) else some (e5.1, e5.2) else some ((-1), I) else none
theorem k_X6_firstParting {T : Knd} {A : Rfs} {w0 : Nat} {a1 : Int} {I : Mem} {e : (Int × Mem)} (h : f_X6_firstParting T A w0 a1 I = some e) : (T w0).1 = 6 := by
  unfold f_X6_firstParting at h
  exact grd_some h

def f_X11_parted (T : Knd) (A : Rfs) (w0 : Nat) (I : Mem) : Option (Int × Mem) := if (T w0).1 = 11 then (gr T A 11 2 w0).bind fun x1 => (f_X2_isThere T A x1 I).bind fun e2 => if e2 = 0 then some ((-2), I) else (f_X11_knownSets T A w0 I).bind fun e5 => (gr T A 11 2 w0).bind fun x7 => (gi T 2 5 x7 e5.2).bind fun x8 => (f_X6_firstParting T A e5.1 x8 e5.2).bind fun e10 => some (e10.1, e10.2) else none
theorem k_X11_parted {T : Knd} {A : Rfs} {w0 : Nat} {I : Mem} {e : (Int × Mem)} (h : f_X11_parted T A w0 I = some e) : (T w0).1 = 11 := by
  unfold f_X11_parted at h
  exact grd_some h

def f_X7_isSlot (T : Knd) (A : Rfs) (w0 : Nat) (a1 : Int) (I : Mem) : Option Int := if (T w0).1 = 7 then if a1 < 0 then some 0 else if a1 < 4 then some 1 else some 0 else none
theorem k_X7_isSlot {T : Knd} {A : Rfs} {w0 : Nat} {a1 : Int} {I : Mem} {e : Int} (h : f_X7_isSlot T A w0 a1 I = some e) : (T w0).1 = 7 := by
  unfold f_X7_isSlot at h
  exact grd_some h

def f_X7_hasRow (T : Knd) (A : Rfs) (w0 : Nat) (a1 : Int) (I : Mem) : Option Int := if (T w0).1 = 7 then (f_X7_isSlot T A w0 a1 I).bind fun e1 => if e1 = 0 then some 0 else (gr T A 7 2 w0).bind fun x4 => (ld T 20 x4 a1 I).bind fun x5 => if x5 = (-1) then some 0 else some 1 else none
theorem k_X7_hasRow {T : Knd} {A : Rfs} {w0 : Nat} {a1 : Int} {I : Mem} {e : Int} (h : f_X7_hasRow T A w0 a1 I = some e) : (T w0).1 = 7 := by
  unfold f_X7_hasRow at h
  exact grd_some h

def f_X7_lengthOf (T : Knd) (A : Rfs) (w0 : Nat) (a1 : Int) (I : Mem) : Option Int := if (T w0).1 = 7 then (f_X7_hasRow T A w0 a1 I).bind fun e1 => if e1 = 0 then some 0 else (gr T A 7 2 w0).bind fun x4 => (ld T 20 x4 a1 I).bind fun x5 => some x5 else none
theorem k_X7_lengthOf {T : Knd} {A : Rfs} {w0 : Nat} {a1 : Int} {I : Mem} {e : Int} (h : f_X7_lengthOf T A w0 a1 I = some e) : (T w0).1 = 7 := by
  unfold f_X7_lengthOf at h
  exact grd_some h

def f_X7_areBelow (T : Knd) (A : Rfs) (w0 : Nat) (a1 : Int) (a2 : Int) (I : Mem) : Option Int := if (T w0).1 = 7 then it (fun (s2 : Int) => (f_X7_lengthOf T A w0 a1 I).bind fun e4 => if s2 < e4 then (gr T A 7 0 w0).bind fun x7 => (lr T A 25 x7 a1).bind fun x8 => (ld T 21 x8 s2 I).bind fun x9 => if (ilcmp x9 0) < 0 then some (.inr 0) else (gr T A 7 0 w0).bind fun x11 => (lr T A 25 x11 a1).bind fun x12 => (ld T 21 x12 s2 I).bind fun x13 => if (ilcmp x13 a2) < 0 then some (.inl (ia s2 1)) else some (.inr 0) else some (.inr 1)) FU 0 else none
theorem k_X7_areBelow {T : Knd} {A : Rfs} {w0 : Nat} {a1 : Int} {a2 : Int} {I : Mem} {e : Int} (h : f_X7_areBelow T A w0 a1 a2 I = some e) : (T w0).1 = 7 := by
  unfold f_X7_areBelow at h
  exact grd_some h

def f_X11_refusal (T : Knd) (A : Rfs) (w0 : Nat) (a1 : Int) (I : Mem) : Option Int := if (T w0).1 = 11 then (gr T A 11 11 w0).bind fun x1 => (f_X7_isSlot T A x1 a1 I).bind fun e2 => if e2 = 0 then some (-2) else (gr T A 11 2 w0).bind fun x5 => (f_X2_isThere T A x5 I).bind fun e6 => if e6 = 0 then some (-2) else (gr T A 11 11 w0).bind fun x9 => (f_X7_hasRow T A x9 a1 I).bind fun e10 => if e10 = 0 then some (-6) else (gr T A 11 11 w0).bind fun x13 => (gr T A 11 2 w0).bind fun x14 => (gi T 2 4 x14 I).bind fun x15 => (f_X7_areBelow T A x13 a1 x15 I).bind fun e17 => if e17 = 0 then some (-2) else some 0 else none
theorem k_X11_refusal {T : Knd} {A : Rfs} {w0 : Nat} {a1 : Int} {I : Mem} {e : Int} (h : f_X11_refusal T A w0 a1 I = some e) : (T w0).1 = 11 := by
  unfold f_X11_refusal at h
  exact grd_some h

def f_X7_officialAt (T : Knd) (A : Rfs) (w0 : Nat) (a1 : Int) (a2 : Int) (I : Mem) : Option Int := if (T w0).1 = 7 then if a2 < 0 then some (-1) else (f_X7_lengthOf T A w0 a1 I).bind fun e1 => if a2 < e1 then (gr T A 7 0 w0).bind fun x4 => (lr T A 25 x4 a1).bind fun x5 => (ld T 21 x5 a2 I).bind fun x6 => some (wrap x6) else some (-1) else none
theorem k_X7_officialAt {T : Knd} {A : Rfs} {w0 : Nat} {a1 : Int} {a2 : Int} {I : Mem} {e : Int} (h : f_X7_officialAt T A w0 a1 a2 I = some e) : (T w0).1 = 7 := by
  unfold f_X7_officialAt at h
  exact grd_some h

def f_X2_mayStamp (T : Knd) (A : Rfs) (w0 : Nat) (a1 : Int) (a2 : Int) (I : Mem) : Option Int := if (T w0).1 = 2 then (f_X2_hasOfficial T A w0 a1 I).bind fun e1 => if e1 = 0 then some 0 else (f_X11_hasBit T A a2 a1 I).bind fun e4 => if e4 = 0 then (gr T A 2 8 w0).bind fun x7 => (lr T A 24 x7 9).bind fun x8 => (ld T 20 x8 a1 I).bind fun x9 => if (iand x9 (ixor a2 (-1))) = 0 then (gr T A 2 8 w0).bind fun x11 => (lr T A 24 x11 10).bind fun x12 => (ld T 20 x12 a1 I).bind fun x13 => if (iand x13 a2) = 0 then some 1 else some 0 else some 0 else some 0 else none
theorem k_X2_mayStamp {T : Knd} {A : Rfs} {w0 : Nat} {a1 : Int} {a2 : Int} {I : Mem} {e : Int} (h : f_X2_mayStamp T A w0 a1 a2 I = some e) : (T w0).1 = 2 := by
  unfold f_X2_mayStamp at h
  exact grd_some h

def f_X11_judge (T : Knd) (A : Rfs) (w0 : Nat) (a1 : Int) (I : Mem) : Option Int := if (T w0).1 = 11 then (f_X11_refusal T A w0 a1 I).bind fun e1 => if e1 = 0 then thn (it (fun (s7 : Int × Int) => (gr T A 11 11 w0).bind fun x10 => (f_X7_lengthOf T A x10 a1 I).bind fun e11 => if s7.2 < e11 then (gr T A 11 11 w0).bind fun x14 => (f_X7_officialAt T A x14 a1 s7.2 I).bind fun e15 => (gr T A 11 2 w0).bind fun x18 => (f_X2_mayStamp T A x18 e15 s7.1 I).bind fun e19 => if e19 = 0 then some (.inr (.inr s7.2)) else some (.inl (ior s7.1 (ishl 1 e15), ia s7.2 1)) else some (.inr (.inl ()))) FU (0, 0)) (fun (v5 : Unit) => (gr T A 11 11 w0).bind fun x22 => (f_X7_lengthOf T A x22 a1 I).bind fun e23 => some e23) else some e1 else none
theorem k_X11_judge {T : Knd} {A : Rfs} {w0 : Nat} {a1 : Int} {I : Mem} {e : Int} (h : f_X11_judge T A w0 a1 I = some e) : (T w0).1 = 11 := by
  unfold f_X11_judge at h
  exact grd_some h

def f_X11_bribed (T : Knd) (A : Rfs) (w0 : Nat) (a1 : Int) (I : Mem) : Option Int := if (T w0).1 = 11 then (f_X11_refusal T A w0 a1 I).bind fun e1 => if e1 = 0 then it (fun (s5 : Int × Int × Int) => (gr T A 11 11 w0).bind fun x9 => (f_X7_lengthOf T A x9 a1 I).bind fun e10 => if s5.2.2 < e10 then (gr T A 11 11 w0).bind fun x13 => (f_X7_officialAt T A x13 a1 s5.2.2 I).bind fun e14 => (gr T A 11 2 w0).bind fun x17 => (f_X2_mayStamp T A x17 e14 s5.1 I).bind fun e18 => thn (if e18 = 0 then some (.inl (ior s5.2.1 (ishl 1 e14))) else some (.inl s5.2.1)) (fun (v22 : Int) => some (.inl (ior s5.1 (ishl 1 e14), v22, ia s5.2.2 1))) else some (.inr s5.2.1)) FU (0, 0, 0) else some e1 else none
theorem k_X11_bribed {T : Knd} {A : Rfs} {w0 : Nat} {a1 : Int} {I : Mem} {e : Int} (h : f_X11_bribed T A w0 a1 I = some e) : (T w0).1 = 11 := by
  unfold f_X11_bribed at h
  exact grd_some h

def f_X3_firstFree (T : Knd) (A : Rfs) (w0 : Nat) (a1 : Int) (a2 : Int) (I : Mem) : Option Int := if (T w0).1 = 3 then (gr T A 3 0 w0).bind fun x1 => (gr T A 10 1 x1).bind fun x2 => (f_X9_firstOpen T A x2 a1 a2 I).bind fun e3 => it (fun (s7 : Int × Int) => if s7.2 < 400 then (f_X11_isHour T A s7.1 I).bind fun e10 => if e10 = 0 then some (.inr s7.1) else (gr T A 3 1 w0).bind fun x13 => (ld T 20 x13 s7.1 I).bind fun x14 => (f_X11_hasBit T A x14 a1 I).bind fun e16 => if e16 = 0 then some (.inr s7.1) else (gr T A 3 0 w0).bind fun x19 => (gr T A 10 1 x19).bind fun x20 => (f_X9_firstOpen T A x20 a1 (ia s7.1 1) I).bind fun e21 => some (.inl (e21, ia s7.2 1)) else some (.inr s7.1)) FU (e3, 0) else none
theorem k_X3_firstFree {T : Knd} {A : Rfs} {w0 : Nat} {a1 : Int} {a2 : Int} {I : Mem} {e : Int} (h : f_X3_firstFree T A w0 a1 a2 I = some e) : (T w0).1 = 3 := by
  unfold f_X3_firstFree at h
  exact grd_some h

def f_X3_goTo (T : Knd) (A : Rfs) (w0 : Nat) (a1 : Int) (I : Mem) : Option (Int × Mem) := if (T w0).1 = 3 then (gr T A 3 0 w0).bind fun x1 => (f_X10_arrival T A x1 a1 I).bind fun e2 => if e2 = (-1) then some (0, I) else (gr T A 3 0 w0).bind fun x5 => (f_X10_holds T A x5 a1 I).bind fun e6 => if e6 = 0 then (gr T A 3 0 w0).bind fun x9 => (f_X10_unbarred T A x9 a1 e2 I).bind fun e10 => (f_X3_firstFree T A w0 a1 e10 I).bind fun e13 => if e13 = (-1) then some (0, I) else (gr T A 3 0 w0).bind fun x16 => (f_X10_supported T A x16 a1 I).bind fun e17 => if e13 ≤ e17 then (gr T A 3 3 w0).bind fun x20 => (ld T 20 x20 a1 I).bind fun x21 => (sto T 20 x20 a1 (ia x21 (isb e13 e2)) I).bind fun I23 => (gi T 3 4 w0 I23).bind fun x24 => (pi T 3 4 w0 (ior x24 (ishl 1 a1)) I23).bind fun I26 => (gr T A 3 1 w0).bind fun x27 => (ld T 20 x27 e13 I26).bind fun x28 => (sto T 20 x27 e13 (ior x28 (ishl 1 a1)) I26).bind fun I30 => (gr T A 3 0 w0).bind fun x31 => (f_X10_stampIn T A x31 a1 e13 I30).bind fun e32 => some (1, e32) else some (0, I) else some (0, I) else none
theorem k_X3_goTo {T : Knd} {A : Rfs} {w0 : Nat} {a1 : Int} {I : Mem} {e : (Int × Mem)} (h : f_X3_goTo T A w0 a1 I = some e) : (T w0).1 = 3 := by
  unfold f_X3_goTo at h
  exact grd_some h

def f_X3_goBy (T : Knd) (A : Rfs) (w0 : Nat) (w1 : Nat) (a2 : Int) (I : Mem) : Option (Int × Mem) := if (T w0).1 = 3 then (gr T A 3 0 w0).bind fun x1 => (gr T A 3 0 w0).bind fun x2 => (gr T A 10 0 x2).bind fun x3 => (gi T 2 3 x3 I).bind fun x4 => (f_X10_beginAt T A x1 x4 I).bind fun e6 => thn (it (fun (s11 : Int × Mem) => (f_X7_lengthOf T A w1 a2 s11.2).bind fun e13 => if s11.1 < e13 then (f_X7_officialAt T A w1 a2 s11.1 s11.2).bind fun e16 => (f_X3_goTo T A w0 e16 s11.2).bind fun e19 => if e19.1 = 0 then some (.inr (.inr ((-1), e19.2))) else some (.inl (ia s11.1 1, e19.2)) else some (.inr (.inl s11.2))) FU (0, e6)) (fun (v9 : Mem) => (gr T A 3 0 w0).bind fun x22 => (gi T 10 3 x22 v9).bind fun x23 => some (x23, v9)) else none
theorem k_X3_goBy {T : Knd} {A : Rfs} {w0 : Nat} {w1 : Nat} {a2 : Int} {I : Mem} {e : (Int × Mem)} (h : f_X3_goBy T A w0 w1 a2 I = some e) : (T w0).1 = 3 := by
  unfold f_X3_goBy at h
  exact grd_some h

def f_X3_serve (T : Knd) (A : Rfs) (w0 : Nat) (w1 : Nat) (a2 : Int) (a3 : Int) (I : Mem) : Option Mem := if (T w0).1 = 3 then (gr T A 3 1 w0).bind fun x1 => (f_J7_fill_53178 T A x1 0 I).bind fun e2 => (gr T A 3 3 w0).bind fun x4 => (f_J7_fill_53178 T A x4 0 e2).bind fun e5 => (gr T A 3 2 w0).bind fun x7 => (f_J7_fill_53178 T A x7 (-1) e5).bind fun e8 => (pi T 3 4 w0 0 e8).bind fun I10 => it (fun (s12 : Int × Mem) => if s12.1 < a3 then if s12.1 < 9 then (gr T A 3 2 w0).bind fun x14 => (f_X3_goBy T A w0 w1 a2 s12.2).bind fun e15 => (sto T 20 x14 s12.1 e15.1 e15.2).bind fun I18 => some (.inl (ia s12.1 1, I18)) else some (.inr s12.2) else some (.inr s12.2)) FU (0, I10) else none
theorem k_X3_serve {T : Knd} {A : Rfs} {w0 : Nat} {w1 : Nat} {a2 : Int} {a3 : Int} {I : Mem} {e : Mem} (h : f_X3_serve T A w0 w1 a2 a3 I = some e) : (T w0).1 = 3 := by
  unfold f_X3_serve at h
  exact grd_some h

def f_X3_lastThrough (T : Knd) (A : Rfs) (w0 : Nat) (a1 : Int) (I : Mem) : Option Int := if (T w0).1 = 3 then it (fun (s2 : Int × Int) => if s2.2 < a1 then if s2.2 < 9 then (gr T A 3 2 w0).bind fun x5 => (ld T 20 x5 s2.2 I).bind fun x6 => if x6 = (-1) then some (.inr (-1)) else (gr T A 3 2 w0).bind fun x8 => (ld T 20 x8 s2.2 I).bind fun x9 => some (.inl (imax s2.1 x9, ia s2.2 1)) else some (.inr s2.1) else some (.inr s2.1)) FU (0, 0) else none
theorem k_X3_lastThrough {T : Knd} {A : Rfs} {w0 : Nat} {a1 : Int} {I : Mem} {e : Int} (h : f_X3_lastThrough T A w0 a1 I = some e) : (T w0).1 = 3 := by
  unfold f_X3_lastThrough at h
  exact grd_some h

def f_X11_run (T : Knd) (A : Rfs) (w0 : Nat) (a1 : Int) (I : Mem) : Option (Int × Mem) := if (T w0).1 = 11 then (f_X11_refusal T A w0 a1 I).bind fun e1 => if e1 = 0 then (gr T A 11 12 w0).bind fun x4 => (gr T A 11 11 w0).bind fun x5 => (f_X3_serve T A x4 x5 a1 1 I).bind fun e6 => (gr T A 11 12 w0).bind fun x8 => (f_X3_lastThrough T A x8 1 e6).bind fun e9 => some (e9, e6) else some (e1, I) else none
theorem k_X11_run {T : Knd} {A : Rfs} {w0 : Nat} {a1 : Int} {I : Mem} {e : (Int × Mem)} (h : f_X11_run T A w0 a1 I = some e) : (T w0).1 = 11 := by
  unfold f_X11_run at h
  exact grd_some h

def f_X11_queue (T : Knd) (A : Rfs) (w0 : Nat) (a1 : Int) (a2 : Int) (I : Mem) : Option (Int × Mem) := if (T w0).1 = 11 then if a2 < 1 then some ((-2), I) else if a2 ≤ 9 then (f_X11_refusal T A w0 a1 I).bind fun e1 => if e1 = 0 then (gr T A 11 12 w0).bind fun x4 => (gr T A 11 11 w0).bind fun x5 => (f_X3_serve T A x4 x5 a1 a2 I).bind fun e6 => (gr T A 11 12 w0).bind fun x8 => (f_X3_lastThrough T A x8 a2 e6).bind fun e9 => some (e9, e6) else some (e1, I) else some ((-2), I) else none
theorem k_X11_queue {T : Knd} {A : Rfs} {w0 : Nat} {a1 : Int} {a2 : Int} {I : Mem} {e : (Int × Mem)} (h : f_X11_queue T A w0 a1 a2 I = some e) : (T w0).1 = 11 := by
  unfold f_X11_queue at h
  exact grd_some h

def f_X3_throughBy (T : Knd) (A : Rfs) (w0 : Nat) (a1 : Int) (I : Mem) : Option Int := if (T w0).1 = 3 then it (fun (s2 : Int × Int) => if s2.2 < 9 then (gr T A 3 2 w0).bind fun x5 => (ld T 20 x5 s2.2 I).bind fun x6 => if x6 = (-1) then some (.inl (s2.1, ia s2.2 1)) else (gr T A 3 2 w0).bind fun x8 => (ld T 20 x8 s2.2 I).bind fun x9 => if x9 ≤ a1 then some (.inl (ia s2.1 1, ia s2.2 1)) else some (.inl (s2.1, ia s2.2 1)) else some (.inr s2.1)) FU (0, 0) else none
theorem k_X3_throughBy {T : Knd} {A : Rfs} {w0 : Nat} {a1 : Int} {I : Mem} {e : Int} (h : f_X3_throughBy T A w0 a1 I = some e) : (T w0).1 = 3 := by
  unfold f_X3_throughBy at h
  exact grd_some h

def f_X11_served (T : Knd) (A : Rfs) (w0 : Nat) (a1 : Int) (a2 : Int) (I : Mem) : Option (Int × Mem) := if (T w0).1 = 11 then if a2 < 0 then some ((-2), I) else if a2 ≤ 400 then (f_X11_refusal T A w0 a1 I).bind fun e1 => if e1 = 0 then (gr T A 11 12 w0).bind fun x4 => (gr T A 11 11 w0).bind fun x5 => (f_X3_serve T A x4 x5 a1 9 I).bind fun e6 => (gr T A 11 12 w0).bind fun x8 => (f_X3_throughBy T A x8 a2 e6).bind fun e9 => some (e9, e6) else some (e1, I) else some ((-2), I) else none
theorem k_X11_served {T : Knd} {A : Rfs} {w0 : Nat} {a1 : Int} {a2 : Int} {I : Mem} {e : (Int × Mem)} (h : f_X11_served T A w0 a1 a2 I = some e) : (T w0).1 = 11 := by
  unfold f_X11_served at h
  exact grd_some h

def f_X3_longestWaitedAt (T : Knd) (A : Rfs) (w0 : Nat) (I : Mem) : Option Int := if (T w0).1 = 3 then it (fun (s2 : Int × Int) => if s2.2 < 8 then (gi T 3 4 w0 I).bind fun x5 => (f_X11_hasBit T A x5 s2.2 I).bind fun e7 => if e7 = 0 then some (.inl (s2.1, ia s2.2 1)) else if s2.1 = (-1) then some (.inl (s2.2, ia s2.2 1)) else (gr T A 3 3 w0).bind fun x10 => (ld T 20 x10 s2.2 I).bind fun x11 => (gr T A 3 3 w0).bind fun x13 => (ld T 20 x13 s2.1 I).bind fun x14 => if x11 ≤ x14 then some (.inl (s2.1, ia s2.2 1)) else some (.inl (s2.2, ia s2.2 1)) else some (.inr s2.1)) FU ((-1), 0) else none
theorem k_X3_longestWaitedAt {T : Knd} {A : Rfs} {w0 : Nat} {I : Mem} {e : Int} (h : f_X3_longestWaitedAt T A w0 I = some e) : (T w0).1 = 3 := by
  unfold f_X3_longestWaitedAt at h
  exact grd_some h

def f_X11_chair (T : Knd) (A : Rfs) (w0 : Nat) (a1 : Int) (I : Mem) : Option (Int × Mem) := if (T w0).1 = 11 then (f_X11_refusal T A w0 a1 I).bind fun e1 => if e1 = 0 then (gr T A 11 12 w0).bind fun x4 => (gr T A 11 11 w0).bind fun x5 => (f_X3_serve T A x4 x5 a1 9 I).bind fun e6 => (gr T A 11 12 w0).bind fun x8 => (f_X3_lastThrough T A x8 9 e6).bind fun e9 => if e9 = (-1) then some ((-1), e6) else (gr T A 11 12 w0).bind fun x12 => (f_X3_longestWaitedAt T A x12 e6).bind fun e13 => some (e13, e6) else some (e1, I) else none
theorem k_X11_chair {T : Knd} {A : Rfs} {w0 : Nat} {a1 : Int} {I : Mem} {e : (Int × Mem)} (h : f_X11_chair T A w0 a1 I = some e) : (T w0).1 = 11 := by
  unfold f_X11_chair at h
  exact grd_some h

def f_X11_isSeed (T : Knd) (A : Rfs) (a0 : Int) (I : Mem) : Option Int := if a0 < 0 then some 0 else if a0 ≤ 2000000000 then some 1 else some 0

def f_X0_draw (T : Knd) (A : Rfs) (w0 : Nat) (a1 : Int) (I : Mem) : Option (Int × Mem) := if (T w0).1 = 0 then (gi T 0 1 w0 I).bind fun x1 => (dvz 2147483648).bind fun _ => (pi T 0 1 w0 (ilrm (ila (ilm 1103515245 x1) 12345) 2147483648) I).bind fun I3 => if a1 ≤ 0 then some (0, I3) else (gi T 0 1 w0 I3).bind fun x4 => (dvz 65536).bind fun _ => (dvz a1).bind fun _ => some (wrap (ilrm (ildv x4 65536) a1), I3) else none
theorem k_X0_draw {T : Knd} {A : Rfs} {w0 : Nat} {a1 : Int} {I : Mem} {e : (Int × Mem)} (h : f_X0_draw T A w0 a1 I = some e) : (T w0).1 = 0 := by
  unfold f_X0_draw at h
  exact grd_some h

def f_X0_memberAt (T : Knd) (A : Rfs) (a0 : Int) (a1 : Int) (I : Mem) : Option Int := it (fun (s2 : Int × Int) => if s2.2 < 8 then (f_X11_hasBit T A a0 s2.2 I).bind fun e5 => if e5 = 0 then some (.inl (s2.1, ia s2.2 1)) else if s2.1 = 0 then some (.inr s2.2) else some (.inl (ia s2.1 (-1), ia s2.2 1)) else some (.inr (-1))) FU (a1, 0)

def f_X0_goFrom (T : Knd) (A : Rfs) (w0 : Nat) (w1 : Nat) (a2 : Int) (I : Mem) : Option Mem := if (T w0).1 = 0 then (gr T A 0 0 w0).bind fun x1 => (f_X10_joins T A x1 w1 I).bind fun e2 => (pi T 0 1 w0 a2 e2).bind fun I4 => (pi T 0 3 w0 0 I4).bind fun I5 => (gr T A 0 0 w0).bind fun x6 => (f_X10_holding T A x6 I5).bind fun e7 => thn (thn (thn (it (fun (s17 : Int × Int × Mem) => if s17.2.1 < 8 then (gr T A 0 0 w0).bind fun x20 => (f_X10_missing T A x20 s17.2.2).bind fun e21 => if e21 = 0 then some (.inr (.inr (.inr (.inl s17.2.2)))) else (gr T A 0 0 w0).bind fun x24 => (f_X10_willing T A x24 s17.2.2).bind fun e25 => if (iand e25 (ixor s17.1 (-1))) = 0 then some (.inr (.inr (.inl s17.2.2))) else (f_J6_bitCount_0f7a4 T A (iand e25 (ixor s17.1 (-1))) s17.2.2).bind fun e28 => (f_X0_draw T A w0 e28 s17.2.2).bind fun e31 => (f_X0_memberAt T A (iand e25 (ixor s17.1 (-1))) e31.1 e31.2).bind fun e34 => if e34 = (-1) then some (.inr (.inl e31.2)) else (gi T 0 3 w0 e31.2).bind fun x37 => (pi T 0 3 w0 (ia x37 1) e31.2).bind fun I39 => (gr T A 0 0 w0).bind fun x40 => (gr T A 0 0 w0).bind fun x41 => (f_X10_stampHour T A x41 e34 I39).bind fun e42 => (f_X10_stampIn T A x40 e34 e42 I39).bind fun e45 => some (.inl (ior s17.1 (ishl 1 e34), ia s17.2.1 1, e45)) else some (.inr (.inr (.inr (.inl s17.2.2))))) FU (e7, 0, I5)) (fun (v15 : Mem) => some (.inr (.inl v15)))) (fun (v13 : Mem) => some (.inl v13))) (fun (v11 : Mem) => (gr T A 0 0 w0).bind fun x47 => (f_X10_missing T A x47 v11).bind fun e48 => thn (if e48 = 0 then (gr T A 0 0 w0).bind fun x54 => (gi T 10 3 x54 v11).bind fun x55 => some (.inl x55) else some (.inl (-1))) (fun (v52 : Int) => (pi T 0 2 w0 v52 v11).bind fun I57 => some I57)) else none
theorem k_X0_goFrom {T : Knd} {A : Rfs} {w0 : Nat} {w1 : Nat} {a2 : Int} {I : Mem} {e : Mem} (h : f_X0_goFrom T A w0 w1 a2 I = some e) : (T w0).1 = 0 := by
  unfold f_X0_goFrom at h
  exact grd_some h

def f_X11_blind (T : Knd) (A : Rfs) (w0 : Nat) (a1 : Int) (I : Mem) : Option (Int × Mem) := if (T w0).1 = 11 then (gr T A 11 2 w0).bind fun x1 => (f_X2_isThere T A x1 I).bind fun e2 => if e2 = 0 then some ((-2), I) else (f_X11_isSeed T A a1 I).bind fun e5 => if e5 = 0 then some ((-2), I) else (gr T A 11 13 w0).bind fun x8 => (gr T A 11 4 w0).bind fun x9 => (f_X0_goFrom T A x8 x9 a1 I).bind fun e10 => (gr T A 11 13 w0).bind fun x12 => (gi T 0 2 x12 e10).bind fun x13 => some (x13, e10) else none
theorem k_X11_blind {T : Knd} {A : Rfs} {w0 : Nat} {a1 : Int} {I : Mem} {e : (Int × Mem)} (h : f_X11_blind T A w0 a1 I = some e) : (T w0).1 = 11 := by
  unfold f_X11_blind at h
  exact grd_some h

def f_X11_tries (T : Knd) (A : Rfs) (w0 : Nat) (a1 : Int) (I : Mem) : Option (Int × Mem) := if (T w0).1 = 11 then (gr T A 11 2 w0).bind fun x1 => (f_X2_isThere T A x1 I).bind fun e2 => if e2 = 0 then some ((-2), I) else (f_X11_isSeed T A a1 I).bind fun e5 => if e5 = 0 then some ((-2), I) else (gr T A 11 13 w0).bind fun x8 => (gr T A 11 4 w0).bind fun x9 => (f_X0_goFrom T A x8 x9 a1 I).bind fun e10 => (gr T A 11 13 w0).bind fun x12 => (gi T 0 3 x12 e10).bind fun x13 => some (x13, e10) else none
theorem k_X11_tries {T : Knd} {A : Rfs} {w0 : Nat} {a1 : Int} {I : Mem} {e : (Int × Mem)} (h : f_X11_tries T A w0 a1 I = some e) : (T w0).1 = 11 := by
  unfold f_X11_tries at h
  exact grd_some h

def f_X11_luck (T : Knd) (A : Rfs) (w0 : Nat) (a1 : Int) (a2 : Int) (I : Mem) : Option (Int × Mem) := if (T w0).1 = 11 then (gr T A 11 2 w0).bind fun x1 => (f_X2_isThere T A x1 I).bind fun e2 => if e2 = 0 then some ((-2), I) else (f_X11_isSeed T A a1 I).bind fun e5 => if e5 = 0 then some ((-2), I) else if a2 < 1 then some ((-2), I) else if a2 ≤ 20 then it (fun (s9 : Int × Int × Mem) => if s9.2.1 < a2 then (gr T A 11 13 w0).bind fun x12 => (gr T A 11 4 w0).bind fun x13 => (f_X0_goFrom T A x12 x13 (ia a1 s9.2.1) s9.2.2).bind fun e14 => (gr T A 11 13 w0).bind fun x16 => (gi T 0 2 x16 e14).bind fun x17 => if x17 = (-1) then some (.inl (s9.1, ia s9.2.1 1, e14)) else some (.inl (ia s9.1 1, ia s9.2.1 1, e14)) else some (.inr (s9.1, s9.2.2))) FU (0, 0, I) else some ((-2), I) else none
theorem k_X11_luck {T : Knd} {A : Rfs} {w0 : Nat} {a1 : Int} {a2 : Int} {I : Mem} {e : (Int × Mem)} (h : f_X11_luck T A w0 a1 a2 I = some e) : (T w0).1 = 11 := by
  unfold f_X11_luck at h
  exact grd_some h

def f_X11_commonDivisor (T : Knd) (A : Rfs) (a0 : Int) (a1 : Int) (I : Mem) : Option Int := it (fun (s2 : Int × Int × Int) => if s2.2.2 < 64 then if s2.2.1 = 0 then some (.inr s2.1) else (dvz s2.2.1).bind fun _ => some (.inl (s2.2.1, irm s2.1 s2.2.1, ia s2.2.2 1)) else some (.inr s2.1)) FU (a0, a1, 0)

def f_X11_worth (T : Knd) (A : Rfs) (w0 : Nat) (a1 : Int) (a2 : Int) (a3 : Int) (I : Mem) : Option (Int × Mem) := if (T w0).1 = 11 then (gr T A 11 2 w0).bind fun x1 => (f_X2_isThere T A x1 I).bind fun e2 => if e2 = 0 then some ((-2), I) else (f_X11_isSeed T A a1 I).bind fun e5 => if e5 = 0 then some ((-2), I) else if a2 < 1 then some ((-2), I) else if a2 ≤ 20 then (f_X11_isBit T A a3 I).bind fun e8 => if e8 = 0 then some ((-2), I) else (f_X11_soonRows T A w0 I).bind fun e11 => (f_X5_best T A e11.1 0 e11.2).bind fun e13 => thn (it (fun (s21 : Int × Int × Int × Mem) => if s21.2.2.1 < a2 then (gr T A 11 13 w0).bind fun x25 => (gr T A 11 4 w0).bind fun x26 => (f_X0_goFrom T A x25 x26 (ia a1 s21.2.2.1) s21.2.2.2).bind fun e27 => (gr T A 11 13 w0).bind fun x29 => (gi T 0 2 x29 e27).bind fun x30 => if x30 = (-1) then some (.inl (s21.1, s21.2.1, ia s21.2.2.1 1, e27)) else (gr T A 11 13 w0).bind fun x32 => (gi T 0 2 x32 e27).bind fun x33 => some (.inl (ia s21.1 (isb x33 e13), ia s21.2.1 1, ia s21.2.2.1 1, e27)) else some (.inr (.inl (s21.1, s21.2.1, s21.2.2.2)))) FU (0, 0, 0, e11.2)) (fun (v17 : Int × Int × Mem) => if v17.2.1 = 0 then some ((-1), v17.2.2) else (f_X11_commonDivisor T A v17.1 v17.2.1 v17.2.2).bind fun e35 => if e35 = 0 then some ((-1), v17.2.2) else if a3 = 0 then (dvz e35).bind fun _ => some (idv v17.1 e35, v17.2.2) else (dvz e35).bind fun _ => some (idv v17.2.1 e35, v17.2.2)) else some ((-2), I) else none
theorem k_X11_worth {T : Knd} {A : Rfs} {w0 : Nat} {a1 : Int} {a2 : Int} {a3 : Int} {I : Mem} {e : (Int × Mem)} (h : f_X11_worth T A w0 a1 a2 a3 I = some e) : (T w0).1 = 11 := by
  unfold f_X11_worth at h
  exact grd_some h

def f_X11_forgetAll (T : Knd) (A : Rfs) (w0 : Nat) (I : Mem) : Option Mem := if (T w0).1 = 11 then (pz T 11 15 w0 0 I).bind fun I1 => (f_X11_forgetRows T A w0 I1).bind fun e2 => some e2 else none
theorem k_X11_forgetAll {T : Knd} {A : Rfs} {w0 : Nat} {I : Mem} {e : Mem} (h : f_X11_forgetAll T A w0 I = some e) : (T w0).1 = 11 := by
  unfold f_X11_forgetAll at h
  exact grd_some h

def f_X11_ask (T : Knd) (A : Rfs) (w0 : Nat) (a1 : Int) (a2 : Int) (a3 : Int) (a4 : Int) (I : Mem) : Option (Int × Mem) := if (T w0).1 = 11 then (gr T A 11 2 w0).bind fun x1 => (f_X2_hasOfficial T A x1 a1 I).bind fun e2 => if e2 = 0 then some ((-2), I) else (gr T A 11 2 w0).bind fun x5 => (f_X2_hasOfficial T A x5 a2 I).bind fun e6 => if e6 = 0 then some ((-2), I) else if a1 = a2 then some ((-2), I) else (f_X11_isBit T A a3 I).bind fun e9 => if e9 = 0 then some ((-2), I) else (f_X11_isBit T A a4 I).bind fun e12 => if e12 = 0 then some ((-2), I) else (gr T A 11 2 w0).bind fun x15 => (gi T 2 6 x15 I).bind fun x16 => if x16 ≤ 0 then (gr T A 11 2 w0).bind fun x18 => (gr T A 2 8 x18).bind fun x19 => (lr T A 24 x19 (ia 9 a3)).bind fun x20 => (ld T 20 x20 a1 I).bind fun x21 => thn (if (iand (ishr x21 a2) 1) = a4 then some (.inl I) else (ld T 20 x20 a1 I).bind fun x25 => (sto T 20 x20 a1 (ixor x25 (ishl 1 a2)) I).bind fun I27 => some (.inl I27)) (fun (v24 : Mem) => (f_X11_forgetAll T A w0 v24).bind fun e28 => some (iand (ishr x21 a2) 1, e28)) else some ((-5), I) else none
theorem k_X11_ask {T : Knd} {A : Rfs} {w0 : Nat} {a1 : Int} {a2 : Int} {a3 : Int} {a4 : Int} {I : Mem} {e : (Int × Mem)} (h : f_X11_ask T A w0 a1 a2 a3 a4 I = some e) : (T w0).1 = 11 := by
  unfold f_X11_ask at h
  exact grd_some h

def f_X11_leave (T : Knd) (A : Rfs) (w0 : Nat) (a1 : Int) (a2 : Int) (a3 : Int) (I : Mem) : Option (Int × Mem) := if (T w0).1 = 11 then thn (thn (if a2 = (-1) then if a3 = (-1) then some (.inr (.inl 1)) else some (.inl ()) else some (.inl ())) (fun (v5 : Unit) => some (.inl 0))) (fun (v2 : Int) => thn (thn (if a2 < 0 then some (.inl ()) else if a2 ≤ a3 then if a3 < 40 then some (.inr (.inl 1)) else some (.inl ()) else some (.inl ())) (fun (v10 : Unit) => some (.inl 0))) (fun (v7 : Int) => (gr T A 11 2 w0).bind fun x11 => (f_X2_hasOfficial T A x11 a1 I).bind fun e12 => if e12 = 0 then some ((-2), I) else thn (if v2 = 0 then if v7 = 0 then some (.inr ((-2), I)) else some (.inl ()) else some (.inl ())) (fun (v16 : Unit) => (gr T A 11 2 w0).bind fun x17 => (gi T 2 6 x17 I).bind fun x18 => if x18 ≤ 0 then (gr T A 11 2 w0).bind fun x20 => (gr T A 2 8 x20).bind fun x21 => (lr T A 24 x21 7).bind fun x22 => (sto T 20 x22 a1 a2 I).bind fun I23 => (gr T A 11 2 w0).bind fun x24 => (gr T A 2 8 x24).bind fun x25 => (lr T A 24 x25 8).bind fun x26 => (sto T 20 x26 a1 a3 I23).bind fun I27 => (f_X11_planChanged T A w0 I27).bind fun e28 => some (0, e28) else some ((-5), I)))) else none
theorem k_X11_leave {T : Knd} {A : Rfs} {w0 : Nat} {a1 : Int} {a2 : Int} {a3 : Int} {I : Mem} {e : (Int × Mem)} (h : f_X11_leave T A w0 a1 a2 a3 I = some e) : (T w0).1 = 11 := by
  unfold f_X11_leave at h
  exact grd_some h

def f_X11_wants (T : Knd) (A : Rfs) (w0 : Nat) (a1 : Int) (I : Mem) : Option (Int × Mem) := if (T w0).1 = 11 then (gr T A 11 2 w0).bind fun x1 => (f_X2_hasSet T A x1 a1 I).bind fun e2 => if e2 = 0 then some ((-2), I) else (gr T A 11 2 w0).bind fun x5 => (gi T 2 5 x5 I).bind fun x6 => (gr T A 11 2 w0).bind fun x8 => (pi T 2 5 x8 a1 I).bind fun I9 => (f_X11_forgetAll T A w0 I9).bind fun e10 => some (x6, e10) else none
theorem k_X11_wants {T : Knd} {A : Rfs} {w0 : Nat} {a1 : Int} {I : Mem} {e : (Int × Mem)} (h : f_X11_wants T A w0 a1 I = some e) : (T w0).1 = 11 := by
  unfold f_X11_wants at h
  exact grd_some h

def f_X2_countAsked (T : Knd) (A : Rfs) (w0 : Nat) (a1 : Int) (I : Mem) : Option Int := if (T w0).1 = 2 then it (fun (s2 : Int × Int) => (gi T 2 4 w0 I).bind fun x5 => if s2.2 < x5 then (gr T A 2 8 w0).bind fun x7 => (lr T A 24 x7 a1).bind fun x8 => (ld T 20 x8 s2.2 I).bind fun x9 => (f_J6_bitCount_0f7a4 T A x9 I).bind fun e11 => some (.inl (ia s2.1 e11, ia s2.2 1)) else some (.inr s2.1)) FU (0, 0) else none
theorem k_X2_countAsked {T : Knd} {A : Rfs} {w0 : Nat} {a1 : Int} {I : Mem} {e : Int} (h : f_X2_countAsked T A w0 a1 I = some e) : (T w0).1 = 2 := by
  unfold f_X2_countAsked at h
  exact grd_some h

def f_X7_howMany (T : Knd) (A : Rfs) (w0 : Nat) (I : Mem) : Option Int := if (T w0).1 = 7 then it (fun (s2 : Int × Int) => if s2.2 < 4 then (f_X7_hasRow T A w0 s2.2 I).bind fun e5 => if e5 = 0 then some (.inl (s2.1, ia s2.2 1)) else some (.inl (ia s2.1 1, ia s2.2 1)) else some (.inr s2.1)) FU (0, 0) else none
theorem k_X7_howMany {T : Knd} {A : Rfs} {w0 : Nat} {I : Mem} {e : Int} (h : f_X7_howMany T A w0 I = some e) : (T w0).1 = 7 := by
  unfold f_X7_howMany at h
  exact grd_some h

def f_X11_count (T : Knd) (A : Rfs) (w0 : Nat) (a1 : Int) (I : Mem) : Option Int := if (T w0).1 = 11 then if a1 = 0 then (gr T A 11 2 w0).bind fun x1 => (gi T 2 4 x1 I).bind fun x2 => some x2 else if a1 = 1 then (gr T A 11 2 w0).bind fun x5 => (gi T 2 1 x5 I).bind fun x6 => some x6 else if a1 = 2 then (gr T A 11 2 w0).bind fun x9 => (f_X2_countAsked T A x9 9 I).bind fun e10 => some e10 else if a1 = 3 then (gr T A 11 2 w0).bind fun x14 => (f_X2_countAsked T A x14 10 I).bind fun e15 => some e15 else if a1 = 4 then (gr T A 11 2 w0).bind fun x19 => (gi T 2 0 x19 I).bind fun x20 => some x20 else if a1 = 5 then (gr T A 11 0 w0).bind fun x23 => (gi T 8 1 x23 I).bind fun x24 => some x24 else if a1 = 6 then (gr T A 11 2 w0).bind fun x27 => (gi T 2 6 x27 I).bind fun x28 => some x28 else if a1 = 7 then (gr T A 11 2 w0).bind fun x31 => (gi T 2 3 x31 I).bind fun x32 => some x32 else if a1 = 8 then (gr T A 11 11 w0).bind fun x35 => (f_X7_howMany T A x35 I).bind fun e36 => some e36 else some (-1) else none
theorem k_X11_count {T : Knd} {A : Rfs} {w0 : Nat} {a1 : Int} {I : Mem} {e : Int} (h : f_X11_count T A w0 a1 I = some e) : (T w0).1 = 11 := by
  unfold f_X11_count at h
  exact grd_some h

def f_X11_back (T : Knd) (A : Rfs) (w0 : Nat) (a1 : Int) (I : Mem) : Option (Int × Mem) := if (T w0).1 = 11 then if a1 < 0 then some ((-2), I) else (gr T A 11 14 w0).bind fun x1 => (aln T 26 x1).bind fun x2 => if a1 < x2 then (gr T A 11 14 w0).bind fun x4 => (lrz T A 26 x4 a1).bind (fun z => if z = true then some ((-6), I) else (gr T A 11 2 w0).bind fun x5 => (gr T A 11 14 w0).bind fun x6 => (lr T A 26 x6 a1).bind fun x7 => (f_X2_copyFrom T A x5 x7 I).bind fun e8 => (f_X11_planChanged T A w0 e8).bind fun e10 => some (0, e10)) else some ((-2), I) else none
theorem k_X11_back {T : Knd} {A : Rfs} {w0 : Nat} {a1 : Int} {I : Mem} {e : (Int × Mem)} (h : f_X11_back T A w0 a1 I = some e) : (T w0).1 = 11 := by
  unfold f_X11_back at h
  exact grd_some h

def f_J7_fill_d0a16 (T : Knd) (A : Rfs) (w0 : Nat) (a1 : Int) (I : Mem) : Option Mem := (aln T 21 w0).bind fun x1 => it (fun (s4 : Int × Mem) => if s4.1 < x1 then (sto T 21 w0 s4.1 a1 s4.2).bind fun I6 => some (.inl (ia s4.1 1, I6)) else some (.inr s4.2)) FU (0, I)

def f_X7_lay (T : Knd) (A : Rfs) (w0 : Nat) (a1 : Int) (a2 : Int) (a3 : Int) (I : Mem) : Option Mem := if (T w0).1 = 7 then (f_X7_isSlot T A w0 a1 I).bind fun e1 => if e1 = 0 then some I else if a3 < 0 then some I else if a3 ≤ 60 then (gr T A 7 1 w0).bind fun x4 => (sto T 20 x4 a1 a2 I).bind fun I5 => (gr T A 7 2 w0).bind fun x6 => (sto T 20 x6 a1 a3 I5).bind fun I7 => (gr T A 7 0 w0).bind fun x8 => (lr T A 25 x8 a1).bind fun x9 => (f_J7_fill_d0a16 T A x9 0 I7).bind fun e10 => some e10 else some I else none
theorem k_X7_lay {T : Knd} {A : Rfs} {w0 : Nat} {a1 : Int} {a2 : Int} {a3 : Int} {I : Mem} {e : Mem} (h : f_X7_lay T A w0 a1 a2 a3 I = some e) : (T w0).1 = 7 := by
  unfold f_X7_lay at h
  exact grd_some h

def f_X11_row (T : Knd) (A : Rfs) (w0 : Nat) (a1 : Int) (a2 : Int) (a3 : Int) (I : Mem) : Option (Int × Mem) := if (T w0).1 = 11 then (gr T A 11 11 w0).bind fun x1 => (f_X7_isSlot T A x1 a1 I).bind fun e2 => if e2 = 0 then some ((-2), I) else if a2 < 0 then some ((-2), I) else if a2 < 4 then if a3 ≤ 60 then if a3 < 0 then some ((-3), I) else (gr T A 11 11 w0).bind fun x5 => (f_X7_lay T A x5 a1 a2 a3 I).bind fun e6 => some (0, e6) else some ((-2), I) else some ((-2), I) else none
theorem k_X11_row {T : Knd} {A : Rfs} {w0 : Nat} {a1 : Int} {a2 : Int} {a3 : Int} {I : Mem} {e : (Int × Mem)} (h : f_X11_row T A w0 a1 a2 a3 I = some e) : (T w0).1 = 11 := by
  unfold f_X11_row at h
  exact grd_some h

def f_X7_cut (T : Knd) (A : Rfs) (a0 : Int) (a2 : Int) (I : Mem) : Option Int := if a2 = 0 then some (i2b (wrap a0)) else if a2 = 1 then some (i2s (wrap a0)) else if a2 = 2 then some (wrap a0) else some a0

def f_X7_set (T : Knd) (A : Rfs) (w0 : Nat) (a1 : Int) (a2 : Int) (a3 : Int) (I : Mem) : Option (Int × Mem) := if (T w0).1 = 7 then if a2 < 0 then some (0, I) else (f_X7_lengthOf T A w0 a1 I).bind fun e1 => if a2 < e1 then (gr T A 7 0 w0).bind fun x4 => (lr T A 25 x4 a1).bind fun x5 => (gr T A 7 1 w0).bind fun x6 => (ld T 20 x6 a1 I).bind fun x7 => (f_X7_cut T A a3 x7 I).bind fun e9 => (sto T 21 x5 a2 e9 I).bind fun I12 => some (1, I12) else some (0, I) else none
theorem k_X7_set {T : Knd} {A : Rfs} {w0 : Nat} {a1 : Int} {a2 : Int} {a3 : Int} {I : Mem} {e : (Int × Mem)} (h : f_X7_set T A w0 a1 a2 a3 I = some e) : (T w0).1 = 7 := by
  unfold f_X7_set at h
  exact grd_some h

def f_X11_write (T : Knd) (A : Rfs) (w0 : Nat) (a1 : Int) (a2 : Int) (a3 : Int) (I : Mem) : Option (Int × Mem) := if (T w0).1 = 11 then (gr T A 11 11 w0).bind fun x1 => (f_X7_isSlot T A x1 a1 I).bind fun e2 => if e2 = 0 then some ((-2), I) else (gr T A 11 11 w0).bind fun x5 => (f_X7_hasRow T A x5 a1 I).bind fun e6 => if e6 = 0 then some ((-6), I) else (gr T A 11 11 w0).bind fun x9 => (f_X7_set T A x9 a1 a2 a3 I).bind fun e10 => if e10.1 = 0 then some ((-7), e10.2) else some (0, e10.2) else none
theorem k_X11_write {T : Knd} {A : Rfs} {w0 : Nat} {a1 : Int} {a2 : Int} {a3 : Int} {I : Mem} {e : (Int × Mem)} (h : f_X11_write T A w0 a1 a2 a3 I = some e) : (T w0).1 = 11 := by
  unfold f_X11_write at h
  exact grd_some h

def f_X7_widthOf (T : Knd) (A : Rfs) (w0 : Nat) (a1 : Int) (I : Mem) : Option Int := if (T w0).1 = 7 then (f_X7_isSlot T A w0 a1 I).bind fun e1 => if e1 = 0 then some (-1) else (gr T A 7 1 w0).bind fun x4 => (ld T 20 x4 a1 I).bind fun x5 => some x5 else none
theorem k_X7_widthOf {T : Knd} {A : Rfs} {w0 : Nat} {a1 : Int} {I : Mem} {e : Int} (h : f_X7_widthOf T A w0 a1 I = some e) : (T w0).1 = 7 := by
  unfold f_X7_widthOf at h
  exact grd_some h

def f_X7_reaches (T : Knd) (A : Rfs) (w0 : Nat) (a1 : Int) (a2 : Int) (a3 : Int) (I : Mem) : Option Int := if (T w0).1 = 7 then (f_X7_lengthOf T A w0 a1 I).bind fun e1 => if a2 < 0 then some 0 else if a3 < 0 then some 0 else if a2 ≤ e1 then if a3 ≤ (isb e1 a2) then some 1 else some 0 else some 0 else none
theorem k_X7_reaches {T : Knd} {A : Rfs} {w0 : Nat} {a1 : Int} {a2 : Int} {a3 : Int} {I : Mem} {e : Int} (h : f_X7_reaches T A w0 a1 a2 a3 I = some e) : (T w0).1 = 7 := by
  unfold f_X7_reaches at h
  exact grd_some h

def f_X7_copy (T : Knd) (A : Rfs) (w0 : Nat) (a1 : Int) (a2 : Int) (a3 : Int) (a4 : Int) (a5 : Int) (I : Mem) : Option Mem := if (T w0).1 = 7 then (f_X7_reaches T A w0 a1 a2 a5 I).bind fun e1 => if e1 = 0 then some I else (f_X7_reaches T A w0 a3 a4 a5 I).bind fun e4 => if e4 = 0 then some I else (f_X7_hasRow T A w0 a1 I).bind fun e7 => if e7 = 0 then some I else (f_X7_hasRow T A w0 a3 I).bind fun e10 => if e10 = 0 then some I else (gr T A 7 0 w0).bind fun x13 => (lr T A 25 x13 a1).bind fun x14 => (gr T A 7 0 w0).bind fun x15 => (lr T A 25 x15 a3).bind fun x16 => (acp T 21 x14 a2 x16 a4 a5 I).bind fun I17 => some I17 else none
theorem k_X7_copy {T : Knd} {A : Rfs} {w0 : Nat} {a1 : Int} {a2 : Int} {a3 : Int} {a4 : Int} {a5 : Int} {I : Mem} {e : Mem} (h : f_X7_copy T A w0 a1 a2 a3 a4 a5 I = some e) : (T w0).1 = 7 := by
  unfold f_X7_copy at h
  exact grd_some h

def f_X11_paste (T : Knd) (A : Rfs) (w0 : Nat) (a1 : Int) (a2 : Int) (a3 : Int) (a4 : Int) (a5 : Int) (I : Mem) : Option (Int × Mem) := if (T w0).1 = 11 then (gr T A 11 11 w0).bind fun x1 => (f_X7_isSlot T A x1 a1 I).bind fun e2 => if e2 = 0 then some ((-2), I) else (gr T A 11 11 w0).bind fun x5 => (f_X7_isSlot T A x5 a3 I).bind fun e6 => if e6 = 0 then some ((-2), I) else (gr T A 11 11 w0).bind fun x9 => (f_X7_hasRow T A x9 a1 I).bind fun e10 => if e10 = 0 then some ((-6), I) else (gr T A 11 11 w0).bind fun x13 => (f_X7_hasRow T A x13 a3 I).bind fun e14 => if e14 = 0 then some ((-6), I) else (gr T A 11 11 w0).bind fun x17 => (f_X7_widthOf T A x17 a1 I).bind fun e18 => (gr T A 11 11 w0).bind fun x21 => (f_X7_widthOf T A x21 a3 I).bind fun e22 => if e18 = e22 then (gr T A 11 11 w0).bind fun x25 => (f_X7_reaches T A x25 a1 a2 a5 I).bind fun e26 => if e26 = 0 then some ((-7), I) else (gr T A 11 11 w0).bind fun x29 => (f_X7_reaches T A x29 a3 a4 a5 I).bind fun e30 => if e30 = 0 then some ((-7), I) else (gr T A 11 11 w0).bind fun x33 => (f_X7_copy T A x33 a1 a2 a3 a4 a5 I).bind fun e34 => some (0, e34) else some ((-8), I) else none
theorem k_X11_paste {T : Knd} {A : Rfs} {w0 : Nat} {a1 : Int} {a2 : Int} {a3 : Int} {a4 : Int} {a5 : Int} {I : Mem} {e : (Int × Mem)} (h : f_X11_paste T A w0 a1 a2 a3 a4 a5 I = some e) : (T w0).1 = 11 := by
  unfold f_X11_paste at h
  exact grd_some h

def f_X12_in (T : Knd) (A : Rfs) (a0 : Int) (a2 : Int) (a4 : Int) (I : Mem) : Option Int := if (ilcmp a0 a2) < 0 then some 0 else if (ilcmp a0 a4) ≤ 0 then some 1 else some 0

def f_X12_isSlot (T : Knd) (A : Rfs) (a0 : Int) (I : Mem) : Option Int := (f_X12_in T A a0 0 3 I).bind fun e1 => (zck e1).bind fun _ => some e1

def f_X12_row (T : Knd) (A : Rfs) (w0 : Nat) (a1 : Int) (a2 : Int) (a3 : Int) (I : Mem) : Option (Int × Mem) := if (T w0).1 = 12 then (pi T 12 0 w0 0 I).bind fun I1 => (f_X12_isSlot T A a1 I1).bind fun e2 => if e2 = 0 then some ((-2), I1) else (f_X12_in T A a2 0 3 I1).bind fun e5 => if e5 = 0 then some ((-2), I1) else if a3 ≤ 60 then if a3 < 0 then some ((-3), I1) else (gr T A 12 1 w0).bind fun x8 => (sto T 20 x8 a1 a2 I1).bind fun I9 => (gr T A 12 2 w0).bind fun x10 => (sto T 20 x10 a1 a3 I9).bind fun I11 => it (fun (s13 : Int × Mem) => if s13.1 < a3 then (gr T A 12 3 w0).bind fun x15 => (sto T 21 x15 (ia (im 60 a1) s13.1) 0 s13.2).bind fun I16 => some (.inl (ia s13.1 1, I16)) else some (.inr (0, s13.2))) FU (0, I11) else some ((-2), I1) else none
theorem k_X12_row {T : Knd} {A : Rfs} {w0 : Nat} {a1 : Int} {a2 : Int} {a3 : Int} {I : Mem} {e : (Int × Mem)} (h : f_X12_row T A w0 a1 a2 a3 I = some e) : (T w0).1 = 12 := by
  unfold f_X12_row at h
  exact grd_some h

def f_X12_cut (T : Knd) (A : Rfs) (a0 : Int) (a2 : Int) (I : Mem) : Option Int := if a2 = 0 then some (i2b (wrap a0)) else if a2 = 1 then some (i2s (wrap a0)) else if a2 = 2 then some (wrap a0) else some a0

def f_X12_write (T : Knd) (A : Rfs) (w0 : Nat) (a1 : Int) (a2 : Int) (a3 : Int) (I : Mem) : Option (Int × Mem) := if (T w0).1 = 12 then (pi T 12 0 w0 0 I).bind fun I1 => (f_X12_isSlot T A a1 I1).bind fun e2 => if e2 = 0 then some ((-2), I1) else (gr T A 12 1 w0).bind fun x5 => (ld T 20 x5 a1 I1).bind fun x6 => if x6 = (-1) then some ((-6), I1) else (gr T A 12 2 w0).bind fun x8 => (ld T 20 x8 a1 I1).bind fun x9 => (f_X12_in T A a2 0 (isb x9 1) I1).bind fun e11 => if e11 = 0 then some ((-7), I1) else (gr T A 12 3 w0).bind fun x14 => (gr T A 12 1 w0).bind fun x15 => (ld T 20 x15 a1 I1).bind fun x16 => (f_X12_cut T A a3 x16 I1).bind fun e18 => (sto T 21 x14 (ia (im 60 a1) a2) e18 I1).bind fun I21 => some (0, I21) else none
theorem k_X12_write {T : Knd} {A : Rfs} {w0 : Nat} {a1 : Int} {a2 : Int} {a3 : Int} {I : Mem} {e : (Int × Mem)} (h : f_X12_write T A w0 a1 a2 a3 I = some e) : (T w0).1 = 12 := by
  unfold f_X12_write at h
  exact grd_some h

def f_X12_paste (T : Knd) (A : Rfs) (w0 : Nat) (a1 : Int) (a2 : Int) (a3 : Int) (a4 : Int) (a5 : Int) (I : Mem) : Option (Int × Mem) := if (T w0).1 = 12 then (pi T 12 0 w0 0 I).bind fun I1 => (f_X12_isSlot T A a1 I1).bind fun e2 => if e2 = 0 then some ((-2), I1) else (f_X12_isSlot T A a3 I1).bind fun e5 => if e5 = 0 then some ((-2), I1) else (gr T A 12 1 w0).bind fun x8 => (ld T 20 x8 a1 I1).bind fun x9 => if x9 = (-1) then some ((-6), I1) else (gr T A 12 1 w0).bind fun x11 => (ld T 20 x11 a3 I1).bind fun x12 => if x12 = (-1) then some ((-6), I1) else (gr T A 12 1 w0).bind fun x14 => (ld T 20 x14 a1 I1).bind fun x15 => (gr T A 12 1 w0).bind fun x17 => (ld T 20 x17 a3 I1).bind fun x18 => if x15 = x18 then if a2 < 0 then some ((-7), I1) else if a4 < 0 then some ((-7), I1) else if a5 < 0 then some ((-7), I1) else (gr T A 12 2 w0).bind fun x20 => (ld T 20 x20 a1 I1).bind fun x21 => if (ilcmp (ila a2 a5) x21) ≤ 0 then (gr T A 12 2 w0).bind fun x23 => (ld T 20 x23 a3 I1).bind fun x24 => if (ilcmp (ila a4 a5) x24) ≤ 0 then thn (it (fun (s29 : Int × Mem) => if s29.1 < a5 then (gr T A 12 4 w0).bind fun x31 => (gr T A 12 3 w0).bind fun x32 => (ld T 21 x32 (ia (ia (im 60 a1) a2) s29.1) s29.2).bind fun x33 => (sto T 21 x31 s29.1 x33 s29.2).bind fun I35 => some (.inl (ia s29.1 1, I35)) else some (.inr (.inl s29.2))) FU (0, I1)) (fun (v27 : Mem) => it (fun (s37 : Int × Mem) => if s37.1 < a5 then (gr T A 12 3 w0).bind fun x39 => (gr T A 12 4 w0).bind fun x40 => (ld T 21 x40 s37.1 s37.2).bind fun x41 => (sto T 21 x39 (ia (ia (im 60 a3) a4) s37.1) x41 s37.2).bind fun I43 => some (.inl (ia s37.1 1, I43)) else some (.inr (0, s37.2))) FU (0, v27)) else some ((-7), I1) else some ((-7), I1) else some ((-8), I1) else none
theorem k_X12_paste {T : Knd} {A : Rfs} {w0 : Nat} {a1 : Int} {a2 : Int} {a3 : Int} {a4 : Int} {a5 : Int} {I : Mem} {e : (Int × Mem)} (h : f_X12_paste T A w0 a1 a2 a3 a4 a5 I = some e) : (T w0).1 = 12 := by
  unfold f_X12_paste at h
  exact grd_some h

def f_X12_four (T : Knd) (A : Rfs) (w0 : Nat) (a1 : Int) (I : Mem) : Option Mem := if (T w0).1 = 12 then it (fun (s2 : Int × Mem) => if s2.1 < 0 then some (.inr s2.2) else (gr T A 12 5 w0).bind fun x4 => (gi T 12 6 w0 s2.2).bind fun x5 => (sto T 22 x4 x5 (i2b (i2b (ishr a1 s2.1))) s2.2).bind fun I7 => (gi T 12 6 w0 I7).bind fun x8 => (pi T 12 6 w0 (ia x8 1) I7).bind fun I10 => some (.inl (ia s2.1 (-8), I10))) FU (24, I) else none
theorem k_X12_four {T : Knd} {A : Rfs} {w0 : Nat} {a1 : Int} {I : Mem} {e : Mem} (h : f_X12_four T A w0 a1 I = some e) : (T w0).1 = 12 := by
  unfold f_X12_four at h
  exact grd_some h

def f_X12_feed (T : Knd) (A : Rfs) (w0 : Nat) (a1 : Int) (a2 : Int) (a3 : Int) (a4 : Int) (a5 : Int) (I : Mem) : Option (Int × Mem) := if (T w0).1 = 12 then (pi T 12 0 w0 0 I).bind fun I1 => (gi T 12 6 w0 I1).bind fun x2 => if (ia x2 20) ≤ 1600 then (f_X12_four T A w0 a1 I1).bind fun e4 => (f_X12_four T A w0 a2 e4).bind fun e6 => (f_X12_four T A w0 a3 e6).bind fun e8 => (f_X12_four T A w0 a4 e8).bind fun e10 => (f_X12_four T A w0 a5 e10).bind fun e12 => (gi T 12 6 w0 e12).bind fun x14 => some (x14, e12) else some ((-1), I1) else none
theorem k_X12_feed {T : Knd} {A : Rfs} {w0 : Nat} {a1 : Int} {a2 : Int} {a3 : Int} {a4 : Int} {a5 : Int} {I : Mem} {e : (Int × Mem)} (h : f_X12_feed T A w0 a1 a2 a3 a4 a5 I = some e) : (T w0).1 = 12 := by
  unfold f_X12_feed at h
  exact grd_some h

def f_X12_end (T : Knd) (A : Rfs) (w0 : Nat) (a1 : Int) (I : Mem) : Option (Int × Mem) := if (T w0).1 = 12 then (pi T 12 0 w0 0 I).bind fun I1 => (gi T 12 6 w0 I1).bind fun x2 => (f_X12_in T A a1 0 x2 I1).bind fun e4 => if e4 = 0 then some ((-1), I1) else (pi T 12 6 w0 a1 I1).bind fun I7 => some (a1, I7) else none
theorem k_X12_end {T : Knd} {A : Rfs} {w0 : Nat} {a1 : Int} {I : Mem} {e : (Int × Mem)} (h : f_X12_end T A w0 a1 I = some e) : (T w0).1 = 12 := by
  unfold f_X12_end at h
  exact grd_some h

def f_X12_isByte (T : Knd) (A : Rfs) (w0 : Nat) (a1 : Int) (a2 : Int) (a3 : Int) (I : Mem) : Option Int := if (T w0).1 = 12 then (gi T 12 6 w0 I).bind fun x1 => if a1 < x1 then (gr T A 12 5 w0).bind fun x3 => (ld T 22 x3 a1 I).bind fun x4 => if x4 < a2 then some 0 else (gr T A 12 5 w0).bind fun x6 => (ld T 22 x6 a1 I).bind fun x7 => if x7 ≤ a3 then some 1 else some 0 else some 0 else none
theorem k_X12_isByte {T : Knd} {A : Rfs} {w0 : Nat} {a1 : Int} {a2 : Int} {a3 : Int} {I : Mem} {e : Int} (h : f_X12_isByte T A w0 a1 a2 a3 I = some e) : (T w0).1 = 12 := by
  unfold f_X12_isByte at h
  exact grd_some h

def f_X12_next (T : Knd) (A : Rfs) (w0 : Nat) (I : Mem) : Option Mem := if (T w0).1 = 12 then thn (it (fun (s4 : Mem) => (gi T 12 7 w0 s4).bind fun x5 => (f_X12_isByte T A w0 x5 32 32 s4).bind fun e7 => thn (if e7 = 0 then (gi T 12 7 w0 s4).bind fun x12 => (f_X12_isByte T A w0 x12 10 10 s4).bind fun e14 => if e14 = 0 then some (.inr (.inr (.inl s4))) else some (.inl ()) else some (.inl ())) (fun (v11 : Unit) => (gi T 12 7 w0 s4).bind fun x17 => (pi T 12 7 w0 (ia x17 1) s4).bind fun I19 => some (.inl I19))) FU I) (fun (v2 : Mem) => (gi T 12 7 w0 v2).bind fun x20 => (pi T 12 9 w0 x20 v2).bind fun I22 => (pi T 12 10 w0 0 I22).bind fun I23 => (pi T 12 11 w0 0 I23).bind fun I24 => (gi T 12 7 w0 I24).bind fun x25 => (gi T 12 6 w0 I24).bind fun x27 => if x25 = x27 then (pi T 12 8 w0 0 I24).bind fun I101 => some I101 else (gi T 12 7 w0 I24).bind fun x29 => (f_X12_isByte T A w0 x29 97 122 I24).bind fun e31 => if e31 = 0 then (gi T 12 7 w0 I24).bind fun x34 => (f_X12_isByte T A w0 x34 48 57 I24).bind fun e36 => if e36 = 0 then (gr T A 12 5 w0).bind fun x39 => (gi T 12 7 w0 I24).bind fun x40 => (ld T 22 x39 x40 I24).bind fun x42 => thn (if x42 = 59 then some (.inl 3) else some (.inl 4)) (fun (v45 : Int) => (pi T 12 8 w0 v45 I24).bind fun I47 => (gi T 12 7 w0 I47).bind fun x48 => (pi T 12 7 w0 (ia x48 1) I47).bind fun I50 => some I50) else (pi T 12 8 w0 2 I24).bind fun I51 => it (fun (s53 : Mem) => (gi T 12 7 w0 s53).bind fun x54 => (f_X12_isByte T A w0 x54 48 57 s53).bind fun e56 => if e56 = 0 then some (.inr s53) else (gi T 12 10 w0 s53).bind fun x59 => thn (if x59 ≤ 100000 then (gi T 12 10 w0 s53).bind fun x64 => (gr T A 12 5 w0).bind fun x66 => (gi T 12 7 w0 s53).bind fun x67 => (ld T 22 x66 x67 s53).bind fun x69 => some (.inl (isb (ia (im 10 x64) x69) 48)) else some (.inl 1000000)) (fun (v62 : Int) => (pi T 12 10 w0 v62 s53).bind fun I71 => (gi T 12 7 w0 I71).bind fun x72 => (pi T 12 7 w0 (ia x72 1) I71).bind fun I74 => some (.inl I74))) FU I51 else (pi T 12 8 w0 1 I24).bind fun I75 => it (fun (s77 : Int × Mem) => (gi T 12 7 w0 s77.2).bind fun x79 => (f_X12_isByte T A w0 x79 97 122 s77.2).bind fun e81 => if e81 = 0 then some (.inr s77.2) else thn (if s77.1 ≤ 11 then (gi T 12 11 w0 s77.2).bind fun x87 => (gr T A 12 5 w0).bind fun x89 => (gi T 12 7 w0 s77.2).bind fun x90 => (ld T 22 x89 x90 s77.2).bind fun x92 => some (.inl (ils (ila (ilm 27 x87) x92) 96)) else some (.inl (-1))) (fun (v85 : Int) => (pi T 12 11 w0 v85 s77.2).bind fun I94 => thn (if s77.1 ≤ 11 then some (.inl I94) else (pi T 12 11 w0 (-1) I94).bind fun I97 => some (.inl I97)) (fun (v96 : Mem) => (gi T 12 7 w0 v96).bind fun x98 => (pi T 12 7 w0 (ia x98 1) v96).bind fun I100 => some (.inl (ia s77.1 1, I100))))) FU (0, I75)) else none
theorem k_X12_next {T : Knd} {A : Rfs} {w0 : Nat} {I : Mem} {e : Mem} (h : f_X12_next T A w0 I = some e) : (T w0).1 = 12 := by
  unfold f_X12_next at h
  exact grd_some h

def f_X12_isGood (T : Knd) (A : Rfs) (w0 : Nat) (I : Mem) : Option Int := if (T w0).1 = 12 then (gi T 12 12 w0 I).bind fun x1 => if x1 = 0 then some 1 else some 0 else none
theorem k_X12_isGood {T : Knd} {A : Rfs} {w0 : Nat} {I : Mem} {e : Int} (h : f_X12_isGood T A w0 I = some e) : (T w0).1 = 12 := by
  unfold f_X12_isGood at h
  exact grd_some h

def f_X12_fails (T : Knd) (A : Rfs) (w0 : Nat) (a1 : Int) (I : Mem) : Option Mem := if (T w0).1 = 12 then (gi T 12 12 w0 I).bind fun x1 => if x1 = 0 then (pi T 12 12 w0 a1 I).bind fun I3 => (gi T 12 9 w0 I3).bind fun x4 => (pi T 12 13 w0 x4 I3).bind fun I6 => some I6 else some I else none
theorem k_X12_fails {T : Knd} {A : Rfs} {w0 : Nat} {a1 : Int} {I : Mem} {e : Mem} (h : f_X12_fails T A w0 a1 I = some e) : (T w0).1 = 12 := by
  unfold f_X12_fails at h
  exact grd_some h

def f_X12_is (T : Knd) (A : Rfs) (w0 : Nat) (a1 : Int) (I : Mem) : Option Int := if (T w0).1 = 12 then (gi T 12 12 w0 I).bind fun x1 => if x1 = 0 then (gi T 12 8 w0 I).bind fun x3 => if x3 = 1 then (gi T 12 11 w0 I).bind fun x5 => if (ilcmp x5 a1) = 0 then some 1 else some 0 else some 0 else some 0 else none
theorem k_X12_is {T : Knd} {A : Rfs} {w0 : Nat} {a1 : Int} {I : Mem} {e : Int} (h : f_X12_is T A w0 a1 I = some e) : (T w0).1 = 12 := by
  unfold f_X12_is at h
  exact grd_some h

def f_X12_takes (T : Knd) (A : Rfs) (w0 : Nat) (a1 : Int) (I : Mem) : Option (Int × Mem) := if (T w0).1 = 12 then (f_X12_is T A w0 a1 I).bind fun e1 => if e1 = 0 then some (0, I) else (f_X12_next T A w0 I).bind fun e4 => some (1, e4) else none
theorem k_X12_takes {T : Knd} {A : Rfs} {w0 : Nat} {a1 : Int} {I : Mem} {e : (Int × Mem)} (h : f_X12_takes T A w0 a1 I = some e) : (T w0).1 = 12 := by
  unfold f_X12_takes at h
  exact grd_some h

def f_X12_asks (T : Knd) (A : Rfs) (w0 : Nat) (a1 : Int) (I : Mem) : Option Mem := if (T w0).1 = 12 then (f_X12_takes T A w0 a1 I).bind fun e1 => if e1.1 = 0 then (f_X12_fails T A w0 1 e1.2).bind fun e4 => some e4 else some e1.2 else none
theorem k_X12_asks {T : Knd} {A : Rfs} {w0 : Nat} {a1 : Int} {I : Mem} {e : Mem} (h : f_X12_asks T A w0 a1 I = some e) : (T w0).1 = 12 := by
  unfold f_X12_asks at h
  exact grd_some h

def f_X12_number (T : Knd) (A : Rfs) (w0 : Nat) (a1 : Int) (a2 : Int) (I : Mem) : Option (Int × Mem) := if (T w0).1 = 12 then (gi T 12 12 w0 I).bind fun x1 => if x1 = 0 then (gi T 12 8 w0 I).bind fun x3 => if x3 = 2 then (gi T 12 10 w0 I).bind fun x5 => (f_X12_in T A x5 a1 a2 I).bind fun e7 => if e7 = 0 then (f_X12_fails T A w0 2 I).bind fun e14 => some (a1, e14) else (gi T 12 10 w0 I).bind fun x10 => (f_X12_next T A w0 I).bind fun e12 => some (x10, e12) else (f_X12_fails T A w0 1 I).bind fun e16 => some (a1, e16) else some (a1, I) else none
theorem k_X12_number {T : Knd} {A : Rfs} {w0 : Nat} {a1 : Int} {a2 : Int} {I : Mem} {e : (Int × Mem)} (h : f_X12_number T A w0 a1 a2 I = some e) : (T w0).1 = 12 := by
  unfold f_X12_number at h
  exact grd_some h

def f_X12_number_ (T : Knd) (A : Rfs) (w0 : Nat) (a1 : Int) (a3 : Int) (a4 : Int) (I : Mem) : Option (Int × Mem) := if (T w0).1 = 12 then (f_X12_asks T A w0 a1 I).bind fun e1 => (f_X12_number T A w0 a3 a4 e1).bind fun e3 => some (e3.1, e3.2) else none
theorem k_X12_number_ {T : Knd} {A : Rfs} {w0 : Nat} {a1 : Int} {a3 : Int} {a4 : Int} {I : Mem} {e : (Int × Mem)} (h : f_X12_number_ T A w0 a1 a3 a4 I = some e) : (T w0).1 = 12 := by
  unfold f_X12_number_ at h
  exact grd_some h

def f_X12_ends (T : Knd) (A : Rfs) (w0 : Nat) (I : Mem) : Option Mem := if (T w0).1 = 12 then (gi T 12 8 w0 I).bind fun x1 => thn (if x1 = 3 then some (.inl I) else (f_X12_fails T A w0 1 I).bind fun e5 => some (.inl e5)) (fun (v4 : Mem) => (gi T 12 12 w0 v4).bind fun x7 => if x7 = 0 then (f_X12_next T A w0 v4).bind fun e9 => some e9 else some v4) else none
theorem k_X12_ends {T : Knd} {A : Rfs} {w0 : Nat} {I : Mem} {e : Mem} (h : f_X12_ends T A w0 I = some e) : (T w0).1 = 12 := by
  unfold f_X12_ends at h
  exact grd_some h

def f_X12_begins (T : Knd) (A : Rfs) (w0 : Nat) (I : Mem) : Option Mem := if (T w0).1 = 12 then (pi T 12 12 w0 0 I).bind fun I1 => (pi T 12 13 w0 (-1) I1).bind fun I2 => (pi T 12 7 w0 0 I2).bind fun I3 => (f_X12_next T A w0 I3).bind fun e4 => some e4 else none
theorem k_X12_begins {T : Knd} {A : Rfs} {w0 : Nat} {I : Mem} {e : Mem} (h : f_X12_begins T A w0 I = some e) : (T w0).1 = 12 := by
  unfold f_X12_begins at h
  exact grd_some h

def f_X12_isOver (T : Knd) (A : Rfs) (w0 : Nat) (I : Mem) : Option Mem := if (T w0).1 = 12 then (pi T 12 6 w0 0 I).bind fun I1 => (gi T 12 12 w0 I1).bind fun x2 => (pi T 12 14 w0 x2 I1).bind fun I4 => (gi T 12 12 w0 I4).bind fun x5 => thn (if x5 = 0 then some (.inl (-1)) else (gi T 12 13 w0 I4).bind fun x10 => some (.inl x10)) (fun (v8 : Int) => (pi T 12 15 w0 v8 I4).bind fun I12 => some I12) else none
theorem k_X12_isOver {T : Knd} {A : Rfs} {w0 : Nat} {I : Mem} {e : Mem} (h : f_X12_isOver T A w0 I = some e) : (T w0).1 = 12 := by
  unfold f_X12_isOver at h
  exact grd_some h

def f_X12_fault (T : Knd) (A : Rfs) (w0 : Nat) (a1 : Int) (I : Mem) : Option (Int × Mem) := if (T w0).1 = 12 then (pi T 12 0 w0 0 I).bind fun I1 => if a1 = 0 then (gi T 12 14 w0 I1).bind fun x4 => some (x4, I1) else if a1 = 1 then (gi T 12 15 w0 I1).bind fun x2 => some (x2, I1) else some ((-1), I1) else none
theorem k_X12_fault {T : Knd} {A : Rfs} {w0 : Nat} {a1 : Int} {I : Mem} {e : (Int × Mem)} (h : f_X12_fault T A w0 a1 I = some e) : (T w0).1 = 12 := by
  unfold f_X12_fault at h
  exact grd_some h

def f_X12_hasRead (T : Knd) (A : Rfs) (w0 : Nat) (a1 : Int) (I : Mem) : Option Int := if (T w0).1 = 12 then (gr T A 12 17 w0).bind fun x1 => (ld T 20 x1 (ia 24 a1) I).bind fun x2 => some x2 else none
theorem k_X12_hasRead {T : Knd} {A : Rfs} {w0 : Nat} {a1 : Int} {I : Mem} {e : Int} (h : f_X12_hasRead T A w0 a1 I = some e) : (T w0).1 = 12 := by
  unfold f_X12_hasRead at h
  exact grd_some h

def f_X12_reads (T : Knd) (A : Rfs) (w0 : Nat) (a1 : Int) (a2 : Int) (I : Mem) : Option Mem := if (T w0).1 = 12 then (gr T A 12 17 w0).bind fun x1 => (sto T 20 x1 (ia 24 a1) a2 I).bind fun I2 => some I2 else none
theorem k_X12_reads {T : Knd} {A : Rfs} {w0 : Nat} {a1 : Int} {a2 : Int} {I : Mem} {e : Mem} (h : f_X12_reads T A w0 a1 a2 I = some e) : (T w0).1 = 12 := by
  unfold f_X12_reads at h
  exact grd_some h

def f_X12_placeRead (T : Knd) (A : Rfs) (w0 : Nat) (a1 : Int) (I : Mem) : Option Int := if (T w0).1 = 12 then some (im 9 (ia 32 a1)) else none
theorem k_X12_placeRead {T : Knd} {A : Rfs} {w0 : Nat} {a1 : Int} {I : Mem} {e : Int} (h : f_X12_placeRead T A w0 a1 I = some e) : (T w0).1 = 12 := by
  unfold f_X12_placeRead at h
  exact grd_some h

def f_X12_officialHere (T : Knd) (A : Rfs) (w0 : Nat) (I : Mem) : Option (Int × Mem) := if (T w0).1 = 12 then (f_X12_hasRead T A w0 3 I).bind fun e1 => (f_X12_number T A w0 0 (isb e1 1) I).bind fun e4 => some (e4.1, e4.2) else none
theorem k_X12_officialHere {T : Knd} {A : Rfs} {w0 : Nat} {I : Mem} {e : (Int × Mem)} (h : f_X12_officialHere T A w0 I = some e) : (T w0).1 = 12 := by
  unfold f_X12_officialHere at h
  exact grd_some h

def f_X12_roomHere (T : Knd) (A : Rfs) (w0 : Nat) (I : Mem) : Option (Int × Mem) := if (T w0).1 = 12 then (f_X12_hasRead T A w0 0 I).bind fun e1 => (f_X12_number T A w0 0 (isb e1 1) I).bind fun e4 => some (e4.1, e4.2) else none
theorem k_X12_roomHere {T : Knd} {A : Rfs} {w0 : Nat} {I : Mem} {e : (Int × Mem)} (h : f_X12_roomHere T A w0 I = some e) : (T w0).1 = 12 := by
  unfold f_X12_roomHere at h
  exact grd_some h

def f_X12_officialLine (T : Knd) (A : Rfs) (w0 : Nat) (I : Mem) : Option Mem := if (T w0).1 = 12 then (f_X12_hasRead T A w0 3 I).bind fun e1 => (f_X12_placeRead T A w0 e1 I).bind fun e4 => thn (it (fun (s10 : Int × Mem) => if s10.1 < 9 then (gr T A 12 18 w0).bind fun x12 => thn (thn (if s10.1 ≤ 3 then some (.inl ()) else if s10.1 = 6 then some (.inl ()) else some (.inr (.inl (-1)))) (fun (v17 : Unit) => some (.inl 0))) (fun (v14 : Int) => (sto T 20 x12 (ia e4 s10.1) v14 s10.2).bind fun I18 => some (.inl (ia s10.1 1, I18))) else some (.inr (.inl s10.2))) FU (0, I)) (fun (v8 : Mem) => (gr T A 12 19 w0).bind fun x19 => (sto T 20 x19 (ia 32 e1) 0 v8).bind fun I20 => (gr T A 12 20 w0).bind fun x21 => (sto T 20 x21 (ia 32 e1) 0 I20).bind fun I22 => (f_X12_asks T A w0 365647 I22).bind fun e23 => (gr T A 12 18 w0).bind fun x25 => (f_X12_roomHere T A w0 e23).bind fun e26 => (sto T 20 x25 e4 e26.1 e26.2).bind fun I29 => (gr T A 12 18 w0).bind fun x30 => (f_X12_number_ T A w0 131638 0 9 I29).bind fun e31 => (sto T 20 x30 (ia e4 1) e31.1 e31.2).bind fun I34 => (gr T A 12 18 w0).bind fun x35 => (gr T A 12 18 w0).bind fun x36 => (ld T 20 x36 (ia e4 1) I34).bind fun x37 => (f_X12_number_ T A w0 555 x37 9 I34).bind fun e39 => (sto T 20 x35 (ia e4 2) e39.1 e39.2).bind fun I42 => (gr T A 12 18 w0).bind fun x43 => (f_X12_number_ T A w0 80155 1 31 I42).bind fun e44 => (sto T 20 x43 (ia e4 3) e44.1 e44.2).bind fun I47 => thn (it (fun (s51 : Int × Mem) => (f_X12_isGood T A w0 s51.2).bind fun e53 => if e53 = 0 then some (.inr (.inl s51.2)) else (gi T 12 8 w0 s51.2).bind fun x56 => if x56 = 1 then (f_X12_is T A w0 6800930 s51.2).bind fun e58 => thn (if e58 = 0 then (f_X12_is T A w0 3211399 s51.2).bind fun e64 => if e64 = 0 then (f_X12_is T A w0 8863997 s51.2).bind fun e67 => if e67 = 0 then some (.inl (-1)) else some (.inl 6) else some (.inl 5) else some (.inl 4)) (fun (v62 : Int) => thn (thn (if v62 = (-1) then some (.inl ()) else if v62 = 6 then if s51.1 = 0 then some (.inr (.inl s51.2)) else some (.inl ()) else (gr T A 12 18 w0).bind fun x74 => (ld T 20 x74 (ia e4 v62) s51.2).bind fun x75 => if x75 = (-1) then some (.inr (.inl s51.2)) else some (.inl ())) (fun (v73 : Unit) => (f_X12_fails T A w0 1 s51.2).bind fun e77 => some (.inl e77))) (fun (v71 : Mem) => (gi T 12 12 w0 v71).bind fun x79 => if x79 = 0 then (f_X12_next T A w0 v71).bind fun e81 => (gr T A 12 18 w0).bind fun x83 => thn (if v62 = 4 then (f_X12_number T A w0 0 9 e81).bind fun e93 => some (.inl (e93.1, e93.2)) else if v62 = 5 then (f_X12_number T A w0 1 20 e81).bind fun e90 => some (.inl (e90.1, e90.2)) else (f_X12_number T A w0 0 99 e81).bind fun e87 => some (.inl (e87.1, e87.2))) (fun (v85 : Int × Mem) => (sto T 20 x83 (ia e4 v62) v85.1 v85.2).bind fun I96 => if s51.1 = 0 then if v62 = 6 then some (.inl (1, I96)) else some (.inl (0, I96)) else some (.inl (1, I96))) else some (.inr (.inr v71)))) else some (.inr (.inl s51.2))) FU (0, I47)) (fun (v49 : Mem) => (f_X12_reads T A w0 3 (ia e1 1) v49).bind fun e97 => some e97)) else none
theorem k_X12_officialLine {T : Knd} {A : Rfs} {w0 : Nat} {I : Mem} {e : Mem} (h : f_X12_officialLine T A w0 I = some e) : (T w0).1 = 12 := by
  unfold f_X12_officialLine at h
  exact grd_some h

def f_X12_wayLine (T : Knd) (A : Rfs) (w0 : Nat) (I : Mem) : Option Mem := if (T w0).1 = 12 then (f_X12_roomHere T A w0 I).bind fun e1 => (gi T 12 12 w0 e1.2).bind fun x4 => thn (if x4 = 0 then (gi T 12 8 w0 e1.2).bind fun x8 => if x8 = 2 then (gi T 12 10 w0 e1.2).bind fun x10 => if x10 = e1.1 then (f_X12_fails T A w0 2 e1.2).bind fun e12 => some (.inl e12) else some (.inl e1.2) else some (.inl e1.2) else some (.inl e1.2)) (fun (v7 : Mem) => (f_X12_roomHere T A w0 v7).bind fun e14 => (f_X12_number T A w0 1 9 e14.2).bind fun e17 => (gi T 12 12 w0 e17.2).bind fun x20 => if x20 = 0 then (gr T A 12 21 w0).bind fun x22 => (sto T 20 x22 (ia (ia 144 (im 6 e1.1)) e14.1) e17.1 e17.2).bind fun I23 => (gr T A 12 21 w0).bind fun x24 => (sto T 20 x24 (ia (ia 144 (im 6 e14.1)) e1.1) e17.1 I23).bind fun I25 => some I25 else some e17.2) else none
theorem k_X12_wayLine {T : Knd} {A : Rfs} {w0 : Nat} {I : Mem} {e : Mem} (h : f_X12_wayLine T A w0 I = some e) : (T w0).1 = 12 := by
  unfold f_X12_wayLine at h
  exact grd_some h

def f_X12_askLine (T : Knd) (A : Rfs) (w0 : Nat) (w1 : Nat) (I : Mem) : Option Mem := if (T w0).1 = 12 then (f_X12_officialHere T A w0 I).bind fun e1 => (gi T 12 12 w0 e1.2).bind fun x4 => thn (if x4 = 0 then (gi T 12 8 w0 e1.2).bind fun x8 => if x8 = 2 then (gi T 12 10 w0 e1.2).bind fun x10 => (f_X12_hasRead T A w0 3 e1.2).bind fun e12 => if x10 < e12 then (gi T 12 10 w0 e1.2).bind fun x15 => thn (if x15 = e1.1 then some (.inl ()) else (ld T 20 w1 (ia 32 e1.1) e1.2).bind fun x19 => (gi T 12 10 w0 e1.2).bind fun x21 => if (iand (ishr x19 x21) 1) = 1 then some (.inl ()) else some (.inr (.inl e1.2))) (fun (v18 : Unit) => (f_X12_fails T A w0 2 e1.2).bind fun e23 => some (.inl e23)) else some (.inl e1.2) else some (.inl e1.2) else some (.inl e1.2)) (fun (v7 : Mem) => (f_X12_officialHere T A w0 v7).bind fun e25 => (f_X12_isGood T A w0 e25.2).bind fun e28 => if e28 = 0 then some e25.2 else (ld T 20 w1 (ia 32 e1.1) e25.2).bind fun x31 => (sto T 20 w1 (ia 32 e1.1) (ior x31 (ishl 1 e25.1)) e25.2).bind fun I33 => some I33) else none
theorem k_X12_askLine {T : Knd} {A : Rfs} {w0 : Nat} {w1 : Nat} {I : Mem} {e : Mem} (h : f_X12_askLine T A w0 w1 I = some e) : (T w0).1 = 12 := by
  unfold f_X12_askLine at h
  exact grd_some h

def f_X12_leaveLine (T : Knd) (A : Rfs) (w0 : Nat) (I : Mem) : Option Mem := if (T w0).1 = 12 then (f_X12_officialHere T A w0 I).bind fun e1 => (f_X12_placeRead T A w0 e1.1 e1.2).bind fun e4 => (f_X12_number_ T A w0 131638 0 39 e1.2).bind fun e7 => (f_X12_number_ T A w0 555 e7.1 39 e7.2).bind fun e10 => (gi T 12 12 w0 e10.2).bind fun x13 => if x13 = 0 then (gr T A 12 18 w0).bind fun x15 => (sto T 20 x15 (ia e4 7) e7.1 e10.2).bind fun I16 => (gr T A 12 18 w0).bind fun x17 => (sto T 20 x17 (ia e4 8) e10.1 I16).bind fun I18 => some I18 else some e10.2 else none
theorem k_X12_leaveLine {T : Knd} {A : Rfs} {w0 : Nat} {I : Mem} {e : Mem} (h : f_X12_leaveLine T A w0 I = some e) : (T w0).1 = 12 := by
  unfold f_X12_leaveLine at h
  exact grd_some h

def f_X12_line (T : Knd) (A : Rfs) (w0 : Nat) (I : Mem) : Option Mem := if (T w0).1 = 12 then (f_X12_is T A w0 159320763039 I).bind fun e1 => thn (if e1 = 0 then some (.inl I) else (f_X12_hasRead T A w0 3 I).bind fun e6 => if e6 = 8 then (f_X12_fails T A w0 3 I).bind fun e9 => some (.inl e9) else some (.inl I)) (fun (v5 : Mem) => (gi T 12 12 w0 v5).bind fun x11 => if x11 = 0 then (f_X12_is T A w0 7542361 v5).bind fun e13 => if e1 = 0 then thn (if e13 = 0 then (f_X12_is T A w0 40600 v5).bind fun e18 => if e18 = 0 then (f_X12_takes T A w0 16819 v5).bind fun e21 => if e21.1 = 0 then (f_X12_takes T A w0 6477035 e21.2).bind fun e24 => if e24.1 = 0 then (f_X12_asks T A w0 232603751 e24.2).bind fun e27 => thn (it (fun (s33 : Int × Mem) => (f_X12_officialHere T A w0 s33.2).bind fun e35 => (f_X12_isGood T A w0 e35.2).bind fun e38 => if e38 = 0 then some (.inr (.inl (ior s33.1 (ishl 1 e35.1), e35.2))) else (gi T 12 8 w0 e35.2).bind fun x41 => if x41 = 2 then some (.inl (ior s33.1 (ishl 1 e35.1), e35.2)) else some (.inr (.inl (ior s33.1 (ishl 1 e35.1), e35.2)))) FU (0, e27)) (fun (v30 : Int × Mem) => (f_X12_isGood T A w0 v30.2).bind fun e43 => if e43 = 0 then some (.inr v30.2) else (f_X12_reads T A w0 4 v30.1 v30.2).bind fun e46 => some (.inr e46)) else (f_X12_leaveLine T A w0 e24.2).bind fun e48 => some (.inr e48) else (f_X12_wayLine T A w0 e21.2).bind fun e50 => some (.inr e50) else some (.inl ()) else some (.inl ())) (fun (v17 : Unit) => (f_X12_next T A w0 v5).bind fun e52 => thn (if e13 = 0 then (gr T A 12 20 w0).bind fun x56 => some (.inl x56) else (gr T A 12 19 w0).bind fun x57 => some (.inl x57)) (fun (v55 : Nat) => (f_X12_askLine T A w0 v55 e52).bind fun e58 => some e58)) else (f_X12_next T A w0 v5).bind fun e60 => (f_X12_officialLine T A w0 e60).bind fun e62 => some e62 else some v5) else none
theorem k_X12_line {T : Knd} {A : Rfs} {w0 : Nat} {I : Mem} {e : Mem} (h : f_X12_line T A w0 I = some e) : (T w0).1 = 12 := by
  unfold f_X12_line at h
  exact grd_some h

def f_X12_clears (T : Knd) (A : Rfs) (w0 : Nat) (I : Mem) : Option Mem := if (T w0).1 = 12 then (gr T A 12 16 w0).bind fun x1 => (sto T 20 x1 4 0 I).bind fun I2 => thn (it (fun (s6 : Int × Mem) => if s6.1 < 6 then (f_X12_reads T A w0 s6.1 0 s6.2).bind fun e8 => some (.inl (ia s6.1 1, e8)) else some (.inr (.inl s6.2))) FU (0, I2)) (fun (v4 : Mem) => it (fun (s11 : Int × Mem) => if s11.1 < 36 then (gr T A 12 21 w0).bind fun x13 => (sto T 20 x13 (ia 144 s11.1) 0 s11.2).bind fun I14 => some (.inl (ia s11.1 1, I14)) else some (.inr s11.2)) FU (0, v4)) else none
theorem k_X12_clears {T : Knd} {A : Rfs} {w0 : Nat} {I : Mem} {e : Mem} (h : f_X12_clears T A w0 I = some e) : (T w0).1 = 12 := by
  unfold f_X12_clears at h
  exact grd_some h

def f_X12_copyRow (T : Knd) (A : Rfs) (w0 : Nat) (a1 : Int) (a2 : Int) (a3 : Int) (I : Mem) : Option Mem := it (fun (s2 : Int × Mem) => if s2.1 < a1 then (ld T 20 w0 (ia (im a1 a2) s2.1) s2.2).bind fun x4 => (sto T 20 w0 (ia (im a1 a3) s2.1) x4 s2.2).bind fun I6 => some (.inl (ia s2.1 1, I6)) else some (.inr s2.2)) FU (0, I)

def f_X12_copyOffice (T : Knd) (A : Rfs) (w0 : Nat) (a1 : Int) (a2 : Int) (I : Mem) : Option Mem := if (T w0).1 = 12 then (gr T A 12 16 w0).bind fun x1 => (f_X12_copyRow T A x1 1 a1 a2 I).bind fun e2 => (gr T A 12 17 w0).bind fun x4 => (f_X12_copyRow T A x4 6 a1 a2 e2).bind fun e5 => (gr T A 12 18 w0).bind fun x7 => (f_X12_copyRow T A x7 72 a1 a2 e5).bind fun e8 => (gr T A 12 19 w0).bind fun x10 => (f_X12_copyRow T A x10 8 a1 a2 e8).bind fun e11 => (gr T A 12 20 w0).bind fun x13 => (f_X12_copyRow T A x13 8 a1 a2 e11).bind fun e14 => (gr T A 12 21 w0).bind fun x16 => (f_X12_copyRow T A x16 36 a1 a2 e14).bind fun e17 => (gr T A 12 22 w0).bind fun x19 => (f_X12_copyRow T A x19 40 a1 a2 e17).bind fun e20 => some e20 else none
theorem k_X12_copyOffice {T : Knd} {A : Rfs} {w0 : Nat} {a1 : Int} {a2 : Int} {I : Mem} {e : Mem} (h : f_X12_copyOffice T A w0 a1 a2 I = some e) : (T w0).1 = 12 := by
  unfold f_X12_copyOffice at h
  exact grd_some h

def f_X12_office (T : Knd) (A : Rfs) (w0 : Nat) (I : Mem) : Option (Int × Mem) := if (T w0).1 = 12 then (pi T 12 0 w0 0 I).bind fun I1 => (f_X12_clears T A w0 I1).bind fun e2 => (f_X12_begins T A w0 e2).bind fun e4 => thn (it (fun (s9 : Mem) => (f_X12_isGood T A w0 s9).bind fun e10 => if e10 = 0 then some (.inr (.inl s9)) else (gi T 12 8 w0 s9).bind fun x13 => if x13 = 0 then some (.inr (.inl s9)) else (gr T A 12 16 w0).bind fun x15 => (ld T 20 x15 4 s9).bind fun x16 => thn (if x16 = 0 then (f_X12_asks T A w0 218546996 s9).bind fun e22 => (f_X12_number_ T A w0 9872488 1 6 e22).bind fun e24 => (f_X12_reads T A w0 0 e24.1 e24.2).bind fun e27 => (f_X12_asks T A w0 257 e27).bind fun e29 => (f_X12_roomHere T A w0 e29).bind fun e31 => (f_X12_reads T A w0 1 e31.1 e31.2).bind fun e34 => (f_X12_number_ T A w0 47 0 399 e34).bind fun e36 => (f_X12_reads T A w0 2 e36.1 e36.2).bind fun e39 => some (.inl e39) else (f_X12_line T A w0 s9).bind fun e20 => some (.inl e20)) (fun (v19 : Mem) => (f_X12_isGood T A w0 v19).bind fun e41 => thn (if e41 = 0 then some (.inl v19) else (f_X12_ends T A w0 v19).bind fun e46 => some (.inl e46)) (fun (v45 : Mem) => (gr T A 12 16 w0).bind fun x48 => (ld T 20 x48 4 v45).bind fun x49 => (sto T 20 x48 4 (ia x49 1) v45).bind fun I51 => some (.inl I51)))) FU e4) (fun (v7 : Mem) => (f_X12_isOver T A w0 v7).bind fun e52 => (gi T 12 12 w0 e52).bind fun x54 => if x54 = 0 then (f_X12_copyOffice T A w0 4 0 e52).bind fun e56 => (gr T A 12 16 w0).bind fun x58 => (ld T 20 x58 0 e56).bind fun x59 => some (x59, e56) else some ((-4), e52)) else none
theorem k_X12_office {T : Knd} {A : Rfs} {w0 : Nat} {I : Mem} {e : (Int × Mem)} (h : f_X12_office T A w0 I = some e) : (T w0).1 = 12 := by
  unfold f_X12_office at h
  exact grd_some h

def f_X12_isOffice (T : Knd) (A : Rfs) (w0 : Nat) (I : Mem) : Option Int := if (T w0).1 = 12 then (gr T A 12 16 w0).bind fun x1 => (ld T 20 x1 0 I).bind fun x2 => if x2 ≤ 0 then some 0 else some 1 else none
theorem k_X12_isOffice {T : Knd} {A : Rfs} {w0 : Nat} {I : Mem} {e : Int} (h : f_X12_isOffice T A w0 I = some e) : (T w0).1 = 12 := by
  unfold f_X12_isOffice at h
  exact grd_some h

def f_X12_isOfficial (T : Knd) (A : Rfs) (w0 : Nat) (a1 : Int) (I : Mem) : Option Int := if (T w0).1 = 12 then (gr T A 12 17 w0).bind fun x1 => (ld T 20 x1 3 I).bind fun x2 => (f_X12_in T A a1 0 (ils x2 1) I).bind fun e4 => (zck e4).bind fun _ => some e4 else none
theorem k_X12_isOfficial {T : Knd} {A : Rfs} {w0 : Nat} {a1 : Int} {I : Mem} {e : Int} (h : f_X12_isOfficial T A w0 a1 I = some e) : (T w0).1 = 12 := by
  unfold f_X12_isOfficial at h
  exact grd_some h

def f_X12_isRoom (T : Knd) (A : Rfs) (w0 : Nat) (a1 : Int) (I : Mem) : Option Int := if (T w0).1 = 12 then (gr T A 12 17 w0).bind fun x1 => (ld T 20 x1 0 I).bind fun x2 => (f_X12_in T A a1 0 (isb x2 1) I).bind fun e4 => (zck e4).bind fun _ => some e4 else none
theorem k_X12_isRoom {T : Knd} {A : Rfs} {w0 : Nat} {a1 : Int} {I : Mem} {e : Int} (h : f_X12_isRoom T A w0 a1 I = some e) : (T w0).1 = 12 := by
  unfold f_X12_isRoom at h
  exact grd_some h

def f_X12_isHour (T : Knd) (A : Rfs) (a0 : Int) (I : Mem) : Option Int := (f_X12_in T A a0 0 399 I).bind fun e1 => (zck e1).bind fun _ => some e1

def f_X12_isSet (T : Knd) (A : Rfs) (w0 : Nat) (a1 : Int) (I : Mem) : Option Int := if (T w0).1 = 12 then (f_X12_isOffice T A w0 I).bind fun e1 => if e1 = 0 then some 0 else (gr T A 12 17 w0).bind fun x4 => (ld T 20 x4 3 I).bind fun x5 => (f_X12_in T A a1 0 (isb (ishl 1 x5) 1) I).bind fun e7 => if e7 = 0 then some 0 else some 1 else none
theorem k_X12_isSet {T : Knd} {A : Rfs} {w0 : Nat} {a1 : Int} {I : Mem} {e : Int} (h : f_X12_isSet T A w0 a1 I = some e) : (T w0).1 = 12 := by
  unfold f_X12_isSet at h
  exact grd_some h

def f_X12_isBit (T : Knd) (A : Rfs) (a0 : Int) (a1 : Int) (I : Mem) : Option Int := if (iand (ishr a0 a1) 1) = 1 then some 1 else some 0

def f_X12_sizeOf (T : Knd) (A : Rfs) (a0 : Int) (I : Mem) : Option Int := it (fun (s2 : Int × Int) => if s2.2 = 0 then some (.inr s2.1) else some (.inl (ia s2.1 1, iand s2.2 (isb s2.2 1)))) FU (0, a0)

def f_X12_of (T : Knd) (A : Rfs) (w0 : Nat) (a1 : Int) (a2 : Int) (I : Mem) : Option Int := if (T w0).1 = 12 then (gr T A 12 18 w0).bind fun x1 => (ld T 20 x1 (ia (im 9 a1) a2) I).bind fun x2 => some x2 else none
theorem k_X12_of {T : Knd} {A : Rfs} {w0 : Nat} {a1 : Int} {a2 : Int} {I : Mem} {e : Int} (h : f_X12_of T A w0 a1 a2 I = some e) : (T w0).1 = 12 := by
  unfold f_X12_of at h
  exact grd_some h

def f_X12_official (T : Knd) (A : Rfs) (w0 : Nat) (a1 : Int) (a2 : Int) (I : Mem) : Option (Int × Mem) := if (T w0).1 = 12 then (pi T 12 0 w0 0 I).bind fun I1 => (f_X12_isOfficial T A w0 a1 I1).bind fun e2 => if e2 = 0 then some ((-2), I1) else (f_X12_in T A a2 0 8 I1).bind fun e5 => if e5 = 0 then some ((-2), I1) else (f_X12_of T A w0 a1 a2 I1).bind fun e8 => some (e8, I1) else none
theorem k_X12_official {T : Knd} {A : Rfs} {w0 : Nat} {a1 : Int} {a2 : Int} {I : Mem} {e : (Int × Mem)} (h : f_X12_official T A w0 a1 a2 I = some e) : (T w0).1 = 12 := by
  unfold f_X12_official at h
  exact grd_some h

def f_X12_asks_ (T : Knd) (A : Rfs) (w0 : Nat) (a1 : Int) (a2 : Int) (I : Mem) : Option (Int × Mem) := if (T w0).1 = 12 then (pi T 12 0 w0 0 I).bind fun I1 => (f_X12_isOfficial T A w0 a1 I1).bind fun e2 => if e2 = 0 then some ((-2), I1) else (f_X12_in T A a2 0 1 I1).bind fun e5 => if e5 = 0 then some ((-2), I1) else if a2 = 0 then (gr T A 12 19 w0).bind fun x11 => (ld T 20 x11 a1 I1).bind fun x12 => some (x12, I1) else (gr T A 12 20 w0).bind fun x8 => (ld T 20 x8 a1 I1).bind fun x9 => some (x9, I1) else none
theorem k_X12_asks_ {T : Knd} {A : Rfs} {w0 : Nat} {a1 : Int} {a2 : Int} {I : Mem} {e : (Int × Mem)} (h : f_X12_asks_ T A w0 a1 a2 I = some e) : (T w0).1 = 12 := by
  unfold f_X12_asks_ at h
  exact grd_some h

def f_X12_asked (T : Knd) (A : Rfs) (w0 : Nat) (a1 : Int) (a2 : Int) (I : Mem) : Option (Int × Mem) := if (T w0).1 = 12 then (pi T 12 0 w0 0 I).bind fun I1 => (f_X12_isOfficial T A w0 a1 I1).bind fun e2 => if e2 = 0 then some ((-2), I1) else (f_X12_in T A a2 0 1 I1).bind fun e5 => if e5 = 0 then some ((-2), I1) else it (fun (s9 : Int × Int) => (gr T A 12 17 w0).bind fun x12 => (ld T 20 x12 3 I1).bind fun x13 => if s9.2 < x13 then thn (if a2 = 0 then (gr T A 12 19 w0).bind fun x21 => (ld T 20 x21 s9.2 I1).bind fun x22 => some (.inl x22) else (gr T A 12 20 w0).bind fun x18 => (ld T 20 x18 s9.2 I1).bind fun x19 => some (.inl x19)) (fun (v16 : Int) => (f_X12_isBit T A v16 a1 I1).bind fun e24 => thn (if e24 = 0 then some (.inl 0) else some (.inl (ishl 1 s9.2))) (fun (v28 : Int) => some (.inl (ior s9.1 v28, ia s9.2 1)))) else some (.inr (s9.1, I1))) FU (0, 0) else none
theorem k_X12_asked {T : Knd} {A : Rfs} {w0 : Nat} {a1 : Int} {a2 : Int} {I : Mem} {e : (Int × Mem)} (h : f_X12_asked T A w0 a1 a2 I = some e) : (T w0).1 = 12 := by
  unfold f_X12_asked at h
  exact grd_some h

def f_X12_isOpenDay (T : Knd) (A : Rfs) (w0 : Nat) (a1 : Int) (a2 : Int) (I : Mem) : Option Int := if (T w0).1 = 12 then (f_X12_of T A w0 a1 3 I).bind fun e1 => (dvz 10).bind fun _ => (dvz 5).bind fun _ => (f_X12_isBit T A e1 (irm (idv a2 10) 5) I).bind fun e4 => if e4 = 0 then some 0 else (dvz 10).bind fun _ => (f_X12_of T A w0 a1 1 I).bind fun e7 => if (irm a2 10) < e7 then some 0 else (dvz 10).bind fun _ => (f_X12_of T A w0 a1 2 I).bind fun e10 => if (irm a2 10) ≤ e10 then (dvz 10).bind fun _ => (f_X12_of T A w0 a1 4 I).bind fun e13 => if (irm a2 10) = e13 then some 0 else some 1 else some 0 else none
theorem k_X12_isOpenDay {T : Knd} {A : Rfs} {w0 : Nat} {a1 : Int} {a2 : Int} {I : Mem} {e : Int} (h : f_X12_isOpenDay T A w0 a1 a2 I = some e) : (T w0).1 = 12 := by
  unfold f_X12_isOpenDay at h
  exact grd_some h

def f_X12_isLeave (T : Knd) (A : Rfs) (w0 : Nat) (a1 : Int) (a2 : Int) (I : Mem) : Option Int := if (T w0).1 = 12 then (f_X12_of T A w0 a1 7 I).bind fun e1 => if e1 = (-1) then some 0 else (dvz 10).bind fun _ => (f_X12_of T A w0 a1 7 I).bind fun e4 => if (idv a2 10) < e4 then some 0 else (dvz 10).bind fun _ => (f_X12_of T A w0 a1 8 I).bind fun e7 => if (idv a2 10) ≤ e7 then some 1 else some 0 else none
theorem k_X12_isLeave {T : Knd} {A : Rfs} {w0 : Nat} {a1 : Int} {a2 : Int} {I : Mem} {e : Int} (h : f_X12_isLeave T A w0 a1 a2 I = some e) : (T w0).1 = 12 := by
  unfold f_X12_isLeave at h
  exact grd_some h

def f_X12_isOpen (T : Knd) (A : Rfs) (w0 : Nat) (a1 : Int) (a2 : Int) (I : Mem) : Option Int := if (T w0).1 = 12 then (f_X12_isOpenDay T A w0 a1 a2 I).bind fun e1 => if e1 = 0 then some 0 else (f_X12_isLeave T A w0 a1 a2 I).bind fun e4 => if e4 = 0 then some 1 else some 0 else none
theorem k_X12_isOpen {T : Knd} {A : Rfs} {w0 : Nat} {a1 : Int} {a2 : Int} {I : Mem} {e : Int} (h : f_X12_isOpen T A w0 a1 a2 I = some e) : (T w0).1 = 12 := by
  unfold f_X12_isOpen at h
  exact grd_some h

def f_X12_open (T : Knd) (A : Rfs) (w0 : Nat) (a1 : Int) (a2 : Int) (I : Mem) : Option (Int × Mem) := if (T w0).1 = 12 then (pi T 12 0 w0 0 I).bind fun I1 => (f_X12_isOfficial T A w0 a1 I1).bind fun e2 => if e2 = 0 then some ((-2), I1) else (f_X12_isHour T A a2 I1).bind fun e5 => if e5 = 0 then some ((-2), I1) else (f_X12_isOpen T A w0 a1 a2 I1).bind fun e8 => if e8 = 0 then some (0, I1) else some (1, I1) else none
theorem k_X12_open {T : Knd} {A : Rfs} {w0 : Nat} {a1 : Int} {a2 : Int} {I : Mem} {e : (Int × Mem)} (h : f_X12_open T A w0 a1 a2 I = some e) : (T w0).1 = 12 := by
  unfold f_X12_open at h
  exact grd_some h

def f_X12_opens (T : Knd) (A : Rfs) (w0 : Nat) (a1 : Int) (a2 : Int) (I : Mem) : Option (Int × Mem) := if (T w0).1 = 12 then (pi T 12 0 w0 0 I).bind fun I1 => (f_X12_isOfficial T A w0 a1 I1).bind fun e2 => if e2 = 0 then some ((-2), I1) else (f_X12_isHour T A a2 I1).bind fun e5 => if e5 = 0 then some ((-2), I1) else it (fun (s9 : Int) => if s9 < 400 then (f_X12_isOpen T A w0 a1 s9 I1).bind fun e11 => if e11 = 0 then some (.inl (ia s9 1)) else some (.inr (s9, I1)) else some (.inr ((-1), I1))) FU a2 else none
theorem k_X12_opens {T : Knd} {A : Rfs} {w0 : Nat} {a1 : Int} {a2 : Int} {I : Mem} {e : (Int × Mem)} (h : f_X12_opens T A w0 a1 a2 I = some e) : (T w0).1 = 12 := by
  unfold f_X12_opens at h
  exact grd_some h

def f_X12_week (T : Knd) (A : Rfs) (w0 : Nat) (a1 : Int) (I : Mem) : Option (Int × Mem) := if (T w0).1 = 12 then (pi T 12 0 w0 0 I).bind fun I1 => (f_X12_isOfficial T A w0 a1 I1).bind fun e2 => if e2 = 0 then some ((-2), I1) else it (fun (s6 : Int × Int) => if s6.2 < 50 then (f_X12_isOpenDay T A w0 a1 s6.2 I1).bind fun e9 => if e9 = 0 then some (.inl (ia s6.1 0, ia s6.2 1)) else some (.inl (ia s6.1 1, ia s6.2 1)) else some (.inr (s6.1, I1))) FU (0, 0) else none
theorem k_X12_week {T : Knd} {A : Rfs} {w0 : Nat} {a1 : Int} {I : Mem} {e : (Int × Mem)} (h : f_X12_week T A w0 a1 I = some e) : (T w0).1 = 12 := by
  unfold f_X12_week at h
  exact grd_some h

def f_X12_laysWalks (T : Knd) (A : Rfs) (w0 : Nat) (I : Mem) : Option Mem := if (T w0).1 = 12 then thn (it (fun (s4 : Int × Mem) => if s4.1 < 6 then it (fun (s7 : Int × Mem) => if s7.1 < 6 then (gr T A 12 24 w0).bind fun x9 => thn (if s4.1 = s7.1 then some (.inl 0) else (gr T A 12 21 w0).bind fun x13 => (ld T 20 x13 (ia (im 6 s4.1) s7.1) s7.2).bind fun x14 => if x14 ≤ 0 then some (.inl 100000) else (gr T A 12 21 w0).bind fun x16 => (ld T 20 x16 (ia (im 6 s4.1) s7.1) s7.2).bind fun x17 => some (.inl x17)) (fun (v11 : Int) => (sto T 20 x9 (ia (im 6 s4.1) s7.1) v11 s7.2).bind fun I19 => some (.inl (ia s7.1 1, I19))) else some (.inr (.inl (ia s4.1 1, s7.2)))) FU (0, s4.2) else some (.inr (.inl s4.2))) FU (0, I)) (fun (v2 : Mem) => it (fun (s21 : Int × Mem) => if s21.1 < 6 then it (fun (s24 : Int × Mem) => if s24.1 < 6 then it (fun (s27 : Int × Mem) => if s27.1 < 6 then (gr T A 12 24 w0).bind fun x29 => (ld T 20 x29 (ia (im 6 s24.1) s21.1) s27.2).bind fun x30 => (gr T A 12 24 w0).bind fun x32 => (ld T 20 x32 (ia (im 6 s21.1) s27.1) s27.2).bind fun x33 => (gr T A 12 24 w0).bind fun x35 => (ld T 20 x35 (ia (im 6 s24.1) s27.1) s27.2).bind fun x36 => if (ia x30 x33) < x36 then (gr T A 12 24 w0).bind fun x38 => (gr T A 12 24 w0).bind fun x39 => (ld T 20 x39 (ia (im 6 s24.1) s21.1) s27.2).bind fun x40 => (gr T A 12 24 w0).bind fun x42 => (ld T 20 x42 (ia (im 6 s21.1) s27.1) s27.2).bind fun x43 => (sto T 20 x38 (ia (im 6 s24.1) s27.1) (ia x40 x43) s27.2).bind fun I45 => some (.inl (ia s27.1 1, I45)) else some (.inl (ia s27.1 1, s27.2)) else some (.inr (.inl (ia s24.1 1, s27.2)))) FU (0, s24.2) else some (.inr (.inl (ia s21.1 1, s24.2)))) FU (0, s21.2) else some (.inr s21.2)) FU (0, v2)) else none
theorem k_X12_laysWalks {T : Knd} {A : Rfs} {w0 : Nat} {I : Mem} {e : Mem} (h : f_X12_laysWalks T A w0 I = some e) : (T w0).1 = 12 := by
  unfold f_X12_laysWalks at h
  exact grd_some h

def f_X12_walk (T : Knd) (A : Rfs) (w0 : Nat) (a1 : Int) (a2 : Int) (I : Mem) : Option (Int × Mem) := if (T w0).1 = 12 then (pi T 12 0 w0 0 I).bind fun I1 => (f_X12_isRoom T A w0 a1 I1).bind fun e2 => if e2 = 0 then some ((-2), I1) else (f_X12_isRoom T A w0 a2 I1).bind fun e5 => if e5 = 0 then some ((-2), I1) else (f_X12_laysWalks T A w0 I1).bind fun e8 => (gr T A 12 24 w0).bind fun x10 => (ld T 20 x10 (ia (im 6 a1) a2) e8).bind fun x11 => if x11 < 100000 then (gr T A 12 24 w0).bind fun x13 => (ld T 20 x13 (ia (im 6 a1) a2) e8).bind fun x14 => some (x14, e8) else some ((-1), e8) else none
theorem k_X12_walk {T : Knd} {A : Rfs} {w0 : Nat} {a1 : Int} {a2 : Int} {I : Mem} {e : (Int × Mem)} (h : f_X12_walk T A w0 a1 a2 I = some e) : (T w0).1 = 12 := by
  unfold f_X12_walk at h
  exact grd_some h

def f_X12_permit (T : Knd) (A : Rfs) (w0 : Nat) (I : Mem) : Option (Int × Mem) := if (T w0).1 = 12 then (pi T 12 0 w0 0 I).bind fun I1 => (f_X12_isOffice T A w0 I1).bind fun e2 => if e2 = 0 then some ((-2), I1) else (gr T A 12 17 w0).bind fun x5 => (ld T 20 x5 4 I1).bind fun x6 => some (x6, I1) else none
theorem k_X12_permit {T : Knd} {A : Rfs} {w0 : Nat} {I : Mem} {e : (Int × Mem)} (h : f_X12_permit T A w0 I = some e) : (T w0).1 = 12 := by
  unfold f_X12_permit at h
  exact grd_some h

def f_X12_starts (T : Knd) (A : Rfs) (w0 : Nat) (a1 : Int) (I : Mem) : Option Mem := if (T w0).1 = 12 then (f_X12_laysWalks T A w0 I).bind fun e1 => (pi T 12 25 w0 a1 e1).bind fun I3 => (gr T A 12 17 w0).bind fun x4 => (ld T 20 x4 1 I3).bind fun x5 => (pi T 12 26 w0 x5 I3).bind fun I7 => (pi T 12 27 w0 0 I7).bind fun I8 => (pi T 12 28 w0 0 I8).bind fun I9 => it (fun (s11 : Int × Mem) => if s11.1 < 8 then (gr T A 12 29 w0).bind fun x13 => (sto T 20 x13 s11.1 (-1) s11.2).bind fun I14 => some (.inl (ia s11.1 1, I14)) else some (.inr s11.2)) FU (0, I9) else none
theorem k_X12_starts {T : Knd} {A : Rfs} {w0 : Nat} {a1 : Int} {I : Mem} {e : Mem} (h : f_X12_starts T A w0 a1 I = some e) : (T w0).1 = 12 := by
  unfold f_X12_starts at h
  exact grd_some h

def f_X12_isHeld (T : Knd) (A : Rfs) (w0 : Nat) (a1 : Int) (a2 : Int) (I : Mem) : Option Int := if (T w0).1 = 12 then (gr T A 12 29 w0).bind fun x1 => (ld T 20 x1 a1 I).bind fun x2 => if x2 = (-1) then some 0 else (gr T A 12 29 w0).bind fun x4 => (ld T 20 x4 a1 I).bind fun x5 => if a2 ≤ x5 then some 1 else some 0 else none
theorem k_X12_isHeld {T : Knd} {A : Rfs} {w0 : Nat} {a1 : Int} {a2 : Int} {I : Mem} {e : Int} (h : f_X12_isHeld T A w0 a1 a2 I = some e) : (T w0).1 = 12 := by
  unfold f_X12_isHeld at h
  exact grd_some h

def f_X12_heldIn (T : Knd) (A : Rfs) (w0 : Nat) (a1 : Int) (I : Mem) : Option Int := if (T w0).1 = 12 then it (fun (s2 : Int × Int) => (gr T A 12 17 w0).bind fun x5 => (ld T 20 x5 3 I).bind fun x6 => if s2.2 < x6 then (f_X12_isHeld T A w0 s2.2 a1 I).bind fun e8 => thn (if e8 = 0 then some (.inl 0) else some (.inl (ishl 1 s2.2))) (fun (v12 : Int) => some (.inl (ior s2.1 v12, ia s2.2 1))) else some (.inr s2.1)) FU (0, 0) else none
theorem k_X12_heldIn {T : Knd} {A : Rfs} {w0 : Nat} {a1 : Int} {I : Mem} {e : Int} (h : f_X12_heldIn T A w0 a1 I = some e) : (T w0).1 = 12 := by
  unfold f_X12_heldIn at h
  exact grd_some h

def f_X12_heldNow (T : Knd) (A : Rfs) (w0 : Nat) (I : Mem) : Option Int := if (T w0).1 = 12 then (gi T 12 25 w0 I).bind fun x1 => (f_X12_heldIn T A w0 x1 I).bind fun e3 => some e3 else none
theorem k_X12_heldNow {T : Knd} {A : Rfs} {w0 : Nat} {I : Mem} {e : Int} (h : f_X12_heldNow T A w0 I = some e) : (T w0).1 = 12 := by
  unfold f_X12_heldNow at h
  exact grd_some h

def f_X12_isFree (T : Knd) (A : Rfs) (w0 : Nat) (a1 : Int) (a2 : Int) (I : Mem) : Option Int := if (T w0).1 = 12 then (f_X12_isOpen T A w0 a1 a2 I).bind fun e1 => if e1 = 0 then some 0 else (gi T 12 31 w0 I).bind fun x4 => if x4 = 0 then some 1 else (gr T A 12 30 w0).bind fun x6 => (ld T 23 x6 (ia (im 400 a1) a2) I).bind fun x7 => if x7 = 0 then some 1 else some 0 else none
theorem k_X12_isFree {T : Knd} {A : Rfs} {w0 : Nat} {a1 : Int} {a2 : Int} {I : Mem} {e : Int} (h : f_X12_isFree T A w0 a1 a2 I = some e) : (T w0).1 = 12 := by
  unfold f_X12_isFree at h
  exact grd_some h

def f_X12_stampsIn (T : Knd) (A : Rfs) (w0 : Nat) (a1 : Int) (I : Mem) : Option Int := if (T w0).1 = 12 then (gr T A 12 24 w0).bind fun x1 => (gi T 12 26 w0 I).bind fun x2 => (f_X12_of T A w0 a1 0 I).bind fun e4 => (ld T 20 x1 (ia (im 6 x2) e4) I).bind fun x7 => (gi T 12 25 w0 I).bind fun x9 => (f_X12_isHeld T A w0 a1 x9 I).bind fun e11 => if e11 = 0 then if x7 < 100000 then (gi T 12 25 w0 I).bind fun x14 => it (fun (s17 : Int) => if s17 < 400 then (f_X12_isFree T A w0 a1 s17 I).bind fun e19 => if e19 = 0 then some (.inl (ia s17 1)) else (f_X12_heldIn T A w0 s17 I).bind fun e22 => (gr T A 12 19 w0).bind fun x25 => (ld T 20 x25 a1 I).bind fun x26 => if (iand x26 (ixor e22 (-1))) = 0 then (gr T A 12 20 w0).bind fun x28 => (ld T 20 x28 a1 I).bind fun x29 => if (iand x29 e22) = 0 then some (.inr s17) else some (.inl (ia s17 1)) else some (.inl (ia s17 1)) else some (.inr (-1))) FU (ia x14 x7) else some (-1) else some (-1) else none
theorem k_X12_stampsIn {T : Knd} {A : Rfs} {w0 : Nat} {a1 : Int} {I : Mem} {e : Int} (h : f_X12_stampsIn T A w0 a1 I = some e) : (T w0).1 = 12 := by
  unfold f_X12_stampsIn at h
  exact grd_some h

def f_X12_goesTo (T : Knd) (A : Rfs) (w0 : Nat) (a1 : Int) (a2 : Int) (I : Mem) : Option Mem := if (T w0).1 = 12 then (gi T 12 27 w0 I).bind fun x1 => (gr T A 12 24 w0).bind fun x3 => (gi T 12 26 w0 I).bind fun x4 => (f_X12_of T A w0 a1 0 I).bind fun e6 => (ld T 20 x3 (ia (im 6 x4) e6) I).bind fun x9 => (pi T 12 27 w0 (ia x1 x9) I).bind fun I11 => (gi T 12 28 w0 I11).bind fun x12 => (f_X12_of T A w0 a1 6 I11).bind fun e14 => (pi T 12 28 w0 (ia x12 e14) I11).bind fun I17 => (f_X12_of T A w0 a1 0 I17).bind fun e18 => (pi T 12 26 w0 e18 I17).bind fun I21 => (pi T 12 25 w0 (ia a2 1) I21).bind fun I22 => (gr T A 12 29 w0).bind fun x23 => (f_X12_of T A w0 a1 5 I22).bind fun e24 => thn (if e24 = (-1) then some (.inl 9999) else (f_X12_of T A w0 a1 5 I22).bind fun e30 => some (.inl (ia a2 (im 10 e30)))) (fun (v28 : Int) => (sto T 20 x23 a1 v28 I22).bind fun I33 => some I33) else none
theorem k_X12_goesTo {T : Knd} {A : Rfs} {w0 : Nat} {a1 : Int} {a2 : Int} {I : Mem} {e : Mem} (h : f_X12_goesTo T A w0 a1 a2 I = some e) : (T w0).1 = 12 := by
  unfold f_X12_goesTo at h
  exact grd_some h

def f_X12_lays (T : Knd) (A : Rfs) (w0 : Nat) (I : Mem) : Option Mem := if (T w0).1 = 12 then (gr T A 12 17 w0).bind fun x1 => (ld T 20 x1 2 I).bind fun x2 => (f_X12_starts T A w0 x2 I).bind fun e4 => it (fun (s7 : Int × Mem) => (gr T A 12 17 w0).bind fun x9 => (ld T 20 x9 5 s7.2).bind fun x10 => if s7.1 < x10 then (gr T A 12 22 w0).bind fun x12 => (ld T 20 x12 s7.1 s7.2).bind fun x13 => if x13 ≤ 9 then (gr T A 12 22 w0).bind fun x15 => (ld T 20 x15 s7.1 s7.2).bind fun x16 => (gr T A 12 22 w0).bind fun x18 => (ld T 20 x18 s7.1 s7.2).bind fun x19 => (f_X12_stampsIn T A w0 x19 s7.2).bind fun e21 => (f_X12_goesTo T A w0 x16 e21 s7.2).bind fun e24 => some (.inl (ia s7.1 1, e24)) else (gi T 12 25 w0 s7.2).bind fun x26 => (gr T A 12 22 w0).bind fun x28 => (ld T 20 x28 s7.1 s7.2).bind fun x29 => (pi T 12 25 w0 (ia x26 (isb x29 10)) s7.2).bind fun I31 => some (.inl (ia s7.1 1, I31)) else some (.inr s7.2)) FU (0, e4) else none
theorem k_X12_lays {T : Knd} {A : Rfs} {w0 : Nat} {I : Mem} {e : Mem} (h : f_X12_lays T A w0 I = some e) : (T w0).1 = 12 := by
  unfold f_X12_lays at h
  exact grd_some h

def f_X12_now (T : Knd) (A : Rfs) (w0 : Nat) (I : Mem) : Option (Int × Mem) := if (T w0).1 = 12 then (pi T 12 0 w0 0 I).bind fun I1 => (f_X12_isOffice T A w0 I1).bind fun e2 => if e2 = 0 then some ((-2), I1) else (f_X12_lays T A w0 I1).bind fun e5 => (gi T 12 25 w0 e5).bind fun x7 => some (x7, e5) else none
theorem k_X12_now {T : Knd} {A : Rfs} {w0 : Nat} {I : Mem} {e : (Int × Mem)} (h : f_X12_now T A w0 I = some e) : (T w0).1 = 12 := by
  unfold f_X12_now at h
  exact grd_some h

def f_X12_room (T : Knd) (A : Rfs) (w0 : Nat) (I : Mem) : Option (Int × Mem) := if (T w0).1 = 12 then (pi T 12 0 w0 0 I).bind fun I1 => (f_X12_isOffice T A w0 I1).bind fun e2 => if e2 = 0 then some ((-2), I1) else (f_X12_lays T A w0 I1).bind fun e5 => (gi T 12 26 w0 e5).bind fun x7 => some (x7, e5) else none
theorem k_X12_room {T : Knd} {A : Rfs} {w0 : Nat} {I : Mem} {e : (Int × Mem)} (h : f_X12_room T A w0 I = some e) : (T w0).1 = 12 := by
  unfold f_X12_room at h
  exact grd_some h

def f_X12_held (T : Knd) (A : Rfs) (w0 : Nat) (I : Mem) : Option (Int × Mem) := if (T w0).1 = 12 then (pi T 12 0 w0 0 I).bind fun I1 => (f_X12_isOffice T A w0 I1).bind fun e2 => if e2 = 0 then some ((-2), I1) else (f_X12_lays T A w0 I1).bind fun e5 => (f_X12_heldNow T A w0 e5).bind fun e7 => some (e7, e5) else none
theorem k_X12_held {T : Knd} {A : Rfs} {w0 : Nat} {I : Mem} {e : (Int × Mem)} (h : f_X12_held T A w0 I = some e) : (T w0).1 = 12 := by
  unfold f_X12_held at h
  exact grd_some h

def f_X12_until (T : Knd) (A : Rfs) (w0 : Nat) (a1 : Int) (I : Mem) : Option (Int × Mem) := if (T w0).1 = 12 then (pi T 12 0 w0 0 I).bind fun I1 => (f_X12_isOfficial T A w0 a1 I1).bind fun e2 => if e2 = 0 then some ((-2), I1) else (f_X12_lays T A w0 I1).bind fun e5 => (gi T 12 25 w0 e5).bind fun x7 => (f_X12_isHeld T A w0 a1 x7 e5).bind fun e9 => if e9 = 0 then some ((-1), e5) else (gr T A 12 29 w0).bind fun x12 => (ld T 20 x12 a1 e5).bind fun x13 => if x13 = 9999 then some ((-1), e5) else (gr T A 12 29 w0).bind fun x15 => (ld T 20 x15 a1 e5).bind fun x16 => some (x16, e5) else none
theorem k_X12_until {T : Knd} {A : Rfs} {w0 : Nat} {a1 : Int} {I : Mem} {e : (Int × Mem)} (h : f_X12_until T A w0 a1 I = some e) : (T w0).1 = 12 := by
  unfold f_X12_until at h
  exact grd_some h

def f_X12_when (T : Knd) (A : Rfs) (w0 : Nat) (a1 : Int) (I : Mem) : Option (Int × Mem) := if (T w0).1 = 12 then (pi T 12 0 w0 0 I).bind fun I1 => (f_X12_isOfficial T A w0 a1 I1).bind fun e2 => if e2 = 0 then some ((-2), I1) else (f_X12_lays T A w0 I1).bind fun e5 => (f_X12_stampsIn T A w0 a1 e5).bind fun e7 => some (e7, e5) else none
theorem k_X12_when {T : Knd} {A : Rfs} {w0 : Nat} {a1 : Int} {I : Mem} {e : (Int × Mem)} (h : f_X12_when T A w0 a1 I = some e) : (T w0).1 = 12 := by
  unfold f_X12_when at h
  exact grd_some h

def f_X12_why (T : Knd) (A : Rfs) (w0 : Nat) (a1 : Int) (I : Mem) : Option (Int × Mem) := if (T w0).1 = 12 then (pi T 12 0 w0 0 I).bind fun I1 => (f_X12_isOfficial T A w0 a1 I1).bind fun e2 => if e2 = 0 then some ((-2), I1) else (f_X12_lays T A w0 I1).bind fun e5 => (gi T 12 25 w0 e5).bind fun x7 => (f_X12_isHeld T A w0 a1 x7 e5).bind fun e9 => if e9 = 0 then (gr T A 12 24 w0).bind fun x12 => (gi T 12 26 w0 e5).bind fun x13 => (f_X12_of T A w0 a1 0 e5).bind fun e15 => (ld T 20 x12 (ia (im 6 x13) e15) e5).bind fun x18 => if x18 < 100000 then (gi T 12 25 w0 e5).bind fun x20 => thn (it (fun (s28 : Int × Int × Int × Int) => if s28.2.2.2 < 400 then (f_X12_isOpen T A w0 a1 s28.2.2.2 e5).bind fun e33 => if e33 = 0 then some (.inl (s28.1, s28.2.1, s28.2.2.1, ia s28.2.2.2 1)) else (f_X12_heldIn T A w0 s28.2.2.2 e5).bind fun e36 => (gr T A 12 19 w0).bind fun x39 => (ld T 20 x39 a1 e5).bind fun x40 => if (iand x40 (ixor e36 (-1))) = 0 then if s28.2.2.1 = 0 then (gr T A 12 20 w0).bind fun x42 => (ld T 20 x42 a1 e5).bind fun x43 => if (iand x43 e36) = 0 then some (.inl (1, 1, 1, ia s28.2.2.2 1)) else some (.inl (1, 1, 0, ia s28.2.2.2 1)) else some (.inl (1, 1, 1, ia s28.2.2.2 1)) else some (.inl (1, s28.2.1, s28.2.2.1, ia s28.2.2.2 1)) else some (.inr (.inl (s28.1, s28.2.1, s28.2.2.1)))) FU (0, 0, 0, ia x20 x18)) (fun (v23 : Int × Int × Int) => if v23.1 = 0 then some (3, e5) else if v23.2.1 = 0 then some (4, e5) else if v23.2.2 = 0 then some (5, e5) else some (0, e5)) else some (2, e5) else some (1, e5) else none
theorem k_X12_why {T : Knd} {A : Rfs} {w0 : Nat} {a1 : Int} {I : Mem} {e : (Int × Mem)} (h : f_X12_why T A w0 a1 I = some e) : (T w0).1 = 12 := by
  unfold f_X12_why at h
  exact grd_some h

def f_X12_canNow (T : Knd) (A : Rfs) (w0 : Nat) (I : Mem) : Option Int := if (T w0).1 = 12 then it (fun (s2 : Int × Int) => (gr T A 12 17 w0).bind fun x5 => (ld T 20 x5 3 I).bind fun x6 => if s2.2 < x6 then (f_X12_stampsIn T A w0 s2.2 I).bind fun e8 => thn (if e8 = (-1) then some (.inl 0) else some (.inl (ishl 1 s2.2))) (fun (v12 : Int) => some (.inl (ior s2.1 v12, ia s2.2 1))) else some (.inr s2.1)) FU (0, 0) else none
theorem k_X12_canNow {T : Knd} {A : Rfs} {w0 : Nat} {I : Mem} {e : Int} (h : f_X12_canNow T A w0 I = some e) : (T w0).1 = 12 := by
  unfold f_X12_canNow at h
  exact grd_some h

def f_X12_can (T : Knd) (A : Rfs) (w0 : Nat) (I : Mem) : Option (Int × Mem) := if (T w0).1 = 12 then (pi T 12 0 w0 0 I).bind fun I1 => (f_X12_isOffice T A w0 I1).bind fun e2 => if e2 = 0 then some ((-2), I1) else (f_X12_lays T A w0 I1).bind fun e5 => (f_X12_canNow T A w0 e5).bind fun e7 => some (e7, e5) else none
theorem k_X12_can {T : Knd} {A : Rfs} {w0 : Nat} {I : Mem} {e : (Int × Mem)} (h : f_X12_can T A w0 I = some e) : (T w0).1 = 12 := by
  unfold f_X12_can at h
  exact grd_some h

def f_X12_go (T : Knd) (A : Rfs) (w0 : Nat) (a1 : Int) (I : Mem) : Option (Int × Mem) := if (T w0).1 = 12 then (pi T 12 0 w0 0 I).bind fun I1 => (f_X12_isOfficial T A w0 a1 I1).bind fun e2 => if e2 = 0 then some ((-2), I1) else (f_X12_lays T A w0 I1).bind fun e5 => (f_X12_stampsIn T A w0 a1 e5).bind fun e7 => if e7 = (-1) then some ((-5), e5) else (gr T A 12 17 w0).bind fun x10 => (ld T 20 x10 5 e5).bind fun x11 => if x11 = 40 then some ((-5), e5) else (gr T A 12 22 w0).bind fun x13 => (gr T A 12 17 w0).bind fun x14 => (ld T 20 x14 5 e5).bind fun x15 => (sto T 20 x13 x15 a1 e5).bind fun I17 => (gr T A 12 17 w0).bind fun x18 => (ld T 20 x18 5 I17).bind fun x19 => (sto T 20 x18 5 (ia x19 1) I17).bind fun I21 => some (e7, I21) else none
theorem k_X12_go {T : Knd} {A : Rfs} {w0 : Nat} {a1 : Int} {I : Mem} {e : (Int × Mem)} (h : f_X12_go T A w0 a1 I = some e) : (T w0).1 = 12 := by
  unfold f_X12_go at h
  exact grd_some h

def f_X12_waits (T : Knd) (A : Rfs) (w0 : Nat) (a1 : Int) (I : Mem) : Option (Int × Mem) := if (T w0).1 = 12 then (pi T 12 0 w0 0 I).bind fun I1 => (f_X12_isOffice T A w0 I1).bind fun e2 => if e2 = 0 then some ((-2), I1) else (f_X12_in T A a1 1 99 I1).bind fun e5 => if e5 = 0 then some ((-2), I1) else (f_X12_lays T A w0 I1).bind fun e8 => (gi T 12 25 w0 e8).bind fun x10 => if (ia x10 a1) ≤ 400 then (gr T A 12 17 w0).bind fun x12 => (ld T 20 x12 5 e8).bind fun x13 => if x13 = 40 then some ((-5), e8) else (gr T A 12 22 w0).bind fun x15 => (gr T A 12 17 w0).bind fun x16 => (ld T 20 x16 5 e8).bind fun x17 => (sto T 20 x15 x17 (ia 10 a1) e8).bind fun I19 => (gr T A 12 17 w0).bind fun x20 => (ld T 20 x20 5 I19).bind fun x21 => (sto T 20 x20 5 (ia x21 1) I19).bind fun I23 => (gi T 12 25 w0 I23).bind fun x24 => some (ia x24 a1, I23) else some ((-5), e8) else none
theorem k_X12_waits {T : Knd} {A : Rfs} {w0 : Nat} {a1 : Int} {I : Mem} {e : (Int × Mem)} (h : f_X12_waits T A w0 a1 I = some e) : (T w0).1 = 12 := by
  unfold f_X12_waits at h
  exact grd_some h

def f_X12_undo (T : Knd) (A : Rfs) (w0 : Nat) (I : Mem) : Option (Int × Mem) := if (T w0).1 = 12 then (pi T 12 0 w0 0 I).bind fun I1 => (f_X12_isOffice T A w0 I1).bind fun e2 => if e2 = 0 then some ((-2), I1) else (gr T A 12 17 w0).bind fun x5 => (ld T 20 x5 5 I1).bind fun x6 => if x6 = 0 then some ((-5), I1) else (gr T A 12 17 w0).bind fun x8 => (ld T 20 x8 5 I1).bind fun x9 => (sto T 20 x8 5 (isb x9 1) I1).bind fun I11 => (gr T A 12 17 w0).bind fun x12 => (ld T 20 x12 5 I11).bind fun x13 => some (x13, I11) else none
theorem k_X12_undo {T : Knd} {A : Rfs} {w0 : Nat} {I : Mem} {e : (Int × Mem)} (h : f_X12_undo T A w0 I = some e) : (T w0).1 = 12 := by
  unfold f_X12_undo at h
  exact grd_some h

def f_X12_anew (T : Knd) (A : Rfs) (w0 : Nat) (I : Mem) : Option (Int × Mem) := if (T w0).1 = 12 then (pi T 12 0 w0 0 I).bind fun I1 => (f_X12_isOffice T A w0 I1).bind fun e2 => if e2 = 0 then some ((-2), I1) else (gr T A 12 17 w0).bind fun x5 => (ld T 20 x5 5 I1).bind fun x6 => (gr T A 12 17 w0).bind fun x8 => (sto T 20 x8 5 0 I1).bind fun I9 => some (x6, I9) else none
theorem k_X12_anew {T : Knd} {A : Rfs} {w0 : Nat} {I : Mem} {e : (Int × Mem)} (h : f_X12_anew T A w0 I = some e) : (T w0).1 = 12 := by
  unfold f_X12_anew at h
  exact grd_some h

def f_X12_led (T : Knd) (A : Rfs) (w0 : Nat) (a1 : Int) (I : Mem) : Option (Int × Mem) := if (T w0).1 = 12 then (pi T 12 0 w0 0 I).bind fun I1 => (f_X12_isOffice T A w0 I1).bind fun e2 => if e2 = 0 then some ((-2), I1) else (gr T A 12 17 w0).bind fun x5 => (ld T 20 x5 5 I1).bind fun x6 => (f_X12_in T A a1 0 (isb x6 1) I1).bind fun e8 => if e8 = 0 then some ((-1), I1) else (gr T A 12 22 w0).bind fun x11 => (ld T 20 x11 a1 I1).bind fun x12 => some (x12, I1) else none
theorem k_X12_led {T : Knd} {A : Rfs} {w0 : Nat} {a1 : Int} {I : Mem} {e : (Int × Mem)} (h : f_X12_led T A w0 a1 I = some e) : (T w0).1 = 12 := by
  unfold f_X12_led at h
  exact grd_some h

def f_X12_shoes (T : Knd) (A : Rfs) (w0 : Nat) (I : Mem) : Option (Int × Mem) := if (T w0).1 = 12 then (pi T 12 0 w0 0 I).bind fun I1 => (f_X12_isOffice T A w0 I1).bind fun e2 => if e2 = 0 then some ((-2), I1) else (f_X12_lays T A w0 I1).bind fun e5 => (gi T 12 27 w0 e5).bind fun x7 => some (x7, e5) else none
theorem k_X12_shoes {T : Knd} {A : Rfs} {w0 : Nat} {I : Mem} {e : (Int × Mem)} (h : f_X12_shoes T A w0 I = some e) : (T w0).1 = 12 := by
  unfold f_X12_shoes at h
  exact grd_some h

def f_X12_paid (T : Knd) (A : Rfs) (w0 : Nat) (I : Mem) : Option (Int × Mem) := if (T w0).1 = 12 then (pi T 12 0 w0 0 I).bind fun I1 => (f_X12_isOffice T A w0 I1).bind fun e2 => if e2 = 0 then some ((-2), I1) else (f_X12_lays T A w0 I1).bind fun e5 => (gi T 12 28 w0 e5).bind fun x7 => some (x7, e5) else none
theorem k_X12_paid {T : Knd} {A : Rfs} {w0 : Nat} {I : Mem} {e : (Int × Mem)} (h : f_X12_paid T A w0 I = some e) : (T w0).1 = 12 := by
  unfold f_X12_paid at h
  exact grd_some h

def f_X12_isDone (T : Knd) (A : Rfs) (w0 : Nat) (I : Mem) : Option Int := if (T w0).1 = 12 then (gr T A 12 17 w0).bind fun x1 => (ld T 20 x1 4 I).bind fun x2 => (f_X12_heldNow T A w0 I).bind fun e4 => if (iand x2 (ixor e4 (-1))) = 0 then some 1 else some 0 else none
theorem k_X12_isDone {T : Knd} {A : Rfs} {w0 : Nat} {I : Mem} {e : Int} (h : f_X12_isDone T A w0 I = some e) : (T w0).1 = 12 := by
  unfold f_X12_isDone at h
  exact grd_some h

def f_X12_done (T : Knd) (A : Rfs) (w0 : Nat) (I : Mem) : Option (Int × Mem) := if (T w0).1 = 12 then (pi T 12 0 w0 0 I).bind fun I1 => (f_X12_isOffice T A w0 I1).bind fun e2 => if e2 = 0 then some ((-2), I1) else (f_X12_lays T A w0 I1).bind fun e5 => (f_X12_isDone T A w0 e5).bind fun e7 => if e7 = 0 then some (0, e5) else some (1, e5) else none
theorem k_X12_done {T : Knd} {A : Rfs} {w0 : Nat} {I : Mem} {e : (Int × Mem)} (h : f_X12_done T A w0 I = some e) : (T w0).1 = 12 := by
  unfold f_X12_done at h
  exact grd_some h

def f_X12_measure (T : Knd) (A : Rfs) (w0 : Nat) (a1 : Int) (I : Mem) : Option Int := if (T w0).1 = 12 then (gi T 12 32 w0 I).bind fun x1 => if x1 = 0 then (gi T 12 25 w0 I).bind fun x13 => some x13 else (gi T 12 32 w0 I).bind fun x3 => if x3 = 1 then some a1 else (gi T 12 32 w0 I).bind fun x5 => if x5 = 2 then (gi T 12 27 w0 I).bind fun x11 => some x11 else (gi T 12 32 w0 I).bind fun x7 => if x7 = 3 then (gi T 12 28 w0 I).bind fun x9 => some x9 else some 0 else none
theorem k_X12_measure {T : Knd} {A : Rfs} {w0 : Nat} {a1 : Int} {I : Mem} {e : Int} (h : f_X12_measure T A w0 a1 I = some e) : (T w0).1 = 12 := by
  unfold f_X12_measure at h
  exact grd_some h

def f_X12_isLess (T : Knd) (A : Rfs) (w0 : Nat) (a1 : Int) (I : Mem) : Option Int := if (T w0).1 = 12 then thn (it (fun (s5 : Int) => if s5 < a1 then (gr T A 12 38 w0).bind fun x7 => (ld T 20 x7 s5 I).bind fun x8 => (gr T A 12 39 w0).bind fun x10 => (ld T 20 x10 s5 I).bind fun x11 => if x8 = x11 then some (.inl (ia s5 1)) else some (.inr (.inl s5)) else some (.inr (.inr 0))) FU 0) (fun (v2 : Int) => (gr T A 12 38 w0).bind fun x13 => (ld T 20 x13 v2 I).bind fun x14 => (gr T A 12 39 w0).bind fun x16 => (ld T 20 x16 v2 I).bind fun x17 => if x14 < x17 then some 1 else some 0) else none
theorem k_X12_isLess {T : Knd} {A : Rfs} {w0 : Nat} {a1 : Int} {I : Mem} {e : Int} (h : f_X12_isLess T A w0 a1 I = some e) : (T w0).1 = 12 := by
  unfold f_X12_isLess at h
  exact grd_some h

def f_X12_meets (T : Knd) (A : Rfs) (w0 : Nat) (a1 : Int) (a2 : Int) (I : Mem) : Option Mem := if (T w0).1 = 12 then (gi T 12 35 w0 I).bind fun x1 => (pi T 12 35 w0 (ia x1 1) I).bind fun I3 => (gi T 12 36 w0 I3).bind fun x4 => (pi T 12 36 w0 (iand x4 a2) I3).bind fun I6 => (gi T 12 37 w0 I6).bind fun x7 => (pi T 12 37 w0 (ior x7 a2) I6).bind fun I9 => (f_X12_measure T A w0 a1 I9).bind fun e10 => (gi T 12 33 w0 I9).bind fun x13 => thn (if x13 = (-1) then some (.inl ()) else (gi T 12 33 w0 I9).bind fun x17 => if e10 ≤ x17 then (gi T 12 33 w0 I9).bind fun x19 => if e10 = x19 then (gi T 12 34 w0 I9).bind fun x21 => if a1 ≤ x21 then (gi T 12 34 w0 I9).bind fun x23 => if a1 = x23 then (f_X12_isLess T A w0 a1 I9).bind fun e25 => if e25 = 0 then some (.inr I9) else some (.inl ()) else some (.inl ()) else some (.inr I9) else some (.inl ()) else some (.inr I9)) (fun (v16 : Unit) => (pi T 12 33 w0 e10 I9).bind fun I28 => (pi T 12 34 w0 a1 I28).bind fun I29 => (gi T 12 25 w0 I29).bind fun x30 => (pi T 12 40 w0 x30 I29).bind fun I32 => thn (it (fun (s36 : Int × Mem) => if s36.1 < a1 then (gr T A 12 39 w0).bind fun x38 => (gr T A 12 38 w0).bind fun x39 => (ld T 20 x39 s36.1 s36.2).bind fun x40 => (sto T 20 x38 s36.1 x40 s36.2).bind fun I42 => some (.inl (ia s36.1 1, I42)) else some (.inr (.inl s36.2))) FU (0, I32)) (fun (v34 : Mem) => it (fun (s44 : Int × Mem) => if s44.1 < 8 then (gr T A 12 41 w0).bind fun x46 => (gr T A 12 29 w0).bind fun x47 => (ld T 20 x47 s44.1 s44.2).bind fun x48 => (sto T 20 x46 s44.1 x48 s44.2).bind fun I50 => some (.inl (ia s44.1 1, I50)) else some (.inr s44.2)) FU (0, v34))) else none
theorem k_X12_meets {T : Knd} {A : Rfs} {w0 : Nat} {a1 : Int} {a2 : Int} {I : Mem} {e : Mem} (h : f_X12_meets T A w0 a1 a2 I = some e) : (T w0).1 = 12 := by
  unfold f_X12_meets at h
  exact grd_some h

def f_X12_rows : Nat → Knd → Rfs → Nat → Int → Int → Int → Mem → Option Mem
  | 0, _, _, _, _, _, _, _ => none
  | dd + 1, T, A, w0, a1, a2, a3, I => if (T w0).1 = 12 then (f_X12_isDone T A w0 I).bind fun e1 => if e1 = 0 then (gi T 12 32 w0 I).bind fun x4 => thn (if x4 = 4 then some (.inl ()) else (gi T 12 33 w0 I).bind fun x8 => if x8 = (-1) then some (.inl ()) else (f_X12_measure T A w0 a1 I).bind fun e10 => (gi T 12 33 w0 I).bind fun x13 => if e10 ≤ x13 then some (.inl ()) else some (.inr I)) (fun (v7 : Unit) => it (fun (s16 : Int × Mem) => (gr T A 12 17 w0).bind fun x18 => (ld T 20 x18 3 s16.2).bind fun x19 => if s16.1 < x19 then (f_X12_isBit T A a2 s16.1 s16.2).bind fun e21 => thn (thn (if e21 = 0 then some (.inl ()) else (f_X12_isBit T A a3 s16.1 s16.2).bind fun e29 => if e29 = 0 then (f_X12_stampsIn T A w0 s16.1 s16.2).bind fun e32 => some (.inr (.inl e32)) else some (.inl ())) (fun (v28 : Unit) => some (.inl (-1)))) (fun (v25 : Int) => if v25 = (-1) then some (.inl (ia s16.1 1, s16.2)) else (gi T 12 25 w0 s16.2).bind fun x35 => (gi T 12 26 w0 s16.2).bind fun x37 => (gi T 12 27 w0 s16.2).bind fun x39 => (gi T 12 28 w0 s16.2).bind fun x41 => (gr T A 12 29 w0).bind fun x43 => (ld T 20 x43 s16.1 s16.2).bind fun x44 => (f_X12_goesTo T A w0 s16.1 v25 s16.2).bind fun e46 => (gr T A 12 38 w0).bind fun x48 => (sto T 20 x48 a1 s16.1 e46).bind fun I49 => (f_X12_rows dd T A w0 (ia a1 1) a2 (ior a3 (ishl 1 s16.1)) I49).bind fun e50 => (pi T 12 25 w0 x35 e50).bind fun I52 => (pi T 12 26 w0 x37 I52).bind fun I53 => (pi T 12 27 w0 x39 I53).bind fun I54 => (pi T 12 28 w0 x41 I54).bind fun I55 => (gr T A 12 29 w0).bind fun x56 => (sto T 20 x56 s16.1 x44 I55).bind fun I57 => some (.inl (ia s16.1 1, I57))) else some (.inr s16.2)) FU (0, I)) else (f_X12_meets T A w0 a1 a3 I).bind fun e58 => some e58 else none
theorem k_X12_rows {dd : Nat} {T : Knd} {A : Rfs} {w0 : Nat} {a1 : Int} {a2 : Int} {a3 : Int} {I : Mem} {e : Mem} (h : f_X12_rows dd T A w0 a1 a2 a3 I = some e) : (T w0).1 = 12 := by
  cases dd with
  | zero => unfold f_X12_rows at h; cases h
  | succ dd => unfold f_X12_rows at h; exact grd_some h

def f_X12_finds (T : Knd) (A : Rfs) (w0 : Nat) (a1 : Int) (I : Mem) : Option (Int × Mem) := if (T w0).1 = 12 then (pi T 12 32 w0 a1 I).bind fun I1 => (pi T 12 33 w0 (-1) I1).bind fun I2 => (pi T 12 34 w0 0 I2).bind fun I3 => (pi T 12 35 w0 0 I3).bind fun I4 => (pi T 12 36 w0 255 I4).bind fun I5 => (pi T 12 37 w0 0 I5).bind fun I6 => (pi T 12 27 w0 0 I6).bind fun I7 => (pi T 12 28 w0 0 I7).bind fun I8 => (f_X12_heldNow T A w0 I8).bind fun e9 => (f_X12_rows 12 T A w0 0 (ixor e9 (-1)) 0 I8).bind fun e12 => (gi T 12 33 w0 e12).bind fun x14 => some (x14, e12) else none
theorem k_X12_finds {T : Knd} {A : Rfs} {w0 : Nat} {a1 : Int} {I : Mem} {e : (Int × Mem)} (h : f_X12_finds T A w0 a1 I = some e) : (T w0).1 = 12 := by
  unfold f_X12_finds at h
  exact grd_some h

def f_X12_findsNow (T : Knd) (A : Rfs) (w0 : Nat) (a1 : Int) (I : Mem) : Option (Int × Mem) := if (T w0).1 = 12 then (f_X12_lays T A w0 I).bind fun e1 => (f_X12_finds T A w0 a1 e1).bind fun e3 => some (e3.1, e3.2) else none
theorem k_X12_findsNow {T : Knd} {A : Rfs} {w0 : Nat} {a1 : Int} {I : Mem} {e : (Int × Mem)} (h : f_X12_findsNow T A w0 a1 I = some e) : (T w0).1 = 12 := by
  unfold f_X12_findsNow at h
  exact grd_some h

def f_X12_stepOf (T : Knd) (A : Rfs) (w0 : Nat) (a1 : Int) (a2 : Int) (I : Mem) : Option (Int × Mem) := if (T w0).1 = 12 then (f_X12_findsNow T A w0 a1 I).bind fun e1 => if e1.1 = (-1) then some ((-1), e1.2) else (gi T 12 34 w0 e1.2).bind fun x4 => (f_X12_in T A a2 0 (isb x4 1) e1.2).bind fun e6 => if e6 = 0 then some ((-1), e1.2) else (gr T A 12 39 w0).bind fun x9 => (ld T 20 x9 a2 e1.2).bind fun x10 => some (x10, e1.2) else none
theorem k_X12_stepOf {T : Knd} {A : Rfs} {w0 : Nat} {a1 : Int} {a2 : Int} {I : Mem} {e : (Int × Mem)} (h : f_X12_stepOf T A w0 a1 a2 I = some e) : (T w0).1 = 12 := by
  unfold f_X12_stepOf at h
  exact grd_some h

def f_X12_soonest (T : Knd) (A : Rfs) (w0 : Nat) (I : Mem) : Option (Int × Mem) := if (T w0).1 = 12 then (pi T 12 0 w0 0 I).bind fun I1 => (f_X12_isOffice T A w0 I1).bind fun e2 => if e2 = 0 then some ((-2), I1) else (f_X12_findsNow T A w0 0 I1).bind fun e5 => some (e5.1, e5.2) else none
theorem k_X12_soonest {T : Knd} {A : Rfs} {w0 : Nat} {I : Mem} {e : (Int × Mem)} (h : f_X12_soonest T A w0 I = some e) : (T w0).1 = 12 := by
  unfold f_X12_soonest at h
  exact grd_some h

def f_X12_step (T : Knd) (A : Rfs) (w0 : Nat) (a1 : Int) (I : Mem) : Option (Int × Mem) := if (T w0).1 = 12 then (pi T 12 0 w0 0 I).bind fun I1 => (f_X12_isOffice T A w0 I1).bind fun e2 => if e2 = 0 then some ((-2), I1) else (f_X12_stepOf T A w0 0 a1 I1).bind fun e5 => some (e5.1, e5.2) else none
theorem k_X12_step {T : Knd} {A : Rfs} {w0 : Nat} {a1 : Int} {I : Mem} {e : (Int × Mem)} (h : f_X12_step T A w0 a1 I = some e) : (T w0).1 = 12 := by
  unfold f_X12_step at h
  exact grd_some h

def f_X12_fewest (T : Knd) (A : Rfs) (w0 : Nat) (I : Mem) : Option (Int × Mem) := if (T w0).1 = 12 then (pi T 12 0 w0 0 I).bind fun I1 => (f_X12_isOffice T A w0 I1).bind fun e2 => if e2 = 0 then some ((-2), I1) else (f_X12_findsNow T A w0 1 I1).bind fun e5 => some (e5.1, e5.2) else none
theorem k_X12_fewest {T : Knd} {A : Rfs} {w0 : Nat} {I : Mem} {e : (Int × Mem)} (h : f_X12_fewest T A w0 I = some e) : (T w0).1 = 12 := by
  unfold f_X12_fewest at h
  exact grd_some h

def f_X12_least (T : Knd) (A : Rfs) (w0 : Nat) (I : Mem) : Option (Int × Mem) := if (T w0).1 = 12 then (pi T 12 0 w0 0 I).bind fun I1 => (f_X12_isOffice T A w0 I1).bind fun e2 => if e2 = 0 then some ((-2), I1) else (f_X12_findsNow T A w0 2 I1).bind fun e5 => some (e5.1, e5.2) else none
theorem k_X12_least {T : Knd} {A : Rfs} {w0 : Nat} {I : Mem} {e : (Int × Mem)} (h : f_X12_least T A w0 I = some e) : (T w0).1 = 12 := by
  unfold f_X12_least at h
  exact grd_some h

def f_X12_tread (T : Knd) (A : Rfs) (w0 : Nat) (a1 : Int) (I : Mem) : Option (Int × Mem) := if (T w0).1 = 12 then (pi T 12 0 w0 0 I).bind fun I1 => (f_X12_isOffice T A w0 I1).bind fun e2 => if e2 = 0 then some ((-2), I1) else (f_X12_stepOf T A w0 2 a1 I1).bind fun e5 => some (e5.1, e5.2) else none
theorem k_X12_tread {T : Knd} {A : Rfs} {w0 : Nat} {a1 : Int} {I : Mem} {e : (Int × Mem)} (h : f_X12_tread T A w0 a1 I = some e) : (T w0).1 = 12 := by
  unfold f_X12_tread at h
  exact grd_some h

def f_X12_cheapest (T : Knd) (A : Rfs) (w0 : Nat) (I : Mem) : Option (Int × Mem) := if (T w0).1 = 12 then (pi T 12 0 w0 0 I).bind fun I1 => (f_X12_isOffice T A w0 I1).bind fun e2 => if e2 = 0 then some ((-2), I1) else (f_X12_findsNow T A w0 3 I1).bind fun e5 => some (e5.1, e5.2) else none
theorem k_X12_cheapest {T : Knd} {A : Rfs} {w0 : Nat} {I : Mem} {e : (Int × Mem)} (h : f_X12_cheapest T A w0 I = some e) : (T w0).1 = 12 := by
  unfold f_X12_cheapest at h
  exact grd_some h

def f_X12_whom (T : Knd) (A : Rfs) (w0 : Nat) (I : Mem) : Option (Int × Mem) := if (T w0).1 = 12 then (pi T 12 0 w0 0 I).bind fun I1 => (f_X12_isOffice T A w0 I1).bind fun e2 => if e2 = 0 then some ((-2), I1) else (f_X12_findsNow T A w0 3 I1).bind fun e5 => if e5.1 = (-1) then some ((-1), e5.2) else it (fun (s9 : Int × Int) => (gi T 12 34 w0 e5.2).bind fun x12 => if s9.2 < x12 then (gr T A 12 39 w0).bind fun x14 => (ld T 20 x14 s9.2 e5.2).bind fun x15 => some (.inl (ior s9.1 (ishl 1 x15), ia s9.2 1)) else some (.inr (s9.1, e5.2))) FU (0, 0) else none
theorem k_X12_whom {T : Knd} {A : Rfs} {w0 : Nat} {I : Mem} {e : (Int × Mem)} (h : f_X12_whom T A w0 I = some e) : (T w0).1 = 12 := by
  unfold f_X12_whom at h
  exact grd_some h

def f_X12_ways (T : Knd) (A : Rfs) (w0 : Nat) (I : Mem) : Option (Int × Mem) := if (T w0).1 = 12 then (pi T 12 0 w0 0 I).bind fun I1 => (f_X12_isOffice T A w0 I1).bind fun e2 => if e2 = 0 then some ((-2), I1) else (f_X12_findsNow T A w0 4 I1).bind fun e5 => (gi T 12 35 w0 e5.2).bind fun x8 => some (x8, e5.2) else none
theorem k_X12_ways {T : Knd} {A : Rfs} {w0 : Nat} {I : Mem} {e : (Int × Mem)} (h : f_X12_ways T A w0 I = some e) : (T w0).1 = 12 := by
  unfold f_X12_ways at h
  exact grd_some h

def f_X12_always (T : Knd) (A : Rfs) (w0 : Nat) (a1 : Int) (I : Mem) : Option (Int × Mem) := if (T w0).1 = 12 then (pi T 12 0 w0 0 I).bind fun I1 => (f_X12_isOffice T A w0 I1).bind fun e2 => if e2 = 0 then some ((-2), I1) else (f_X12_in T A a1 0 1 I1).bind fun e5 => if e5 = 0 then some ((-2), I1) else (f_X12_findsNow T A w0 4 I1).bind fun e8 => (gi T 12 35 w0 e8.2).bind fun x11 => if x11 = 0 then some (0, e8.2) else if a1 = 0 then (gi T 12 36 w0 e8.2).bind fun x15 => some (x15, e8.2) else (gi T 12 37 w0 e8.2).bind fun x13 => some (x13, e8.2) else none
theorem k_X12_always {T : Knd} {A : Rfs} {w0 : Nat} {a1 : Int} {I : Mem} {e : (Int × Mem)} (h : f_X12_always T A w0 a1 I = some e) : (T w0).1 = 12 := by
  unfold f_X12_always at h
  exact grd_some h

def f_X12_slack (T : Knd) (A : Rfs) (w0 : Nat) (a1 : Int) (I : Mem) : Option (Int × Mem) := if (T w0).1 = 12 then (pi T 12 0 w0 0 I).bind fun I1 => (f_X12_isOfficial T A w0 a1 I1).bind fun e2 => if e2 = 0 then some ((-2), I1) else (f_X12_findsNow T A w0 0 I1).bind fun e5 => if e5.1 = (-1) then some ((-1), e5.2) else thn (it (fun (s12 : Int × Int) => (gi T 12 34 w0 e5.2).bind fun x15 => if s12.2 < x15 then if s12.1 = 0 then (gr T A 12 39 w0).bind fun x17 => (ld T 20 x17 s12.2 e5.2).bind fun x18 => if x18 = a1 then some (.inl (1, ia s12.2 1)) else some (.inl (0, ia s12.2 1)) else some (.inl (1, ia s12.2 1)) else some (.inr (.inl s12.1))) FU (0, 0)) (fun (v9 : Int) => if v9 = 0 then some ((-1), e5.2) else (gr T A 12 41 w0).bind fun x20 => (ld T 20 x20 a1 e5.2).bind fun x21 => if x21 = 9999 then some ((-1), e5.2) else (gr T A 12 41 w0).bind fun x23 => (ld T 20 x23 a1 e5.2).bind fun x24 => (gi T 12 40 w0 e5.2).bind fun x26 => if x24 < x26 then some ((-1), e5.2) else (gr T A 12 41 w0).bind fun x28 => (ld T 20 x28 a1 e5.2).bind fun x29 => (gi T 12 40 w0 e5.2).bind fun x31 => some (isb x29 x31, e5.2)) else none
theorem k_X12_slack {T : Knd} {A : Rfs} {w0 : Nat} {a1 : Int} {I : Mem} {e : (Int × Mem)} (h : f_X12_slack T A w0 a1 I = some e) : (T w0).1 = 12 := by
  unfold f_X12_slack at h
  exact grd_some h

def f_X12_laysStart (T : Knd) (A : Rfs) (w0 : Nat) (I : Mem) : Option Mem := if (T w0).1 = 12 then (pi T 12 42 w0 (-1) I).bind fun I1 => (pi T 12 43 w0 0 I1).bind fun I2 => it (fun (s4 : Int × Mem) => if s4.1 < 50 then (f_X12_starts T A w0 s4.1 s4.2).bind fun e6 => (f_X12_finds T A w0 0 e6).bind fun e8 => if e8.1 = (-1) then some (.inl (ia s4.1 1, e8.2)) else (gi T 12 42 w0 e8.2).bind fun x11 => thn (if x11 = (-1) then some (.inl ()) else (gi T 12 43 w0 e8.2).bind fun x15 => if (isb e8.1 s4.1) < x15 then some (.inl ()) else some (.inr (.inl (ia s4.1 1, e8.2)))) (fun (v14 : Unit) => (pi T 12 42 w0 s4.1 e8.2).bind fun I17 => (pi T 12 43 w0 (isb e8.1 s4.1) I17).bind fun I18 => some (.inl (ia s4.1 1, I18))) else some (.inr s4.2)) FU (0, I2) else none
theorem k_X12_laysStart {T : Knd} {A : Rfs} {w0 : Nat} {I : Mem} {e : Mem} (h : f_X12_laysStart T A w0 I = some e) : (T w0).1 = 12 := by
  unfold f_X12_laysStart at h
  exact grd_some h

def f_X12_start (T : Knd) (A : Rfs) (w0 : Nat) (a1 : Int) (I : Mem) : Option (Int × Mem) := if (T w0).1 = 12 then (pi T 12 0 w0 0 I).bind fun I1 => (f_X12_isOffice T A w0 I1).bind fun e2 => if e2 = 0 then some ((-2), I1) else (f_X12_in T A a1 0 1 I1).bind fun e5 => if e5 = 0 then some ((-2), I1) else (f_X12_laysStart T A w0 I1).bind fun e8 => (gi T 12 42 w0 e8).bind fun x10 => if x10 = (-1) then some ((-1), e8) else if a1 = 0 then (gi T 12 42 w0 e8).bind fun x14 => some (x14, e8) else (gi T 12 43 w0 e8).bind fun x12 => some (x12, e8) else none
theorem k_X12_start {T : Knd} {A : Rfs} {w0 : Nat} {a1 : Int} {I : Mem} {e : (Int × Mem)} (h : f_X12_start T A w0 a1 I = some e) : (T w0).1 = 12 := by
  unfold f_X12_start at h
  exact grd_some h

def f_X12_forgedOf (T : Knd) (A : Rfs) (w0 : Nat) (a1 : Int) (I : Mem) : Option (Int × Mem) := if (T w0).1 = 12 then (f_X12_findsNow T A w0 0 I).bind fun e1 => (f_X12_lays T A w0 e1.2).bind fun e4 => (gr T A 12 29 w0).bind fun x6 => (sto T 20 x6 a1 9999 e4).bind fun I7 => (f_X12_finds T A w0 0 I7).bind fun e8 => if e1.1 = (-1) then some ((-1000), e8.2) else if e8.1 = (-1) then some ((-1000), e8.2) else some (isb e1.1 e8.1, e8.2) else none
theorem k_X12_forgedOf {T : Knd} {A : Rfs} {w0 : Nat} {a1 : Int} {I : Mem} {e : (Int × Mem)} (h : f_X12_forgedOf T A w0 a1 I = some e) : (T w0).1 = 12 := by
  unfold f_X12_forgedOf at h
  exact grd_some h

def f_X12_forged (T : Knd) (A : Rfs) (w0 : Nat) (a1 : Int) (I : Mem) : Option (Int × Mem) := if (T w0).1 = 12 then (pi T 12 0 w0 0 I).bind fun I1 => (f_X12_isOfficial T A w0 a1 I1).bind fun e2 => if e2 = 0 then some ((-2000), I1) else (f_X12_forgedOf T A w0 a1 I1).bind fun e5 => some (e5.1, e5.2) else none
theorem k_X12_forged {T : Knd} {A : Rfs} {w0 : Nat} {a1 : Int} {I : Mem} {e : (Int × Mem)} (h : f_X12_forged T A w0 a1 I = some e) : (T w0).1 = 12 := by
  unfold f_X12_forged at h
  exact grd_some h

def f_X12_fake (T : Knd) (A : Rfs) (w0 : Nat) (I : Mem) : Option (Int × Mem) := if (T w0).1 = 12 then (pi T 12 0 w0 0 I).bind fun I1 => (f_X12_isOffice T A w0 I1).bind fun e2 => if e2 = 0 then some ((-2), I1) else it (fun (s6 : Int × Int × Int × Mem) => (gr T A 12 17 w0).bind fun x10 => (ld T 20 x10 3 s6.2.2.2).bind fun x11 => if s6.2.2.1 < x11 then (f_X12_forgedOf T A w0 s6.2.2.1 s6.2.2.2).bind fun e13 => if e13.1 ≤ s6.2.1 then some (.inl (s6.1, s6.2.1, ia s6.2.2.1 1, e13.2)) else some (.inl (s6.2.2.1, e13.1, ia s6.2.2.1 1, e13.2)) else some (.inr (s6.1, s6.2.2.2))) FU ((-1), 0, 0, I1) else none
theorem k_X12_fake {T : Knd} {A : Rfs} {w0 : Nat} {I : Mem} {e : (Int × Mem)} (h : f_X12_fake T A w0 I = some e) : (T w0).1 = 12 := by
  unfold f_X12_fake at h
  exact grd_some h

def f_X12_mayStamp (T : Knd) (A : Rfs) (w0 : Nat) (a1 : Int) (a2 : Int) (I : Mem) : Option Int := if (T w0).1 = 12 then (gr T A 12 19 w0).bind fun x1 => (ld T 20 x1 a1 I).bind fun x2 => if (iand x2 (ixor a2 (-1))) = 0 then (gr T A 12 20 w0).bind fun x4 => (ld T 20 x4 a1 I).bind fun x5 => if (iand x5 a2) = 0 then some 1 else some 0 else some 0 else none
theorem k_X12_mayStamp {T : Knd} {A : Rfs} {w0 : Nat} {a1 : Int} {a2 : Int} {I : Mem} {e : Int} (h : f_X12_mayStamp T A w0 a1 a2 I = some e) : (T w0).1 = 12 := by
  unfold f_X12_mayStamp at h
  exact grd_some h

def f_X12_sets0 (T : Knd) (A : Rfs) (w0 : Nat) (I : Mem) : Option Int := if (T w0).1 = 12 then (gr T A 12 17 w0).bind fun x1 => (ld T 20 x1 3 I).bind fun x2 => some (ishl 1 x2) else none
theorem k_X12_sets0 {T : Knd} {A : Rfs} {w0 : Nat} {I : Mem} {e : Int} (h : f_X12_sets0 T A w0 I = some e) : (T w0).1 = 12 := by
  unfold f_X12_sets0 at h
  exact grd_some h

def f_X12_laysSets (T : Knd) (A : Rfs) (w0 : Nat) (I : Mem) : Option Mem := if (T w0).1 = 12 then it (fun (s2 : Int × Mem) => (f_X12_sets0 T A w0 s2.2).bind fun e4 => if s2.1 < e4 then (gr T A 12 44 w0).bind fun x7 => thn (if s2.1 = 0 then some (.inl 1) else some (.inl 0)) (fun (v9 : Int) => (sto T 21 x7 s2.1 v9 s2.2).bind fun I11 => it (fun (s13 : Int × Mem) => (gr T A 12 17 w0).bind fun x15 => (ld T 20 x15 3 s13.2).bind fun x16 => if s13.1 < x16 then (f_X12_isBit T A s2.1 s13.1 s13.2).bind fun e18 => if e18 = 0 then some (.inl (ia s13.1 1, s13.2)) else (f_X12_mayStamp T A w0 s13.1 (iand s2.1 (ixor (ishl 1 s13.1) (-1))) s13.2).bind fun e21 => if e21 = 0 then some (.inl (ia s13.1 1, s13.2)) else (gr T A 12 44 w0).bind fun x24 => (ld T 21 x24 s2.1 s13.2).bind fun x25 => (gr T A 12 44 w0).bind fun x27 => (ld T 21 x27 (iand s2.1 (ixor (ishl 1 s13.1) (-1))) s13.2).bind fun x28 => (sto T 21 x24 s2.1 (ila x25 x28) s13.2).bind fun I30 => some (.inl (ia s13.1 1, I30)) else some (.inr (.inl (ia s2.1 1, s13.2)))) FU (0, I11)) else some (.inr s2.2)) FU (0, I) else none
theorem k_X12_laysSets {T : Knd} {A : Rfs} {w0 : Nat} {I : Mem} {e : Mem} (h : f_X12_laysSets T A w0 I = some e) : (T w0).1 = 12 := by
  unfold f_X12_laysSets at h
  exact grd_some h

def f_X12_possible (T : Knd) (A : Rfs) (w0 : Nat) (a1 : Int) (I : Mem) : Option (Int × Mem) := if (T w0).1 = 12 then (pi T 12 0 w0 0 I).bind fun I1 => (f_X12_isSet T A w0 a1 I1).bind fun e2 => if e2 = 0 then some ((-2), I1) else (f_X12_laysSets T A w0 I1).bind fun e5 => (gr T A 12 44 w0).bind fun x7 => (ld T 21 x7 a1 e5).bind fun x8 => if (ilcmp x8 0) ≤ 0 then some (0, e5) else some (1, e5) else none
theorem k_X12_possible {T : Knd} {A : Rfs} {w0 : Nat} {a1 : Int} {I : Mem} {e : (Int × Mem)} (h : f_X12_possible T A w0 a1 I = some e) : (T w0).1 = 12 := by
  unfold f_X12_possible at h
  exact grd_some h

def f_X12_sets (T : Knd) (A : Rfs) (w0 : Nat) (I : Mem) : Option (Int × Mem) := if (T w0).1 = 12 then (pi T 12 0 w0 0 I).bind fun I1 => (f_X12_isOffice T A w0 I1).bind fun e2 => if e2 = 0 then some ((-2), I1) else (f_X12_laysSets T A w0 I1).bind fun e5 => it (fun (s8 : Int × Int) => (f_X12_sets0 T A w0 e5).bind fun e11 => if s8.2 < e11 then (gr T A 12 44 w0).bind fun x14 => (ld T 21 x14 s8.2 e5).bind fun x15 => if (ilcmp x15 0) ≤ 0 then some (.inl (ia s8.1 0, ia s8.2 1)) else some (.inl (ia s8.1 1, ia s8.2 1)) else some (.inr (s8.1, e5))) FU (0, 0) else none
theorem k_X12_sets {T : Knd} {A : Rfs} {w0 : Nat} {I : Mem} {e : (Int × Mem)} (h : f_X12_sets T A w0 I = some e) : (T w0).1 = 12 := by
  unfold f_X12_sets at h
  exact grd_some h

def f_X12_never (T : Knd) (A : Rfs) (w0 : Nat) (I : Mem) : Option (Int × Mem) := if (T w0).1 = 12 then (pi T 12 0 w0 0 I).bind fun I1 => (f_X12_isOffice T A w0 I1).bind fun e2 => if e2 = 0 then some ((-2), I1) else (f_X12_laysSets T A w0 I1).bind fun e5 => thn (it (fun (s11 : Int × Int) => (f_X12_sets0 T A w0 e5).bind fun e14 => if s11.2 < e14 then (gr T A 12 44 w0).bind fun x17 => (ld T 21 x17 s11.2 e5).bind fun x18 => thn (if (ilcmp x18 0) ≤ 0 then some (.inl 0) else some (.inl s11.2)) (fun (v21 : Int) => some (.inl (ior s11.1 v21, ia s11.2 1))) else some (.inr (.inl s11.1))) FU (0, 0)) (fun (v8 : Int) => (f_X12_sets0 T A w0 e5).bind fun e23 => some (iand (isb e23 1) (ixor v8 (-1)), e5)) else none
theorem k_X12_never {T : Knd} {A : Rfs} {w0 : Nat} {I : Mem} {e : (Int × Mem)} (h : f_X12_never T A w0 I = some e) : (T w0).1 = 12 := by
  unfold f_X12_never at h
  exact grd_some h

def f_X12_laysReach (T : Knd) (A : Rfs) (w0 : Nat) (I : Mem) : Option Mem := if (T w0).1 = 12 then thn (it (fun (s4 : Int × Mem) => if s4.1 < 8 then (gr T A 12 45 w0).bind fun x6 => (gr T A 12 17 w0).bind fun x7 => (ld T 20 x7 3 s4.2).bind fun x8 => thn (if s4.1 < x8 then (gr T A 12 19 w0).bind fun x13 => (ld T 20 x13 s4.1 s4.2).bind fun x14 => some (.inl x14) else some (.inl 0)) (fun (v11 : Int) => (sto T 20 x6 s4.1 v11 s4.2).bind fun I16 => some (.inl (ia s4.1 1, I16))) else some (.inr (.inl s4.2))) FU (0, I)) (fun (v2 : Mem) => it (fun (s18 : Int × Mem) => if s18.1 < 8 then it (fun (s21 : Int × Mem) => if s21.1 < 8 then (gr T A 12 45 w0).bind fun x23 => (ld T 20 x23 s21.1 s21.2).bind fun x24 => (f_X12_isBit T A x24 s18.1 s21.2).bind fun e26 => if e26 = 0 then some (.inl (ia s21.1 1, s21.2)) else (gr T A 12 45 w0).bind fun x29 => (ld T 20 x29 s21.1 s21.2).bind fun x30 => (gr T A 12 45 w0).bind fun x32 => (ld T 20 x32 s18.1 s21.2).bind fun x33 => (sto T 20 x29 s21.1 (ior x30 x33) s21.2).bind fun I35 => some (.inl (ia s21.1 1, I35)) else some (.inr (.inl (ia s18.1 1, s21.2)))) FU (0, s18.2) else some (.inr s18.2)) FU (0, v2)) else none
theorem k_X12_laysReach {T : Knd} {A : Rfs} {w0 : Nat} {I : Mem} {e : Mem} (h : f_X12_laysReach T A w0 I = some e) : (T w0).1 = 12 := by
  unfold f_X12_laysReach at h
  exact grd_some h

def f_X12_ringNow (T : Knd) (A : Rfs) (w0 : Nat) (I : Mem) : Option (Int × Mem) := if (T w0).1 = 12 then (f_X12_laysReach T A w0 I).bind fun e1 => it (fun (s4 : Int × Int) => (gr T A 12 17 w0).bind fun x7 => (ld T 20 x7 3 e1).bind fun x8 => if s4.2 < x8 then (gr T A 12 45 w0).bind fun x10 => (ld T 20 x10 s4.2 e1).bind fun x11 => (f_X12_isBit T A x11 s4.2 e1).bind fun e13 => thn (if e13 = 0 then some (.inl 0) else some (.inl (ishl 1 s4.2))) (fun (v17 : Int) => some (.inl (ior s4.1 v17, ia s4.2 1))) else some (.inr (s4.1, e1))) FU (0, 0) else none
theorem k_X12_ringNow {T : Knd} {A : Rfs} {w0 : Nat} {I : Mem} {e : (Int × Mem)} (h : f_X12_ringNow T A w0 I = some e) : (T w0).1 = 12 := by
  unfold f_X12_ringNow at h
  exact grd_some h

def f_X12_ring (T : Knd) (A : Rfs) (w0 : Nat) (I : Mem) : Option (Int × Mem) := if (T w0).1 = 12 then (pi T 12 0 w0 0 I).bind fun I1 => (f_X12_isOffice T A w0 I1).bind fun e2 => if e2 = 0 then some ((-2), I1) else (f_X12_ringNow T A w0 I1).bind fun e5 => some (e5.1, e5.2) else none
theorem k_X12_ring {T : Knd} {A : Rfs} {w0 : Nat} {I : Mem} {e : (Int × Mem)} (h : f_X12_ring T A w0 I = some e) : (T w0).1 = 12 := by
  unfold f_X12_ring at h
  exact grd_some h

def f_X12_depthOf : Nat → Knd → Rfs → Nat → Int → Mem → Option Int
  | 0, _, _, _, _, _ => none
  | dd + 1, T, A, w0, a1, I => if (T w0).1 = 12 then it (fun (s2 : Int × Int) => (gr T A 12 17 w0).bind fun x5 => (ld T 20 x5 3 I).bind fun x6 => if s2.2 < x6 then (gr T A 12 19 w0).bind fun x8 => (ld T 20 x8 a1 I).bind fun x9 => (f_X12_isBit T A x9 s2.2 I).bind fun e11 => thn (if e11 = 0 then some (.inl 0) else (f_X12_depthOf dd T A w0 s2.2 I).bind fun e17 => some (.inl e17)) (fun (v15 : Int) => if v15 ≤ s2.1 then some (.inl (s2.1, ia s2.2 1)) else some (.inl (v15, ia s2.2 1))) else some (.inr (ia s2.1 1))) FU (0, 0) else none
theorem k_X12_depthOf {dd : Nat} {T : Knd} {A : Rfs} {w0 : Nat} {a1 : Int} {I : Mem} {e : Int} (h : f_X12_depthOf dd T A w0 a1 I = some e) : (T w0).1 = 12 := by
  cases dd with
  | zero => unfold f_X12_depthOf at h; cases h
  | succ dd => unfold f_X12_depthOf at h; exact grd_some h

def f_X12_depth (T : Knd) (A : Rfs) (w0 : Nat) (a1 : Int) (I : Mem) : Option (Int × Mem) := if (T w0).1 = 12 then (pi T 12 0 w0 0 I).bind fun I1 => (f_X12_isOfficial T A w0 a1 I1).bind fun e2 => if e2 = 0 then some ((-2), I1) else (f_X12_ringNow T A w0 I1).bind fun e5 => (gr T A 12 45 w0).bind fun x8 => (ld T 20 x8 a1 e5.2).bind fun x9 => if (iand (ior x9 (ishl 1 a1)) e5.1) = 0 then (f_X12_depthOf 12 T A w0 a1 e5.2).bind fun e11 => some (e11, e5.2) else some ((-1), e5.2) else none
theorem k_X12_depth {T : Knd} {A : Rfs} {w0 : Nat} {a1 : Int} {I : Mem} {e : (Int × Mem)} (h : f_X12_depth T A w0 a1 I = some e) : (T w0).1 = 12 := by
  unfold f_X12_depth at h
  exact grd_some h

def f_X12_orders (T : Knd) (A : Rfs) (w0 : Nat) (a1 : Int) (I : Mem) : Option (Int × Mem) := if (T w0).1 = 12 then (pi T 12 0 w0 0 I).bind fun I1 => (f_X12_isSet T A w0 a1 I1).bind fun e2 => if e2 = 0 then some ((-2), I1) else (f_X12_laysSets T A w0 I1).bind fun e5 => (gr T A 12 44 w0).bind fun x7 => (ld T 21 x7 a1 e5).bind fun x8 => some (x8, e5) else none
theorem k_X12_orders {T : Knd} {A : Rfs} {w0 : Nat} {a1 : Int} {I : Mem} {e : (Int × Mem)} (h : f_X12_orders T A w0 a1 I = some e) : (T w0).1 = 12 := by
  unfold f_X12_orders at h
  exact grd_some h

def f_X12_dropsBy (T : Knd) (A : Rfs) (w0 : Nat) (a1 : Int) (a2 : Int) (I : Mem) : Option Int := if (T w0).1 = 12 then (gr T A 12 19 w0).bind fun x1 => (ld T 20 x1 a1 I).bind fun x2 => (f_X12_sizeOf T A (iand x2 (ixor a2 (-1))) I).bind fun e4 => (gr T A 12 20 w0).bind fun x7 => (ld T 20 x7 a1 I).bind fun x8 => (f_X12_sizeOf T A (iand x8 a2) I).bind fun e10 => (gr T A 12 46 w0).bind fun x13 => (ld T 20 x13 (ior a2 (ishl 1 a1)) I).bind fun x14 => some (ia (ia (im 16 (ia e4 e10)) 1) x14) else none
theorem k_X12_dropsBy {T : Knd} {A : Rfs} {w0 : Nat} {a1 : Int} {a2 : Int} {I : Mem} {e : Int} (h : f_X12_dropsBy T A w0 a1 a2 I = some e) : (T w0).1 = 12 := by
  unfold f_X12_dropsBy at h
  exact grd_some h

def f_X12_laysDrops (T : Knd) (A : Rfs) (w0 : Nat) (I : Mem) : Option Mem := if (T w0).1 = 12 then (f_X12_sets0 T A w0 I).bind fun e1 => it (fun (s5 : Int × Mem) => if s5.1 < 0 then some (.inr s5.2) else (gr T A 12 46 w0).bind fun x7 => (gr T A 12 17 w0).bind fun x8 => (ld T 20 x8 4 s5.2).bind fun x9 => thn (if (iand x9 (ixor s5.1 (-1))) = 0 then some (.inl 0) else some (.inl 100000)) (fun (v12 : Int) => (sto T 20 x7 s5.1 v12 s5.2).bind fun I14 => it (fun (s16 : Int × Mem) => (gr T A 12 17 w0).bind fun x18 => (ld T 20 x18 3 s16.2).bind fun x19 => if s16.1 < x19 then (gr T A 12 17 w0).bind fun x21 => (ld T 20 x21 4 s16.2).bind fun x22 => if (iand x22 (ixor s5.1 (-1))) = 0 then some (.inr (.inl (ia s5.1 (-1), s16.2))) else (f_X12_isBit T A s5.1 s16.1 s16.2).bind fun e24 => if e24 = 0 then (f_X12_dropsBy T A w0 s16.1 s5.1 s16.2).bind fun e27 => (gr T A 12 46 w0).bind fun x30 => (ld T 20 x30 s5.1 s16.2).bind fun x31 => if e27 < x31 then (gr T A 12 46 w0).bind fun x33 => (f_X12_dropsBy T A w0 s16.1 s5.1 s16.2).bind fun e34 => (sto T 20 x33 s5.1 e34 s16.2).bind fun I37 => some (.inl (ia s16.1 1, I37)) else some (.inl (ia s16.1 1, s16.2)) else some (.inl (ia s16.1 1, s16.2)) else some (.inr (.inl (ia s5.1 (-1), s16.2)))) FU (0, I14))) FU (isb e1 1, I) else none
theorem k_X12_laysDrops {T : Knd} {A : Rfs} {w0 : Nat} {I : Mem} {e : Mem} (h : f_X12_laysDrops T A w0 I = some e) : (T w0).1 = 12 := by
  unfold f_X12_laysDrops at h
  exact grd_some h

def f_X12_loose (T : Knd) (A : Rfs) (w0 : Nat) (I : Mem) : Option (Int × Mem) := if (T w0).1 = 12 then (pi T 12 0 w0 0 I).bind fun I1 => (f_X12_isOffice T A w0 I1).bind fun e2 => if e2 = 0 then some ((-2), I1) else (f_X12_laysDrops T A w0 I1).bind fun e5 => (gr T A 12 46 w0).bind fun x7 => (ld T 20 x7 0 e5).bind fun x8 => (dvz 16).bind fun _ => some (idv x8 16, e5) else none
theorem k_X12_loose {T : Knd} {A : Rfs} {w0 : Nat} {I : Mem} {e : (Int × Mem)} (h : f_X12_loose T A w0 I = some e) : (T w0).1 = 12 := by
  unfold f_X12_loose at h
  exact grd_some h

def f_X12_loosely (T : Knd) (A : Rfs) (w0 : Nat) (a1 : Int) (I : Mem) : Option (Int × Mem) := if (T w0).1 = 12 then (pi T 12 0 w0 0 I).bind fun I1 => (f_X12_isOffice T A w0 I1).bind fun e2 => if e2 = 0 then some ((-2), I1) else (f_X12_laysDrops T A w0 I1).bind fun e5 => it (fun (s8 : Int × Int) => (gr T A 12 17 w0).bind fun x11 => (ld T 20 x11 4 e5).bind fun x12 => if (iand x12 (ixor s8.1 (-1))) = 0 then some (.inr ((-1), e5)) else thn (it (fun (s18 : Int) => (f_X12_isBit T A s8.1 s18 e5).bind fun e20 => if e20 = 0 then (f_X12_dropsBy T A w0 s18 s8.1 e5).bind fun e23 => (gr T A 12 46 w0).bind fun x26 => (ld T 20 x26 s8.1 e5).bind fun x27 => if e23 = x27 then some (.inr (.inl s18)) else some (.inl (ia s18 1)) else some (.inl (ia s18 1))) FU 0) (fun (v15 : Int) => if s8.2 = a1 then some (.inr (v15, e5)) else some (.inl (ior s8.1 (ishl 1 v15), ia s8.2 1)))) FU (0, 0) else none
theorem k_X12_loosely {T : Knd} {A : Rfs} {w0 : Nat} {a1 : Int} {I : Mem} {e : (Int × Mem)} (h : f_X12_loosely T A w0 a1 I = some e) : (T w0).1 = 12 := by
  unfold f_X12_loosely at h
  exact grd_some h

def f_X12_canBeHad (T : Knd) (A : Rfs) (w0 : Nat) (I : Mem) : Option (Int × Mem) := if (T w0).1 = 12 then (f_X12_laysSets T A w0 I).bind fun e1 => it (fun (s4 : Int) => (f_X12_sets0 T A w0 e1).bind fun e6 => if s4 < e6 then (gr T A 12 44 w0).bind fun x9 => (ld T 21 x9 s4 e1).bind fun x10 => if (ilcmp x10 0) ≤ 0 then some (.inl (ia s4 1)) else (gr T A 12 17 w0).bind fun x12 => (ld T 20 x12 4 e1).bind fun x13 => if (iand x13 (ixor s4 (-1))) = 0 then some (.inr (1, e1)) else some (.inl (ia s4 1)) else some (.inr (0, e1))) FU 0 else none
theorem k_X12_canBeHad {T : Knd} {A : Rfs} {w0 : Nat} {I : Mem} {e : (Int × Mem)} (h : f_X12_canBeHad T A w0 I = some e) : (T w0).1 = 12 := by
  unfold f_X12_canBeHad at h
  exact grd_some h

def f_X12_isParted (T : Knd) (A : Rfs) (w0 : Nat) (w1 : Nat) (a2 : Int) (a3 : Int) (I : Mem) : Option (Int × Mem) := if (T w0).1 = 12 then (ld T 20 w1 a2 I).bind fun x1 => (sto T 20 w1 a2 (iand x1 (ixor (ishl 1 a3) (-1))) I).bind fun I3 => (f_X12_canBeHad T A w0 I3).bind fun e4 => (ld T 20 w1 a2 e4.2).bind fun x7 => (sto T 20 w1 a2 (ior x7 (ishl 1 a3)) e4.2).bind fun I9 => (zck e4.1).bind fun _ => some (e4.1, I9) else none
theorem k_X12_isParted {T : Knd} {A : Rfs} {w0 : Nat} {w1 : Nat} {a2 : Int} {a3 : Int} {I : Mem} {e : (Int × Mem)} (h : f_X12_isParted T A w0 w1 a2 a3 I = some e) : (T w0).1 = 12 := by
  unfold f_X12_isParted at h
  exact grd_some h

def f_X12_parted (T : Knd) (A : Rfs) (w0 : Nat) (I : Mem) : Option (Int × Mem) := if (T w0).1 = 12 then (pi T 12 0 w0 0 I).bind fun I1 => (f_X12_isOffice T A w0 I1).bind fun e2 => if e2 = 0 then some ((-2), I1) else (f_X12_canBeHad T A w0 I1).bind fun e5 => if e5.1 = 0 then thn (it (fun (s14 : Int × Mem) => if s14.1 < 2 then it (fun (s17 : Int × Mem) => (gr T A 12 17 w0).bind fun x19 => (ld T 20 x19 3 s17.2).bind fun x20 => if s17.1 < x20 then it (fun (s23 : Int × Mem) => (gr T A 12 17 w0).bind fun x25 => (ld T 20 x25 3 s23.2).bind fun x26 => if s23.1 < x26 then thn (if s14.1 = 0 then (gr T A 12 19 w0).bind fun x34 => (ld T 20 x34 s17.1 s23.2).bind fun x35 => some (.inl x35) else (gr T A 12 20 w0).bind fun x31 => (ld T 20 x31 s17.1 s23.2).bind fun x32 => some (.inl x32)) (fun (v29 : Int) => (f_X12_isBit T A v29 s23.1 s23.2).bind fun e37 => if e37 = 0 then some (.inl (ia s23.1 1, s23.2)) else thn (if s14.1 = 0 then (gr T A 12 19 w0).bind fun x43 => some (.inl x43) else (gr T A 12 20 w0).bind fun x42 => some (.inl x42)) (fun (v41 : Nat) => (f_X12_isParted T A w0 v41 s17.1 s23.1 s23.2).bind fun e44 => if e44.1 = 0 then some (.inl (ia s23.1 1, e44.2)) else some (.inr (.inr (.inr (.inl (s14.1, s17.1, s23.1, e44.2))))))) else some (.inr (.inl (ia s17.1 1, s23.2)))) FU (0, s17.2) else some (.inr (.inl (ia s14.1 1, s17.2)))) FU (0, s14.2) else some (.inr (.inr ((-1), s14.2)))) FU (0, e5.2)) (fun (v9 : Int × Int × Int × Mem) => some (ia (ia (im 100 v9.1) (im 10 v9.2.1)) v9.2.2.1, v9.2.2.2)) else some ((-1), e5.2) else none
theorem k_X12_parted {T : Knd} {A : Rfs} {w0 : Nat} {I : Mem} {e : (Int × Mem)} (h : f_X12_parted T A w0 I = some e) : (T w0).1 = 12 := by
  unfold f_X12_parted at h
  exact grd_some h

def f_X12_whyNot (T : Knd) (A : Rfs) (w0 : Nat) (a1 : Int) (I : Mem) : Option Int := if (T w0).1 = 12 then (f_X12_isSlot T A a1 I).bind fun e1 => if e1 = 0 then some (-2) else (f_X12_isOffice T A w0 I).bind fun e4 => if e4 = 0 then some (-2) else (gr T A 12 1 w0).bind fun x7 => (ld T 20 x7 a1 I).bind fun x8 => if x8 = (-1) then some (-6) else it (fun (s11 : Int) => (gr T A 12 2 w0).bind fun x13 => (ld T 20 x13 a1 I).bind fun x14 => if s11 < x14 then (gr T A 12 3 w0).bind fun x16 => (ld T 21 x16 (ia (im 60 a1) s11) I).bind fun x17 => (f_X12_isOfficial T A w0 x17 I).bind fun e19 => if e19 = 0 then some (.inr (-2)) else some (.inl (ia s11 1)) else some (.inr 0)) FU 0 else none
theorem k_X12_whyNot {T : Knd} {A : Rfs} {w0 : Nat} {a1 : Int} {I : Mem} {e : Int} (h : f_X12_whyNot T A w0 a1 I = some e) : (T w0).1 = 12 := by
  unfold f_X12_whyNot at h
  exact grd_some h

def f_X12_cellOf (T : Knd) (A : Rfs) (w0 : Nat) (a1 : Int) (a2 : Int) (I : Mem) : Option Int := if (T w0).1 = 12 then (gr T A 12 3 w0).bind fun x1 => (ld T 21 x1 (ia (im 60 a1) a2) I).bind fun x2 => some (wrap x2) else none
theorem k_X12_cellOf {T : Knd} {A : Rfs} {w0 : Nat} {a1 : Int} {a2 : Int} {I : Mem} {e : Int} (h : f_X12_cellOf T A w0 a1 a2 I = some e) : (T w0).1 = 12 := by
  unfold f_X12_cellOf at h
  exact grd_some h

def f_X12_judge (T : Knd) (A : Rfs) (w0 : Nat) (a1 : Int) (I : Mem) : Option (Int × Mem) := if (T w0).1 = 12 then (pi T 12 0 w0 0 I).bind fun I1 => (f_X12_whyNot T A w0 a1 I1).bind fun e2 => if e2 = 0 then thn (it (fun (s8 : Int × Int) => (gr T A 12 2 w0).bind fun x11 => (ld T 20 x11 a1 I1).bind fun x12 => if s8.2 < x12 then (f_X12_cellOf T A w0 a1 s8.2 I1).bind fun e14 => (f_X12_isBit T A s8.1 e14 I1).bind fun e17 => if e17 = 0 then (f_X12_mayStamp T A w0 e14 s8.1 I1).bind fun e20 => if e20 = 0 then some (.inr (.inr (s8.2, I1))) else some (.inl (ior s8.1 (ishl 1 e14), ia s8.2 1)) else some (.inr (.inr (s8.2, I1))) else some (.inr (.inl ()))) FU (0, 0)) (fun (v6 : Unit) => (gr T A 12 2 w0).bind fun x23 => (ld T 20 x23 a1 I1).bind fun x24 => some (x24, I1)) else some (e2, I1) else none
theorem k_X12_judge {T : Knd} {A : Rfs} {w0 : Nat} {a1 : Int} {I : Mem} {e : (Int × Mem)} (h : f_X12_judge T A w0 a1 I = some e) : (T w0).1 = 12 := by
  unfold f_X12_judge at h
  exact grd_some h

def f_X12_bribed (T : Knd) (A : Rfs) (w0 : Nat) (a1 : Int) (I : Mem) : Option (Int × Mem) := if (T w0).1 = 12 then (pi T 12 0 w0 0 I).bind fun I1 => (f_X12_whyNot T A w0 a1 I1).bind fun e2 => if e2 = 0 then it (fun (s6 : Int × Int × Int) => (gr T A 12 2 w0).bind fun x10 => (ld T 20 x10 a1 I1).bind fun x11 => if s6.2.2 < x11 then (f_X12_cellOf T A w0 a1 s6.2.2 I1).bind fun e13 => (f_X12_isBit T A s6.1 e13 I1).bind fun e16 => thn (thn (if e16 = 0 then (f_X12_mayStamp T A w0 e13 s6.1 I1).bind fun e24 => if e24 = 0 then some (.inl ()) else some (.inr (.inl 0)) else some (.inl ())) (fun (v23 : Unit) => some (.inl (ishl 1 e13)))) (fun (v20 : Int) => some (.inl (ior s6.1 (ishl 1 e13), ior s6.2.1 v20, ia s6.2.2 1))) else some (.inr (s6.2.1, I1))) FU (0, 0, 0) else some (e2, I1) else none
theorem k_X12_bribed {T : Knd} {A : Rfs} {w0 : Nat} {a1 : Int} {I : Mem} {e : (Int × Mem)} (h : f_X12_bribed T A w0 a1 I = some e) : (T w0).1 = 12 := by
  unfold f_X12_bribed at h
  exact grd_some h

def f_X12_runs (T : Knd) (A : Rfs) (w0 : Nat) (a1 : Int) (I : Mem) : Option (Int × Mem) := if (T w0).1 = 12 then (gr T A 12 17 w0).bind fun x1 => (ld T 20 x1 2 I).bind fun x2 => (f_X12_starts T A w0 x2 I).bind fun e4 => thn (it (fun (s9 : Int × Mem) => (gr T A 12 2 w0).bind fun x11 => (ld T 20 x11 a1 s9.2).bind fun x12 => if s9.1 < x12 then (f_X12_cellOf T A w0 a1 s9.1 s9.2).bind fun e14 => (f_X12_stampsIn T A w0 e14 s9.2).bind fun e17 => if e17 = (-1) then some (.inr (.inr ((-1), s9.2))) else (gr T A 12 47 w0).bind fun x20 => (ld T 20 x20 e14 s9.2).bind fun x21 => (gi T 12 25 w0 s9.2).bind fun x23 => (gr T A 12 24 w0).bind fun x25 => (gi T 12 26 w0 s9.2).bind fun x26 => (f_X12_of T A w0 e14 0 s9.2).bind fun e28 => (ld T 20 x25 (ia (im 6 x26) e28) s9.2).bind fun x31 => (sto T 20 x20 e14 (ia x21 (isb (isb e17 x23) x31)) s9.2).bind fun I33 => (gi T 12 31 w0 I33).bind fun x34 => thn (if x34 = 0 then some (.inl I33) else (gr T A 12 30 w0).bind fun x38 => (sto T 23 x38 (ia (im 400 e14) e17) (iand 1 1) I33).bind fun I39 => some (.inl I39)) (fun (v37 : Mem) => (f_X12_goesTo T A w0 e14 e17 v37).bind fun e40 => some (.inl (ia s9.1 1, e40))) else some (.inr (.inl s9.2))) FU (0, e4)) (fun (v7 : Mem) => (gi T 12 25 w0 v7).bind fun x42 => some (x42, v7)) else none
theorem k_X12_runs {T : Knd} {A : Rfs} {w0 : Nat} {a1 : Int} {I : Mem} {e : (Int × Mem)} (h : f_X12_runs T A w0 a1 I = some e) : (T w0).1 = 12 := by
  unfold f_X12_runs at h
  exact grd_some h

def f_X12_run (T : Knd) (A : Rfs) (w0 : Nat) (a1 : Int) (I : Mem) : Option (Int × Mem) := if (T w0).1 = 12 then (pi T 12 0 w0 0 I).bind fun I1 => (f_X12_whyNot T A w0 a1 I1).bind fun e2 => if e2 = 0 then (f_X12_runs T A w0 a1 I1).bind fun e5 => some (e5.1, e5.2) else some (e2, I1) else none
theorem k_X12_run {T : Knd} {A : Rfs} {w0 : Nat} {a1 : Int} {I : Mem} {e : (Int × Mem)} (h : f_X12_run T A w0 a1 I = some e) : (T w0).1 = 12 := by
  unfold f_X12_run at h
  exact grd_some h

def f_X12_queues (T : Knd) (A : Rfs) (w0 : Nat) (a1 : Int) (a2 : Int) (I : Mem) : Option Mem := if (T w0).1 = 12 then thn (it (fun (s4 : Int × Mem) => if s4.1 < 3200 then (gr T A 12 30 w0).bind fun x6 => (sto T 23 x6 s4.1 (iand 0 1) s4.2).bind fun I7 => some (.inl (ia s4.1 1, I7)) else some (.inr (.inl s4.2))) FU (0, I)) (fun (v2 : Mem) => thn (it (fun (s11 : Int × Mem) => if s11.1 < 8 then (gr T A 12 47 w0).bind fun x13 => (sto T 20 x13 s11.1 0 s11.2).bind fun I14 => some (.inl (ia s11.1 1, I14)) else some (.inr (.inl s11.2))) FU (0, v2)) (fun (v9 : Mem) => (pz T 12 31 w0 1 v9).bind fun I15 => thn (it (fun (s19 : Int × Mem) => if s19.1 < a2 then (gr T A 12 48 w0).bind fun x21 => (f_X12_runs T A w0 a1 s19.2).bind fun e22 => (sto T 20 x21 s19.1 e22.1 e22.2).bind fun I25 => some (.inl (ia s19.1 1, I25)) else some (.inr (.inl s19.2))) FU (0, I15)) (fun (v17 : Mem) => (pz T 12 31 w0 0 v17).bind fun I26 => some I26))) else none
theorem k_X12_queues {T : Knd} {A : Rfs} {w0 : Nat} {a1 : Int} {a2 : Int} {I : Mem} {e : Mem} (h : f_X12_queues T A w0 a1 a2 I = some e) : (T w0).1 = 12 := by
  unfold f_X12_queues at h
  exact grd_some h

def f_X12_lastOf (T : Knd) (A : Rfs) (w0 : Nat) (a1 : Int) (I : Mem) : Option Int := if (T w0).1 = 12 then it (fun (s2 : Int × Int) => if s2.2 < a1 then (gr T A 12 48 w0).bind fun x5 => (ld T 20 x5 s2.2 I).bind fun x6 => if x6 = (-1) then some (.inr (-1)) else (gr T A 12 48 w0).bind fun x8 => (ld T 20 x8 s2.2 I).bind fun x9 => if x9 ≤ s2.1 then some (.inl (s2.1, ia s2.2 1)) else (gr T A 12 48 w0).bind fun x11 => (ld T 20 x11 s2.2 I).bind fun x12 => some (.inl (x12, ia s2.2 1)) else some (.inr s2.1)) FU (0, 0) else none
theorem k_X12_lastOf {T : Knd} {A : Rfs} {w0 : Nat} {a1 : Int} {I : Mem} {e : Int} (h : f_X12_lastOf T A w0 a1 I = some e) : (T w0).1 = 12 := by
  unfold f_X12_lastOf at h
  exact grd_some h

def f_X12_queue (T : Knd) (A : Rfs) (w0 : Nat) (a1 : Int) (a2 : Int) (I : Mem) : Option (Int × Mem) := if (T w0).1 = 12 then (pi T 12 0 w0 0 I).bind fun I1 => (f_X12_in T A a2 1 9 I1).bind fun e2 => thn (if e2 = 0 then some (.inl (-2)) else (f_X12_whyNot T A w0 a1 I1).bind fun e8 => some (.inl e8)) (fun (v6 : Int) => if v6 = 0 then (f_X12_queues T A w0 a1 a2 I1).bind fun e11 => (f_X12_lastOf T A w0 a2 e11).bind fun e13 => some (e13, e11) else some (v6, I1)) else none
theorem k_X12_queue {T : Knd} {A : Rfs} {w0 : Nat} {a1 : Int} {a2 : Int} {I : Mem} {e : (Int × Mem)} (h : f_X12_queue T A w0 a1 a2 I = some e) : (T w0).1 = 12 := by
  unfold f_X12_queue at h
  exact grd_some h

def f_X12_served (T : Knd) (A : Rfs) (w0 : Nat) (a1 : Int) (a2 : Int) (I : Mem) : Option (Int × Mem) := if (T w0).1 = 12 then (pi T 12 0 w0 0 I).bind fun I1 => (f_X12_in T A a2 0 400 I1).bind fun e2 => thn (if e2 = 0 then some (.inl (-2)) else (f_X12_whyNot T A w0 a1 I1).bind fun e8 => some (.inl e8)) (fun (v6 : Int) => if v6 = 0 then (f_X12_queues T A w0 a1 9 I1).bind fun e11 => it (fun (s14 : Int × Int) => if s14.2 < 9 then (gr T A 12 48 w0).bind fun x17 => (ld T 20 x17 s14.2 e11).bind fun x18 => if x18 = (-1) then some (.inl (ia s14.1 0, ia s14.2 1)) else (gr T A 12 48 w0).bind fun x20 => (ld T 20 x20 s14.2 e11).bind fun x21 => if x21 ≤ a2 then some (.inl (ia s14.1 1, ia s14.2 1)) else some (.inl (ia s14.1 0, ia s14.2 1)) else some (.inr (s14.1, e11))) FU (0, 0) else some (v6, I1)) else none
theorem k_X12_served {T : Knd} {A : Rfs} {w0 : Nat} {a1 : Int} {a2 : Int} {I : Mem} {e : (Int × Mem)} (h : f_X12_served T A w0 a1 a2 I = some e) : (T w0).1 = 12 := by
  unfold f_X12_served at h
  exact grd_some h

def f_X12_chair (T : Knd) (A : Rfs) (w0 : Nat) (a1 : Int) (I : Mem) : Option (Int × Mem) := if (T w0).1 = 12 then (pi T 12 0 w0 0 I).bind fun I1 => (f_X12_whyNot T A w0 a1 I1).bind fun e2 => if e2 = 0 then (f_X12_queues T A w0 a1 9 I1).bind fun e5 => (f_X12_lastOf T A w0 9 e5).bind fun e7 => if e7 = (-1) then some ((-1), e5) else it (fun (s11 : Int × Int) => (gr T A 12 17 w0).bind fun x14 => (ld T 20 x14 3 e5).bind fun x15 => if s11.2 < x15 then thn (it (fun (s21 : Int × Int) => (gr T A 12 2 w0).bind fun x24 => (ld T 20 x24 a1 e5).bind fun x25 => if s21.2 < x25 then if s21.1 = 0 then (f_X12_cellOf T A w0 a1 s21.2 e5).bind fun e27 => if e27 = s11.2 then some (.inl (1, ia s21.2 1)) else some (.inl (0, ia s21.2 1)) else some (.inl (1, ia s21.2 1)) else some (.inr (.inl s21.1))) FU (0, 0)) (fun (v18 : Int) => if v18 = 0 then some (.inl (s11.1, ia s11.2 1)) else if s11.1 = (-1) then some (.inl (s11.2, ia s11.2 1)) else (gr T A 12 47 w0).bind fun x30 => (ld T 20 x30 s11.2 e5).bind fun x31 => (gr T A 12 47 w0).bind fun x33 => (ld T 20 x33 s11.1 e5).bind fun x34 => if x31 ≤ x34 then some (.inl (s11.1, ia s11.2 1)) else some (.inl (s11.2, ia s11.2 1))) else some (.inr (s11.1, e5))) FU ((-1), 0) else some (e2, I1) else none
theorem k_X12_chair {T : Knd} {A : Rfs} {w0 : Nat} {a1 : Int} {I : Mem} {e : (Int × Mem)} (h : f_X12_chair T A w0 a1 I = some e) : (T w0).1 = 12 := by
  unfold f_X12_chair at h
  exact grd_some h

def f_X12_draws (T : Knd) (A : Rfs) (w0 : Nat) (a1 : Int) (I : Mem) : Option (Int × Mem) := if (T w0).1 = 12 then (f_X12_lays T A w0 I).bind fun e1 => (f_X12_heldNow T A w0 e1).bind fun e3 => (pi T 12 49 w0 0 e1).bind fun I6 => thn (it (fun (s10 : Int × Int × Mem) => (f_X12_isDone T A w0 s10.2.2).bind fun e13 => if e13 = 0 then (f_X12_canNow T A w0 s10.2.2).bind fun e16 => if (iand e16 (ixor s10.2.1 (-1))) = 0 then some (.inr (.inr ((-1), s10.2.2))) else (dvz 2147483648).bind fun _ => (dvz 65536).bind fun _ => (f_X12_sizeOf T A (iand e16 (ixor s10.2.1 (-1))) s10.2.2).bind fun e19 => (dvz e19).bind fun _ => thn (it (fun (s26 : Int × Int) => thn (if s26.1 ≤ 0 then (f_X12_isBit T A (iand e16 (ixor s10.2.1 (-1))) s26.2 s10.2.2).bind fun e31 => if e31 = 0 then some (.inl ()) else some (.inr (.inr (.inl s26.2))) else some (.inl ())) (fun (v30 : Unit) => (f_X12_isBit T A (iand e16 (ixor s10.2.1 (-1))) s26.2 s10.2.2).bind fun e34 => if e34 = 0 then some (.inl (isb s26.1 0, ia s26.2 1)) else some (.inl (isb s26.1 1, ia s26.2 1)))) FU (wrap (ilrm (ildv (ilrm (ila (ilm 1103515245 s10.1) 12345) 2147483648) 65536) e19), 0)) (fun (v23 : Int) => (f_X12_stampsIn T A w0 v23 s10.2.2).bind fun e37 => (f_X12_goesTo T A w0 v23 e37 s10.2.2).bind fun e40 => (gi T 12 49 w0 e40).bind fun x42 => (pi T 12 49 w0 (ia x42 1) e40).bind fun I44 => some (.inl (ilrm (ila (ilm 1103515245 s10.1) 12345) 2147483648, ior s10.2.1 (ishl 1 v23), I44))) else some (.inr (.inl s10.2.2))) FU (a1, e3, I6)) (fun (v8 : Mem) => (gi T 12 25 w0 v8).bind fun x45 => some (x45, v8)) else none
theorem k_X12_draws {T : Knd} {A : Rfs} {w0 : Nat} {a1 : Int} {I : Mem} {e : (Int × Mem)} (h : f_X12_draws T A w0 a1 I = some e) : (T w0).1 = 12 := by
  unfold f_X12_draws at h
  exact grd_some h

def f_X12_isSeed (T : Knd) (A : Rfs) (w0 : Nat) (a1 : Int) (I : Mem) : Option Int := if (T w0).1 = 12 then (f_X12_isOffice T A w0 I).bind fun e1 => if e1 = 0 then some 0 else (f_X12_in T A a1 0 2000000000 I).bind fun e4 => if e4 = 0 then some 0 else some 1 else none
theorem k_X12_isSeed {T : Knd} {A : Rfs} {w0 : Nat} {a1 : Int} {I : Mem} {e : Int} (h : f_X12_isSeed T A w0 a1 I = some e) : (T w0).1 = 12 := by
  unfold f_X12_isSeed at h
  exact grd_some h

def f_X12_blind (T : Knd) (A : Rfs) (w0 : Nat) (a1 : Int) (I : Mem) : Option (Int × Mem) := if (T w0).1 = 12 then (pi T 12 0 w0 0 I).bind fun I1 => (f_X12_isSeed T A w0 a1 I1).bind fun e2 => if e2 = 0 then some ((-2), I1) else (f_X12_draws T A w0 a1 I1).bind fun e5 => some (e5.1, e5.2) else none
theorem k_X12_blind {T : Knd} {A : Rfs} {w0 : Nat} {a1 : Int} {I : Mem} {e : (Int × Mem)} (h : f_X12_blind T A w0 a1 I = some e) : (T w0).1 = 12 := by
  unfold f_X12_blind at h
  exact grd_some h

def f_X12_tries (T : Knd) (A : Rfs) (w0 : Nat) (a1 : Int) (I : Mem) : Option (Int × Mem) := if (T w0).1 = 12 then (pi T 12 0 w0 0 I).bind fun I1 => (f_X12_isSeed T A w0 a1 I1).bind fun e2 => if e2 = 0 then some ((-2), I1) else (f_X12_draws T A w0 a1 I1).bind fun e5 => (gi T 12 49 w0 e5.2).bind fun x8 => some (x8, e5.2) else none
theorem k_X12_tries {T : Knd} {A : Rfs} {w0 : Nat} {a1 : Int} {I : Mem} {e : (Int × Mem)} (h : f_X12_tries T A w0 a1 I = some e) : (T w0).1 = 12 := by
  unfold f_X12_tries at h
  exact grd_some h

def f_X12_luck (T : Knd) (A : Rfs) (w0 : Nat) (a1 : Int) (a2 : Int) (I : Mem) : Option (Int × Mem) := if (T w0).1 = 12 then (pi T 12 0 w0 0 I).bind fun I1 => (f_X12_isSeed T A w0 a1 I1).bind fun e2 => if e2 = 0 then some ((-2), I1) else (f_X12_in T A a2 1 20 I1).bind fun e5 => if e5 = 0 then some ((-2), I1) else it (fun (s9 : Int × Int × Mem) => if s9.2.1 < a2 then (f_X12_draws T A w0 (ila a1 s9.2.1) s9.2.2).bind fun e12 => if e12.1 = (-1) then some (.inl (ia s9.1 0, ia s9.2.1 1, e12.2)) else some (.inl (ia s9.1 1, ia s9.2.1 1, e12.2)) else some (.inr (s9.1, s9.2.2))) FU (0, 0, I1) else none
theorem k_X12_luck {T : Knd} {A : Rfs} {w0 : Nat} {a1 : Int} {a2 : Int} {I : Mem} {e : (Int × Mem)} (h : f_X12_luck T A w0 a1 a2 I = some e) : (T w0).1 = 12 := by
  unfold f_X12_luck at h
  exact grd_some h

def f_X12_common : Nat → Knd → Rfs → Int → Int → Mem → Option Int
  | 0, _, _, _, _, _ => none
  | dd + 1, T, A, a0, a1, I => if a1 = 0 then some a0 else (dvz a1).bind fun _ => (f_X12_common dd T A a1 (irm a0 a1) I).bind fun e1 => some e1

def f_X12_worth (T : Knd) (A : Rfs) (w0 : Nat) (a1 : Int) (a2 : Int) (a3 : Int) (I : Mem) : Option (Int × Mem) := if (T w0).1 = 12 then (pi T 12 0 w0 0 I).bind fun I1 => (f_X12_isSeed T A w0 a1 I1).bind fun e2 => if e2 = 0 then some ((-2), I1) else (f_X12_in T A a2 1 20 I1).bind fun e5 => if e5 = 0 then some ((-2), I1) else (f_X12_in T A a3 0 1 I1).bind fun e8 => if e8 = 0 then some ((-2), I1) else (f_X12_findsNow T A w0 0 I1).bind fun e11 => thn (it (fun (s19 : Int × Int × Int × Mem) => if s19.2.2.1 < a2 then (f_X12_draws T A w0 (ila a1 s19.2.2.1) s19.2.2.2).bind fun e23 => if e23.1 = (-1) then some (.inl (s19.1, s19.2.1, ia s19.2.2.1 1, e23.2)) else some (.inl (ia s19.1 (isb e23.1 e11.1), ia s19.2.1 1, ia s19.2.2.1 1, e23.2)) else some (.inr (.inl (s19.1, s19.2.1, s19.2.2.2)))) FU (0, 0, 0, e11.2)) (fun (v15 : Int × Int × Mem) => if v15.2.1 = 0 then some ((-1), v15.2.2) else thn (if a3 = 0 then some (.inl v15.1) else some (.inl v15.2.1)) (fun (v27 : Int) => (f_X12_common 64 T A v15.1 v15.2.1 v15.2.2).bind fun e29 => (dvz e29).bind fun _ => some (idv v27 e29, v15.2.2))) else none
theorem k_X12_worth {T : Knd} {A : Rfs} {w0 : Nat} {a1 : Int} {a2 : Int} {a3 : Int} {I : Mem} {e : (Int × Mem)} (h : f_X12_worth T A w0 a1 a2 a3 I = some e) : (T w0).1 = 12 := by
  unfold f_X12_worth at h
  exact grd_some h

def f_X12_ask (T : Knd) (A : Rfs) (w0 : Nat) (a1 : Int) (a2 : Int) (a3 : Int) (a4 : Int) (I : Mem) : Option (Int × Mem) := if (T w0).1 = 12 then (pi T 12 0 w0 0 I).bind fun I1 => (f_X12_isOfficial T A w0 a1 I1).bind fun e2 => if e2 = 0 then some ((-2), I1) else (f_X12_isOfficial T A w0 a2 I1).bind fun e5 => if e5 = 0 then some ((-2), I1) else if a1 = a2 then some ((-2), I1) else (f_X12_in T A a3 0 1 I1).bind fun e8 => if e8 = 0 then some ((-2), I1) else (f_X12_in T A a4 0 1 I1).bind fun e11 => if e11 = 0 then some ((-2), I1) else (gr T A 12 17 w0).bind fun x14 => (ld T 20 x14 5 I1).bind fun x15 => if x15 ≤ 0 then thn (if a3 = 0 then (gr T A 12 19 w0).bind fun x20 => some (.inl x20) else (gr T A 12 20 w0).bind fun x19 => some (.inl x19)) (fun (v18 : Nat) => (ld T 20 v18 a1 I1).bind fun x21 => thn (if a4 = 1 then (ld T 20 v18 a1 I1).bind fun x28 => some (.inl (ior x28 (ishl 1 a2))) else (ld T 20 v18 a1 I1).bind fun x26 => some (.inl (iand x26 (ixor (ishl 1 a2) (-1))))) (fun (v24 : Int) => (sto T 20 v18 a1 v24 I1).bind fun I30 => some (iand (ishr x21 a2) 1, I30))) else some ((-5), I1) else none
theorem k_X12_ask {T : Knd} {A : Rfs} {w0 : Nat} {a1 : Int} {a2 : Int} {a3 : Int} {a4 : Int} {I : Mem} {e : (Int × Mem)} (h : f_X12_ask T A w0 a1 a2 a3 a4 I = some e) : (T w0).1 = 12 := by
  unfold f_X12_ask at h
  exact grd_some h

def f_X12_leave (T : Knd) (A : Rfs) (w0 : Nat) (a1 : Int) (a2 : Int) (a3 : Int) (I : Mem) : Option (Int × Mem) := if (T w0).1 = 12 then (pi T 12 0 w0 0 I).bind fun I1 => thn (thn (if a2 = (-1) then if a3 = (-1) then some (.inr (.inl 1)) else some (.inl ()) else some (.inl ())) (fun (v6 : Unit) => some (.inl 0))) (fun (v3 : Int) => (f_X12_isOfficial T A w0 a1 I1).bind fun e7 => if e7 = 0 then some ((-2), I1) else thn (if v3 = 0 then (f_X12_in T A a2 0 39 I1).bind fun e12 => if e12 = 0 then some (.inr ((-2), I1)) else (f_X12_in T A a3 a2 39 I1).bind fun e15 => if e15 = 0 then some (.inr ((-2), I1)) else some (.inl ()) else some (.inl ())) (fun (v11 : Unit) => (gr T A 12 17 w0).bind fun x18 => (ld T 20 x18 5 I1).bind fun x19 => if x19 ≤ 0 then (gr T A 12 18 w0).bind fun x21 => (sto T 20 x21 (ia (im 9 a1) 7) a2 I1).bind fun I22 => (gr T A 12 18 w0).bind fun x23 => (sto T 20 x23 (ia (im 9 a1) 8) a3 I22).bind fun I24 => some (0, I24) else some ((-5), I1))) else none
theorem k_X12_leave {T : Knd} {A : Rfs} {w0 : Nat} {a1 : Int} {a2 : Int} {a3 : Int} {I : Mem} {e : (Int × Mem)} (h : f_X12_leave T A w0 a1 a2 a3 I = some e) : (T w0).1 = 12 := by
  unfold f_X12_leave at h
  exact grd_some h

def f_X12_wants (T : Knd) (A : Rfs) (w0 : Nat) (a1 : Int) (I : Mem) : Option (Int × Mem) := if (T w0).1 = 12 then (pi T 12 0 w0 0 I).bind fun I1 => (f_X12_isSet T A w0 a1 I1).bind fun e2 => if e2 = 0 then some ((-2), I1) else (gr T A 12 17 w0).bind fun x5 => (ld T 20 x5 4 I1).bind fun x6 => (gr T A 12 17 w0).bind fun x8 => (sto T 20 x8 4 a1 I1).bind fun I9 => some (x6, I9) else none
theorem k_X12_wants {T : Knd} {A : Rfs} {w0 : Nat} {a1 : Int} {I : Mem} {e : (Int × Mem)} (h : f_X12_wants T A w0 a1 I = some e) : (T w0).1 = 12 := by
  unfold f_X12_wants at h
  exact grd_some h

def f_X12_count (T : Knd) (A : Rfs) (w0 : Nat) (a1 : Int) (I : Mem) : Option (Int × Mem) := if (T w0).1 = 12 then (pi T 12 0 w0 0 I).bind fun I1 => if a1 = 0 then (gr T A 12 17 w0).bind fun x2 => (ld T 20 x2 3 I1).bind fun x3 => some (x3, I1) else if a1 = 1 then (gr T A 12 17 w0).bind fun x6 => (ld T 20 x6 0 I1).bind fun x7 => some (x7, I1) else if a1 = 2 then it (fun (s11 : Int × Int) => (gr T A 12 17 w0).bind fun x14 => (ld T 20 x14 3 I1).bind fun x15 => if s11.2 < x15 then (gr T A 12 19 w0).bind fun x17 => (ld T 20 x17 s11.2 I1).bind fun x18 => (f_X12_sizeOf T A x18 I1).bind fun e20 => some (.inl (ia s11.1 e20, ia s11.2 1)) else some (.inr (s11.1, I1))) FU (0, 0) else if a1 = 3 then it (fun (s25 : Int × Int) => (gr T A 12 17 w0).bind fun x28 => (ld T 20 x28 3 I1).bind fun x29 => if s25.2 < x29 then (gr T A 12 20 w0).bind fun x31 => (ld T 20 x31 s25.2 I1).bind fun x32 => (f_X12_sizeOf T A x32 I1).bind fun e34 => some (.inl (ia s25.1 e34, ia s25.2 1)) else some (.inr (s25.1, I1))) FU (0, 0) else if a1 = 4 then (gr T A 12 16 w0).bind fun x38 => (ld T 20 x38 0 I1).bind fun x39 => some (x39, I1) else if a1 = 5 then (gi T 12 6 w0 I1).bind fun x42 => some (x42, I1) else if a1 = 6 then (gr T A 12 17 w0).bind fun x45 => (ld T 20 x45 5 I1).bind fun x46 => some (x46, I1) else if a1 = 7 then (gr T A 12 17 w0).bind fun x49 => (ld T 20 x49 2 I1).bind fun x50 => some (x50, I1) else if a1 = 8 then it (fun (s54 : Int × Int) => if s54.2 < 4 then (gr T A 12 1 w0).bind fun x57 => (ld T 20 x57 s54.2 I1).bind fun x58 => if x58 = (-1) then some (.inl (ia s54.1 0, ia s54.2 1)) else some (.inl (ia s54.1 1, ia s54.2 1)) else some (.inr (s54.1, I1))) FU (0, 0) else some ((-1), I1) else none
theorem k_X12_count {T : Knd} {A : Rfs} {w0 : Nat} {a1 : Int} {I : Mem} {e : (Int × Mem)} (h : f_X12_count T A w0 a1 I = some e) : (T w0).1 = 12 := by
  unfold f_X12_count at h
  exact grd_some h

def f_X12_keep (T : Knd) (A : Rfs) (w0 : Nat) (a1 : Int) (I : Mem) : Option (Int × Mem) := if (T w0).1 = 12 then (pi T 12 0 w0 0 I).bind fun I1 => (f_X12_in T A a1 0 2 I1).bind fun e2 => if e2 = 0 then some ((-2), I1) else (f_X12_copyOffice T A w0 0 (ia 1 a1) I1).bind fun e5 => (gr T A 12 23 w0).bind fun x7 => (sto T 23 x7 a1 (iand 1 1) e5).bind fun I8 => some (0, I8) else none
theorem k_X12_keep {T : Knd} {A : Rfs} {w0 : Nat} {a1 : Int} {I : Mem} {e : (Int × Mem)} (h : f_X12_keep T A w0 a1 I = some e) : (T w0).1 = 12 := by
  unfold f_X12_keep at h
  exact grd_some h

def f_X12_back (T : Knd) (A : Rfs) (w0 : Nat) (a1 : Int) (I : Mem) : Option (Int × Mem) := if (T w0).1 = 12 then (pi T 12 0 w0 0 I).bind fun I1 => (f_X12_in T A a1 0 2 I1).bind fun e2 => if e2 = 0 then some ((-2), I1) else (gr T A 12 23 w0).bind fun x5 => (ld T 23 x5 a1 I1).bind fun x6 => if x6 = 0 then some ((-6), I1) else (f_X12_copyOffice T A w0 (ia 1 a1) 0 I1).bind fun e8 => some (0, e8) else none
theorem k_X12_back {T : Knd} {A : Rfs} {w0 : Nat} {a1 : Int} {I : Mem} {e : (Int × Mem)} (h : f_X12_back T A w0 a1 I = some e) : (T w0).1 = 12 := by
  unfold f_X12_back at h
  exact grd_some h
