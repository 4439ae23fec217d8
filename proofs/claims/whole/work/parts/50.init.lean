/-! B: what the constructors leave: the two sides' objects by their numbers. -/
def P0v : St := nwC (11, 0) (kn0, rf0, 0, mm0)
def S1v : St := (f_X11_init P0v.1 P0v.2.1 P0v.2.2.1 1 P0v.2.2.2).getD P0v
def P1v : St := nwC (12, 0) S1v
def S2v : St := (f_X12_init P1v.1 P1v.2.1 P1v.2.2.1 (S1v.2.2.1 + 1) P1v.2.2.2).getD P1v
set_option maxRecDepth 100000 in
theorem s1_some : (f_X11_init P0v.1 P0v.2.1 P0v.2.2.1 1 P0v.2.2.2).isSome = true := by decide +kernel
set_option maxRecDepth 100000 in
theorem s1_nx : S1v.2.2.1 = 128 := by decide +kernel
set_option maxRecDepth 100000 in
theorem s2_some : (f_X12_init P1v.1 P1v.2.1 P1v.2.2.1 (S1v.2.2.1 + 1) P1v.2.2.2).isSome = true := by decide +kernel
set_option maxRecDepth 100000 in
theorem s2_nx : S2v.2.2.1 = 153 := by decide +kernel
