set_option maxRecDepth 100000 in
theorem chkl0 : chkB cL_law 0 lb0 = true := by decide +kernel
set_option maxRecDepth 100000 in
theorem chkl1 : chkB cL_law 1 lb1 = true := by decide +kernel
set_option maxRecDepth 100000 in
theorem chkl2 : chkB cL_law 2 lb2 = true := by decide +kernel
set_option maxRecDepth 100000 in
theorem chkl3 : chkB cL_law 3 lb3 = true := by decide +kernel
set_option maxRecDepth 100000 in
theorem chkl4 : chkB cL_law 4 lb4 = true := by decide +kernel
set_option maxRecDepth 100000 in
theorem chkl5 : chkB cL_law 5 lb5 = true := by decide +kernel
set_option maxRecDepth 100000 in
theorem chkl6 : chkB cL_law 6 lb6 = true := by decide +kernel
set_option maxRecDepth 100000 in
theorem chkl7 : chkB cL_law 7 lb7 = true := by decide +kernel
set_option maxRecDepth 100000 in
theorem chkl8 : chkB cL_law 8 lb8 = true := by decide +kernel
set_option maxRecDepth 100000 in
theorem chkl9 : chkB cL_law 9 lb9 = true := by decide +kernel
set_option maxRecDepth 100000 in
theorem chkl10 : chkB cL_law 10 lb10 = true := by decide +kernel
set_option maxRecDepth 100000 in
theorem chkl11 : chkB cL_law 11 lb11 = true := by decide +kernel
set_option maxRecDepth 100000 in
theorem chkl12 : chkB cL_law 12 lb12 = true := by decide +kernel
set_option maxRecDepth 100000 in
theorem chkl13 : chkB cL_law 13 lb13 = true := by decide +kernel
set_option maxRecDepth 100000 in
theorem chkl14 : chkB cL_law 14 lb14 = true := by decide +kernel
set_option maxRecDepth 100000 in
theorem chkl15 : chkB cL_law 15 lb15 = true := by decide +kernel
set_option maxRecDepth 100000 in
theorem chkl16 : chkB cL_law 16 lb16 = true := by decide +kernel
set_option maxRecDepth 100000 in
theorem chkl17 : chkB cL_law 17 lb17 = true := by decide +kernel
set_option maxRecDepth 100000 in
theorem chkl18 : chkB cL_law 18 lb18 = true := by decide +kernel
set_option maxRecDepth 100000 in
theorem chkl19 : chkB cL_law 19 lb19 = true := by decide +kernel
set_option maxRecDepth 100000 in
theorem chkl20 : chkB cL_law 20 lb20 = true := by decide +kernel
set_option maxRecDepth 100000 in
theorem chkl21 : chkB cL_law 21 lb21 = true := by decide +kernel
set_option maxRecDepth 100000 in
theorem chkl22 : chkB cL_law 22 lb22 = true := by decide +kernel
set_option maxRecDepth 100000 in
theorem chkl23 : chkB cL_law 23 lb23 = true := by decide +kernel
set_option maxRecDepth 100000 in
theorem chkl24 : chkB cL_law 24 lb24 = true := by decide +kernel
set_option maxRecDepth 100000 in
theorem chkl25 : chkB cL_law 25 lb25 = true := by decide +kernel
set_option maxRecDepth 100000 in
theorem chkl26 : chkB cL_law 26 lb26 = true := by decide +kernel
set_option maxRecDepth 100000 in
theorem chkl27 : chkB cL_law 27 lb27 = true := by decide +kernel
set_option maxRecDepth 100000 in
theorem chkl28 : chkB cL_law 28 lb28 = true := by decide +kernel
set_option maxRecDepth 100000 in
theorem chkl29 : chkB cL_law 29 lb29 = true := by decide +kernel
set_option maxRecDepth 100000 in
theorem chkl30 : chkB cL_law 30 lb30 = true := by decide +kernel
set_option maxRecDepth 100000 in
theorem chkl31 : chkB cL_law 31 lb31 = true := by decide +kernel
set_option maxRecDepth 100000 in
theorem chkl32 : chkB cL_law 32 lb32 = true := by decide +kernel
theorem chk126 : chkF cL_law 0 cb126 = true := by
  simp only [cb126, chkF, Nat.zero_add, Nat.reduceAdd, chkl0, chkl1, chkl2, chkl3, chkl4, chkl5, chkl6, chkl7, chkl8, chkl9, chkl10, chkl11, chkl12, chkl13, chkl14, chkl15, chkl16, chkl17, chkl18, chkl19, chkl20, chkl21, chkl22, chkl23, chkl24, chkl25, chkl26, chkl27, chkl28, chkl29, chkl30, chkl31, chkl32, Bool.and_self, Bool.true_and]
