/-! THE CELLS that the law makes: who names whom, how long each row is -/
def ΛE (b : Nat) : Lay := layR b relE
theorem rf_of {b k j v : Nat} (h : relE.2.2.2.2.1 k j = some v) : rfA (ΛE b) (b + k) j = b + v := by
  unfold rfA ΛE
  simp only [layR, Nat.add_sub_cancel_left, h]
  rfl
theorem ln_of {b k n : Nat} (h : relE.2.2.2.1 k = n) : ln (ΛE b) (b + k) = n := by
  unfold ΛE
  simp only [ln, layR, Nat.add_sub_cancel_left, h]
theorem tabR : ([(0, 0, 1), (0, 2, 18), (0, 3, 50), (0, 4, 60), (0, 5, 62), (0, 6, 64), (18, 0, 19), (50, 0, 51), (50, 1, 53), (50, 2, 55), (50, 3, 57), (50, 4, 59), (51, 2, 52), (53, 2, 54), (55, 2, 56), (57, 2, 58), (60, 2, 61), (62, 2, 63), (65, 2, 66), (65, 3, 67), (65, 4, 68), (65, 5, 69), (65, 8, 70), (65, 9, 71), (65, 10, 72), (65, 11, 73), (65, 12, 74), (65, 13, 75), (65, 14, 76), (65, 15, 77), (65, 17, 78), (65, 18, 79), (65, 20, 80), (65, 21, 81), (65, 23, 82)] : List (Nat × Nat × Nat)).all (fun t => relE.2.2.2.2.1 t.1 t.2.1 == some t.2.2) = true := by decide +kernel
theorem tabN : ([(1, 8), (19, 10), (52, 64), (54, 64), (56, 64), (58, 64), (59, 64), (61, 64), (63, 128), (64, 64), (66, 8), (67, 8), (68, 32768), (69, 4096), (70, 10), (71, 10), (72, 10), (73, 10), (74, 40960), (75, 4096), (76, 4097), (77, 4096), (78, 192), (79, 4097), (80, 4096), (81, 4096), (82, 128), (83, 1)] : List (Nat × Nat)).all (fun t => relE.2.2.2.1 t.1 == t.2) = true := by decide +kernel
theorem tab_r {k j v : Nat} (h : (k, j, v) ∈ ([(0, 0, 1), (0, 2, 18), (0, 3, 50), (0, 4, 60), (0, 5, 62), (0, 6, 64), (18, 0, 19), (50, 0, 51), (50, 1, 53), (50, 2, 55), (50, 3, 57), (50, 4, 59), (51, 2, 52), (53, 2, 54), (55, 2, 56), (57, 2, 58), (60, 2, 61), (62, 2, 63), (65, 2, 66), (65, 3, 67), (65, 4, 68), (65, 5, 69), (65, 8, 70), (65, 9, 71), (65, 10, 72), (65, 11, 73), (65, 12, 74), (65, 13, 75), (65, 14, 76), (65, 15, 77), (65, 17, 78), (65, 18, 79), (65, 20, 80), (65, 21, 81), (65, 23, 82)] : List (Nat × Nat × Nat))) : relE.2.2.2.2.1 k j = some v := by
  have := List.all_eq_true.mp tabR _ h
  simpa using this
theorem tab_n {k n : Nat} (h : (k, n) ∈ ([(1, 8), (19, 10), (52, 64), (54, 64), (56, 64), (58, 64), (59, 64), (61, 64), (63, 128), (64, 64), (66, 8), (67, 8), (68, 32768), (69, 4096), (70, 10), (71, 10), (72, 10), (73, 10), (74, 40960), (75, 4096), (76, 4097), (77, 4096), (78, 192), (79, 4097), (80, 4096), (81, 4096), (82, 128), (83, 1)] : List (Nat × Nat))) : relE.2.2.2.1 k = n := by
  have := List.all_eq_true.mp tabN _ h
  simpa using this
theorem r0_0 (b : Nat) : rfA (ΛE b) (b) 0 = b + 1 := rf_of (k := 0) (tab_r (by decide))
theorem r0_2 (b : Nat) : rfA (ΛE b) (b) 2 = b + 18 := rf_of (k := 0) (tab_r (by decide))
theorem r0_3 (b : Nat) : rfA (ΛE b) (b) 3 = b + 50 := rf_of (k := 0) (tab_r (by decide))
theorem r0_4 (b : Nat) : rfA (ΛE b) (b) 4 = b + 60 := rf_of (k := 0) (tab_r (by decide))
theorem r0_5 (b : Nat) : rfA (ΛE b) (b) 5 = b + 62 := rf_of (k := 0) (tab_r (by decide))
theorem r0_6 (b : Nat) : rfA (ΛE b) (b) 6 = b + 64 := rf_of (k := 0) (tab_r (by decide))
theorem r18_0 (b : Nat) : rfA (ΛE b) (b + 18) 0 = b + 19 := rf_of (k := 18) (tab_r (by decide))
theorem r50_0 (b : Nat) : rfA (ΛE b) (b + 50) 0 = b + 51 := rf_of (k := 50) (tab_r (by decide))
theorem r50_1 (b : Nat) : rfA (ΛE b) (b + 50) 1 = b + 53 := rf_of (k := 50) (tab_r (by decide))
theorem r50_2 (b : Nat) : rfA (ΛE b) (b + 50) 2 = b + 55 := rf_of (k := 50) (tab_r (by decide))
theorem r50_3 (b : Nat) : rfA (ΛE b) (b + 50) 3 = b + 57 := rf_of (k := 50) (tab_r (by decide))
theorem r50_4 (b : Nat) : rfA (ΛE b) (b + 50) 4 = b + 59 := rf_of (k := 50) (tab_r (by decide))
theorem r51_2 (b : Nat) : rfA (ΛE b) (b + 51) 2 = b + 52 := rf_of (k := 51) (tab_r (by decide))
theorem r53_2 (b : Nat) : rfA (ΛE b) (b + 53) 2 = b + 54 := rf_of (k := 53) (tab_r (by decide))
theorem r55_2 (b : Nat) : rfA (ΛE b) (b + 55) 2 = b + 56 := rf_of (k := 55) (tab_r (by decide))
theorem r57_2 (b : Nat) : rfA (ΛE b) (b + 57) 2 = b + 58 := rf_of (k := 57) (tab_r (by decide))
theorem r60_2 (b : Nat) : rfA (ΛE b) (b + 60) 2 = b + 61 := rf_of (k := 60) (tab_r (by decide))
theorem r62_2 (b : Nat) : rfA (ΛE b) (b + 62) 2 = b + 63 := rf_of (k := 62) (tab_r (by decide))
theorem r65_2 (b : Nat) : rfA (ΛE b) (b + 65) 2 = b + 66 := rf_of (k := 65) (tab_r (by decide))
theorem r65_3 (b : Nat) : rfA (ΛE b) (b + 65) 3 = b + 67 := rf_of (k := 65) (tab_r (by decide))
theorem r65_4 (b : Nat) : rfA (ΛE b) (b + 65) 4 = b + 68 := rf_of (k := 65) (tab_r (by decide))
theorem r65_5 (b : Nat) : rfA (ΛE b) (b + 65) 5 = b + 69 := rf_of (k := 65) (tab_r (by decide))
theorem r65_8 (b : Nat) : rfA (ΛE b) (b + 65) 8 = b + 70 := rf_of (k := 65) (tab_r (by decide))
theorem r65_9 (b : Nat) : rfA (ΛE b) (b + 65) 9 = b + 71 := rf_of (k := 65) (tab_r (by decide))
theorem r65_10 (b : Nat) : rfA (ΛE b) (b + 65) 10 = b + 72 := rf_of (k := 65) (tab_r (by decide))
theorem r65_11 (b : Nat) : rfA (ΛE b) (b + 65) 11 = b + 73 := rf_of (k := 65) (tab_r (by decide))
theorem r65_12 (b : Nat) : rfA (ΛE b) (b + 65) 12 = b + 74 := rf_of (k := 65) (tab_r (by decide))
theorem r65_13 (b : Nat) : rfA (ΛE b) (b + 65) 13 = b + 75 := rf_of (k := 65) (tab_r (by decide))
theorem r65_14 (b : Nat) : rfA (ΛE b) (b + 65) 14 = b + 76 := rf_of (k := 65) (tab_r (by decide))
theorem r65_15 (b : Nat) : rfA (ΛE b) (b + 65) 15 = b + 77 := rf_of (k := 65) (tab_r (by decide))
theorem r65_17 (b : Nat) : rfA (ΛE b) (b + 65) 17 = b + 78 := rf_of (k := 65) (tab_r (by decide))
theorem r65_18 (b : Nat) : rfA (ΛE b) (b + 65) 18 = b + 79 := rf_of (k := 65) (tab_r (by decide))
theorem r65_20 (b : Nat) : rfA (ΛE b) (b + 65) 20 = b + 80 := rf_of (k := 65) (tab_r (by decide))
theorem r65_21 (b : Nat) : rfA (ΛE b) (b + 65) 21 = b + 81 := rf_of (k := 65) (tab_r (by decide))
theorem r65_23 (b : Nat) : rfA (ΛE b) (b + 65) 23 = b + 82 := rf_of (k := 65) (tab_r (by decide))
theorem l1 (b : Nat) : ln (ΛE b) (b + 1) = 8 := ln_of (tab_n (by decide))
theorem l19 (b : Nat) : ln (ΛE b) (b + 19) = 10 := ln_of (tab_n (by decide))
theorem l52 (b : Nat) : ln (ΛE b) (b + 52) = 64 := ln_of (tab_n (by decide))
theorem l54 (b : Nat) : ln (ΛE b) (b + 54) = 64 := ln_of (tab_n (by decide))
theorem l56 (b : Nat) : ln (ΛE b) (b + 56) = 64 := ln_of (tab_n (by decide))
theorem l58 (b : Nat) : ln (ΛE b) (b + 58) = 64 := ln_of (tab_n (by decide))
theorem l59 (b : Nat) : ln (ΛE b) (b + 59) = 64 := ln_of (tab_n (by decide))
theorem l61 (b : Nat) : ln (ΛE b) (b + 61) = 64 := ln_of (tab_n (by decide))
theorem l63 (b : Nat) : ln (ΛE b) (b + 63) = 128 := ln_of (tab_n (by decide))
theorem l64 (b : Nat) : ln (ΛE b) (b + 64) = 64 := ln_of (tab_n (by decide))
theorem l66 (b : Nat) : ln (ΛE b) (b + 66) = 8 := ln_of (tab_n (by decide))
theorem l67 (b : Nat) : ln (ΛE b) (b + 67) = 8 := ln_of (tab_n (by decide))
theorem l68 (b : Nat) : ln (ΛE b) (b + 68) = 32768 := ln_of (tab_n (by decide))
theorem l69 (b : Nat) : ln (ΛE b) (b + 69) = 4096 := ln_of (tab_n (by decide))
theorem l70 (b : Nat) : ln (ΛE b) (b + 70) = 10 := ln_of (tab_n (by decide))
theorem l71 (b : Nat) : ln (ΛE b) (b + 71) = 10 := ln_of (tab_n (by decide))
theorem l72 (b : Nat) : ln (ΛE b) (b + 72) = 10 := ln_of (tab_n (by decide))
theorem l73 (b : Nat) : ln (ΛE b) (b + 73) = 10 := ln_of (tab_n (by decide))
theorem l74 (b : Nat) : ln (ΛE b) (b + 74) = 40960 := ln_of (tab_n (by decide))
theorem l75 (b : Nat) : ln (ΛE b) (b + 75) = 4096 := ln_of (tab_n (by decide))
theorem l76 (b : Nat) : ln (ΛE b) (b + 76) = 4097 := ln_of (tab_n (by decide))
theorem l77 (b : Nat) : ln (ΛE b) (b + 77) = 4096 := ln_of (tab_n (by decide))
theorem l78 (b : Nat) : ln (ΛE b) (b + 78) = 192 := ln_of (tab_n (by decide))
theorem l79 (b : Nat) : ln (ΛE b) (b + 79) = 4097 := ln_of (tab_n (by decide))
theorem l80 (b : Nat) : ln (ΛE b) (b + 80) = 4096 := ln_of (tab_n (by decide))
theorem l81 (b : Nat) : ln (ΛE b) (b + 81) = 4096 := ln_of (tab_n (by decide))
theorem l82 (b : Nat) : ln (ΛE b) (b + 82) = 128 := ln_of (tab_n (by decide))
theorem l83 (b : Nat) : ln (ΛE b) (b + 83) = 1 := ln_of (tab_n (by decide))
theorem tabP : ∀ p : Fin 8, relE.2.2.2.2.1 1 p.val = some (2 + 2 * p.val) ∧ relE.2.2.2.2.1 (2 + 2 * p.val) 2 = some (3 + 2 * p.val) ∧ relE.2.2.2.1 (3 + 2 * p.val) = 64 := by decide +kernel
theorem tabH : ∀ p : Fin 10, relE.2.2.2.2.1 19 p.val = some (20 + 3 * p.val) ∧ relE.2.2.2.2.1 (20 + 3 * p.val) 2 = some (21 + 3 * p.val) ∧ relE.2.2.2.2.1 (21 + 3 * p.val) 2 = some (22 + 3 * p.val) ∧ relE.2.2.2.1 (22 + 3 * p.val) = 64 := by decide +kernel
theorem rP {p : Nat} (h : p < 8) (b : Nat) : rfA (ΛE b) (b + 1) p = b + (2 + 2 * p) := rf_of (tabP ⟨p, h⟩).1
theorem rPr {p : Nat} (h : p < 8) (b : Nat) : rfA (ΛE b) (b + (2 + 2 * p)) 2 = b + (3 + 2 * p) := rf_of (tabP ⟨p, h⟩).2.1
theorem lP {p : Nat} (h : p < 8) (b : Nat) : ln (ΛE b) (b + (3 + 2 * p)) = 64 := ln_of (tabP ⟨p, h⟩).2.2
theorem rH {p : Nat} (h : p < 10) (b : Nat) : rfA (ΛE b) (b + 19) p = b + (20 + 3 * p) := rf_of (tabH ⟨p, h⟩).1
theorem rHs {p : Nat} (h : p < 10) (b : Nat) : rfA (ΛE b) (b + (20 + 3 * p)) 2 = b + (21 + 3 * p) := rf_of (tabH ⟨p, h⟩).2.1
theorem rHr {p : Nat} (h : p < 10) (b : Nat) : rfA (ΛE b) (b + (21 + 3 * p)) 2 = b + (22 + 3 * p) := rf_of (tabH ⟨p, h⟩).2.2.1
theorem lH {p : Nat} (h : p < 10) (b : Nat) : ln (ΛE b) (b + (22 + 3 * p)) = 64 := ln_of (tabH ⟨p, h⟩).2.2.2
