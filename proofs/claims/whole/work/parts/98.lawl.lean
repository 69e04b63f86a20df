/-! THE LAW'S LOOP, from the first cells on -/
theorem lwr_round {b L i : Nat} {xs : Nat → Int32} {σ : Sto} {D : Desk} (hL : L ≤ 4608) (hi : 9 * i + 9 ≤ L) (hI : INV b σ D) : LwGo b i (bd_L_law (ΛE b) xs L b (b + 65) (b + 83) (nI (9 * i), σ)) := by
  unfold bd_L_law
  simp only
  rw [if_neg (by rw [e9, nI_sb (by omega)]; exact nI_nlt (by omega) (by omega)), if_pos (gd_nI (by omega) (by omega)), nI_cl (by omega)]
  by_cases c0 : (xs (9 * i) &&& (31 : Int32)) = (0 : Int32)
  · rw [if_pos c0]; exact lwr_page hL hi hI
  rw [if_neg c0]
  by_cases c1 : (xs (9 * i) &&& (31 : Int32)) = (1 : Int32)
  · rw [if_pos c1]; exact lwr_copy hL hi hI
  rw [if_neg c1]
  by_cases c2 : (xs (9 * i) &&& (31 : Int32)) = (2 : Int32)
  · rw [if_pos c2]; exact lwr_set hL hi hI
  rw [if_neg c2]
  by_cases c3 : (xs (9 * i) &&& (31 : Int32)) = (3 : Int32)
  · rw [if_pos c3]; exact lwr_line hL hi hI
  rw [if_neg c3]
  by_cases c4 : (xs (9 * i) &&& (31 : Int32)) = (4 : Int32)
  · rw [if_pos c4]; exact lwr_lay hL hi hI
  rw [if_neg c4]
  by_cases c5 : (xs (9 * i) &&& (31 : Int32)) = (5 : Int32)
  · rw [if_pos c5]; exact lwr_at hL hi hI
  rw [if_neg c5]
  by_cases c6 : (xs (9 * i) &&& (31 : Int32)) = (6 : Int32)
  · rw [if_pos c6]; exact lwr_row hL hi hI
  rw [if_neg c6]
  by_cases c7 : (xs (9 * i) &&& (31 : Int32)) = (7 : Int32)
  · rw [if_pos c7]; exact lwr_of hL hi hI
  rw [if_neg c7]
  by_cases c8 : (xs (9 * i) &&& (31 : Int32)) = (8 : Int32)
  · rw [if_pos c8]; exact lwr_count hL hi hI
  rw [if_neg c8]
  by_cases c9 : (xs (9 * i) &&& (31 : Int32)) = (9 : Int32)
  · rw [if_pos c9]; exact lwr_unlike hL hi hI
  rw [if_neg c9]
  by_cases c10 : (xs (9 * i) &&& (31 : Int32)) = (10 : Int32)
  · rw [if_pos c10]; exact lwr_across hL hi hI
  rw [if_neg c10]
  by_cases c11 : (xs (9 * i) &&& (31 : Int32)) = (11 : Int32)
  · rw [if_pos c11]; exact lwr_upright hL hi hI
  rw [if_neg c11]
  by_cases c12 : (xs (9 * i) &&& (31 : Int32)) = (12 : Int32)
  · rw [if_pos c12]; exact lwr_turn hL hi hI
  rw [if_neg c12]
  by_cases c13 : (xs (9 * i) &&& (31 : Int32)) = (13 : Int32)
  · rw [if_pos c13]; exact lwr_sharp hL hi hI
  rw [if_neg c13]
  by_cases c14 : (xs (9 * i) &&& (31 : Int32)) = (14 : Int32)
  · rw [if_pos c14]; exact lwr_angle hL hi hI
  rw [if_neg c14]
  by_cases c15 : (xs (9 * i) &&& (31 : Int32)) = (15 : Int32)
  · rw [if_pos c15]; exact lwr_bend hL hi hI
  rw [if_neg c15]
  by_cases c16 : (xs (9 * i) &&& (31 : Int32)) = (16 : Int32)
  · rw [if_pos c16]; exact lwr_foot hL hi hI
  rw [if_neg c16]
  by_cases c17 : (xs (9 * i) &&& (31 : Int32)) = (17 : Int32)
  · rw [if_pos c17]; exact lwr_specks hL hi hI
  rw [if_neg c17]
  by_cases c18 : (xs (9 * i) &&& (31 : Int32)) = (18 : Int32)
  · rw [if_pos c18]; exact lwr_take hL hi hI
  rw [if_neg c18]
  by_cases c19 : (xs (9 * i) &&& (31 : Int32)) = (19 : Int32)
  · rw [if_pos c19]; exact lwr_shadow hL hi hI
  rw [if_neg c19]
  by_cases c20 : (xs (9 * i) &&& (31 : Int32)) = (20 : Int32)
  · rw [if_pos c20]; exact lwr_listed hL hi hI
  rw [if_neg c20]
  by_cases c21 : (xs (9 * i) &&& (31 : Int32)) = (21 : Int32)
  · rw [if_pos c21]; exact lwr_box hL hi hI
  rw [if_neg c21]
  by_cases c22 : (xs (9 * i) &&& (31 : Int32)) = (22 : Int32)
  · rw [if_pos c22]; exact lwr_cut hL hi hI
  rw [if_neg c22]
  by_cases c23 : (xs (9 * i) &&& (31 : Int32)) = (23 : Int32)
  · rw [if_pos c23]; exact lwr_spans hL hi hI
  rw [if_neg c23]
  by_cases c24 : (xs (9 * i) &&& (31 : Int32)) = (24 : Int32)
  · rw [if_pos c24]; exact lwr_part hL hi hI
  rw [if_neg c24]
  by_cases c25 : (xs (9 * i) &&& (31 : Int32)) = (25 : Int32)
  · rw [if_pos c25]; exact lwr_back hL hi hI
  rw [if_neg c25]
  by_cases c26 : (xs (9 * i) &&& (31 : Int32)) = (26 : Int32)
  · rw [if_pos c26]; exact lwr_told hL hi hI
  rw [if_neg c26]
  rw [nmE, e9, nI_add]
  exact lwgo_of hI
def desk0 : Desk := (0, fun _ => noP 0 0, 0, 0, fun _ => (0, 0, noP 0 0), noP 0 0, 0, fun _ => 0)
theorem tabI : ([(0, 1), (0, 7), (18, 1), (18, 2), (60, 0), (60, 1), (65, 1), (65, 6), (65, 7), (65, 19), (65, 22)] : List (Nat × Nat)).all (fun t => decide (relE.2.2.2.2.2.1 t.1 t.2 = 0)) = true := by decide +kernel
theorem tabJ : ∀ y : Fin 64, relE.2.2.2.2.2.2 61 y.val = 0 ∧ relE.2.2.2.2.2.2 59 y.val = 0 := by decide +kernel
theorem tabJ5 : relE.2.2.2.2.2.2 50 5 = 0 := by decide +kernel
theorem tab_i {k j : Nat} (h : (k, j) ∈ ([(0, 1), (0, 7), (18, 1), (18, 2), (60, 0), (60, 1), (65, 1), (65, 6), (65, 7), (65, 19), (65, 22)] : List (Nat × Nat))) : relE.2.2.2.2.2.1 k j = 0 := of_decide_eq_true (List.all_eq_true.mp tabI _ h)
theorem st_i {b k j : Nat} (h : relE.2.2.2.2.2.1 k j = 0) : (stoR b relE).1 (b + k) j = nI 0 := by
  unfold stoR
  simp only [Nat.add_sub_cancel_left, h]
  rfl
theorem st_j {b k j : Nat} (h : relE.2.2.2.2.2.2 k j = 0) : (stoR b relE).2 (b + k) j = 0 := by
  unfold stoR
  simp only [Nat.add_sub_cancel_left, h]
theorem inv_start (b : Nat) : INV b (stoR b relE) desk0 := by
  refine ⟨⟨st_i (k := 0) (tab_i (by decide)), fun p hp => absurd hp (Nat.not_lt_zero p), st_i (tab_i (by decide)), st_i (tab_i (by decide)), fun i hi => absurd hi (Nat.not_lt_zero i), ⟨st_i (tab_i (by decide)), st_i (tab_i (by decide)), by decide, by decide, fun y hy x => ?_, fun x y q => (Bool.false_ne_true q).elim⟩, st_i (k := 0) (tab_i (by decide)), fun i hi => absurd hi (Nat.not_lt_zero i)⟩, ⟨fun y hy => st_j (tabJ ⟨y, hy⟩).2, st_j tabJ5⟩, ⟨by decide, fun p hp => absurd hp (Nat.not_lt_zero p), by decide, by decide, fun i hi => absurd hi (Nat.not_lt_zero i), fun i j _ hj => absurd hj (Nat.not_lt_zero j), ⟨by decide, by decide, fun x y q => (Bool.false_ne_true q).elim⟩, by decide, fun i hi => absurd hi (Nat.not_lt_zero i)⟩, ⟨st_i (tab_i (by decide)), fun p hp => absurd hp (Nat.not_lt_zero p), st_i (tab_i (by decide)), ⟨0, by decide, st_i (tab_i (by decide)), fun i hi => absurd hi (Nat.not_lt_zero i)⟩, ⟨st_i (tab_i (by decide)), fun x y q => (Bool.false_ne_true q).elim⟩, ⟨st_i (tab_i (by decide)), fun j hj => absurd hj (Nat.not_lt_zero j)⟩⟩⟩
  rw [st_j (tabJ ⟨y, hy⟩).1, tb_zero]
  rfl
theorem law_pure (b L : Nat) (xs : Nat → Int32) (hL : L ≤ 4608) : ∃ e9, iter (bd_L_law (layR b relE) xs L (b + 0) (b + 65) (b + 83)) FU ((0 : Int32), stoR b relE) = some e9 := by
  obtain ⟨e, h1, -⟩ := iter_mu (f := bd_L_law (ΛE b) xs L b (b + 65) (b + 83)) (fun s => ∃ i D, s.1 = nI (9 * i) ∧ 9 * i ≤ 4608 ∧ INV b s.2 D) (fun s => 4900 - s.1.toNatClampNeg) (fun _ => True)
    (by
      rintro ⟨z, σ⟩ ⟨i, D, c1, c2, c3⟩
      simp only at c1 c3
      subst c1
      by_cases hi : 9 * i + 9 ≤ L
      · obtain ⟨t, t1, t2, D', t3⟩ := lwr_round (xs := xs) hL hi c3
        refine Or.inl ⟨t, t1, ⟨i + 1, D', t2, by omega, t3⟩, ?_⟩
        rw [t2]
        show 4900 - (nI (9 * (i + 1))).toNatClampNeg < 4900 - (nI (9 * i)).toNatClampNeg
        rw [nI_cl (by omega), nI_cl (by omega)]
        omega
      · refine Or.inr ⟨σ, ?_, trivial⟩
        unfold bd_L_law
        simp only
        rw [if_pos]
        rw [show (9 : Int32) = iI 9 from rfl, iI_nat, iI_nat, iI_sub, iI_lt (by omega) (by omega) (by omega) (by omega)]
        omega)
    FU ((0 : Int32), stoR b relE) ⟨0, desk0, rfl, by omega, inv_start b⟩ (by show _ < 5000; omega)
  exact ⟨e, h1⟩
