/-! ONE ROUND OF THE LAW: it always goes on -/
theorem e5 : (5 : Int32) = nI 5 := eq_of_heq HEq.rfl
theorem e6 : (6 : Int32) = nI 6 := eq_of_heq HEq.rfl
def LwGo (b i : Nat) (f : Option ((Int32 × Sto) ⊕ Sto)) : Prop := ∃ t, f = some (.inl t) ∧ t.1 = nI (9 * (i + 1)) ∧ ∃ D', INV b t.2 D'
theorem lwgo_of {b i : Nat} {υ : Sto} {D : Desk} (h : INV b υ D) : LwGo b i (some (.inl (nI (9 * i + 9), υ))) := ⟨_, rfl, by show nI (9 * i + 9) = nI (9 * (i + 1)); rw [Nat.mul_add], D, h⟩
theorem lwr_page {b L i : Nat} {xs : Nat → Int32} {σ : Sto} {D : Desk} (hL : L ≤ 4608) (hi : 9 * i + 9 ≤ L) (hI : INV b σ D) : LwGo b i (jp_L_law_164 (ΛE b) xs L b (b + 65) (b + 83) (nI (9 * i)) σ) := by
  unfold jp_L_law_164
  simp (disch := omega) only [e1, e2, e3, e4, e5, e6, e7, e8, e9, nI_add, gd_nI, nI_cl, ↓reduceIte, nmE]
  obtain ⟨r, τ, υ, D', h4, h5, hI'⟩ := ag_page (xs (9 * i + 1)) (xs (9 * i + 2)) σ D hI
  simp only at h4 h5
  rw [h4, Option.bind_some]
  simp only
  rw [h5, Option.bind_some]
  simp only [↓reduceIte]
  exact lwgo_of hI'
theorem lwr_copy {b L i : Nat} {xs : Nat → Int32} {σ : Sto} {D : Desk} (hL : L ≤ 4608) (hi : 9 * i + 9 ≤ L) (hI : INV b σ D) : LwGo b i (jp_L_law_201 (ΛE b) xs L b (b + 65) (b + 83) (nI (9 * i)) σ) := by
  unfold jp_L_law_201
  simp (disch := omega) only [e1, e2, e3, e4, e5, e6, e7, e8, e9, nI_add, gd_nI, nI_cl, ↓reduceIte, nmE]
  obtain ⟨r, τ, υ, D', h4, h5, hI'⟩ := ag_copy (xs (9 * i + 1)) σ D hI
  simp only at h4 h5
  rw [h4, Option.bind_some]
  simp only
  rw [h5, Option.bind_some]
  simp only [↓reduceIte]
  exact lwgo_of hI'
theorem lwr_set {b L i : Nat} {xs : Nat → Int32} {σ : Sto} {D : Desk} (hL : L ≤ 4608) (hi : 9 * i + 9 ≤ L) (hI : INV b σ D) : LwGo b i (jp_L_law_226 (ΛE b) xs L b (b + 65) (b + 83) (nI (9 * i)) σ) := by
  unfold jp_L_law_226
  simp (disch := omega) only [e1, e2, e3, e4, e5, e6, e7, e8, e9, nI_add, gd_nI, nI_cl, ↓reduceIte, nmE]
  by_cases hz : xs (9 * i + 4) = 0
  · simp only [hz, ↓reduceIte]
    obtain ⟨r, τ, υ, D', h4, h5, hI'⟩ := ag_set (xs (9 * i + 1)) (xs (9 * i + 2)) (xs (9 * i + 3)) 0 (Or.inl rfl) σ D hI
    simp only at h4 h5
    rw [h4, Option.bind_some]
    simp only
    rw [h5, Option.bind_some]
    simp only [↓reduceIte]
    exact lwgo_of hI'
  · simp only [hz, ↓reduceIte]
    obtain ⟨r, τ, υ, D', h4, h5, hI'⟩ := ag_set (xs (9 * i + 1)) (xs (9 * i + 2)) (xs (9 * i + 3)) (nI 1) (Or.inr rfl) σ D hI
    simp only at h4 h5
    rw [h4, Option.bind_some]
    simp only
    rw [h5, Option.bind_some]
    simp only [↓reduceIte]
    exact lwgo_of hI'
theorem lwr_line {b L i : Nat} {xs : Nat → Int32} {σ : Sto} {D : Desk} (hL : L ≤ 4608) (hi : 9 * i + 9 ≤ L) (hI : INV b σ D) : LwGo b i (jp_L_law_303 (ΛE b) xs L b (b + 65) (b + 83) (nI (9 * i)) σ) := by
  unfold jp_L_law_303
  simp (disch := omega) only [e1, e2, e3, e4, e5, e6, e7, e8, e9, nI_add, gd_nI, nI_cl, ↓reduceIte, nmE]
  obtain ⟨r, τ, υ, D', h4, h5, hI'⟩ := ag_line (xs (9 * i + 1)) (xs (9 * i + 2)) ((shlL ((xs (9 * i + 3)).toInt64) (32 : Int32)) ||| (((xs (9 * i + 4)).toInt64) &&& (4294967295 : Int64))) σ D hI
  simp only at h4 h5
  rw [h4, Option.bind_some]
  simp only
  rw [h5, Option.bind_some]
  simp only [↓reduceIte]
  exact lwgo_of hI'
theorem lwr_lay {b L i : Nat} {xs : Nat → Int32} {σ : Sto} {D : Desk} (hL : L ≤ 4608) (hi : 9 * i + 9 ≤ L) (hI : INV b σ D) : LwGo b i (jp_L_law_384 (ΛE b) xs L b (b + 65) (b + 83) (nI (9 * i)) σ) := by
  unfold jp_L_law_384
  simp (disch := omega) only [e1, e2, e3, e4, e5, e6, e7, e8, e9, nI_add, gd_nI, nI_cl, ↓reduceIte, nmE]
  obtain ⟨r, τ, υ, D', h4, h5, hI'⟩ := ag_lay (xs (9 * i + 1)) (xs (9 * i + 2)) (xs (9 * i + 3)) (xs (9 * i + 4)) ((shlL ((xs (9 * i + 5)).toInt64) (32 : Int32)) ||| (((xs (9 * i + 6)).toInt64) &&& (4294967295 : Int64))) ((shlL ((xs (9 * i + 7)).toInt64) (32 : Int32)) ||| (((xs (9 * i + 8)).toInt64) &&& (4294967295 : Int64))) σ D hI
  simp only at h4 h5
  rw [h4, Option.bind_some]
  simp only
  rw [h5, Option.bind_some]
  simp only [↓reduceIte]
  exact lwgo_of hI'
theorem lwr_at {b L i : Nat} {xs : Nat → Int32} {σ : Sto} {D : Desk} (hL : L ≤ 4608) (hi : 9 * i + 9 ≤ L) (hI : INV b σ D) : LwGo b i (jp_L_law_539 (ΛE b) xs L b (b + 65) (b + 83) (nI (9 * i)) σ) := by
  unfold jp_L_law_539
  simp (disch := omega) only [e1, e2, e3, e4, e5, e6, e7, e8, e9, nI_add, gd_nI, nI_cl, ↓reduceIte, nmE]
  obtain ⟨r, υ, D', h4, h5, hI'⟩ := ag_at (xs (9 * i + 1)) (xs (9 * i + 2)) (xs (9 * i + 3)) σ D hI
  simp only at h4 h5
  rw [h4, Option.bind_some, h5, Option.bind_some]
  simp only [↓reduceIte]
  exact lwgo_of hI'
theorem lwr_row {b L i : Nat} {xs : Nat → Int32} {σ : Sto} {D : Desk} (hL : L ≤ 4608) (hi : 9 * i + 9 ≤ L) (hI : INV b σ D) : LwGo b i (jp_L_law_588 (ΛE b) xs L b (b + 65) (b + 83) (nI (9 * i)) σ) := by
  unfold jp_L_law_588
  simp (disch := omega) only [e1, e2, e3, e4, e5, e6, e7, e8, e9, nI_add, gd_nI, nI_cl, ↓reduceIte, nmE]
  obtain ⟨k, τ, r, υ, h4, h5, h6, h7, hI'⟩ := ag_row (xs (9 * i + 1)) (xs (9 * i + 2)) σ D hI
  rw [h4, Option.bind_some]
  simp only
  rw [h5, Option.bind_some]
  unfold F_X5_thrown
  simp only
  rw [h6, if_pos rfl]
  by_cases hk : k = 0
  · rw [if_pos hk, l83, if_pos (by decide), show (0 : Int32).toNatClampNeg = 0 from rfl, if_pos ((lg_cmp_eq _ _).mpr (h7 hk))]
    exact lwgo_of hI'
  · rw [if_neg hk]
    exact lwgo_of hI'
theorem lwr_of {b L i : Nat} {xs : Nat → Int32} {σ : Sto} {D : Desk} (hL : L ≤ 4608) (hi : 9 * i + 9 ≤ L) (hI : INV b σ D) : LwGo b i (jp_L_law_655 (ΛE b) xs L b (b + 65) (b + 83) (nI (9 * i)) σ) := by
  unfold jp_L_law_655
  simp (disch := omega) only [e1, e2, e3, e4, e5, e6, e7, e8, e9, nI_add, gd_nI, nI_cl, ↓reduceIte, nmE]
  obtain ⟨r, τ, υ, D', h4, h5, hI'⟩ := ag_of (xs (9 * i + 1)) (xs (9 * i + 2)) σ D hI
  simp only at h4 h5
  rw [h4, Option.bind_some]
  simp only
  rw [h5, Option.bind_some]
  simp only [↓reduceIte]
  exact lwgo_of hI'
theorem lwr_count {b L i : Nat} {xs : Nat → Int32} {σ : Sto} {D : Desk} (hL : L ≤ 4608) (hi : 9 * i + 9 ≤ L) (hI : INV b σ D) : LwGo b i (jp_L_law_692 (ΛE b) xs L b (b + 65) (b + 83) (nI (9 * i)) σ) := by
  unfold jp_L_law_692
  simp (disch := omega) only [e1, e2, e3, e4, e5, e6, e7, e8, e9, nI_add, gd_nI, nI_cl, ↓reduceIte, nmE]
  obtain ⟨r, υ, D', h4, h5, hI'⟩ := ag_count (xs (9 * i + 1)) σ D hI
  simp only at h4 h5
  rw [h4, Option.bind_some, h5, Option.bind_some]
  simp only [↓reduceIte]
  exact lwgo_of hI'
theorem lwr_unlike {b L i : Nat} {xs : Nat → Int32} {σ : Sto} {D : Desk} (hL : L ≤ 4608) (hi : 9 * i + 9 ≤ L) (hI : INV b σ D) : LwGo b i (jp_L_law_717 (ΛE b) xs L b (b + 65) (b + 83) (nI (9 * i)) σ) := by
  unfold jp_L_law_717
  simp (disch := omega) only [e1, e2, e3, e4, e5, e6, e7, e8, e9, nI_add, gd_nI, nI_cl, ↓reduceIte, nmE]
  obtain ⟨r, υ, D', h4, h5, hI'⟩ := ag_unlike (xs (9 * i + 1)) (xs (9 * i + 2)) σ D hI
  simp only at h4 h5
  rw [h4, Option.bind_some, h5, Option.bind_some]
  simp only [↓reduceIte]
  exact lwgo_of hI'
theorem lwr_across {b L i : Nat} {xs : Nat → Int32} {σ : Sto} {D : Desk} (hL : L ≤ 4608) (hi : 9 * i + 9 ≤ L) (hI : INV b σ D) : LwGo b i (jp_L_law_754 (ΛE b) xs L b (b + 65) (b + 83) (nI (9 * i)) σ) := by
  unfold jp_L_law_754
  simp (disch := omega) only [e1, e2, e3, e4, e5, e6, e7, e8, e9, nI_add, gd_nI, nI_cl, ↓reduceIte, nmE]
  obtain ⟨r, τ, υ, D', h4, h5, hI'⟩ := ag_across (xs (9 * i + 1)) (xs (9 * i + 2)) σ D hI
  simp only at h4 h5
  rw [h4, Option.bind_some]
  simp only
  rw [h5, Option.bind_some]
  simp only [↓reduceIte]
  exact lwgo_of hI'
theorem lwr_upright {b L i : Nat} {xs : Nat → Int32} {σ : Sto} {D : Desk} (hL : L ≤ 4608) (hi : 9 * i + 9 ≤ L) (hI : INV b σ D) : LwGo b i (jp_L_law_791 (ΛE b) xs L b (b + 65) (b + 83) (nI (9 * i)) σ) := by
  unfold jp_L_law_791
  simp (disch := omega) only [e1, e2, e3, e4, e5, e6, e7, e8, e9, nI_add, gd_nI, nI_cl, ↓reduceIte, nmE]
  obtain ⟨r, τ, υ, D', h4, h5, hI'⟩ := ag_upright (xs (9 * i + 1)) (xs (9 * i + 2)) σ D hI
  simp only at h4 h5
  rw [h4, Option.bind_some]
  simp only
  rw [h5, Option.bind_some]
  simp only [↓reduceIte]
  exact lwgo_of hI'
theorem lwr_turn {b L i : Nat} {xs : Nat → Int32} {σ : Sto} {D : Desk} (hL : L ≤ 4608) (hi : 9 * i + 9 ≤ L) (hI : INV b σ D) : LwGo b i (jp_L_law_828 (ΛE b) xs L b (b + 65) (b + 83) (nI (9 * i)) σ) := by
  unfold jp_L_law_828
  simp (disch := omega) only [e1, e2, e3, e4, e5, e6, e7, e8, e9, nI_add, gd_nI, nI_cl, ↓reduceIte, nmE]
  obtain ⟨r, τ, υ, D', h4, h5, hI'⟩ := ag_turn (xs (9 * i + 1)) (xs (9 * i + 2)) (xs (9 * i + 3)) σ D hI
  simp only at h4 h5
  rw [h4, Option.bind_some]
  simp only
  rw [h5, Option.bind_some]
  simp only [↓reduceIte]
  exact lwgo_of hI'
theorem lwr_sharp {b L i : Nat} {xs : Nat → Int32} {σ : Sto} {D : Desk} (hL : L ≤ 4608) (hi : 9 * i + 9 ≤ L) (hI : INV b σ D) : LwGo b i (jp_L_law_877 (ΛE b) xs L b (b + 65) (b + 83) (nI (9 * i)) σ) := by
  unfold jp_L_law_877
  simp (disch := omega) only [e1, e2, e3, e4, e5, e6, e7, e8, e9, nI_add, gd_nI, nI_cl, ↓reduceIte, nmE]
  obtain ⟨r, τ, υ, D', h4, h5, hI'⟩ := ag_sharp (xs (9 * i + 1)) (xs (9 * i + 2)) σ D hI
  simp only at h4 h5
  rw [h4, Option.bind_some]
  simp only
  rw [h5, Option.bind_some]
  simp only [↓reduceIte]
  exact lwgo_of hI'
theorem lwr_angle {b L i : Nat} {xs : Nat → Int32} {σ : Sto} {D : Desk} (hL : L ≤ 4608) (hi : 9 * i + 9 ≤ L) (hI : INV b σ D) : LwGo b i (jp_L_law_914 (ΛE b) xs L b (b + 65) (b + 83) (nI (9 * i)) σ) := by
  unfold jp_L_law_914
  simp (disch := omega) only [e1, e2, e3, e4, e5, e6, e7, e8, e9, nI_add, gd_nI, nI_cl, ↓reduceIte, nmE]
  obtain ⟨r, τ, υ, D', h4, h5, hI'⟩ := ag_angle (xs (9 * i + 1)) σ D hI
  simp only at h4 h5
  rw [h4, Option.bind_some]
  simp only
  rw [h5, Option.bind_some]
  simp only [↓reduceIte]
  exact lwgo_of hI'
theorem lwr_bend {b L i : Nat} {xs : Nat → Int32} {σ : Sto} {D : Desk} (hL : L ≤ 4608) (hi : 9 * i + 9 ≤ L) (hI : INV b σ D) : LwGo b i (jp_L_law_939 (ΛE b) xs L b (b + 65) (b + 83) (nI (9 * i)) σ) := by
  unfold jp_L_law_939
  simp (disch := omega) only [e1, e2, e3, e4, e5, e6, e7, e8, e9, nI_add, gd_nI, nI_cl, ↓reduceIte, nmE]
  obtain ⟨r, τ, υ, D', h4, h5, hI'⟩ := ag_bend (xs (9 * i + 1)) σ D hI
  simp only at h4 h5
  rw [h4, Option.bind_some]
  simp only
  rw [h5, Option.bind_some]
  simp only [↓reduceIte]
  exact lwgo_of hI'
theorem lwr_foot {b L i : Nat} {xs : Nat → Int32} {σ : Sto} {D : Desk} (hL : L ≤ 4608) (hi : 9 * i + 9 ≤ L) (hI : INV b σ D) : LwGo b i (jp_L_law_964 (ΛE b) xs L b (b + 65) (b + 83) (nI (9 * i)) σ) := by
  unfold jp_L_law_964
  simp (disch := omega) only [e1, e2, e3, e4, e5, e6, e7, e8, e9, nI_add, gd_nI, nI_cl, ↓reduceIte, nmE]
  obtain ⟨r, υ, D', h4, h5, hI'⟩ := ag_foot (xs (9 * i + 1)) (xs (9 * i + 2)) σ D hI
  simp only at h4 h5
  rw [h4, Option.bind_some, h5, Option.bind_some]
  simp only [↓reduceIte]
  exact lwgo_of hI'
theorem lwr_specks {b L i : Nat} {xs : Nat → Int32} {σ : Sto} {D : Desk} (hL : L ≤ 4608) (hi : 9 * i + 9 ≤ L) (hI : INV b σ D) : LwGo b i (jp_L_law_1001 (ΛE b) xs L b (b + 65) (b + 83) (nI (9 * i)) σ) := by
  unfold jp_L_law_1001
  simp (disch := omega) only [e1, e2, e3, e4, e5, e6, e7, e8, e9, nI_add, gd_nI, nI_cl, ↓reduceIte, nmE]
  obtain ⟨r, τ, υ, D', h4, h5, hI'⟩ := ag_specks (xs (9 * i + 1)) (xs (9 * i + 2)) (xs (9 * i + 3)) σ D hI
  simp only at h4 h5
  rw [h4, Option.bind_some]
  simp only
  rw [h5, Option.bind_some]
  simp only [↓reduceIte]
  exact lwgo_of hI'
theorem lwr_take {b L i : Nat} {xs : Nat → Int32} {σ : Sto} {D : Desk} (hL : L ≤ 4608) (hi : 9 * i + 9 ≤ L) (hI : INV b σ D) : LwGo b i (jp_L_law_1050 (ΛE b) xs L b (b + 65) (b + 83) (nI (9 * i)) σ) := by
  unfold jp_L_law_1050
  simp (disch := omega) only [e1, e2, e3, e4, e5, e6, e7, e8, e9, nI_add, gd_nI, nI_cl, ↓reduceIte, nmE]
  obtain ⟨r, τ, υ, D', h4, h5, hI'⟩ := ag_take (xs (9 * i + 1)) (xs (9 * i + 2)) (xs (9 * i + 3)) σ D hI
  simp only at h4 h5
  rw [h4, Option.bind_some]
  simp only
  rw [h5, Option.bind_some]
  simp only [↓reduceIte]
  exact lwgo_of hI'
theorem lwr_shadow {b L i : Nat} {xs : Nat → Int32} {σ : Sto} {D : Desk} (hL : L ≤ 4608) (hi : 9 * i + 9 ≤ L) (hI : INV b σ D) : LwGo b i (jp_L_law_1099 (ΛE b) xs L b (b + 65) (b + 83) (nI (9 * i)) σ) := by
  unfold jp_L_law_1099
  simp (disch := omega) only [e1, e2, e3, e4, e5, e6, e7, e8, e9, nI_add, gd_nI, nI_cl, ↓reduceIte, nmE]
  obtain ⟨r, τ, υ, D', h4, h5, hI'⟩ := ag_shadow (xs (9 * i + 1)) (xs (9 * i + 2)) σ D hI
  simp only at h4 h5
  rw [h4, Option.bind_some]
  simp only
  rw [h5, Option.bind_some]
  simp only [↓reduceIte]
  exact lwgo_of hI'
theorem lwr_listed {b L i : Nat} {xs : Nat → Int32} {σ : Sto} {D : Desk} (hL : L ≤ 4608) (hi : 9 * i + 9 ≤ L) (hI : INV b σ D) : LwGo b i (jp_L_law_1136 (ΛE b) xs L b (b + 65) (b + 83) (nI (9 * i)) σ) := by
  unfold jp_L_law_1136
  simp (disch := omega) only [e1, e2, e3, e4, e5, e6, e7, e8, e9, nI_add, gd_nI, nI_cl, ↓reduceIte, nmE]
  obtain ⟨k, τ, r, υ, h4, h5, h6, h7, hI'⟩ := ag_listed (xs (9 * i + 1)) (xs (9 * i + 2)) σ D hI
  simp only at h4 h5
  rw [h4, Option.bind_some]
  simp only
  rw [h5, Option.bind_some]
  unfold F_X5_thrown
  simp only
  rw [h6, if_pos rfl]
  by_cases hk : k = 0
  · rw [if_pos hk, l83, if_pos (by decide), show (0 : Int32).toNatClampNeg = 0 from rfl, if_pos ((lg_cmp_eq _ _).mpr (h7 hk))]
    exact lwgo_of hI'
  · rw [if_neg hk]
    exact lwgo_of hI'
theorem lwr_box {b L i : Nat} {xs : Nat → Int32} {σ : Sto} {D : Desk} (hL : L ≤ 4608) (hi : 9 * i + 9 ≤ L) (hI : INV b σ D) : LwGo b i (jp_L_law_1204 (ΛE b) xs L b (b + 65) (b + 83) (nI (9 * i)) σ) := by
  unfold jp_L_law_1204
  simp (disch := omega) only [e1, e2, e3, e4, e5, e6, e7, e8, e9, nI_add, gd_nI, nI_cl, ↓reduceIte, nmE]
  obtain ⟨r, υ, D', h4, h5, hI'⟩ := ag_box (xs (9 * i + 1)) (xs (9 * i + 2)) σ D hI
  simp only at h4 h5
  rw [h4, Option.bind_some, h5, Option.bind_some]
  simp only [↓reduceIte]
  exact lwgo_of hI'
theorem lwr_cut {b L i : Nat} {xs : Nat → Int32} {σ : Sto} {D : Desk} (hL : L ≤ 4608) (hi : 9 * i + 9 ≤ L) (hI : INV b σ D) : LwGo b i (jp_L_law_1241 (ΛE b) xs L b (b + 65) (b + 83) (nI (9 * i)) σ) := by
  unfold jp_L_law_1241
  simp (disch := omega) only [e1, e2, e3, e4, e5, e6, e7, e8, e9, nI_add, gd_nI, nI_cl, ↓reduceIte, nmE]
  obtain ⟨r, τ, υ, D', h4, h5, hI'⟩ := ag_cut (xs (9 * i + 1)) (xs (9 * i + 2)) σ D hI
  simp only at h4 h5
  rw [h4, Option.bind_some]
  simp only
  rw [h5, Option.bind_some]
  simp only [↓reduceIte]
  exact lwgo_of hI'
theorem lwr_spans {b L i : Nat} {xs : Nat → Int32} {σ : Sto} {D : Desk} (hL : L ≤ 4608) (hi : 9 * i + 9 ≤ L) (hI : INV b σ D) : LwGo b i (jp_L_law_1278 (ΛE b) xs L b (b + 65) (b + 83) (nI (9 * i)) σ) := by
  unfold jp_L_law_1278
  simp (disch := omega) only [e1, e2, e3, e4, e5, e6, e7, e8, e9, nI_add, gd_nI, nI_cl, ↓reduceIte, nmE]
  obtain ⟨r, τ, υ, D', h4, h5, hI'⟩ := ag_spans (xs (9 * i + 1)) (xs (9 * i + 2)) (xs (9 * i + 3)) σ D hI
  simp only at h4 h5
  rw [h4, Option.bind_some]
  simp only
  rw [h5, Option.bind_some]
  simp only [↓reduceIte]
  exact lwgo_of hI'
theorem lwr_part {b L i : Nat} {xs : Nat → Int32} {σ : Sto} {D : Desk} (hL : L ≤ 4608) (hi : 9 * i + 9 ≤ L) (hI : INV b σ D) : LwGo b i (jp_L_law_1327 (ΛE b) xs L b (b + 65) (b + 83) (nI (9 * i)) σ) := by
  unfold jp_L_law_1327
  simp (disch := omega) only [e1, e2, e3, e4, e5, e6, e7, e8, e9, nI_add, gd_nI, nI_cl, ↓reduceIte, nmE]
  obtain ⟨r, τ, υ, D', h4, h5, hI'⟩ := ag_part (xs (9 * i + 1)) (xs (9 * i + 2)) (xs (9 * i + 3)) (xs (9 * i + 4)) σ D hI
  simp only at h4 h5
  rw [h4, Option.bind_some]
  simp only
  rw [h5, Option.bind_some]
  simp only [↓reduceIte]
  exact lwgo_of hI'
theorem lwr_back {b L i : Nat} {xs : Nat → Int32} {σ : Sto} {D : Desk} (hL : L ≤ 4608) (hi : 9 * i + 9 ≤ L) (hI : INV b σ D) : LwGo b i (jp_L_law_1388 (ΛE b) xs L b (b + 65) (b + 83) (nI (9 * i)) σ) := by
  unfold jp_L_law_1388
  simp (disch := omega) only [e1, e2, e3, e4, e5, e6, e7, e8, e9, nI_add, gd_nI, nI_cl, ↓reduceIte, nmE]
  obtain ⟨r, τ, υ, D', h4, h5, hI'⟩ := ag_back  σ D hI
  simp only at h4 h5
  rw [h4, Option.bind_some]
  simp only
  rw [h5, Option.bind_some]
  simp only [↓reduceIte]
  exact lwgo_of hI'
theorem lwr_told {b L i : Nat} {xs : Nat → Int32} {σ : Sto} {D : Desk} (hL : L ≤ 4608) (hi : 9 * i + 9 ≤ L) (hI : INV b σ D) : LwGo b i (jp_L_law_1401 (ΛE b) xs L b (b + 65) (b + 83) (nI (9 * i)) σ) := by
  unfold jp_L_law_1401
  simp (disch := omega) only [e1, e2, e3, e4, e5, e6, e7, e8, e9, nI_add, gd_nI, nI_cl, ↓reduceIte, nmE]
  obtain ⟨k, τ, r, υ, h4, h5, h6, h7, hI'⟩ := ag_told (xs (9 * i + 1)) σ D hI
  simp only at h4 h5
  rw [h4, Option.bind_some]
  simp only
  rw [h5, Option.bind_some]
  unfold F_X5_thrown
  simp only
  rw [h6, if_pos rfl]
  by_cases hk : k = 0
  · rw [if_pos hk, l83, if_pos (by decide), show (0 : Int32).toNatClampNeg = 0 from rfl, if_pos ((lg_cmp_eq _ _).mpr (h7 hk))]
    exact lwgo_of hI'
  · rw [if_neg hk]
    exact lwgo_of hI'
