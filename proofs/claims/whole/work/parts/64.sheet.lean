/-! THE CLASS'S SHEETS: what its methods leave -/
theorem fill_eq {Λ : Lay} {σ : Sto} {r N : Nat} {v : Int64} (hn : ln Λ r = N) (hN : N ≤ 128) : F_J7_fill_d0a16 Λ σ r v = some (putJ σ r N (fun _ => v)) := by
  unfold F_J7_fill_d0a16
  rw [nmE, hn, run_loop (fun k => (nI k, putJ σ r k (fun _ => v))) (putJ σ r N (fun _ => v)) N (by omega) (by rw [putJ_0]; rfl)]
  · rfl
  · intro k hk
    unfold bd_J7_fill_d0a16_6
    simp (disch := omega) only [hn, e0, e1, e2, e3, e4, e7, e8, e9, e10, e12, e16, e20, e63, e64, e100, e4096, nI_add, pk_mul, nI_sb, le_t, le_f, lt_t, lt_f, nI_cl, gd_nI, ↓reduceIte, nmE, Option.bind_some, Option.bind_eq_bind]
    rw [putJ_se rfl]
  · unfold bd_J7_fill_d0a16_6
    simp (disch := omega) only [nI_add, pk_mul, nI_sb, le_t, le_f, lt_t, lt_f, nI_cl, gd_nI, ↓reduceIte, nmE, Option.bind_some, Option.bind_eq_bind]
theorem empty_eq {Λ : Lay} {σ : Sto} {a r N : Nat} {w h : Int32} (hr : rfA Λ a 2 = r) (hn : ln Λ r = N) (hN : N ≤ 128) : F_X2_empty Λ σ a w h = some (putJ (stI (stI σ a 0 w) a 1 h) r N (fun _ => 0)) := by
  unfold F_X2_empty
  simp only [nmE, hr]
  rw [fill_eq hn hN]
  rfl
def noP (w h : Nat) : PG := (w, h, fun _ _ => false)
theorem empty_sh {Λ : Lay} {σ : Sto} {a r N w h : Nat} (hr : rfA Λ a 2 = r) (hn : ln Λ r = N) (hN : N ≤ 128) (hw : w ≤ 64) (hh : h ≤ N) :
    ∃ τ, F_X2_empty Λ σ a (nI w) (nI h) = some τ ∧ Sh τ a r N (noP w h) ∧ Fr [a, r] σ τ := by
  refine ⟨_, empty_eq hr hn hN, ⟨?_, ?_, hw, hh, ?_, ?_⟩, ?_⟩
  · simp (disch := omega) only [stI_1, stI_2, stJ_1, stJ_2, putJ_1, putI_2, up2_self, up2_ne, up2_nk]; rfl
  · simp (disch := omega) only [stI_1, stI_2, stJ_1, stJ_2, putJ_1, putI_2, up2_self, up2_ne, up2_nk]; rfl
  · intro y hy x
    rw [putJ_in hy, tb_zero]; rfl
  · intro x y h; cases h
  · exact Fr_trans (Fr_trans (Fr_stI (by simp)) (Fr_stI (by simp))) (Fr_putJ (by simp))
theorem become_sh {Λ : Lay} {σ : Sto} {a r N a1 r1 N1 : Nat} {P : PG} (hr : rfA Λ a 2 = r) (hn : ln Λ r = N) (hN : N ≤ 128) (hr1 : rfA Λ a1 2 = r1) (hn1 : ln Λ r1 = N1) (hN1 : N1 ≤ 128)
    (d1 : a ≠ a1) (d2 : r ≠ r1) (hS : Sh σ a1 r1 N1 P) (hh : P.2.1 ≤ N) :
    ∃ τ, F_X2_become Λ σ a a1 = some τ ∧ Sh τ a r N P ∧ Fr [a, r] σ τ := by
  obtain ⟨s1, s2, s3, s4, s5, s6⟩ := hS
  unfold F_X2_become
  rw [empty_eq hr hn hN, Option.bind_some]
  have q1 : (putJ (stI (stI σ a 0 (σ.1 a1 0)) a 1 (σ.1 a1 1)) r N (fun _ => 0)).1 a1 1 = nI P.2.1 := by
    simp (disch := omega) only [stI_1, stI_2, stJ_1, stJ_2, putJ_1, putI_2, up2_self, up2_ne, up2_nk]
    exact s2
  have q2 : gdc 0 0 (nI P.2.1) (ln Λ (rfA Λ a1 2)) (ln Λ (rfA Λ a 2)) = true := by
    unfold gdc
    rw [hr, hr1, hn, hn1, nI_cl (by omega)]
    exact decide_eq_true ⟨by decide, by decide, nI_pos (by omega), by show 0 + _ ≤ _; omega, by show 0 + _ ≤ _; omega⟩
  rw [q1, if_pos q2, nmE, hr, hr1, nI_cl (by omega)]
  refine ⟨_, rfl, ⟨?_, ?_, s3, hh, ?_, s6⟩, ?_⟩
  · show (putJ (stI (stI σ a 0 (σ.1 a1 0)) a 1 (σ.1 a1 1)) r N (fun _ => 0)).1 a 0 = _
    simp (disch := omega) only [stI_1, stI_2, stJ_1, stJ_2, putJ_1, putI_2, up2_self, up2_ne, up2_nk]
    exact s1
  · show (putJ (stI (stI σ a 0 (σ.1 a1 0)) a 1 (σ.1 a1 1)) r N (fun _ => 0)).1 a 1 = _
    simp (disch := omega) only [stI_1, stI_2, stJ_1, stJ_2, putJ_1, putI_2, up2_self, up2_ne, up2_nk]
    exact s2
  · intro y hy x
    show tb ((if r = r then va_cpy _ _ 0 0 P.2.1 else _) y) x = _
    rw [if_pos rfl]
    by_cases h : y < P.2.1
    · rw [pk_cpy_in (by omega) (by omega), putJ_ne (by omega)]
      rw [show 0 + (y - 0) = y by omega]
      exact s5 y (by omega) x
    · rw [pk_cpy_out (by omega), putJ_in hy, tb_zero]
      cases hg : P.2.2 x y with
      | false => rfl
      | true => exact absurd (s6 x y hg).2 h
  · refine Fr_trans (τ := putJ (stI (stI σ a 0 (σ.1 a1 0)) a 1 (σ.1 a1 1)) r N (fun _ => 0)) (Fr_trans (Fr_trans (Fr_stI (by simp)) (Fr_stI (by simp))) (Fr_putJ (by simp))) ?_
    intro c hc
    refine ⟨rfl, ?_⟩
    show (if c = r then _ else _) = _
    rw [if_neg (by intro e; subst e; simp at hc)]
-- small tests
theorem hasRow_t {Λ : Lay} {σ : Sto} {a r N k : Nat} {P : PG} (hS : Sh σ a r N P) (hN : N ≤ 128) (hk : k < P.2.1) : F_X2_hasRow Λ σ a (nI k) = nI 1 := by
  obtain ⟨s1, s2, s3, s4, s5, s6⟩ := hS
  unfold F_X2_hasRow
  rw [s2]
  simp (disch := omega) only [e0, e1, e2, e3, e4, e7, e8, e9, e10, e12, e16, e20, e63, e64, e100, e4096, nI_add, pk_mul, nI_sb, le_t, le_f, lt_t, lt_f, nI_cl, gd_nI, ↓reduceIte, nmE, Option.bind_some, Option.bind_eq_bind]
theorem hasRow_f {Λ : Lay} {σ : Sto} {a r N : Nat} {P : PG} {y : Int32} (hS : Sh σ a r N P) (hN : N ≤ 128) (hk : ¬ ∃ k, k < P.2.1 ∧ y = nI k) : F_X2_hasRow Λ σ a y = nI 0 := by
  obtain ⟨s1, s2, s3, s4, s5, s6⟩ := hS
  unfold F_X2_hasRow
  rw [s2]
  rcases pk_ix y (n := P.2.1) (by omega) with h | h | h
  · rw [if_pos h]; rfl
  · by_cases h2 : y < 0
    · rw [if_pos h2]; rfl
    · rw [if_neg h2, if_pos h]; rfl
  · exact absurd h hk
theorem within_t {k lo hi : Nat} (h1 : lo ≤ k) (h2 : k ≤ hi) (h3 : hi < 2147483648) : F_X4_within (nI k) (nI lo) (nI hi) = nI 1 := by
  unfold F_X4_within
  simp (disch := omega) only [e0, e1, e2, e3, e4, e7, e8, e9, e10, e12, e16, e20, e63, e64, e100, e4096, nI_add, pk_mul, nI_sb, le_t, le_f, lt_t, lt_f, nI_cl, gd_nI, ↓reduceIte, nmE, Option.bind_some, Option.bind_eq_bind]
theorem within_f {x : Int32} {lo hi : Nat} (h3 : hi < 2147483647) (h : ¬ ∃ k, lo ≤ k ∧ k ≤ hi ∧ x = nI k) (hlo : lo < 2147483648) : F_X4_within x (nI lo) (nI hi) = nI 0 := by
  unfold F_X4_within
  by_cases h1 : x < nI lo
  · rw [if_pos h1]; rfl
  · rw [if_neg h1]
    by_cases h2 : nI hi < x
    · rw [if_pos h2]; rfl
    · exfalso
      apply h
      rw [lt32, nI_ti hlo] at h1
      rw [lt32, nI_ti (by omega)] at h2
      refine ⟨x.toInt.toNat, by omega, by omega, ?_⟩
      rw [eq32, nI_ti (by omega)]
      omega
/-- 0 .. n - 1 where n may be 0 -/
theorem within0_t {k n : Nat} (h1 : k < n) (h3 : n < 2147483648) : F_X4_within (nI k) (nI 0) (nI n - nI 1) = nI 1 := by
  rw [nI_sb (by omega)]
  exact within_t (by omega) (by omega) (by omega)
theorem within0_f {x : Int32} {n : Nat} (h3 : n < 2147483648) (h : ¬ ∃ k, k < n ∧ x = nI k) : F_X4_within x (nI 0) (nI n - nI 1) = nI 0 := by
  rcases Nat.eq_zero_or_pos n with h0 | h0
  · subst h0
    unfold F_X4_within
    by_cases h1 : x < nI 0
    · rw [if_pos h1]; rfl
    · rw [if_neg h1, if_pos]
      · rfl
      · rw [lt32] at h1 ⊢
        have : (nI 0 - nI 1).toInt = -1 := by decide
        have e : (nI 0).toInt = 0 := by decide
        omega
  · rw [nI_sb (by omega)]
    refine within_f (by omega) ?_ (by omega)
    rintro ⟨k, h1, h2, h4⟩
    exact h ⟨k, by omega, h4⟩
theorem hasPoint_t {Λ : Lay} {σ : Sto} {a r N x y : Nat} {P : PG} (hS : Sh σ a r N P) (hN : N ≤ 128) (hx : x < P.1) (hy : y < P.2.1) : F_X2_hasPoint Λ σ a (nI x) (nI y) = nI 1 := by
  unfold F_X2_hasPoint
  rw [hS.1]
  have h3 := hS.2.2.1
  simp (disch := omega) only [e0, e1, e2, e3, e4, e7, e8, e9, e10, e12, e16, e20, e63, e64, e100, e4096, nmE, within0_t, eq_f, hasRow_t hS hN hy, ↓reduceIte]
theorem hasPoint_f {Λ : Lay} {σ : Sto} {a r N : Nat} {x y : Int32} {P : PG} (hS : Sh σ a r N P) (hN : N ≤ 128) (h : ¬ ∃ i j, i < P.1 ∧ j < P.2.1 ∧ x = nI i ∧ y = nI j) : F_X2_hasPoint Λ σ a x y = nI 0 := by
  unfold F_X2_hasPoint
  rw [hS.1]
  have h3 := hS.2.2.1
  simp only [e0, e1, e2, e3, e4, e7, e8, e9, e10, e12, e16, e20, e63, e64, e100, e4096, nmE]
  by_cases h1 : ∃ i, i < P.1 ∧ x = nI i
  · obtain ⟨i, h1, rfl⟩ := h1
    rw [within0_t h1 (by omega), hasRow_f hS hN (fun ⟨j, h4, h5⟩ => h ⟨i, j, h1, h4, rfl, h5⟩)]
    simp (disch := omega) only [eq_f, ↓reduceIte]
  · rw [within0_f (by omega) h1]
    simp (disch := omega) only [↓reduceIte]
theorem allColumns_tb {Λ : Lay} {σ : Sto} {a w : Nat} (h : σ.1 a 0 = nI w) (hw : w ≤ 64) (i : Nat) : tb (F_X2_allColumns Λ σ a) i = decide (i < w) := by
  unfold F_X2_allColumns
  rw [h]
  by_cases h2 : w < 64
  · simp (disch := omega) only [e0, e1, e2, e3, e4, e7, e8, e9, e10, e12, e16, e20, e63, e64, e100, e4096, nI_add, pk_mul, nI_sb, le_t, le_f, lt_t, lt_f, nI_cl, gd_nI, ↓reduceIte, nmE, Option.bind_some, Option.bind_eq_bind]
    rw [tb_mask h2]
  · obtain rfl : w = 64 := by omega
    simp (disch := omega) only [e0, e1, e2, e3, e4, e7, e8, e9, e10, e12, e16, e20, e63, e64, e100, e4096, nI_add, pk_mul, nI_sb, le_t, le_f, lt_t, lt_f, nI_cl, gd_nI, ↓reduceIte, nmE, Option.bind_some, Option.bind_eq_bind]
    rw [tb_m1]
theorem ink_eq {Λ : Lay} {σ : Sto} {a r N : Nat} {P : PG} (hr : rfA Λ a 2 = r) (hn : ln Λ r = N) (hN : N ≤ 128) (hS : Sh σ a r N P) : F_X2_ink Λ σ a = some (nI (fb_sm (fun y => fb_ct (fun x => P.2.2 x y) 64) P.2.1)) := by
  obtain ⟨s1, s2, s3, s4, s5, s6⟩ := hS
  unfold F_X2_ink
  rw [run_loop (s0 := ((0 : Int32), (0 : Int32))) (fun k => (nI (fb_sm (fun y => fb_ct (fun x => P.2.2 x y) 64) k), nI k)) (nI (fb_sm (fun y => fb_ct (fun x => P.2.2 x y) 64) P.2.1)) P.2.1 (by omega) rfl]
  · rfl
  · intro k hk
    unfold bd_X2_ink_4
    simp (disch := omega) only [hr, hn, s2, e0, e1, e2, e3, e4, e7, e8, e9, e10, e12, e16, e20, e63, e64, e100, e4096, nI_add, pk_mul, nI_sb, le_t, le_f, lt_t, lt_f, nI_cl, gd_nI, ↓reduceIte, nmE, Option.bind_some, Option.bind_eq_bind, bitCount_eq]
    rw [fb_sm_succ, fb_ct_cong (fun x _ => s5 k (by omega) x)]
  · unfold bd_X2_ink_4
    simp (disch := omega) only [hr, hn, s2, e0, e1, e2, e3, e4, e7, e8, e9, e10, e12, e16, e20, e63, e64, e100, e4096, nI_add, pk_mul, nI_sb, le_t, le_f, lt_t, lt_f, nI_cl, gd_nI, ↓reduceIte, nmE, Option.bind_some, Option.bind_eq_bind]
theorem bit_is {v : Int64} {k : Nat} (hk : k < 64) : (lg_cmp ((ushrL v (nI k)) &&& (1 : Int64)) (1 : Int64) = nI 0) = (tb v k = true) := by
  rw [show nI 0 = (0 : Int32) from rfl]
  exact propext ((lg_cmp_eq _ _).trans (bit_u hk v))
theorem bit_is0 {v : Int64} {k : Nat} (hk : k < 64) : (lg_cmp ((ushrL v (nI k)) &&& (1 : Int64)) (0 : Int64) = nI 0) = (tb v k = false) := by
  rw [show nI 0 = (0 : Int32) from rfl]
  exact propext ((lg_cmp_eq _ _).trans (bit_u0 hk v))
theorem zero_is {v : Int64} : (lg_cmp v (0 : Int64) = nI 0) = (∀ i, tb v i = false) := by
  rw [show nI 0 = (0 : Int32) from rfl]
  refine propext ((lg_cmp_eq _ _).trans ⟨fun h i => by rw [h, tb_zero], fun h => tb_ext (fun i _ => by rw [h, tb_zero])⟩)
theorem columnInk_eq {Λ : Lay} {σ : Sto} {a r N x : Nat} {P : PG} (hr : rfA Λ a 2 = r) (hn : ln Λ r = N) (hN : N ≤ 128) (hS : Sh σ a r N P) (hx : x < 64) : F_X2_columnInk Λ σ a (nI x) = some (nI (fb_ct (fun y => P.2.2 x y) P.2.1)) := by
  obtain ⟨s1, s2, s3, s4, s5, s6⟩ := hS
  unfold F_X2_columnInk
  rw [run_loop (s0 := ((0 : Int32), (0 : Int32))) (fun k => (nI (fb_ct (fun y => P.2.2 x y) k), nI k)) (nI (fb_ct (fun y => P.2.2 x y) P.2.1)) P.2.1 (by omega) rfl]
  · rfl
  · intro k hk
    unfold bd_X2_columnInk_4 jp_X2_columnInk_33
    simp (disch := omega) only [hr, hn, s2, e0, e1, e2, e3, e4, e7, e8, e9, e10, e12, e16, e20, e63, e64, e100, e4096, nI_add, pk_mul, nI_sb, le_t, le_f, lt_t, lt_f, nI_cl, gd_nI, ↓reduceIte, nmE, Option.bind_some, Option.bind_eq_bind, bit_is hx, s5 k (by omega) x, fb_ct_succ]
    cases P.2.2 x k <;> simp
  · unfold bd_X2_columnInk_4
    simp (disch := omega) only [hr, hn, s2, e0, e1, e2, e3, e4, e7, e8, e9, e10, e12, e16, e20, e63, e64, e100, e4096, nI_add, pk_mul, nI_sb, le_t, le_f, lt_t, lt_f, nI_cl, gd_nI, ↓reduceIte, nmE, Option.bind_some, Option.bind_eq_bind]
/-- is there one below n -/
def anyB (p : Nat → Bool) : Nat → Bool
  | 0 => false
  | n + 1 => anyB p n || p n
theorem anyB_iff {p : Nat → Bool} : ∀ {n : Nat}, anyB p n = true ↔ ∃ k, k < n ∧ p k = true
  | 0 => by simp [anyB]
  | n + 1 => by
    simp only [anyB, Bool.or_eq_true, anyB_iff (n := n)]
    constructor
    · rintro (⟨k, h1, h2⟩ | h)
      · exact ⟨k, by omega, h2⟩
      · exact ⟨n, by omega, h⟩
    · rintro ⟨k, h1, h2⟩
      rcases Nat.lt_or_ge k n with h | h
      · exact Or.inl ⟨k, h, h2⟩
      · obtain rfl : k = n := by omega
        exact Or.inr h2
theorem anyB_not {p : Nat → Bool} {n : Nat} : anyB p n = false ↔ ∀ k, k < n → p k = false := by
  constructor
  · intro h k hk
    cases hp : p k with
    | false => rfl
    | true => rw [anyB_iff.mpr ⟨k, hk, hp⟩] at h; cases h
  · intro h
    cases hp : anyB p n with
    | false => rfl
    | true =>
      obtain ⟨k, h1, h2⟩ := anyB_iff.mp hp
      rw [h k h1] at h2; cases h2
theorem inkedColumns_eq {Λ : Lay} {σ : Sto} {a r N : Nat} {P : PG} (hr : rfA Λ a 2 = r) (hn : ln Λ r = N) (hN : N ≤ 128) (hS : Sh σ a r N P) : ∃ v, F_X2_inkedColumns Λ σ a = some v ∧ ∀ x, tb v x = anyB (fun y => P.2.2 x y) P.2.1 := by
  obtain ⟨s1, s2, s3, s4, s5, s6⟩ := hS
  unfold F_X2_inkedColumns
  obtain ⟨v, h1, h2⟩ := iter_for (f := bd_X2_inkedColumns_4 Λ σ a) P.2.1 (fun i s => s.2 = nI i ∧ ∀ x, tb s.1 x = anyB (fun y => P.2.2 x y) i) (fun v => ∀ x, tb v x = anyB (fun y => P.2.2 x y) P.2.1) (s := ((0 : Int64), (0 : Int32))) (n := FU)
    (by
      rintro k ⟨v, i⟩ hk ⟨h1, h2⟩
      simp only at h1 h2
      subst h1
      unfold bd_X2_inkedColumns_4
      simp (disch := omega) only [hr, hn, s2, e0, e1, e2, e3, e4, e7, e8, e9, e10, e12, e16, e20, e63, e64, e100, e4096, nI_add, pk_mul, nI_sb, le_t, le_f, lt_t, lt_f, nI_cl, gd_nI, ↓reduceIte, nmE, Option.bind_some, Option.bind_eq_bind]
      refine ⟨_, rfl, rfl, fun x => ?_⟩
      simp only
      rw [tb_or, h2, s5 k (by omega)]
      rfl)
    (by
      rintro ⟨v, i⟩ ⟨h1, h2⟩
      simp only at h1 h2
      subst h1
      unfold bd_X2_inkedColumns_4
      simp (disch := omega) only [hr, hn, s2, e0, e1, e2, e3, e4, e7, e8, e9, e10, e12, e16, e20, e63, e64, e100, e4096, nI_add, pk_mul, nI_sb, le_t, le_f, lt_t, lt_f, nI_cl, gd_nI, ↓reduceIte, nmE, Option.bind_some, Option.bind_eq_bind]
      exact ⟨_, rfl, h2⟩)
    ⟨rfl, fun x => by simp only [tb_zero, anyB]⟩ (by show _ < 5000; omega)
  exact ⟨v, by rw [h1]; rfl, h2⟩
theorem inkedRows_eq {Λ : Lay} {σ : Sto} {a r N : Nat} {P : PG} (hr : rfA Λ a 2 = r) (hn : ln Λ r = N) (hN : N ≤ 64) (hS : Sh σ a r N P) : ∃ v, F_X2_inkedRows Λ σ a = some v ∧ ∀ y, tb v y = anyB (fun x => P.2.2 x y) 64 := by
  obtain ⟨s1, s2, s3, s4, s5, s6⟩ := hS
  unfold F_X2_inkedRows
  obtain ⟨v, h1, h2⟩ := iter_for (f := bd_X2_inkedRows_4 Λ σ a) P.2.1 (fun i s => s.2 = nI i ∧ ∀ y, tb s.1 y = (decide (y < i) && anyB (fun x => P.2.2 x y) 64)) (fun v => ∀ y, tb v y = (decide (y < P.2.1) && anyB (fun x => P.2.2 x y) 64)) (s := ((0 : Int64), (0 : Int32))) (n := FU)
    (by
      rintro k ⟨v, i⟩ hk ⟨h1, h2⟩
      simp only at h1 h2
      subst h1
      unfold bd_X2_inkedRows_4 jp_X2_inkedRows_29
      simp (disch := omega) only [hr, hn, s2, e0, e1, e2, e3, e4, e7, e8, e9, e10, e12, e16, e20, e63, e64, e100, e4096, nI_add, pk_mul, nI_sb, le_t, le_f, lt_t, lt_f, nI_cl, gd_nI, ↓reduceIte, nmE, Option.bind_some, Option.bind_eq_bind]
      have hz : (lg_cmp (σ.2 r k) 0 = nI 0) ↔ anyB (fun x => P.2.2 x k) 64 = false := by
        rw [zero_is, anyB_not]
        constructor
        · intro h x _
          rw [← s5 k (by omega)]; exact h x
        · intro h x
          rw [s5 k (by omega)]
          by_cases hx : x < 64
          · exact h x hx
          · cases hg : P.2.2 x k with
            | false => rfl
            | true => have := (s6 x k hg).1; omega
      by_cases hq : lg_cmp (σ.2 r k) 0 = nI 0
      · rw [if_pos hq]
        refine ⟨_, rfl, rfl, fun y => ?_⟩
        simp only
        rw [h2]
        by_cases e : y = k
        · subst e; rw [hz.mp hq]; simp
        · by_cases e2 : y < k
          · simp [e2]; omega
          · simp [e2]; omega
      · rw [if_neg hq]
        refine ⟨_, rfl, rfl, fun y => ?_⟩
        simp only
        rw [tb_or, h2, tb_bit (by omega)]
        have hq2 : anyB (fun x => P.2.2 x k) 64 = true := by
          cases h4 : anyB (fun x => P.2.2 x k) 64 with
          | true => rfl
          | false => exact absurd (hz.mpr h4) hq
        by_cases e : y = k
        · subst e; simp [hq2]
        · by_cases e2 : y < k
          · simp [e2, e]; omega
          · simp [e2, e]; omega)
    (by
      rintro ⟨v, i⟩ ⟨h1, h2⟩
      simp only at h1 h2
      subst h1
      unfold bd_X2_inkedRows_4
      simp (disch := omega) only [hr, hn, s2, e0, e1, e2, e3, e4, e7, e8, e9, e10, e12, e16, e20, e63, e64, e100, e4096, nI_add, pk_mul, nI_sb, le_t, le_f, lt_t, lt_f, nI_cl, gd_nI, ↓reduceIte, nmE, Option.bind_some, Option.bind_eq_bind]
      exact ⟨_, rfl, h2⟩)
    ⟨rfl, fun x => by simp [tb_zero]⟩ (by show _ < 5000; omega)
  refine ⟨v, by rw [h1]; rfl, fun y => ?_⟩
  rw [h2]
  by_cases hy : y < P.2.1
  · simp [hy]
  · simp only [decide_eq_false hy, Bool.false_and]
    symm
    rw [anyB_not]
    intro x _
    cases hg : P.2.2 x y with
    | false => rfl
    | true => exact absurd (s6 x y hg).2 hy
/-- there is ink -/
def hasP (P : PG) : Prop := ∃ x y, P.2.2 x y = true
theorem hasInk_t {Λ : Lay} {σ : Sto} {a r N : Nat} {P : PG} (hr : rfA Λ a 2 = r) (hn : ln Λ r = N) (hN : N ≤ 128) (hS : Sh σ a r N P) (h : hasP P) : F_X2_hasInk Λ σ a = some (nI 1) := by
  unfold F_X2_hasInk
  obtain ⟨v, h1, h2⟩ := inkedColumns_eq hr hn hN hS
  rw [h1, Option.bind_some, if_neg]
  · rfl
  · rw [show (0 : Int32) = nI 0 from rfl, zero_is]
    intro q
    obtain ⟨x, y, h⟩ := h
    have h3 := q x
    rw [h2, anyB_not] at h3
    have h4 := h3 y (hS.2.2.2.2.2 x y h).2
    rw [h] at h4; cases h4
theorem hasInk_f {Λ : Lay} {σ : Sto} {a r N : Nat} {P : PG} (hr : rfA Λ a 2 = r) (hn : ln Λ r = N) (hN : N ≤ 128) (hS : Sh σ a r N P) (h : ¬ hasP P) : F_X2_hasInk Λ σ a = some (nI 0) := by
  unfold F_X2_hasInk
  obtain ⟨v, h1, h2⟩ := inkedColumns_eq hr hn hN hS
  rw [h1, Option.bind_some, if_pos]
  · rfl
  · rw [show (0 : Int32) = nI 0 from rfl, zero_is]
    intro x
    rw [h2, anyB_not]
    intro y _
    cases hg : P.2.2 x y with
    | false => rfl
    | true => exact absurd ⟨x, y, hg⟩ h
