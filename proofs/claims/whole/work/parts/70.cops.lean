/-! THE CLASS'S CALLS over the desk, first those of pages and points -/
theorem oc_s {α β : Type} (a : α) (n : β) (f : α → β) : oc (some a) n f = f a := eq_of_heq HEq.rfl
theorem oc_n {α β : Type} (n : β) (f : α → β) : oc none n f = n := eq_of_heq HEq.rfl
theorem stJ_setR (σ : Sto) (r y : Nat) (v : Int64) : stJ σ r y v = setR σ r (fun j => if j = y then v else σ.2 r j) := by
  have := setR_st (σ := σ) (r := r) (j := y) (R := σ.2 r) (R2 := fun j => if j = y then v else σ.2 r j) (z := v) (by simp) (fun j hj => by simp [hj])
  rw [setR_id] at this
  exact this
theorem okP_sh {σ : Sto} {a r N : Nat} {P : PG} (hS : Sh σ a r N P) (h1 : 1 ≤ P.1) (h2 : 1 ≤ P.2.1) (h3 : P.2.1 ≤ 64) : okP P := ⟨h1, hS.2.2.1, h2, h3, hS.2.2.2.2.2⟩
theorem GD_more {D : Desk} {P : PG} (G : GD D) (hN : dN D < 8) (hP : okP P) : GD (setN (setP D (dN D) P) (dN D + 1)) := by
  obtain ⟨g1, g2, g3, g4, g5, g6, g7, g8, g9⟩ := G
  refine ⟨by show dN D + 1 ≤ 8; omega, ?_, g3, g4, ?_, g6, g7, g8, g9⟩
  · intro q hq
    have hq : q < dN D + 1 := hq
    show okP (up1 (dP D) (dN D) P q)
    by_cases e : q = dN D
    · rw [e, up1_self]; exact hP
    · rw [up1_ne _ _ e]; exact g2 q (by omega)
  · intro i hi
    have := g5 i hi
    exact ⟨by show (dH D i).1 < dN D + 1; omega, this.2⟩
/-- a page is added -/
theorem CR_more {b : Nat} {σ τ : Sto} {D : Desk} {P : PG} (h : CR b σ D) (hN : dN D < 8) (hf : Fr [b + (2 + 2 * dN D), b + (3 + 2 * dN D)] σ τ) (hS : Sh τ (b + (2 + 2 * dN D)) (b + (3 + 2 * dN D)) 64 P) :
    τ.1 b 1 = nI (dN D) ∧ CR b (stI τ b 1 (nI (dN D + 1))) (setN (setP D (dN D) P) (dN D + 1)) ∧ FrC b σ (stI τ b 1 (nI (dN D + 1))) := by
  have h1 := CR_page (p := dN D) h (by omega) hN (Fr_mono hf (by simp)) hS
  refine ⟨h1.1, ?_, ?_⟩
  · refine CR_n (D := setP D (dN D) P) h1 ?_
    intro p hp
    by_cases e : p = dN D
    · subst e
      show Sh τ _ _ 64 (up1 (dP D) (dN D) P (dN D))
      rw [up1_self]; exact hS
    · exact h1.2.1 p (by show p < dN D; omega)
  · exact FrC_trans (FrC_of hf (by simp <;> omega)) (FrC_of (Fr_stI (S := [b]) (by simp)) (by simp))
theorem cp_page_t {b i j : Nat} {σ : Sto} {D : Desk} (h : CR b σ D) (G : GD D) (i1 : 1 ≤ i) (i2 : i ≤ 64) (j1 : 1 ≤ j) (j2 : j ≤ 64) (hN : dN D < 8) :
    ∃ τ, F_X4_page (ΛE b) σ b (nI i) (nI j) = some (nI (dN D), τ) ∧ CR b τ (setN (setP D (dN D) (noP i j)) (dN D + 1)) ∧ FrC b σ τ := by
  unfold F_X4_page
  rw [h.1]
  simp (disch := omega) only [e0, e1, e2, e3, e4, e7, e8, e9, e10, e12, e16, e20, e63, e64, e100, e4096, nmE, within_t, eq_f, lt_t, ↓reduceIte, r0_0, l1, gd_nI, nI_cl, rP]
  obtain ⟨τ, q1, q2, q3⟩ := empty_sh (Λ := ΛE b) (σ := σ) (w := i) (h := j) (rPr hN b) (lP hN b) (by omega) i2 j2
  obtain ⟨z1, z2, z3⟩ := CR_more h hN q3 q2
  rw [q1, Option.bind_some, z1, nI_add]
  exact ⟨_, rfl, z2, z3⟩
theorem cp_page_f {b : Nat} {w h : Int32} {σ : Sto} {D : Desk} (hc : CR b σ D) (G : GD D) (hn : ¬ ((∃ i, 1 ≤ i ∧ i ≤ 64 ∧ w = nI i) ∧ (∃ j, 1 ≤ j ∧ j ≤ 64 ∧ h = nI j) ∧ dN D < 8)) : F_X4_page (ΛE b) σ b w h = some (-1, σ) := by
  unfold F_X4_page
  have hN := G.1
  rw [hc.1]
  simp only [e0, e1, e2, e3, e4, e7, e8, e9, e10, e12, e16, e20, e63, e64, e100, e4096, nmE]
  by_cases c1 : ∃ i, 1 ≤ i ∧ i ≤ 64 ∧ w = nI i
  · obtain ⟨i, i1, i2, rfl⟩ := c1
    by_cases c2 : ∃ j, 1 ≤ j ∧ j ≤ 64 ∧ h = nI j
    · obtain ⟨j, j1, j2, rfl⟩ := c2
      have : dN D = 8 := by
        rcases Nat.lt_or_ge (dN D) 8 with q | q
        · exact absurd ⟨⟨i, i1, i2, rfl⟩, ⟨j, j1, j2, rfl⟩, q⟩ hn
        · omega
      simp (disch := omega) only [within_t, eq_f, lt_f, ↓reduceIte]
    · rw [within_f (x := h) (by omega) c2 (by omega)]
      simp (disch := omega) only [within_t, eq_f, ↓reduceIte]
  · rw [within_f (x := w) (by omega) c1 (by omega)]
    simp only [↓reduceIte]
theorem cp_copy_t {b p : Nat} {σ : Sto} {D : Desk} (h : CR b σ D) (G : GD D) (hp : p < dN D) (hN : dN D < 8) :
    ∃ τ, F_X4_copy (ΛE b) σ b (nI p) = some (nI (dN D), τ) ∧ CR b τ (setN (setP D (dN D) (dP D p)) (dN D + 1)) ∧ FrC b σ τ := by
  unfold F_X4_copy
  rw [find_t h (by omega) hp, Option.bind_some, oc_s, h.1]
  simp (disch := omega) only [e0, e1, e2, e3, e4, e7, e8, e9, e10, e12, e16, e20, e63, e64, e100, e4096, nmE, eq_f, lt_t, ↓reduceIte, r0_0, l1, gd_nI, nI_cl, rP]
  have hS := h.2.1 p hp
  obtain ⟨τ, q1, q2, q3⟩ := become_sh (Λ := ΛE b) (σ := σ) (rPr hN b) (lP hN b) (by omega) (rPr (by omega) b) (lP (by omega) b) (by omega) (by omega) (by omega) hS hS.2.2.2.1
  obtain ⟨z1, z2, z3⟩ := CR_more h hN q3 q2
  rw [q1, Option.bind_some, z1, nI_add]
  exact ⟨_, rfl, z2, z3⟩
theorem cp_copy_f {b : Nat} {x : Int32} {σ : Sto} {D : Desk} (hc : CR b σ D) (G : GD D) (hn : ¬ ((∃ p, p < dN D ∧ x = nI p) ∧ dN D < 8)) : F_X4_copy (ΛE b) σ b x = some (-1, σ) := by
  unfold F_X4_copy
  have hN := G.1
  by_cases c1 : ∃ p, p < dN D ∧ x = nI p
  · obtain ⟨p, hp, rfl⟩ := c1
    rw [find_t hc hN hp, Option.bind_some, oc_s, hc.1]
    have : dN D = 8 := by
      rcases Nat.lt_or_ge (dN D) 8 with q | q
      · exact absurd ⟨⟨p, hp, rfl⟩, q⟩ hn
      · omega
    simp (disch := omega) only [e0, e1, e2, e3, e4, e7, e8, e9, e10, e12, e16, e20, e63, e64, e100, e4096, lt_f, ↓reduceIte]
  · rw [find_f hc hN c1, Option.bind_some, oc_n]
/-- after a change is remembered a page is set -/
theorem CR_chg {b p m : Nat} {σ τ : Sto} {D : Desk} {P : PG} (h : CR b σ (pushD D p m)) (G : GD D) (hp : p < dN D) (hf : Fr ((b + (2 + 2 * p)) :: (b + (3 + 2 * p)) :: scr b) σ τ) (hS : Sh τ (b + (2 + 2 * p)) (b + (3 + 2 * p)) 64 P) :
    CR b τ (setP (pushD D p m) p P) ∧ FrC b σ τ := by
  have g1 := G.1
  refine ⟨CR_page h g1 (by omega) hf hS, FrC_of hf ?_⟩
  unfold scr
  simp
  omega
def setPt (P : PG) (x y : Nat) (v : Bool) : PG := (P.1, P.2.1, fun a c => if a = x ∧ c = y then v else P.2.2 a c)
theorem cp_set_t {b p x y : Nat} {v : Int32} {σ : Sto} {D : Desk} (h : CR b σ D) (G : GD D) (hp : p < dN D) (hx : x < (dP D p).1) (hy : y < (dP D p).2.1) :
    ∃ τ, F_X4_set (ΛE b) σ b (nI p) (nI x) (nI y) v = some (1, τ) ∧ CR b τ (setP (pushD D p 0) p (setPt (dP D p) x y (decide (v ≠ 0)))) ∧ FrC b σ τ := by
  have g1 := G.1
  have gp := G.2.1 p hp
  unfold okP at gp
  unfold F_X4_set
  rw [find_t h g1 hp, Option.bind_some, oc_s, nmE, hasPoint_t (h.2.1 p hp) (by omega) hx hy, if_neg (by decide), r0_2]
  obtain ⟨τ, q1, q2, q3⟩ := remember_cr (m := 0) (made := -1) h G hp (by decide)
  have hS : Sh τ _ _ 64 (dP D p) := q2.2.1 p hp
  rw [q1, Option.bind_some, nmE, rPr (by omega), lP (by omega)]
  simp (disch := omega) only [gd_nI, ↓reduceIte, nI_cl]
  unfold jp_X4_set_78
  rw [lP (by omega)]
  simp (disch := omega) only [gd_nI, ↓reduceIte, nI_cl, nmE, stJ_setR]
  have fin : ∀ z : Int64, (∀ a, tb z a = (setPt (dP D p) x y (decide (v ≠ 0))).2.2 a y) → ∃ υ, (some ((1 : Int32), setR τ (b + (3 + 2 * p)) (fun j => if j = y then z else τ.2 (b + (3 + 2 * p)) j))) = some (1, υ) ∧ CR b υ (setP (pushD D p 0) p (setPt (dP D p) x y (decide (v ≠ 0)))) ∧ FrC b σ υ := by
    intro z hz
    have s2 : Sh (setR τ (b + (3 + 2 * p)) (fun j => if j = y then z else τ.2 (b + (3 + 2 * p)) j)) (b + (2 + 2 * p)) (b + (3 + 2 * p)) 64 (setPt (dP D p) x y (decide (v ≠ 0))) := by
      refine Sh_setR (g := (setPt (dP D p) x y (decide (v ≠ 0))).2.2) hS ?_ ?_
      · intro j hj a
        by_cases e : j = y
        · subst e; rw [if_pos rfl]; exact hz a
        · rw [if_neg e, hS.2.2.2.2.1 j hj]
          simp [setPt, e]
      · intro a c hac
        have hac : (if a = x ∧ c = y then decide (v ≠ 0) else (dP D p).2.2 a c) = true := hac
        by_cases e : a = x ∧ c = y
        · rw [e.1, e.2]; exact ⟨hx, hy⟩
        · rw [if_neg e] at hac; exact gp.2.2.2.2 a c hac
    obtain ⟨w1, w2⟩ := CR_chg q2 G hp (Fr_setR (by simp)) s2
    exact ⟨_, rfl, w1, FrC_trans q3 w2⟩
  by_cases hv : v = 0
  · rw [if_pos hv]
    refine fin _ (fun a => ?_)
    rw [tb_and, tb_not, tb_bit (by omega), hS.2.2.2.2.1 y (by omega)]
    simp only [setPt, hv]
    by_cases e : a = x
    · simp [e]
    · simp only [e, false_and, if_false, decide_false, Bool.not_false, Bool.and_true]
      by_cases e2 : a < 64
      · simp [e2]
      · cases hg : (dP D p).2.2 a y with
        | false => rfl
        | true => have := (gp.2.2.2.2 a y hg).1; omega
  · rw [if_neg hv]
    refine fin _ (fun a => ?_)
    rw [tb_or, tb_bit (by omega), hS.2.2.2.2.1 y (by omega)]
    simp only [setPt]
    by_cases e : a = x
    · simp [e, hv]
    · simp [e]
theorem cp_set_f {b : Nat} {q x y v : Int32} {σ : Sto} {D : Desk} (hc : CR b σ D) (G : GD D) (hn : ¬ ∃ p i j, p < dN D ∧ i < (dP D p).1 ∧ j < (dP D p).2.1 ∧ q = nI p ∧ x = nI i ∧ y = nI j) : F_X4_set (ΛE b) σ b q x y v = some (0, σ) := by
  unfold F_X4_set
  by_cases c1 : ∃ p, p < dN D ∧ q = nI p
  · obtain ⟨p, hp, rfl⟩ := c1
    rw [find_t hc G.1 hp, Option.bind_some, oc_s, nmE, hasPoint_f (hc.2.1 p hp) (by omega) (fun ⟨i, j, i1, j1, e1, e2⟩ => hn ⟨p, i, j, hp, i1, j1, rfl, e1, e2⟩), if_pos nI_0]
  · rw [find_f hc G.1 c1, Option.bind_some, oc_n]
def lineP (P : PG) (y : Nat) (v : Int64) : PG := (P.1, P.2.1, fun a c => if c = y then decide (a < P.1) && tb v a else P.2.2 a c)
theorem ct_ext2 {p : Nat → Bool} {n m : Nat} (hm : n ≤ m) (h : ∀ k, n ≤ k → k < m → p k = false) : fb_ct p m = fb_ct p n := by
  obtain ⟨d, rfl⟩ : ∃ d, m = n + d := ⟨m - n, by omega⟩
  rw [fb_ct_split, fb_ct_zero.mpr (fun k hk => h (n + k) (by omega) (by omega)), Nat.add_zero]
theorem ct_wide {w : Nat} (hw : w ≤ 64) (p : Nat → Bool) : fb_ct (fun a => decide (a < w) && p a) 64 = fb_ct p w := by
  rw [ct_ext2 hw (fun k h1 h2 => by rw [decide_eq_false (by omega)]; rfl)]
  exact fb_ct_cong (fun k hk => by rw [decide_eq_true hk]; rfl)
theorem cp_line_t {b p y : Nat} {v : Int64} {σ : Sto} {D : Desk} (h : CR b σ D) (G : GD D) (hp : p < dN D) (hy : y < (dP D p).2.1) :
    ∃ τ, F_X4_line (ΛE b) σ b (nI p) (nI y) v = some (nI (fb_ct (tb v) (dP D p).1), τ) ∧ CR b τ (setP (pushD D p 0) p (lineP (dP D p) y v)) ∧ FrC b σ τ := by
  have g1 := G.1
  have gp := G.2.1 p hp
  unfold okP at gp
  unfold F_X4_line
  rw [find_t h g1 hp, Option.bind_some, oc_s, nmE, hasRow_t (h.2.1 p hp) (by omega) hy, if_neg (by decide), r0_2]
  obtain ⟨τ, q1, q2, q3⟩ := remember_cr (m := 0) (made := -1) h G hp (by decide)
  have hS : Sh τ _ _ 64 (dP D p) := q2.2.1 p hp
  rw [q1, Option.bind_some, nmE, rPr (by omega), lP (by omega)]
  simp (disch := omega) only [gd_nI, ↓reduceIte, nI_cl, nmE, stJ_setR, setR_r, bitCount_eq]
  have hz : ∀ a, tb (v &&& F_X2_allColumns (ΛE b) τ (b + (2 + 2 * p))) a = (decide (a < (dP D p).1) && tb v a) := by
    intro a
    rw [tb_and, allColumns_tb hS.1 gp.2.1, Bool.and_comm]
  have s2 : Sh (setR τ (b + (3 + 2 * p)) (fun j => if j = y then (v &&& F_X2_allColumns (ΛE b) τ (b + (2 + 2 * p))) else τ.2 (b + (3 + 2 * p)) j)) (b + (2 + 2 * p)) (b + (3 + 2 * p)) 64 (lineP (dP D p) y v) := by
    refine Sh_setR (g := (lineP (dP D p) y v).2.2) hS ?_ ?_
    · intro j hj a
      by_cases e : j = y
      · subst e; rw [if_pos rfl, hz]
        simp [lineP]
      · rw [if_neg e, hS.2.2.2.2.1 j hj]
        simp [lineP, e]
    · intro a c hac
      have hac : (if c = y then decide (a < (dP D p).1) && tb v a else (dP D p).2.2 a c) = true := hac
      by_cases e : c = y
      · rw [if_pos e] at hac
        simp only [Bool.and_eq_true, decide_eq_true_eq] at hac
        exact ⟨hac.1, by omega⟩
      · rw [if_neg e] at hac; exact gp.2.2.2.2 a c hac
  obtain ⟨w1, w2⟩ := CR_chg q2 G hp (Fr_setR (by simp)) s2
  rw [fb_ct_cong (fun a _ => hz a), ct_wide gp.2.1]
  exact ⟨_, rfl, w1, FrC_trans q3 w2⟩
theorem cp_line_f {b : Nat} {q y : Int32} {v : Int64} {σ : Sto} {D : Desk} (hc : CR b σ D) (G : GD D) (hn : ¬ ∃ p j, p < dN D ∧ j < (dP D p).2.1 ∧ q = nI p ∧ y = nI j) : F_X4_line (ΛE b) σ b q y v = some (-1, σ) := by
  unfold F_X4_line
  by_cases c1 : ∃ p, p < dN D ∧ q = nI p
  · obtain ⟨p, hp, rfl⟩ := c1
    rw [find_t hc G.1 hp, Option.bind_some, oc_s, nmE, hasRow_f (hc.2.1 p hp) (by omega) (fun ⟨j, j1, e2⟩ => hn ⟨p, j, hp, j1, rfl, e2⟩), if_pos nI_0]
  · rw [find_f hc G.1 c1, Option.bind_some, oc_n]
theorem cp_at_t {b p x y : Nat} {σ : Sto} {D : Desk} (h : CR b σ D) (G : GD D) (hp : p < dN D) (hx : x < (dP D p).1) (hy : y < (dP D p).2.1) : F_X4_at (ΛE b) σ b (nI p) (nI x) (nI y) = some (bI ((dP D p).2.2 x y)) := by
  have g1 := G.1
  have gp := G.2.1 p hp
  unfold okP at gp
  unfold F_X4_at
  have hS := h.2.1 p hp
  rw [find_t h g1 hp, Option.bind_some, oc_s, nmE, hasPoint_t hS (by omega) hx hy, if_neg (by decide), rPr (by omega), lP (by omega), if_pos (gd_nI (by omega) (by omega)), nI_cl (by omega), show (0 : Int32) = nI 0 from rfl, ]
  simp only [bit_is (show x < 64 by omega), hS.2.2.2.2.1 y (by omega)]
  cases (dP D p).2.2 x y <;> rfl
theorem cp_at_f {b : Nat} {q x y : Int32} {σ : Sto} {D : Desk} (hc : CR b σ D) (G : GD D) (hn : ¬ ∃ p i j, p < dN D ∧ i < (dP D p).1 ∧ j < (dP D p).2.1 ∧ q = nI p ∧ x = nI i ∧ y = nI j) : F_X4_at (ΛE b) σ b q x y = some (-1) := by
  unfold F_X4_at
  by_cases c1 : ∃ p, p < dN D ∧ q = nI p
  · obtain ⟨p, hp, rfl⟩ := c1
    rw [find_t hc G.1 hp, Option.bind_some, oc_s, nmE, hasPoint_f (hc.2.1 p hp) (by omega) (fun ⟨i, j, i1, j1, e1, e2⟩ => hn ⟨p, i, j, hp, i1, j1, rfl, e1, e2⟩), if_pos nI_0]
  · rw [find_f hc G.1 c1, Option.bind_some, oc_n]
theorem cp_row_t {b p y : Nat} {σ : Sto} {D : Desk} (h : CR b σ D) (G : GD D) (hp : p < dN D) (hy : y < (dP D p).2.1) : ∃ v, F_X4_row (ΛE b) σ b (nI p) (nI y) = some (some v) ∧ ∀ x, tb v x = (dP D p).2.2 x y := by
  have g1 := G.1
  have gp := G.2.1 p hp
  unfold okP at gp
  unfold F_X4_row
  have hS := h.2.1 p hp
  rw [find_t h g1 hp, Option.bind_some, oc_s, nmE, hasRow_t hS (by omega) hy, if_neg (by decide), rPr (by omega), lP (by omega), if_pos (gd_nI (by omega) (by omega)), nI_cl (by omega)]
  exact ⟨_, rfl, hS.2.2.2.2.1 y (by omega)⟩
theorem cp_row_f {b : Nat} {q y : Int32} {σ : Sto} {D : Desk} (hc : CR b σ D) (G : GD D) (hn : ¬ ∃ p j, p < dN D ∧ j < (dP D p).2.1 ∧ q = nI p ∧ y = nI j) : F_X4_row (ΛE b) σ b q y = some none := by
  unfold F_X4_row jp_X4_row_18
  by_cases c1 : ∃ p, p < dN D ∧ q = nI p
  · obtain ⟨p, hp, rfl⟩ := c1
    rw [find_t hc G.1 hp, Option.bind_some, oc_s, nmE, hasRow_f (hc.2.1 p hp) (by omega) (fun ⟨j, j1, e2⟩ => hn ⟨p, j, hp, j1, rfl, e2⟩), if_pos nI_0]
  · rw [find_f hc G.1 c1, Option.bind_some, oc_n]
