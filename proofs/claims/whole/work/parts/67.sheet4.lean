def darkB (P : PG) (p x : Nat) : Bool := decide (p * P.2.1 ≤ 100 * fb_ct (fun y => P.2.2 x y) P.2.1)
theorem isDark_eq {Λ : Lay} {σ : Sto} {a r N x p : Nat} {P : PG} (hr : rfA Λ a 2 = r) (hn : ln Λ r = N) (hN : N ≤ 128) (hS : Sh σ a r N P) (hx : x < 64) (hp : p ≤ 100) : F_X2_isDark Λ σ a (nI x) (nI p) = some (nI (if darkB P p x then 1 else 0)) := by
  unfold F_X2_isDark
  have hh := Sh_N hS
  rw [columnInk_eq hr hn hN hS hx, Option.bind_some, hS.2.1]
  have h1 := fb_ct_le (fun y => P.2.2 x y) P.2.1
  have h2 : p * P.2.1 ≤ 100 * 128 := Nat.mul_le_mul hp (by omega)
  unfold darkB
  rw [show (100 : Int32) = nI 100 from rfl, pk_mul, pk_mul]
  by_cases h : p * P.2.1 ≤ 100 * fb_ct (fun y => P.2.2 x y) P.2.1
  · rw [if_neg (nI_nlt (by omega) (by omega)), decide_eq_true h]; rfl
  · rw [if_pos (nI_lt (by omega) (by omega)), decide_eq_false h]; rfl
/-- how many dark columns there are from the left; the place behind the last that isn't dark -/
def shL (P : PG) (p : Nat) : Nat := if fa_first (fun x => !darkB P p x) P.1 = P.1 then 0 else fa_first (fun x => !darkB P p x) P.1
def shR (P : PG) (p : Nat) : Nat := if fa_first (fun x => !darkB P p x) P.1 = P.1 then P.1 else topB (fun x => !darkB P p x) P.1
theorem first_dark {P : PG} {p k : Nat} (h : k < fa_first (fun x => !darkB P p x) P.1) : darkB P p k = true := by
  have := fa_first_no (fun x => !darkB P p x) P.1 k h
  simpa using this
theorem tops_dark {P : PG} {p k : Nat} (h : topB (fun x => !darkB P p x) P.1 ≤ k) (h2 : k < P.1) : darkB P p k = true := by
  have := topB_gt (fun x => !darkB P p x) P.1 k h h2
  simpa using this
theorem first_top {P : PG} {p : Nat} (h : fa_first (fun x => !darkB P p x) P.1 ≠ P.1) : fa_first (fun x => !darkB P p x) P.1 < topB (fun x => !darkB P p x) P.1 := by
  have h1 := fa_first_le (fun x => !darkB P p x) P.1
  have h2 := fa_first_yes (fun x => !darkB P p x) P.1 (by omega)
  rcases Nat.lt_or_ge (fa_first (fun x => !darkB P p x) P.1) (topB (fun x => !darkB P p x) P.1) with q | q
  · exact q
  · have := topB_gt (fun x => !darkB P p x) P.1 _ q (by omega)
    rw [this] at h2; cases h2
theorem shLR (P : PG) (p : Nat) : shL P p ≤ shR P p ∧ shR P p ≤ P.1 := by
  unfold shL shR
  by_cases h : fa_first (fun x => !darkB P p x) P.1 = P.1
  · rw [if_pos h, if_pos h]; omega
  · rw [if_neg h, if_neg h]
    have h1 := first_top h
    have h2 := topB_le (fun x => !darkB P p x) P.1
    omega
theorem shadowColumns_eq {Λ : Lay} {σ : Sto} {a r N p : Nat} {P : PG} (hr : rfA Λ a 2 = r) (hn : ln Λ r = N) (hN : N ≤ 128) (hS : Sh σ a r N P) (hp : p ≤ 100) :
    ∃ v, F_X2_shadowColumns Λ σ a (nI p) = some v ∧ ∀ i, tb v i = decide (i < shL P p ∨ (shR P p ≤ i ∧ i < P.1)) := by
  have hw := hS.2.2.1
  have hl := fa_first_le (fun x => !darkB P p x) P.1
  have ht := topB_le (fun x => !darkB P p x) P.1
  unfold F_X2_shadowColumns
  obtain ⟨v, h1, h2⟩ := iter_for (f := bd_X2_shadowColumns_5 Λ σ a (nI p)) (fa_first (fun x => !darkB P p x) P.1)
    (fun k q => q.2 = nI k ∧ ∀ i, tb q.1 i = decide (i < k)) (fun v => ∀ i, tb v i = decide (i < fa_first (fun x => !darkB P p x) P.1)) (s := ((0 : Int64), (0 : Int32))) (n := FU)
    (by
      rintro k ⟨v, i⟩ hk ⟨q1, q2⟩
      simp only at q1 q2
      subst q1
      unfold bd_X2_shadowColumns_5
      rw [hS.1, if_neg (nI_ge (by omega) (by omega)), isDark_eq hr hn hN hS (by omega) hp, Option.bind_some, first_dark hk, if_neg (by decide), nmE, nmE]
      refine ⟨_, rfl, nI_1 k, fun i => ?_⟩
      rw [tb_or, q2, tb_bit (by omega)]
      by_cases e : i = k
      · subst e; simp
      · by_cases e2 : i < k
        · simp [e2]; omega
        · simp [e2, e]; omega)
    (by
      rintro ⟨v, i⟩ ⟨q1, q2⟩
      simp only at q1 q2
      subst q1
      unfold bd_X2_shadowColumns_5
      by_cases e : fa_first (fun x => !darkB P p x) P.1 = P.1
      · rw [hS.1, if_pos (by rw [e]; exact nI_le (Nat.le_refl _) (by omega))]
        exact ⟨_, rfl, q2⟩
      · have h3 := fa_first_yes (fun x => !darkB P p x) P.1 (by omega)
        have h4 : darkB P p (fa_first (fun x => !darkB P p x) P.1) = false := by simpa using h3
        rw [hS.1, if_neg (nI_ge (by omega) (by omega)), isDark_eq hr hn hN hS (by omega) hp, Option.bind_some, h4, if_pos (by decide)]
        exact ⟨_, rfl, q2⟩)
    ⟨rfl, fun i => by rw [tb_zero]; simp⟩ (by show _ < 5000; omega)
  rw [h1, Option.bind_some, nmE]
  have hc : (lg_cmp v (F_X2_allColumns Λ σ a) = 0) ↔ fa_first (fun x => !darkB P p x) P.1 = P.1 := by
    rw [lg_cmp_eq]
    constructor
    · intro e
      rcases Nat.lt_or_ge (fa_first (fun x => !darkB P p x) P.1) P.1 with q | q
      · have q1 := h2 (fa_first (fun x => !darkB P p x) P.1)
        rw [e, allColumns_tb hS.1 hw] at q1
        simp [q] at q1
      · omega
    · intro e
      apply tb_ext
      intro i _
      rw [h2, allColumns_tb hS.1 hw, e]
  by_cases e : fa_first (fun x => !darkB P p x) P.1 = P.1
  · rw [if_pos (hc.mpr e)]
    refine ⟨_, rfl, fun i => ?_⟩
    rw [tb_zero]
    unfold shL shR
    rw [if_pos e, if_pos e]
    symm
    apply decide_eq_false
    omega
  · rw [if_neg (fun q => e (hc.mp q)), nmE, hS.1]
    have hft := first_top e
    obtain ⟨u, g1, g2⟩ := iter_for (f := bd_X2_shadowColumns_56 Λ σ a (nI p)) (P.1 - topB (fun x => !darkB P p x) P.1)
      (fun k q => q.2 = nI (P.1 - k) - 1 ∧ ∀ i, tb q.1 i = decide (i < fa_first (fun x => !darkB P p x) P.1 ∨ (P.1 - k ≤ i ∧ i < P.1))) (fun v => ∀ i, tb v i = decide (i < fa_first (fun x => !darkB P p x) P.1 ∨ (topB (fun x => !darkB P p x) P.1 ≤ i ∧ i < P.1))) (s := (v, nI P.1 - 1)) (n := FU)
      (by
        rintro k ⟨v, i⟩ hk ⟨q1, q2⟩
        simp only at q1 q2
        subst q1
        unfold bd_X2_shadowColumns_56
        rw [nI_subo (by omega), if_neg (nI_pos (by omega)), isDark_eq hr hn hN hS (by omega) hp, Option.bind_some, tops_dark (by omega) (by omega), if_neg (by decide), nmE, nmE, add_m1]
        refine ⟨_, rfl, rfl, fun i => ?_⟩
        rw [tb_or, q2, tb_bit (by omega)]
        by_cases e1 : i = P.1 - k - 1
        · rw [decide_eq_true e1, Bool.or_true, decide_eq_true (by omega)]
        · rw [decide_eq_false e1, Bool.or_false]
          apply decide_eq_decide.mpr
          omega)
      (by
        rintro ⟨v, i⟩ ⟨q1, q2⟩
        simp only at q1 q2
        rw [show P.1 - (P.1 - topB (fun x => !darkB P p x) P.1) = topB (fun x => !darkB P p x) P.1 by omega] at q1 q2
        subst q1
        unfold bd_X2_shadowColumns_56
        have h3 := topB_is (fun x => !darkB P p x) P.1 (by omega)
        have h4 : darkB P p (topB (fun x => !darkB P p x) P.1 - 1) = false := by simpa using h3
        rw [nI_subo (by omega), if_neg (nI_pos (by omega)), isDark_eq hr hn hN hS (by omega) hp, Option.bind_some, h4, if_pos (by decide)]
        exact ⟨_, rfl, q2⟩)
      ⟨rfl, fun i => by rw [h2]; apply decide_eq_decide.mpr; omega⟩ (by show _ < 5000; omega)
    rw [g1, Option.bind_some]
    refine ⟨_, rfl, fun i => ?_⟩
    rw [g2]
    unfold shL shR
    rw [if_neg e, if_neg e]
-- the faintest column
def fntC (f : Nat → Nat) (a b x best : Nat) : Prop := f x < f best ∨ (f x = f best ∧ ((2 * (x : Int) - a - b)).natAbs < ((2 * (best : Int) - a - b)).natAbs)
noncomputable def fnt (f : Nat → Nat) (a b : Nat) : Nat → Nat
  | 0 => a
  | j + 1 => haveI := Classical.propDecidable (fntC f a b (a + 1 + j) (fnt f a b j)); if fntC f a b (a + 1 + j) (fnt f a b j) then a + 1 + j else fnt f a b j
theorem fnt_t {f : Nat → Nat} {a b j : Nat} (h : fntC f a b (a + 1 + j) (fnt f a b j)) : fnt f a b (j + 1) = a + 1 + j := by
  simp only [fnt]; exact if_pos h
theorem fnt_f {f : Nat → Nat} {a b j : Nat} (h : ¬ fntC f a b (a + 1 + j) (fnt f a b j)) : fnt f a b (j + 1) = fnt f a b j := by
  simp only [fnt]; exact if_neg h
theorem fnt_bd (f : Nat → Nat) (a b : Nat) : ∀ j, a ≤ fnt f a b j ∧ fnt f a b j ≤ a + j
  | 0 => by simp [fnt]
  | j + 1 => by
    have := fnt_bd f a b j
    by_cases h : fntC f a b (a + 1 + j) (fnt f a b j)
    · rw [fnt_t h]; omega
    · rw [fnt_f h]; omega
theorem dist_eq {x a b : Nat} (hx : x < 1000) (ha : a < 1000) (hb : b < 1000) : ab ((((2 : Int32) * nI x) - nI a) - nI b) = nI (2 * (x : Int) - a - b).natAbs := by
  rw [show (2 : Int32) = nI 2 from rfl, pk_mul, iI_nat, iI_nat, iI_nat, iI_sub, iI_sub, ab_iI (by omega) (by omega)]
  congr 2
theorem faintest_eq {Λ : Lay} {σ : Sto} {a r N la lb : Nat} {P : PG} (hr : rfA Λ a 2 = r) (hn : ln Λ r = N) (hN : N ≤ 128) (hS : Sh σ a r N P) (hb : lb < 64) (hab : la ≤ lb) :
    F_X2_faintestColumn Λ σ a (nI la) (nI lb) = some (nI (fnt (fun x => fb_ct (fun y => P.2.2 x y) P.2.1) la lb (lb - la))) := by
  unfold F_X2_faintestColumn
  have hh := Sh_N hS
  rw [columnInk_eq hr hn hN hS (by omega), Option.bind_some, nmE, run_loop (fun k => (nI (fnt (fun x => fb_ct (fun y => P.2.2 x y) P.2.1) la lb k), nI (fb_ct (fun y => P.2.2 (fnt (fun x => fb_ct (fun y => P.2.2 x y) P.2.1) la lb k) y) P.2.1), nI (la + 1 + k))) (nI (fnt (fun x => fb_ct (fun y => P.2.2 x y) P.2.1) la lb (lb - la))) (lb - la) (by omega) (by rw [nI_1]; rfl)]
  · rfl
  · intro k hk
    have b1 := fnt_bd (fun x => fb_ct (fun y => P.2.2 x y) P.2.1) la lb k
    have c1 := fb_ct_le (fun y => P.2.2 (la + 1 + k) y) P.2.1
    have c2 := fb_ct_le (fun y => P.2.2 (fnt (fun x => fb_ct (fun y => P.2.2 x y) P.2.1) la lb k) y) P.2.1
    unfold bd_X2_faintestColumn_14
    rw [if_neg (nI_nlt (by omega) (by omega)), columnInk_eq hr hn hN hS (by omega), Option.bind_some, nmE, nmE, dist_eq (by omega) (by omega) (by omega), dist_eq (by omega) (by omega) (by omega)]
    unfold jp_X2_faintestColumn_57 jp_X2_faintestColumn_78 jp_X2_faintestColumn_85
    simp only [nmE, nI_1]
    by_cases h1 : fb_ct (fun y => P.2.2 (la + 1 + k) y) P.2.1 < fb_ct (fun y => P.2.2 (fnt (fun x => fb_ct (fun y => P.2.2 x y) P.2.1) la lb k) y) P.2.1
    · rw [fnt_t (Or.inl h1)]
      simp (disch := omega) only [lt_t, ↓reduceIte, ite_self]
      rw [show la + 1 + (k + 1) = la + 1 + k + 1 by omega]
    · by_cases h2 : fb_ct (fun y => P.2.2 (la + 1 + k) y) P.2.1 = fb_ct (fun y => P.2.2 (fnt (fun x => fb_ct (fun y => P.2.2 x y) P.2.1) la lb k) y) P.2.1
      · by_cases h3 : (2 * ((la + 1 + k : Nat) : Int) - la - lb).natAbs < (2 * ((fnt (fun x => fb_ct (fun y => P.2.2 x y) P.2.1) la lb k : Nat) : Int) - la - lb).natAbs
        · rw [fnt_t (Or.inr ⟨h2, h3⟩), if_neg (nI_ge h3 (by omega)), if_neg (nI_nlt (by omega) (by omega)), if_pos (by rw [h2]), if_neg (by decide), show la + 1 + (k + 1) = la + 1 + k + 1 by omega]
        · rw [fnt_f (fun q => q.elim h1 (fun q => h3 q.2)), if_pos (nI_le (by omega) (by omega)), if_neg (nI_nlt (by omega) (by omega)), if_pos (by rw [h2]), if_pos trivial, show la + 1 + (k + 1) = la + 1 + k + 1 by omega]
      · rw [fnt_f (fun q => q.elim h1 (fun q => h2 q.1))]
        simp (disch := omega) only [lt_f, eq_f, ↓reduceIte, ite_self]
        rw [show la + 1 + (k + 1) = la + 1 + k + 1 by omega]
  · unfold bd_X2_faintestColumn_14
    rw [if_pos (nI_lt (by omega) (by omega))]
-- a page parted
theorem moveRight_sh {Λ : Lay} {σ : Sto} {a r a2 r2 m : Nat} {P : PG} (hr : rfA Λ a 2 = r) (hn : ln Λ r = 64) (hr2 : rfA Λ a2 2 = r2) (hn2 : ln Λ r2 = 64)
    (d1 : a ≠ a2) (d2 : r ≠ r2) (d3 : a ≠ r2) (d4 : r ≠ a2) (d5 : a ≠ r) (d6 : a2 ≠ r2) (hS : Sh σ a r 64 P) (hm : m < P.1) :
    ∃ τ, F_X2_moveRightPart Λ σ a (nI m) a2 = some τ ∧ Sh τ a r 64 (m, P.2.1, fun x y => decide (x < m) && P.2.2 x y) ∧ Sh τ a2 r2 64 (P.1 - m, P.2.1, fun x y => P.2.2 (x + m) y) ∧ Fr [a, r, a2, r2] σ τ := by
  obtain ⟨s1, s2, s3, s4, s5, s6⟩ := hS
  unfold F_X2_moveRightPart
  rw [s1, s2, nI_sb (by omega), empty_eq hr2 hn2 (by omega), Option.bind_some, nmE]
  have hf0 : Fr [a, r, a2, r2] σ (stI (putJ (stI (stI σ a2 0 (nI (P.1 - m))) a2 1 (nI P.2.1)) r2 64 (fun _ => 0)) a 0 (nI m)) := Fr_trans (Fr_trans (Fr_trans (Fr_stI (by simp)) (Fr_stI (by simp))) (Fr_putJ (by simp))) (Fr_stI (by simp))
  have i1 : (stI (putJ (stI (stI σ a2 0 (nI (P.1 - m))) a2 1 (nI P.2.1)) r2 64 (fun _ => 0)) a 0 (nI m)).1 a 0 = nI m := by simp (disch := omega) only [stI_1, stI_2, stJ_1, stJ_2, putJ_1, putI_2, up2_self, up2_ne, up2_nk]
  have i2 : (stI (putJ (stI (stI σ a2 0 (nI (P.1 - m))) a2 1 (nI P.2.1)) r2 64 (fun _ => 0)) a 0 (nI m)).1 a 1 = nI P.2.1 := by simp (disch := omega) only [stI_1, stI_2, stJ_1, stJ_2, putJ_1, putI_2, up2_self, up2_ne, up2_nk]; exact s2
  have i3 : (stI (putJ (stI (stI σ a2 0 (nI (P.1 - m))) a2 1 (nI P.2.1)) r2 64 (fun _ => 0)) a 0 (nI m)).1 a2 0 = nI (P.1 - m) := by simp (disch := omega) only [stI_1, stI_2, stJ_1, stJ_2, putJ_1, putI_2, up2_self, up2_ne, up2_nk]
  have i4 : (stI (putJ (stI (stI σ a2 0 (nI (P.1 - m))) a2 1 (nI P.2.1)) r2 64 (fun _ => 0)) a 0 (nI m)).1 a2 1 = nI P.2.1 := by simp (disch := omega) only [stI_1, stI_2, stJ_1, stJ_2, putJ_1, putI_2, up2_self, up2_ne, up2_nk]
  have i5 : (stI (putJ (stI (stI σ a2 0 (nI (P.1 - m))) a2 1 (nI P.2.1)) r2 64 (fun _ => 0)) a 0 (nI m)).2 r = σ.2 r := by rw [stI_2, putJ_ne (by omega), stI_2, stI_2]
  have i6 : ∀ y, y < 64 → (stI (putJ (stI (stI σ a2 0 (nI (P.1 - m))) a2 1 (nI P.2.1)) r2 64 (fun _ => 0)) a 0 (nI m)).2 r2 y = 0 := fun y hy => by rw [stI_2, putJ_in hy]
  generalize stI (putJ (stI (stI σ a2 0 (nI (P.1 - m))) a2 1 (nI P.2.1)) r2 64 (fun _ => 0)) a 0 (nI m) = υ at *
  obtain ⟨τ, h1, h2, h3, h4, h5⟩ := iter_for (f := bd_X2_moveRightPart_21 Λ a (nI m) a2) P.2.1
    (fun k q => q.1 = nI k ∧ q.2.1 = υ.1 ∧ Fr [a, r, a2, r2] υ q.2 ∧ (∀ y, y < 64 → q.2.2 r2 y = if y < k then ushrL (σ.2 r y) (nI m) else 0) ∧ (∀ y, y < 64 → ∀ x, tb (q.2.2 r y) x = (P.2.2 x y && (decide (x < m) || decide (k ≤ y)))))
    (fun τ => τ.1 = υ.1 ∧ Fr [a, r, a2, r2] υ τ ∧ (∀ y, y < 64 → τ.2 r2 y = if y < P.2.1 then ushrL (σ.2 r y) (nI m) else 0) ∧ (∀ y, y < 64 → ∀ x, tb (τ.2 r y) x = (P.2.2 x y && (decide (x < m) || decide (P.2.1 ≤ y)))))
    (s := ((0 : Int32), υ)) (n := FU)
    (by
      rintro k ⟨i, τ⟩ hk ⟨q1, q2, q3, q4, q5⟩
      simp only at q1 q2 q3 q4 q5
      subst q1
      unfold bd_X2_moveRightPart_21
      have ek : τ.2 r k = σ.2 r k := tb_ext (fun x _ => by rw [q5 k (by omega), s5 k (by omega)]; simp)
      simp (disch := omega) only [q2, i2, hr, hn, hr2, hn2, e0, e1, e2, e3, e4, e7, e8, e9, e10, e12, e16, e20, e63, e64, e100, e4096, nI_add, pk_mul, nI_sb, le_t, le_f, lt_t, lt_f, nI_cl, gd_nI, ↓reduceIte, nmE, Option.bind_some, Option.bind_eq_bind, stJ_1, stJ_2, up2_ne]
      refine ⟨_, rfl, rfl, q2, Fr_trans q3 (Fr_trans (Fr_stJ (by simp)) (Fr_stJ (by simp))), ?_, ?_⟩
      · intro y hy
        simp (disch := omega) only [stJ_2, up2_ne]
        by_cases e : y = k
        · subst e
          rw [up2_self, if_pos (by omega), ek]
        · rw [up2_nk _ _ _ e, q4 y hy]
          by_cases c : y < k
          · rw [if_pos c, if_pos (by omega)]
          · rw [if_neg c, if_neg (by omega)]
      · intro y hy x
        simp only [stJ_2]
        by_cases e : y = k
        · subst e
          rw [up2_self, tb_and, ek, s5 y hy, allColumns_tb (w := m) (by rw [stJ_1, q2, i1]) (by omega), decide_eq_false (show ¬ y + 1 ≤ y by omega), Bool.or_false]
        · rw [up2_nk _ _ _ e, up2_ne _ _ _ d2, q5 y hy]
          congr 2
          apply decide_eq_decide.mpr
          omega)
    (by
      rintro ⟨i, τ⟩ ⟨q1, q2, q3, q4, q5⟩
      simp only at q1 q2 q3 q4 q5
      subst q1
      unfold bd_X2_moveRightPart_21
      simp (disch := omega) only [q2, i2, nI_add, pk_mul, nI_sb, le_t, le_f, lt_t, lt_f, nI_cl, gd_nI, ↓reduceIte, nmE, Option.bind_some, Option.bind_eq_bind]
      exact ⟨_, rfl, q2, q3, q4, q5⟩)
    ⟨rfl, rfl, Fr_refl _ _, fun y hy => by rw [i6 y hy, if_neg (by omega)], fun y hy x => by rw [i5, s5 y hy, decide_eq_true (Nat.zero_le y)]; simp⟩ (by show _ < 5000; omega)
  rw [h1]
  refine ⟨_, rfl, ⟨?_, ?_, ?_, s4, ?_, ?_⟩, ⟨?_, ?_, ?_, s4, ?_, ?_⟩, Fr_trans hf0 h3⟩
  · rw [h2]; exact i1
  · rw [h2]; exact i2
  · show m ≤ 64; omega
  · intro y hy x
    rw [h5 y hy]
    show _ = (decide (x < m) && P.2.2 x y)
    cases hg : P.2.2 x y with
    | false => simp
    | true =>
      have := (s6 x y hg).2
      rw [decide_eq_false (show ¬ P.2.1 ≤ y by omega)]; simp
  · intro x y h
    have h : (decide (x < m) && P.2.2 x y) = true := h
    simp only [Bool.and_eq_true, decide_eq_true_eq] at h
    exact ⟨h.1, (s6 x y h.2).2⟩
  · rw [h2]; exact i3
  · rw [h2]; exact i4
  · show P.1 - m ≤ 64; omega
  · intro y hy x
    rw [h4 y hy]
    show _ = P.2.2 (x + m) y
    by_cases c : y < P.2.1
    · rw [if_pos c, tb_ushr (by omega), s5 y hy, Nat.add_comm]
    · rw [if_neg c, tb_zero]
      cases hg : P.2.2 (x + m) y with
      | false => rfl
      | true => exact absurd (s6 _ _ hg).2 c
  · intro x y h
    have := s6 _ _ (show P.2.2 (x + m) y = true from h)
    exact ⟨by show x < P.1 - m; omega, this.2⟩
