def fa_first (p : Nat → Bool) : Nat → Nat
  | 0 => 0
  | n + 1 => if fa_first p n < n then fa_first p n else if p n then n else n + 1
theorem fa_first_le (p : Nat → Bool) : ∀ n, fa_first p n ≤ n
  | 0 => Nat.le_refl 0
  | n + 1 => by
    have ih := fa_first_le p n
    unfold fa_first
    split
    · omega
    · split
      · omega
      · omega
theorem fa_first_no (p : Nat → Bool) : ∀ n k, k < fa_first p n → p k = false
  | 0, k, h => absurd h (Nat.not_lt_zero k)
  | n + 1, k, h => by
    have ih := fa_first_no p n
    have hl := fa_first_le p n
    unfold fa_first at h
    split at h
    · exact ih k h
    · rename_i h1
      split at h
      · exact ih k (by omega)
      · rename_i h2
        by_cases e : k = n
        · subst e
          exact Bool.eq_false_iff.mpr h2
        · exact ih k (by omega)
theorem fa_first_yes (p : Nat → Bool) : ∀ n, fa_first p n < n → p (fa_first p n) = true
  | 0, h => absurd h (Nat.not_lt_zero _)
  | n + 1, h => by
    have ih := fa_first_yes p n
    have hl := fa_first_le p n
    unfold fa_first at h ⊢
    split at h
    · rename_i h1
      rw [if_pos h1]
      exact ih h1
    · rename_i h1
      rw [if_neg h1]
      split at h
      · rename_i h2
        rw [if_pos h2]
        exact h2
      · omega
/-- how many k < n have p k -/
def setR (σ : Sto) (r : Nat) (R : Nat → Int64) : Sto := (σ.1, fun c y => if c = r then R y else σ.2 c y)
theorem setR_1 (σ : Sto) (r : Nat) (R : Nat → Int64) : (setR σ r R).1 = σ.1 := eq_of_heq HEq.rfl
theorem setR_r (σ : Sto) (r : Nat) (R : Nat → Int64) : (setR σ r R).2 r = R := by funext y; simp [setR]
theorem setR_ne {σ : Sto} {r c : Nat} {R : Nat → Int64} (h : c ≠ r) : (setR σ r R).2 c = σ.2 c := by funext y; simp [setR, h]
theorem setR_id (σ : Sto) (r : Nat) : setR σ r (σ.2 r) = σ := by
  apply Prod.ext
  · rfl
  · funext c y
    simp only [setR]
    by_cases h : c = r
    · subst h; simp
    · simp [h]
theorem setR_st {σ : Sto} {r j : Nat} {R R2 : Nat → Int64} {z : Int64} (h1 : R2 j = z) (h2 : ∀ y, y ≠ j → R2 y = R y) : stJ (setR σ r R) r j z = setR σ r R2 := by
  apply Prod.ext
  · rfl
  · funext c y
    simp only [stJ, up2, setR]
    by_cases h : c = r
    · subst h
      simp only [if_true]
      by_cases hy : y = j
      · subst hy; simp [h1]
      · simp [hy, h2]
    · simp [h]
theorem Fr_setR {S : List Nat} {σ : Sto} {r : Nat} {R : Nat → Int64} (h : r ∈ S) : Fr S σ (setR σ r R) := fun c hc => ⟨rfl, setR_ne (fun e => hc (e ▸ h))⟩
/-- rows given anew -/
theorem Sh_setR {σ : Sto} {a r N : Nat} {P : PG} {R : Nat → Int64} {g : Nat → Nat → Bool} (hS : Sh σ a r N P) (h1 : ∀ y, y < N → ∀ x, tb (R y) x = g x y) (h2 : ∀ x y, g x y = true → x < P.1 ∧ y < P.2.1) : Sh (setR σ r R) a r N (P.1, P.2.1, g) := by
  obtain ⟨s1, s2, s3, s4, s5, s6⟩ := hS
  refine ⟨s1, s2, s3, s4, ?_, h2⟩
  intro y hy x
  rw [setR_r]
  exact h1 y hy x
theorem Sh_wide {σ : Sto} {a r N w : Nat} {P : PG} (hS : Sh σ a r N P) (hw : w ≤ 64) (h : ∀ x y, P.2.2 x y = true → x < w) : Sh (stI σ a 0 (nI w)) a r N (w, P.2.1, P.2.2) := by
  obtain ⟨s1, s2, s3, s4, s5, s6⟩ := hS
  refine ⟨?_, ?_, hw, s4, s5, fun x y q => ⟨h x y q, (s6 x y q).2⟩⟩
  · rw [stI_1, up2_self]
  · rw [stI_1, up2_nk _ _ _ (by decide)]; exact s2
theorem Sh_ext {σ : Sto} {a r N : Nat} {P Q : PG} (hS : Sh σ a r N P) (h1 : Q.1 = P.1) (h2 : Q.2.1 = P.2.1) (h3 : ∀ x y, Q.2.2 x y = P.2.2 x y) : Sh σ a r N Q := by
  have : Q = P := Prod.ext h1 (Prod.ext h2 (funext fun x => funext fun y => h3 x y))
  rw [this]; exact hS
theorem Sh_N {σ : Sto} {a r N : Nat} {P : PG} (hS : Sh σ a r N P) : P.2.1 ≤ N := hS.2.2.2.1
def acrossP (s : Int) (P : PG) : PG := (P.1 + spr s P.2.1, P.2.1, fun x y => decide (y < P.2.1) && (decide (off s P.2.1 y ≤ x) && P.2.2 (x - off s P.2.1 y) y))
theorem shearAcross_sh {Λ : Lay} {σ : Sto} {a r : Nat} {P : PG} {s : Int} (hr : rfA Λ a 2 = r) (hn : ln Λ r = 64) (hS : Sh σ a r 64 P) (hs : okS s) (h0 : 0 < P.2.1) (hw : P.1 + spr s P.2.1 ≤ 64) :
    ∃ τ, F_X2_shearAcross Λ σ a (iI s) = some τ ∧ Sh τ a r 64 (acrossP s P) ∧ Fr [a, r] σ τ := by
  have hS0 := hS
  obtain ⟨s1, s2, s3, s4, s5, s6⟩ := hS
  unfold F_X2_shearAcross
  have hsp := spr_bd hs h0
  rw [s2, nmE, leastSlide_eq hs h0 (by omega)]
  rw [run_loop (s0 := ((0 : Int32), σ)) (fun k => (nI k, setR σ r (fun y => if y < k then shlL (σ.2 r y) (nI (off s P.2.1 y)) else σ.2 r y))) (setR σ r (fun y => if y < P.2.1 then shlL (σ.2 r y) (nI (off s P.2.1 y)) else σ.2 r y)) P.2.1 (by omega)
    (by simp only [Nat.not_lt_zero, if_false]; rw [setR_id]; rfl)]
  · rw [Option.bind_some, nmE, nmE, setR_1, s1, s2, spread_eq hs h0 (by omega), nI_add]
    refine ⟨_, rfl, ?_, Fr_trans (Fr_setR (by simp)) (Fr_stI (by simp))⟩
    refine ⟨?_, ?_, hw, s4, ?_, ?_⟩
    · rw [stI_1, up2_self]; rfl
    · rw [stI_1, up2_nk _ _ _ (by decide)]; exact s2
    · intro y hy x
      rw [stI_2, setR_r]
      show _ = (decide (y < P.2.1) && (decide (off s P.2.1 y ≤ x) && P.2.2 (x - off s P.2.1 y) y))
      by_cases h : y < P.2.1
      · have ho := off_le (s := s) h
        simp only [h, if_true, decide_true, Bool.true_and]
        rw [tb_shl (by omega), s5 y hy]
        by_cases hx : x < 64
        · simp [hx]
        · simp only [hx, decide_false, Bool.false_and]
          symm
          cases hg : P.2.2 (x - off s P.2.1 y) y with
          | false => simp
          | true => have := (s6 _ _ hg).1; simp; omega
      · simp only [h, if_false, decide_false, Bool.false_and]
        rw [s5 y hy]
        cases hg : P.2.2 x y with
        | false => rfl
        | true => exact absurd (s6 _ _ hg).2 h
    · intro x y h
      show x < P.1 + spr s P.2.1 ∧ y < P.2.1
      have h : (decide (y < P.2.1) && (decide (off s P.2.1 y ≤ x) && P.2.2 (x - off s P.2.1 y) y)) = true := h
      simp only [Bool.and_eq_true, decide_eq_true_eq] at h
      have ho := off_le (s := s) h.1
      have := (s6 _ _ h.2.2).1
      omega
  · intro k hk
    unfold bd_X2_shearAcross_11
    have ho := off_le (s := s) hk
    simp (disch := omega) only [setR_1, s2, hr, hn, setR_r, slide_eq hs, e0, e1, e2, e3, e4, e7, e8, e9, e10, e12, e16, e20, e63, e64, e100, e4096, nI_add, pk_mul, nI_sb, le_t, le_f, lt_t, lt_f, nI_cl, gd_nI, ↓reduceIte, nmE, Option.bind_some, Option.bind_eq_bind, off_iI hk, Nat.lt_irrefl]
    rw [setR_st (R2 := fun y => if y < k + 1 then shlL (σ.2 r y) (nI (off s P.2.1 y)) else σ.2 r y)]
    · simp
    · intro y hy
      by_cases h : y < k
      · rw [if_pos h, if_pos (by omega)]
      · rw [if_neg h, if_neg (by omega)]
  · unfold bd_X2_shearAcross_11
    simp (disch := omega) only [setR_1, s2, nI_add, pk_mul, nI_sb, le_t, le_f, lt_t, lt_f, nI_cl, gd_nI, ↓reduceIte, nmE, Option.bind_some, Option.bind_eq_bind]

/-! columns of another sheet, so many rows lower -/
def dropP (P Q : PG) (C : Nat → Bool) (d : Nat) : PG := (P.1, P.2.1, fun x y => P.2.2 x y || (C x && (decide (d ≤ y) && (decide (y < P.2.1) && Q.2.2 x (y - d)))))
theorem addDropped_sh {Λ : Lay} {σ : Sto} {a r N a1 r1 N1 d : Nat} {P Q : PG} {c : Int64} {C : Nat → Bool} (hr : rfA Λ a 2 = r) (hn : ln Λ r = N) (hN : N ≤ 128) (hr1 : rfA Λ a1 2 = r1) (hn1 : ln Λ r1 = N1) (hN1 : N1 ≤ 128)
    (d2 : r ≠ r1) (hS : Sh σ a r N P) (hS1 : Sh σ a1 r1 N1 Q) (hc : ∀ i, tb c i = C i) (hd : d ≤ 1000) (hw : Q.1 ≤ P.1) :
    ∃ τ, F_X2_addDropped Λ σ a a1 c (nI d) = some τ ∧ Sh τ a r N (dropP P Q C d) ∧ Fr [r] σ τ := by
  have hS0 := hS
  obtain ⟨s1, s2, s3, s4, s5, s6⟩ := hS
  obtain ⟨t1, t2, t3, t4, t5, t6⟩ := hS1
  unfold F_X2_addDropped
  have hM : ∃ M, M ≤ Q.2.1 ∧ (∀ k, k < M → k + d < P.2.1) ∧ (M = Q.2.1 ∨ P.2.1 ≤ M + d) := by
    refine ⟨min Q.2.1 (P.2.1 - d), ?_, ?_, ?_⟩
    · omega
    · intro k hk; omega
    · omega
  obtain ⟨M, m1, m2, m3⟩ := hM
  rw [run_loop (s0 := ((0 : Int32), σ)) (fun k => (nI k, setR σ r (fun y => if d ≤ y ∧ y < d + k then σ.2 r y ||| (σ.2 r1 (y - d) &&& c) else σ.2 r y))) (setR σ r (fun y => if d ≤ y ∧ y < d + M then σ.2 r y ||| (σ.2 r1 (y - d) &&& c) else σ.2 r y)) M (by omega)
    (by
      rw [show (fun y => if d ≤ y ∧ y < d + 0 then σ.2 r y ||| (σ.2 r1 (y - d) &&& c) else σ.2 r y) = σ.2 r from funext fun y => if_neg (by omega), setR_id]; rfl)]
  · rw [Option.bind_some]
    refine ⟨_, rfl, Sh_setR hS0 ?_ ?_, Fr_setR (by simp)⟩
    · intro y hy x
      by_cases h : d ≤ y ∧ y < d + M
      · rw [if_pos h, tb_or, tb_and, s5 y hy, t5 _ (by omega), hc]
        have := m2 (y - d) (by omega)
        rw [decide_eq_true h.1, decide_eq_true (show y < P.2.1 by omega), Bool.true_and, Bool.true_and, Bool.and_comm]
      · rw [if_neg h, s5 y hy]
        cases hq : (C x && (decide (d ≤ y) && (decide (y < P.2.1) && Q.2.2 x (y - d)))) with
        | false => rw [Bool.or_false]
        | true =>
          exfalso
          simp only [Bool.and_eq_true, decide_eq_true_eq] at hq
          have := (t6 _ _ hq.2.2.2).2
          omega
    · intro x y h
      simp only [Bool.or_eq_true, Bool.and_eq_true, decide_eq_true_eq] at h
      rcases h with h | h
      · exact s6 x y h
      · have := (t6 _ _ h.2.2.2).1
        exact ⟨by omega, h.2.2.1⟩
  · intro k hk
    unfold bd_X2_addDropped_3
    have := m2 k hk
    simp (disch := omega) only [setR_1, s2, t2, hr, hn, hr1, hn1, setR_r, e0, e1, e2, e3, e4, e7, e8, e9, e10, e12, e16, e20, e63, e64, e100, e4096, nI_add, pk_mul, nI_sb, le_t, le_f, lt_t, lt_f, nI_cl, gd_nI, ↓reduceIte, nmE, Option.bind_some, Option.bind_eq_bind, setR_ne]
    rw [setR_st (R2 := fun y => if d ≤ y ∧ y < d + (k + 1) then σ.2 r y ||| (σ.2 r1 (y - d) &&& c) else σ.2 r y)]
    · rw [if_pos (by omega), if_neg (by omega), show k + d - d = k by omega]
    · intro y hy
      by_cases h : d ≤ y ∧ y < d + k
      · rw [if_pos h, if_pos (by omega)]
      · rw [if_neg h, if_neg (by omega)]
  · unfold bd_X2_addDropped_3
    rcases m3 with h | h
    · simp (disch := omega) only [setR_1, t2, nI_add, pk_mul, nI_sb, le_t, le_f, lt_t, lt_f, nI_cl, gd_nI, ↓reduceIte, nmE, Option.bind_some, Option.bind_eq_bind]
    · by_cases h2 : Q.2.1 ≤ M
      · simp (disch := omega) only [setR_1, t2, nI_add, pk_mul, nI_sb, le_t, le_f, lt_t, lt_f, nI_cl, gd_nI, ↓reduceIte, nmE, Option.bind_some, Option.bind_eq_bind]
      · simp (disch := omega) only [setR_1, t2, s2, nI_add, pk_mul, nI_sb, le_t, le_f, lt_t, lt_f, nI_cl, gd_nI, ↓reduceIte, nmE, Option.bind_some, Option.bind_eq_bind]
def uprightP (s : Int) (P : PG) : PG := (P.1, P.2.1 + spr s P.1, fun x y => decide (x < P.1) && (decide (off s P.1 x ≤ y) && P.2.2 x (y - off s P.1 x)))
theorem becomeShearedUp_sh {Λ : Lay} {σ : Sto} {a r N a1 r1 N1 : Nat} {P : PG} {s : Int} (hr : rfA Λ a 2 = r) (hn : ln Λ r = N) (hN : N ≤ 128) (hr1 : rfA Λ a1 2 = r1) (hn1 : ln Λ r1 = N1) (hN1 : N1 ≤ 64)
    (d1 : a ≠ a1) (d2 : r ≠ r1) (d3 : a1 ≠ r) (d4 : r1 ≠ a) (hS : Sh σ a1 r1 N1 P) (hs : okS s) (h0 : 0 < P.1) (hh : P.2.1 + spr s P.1 ≤ N) :
    ∃ τ, F_X2_becomeShearedUp Λ σ a a1 (iI s) = some τ ∧ Sh τ a r N (uprightP s P) ∧ Fr [a, r] σ τ := by
  have hw := hS.2.2.1
  have hh1 := Sh_N hS
  have hsp := spr_bd hs h0
  unfold F_X2_becomeShearedUp
  rw [hS.1, hS.2.1, nmE, spread_eq hs h0 (by omega), nI_add]
  obtain ⟨τ0, z1, z2, z3⟩ := empty_sh (σ := σ) (w := P.1) (h := P.2.1 + spr s P.1) hr hn hN hw hh
  rw [z1, Option.bind_some, nmE, z2.1]
  show ∃ τ, (Option.bind (iter (bd_X2_becomeShearedUp_36 Λ a a1 (iI s) (F_X4_leastSlide (iI s) (nI P.1))) FU ((0 : Int64), (0 : Int32), τ0)) _) = some τ ∧ _
  rw [leastSlide_eq hs h0 (by omega)]
  obtain ⟨τ, h1, h2, h3⟩ := iter_for (f := bd_X2_becomeShearedUp_36 Λ a a1 (iI s) (iI (lst s P.1))) P.1
    (fun k q => q.2.1 = nI k ∧ ∃ t, t ≤ k ∧ (k = P.1 → t = k) ∧ (∀ i, tb q.1 i = decide (t ≤ i ∧ i < k)) ∧ (∀ c, t ≤ c → c < k → sl s c = sl s k) ∧ Sh q.2.2 a r N (P.1, P.2.1 + spr s P.1, fun x y => decide (x < t) && (uprightP s P).2.2 x y) ∧ Fr [a, r] σ q.2.2)
    (fun τ => Sh τ a r N (uprightP s P) ∧ Fr [a, r] σ τ) (s := ((0 : Int64), (0 : Int32), τ0)) (n := FU)
    (by
      rintro k ⟨T, i, τ⟩ hk ⟨q1, t, q2, q3, q4, q5, q6, q7⟩
      simp only at q1 q4 q6 q7
      subst q1
      have hS1 : Sh τ a1 r1 N1 P := Sh_Fr hS q7 (by simp; omega) (by simp; omega)
      have hT : ∀ j, tb (T ||| shlL 1 (nI k)) j = decide (t ≤ j ∧ j < k + 1) := by
        intro j
        rw [tb_or, q4, tb_bit (by omega)]
        by_cases e : j = k
        · subst e; rw [decide_eq_true rfl, Bool.or_true, decide_eq_true (by omega)]
        · by_cases c1 : t ≤ j ∧ j < k
          · rw [decide_eq_true c1, decide_eq_true (show t ≤ j ∧ j < k + 1 by omega), Bool.true_or]
          · rw [decide_eq_false c1, decide_eq_false e, decide_eq_false (show ¬ (t ≤ j ∧ j < k + 1) by omega)]; rfl
      have drop : ∃ z, jp_X2_becomeShearedUp_82 Λ τ a a1 (iI s) (iI (lst s P.1)) (T ||| shlL 1 (nI k)) (nI k) = some (.inl z) ∧ (z.2.1 = nI (k + 1) ∧ ∃ t, t ≤ k + 1 ∧ (k + 1 = P.1 → t = k + 1) ∧ (∀ i, tb z.1 i = decide (t ≤ i ∧ i < k + 1)) ∧ (∀ c, t ≤ c → c < k + 1 → sl s c = sl s (k + 1)) ∧ Sh z.2.2 a r N (P.1, P.2.1 + spr s P.1, fun x y => decide (x < t) && (uprightP s P).2.2 x y) ∧ Fr [a, r] σ z.2.2) := by
        have ho := off_le (s := s) hk
        unfold jp_X2_becomeShearedUp_82 jp_X2_becomeShearedUp_100
        rw [nmE, slide_eq hs (by omega), off_iI hk]
        obtain ⟨τ2, g1, g2, g3⟩ := addDropped_sh (C := fun i => decide (t ≤ i ∧ i < k + 1)) hr hn hN hr1 hn1 (by omega) d2 q6 hS1 hT (show off s P.1 k ≤ 1000 by omega) (Nat.le_refl _)
        rw [g1, Option.bind_some, nmE, nI_1]
        refine ⟨_, rfl, rfl, k + 1, Nat.le_refl _, fun _ => rfl, fun i => by rw [tb_zero, decide_eq_false (by omega)], fun c h1 h2 => by omega, Sh_ext g2 rfl rfl (fun x y => ?_), Fr_trans q7 (Fr_mono g3 (by simp))⟩
        show (decide (x < k + 1) && (decide (x < P.1) && (decide (off s P.1 x ≤ y) && P.2.2 x (y - off s P.1 x)))) = ((decide (x < t) && (decide (x < P.1) && (decide (off s P.1 x ≤ y) && P.2.2 x (y - off s P.1 x)))) || (decide (t ≤ x ∧ x < k + 1) && (decide (off s P.1 k ≤ y) && (decide (y < P.2.1 + spr s P.1) && P.2.2 x (y - off s P.1 k)))))
        by_cases c1 : x < t
        · rw [decide_eq_true c1, decide_eq_true (show x < k + 1 by omega), decide_eq_false (show ¬ (t ≤ x ∧ x < k + 1) by omega)]
          simp
        · by_cases c2 : x < k + 1
          · rw [decide_eq_false c1, decide_eq_true c2, decide_eq_true (show t ≤ x ∧ x < k + 1 by omega), decide_eq_true (show x < P.1 by omega)]
            have ek : off s P.1 k = off s P.1 x := by
              unfold off
              by_cases e : x = k
              · rw [e]
              · rw [q5 x (by omega) (by omega)]
            rw [ek] at ho ⊢
            simp only [Bool.true_and, Bool.false_and, Bool.false_or]
            cases hg : P.2.2 x (y - off s P.1 x) with
            | false => simp
            | true =>
              have := (hS.2.2.2.2.2 _ _ hg).2
              by_cases c3 : off s P.1 x ≤ y
              · rw [decide_eq_true (show y < P.2.1 + spr s P.1 by omega)]; simp
              · simp [c3]
          · rw [decide_eq_false c1, decide_eq_false c2, decide_eq_false (show ¬ (t ≤ x ∧ x < k + 1) by omega)]
            simp
      unfold bd_X2_becomeShearedUp_36
      simp only [nmE]
      rw [q6.1, if_neg (nI_ge hk (by omega))]
      simp only [e1]
      rw [nI_sb (show 1 ≤ P.1 by omega)]
      by_cases c0 : k = P.1 - 1
      · rw [if_pos (by rw [← c0])]
        exact drop
      · rw [if_neg (fun q => c0 ((nI_eq (by omega) (by omega)).mp q)), nI_add, slide_eq hs (by omega), slide_eq hs (by omega)]
        have b1 := sl_bd (k := k) hs
        have b2 := sl_bd (k := k + 1) hs
        by_cases c1 : iI (sl s (k + 1)) = iI (sl s k)
        · rw [if_pos c1]
          have c2 := (iI_eq (by omega) (by omega) (by omega) (by omega)).mp c1
          unfold jp_X2_becomeShearedUp_100
          rw [nmE, nI_1]
          refine ⟨_, rfl, rfl, t, by omega, fun h => by omega, hT, fun c h1 h2 => ?_, q6, q7⟩
          by_cases e : c = k
          · rw [e, c2]
          · rw [q5 c h1 (by omega), c2]
        · rw [if_neg c1]
          exact drop)
    (by
      rintro ⟨T, i, τ⟩ ⟨q1, t, q2, q3, q4, q5, q6, q7⟩
      simp only at q1 q4 q6 q7
      subst q1
      unfold bd_X2_becomeShearedUp_36
      rw [q6.1, if_pos (nI_le (Nat.le_refl _) (by omega))]
      refine ⟨_, rfl, Sh_ext q6 rfl rfl (fun x y => ?_), q7⟩
      rw [q3 rfl]
      show (decide (x < P.1) && _) = (decide (x < P.1) && (decide (x < P.1) && _))
      cases decide (x < P.1) <;> rfl)
    ⟨rfl, 0, Nat.le_refl _, fun h => by omega, fun i => by rw [tb_zero]; simp, fun c _ h => by omega, Sh_ext z2 rfl rfl (fun x y => by simp; rfl), z3⟩ (by show _ < 5000; omega)
  rw [h1]
  exact ⟨_, rfl, h2, h3⟩
