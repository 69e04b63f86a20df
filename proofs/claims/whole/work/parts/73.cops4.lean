/-! THE CLASS'S CALLS, going on: bend, the list, shadow, count, listed, told, box -/
def rowB (P : PG) (y : Nat) : Bool := anyB (fun x => P.2.2 x y) 64
def colB (P : PG) (x : Nat) : Bool := anyB (fun y => P.2.2 x y) P.2.1
def botP (P : PG) : Nat := topB (rowB P) 64
theorem rowB_of {P : PG} {x y : Nat} (hP : okL P) (h : P.2.2 x y = true) : rowB P y = true := anyB_iff.mpr ⟨x, by have := (hP.2.2 x y h).1; have := hP.1; omega, h⟩
theorem colB_of {P : PG} {x y : Nat} (hP : okL P) (h : P.2.2 x y = true) : colB P x = true := anyB_iff.mpr ⟨y, (hP.2.2 x y h).2, h⟩
theorem okP_L {P : PG} (h : okP P) : okL P := ⟨h.2.1, h.2.2.2.1, h.2.2.2.2⟩
theorem bot_gt {P : PG} {x y : Nat} (hP : okL P) (h : P.2.2 x y = true) : y < botP P := by
  have h1 := rowB_of hP h
  rcases Nat.lt_or_ge y (botP P) with q | q
  · exact q
  · have := topB_gt (rowB P) 64 y q (by have := (hP.2.2 x y h).2; have := hP.2.1; omega)
    rw [this] at h1; cases h1
theorem bot_le {P : PG} (hP : okL P) : botP P ≤ P.2.1 := by
  rcases Nat.eq_zero_or_pos (botP P) with q | q
  · omega
  · obtain ⟨x, h1, h2⟩ := anyB_iff.mp (topB_is (rowB P) 64 q)
    have := (hP.2.2 _ _ h2).2
    unfold botP at *
    omega
theorem foot_le_bot {P : PG} (hP : okL P) (s : Nat) : footP P s ≤ botP P := by
  rcases Nat.eq_zero_or_pos (footP P s) with q | q
  · omega
  · obtain ⟨x, h1, h2, h3⟩ := stepB_iff.mp (topB_is (stepB P s) P.2.1 q)
    have := bot_gt hP h3
    unfold footP at *
    omega
theorem foot_gt {P : PG} (hP : okL P) {x y : Nat} (h : P.2.2 x y = true) : y < footP P (x / 8) := by
  have h1 : stepB P (x / 8) y = true := stepB_iff.mpr ⟨x, by omega, by omega, h⟩
  rcases Nat.lt_or_ge y (footP P (x / 8)) with q | q
  · exact q
  · have := topB_gt (stepB P (x / 8)) P.2.1 y q (hP.2.2 x y h).2
    rw [this] at h1; cases h1
def bendP (P : PG) : PG := (P.1, P.2.1, fun x y => decide (botP P - footP P (x / 8) ≤ y) && P.2.2 x (y - (botP P - footP P (x / 8))))
theorem bend_in {P : PG} (hP : okL P) {x y : Nat} (h : (bendP P).2.2 x y = true) : x < P.1 ∧ y < P.2.1 := by
  have h : (decide (botP P - footP P (x / 8) ≤ y) && P.2.2 x (y - (botP P - footP P (x / 8)))) = true := h
  simp only [Bool.and_eq_true, decide_eq_true_eq] at h
  have h1 := foot_gt hP h.2
  have h2 := foot_le_bot hP (x / 8)
  have h3 := bot_le hP
  exact ⟨(hP.2.2 _ _ h.2).1, by omega⟩
theorem bend_ok {P : PG} (hP : okP P) : okP (bendP P) := ⟨hP.1, hP.2.1, hP.2.2.1, hP.2.2.2.1, fun _ _ h => bend_in (okP_L hP) h⟩
def wentB (P : PG) (s : Nat) : Bool := decide (0 < footP P s) && decide (footP P s < botP P)
def wentP (P : PG) : Nat := fb_ct (wentB P) ((P.1 + 7) / 8)
def benK (P : PG) (k : Nat) : PG := (P.1, P.2.1, fun x y => decide (x < 8 * k) && (bendP P).2.2 x y)
theorem cp_bend_t {b p : Nat} {σ : Sto} {D : Desk} (h : CR b σ D) (G : GD D) (hp : p < dN D) :
    ∃ τ, F_X4_bend (ΛE b) σ b (nI p) = some (nI (wentP (dP D p)), τ) ∧ CR b τ (setP (pushD D p 0) p (bendP (dP D p))) ∧ FrC b σ τ := by
  have g1 := G.1
  have gp := G.2.1 p hp
  have gp0 := gp
  have gl := okP_L gp
  unfold okP at gp
  unfold F_X4_bend
  rw [find_t h g1 hp, Option.bind_some, oc_s, r0_2]
  obtain ⟨τ, q1, q2, q3⟩ := remember_cr (m := 0) (made := -1) h G hp (by decide)
  have hS : Sh τ _ _ 64 (dP D p) := q2.2.1 p hp
  obtain ⟨v, v1, v2⟩ := inkedRows_eq (rPr (by omega) b) (lP (by omega) b) (by omega) hS
  rw [q1, Option.bind_some, v1, Option.bind_some, highestBit_eq, Option.bind_some, r0_5, hS.1, hS.2.1]
  have hb : topB (tb v) 64 = botP (dP D p) := topB_cong (fun k _ => v2 k)
  rw [hb]
  obtain ⟨τ1, w1, w2, w3⟩ := empty_sh (Λ := ΛE b) (σ := τ) (w := (dP D p).1) (h := (dP D p).2.1) (r62_2 b) (l63 b) (by omega) (by omega) (by omega)
  rw [w1, Option.bind_some]
  have hk : (dP D p).1 ≤ 8 * (((dP D p).1 + 7) / 8) := by omega
  obtain ⟨z, z1, z2, z3, z4⟩ := iter_for (f := bd_X4_bend_51 (ΛE b) b (b + (2 + 2 * p)) (nI (botP (dP D p)) - 1)) (((dP D p).1 + 7) / 8)
    (fun k s => s.1 = nI (fb_ct (wentB (dP D p)) k) ∧ s.2.1 = nI k ∧ Sh s.2.2 (b + 62) (b + 63) 128 (benK (dP D p) k) ∧ Fr [b + 62, b + 63] τ s.2.2)
    (fun z => z.1 = nI (wentP (dP D p)) ∧ Sh z.2 (b + 62) (b + 63) 128 (benK (dP D p) (((dP D p).1 + 7) / 8)) ∧ Fr [b + 62, b + 63] τ z.2) (s := ((0 : Int32), (0 : Int32), τ1)) (n := FU)
    (by
      rintro k ⟨m1, i1, τ2⟩ hk2 ⟨c1, c2, c3, c4⟩
      simp only at c1 c2 c3 c4
      subst c1 c2
      have hS2 : Sh τ2 _ _ 64 (dP D p) := Sh_Fr hS c4 (by simp <;> omega) (by simp <;> omega)
      have hf := footOf_eq (s := k) (rPr (show p < 8 by omega) b) (lP (by omega) b) (by omega) hS2 (by omega)
      have hfl := topB_le (stepB (dP D p) k) (dP D p).2.1
      have hfb := foot_le_bot gl k
      have hbl := bot_le gl
      unfold bd_X4_bend_51
      simp only
      rw [steps_eq hS2.1 (by omega), nmE, if_neg (nI_ge (by omega) (by omega)), hf, Option.bind_some]
      by_cases cf : topB (stepB (dP D p) k) (dP D p).2.1 = 0
      · rw [if_pos (by rw [cf]; decide)]
        unfold jp_X4_bend_107
        rw [nmE, nI_1]
        refine ⟨_, rfl, ?_, rfl, ?_, c4⟩
        · simp only [fb_ct_succ]
          rw [show wentB (dP D p) k = false by unfold wentB footP; rw [cf]; rfl]
          rfl
        · refine Sh_ext c3 rfl rfl (fun x y => ?_)
          show (decide (x < 8 * (k + 1)) && (bendP (dP D p)).2.2 x y) = (decide (x < 8 * k) && (bendP (dP D p)).2.2 x y)
          cases hg : (bendP (dP D p)).2.2 x y with
          | false => simp
          | true =>
            have hg : (decide (botP (dP D p) - footP (dP D p) (x / 8) ≤ y) && (dP D p).2.2 x (y - (botP (dP D p) - footP (dP D p) (x / 8)))) = true := hg
            simp only [Bool.and_eq_true, decide_eq_true_eq] at hg
            have h1 := foot_gt gl hg.2
            have hne : x / 8 ≠ k := by
              intro e
              rw [e] at h1
              unfold footP at h1
              omega
            simp only [Bool.and_true]
            congr 1
            apply propext
            omega
      · have cf2 : 0 < footP (dP D p) k := by unfold footP; omega
        have ed : nI (botP (dP D p)) - 1 - (nI (topB (stepB (dP D p) k) (dP D p).2.1) - 1) = nI (botP (dP D p) - footP (dP D p) k) := by
          unfold footP at *
          rw [nI_subo (by omega), nI_subo (by omega), nI_sb (by omega)]
          congr 1
          omega
        obtain ⟨τ3, x1, x2, x3⟩ := addDropped_sh (Λ := ΛE b) (C := fun i => decide (8 * k ≤ i ∧ i < 8 * k + 8)) (d := botP (dP D p) - footP (dP D p) k) (c := F_X4_stepColumns (nI k)) (r62_2 b) (l63 b) (by omega) (rPr (show p < 8 by omega) b) (lP (by omega) b) (by omega) (by omega) c3 hS2 (fun i => stepColumns_tb (by omega) i) (by omega) (Nat.le_refl _)
        rw [if_neg (by
          rw [nI_subo (by omega)]
          intro q
          rw [eq32, nI_ti (by omega), show (-1 : Int32).toInt = -1 by decide] at q
          omega), nmE, r0_5, ed, x1, Option.bind_some]
        have s3 : Sh τ3 (b + 62) (b + 63) 128 (benK (dP D p) (k + 1)) := by
          refine Sh_ext x2 rfl rfl (fun x y => ?_)
          show (decide (x < 8 * (k + 1)) && (bendP (dP D p)).2.2 x y) = ((decide (x < 8 * k) && (bendP (dP D p)).2.2 x y) || (decide (8 * k ≤ x ∧ x < 8 * k + 8) && (decide (botP (dP D p) - footP (dP D p) k ≤ y) && (decide (y < (dP D p).2.1) && (dP D p).2.2 x (y - (botP (dP D p) - footP (dP D p) k))))))
          by_cases e1 : x < 8 * k
          · rw [decide_eq_true (show x < 8 * (k + 1) by omega), decide_eq_true e1, decide_eq_false (show ¬ (8 * k ≤ x ∧ x < 8 * k + 8) by omega)]
            simp
          · by_cases e2 : x < 8 * k + 8
            · rw [decide_eq_true (show x < 8 * (k + 1) by omega), decide_eq_false e1, decide_eq_true (show (8 * k ≤ x ∧ x < 8 * k + 8) by omega)]
              have e3 : x / 8 = k := by omega
              cases hg : (bendP (dP D p)).2.2 x y with
              | true =>
                have hy := (bend_in gl hg).2
                have hg : (decide (botP (dP D p) - footP (dP D p) (x / 8) ≤ y) && (dP D p).2.2 x (y - (botP (dP D p) - footP (dP D p) (x / 8)))) = true := hg
                rw [e3] at hg
                simp only [Bool.and_eq_true, decide_eq_true_eq] at hg
                simp [hg.1, hg.2, hy]
              | false =>
                have hg : (decide (botP (dP D p) - footP (dP D p) (x / 8) ≤ y) && (dP D p).2.2 x (y - (botP (dP D p) - footP (dP D p) (x / 8)))) = false := hg
                rw [e3] at hg
                cases d1 : decide (botP (dP D p) - footP (dP D p) k ≤ y) with
                | false => simp
                | true =>
                  rw [d1, Bool.true_and] at hg
                  rw [hg]; simp
            · rw [decide_eq_false (show ¬ x < 8 * (k + 1) by omega), decide_eq_false e1, decide_eq_false (show ¬ (8 * k ≤ x ∧ x < 8 * k + 8) by omega)]
              simp
        have c5 : Fr [b + 62, b + 63] τ τ3 := Fr_trans c4 (Fr_mono x3 (by simp))
        unfold jp_X4_bend_104 jp_X4_bend_107
        simp only [nmE, nI_1]
        rw [nI_subo (by omega), nI_subo (by unfold footP at *; omega)]
        by_cases cw : footP (dP D p) k < botP (dP D p)
        · rw [if_neg (nI_ge (by unfold footP at *; omega) (by omega))]
          refine ⟨_, rfl, ?_, rfl, s3, c5⟩
          simp only [fb_ct_succ]
          rw [show wentB (dP D p) k = true by unfold wentB; simp [cf2, cw]]
          rfl
        · rw [if_pos (nI_le (by unfold footP at *; omega) (by omega)), e0, nI_add]
          refine ⟨_, rfl, ?_, rfl, s3, c5⟩
          simp only [fb_ct_succ]
          rw [show wentB (dP D p) k = false by unfold wentB; simp [cw]]
          rfl)
    (by
      rintro ⟨m1, i1, τ2⟩ ⟨c1, c2, c3, c4⟩
      simp only at c1 c2 c3 c4
      subst c1 c2
      have hS2 : Sh τ2 _ _ 64 (dP D p) := Sh_Fr hS c4 (by simp <;> omega) (by simp <;> omega)
      unfold bd_X4_bend_51
      simp only
      rw [steps_eq hS2.1 (by omega), nmE, if_pos (nI_le (by omega) (by omega))]
      exact ⟨_, rfl, rfl, c3, c4⟩)
    ⟨rfl, rfl, Sh_ext w2 rfl rfl (fun x y => by simp [benK, noP]), w3⟩ (by show _ < 5000; omega)
  rw [z1, Option.bind_some, z2]
  obtain ⟨τ4, y1, y2, y3⟩ := become_sh (rPr (show p < 8 by omega) b) (lP (by omega) b) (by omega) (r62_2 b) (l63 b) (by omega) (by omega) (by omega) z3 (show (dP D p).2.1 ≤ 64 by omega)
  rw [y1, Option.bind_some]
  have s4 : Sh τ4 (b + (2 + 2 * p)) (b + (3 + 2 * p)) 64 (bendP (dP D p)) := by
    refine Sh_ext y2 rfl rfl (fun x y => ?_)
    show (bendP (dP D p)).2.2 x y = (decide (x < 8 * (((dP D p).1 + 7) / 8)) && (bendP (dP D p)).2.2 x y)
    cases hg : (bendP (dP D p)).2.2 x y with
    | false => simp
    | true =>
      have := (bend_in gl hg).1
      rw [decide_eq_true (by omega)]; rfl
  obtain ⟨u1, u2⟩ := CR_chg q2 G hp (Fr_trans (Fr_mono z4 (by unfold scr; simp)) (Fr_mono y3 (by simp))) s4
  exact ⟨_, rfl, u1, FrC_trans q3 u2⟩
theorem cp_bend_f {b : Nat} {q : Int32} {σ : Sto} {D : Desk} (hc : CR b σ D) (G : GD D) (hn : ¬ ∃ p, p < dN D ∧ q = nI p) : F_X4_bend (ΛE b) σ b q = some (-1, σ) := by
  unfold F_X4_bend
  rw [find_f hc G.1 hn, Option.bind_some, oc_n]
-- the list
theorem CR_list {b : Nat} {σ τ : Sto} {D : Desk} {L : PG} (h : CR b σ D) (hN : dN D ≤ 8) (hf : Fr ((b + 60) :: (b + 61) :: scr b) σ τ) (hS : Sh τ (b + 60) (b + 61) 64 L) : CR b τ (setL D L) := by
  have hf2 : ∀ c, (c < b + 50 ∨ c = b + 64) → τ.1 c = σ.1 c ∧ τ.2 c = σ.2 c := fun c hc => hf c (by unfold scr; simp; omega)
  obtain ⟨h1, h2, h3, h4, h5, h6, h7, h8⟩ := h
  refine ⟨?_, ?_, ?_, ?_, ?_, hS, ?_, ?_⟩
  · rw [(hf2 b (by omega)).1]; exact h1
  · intro p hp
    have hp : p < dN D := hp
    exact Sh_fr (h2 p hp) (hf2 _ (by omega)).1 (hf2 _ (by omega)).2
  · rw [(hf2 (b + 18) (by omega)).1]; exact h3
  · rw [(hf2 (b + 18) (by omega)).1]; exact h4
  · intro i hi
    obtain ⟨g1, g2, g3⟩ := h5 i hi
    have hk : (dX D + 9 - i) % 10 < 10 := Nat.mod_lt _ (by omega)
    show HC b τ ((dX D + 9 - i) % 10) (dH D i)
    refine ⟨?_, ?_, ?_⟩
    · rw [(hf2 _ (by omega)).1]; exact g1
    · rw [(hf2 _ (by omega)).1]; exact g2
    · exact Sh_fr g3 (hf2 _ (by omega)).1 (hf2 _ (by omega)).2
  · rw [(hf2 b (by omega)).1]; exact h7
  · intro i hi
    rw [(hf2 (b + 64) (by omega)).1]; exact h8 i hi
theorem GD_list {D : Desk} {L : PG} (G : GD D) (h : okL L) : GD (setL D L) := by
  obtain ⟨g1, g2, g3, g4, g5, g6, g7, g8, g9⟩ := G
  exact ⟨g1, g2, g3, g4, g5, g6, h, g8, g9⟩
theorem GD_vals {D : Desk} {m : Nat} {v : Nat → Nat} (G : GD D) (h : m ≤ 64) (h2 : ∀ i, i < m → v i < 64) : GD (setV D m v) := by
  obtain ⟨g1, g2, g3, g4, g5, g6, g7, g8, g9⟩ := G
  exact ⟨g1, g2, g3, g4, g5, g6, g7, h, h2⟩
def minusP (P L : PG) : PG := (P.1, P.2.1, fun x y => P.2.2 x y && !L.2.2 x y)
theorem minus_ok {P L : PG} (h : okP P) : okP (minusP P L) := ⟨h.1, h.2.1, h.2.2.1, h.2.2.2.1, fun x y q => h.2.2.2.2 x y (by
  have q : (P.2.2 x y && !L.2.2 x y) = true := q
  simp only [Bool.and_eq_true] at q
  exact q.1)⟩
theorem takeListed_cr {b p : Nat} {σ : Sto} {D : Desk} (h : CR b σ D) (G : GD D) (hp : p < dN D) :
    ∃ τ, F_X4_takeListed (ΛE b) σ b (nI p) (b + (2 + 2 * p)) = some τ ∧ CR b τ (setP (pushD D p 0) p (minusP (dP D p) (dL D))) ∧ FrC b σ τ := by
  have g1 := G.1
  have gp := G.2.1 p hp
  unfold okP at gp
  unfold F_X4_takeListed
  rw [r0_2]
  obtain ⟨τ, q1, q2, q3⟩ := remember_cr (m := 0) (made := -1) h G hp (by decide)
  have hS : Sh τ _ _ 64 (dP D p) := q2.2.1 p hp
  have hL : Sh τ (b + 60) (b + 61) 64 (dL D) := q2.2.2.2.2.2.1
  rw [q1, Option.bind_some]
  obtain ⟨s1, s2, s3, s4, s5, s6⟩ := hS
  rw [run_loop (s0 := (0, τ)) (fun k => (nI k, setR τ (b + (3 + 2 * p)) (fun j => if j < k then τ.2 (b + (3 + 2 * p)) j &&& (τ.2 (b + 61) j ^^^ (-1)) else τ.2 (b + (3 + 2 * p)) j))) (setR τ (b + (3 + 2 * p)) (fun j => if j < (dP D p).2.1 then τ.2 (b + (3 + 2 * p)) j &&& (τ.2 (b + 61) j ^^^ (-1)) else τ.2 (b + (3 + 2 * p)) j)) (dP D p).2.1 (by omega)
    (by rw [show (fun j => if j < 0 then τ.2 (b + (3 + 2 * p)) j &&& (τ.2 (b + 61) j ^^^ (-1)) else τ.2 (b + (3 + 2 * p)) j) = τ.2 (b + (3 + 2 * p)) from funext fun j => if_neg (by omega), setR_id]; rfl)]
  · rw [Option.bind_some]
    have s7 : Sh (setR τ (b + (3 + 2 * p)) (fun j => if j < (dP D p).2.1 then τ.2 (b + (3 + 2 * p)) j &&& (τ.2 (b + 61) j ^^^ (-1)) else τ.2 (b + (3 + 2 * p)) j)) (b + (2 + 2 * p)) (b + (3 + 2 * p)) 64 (minusP (dP D p) (dL D)) := by
      refine Sh_setR (g := (minusP (dP D p) (dL D)).2.2) ⟨s1, s2, s3, s4, s5, s6⟩ ?_ (fun x y q => s6 x y (by
        have q : ((dP D p).2.2 x y && !(dL D).2.2 x y) = true := q
        simp only [Bool.and_eq_true] at q
        exact q.1))
      intro j hj a
      show _ = ((dP D p).2.2 a j && !(dL D).2.2 a j)
      by_cases e : j < (dP D p).2.1
      · rw [if_pos e, tb_and, tb_not, s5 j hj, hL.2.2.2.2.1 j hj]
        cases hg : (dP D p).2.2 a j with
        | false => rfl
        | true =>
          have := (s6 a j hg).1
          rw [decide_eq_true (by omega)]; rfl
      · rw [if_neg e, s5 j hj]
        cases hg : (dP D p).2.2 a j with
        | false => rfl
        | true => exact absurd (s6 a j hg).2 e
    obtain ⟨w1, w2⟩ := CR_chg q2 G hp (Fr_setR (by simp)) s7
    exact ⟨_, rfl, w1, FrC_trans q3 w2⟩
  · intro k hk
    unfold bd_X4_takeListed_12
    have a2 : (setR τ (b + (3 + 2 * p)) (fun j => if j < k then τ.2 (b + (3 + 2 * p)) j &&& (τ.2 (b + 61) j ^^^ (-1)) else τ.2 (b + (3 + 2 * p)) j)).1 (b + (2 + 2 * p)) 1 = nI (dP D p).2.1 := s2
    simp (disch := omega) only [a2, rPr, lP, r0_4, r60_2, l61, e0, e1, e2, e3, e4, e7, e8, e9, e10, e12, e16, e20, e63, e64, e100, e4096, nI_add, pk_mul, nI_sb, le_t, le_f, lt_t, lt_f, nI_cl, gd_nI, ↓reduceIte, nmE, Option.bind_some, Option.bind_eq_bind]
    rw [setR_st (R2 := fun j => if j < k + 1 then τ.2 (b + (3 + 2 * p)) j &&& (τ.2 (b + 61) j ^^^ (-1)) else τ.2 (b + (3 + 2 * p)) j)]
    · rw [if_pos (by omega), setR_r, if_neg (by omega), setR_ne (by omega)]
    · intro j hj
      by_cases e : j < k
      · rw [if_pos e, if_pos (by omega)]
      · rw [if_neg e, if_neg (by omega)]
  · unfold bd_X4_takeListed_12
    have a2 : (setR τ (b + (3 + 2 * p)) (fun j => if j < (dP D p).2.1 then τ.2 (b + (3 + 2 * p)) j &&& (τ.2 (b + 61) j ^^^ (-1)) else τ.2 (b + (3 + 2 * p)) j)).1 (b + (2 + 2 * p)) 1 = nI (dP D p).2.1 := s2
    simp (disch := omega) only [a2, nI_add, pk_mul, nI_sb, le_t, le_f, lt_t, lt_f, nI_cl, gd_nI, ↓reduceIte, nmE, Option.bind_some, Option.bind_eq_bind]
-- shadow
def shaL (P : PG) (p : Nat) : PG := (P.1, P.2.1, fun x y => decide (x < shL P p ∨ (shR P p ≤ x ∧ x < P.1)) && P.2.2 x y)
theorem sha_ok {P : PG} {p : Nat} (h : okP P) : okL (shaL P p) := ⟨h.2.1, h.2.2.2.1, fun x y q => h.2.2.2.2 x y (by
  have q : (decide (x < shL P p ∨ (shR P p ≤ x ∧ x < P.1)) && P.2.2 x y) = true := q
  simp only [Bool.and_eq_true] at q
  exact q.2)⟩
theorem ct_lr {l r w : Nat} (h1 : l ≤ r) (h2 : r ≤ w) : ∀ n, w ≤ n → fb_ct (fun i => decide (i < l ∨ (r ≤ i ∧ i < w))) n = l + (w - r) := by
  intro n hn
  have e : fb_ct (fun i => decide (i < l ∨ (r ≤ i ∧ i < w))) n = fb_ct (fun i => decide (i < l) || decide (r ≤ i ∧ i < w)) n := fb_ct_cong (fun k _ => by simp)
  rw [e, fb_ct_or (fun k _ q => by simp only [decide_eq_true_eq] at q; omega), ct_lt l n (by omega)]
  congr 1
  obtain ⟨d, rfl⟩ : ∃ d, n = r + d := ⟨n - r, by omega⟩
  rw [fb_ct_split, fb_ct_zero.mpr (fun k hk => by simp; omega), Nat.zero_add]
  rw [show fb_ct (fun k => decide (r ≤ r + k ∧ r + k < w)) d = fb_ct (fun k => decide (k < w - r)) d from fb_ct_cong (fun k _ => by congr 1; apply propext; omega)]
  exact ct_lt _ _ (by omega)
theorem cp_shadow_t {b p k : Nat} {σ : Sto} {D : Desk} (h : CR b σ D) (G : GD D) (hp : p < dN D) (k1 : 1 ≤ k) (k2 : k ≤ 100) :
    ∃ τ, F_X4_shadow (ΛE b) σ b (nI p) (nI k) = some (nI (shL (dP D p) k + ((dP D p).1 - shR (dP D p) k)), τ) ∧ CR b τ (setP (pushD (setL D (shaL (dP D p) k)) p 0) p (minusP (dP D p) (shaL (dP D p) k))) ∧ FrC b σ τ := by
  have g1 := G.1
  have gp := G.2.1 p hp
  have gp0 := gp
  unfold okP at gp
  have hS := h.2.1 p hp
  obtain ⟨v, v1, v2⟩ := shadowColumns_eq (p := k) (rPr (show p < 8 by omega) b) (lP (by omega) b) (by omega) hS k2
  obtain ⟨τ, q1, q2, q3⟩ := empty_sh (Λ := ΛE b) (σ := σ) (w := (dP D p).1) (h := (dP D p).2.1) (r60_2 b) (l61 b) (by omega) (by omega) (by omega)
  have hS2 : Sh τ _ _ 64 (dP D p) := Sh_Fr hS q3 (by simp <;> omega) (by simp <;> omega)
  obtain ⟨τ1, w1, w2, w3⟩ := addDropped_sh (Λ := ΛE b) (C := fun i => decide (i < shL (dP D p) k ∨ (shR (dP D p) k ≤ i ∧ i < (dP D p).1))) (d := 0) (c := v) (r60_2 b) (l61 b) (by omega) (rPr (show p < 8 by omega) b) (lP (by omega) b) (by omega) (by omega) q2 hS2 v2 (by omega) (Nat.le_refl _)
  have hf : Fr [b + 60, b + 61] σ τ1 := Fr_trans q3 (Fr_mono w3 (by simp))
  have s1 : Sh τ1 (b + 60) (b + 61) 64 (shaL (dP D p) k) := by
    refine Sh_ext w2 rfl rfl (fun x y => ?_)
    show (decide (x < shL (dP D p) k ∨ (shR (dP D p) k ≤ x ∧ x < (dP D p).1)) && (dP D p).2.2 x y) = (false || (decide (x < shL (dP D p) k ∨ (shR (dP D p) k ≤ x ∧ x < (dP D p).1)) && (decide (0 ≤ y) && (decide (y < (dP D p).2.1) && (dP D p).2.2 x (y - 0)))))
    cases hg : (dP D p).2.2 x y with
    | false => simp [hg]
    | true =>
      have := (gp.2.2.2.2 x y hg).2
      simp [hg, this]
  have c1 := CR_list h g1 (Fr_mono hf (by simp)) s1
  have G1 := GD_list (L := shaL (dP D p) k) G (sha_ok gp0)
  obtain ⟨τ2, x1, x2, x3⟩ := takeListed_cr (p := p) c1 G1 hp
  have hlr := shLR (dP D p) k
  unfold F_X4_shadow
  rw [find_t h g1 hp, Option.bind_some, oc_s, nmE, e1, e100, within_t k1 k2 (by omega), if_neg (by decide), v1, Option.bind_some, r0_4, hS.1, hS.2.1, q1, Option.bind_some, e0, w1, Option.bind_some, x1, Option.bind_some, nmE, bitCount_eq, fb_ct_cong (fun i _ => v2 i), ct_lr hlr.1 hlr.2 64 gp.2.1]
  exact ⟨_, rfl, x2, FrC_trans (FrC_of hf (by simp)) x3⟩
theorem cp_shadow_f {b : Nat} {q x : Int32} {σ : Sto} {D : Desk} (hc : CR b σ D) (G : GD D) (hn : ¬ ((∃ p, p < dN D ∧ q = nI p) ∧ ∃ k, 1 ≤ k ∧ k ≤ 100 ∧ x = nI k)) : F_X4_shadow (ΛE b) σ b q x = some (-1, σ) := by
  unfold F_X4_shadow
  by_cases c1 : ∃ p, p < dN D ∧ q = nI p
  · have c2 : ¬ ∃ k, 1 ≤ k ∧ k ≤ 100 ∧ x = nI k := fun c2 => hn ⟨c1, c2⟩
    obtain ⟨p, hp, rfl⟩ := c1
    rw [find_t hc G.1 hp, Option.bind_some, oc_s, nmE, e1, e100, within_f (by omega) c2 (by omega), if_pos nI_0]
  · rw [find_f hc G.1 c1, Option.bind_some, oc_n]
-- count
def inkP (P : PG) : Nat := fb_sm (fun y => fb_ct (fun x => P.2.2 x y) 64) P.2.1
def cntI (D : Desk) (x : Int32) : Int32 := if x = 0 then nI (dN D) else if x = 1 then nI (dK D) else if x = 2 then nI (inkP (dL D)) else if x = 3 then nI (dM D) else -1
theorem cp_count {b : Nat} {x : Int32} {σ : Sto} {D : Desk} (h : CR b σ D) (G : GD D) : F_X4_count (ΛE b) σ b x = some (cntI D x) := by
  unfold F_X4_count cntI
  rw [h.1, r0_2, h.2.2.2.1, r0_4, ink_eq (r60_2 b) (l61 b) (by omega) h.2.2.2.2.2.1, Option.bind_some, h.2.2.2.2.2.2.1]
  by_cases c0 : x = 0
  · rw [if_pos c0, if_pos c0]
  · rw [if_neg c0, if_neg c0]
    by_cases c1 : x = 1
    · rw [if_pos c1, if_pos c1]
    · rw [if_neg c1, if_neg c1]
      by_cases c2 : x = 2
      · rw [if_pos c2, if_pos c2]; rfl
      · rw [if_neg c2, if_neg c2]
        by_cases c3 : x = 3
        · rw [if_pos c3, if_pos c3]
        · rw [if_neg c3, if_neg c3]
-- told
theorem cp_told_t {b i : Nat} {σ : Sto} {D : Desk} (h : CR b σ D) (G : GD D) (hi : i < dM D) : F_X4_told (ΛE b) σ b (nI i) = some (some (nI (dV D i))) := by
  have g := G.2.2.2.2.2.2.2.1
  unfold F_X4_told
  rw [h.2.2.2.2.2.2.1, nmE, e0, e1, within0_t hi (by omega), if_neg (by decide), r0_6, l64, if_pos (gd_nI (by omega) (by omega)), nI_cl (by omega), h.2.2.2.2.2.2.2 i hi]
theorem cp_told_f {b : Nat} {x : Int32} {σ : Sto} {D : Desk} (h : CR b σ D) (G : GD D) (hn : ¬ ∃ i, i < dM D ∧ x = nI i) : F_X4_told (ΛE b) σ b x = some none := by
  have g := G.2.2.2.2.2.2.2.1
  unfold F_X4_told
  rw [h.2.2.2.2.2.2.1, nmE, e0, e1, within0_f (by omega) hn, if_pos rfl]
-- listed
def rkP (L : PG) (x y : Nat) : Nat := fb_sm (fun y => fb_ct (fun x => L.2.2 x y) 64) y + fb_ct (fun x => L.2.2 x y) x
theorem bitAfter_eq {v : Int64} {j : Nat} (hj : j < fb_ct (tb v) 64) : ∃ x, x < 64 ∧ tb v x = true ∧ fb_ct (tb v) x = j ∧ F_X4_bitAfter v (nI j) = some (nI x) := by
  have hle := fb_ct_le (tb v) 64
  have low : ∀ (u : Int64) (i : Nat), i < fb_ct (tb v) 64 → (∀ x, tb u x = (tb v x && decide (i ≤ fb_ct (tb v) x))) → ∃ x, x < 64 ∧ tb v x = true ∧ fb_ct (tb v) x = i ∧ lowB u x := by
    intro u i hi hu
    obtain ⟨x, x1, x2, x3⟩ := fb_ct_kth hi
    refine ⟨x, x1, x2, x3, fun y hy => ?_, fun _ => by rw [hu, x2, x3]; simp, by omega⟩
    rw [hu]
    cases hv : tb v y with
    | false => rfl
    | true =>
      have m1 := fb_ct_mono (tb v) (show y + 1 ≤ x by omega)
      rw [fb_ct_succ, hv, if_pos rfl] at m1
      rw [decide_eq_false (by omega)]; rfl
  unfold F_X4_bitAfter
  obtain ⟨u, h1, h2⟩ := iter_for (f := bd_X4_bitAfter_5 (nI j)) j (fun i s => s.2 = nI i ∧ ∀ x, tb s.1 x = (tb v x && decide (i ≤ fb_ct (tb v) x))) (fun u => ∀ x, tb u x = (tb v x && decide (j ≤ fb_ct (tb v) x))) (s := (v, (0 : Int32))) (n := FU)
    (by
      rintro i ⟨u, k⟩ hi ⟨c1, c2⟩
      simp only at c1 c2
      subst c1
      obtain ⟨x, x1, x2, x3, x4⟩ := low u i (by omega) c2
      unfold bd_X4_bitAfter_5
      simp (disch := omega) only [e0, e1, e2, e3, e4, e7, e8, e9, e10, e12, e16, e20, e63, e64, e100, e4096, nI_add, pk_mul, nI_sb, le_t, le_f, lt_t, lt_f, nI_cl, gd_nI, ↓reduceIte, nmE, Option.bind_some, Option.bind_eq_bind]
      refine ⟨_, rfl, rfl, fun y => ?_⟩
      simp only
      rw [clear_low x4 x1, c2]
      cases hv : tb v y with
      | false => rfl
      | true =>
        simp only [Bool.true_and]
        by_cases e : y = x
        · subst e
          rw [x3]
          simp
        · have : fb_ct (tb v) y ≠ i := fun q => e (fb_ct_kth_one hv x2 (q.trans x3.symm))
          simp only [e, ne_eq, not_false_eq_true, decide_true, Bool.and_true]
          congr 1
          apply propext
          omega)
    (by
      rintro ⟨u, k⟩ ⟨c1, c2⟩
      simp only at c1 c2
      subst c1
      unfold bd_X4_bitAfter_5
      simp (disch := omega) only [nI_add, pk_mul, nI_sb, le_t, le_f, lt_t, lt_f, nI_cl, gd_nI, ↓reduceIte, nmE, Option.bind_some, Option.bind_eq_bind]
      exact ⟨_, rfl, c2⟩)
    ⟨rfl, fun x => by simp⟩ (by show _ < 5000; omega)
  obtain ⟨x, x1, x2, x3, x4⟩ := low u j hj h2
  rw [h1, Option.bind_some, nmE, lowestBit_eq x4]
  exact ⟨x, x1, x2, x3, rfl⟩
theorem cp_listed_t {b i : Nat} {σ : Sto} {D : Desk} (h : CR b σ D) (G : GD D) (hi : i < inkP (dL D)) :
    ∃ x y, (dL D).2.2 x y = true ∧ rkP (dL D) x y = i ∧ F_X4_listed (ΛE b) σ b (nI i) (nI 0) = some (some (nI x)) ∧ F_X4_listed (ΛE b) σ b (nI i) (nI 1) = some (some (nI y)) := by
  have gl := G.2.2.2.2.2.2.1
  have hS := h.2.2.2.2.2.1
  obtain ⟨s1, s2, s3, s4, s5, s6⟩ := hS
  generalize hL : dL D = L at *
  have hb : inkP L ≤ L.2.1 * 64 := fb_sm_bound (fun k _ => fb_ct_le _ _)
  have hh : 0 < L.2.1 := by
    rcases Nat.eq_zero_or_pos L.2.1 with q | q
    · rw [q] at hb; omega
    · exact q
  have hct : ∀ y, y < 64 → fb_ct (tb (σ.2 (b + 61) y)) 64 = fb_ct (fun x => L.2.2 x y) 64 := fun y hy => fb_ct_cong (fun x _ => s5 y hy x)
  have loop : ∀ w, ∃ e, iter (bd_X4_listed_41 (ΛE b) σ b w) FU (nI i, (0 : Int32)) = some e ∧ ∃ y a, e = (nI a, nI y) ∧ y < L.2.1 ∧ fb_sm (fun y => fb_ct (fun x => L.2.2 x y) 64) y + a = i ∧ a < fb_ct (fun x => L.2.2 x y) 64 := by
    intro w
    refine iter_mu (fun s => ∃ y a, s = (nI a, nI y) ∧ y < L.2.1 ∧ fb_sm (fun y => fb_ct (fun x => L.2.2 x y) 64) y + a = i) (fun s => 64 - s.2.toNatClampNeg) _ ?_ FU (nI i, (0 : Int32)) ⟨0, i, rfl, hh, by simp [fb_sm]⟩ (by show _ < 5000; omega)
    rintro s ⟨y, a, rfl, hy, hya⟩
    unfold bd_X4_listed_41
    simp (disch := omega) only [r0_4, s2, r60_2, l61, e0, e1, e2, e3, e4, e7, e8, e9, e10, e12, e16, e20, e63, e64, e100, e4096, nI_add, pk_mul, nI_sb, le_t, le_f, lt_t, lt_f, nI_cl, gd_nI, ↓reduceIte, nmE, Option.bind_some, Option.bind_eq_bind, bitCount_eq, hct]
    by_cases c1 : L.2.1 - 1 ≤ y
    · rw [if_pos (nI_le c1 (by omega))]
      refine Or.inr ⟨_, rfl, y, a, rfl, hy, hya, ?_⟩
      have : inkP L = fb_sm (fun y => fb_ct (fun x => L.2.2 x y) 64) (y + 1) := by unfold inkP; rw [show L.2.1 = y + 1 by omega]
      rw [fb_sm_succ] at this
      omega
    · rw [if_neg (nI_ge (by omega) (by omega))]
      have hc := fb_ct_le (fun x => L.2.2 x y) 64
      by_cases c2 : a < fb_ct (fun x => L.2.2 x y) 64
      · rw [if_pos (nI_lt c2 (by omega))]
        exact Or.inr ⟨_, rfl, y, a, rfl, hy, hya, c2⟩
      · rw [if_neg (nI_nlt (by omega) (by omega)), nI_sb (by omega)]
        refine Or.inl ⟨_, rfl, ⟨y + 1, a - fb_ct (fun x => L.2.2 x y) 64, rfl, by omega, ?_⟩, ?_⟩
        · rw [fb_sm_succ]; omega
        · show 64 - (nI (y + 1)).toNatClampNeg < 64 - y
          rw [nI_cl (by omega)]; omega
  have hin : F_X2_ink (ΛE b) σ (rfA (ΛE b) b 4) = some (nI (inkP L)) := by
    rw [r0_4]; exact ink_eq (r60_2 b) (l61 b) (by omega) ⟨s1, s2, s3, s4, s5, s6⟩
  obtain ⟨e, l1, y, a, l2, l3, l4, l5⟩ := loop (nI 0)
  obtain ⟨e', m1, y', a', m2, m3, m4, m5⟩ := loop (nI 1)
  have same : y' = y ∧ a' = a := by
    have key : ∀ {u v c d : Nat}, u < v → fb_sm (fun y => fb_ct (fun x => L.2.2 x y) 64) u + c = i → c < fb_ct (fun x => L.2.2 x u) 64 → fb_sm (fun y => fb_ct (fun x => L.2.2 x y) 64) v + d = i → False := by
      intro u v c d huv h1 h2 h3
      have := fb_sm_part (fun y => fb_ct (fun x => L.2.2 x y) 64) huv
      omega
    rcases Nat.lt_trichotomy y y' with q | q | q
    · exact (key q l4 l5 m4).elim
    · subst q; exact ⟨rfl, by omega⟩
    · exact (key q m4 m5 l4).elim
  obtain ⟨rfl, rfl⟩ := same
  obtain ⟨x, x1, x2, x3, x4⟩ := bitAfter_eq (v := σ.2 (b + 61) y') (j := a') (by rw [hct y' (by omega)]; exact l5)
  refine ⟨x, y', ?_, ?_, ?_, ?_⟩
  · rw [← s5 y' (by omega)]; exact x2
  · unfold rkP
    rw [← l4, ← x3]
    congr 1
    exact fb_ct_cong (fun z _ => (s5 y' (by omega) z).symm)
  · unfold F_X4_listed
    rw [nmE, hin, Option.bind_some, e0, e1, within_t (by omega) (by omega) (by omega), if_neg (by decide), nmE, within0_t hi (by omega), if_neg (by decide)]
    rw [show iter (bd_X4_listed_41 (ΛE b) σ b (nI 0)) FU (nI i, nI 0) = some e from l1, Option.bind_some, l2]
    simp only
    rw [if_neg (by decide), r0_4, r60_2, l61, if_pos (gd_nI (by omega) (by omega)), nI_cl (by omega), x4]
    rfl
  · unfold F_X4_listed
    rw [nmE, hin, Option.bind_some, e0, e1, within_t (by omega) (by omega) (by omega), if_neg (by decide), nmE, within0_t hi (by omega), if_neg (by decide)]
    rw [show iter (bd_X4_listed_41 (ΛE b) σ b (nI 1)) FU (nI i, nI 0) = some e' from m1, Option.bind_some, m2]
    rw [if_pos rfl]
theorem cp_listed_f {b : Nat} {x z : Int32} {σ : Sto} {D : Desk} (h : CR b σ D) (G : GD D) (hn : ¬ ((∃ i, i < inkP (dL D) ∧ x = nI i) ∧ (z = 0 ∨ z = 1))) : F_X4_listed (ΛE b) σ b x z = some none := by
  have gl := G.2.2.2.2.2.2.1
  unfold okL at gl
  have hb : inkP (dL D) ≤ (dL D).2.1 * 64 := fb_sm_bound (fun k _ => fb_ct_le _ _)
  unfold F_X4_listed jp_X4_listed_26
  rw [nmE, r0_4, ink_eq (r60_2 b) (l61 b) (by omega) h.2.2.2.2.2.1, Option.bind_some]
  by_cases c1 : ∃ w, 0 ≤ w ∧ w ≤ 1 ∧ z = nI w
  · obtain ⟨w, w1, w2, rfl⟩ := c1
    rw [e0, e1, within_t w1 w2 (by omega), if_neg (by decide), nmE]
    have c2 : ¬ ∃ i, i < inkP (dL D) ∧ x = nI i := fun c2 => hn ⟨c2, by
      rcases (show w = 0 ∨ w = 1 by omega) with q | q
      · subst q; exact Or.inl rfl
      · subst q; exact Or.inr rfl⟩
    rw [show (nI (fb_sm (fun y => fb_ct (fun x => (dL D).2.2 x y) 64) (dL D).2.1)) = nI (inkP (dL D)) from rfl, within0_f (by omega) c2, if_pos rfl]
  · rw [e0, e1, within_f (by omega) c1 (by omega), if_pos rfl]
-- box
def fstC (P : PG) : Nat := fa_first (colB P) 64
def fstR (P : PG) : Nat := fa_first (rowB P) 64
def lstC (P : PG) : Nat := topB (colB P) 64
theorem low_first {v : Int64} {p : Nat → Bool} (h : ∀ i, tb v i = p i) : lowB v (fa_first p 64) := by
  refine ⟨fun j hj => ?_, fun hk => ?_, fa_first_le p 64⟩
  · rw [h]; exact fa_first_no p 64 j hj
  · rw [h]; exact fa_first_yes p 64 hk
theorem first_lt {p : Nat → Bool} {n i : Nat} (hi : i < n) (h : p i = true) : fa_first p n ≤ i := by
  rcases Nat.lt_or_ge i (fa_first p n) with q | q
  · have := fa_first_no p n i q
    rw [this] at h; cases h
  · exact q
theorem top_gt {p : Nat → Bool} {n i : Nat} (hi : i < n) (h : p i = true) : i < topB p n := by
  rcases Nat.lt_or_ge i (topB p n) with q | q
  · exact q
  · have := topB_gt p n i q hi
    rw [this] at h; cases h
theorem box_in {P : PG} (hP : okL P) {x y : Nat} (h : P.2.2 x y = true) : fstC P ≤ x ∧ x < lstC P ∧ fstR P ≤ y ∧ y < botP P := by
  have h1 := hP.2.2 x y h
  have h2 := hP.1
  have h3 := hP.2.1
  exact ⟨first_lt (by omega) (colB_of hP h), top_gt (by omega) (colB_of hP h), first_lt (by omega) (rowB_of hP h), bot_gt hP h⟩
theorem box_bd {P : PG} (hP : okL P) (h : hasP P) : fstC P < lstC P ∧ lstC P ≤ P.1 ∧ fstR P < botP P ∧ botP P ≤ P.2.1 := by
  obtain ⟨x, y, h⟩ := h
  have h1 := box_in hP h
  refine ⟨by omega, ?_, by omega, bot_le hP⟩
  rcases Nat.eq_zero_or_pos (lstC P) with q | q
  · omega
  · obtain ⟨z, z1, z2⟩ := anyB_iff.mp (topB_is (colB P) 64 q)
    have := (hP.2.2 _ _ z2).1
    unfold lstC at *
    omega
def boxN (P : PG) (w : Nat) : Nat := if w = 0 then fstC P else if w = 1 then fstR P else if w = 2 then lstC P - 1 else botP P - 1
theorem cols_eq {b p : Nat} {σ : Sto} {P : PG} (hp : p < 8) (hS : Sh σ (b + (2 + 2 * p)) (b + (3 + 2 * p)) 64 P) : ∃ v, F_X2_inkedColumns (ΛE b) σ (b + (2 + 2 * p)) = some v ∧ F_X4_lowestBit v = nI (fstC P) ∧ F_X4_highestBit v = some (nI (lstC P) - 1) := by
  obtain ⟨v, v1, v2⟩ := inkedColumns_eq (rPr hp b) (lP hp b) (by omega) hS
  exact ⟨v, v1, lowestBit_eq (low_first v2), by rw [highestBit_eq, topB_cong (fun k _ => v2 k)]; rfl⟩
theorem rows_eq {b p : Nat} {σ : Sto} {P : PG} (hp : p < 8) (hS : Sh σ (b + (2 + 2 * p)) (b + (3 + 2 * p)) 64 P) : ∃ v, F_X2_inkedRows (ΛE b) σ (b + (2 + 2 * p)) = some v ∧ F_X4_lowestBit v = nI (fstR P) ∧ F_X4_highestBit v = some (nI (botP P) - 1) := by
  obtain ⟨v, v1, v2⟩ := inkedRows_eq (rPr hp b) (lP hp b) (by omega) hS
  exact ⟨v, v1, lowestBit_eq (low_first v2), by rw [highestBit_eq, topB_cong (fun k _ => v2 k)]; rfl⟩
theorem cp_box_t {b p w : Nat} {σ : Sto} {D : Desk} (h : CR b σ D) (G : GD D) (hp : p < dN D) (hi : hasP (dP D p)) (hw : w < 4) : F_X4_box (ΛE b) σ b (nI p) (nI w) = some (nI (boxN (dP D p) w)) := by
  have g1 := G.1
  have gp := okP_L (G.2.1 p hp)
  have hS := h.2.1 p hp
  obtain ⟨v, v1, v2, v3⟩ := cols_eq (show p < 8 by omega) hS
  obtain ⟨u, u1, u2, u3⟩ := rows_eq (show p < 8 by omega) hS
  have bb := box_bd gp hi
  unfold F_X4_box
  rw [find_t h g1 hp, Option.bind_some, oc_s, hasInk_t (rPr (by omega) b) (lP (by omega) b) (by omega) hS hi, Option.bind_some, if_neg (by decide), v1, u1]
  simp only [Option.bind_some, v2, v3, u2, u3, nmE, nI_subo (show 0 < lstC (dP D p) by omega), nI_subo (show 0 < botP (dP D p) by omega)]
  unfold boxN
  rcases (show w = 0 ∨ w = 1 ∨ w = 2 ∨ w = 3 by omega) with q | q | q | q
  · subst q; rw [if_pos (by decide), if_pos rfl]
  · subst q; rw [if_neg (by decide), if_pos (by decide), if_neg (by decide), if_pos rfl]
  · subst q; rw [if_neg (by decide), if_neg (by decide), if_pos (by decide), if_neg (by decide), if_neg (by decide), if_pos rfl]
  · subst q; rw [if_neg (by decide), if_neg (by decide), if_neg (by decide), if_pos (by decide), if_neg (by decide), if_neg (by decide), if_neg (by decide)]
theorem cp_box_f {b : Nat} {q x : Int32} {σ : Sto} {D : Desk} (hc : CR b σ D) (G : GD D) (hn : ¬ ∃ p w, p < dN D ∧ hasP (dP D p) ∧ w < 4 ∧ q = nI p ∧ x = nI w) : F_X4_box (ΛE b) σ b q x = some (-1) := by
  unfold F_X4_box
  by_cases c1 : ∃ p, p < dN D ∧ q = nI p
  · obtain ⟨p, hp, rfl⟩ := c1
    have g1 := G.1
    have hS := hc.2.1 p hp
    rw [find_t hc g1 hp, Option.bind_some, oc_s]
    by_cases c2 : hasP (dP D p)
    · rw [hasInk_t (rPr (by omega) b) (lP (by omega) b) (by omega) hS c2, Option.bind_some, if_neg (by decide), if_neg (show ¬ x = 0 from fun e => hn ⟨p, 0, hp, c2, by omega, rfl, e.trans e0⟩), if_neg (show ¬ x = 1 from fun e => hn ⟨p, 1, hp, c2, by omega, rfl, e.trans e1⟩), if_neg (show ¬ x = 2 from fun e => hn ⟨p, 2, hp, c2, by omega, rfl, e.trans e2⟩), if_neg (show ¬ x = 3 from fun e => hn ⟨p, 3, hp, c2, by omega, rfl, e.trans e3⟩)]
    · rw [hasInk_f (rPr (by omega) b) (lP (by omega) b) (by omega) hS c2, Option.bind_some, if_pos nI_0]
  · rw [find_f hc G.1 c1, Option.bind_some, oc_n]
