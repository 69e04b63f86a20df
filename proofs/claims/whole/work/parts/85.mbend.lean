/-! THE REFERENCE'S CALLS, going on: bend, back -/
def mxB (P : PG) : Nat → Nat
  | 0 => 0
  | k + 1 => max (mxB P k) (footP P k)
theorem mxB_le {P : PG} (hP : okL P) : ∀ k, mxB P k ≤ botP P
  | 0 => Nat.zero_le _
  | k + 1 => by
    have h1 := mxB_le hP k
    have h2 := foot_le_bot hP k
    simp only [mxB]
    omega
theorem mxB_ge {P : PG} : ∀ k j, j < k → footP P j ≤ mxB P k
  | 0, _, h => absurd h (Nat.not_lt_zero _)
  | k + 1, j, h => by
    simp only [mxB]
    by_cases e : j = k
    · subst e; omega
    · have := mxB_ge (P := P) k j (by omega)
      omega
theorem mxB_bot {P : PG} (hP : okL P) : mxB P ((P.1 + 7) / 8) = botP P := by
  have h1 := mxB_le hP ((P.1 + 7) / 8)
  rcases Nat.eq_zero_or_pos (botP P) with q | q
  · omega
  · obtain ⟨x, x1, x2⟩ := anyB_iff.mp (topB_is (rowB P) 64 q)
    have hx := (hP.2.2 _ _ x2).1
    have h2 := mxB_ge (P := P) ((P.1 + 7) / 8) (x / 8) (by omega)
    have h3 := foot_gt hP x2
    unfold botP at *
    omega
theorem bot64 {P : PG} : botP P ≤ 64 := topB_le _ _
theorem foot64 {P : PG} (hP : okL P) (s : Nat) : footP P s ≤ 64 := by
  have := topB_le (stepB P s) P.2.1
  have := hP.2.1
  unfold footP
  omega
theorem mxm1 {a f : Nat} (ha : a ≤ 64) (hf : f ≤ 64) (h0 : 0 < f) : mx (nI a - 1) (nI (f - 1)) = nI (max a f) - 1 := by
  rcases Nat.eq_zero_or_pos a with q | q
  · subst q
    unfold mx
    rw [if_pos, Nat.max_eq_right (by omega), nI_subo h0]
    rw [lt32, show (nI 0 - 1 : Int32).toInt = -1 by decide, nI_ti (by omega)]
    omega
  · rw [nI_subo q, nI_subo (by omega), mx_nI (by omega) (by omega)]
    exact congrArg nI (by omega)
theorem lowest_eq {b p : Nat} {σ : Sto} {P : PG} (hp : p < 8) (mp : MP b σ p P) (hP : okP P) : iter (bd_X5_bend_24 (ΛE b) σ (b + 65) (nI p)) FU ((-1 : Int32), (0 : Int32)) = some (nI (botP P) - 1) := by
  have gl := okP_L hP
  have gp := hP
  unfold okP at gp
  rw [← mxB_bot gl]
  refine run_loop (fun k => (nI (mxB P k) - 1, nI k)) _ ((P.1 + 7) / 8) (by omega) rfl ?_ ?_
  · intro k hk
    have hm := mxB_le gl k
    have hb := bot64 (P := P)
    have hf := foot64 gl k
    unfold bd_X5_bend_24 jp_X5_bend_58
    rw [stepsM_eq hp mp (by omega), Option.bind_some]
    simp only
    rw [if_neg (nI_ge hk (by omega)), footM_eq hp mp hP hk, Option.bind_some]
    simp only [nmE, nI_1]
    unfold footI
    show (if _ then _ else _) = some (Sum.inl (nI (max (mxB P k) (footP P k)) - 1, nI (k + 1)))
    by_cases c : footP P k = 0
    · rw [if_pos c, if_pos rfl, c, Nat.max_zero]
    · rw [if_neg c, if_neg (fun q => by
        rw [show (100 : Int32) = nI 100 from rfl] at q
        have := (nI_eq (by omega) (by omega)).mp q
        omega), mxm1 (by omega) hf (by omega)]
  · unfold bd_X5_bend_24
    rw [stepsM_eq hp mp (by omega), Option.bind_some]
    simp only
    rw [if_pos (nI_le (by omega) (by omega))]
/-- one column of a step -/
theorem bendCol {b p s x : Nat} {σ σ0 : Sto} {P : PG} {w : Int32} (hp : p < 8) (mp : MP b σ0 p P) (hP : okP P) (hx : x < P.1) (hxs : x / 8 = s) (hf : 0 < footP P s) (hA : AR σ (b + 69) 0 (fun a c => decide (a < x) && (bendP P).2.2 a c)) (hM : MF b X0 σ0 σ) :
    ∃ τ, iter (bd_X5_bend_151 (ΛE b) (b + 65) (nI p) (nI (botP P - 1)) w (nI s) (nI (footP P s - 1)) (nI x)) FU ((0 : Int32), σ) = some τ ∧ AR τ (b + 69) 0 (fun a c => decide (a < x + 1) && (bendP P).2.2 a c) ∧ MF b X0 σ0 τ := by
  have gl := okP_L hP
  have gp := hP
  unfold okP at gp
  have hb := bot_le gl
  have hfb := foot_le_bot gl s
  have hT : ∀ c, (bendP P).2.2 x c = (decide (botP P - footP P s ≤ c) && P.2.2 x (c - (botP P - footP P s))) := fun c => by
    show (decide (botP P - footP P (x / 8) ≤ c) && P.2.2 x (c - (botP P - footP P (x / 8)))) = _
    rw [hxs]
  have hTin : ∀ a c, (bendP P).2.2 a c = true → a < P.1 ∧ c < P.2.1 := fun a c q => bend_in gl q
  have hTc : ∀ c, (bendP P).2.2 x c = true → c < botP P := fun c q => by
    rw [hT, Bool.and_eq_true, decide_eq_true_eq] at q
    have := foot_gt gl q.2
    rw [hxs] at this
    omega
  generalize (bendP P).2.2 = T at *
  exact iter_for (f := bd_X5_bend_151 (ΛE b) (b + 65) (nI p) (nI (botP P - 1)) w (nI s) (nI (footP P s - 1)) (nI x)) (footP P s) (fun y z => z.1 = nI y ∧ AR z.2 (b + 69) 0 (fun a c => decide (a < x ∨ (a = x ∧ c < y + (botP P - footP P s))) && T a c) ∧ MF b X0 σ0 z.2)
    (fun τ => AR τ (b + 69) 0 (fun a c => decide (a < x + 1) && T a c) ∧ MF b X0 σ0 τ) (s := ((0 : Int32), σ)) (n := FU)
    (by
      rintro y ⟨j, υ⟩ hy ⟨d1, d2, d3⟩
      simp only at d1 d2 d3
      subst d1
      have mu := MP_MF mp d3 (fun q => q)
      unfold bd_X5_bend_151
      simp (disch := omega) only [lt_f, ↓reduceIte, has_eq hp mu (show x < 64 by omega) (show y < 64 by omega), Option.bind_some, r65_5, l69, nI_add, nI_sb, e64, pk_mul, gd_nI, nI_cl, nmE, nar_bI, nI_1]
      refine ⟨_, rfl, rfl, ?_, MF_trans d3 (MF_a (Or.inl rfl))⟩
      simp only
      rw [show (y + (botP P - 1) - (footP P s - 1)) * 64 + x = 0 + (64 * (y + (botP P - footP P s)) + x) by omega]
      refine AR_ext (AR_set (v := P.2.2 x y) d2 (show x < 64 by omega) (show y + (botP P - footP P s) < 64 by omega)) (fun a c _ _ => ?_)
      by_cases e : a = x ∧ c = y + (botP P - footP P s)
      · rw [if_pos e, decide_eq_true (show a < x ∨ (a = x ∧ c < y + 1 + (botP P - footP P s)) by omega), Bool.true_and, e.1, hT, e.2, decide_eq_true (show botP P - footP P s ≤ y + (botP P - footP P s) by omega), show y + (botP P - footP P s) - (botP P - footP P s) = y by omega]
        rfl
      · rw [if_neg e]
        congr 1
        rw [decide_eq_decide]
        omega)
    (by
      rintro ⟨j, υ⟩ ⟨d1, d2, d3⟩
      simp only at d1 d2 d3
      subst d1
      unfold bd_X5_bend_151
      simp (disch := omega) only [lt_t, ↓reduceIte]
      refine ⟨_, rfl, AR_ext d2 (fun a c _ _ => ?_), d3⟩
      cases hg : T a c with
      | false => simp
      | true =>
        simp only [Bool.and_true]
        rw [decide_eq_decide]
        constructor
        · intro q
          by_cases e : a = x
          · subst e
            have := hTc c hg
            omega
          · omega
        · omega)
    ⟨rfl, AR_ext hA (fun a c _ _ => by
      cases hg : T a c with
      | false => simp
      | true =>
        simp only [Bool.and_true]
        rw [decide_eq_decide]
        constructor
        · rintro (q | q)
          · exact q
          · rw [q.1, hT, Bool.and_eq_true, decide_eq_true_eq] at hg
            omega
        · omega), hM⟩ (by show _ < 5000; omega)
theorem mp_bend_t {b p : Nat} {σ : Sto} {D : Desk} (h : MR b σ D) (G : GD D) (hp : p < dN D) :
    ∃ τ, F_X5_bend (ΛE b) σ (b + 65) (nI p) = some (nI (wentP (dP D p)), τ) ∧ MR b τ (setP (pushD D p 0) p (bendP (dP D p))) ∧ KF b σ τ := by
  obtain ⟨h1, k1, -⟩ := mr0 (v := 0) h
  have gp := G.2.1 p hp
  have gp0 := gp
  have gl := okP_L gp
  have g1 := G.1
  have hp8 : p < 8 := by omega
  unfold okP at gp
  unfold F_X5_bend
  rw [nmE]
  generalize stI σ (b + 65) 0 0 = σ1 at *
  obtain ⟨τ, q1, q2, q3, -⟩ := changing_eq h1 G hp
  have mq : MP b τ p (dP D p) := q2.2.1 p hp
  obtain ⟨τ1, w1, w2, w3⟩ := blank_eq (b := b) (σ := τ)
  rw [nmE, isPage_t h1 g1 hp, if_neg (by decide), q1, Option.bind_some, lowest_eq hp8 mq gp0, Option.bind_some, w1, Option.bind_some]
  generalize hPP : dP D p = P at *
  have hbl := bot_le gl
  obtain ⟨z, z1, z2, z3, z4⟩ := iter_for (f := bd_X5_bend_74 (ΛE b) (b + 65) (nI p) (nI (botP P) - 1)) ((P.1 + 7) / 8)
    (fun k s => s.1 = nI (fb_ct (wentB P) k) ∧ s.2.1 = nI k ∧ AR s.2.2 (b + 69) 0 (fun a c => decide (a < 8 * k) && (bendP P).2.2 a c) ∧ MF b X0 τ s.2.2)
    (fun z => z.1 = nI (wentP P) ∧ AR z.2 (b + 69) 0 (bendP P).2.2 ∧ MF b X0 τ z.2) (s := ((0 : Int32), (0 : Int32), τ1)) (n := FU)
    (by
      rintro k ⟨m1, i1, τ2⟩ hk ⟨c1, c2, c3, c4⟩
      simp only at c1 c2 c3 c4
      subst c1 c2
      have mt := MP_MF mq c4 (fun q => q)
      have hfl := foot64 gl k
      have hfb := foot_le_bot gl k
      unfold bd_X5_bend_74
      rw [stepsM_eq hp8 mt (by omega), Option.bind_some]
      simp only
      rw [if_neg (nI_ge hk (by omega)), footM_eq hp8 mt gp0 hk, Option.bind_some]
      unfold footI
      by_cases cf : footP P k = 0
      · rw [if_pos cf, if_pos rfl]
        unfold jp_X5_bend_197
        rw [nmE, nI_1]
        refine ⟨_, rfl, ?_, rfl, AR_ext c3 (fun a c _ _ => ?_), c4⟩
        · simp only [fb_ct_succ]
          rw [show wentB P k = false by unfold wentB; rw [cf]; rfl]
          rfl
        · cases hg : (bendP P).2.2 a c with
          | false => simp
          | true =>
            have hg : (decide (botP P - footP P (a / 8) ≤ c) && P.2.2 a (c - (botP P - footP P (a / 8)))) = true := hg
            simp only [Bool.and_eq_true, decide_eq_true_eq] at hg
            have h1 := foot_gt gl hg.2
            have hne : a / 8 ≠ k := by
              intro e
              rw [e] at h1
              omega
            simp only [Bool.and_true]
            rw [decide_eq_decide]
            omega
      · rw [if_neg cf, if_neg (fun q => by
          rw [show (100 : Int32) = nI 100 from rfl] at q
          have := (nI_eq (by omega) (by omega)).mp q
          omega)]
        have cols : ∀ w, ∃ υ, iter (bd_X5_bend_124 (ΛE b) (b + 65) (nI p) (nI (botP P - 1)) w (nI k) (nI (footP P k - 1))) FU (nI (8 * k), τ2) = some υ ∧ AR υ (b + 69) 0 (fun a c => decide (a < 8 * (k + 1)) && (bendP P).2.2 a c) ∧ MF b X0 τ υ := by
          intro w
          refine iter_for (f := bd_X5_bend_124 (ΛE b) (b + 65) (nI p) (nI (botP P - 1)) w (nI k) (nI (footP P k - 1))) (min 8 (P.1 - 8 * k)) (fun j z => z.1 = nI (8 * k + j) ∧ AR z.2 (b + 69) 0 (fun a c => decide (a < 8 * k + j) && (bendP P).2.2 a c) ∧ MF b X0 τ z.2) _ ?_ ?_ (s := (nI (8 * k), τ2)) ⟨rfl, c3, c4⟩ (n := FU) (by show _ < 5000; omega)
          · rintro j ⟨i, υ⟩ hj ⟨d1, d2, d3⟩
            simp only at d1 d2 d3
            subst d1
            have mu := MP_MF mq d3 (fun q => q)
            obtain ⟨υ2, v1, v2, v3⟩ := bendCol (w := w) (s := k) (x := 8 * k + j) hp8 mq gp0 (by omega) (by omega) (by omega) d2 d3
            unfold bd_X5_bend_124
            simp (disch := omega) only [e8, pk_mul, nI_add, r65_2, l66, gd_nI, nI_cl, ↓reduceIte, mu.1, le_f, v1, Option.bind_some, nmE, nI_1]
            exact ⟨(_, υ2), rfl, rfl, v2, v3⟩
          · rintro ⟨i, υ⟩ ⟨d1, d2, d3⟩
            simp only at d1 d2 d3
            subst d1
            have mu := MP_MF mq d3 (fun q => q)
            have fin : AR υ (b + 69) 0 (fun a c => decide (a < 8 * (k + 1)) && (bendP P).2.2 a c) := AR_ext d2 (fun a c _ _ => by
              cases hg : (bendP P).2.2 a c with
              | false => simp
              | true =>
                have := (bend_in gl hg).1
                simp only [Bool.and_true]
                rw [decide_eq_decide]
                omega)
            unfold bd_X5_bend_124
            by_cases e3 : 8 * k + 8 ≤ 8 * k + min 8 (P.1 - 8 * k)
            · simp (disch := omega) only [e8, pk_mul, nI_add, le_t, ↓reduceIte]
              exact ⟨_, rfl, fin, d3⟩
            · simp (disch := omega) only [e8, pk_mul, nI_add, r65_2, l66, gd_nI, nI_cl, ↓reduceIte, mu.1, le_f, le_t]
              exact ⟨_, rfl, fin, d3⟩
        rw [nI_subo (by omega)]
        unfold jp_X5_bend_115 jp_X5_bend_197
        by_cases cw : footP P k < botP P
        · rw [if_neg (nI_ge (by omega) (by omega)), nmE, nmE, e8, pk_mul]
          obtain ⟨υ, v1, v2, v3⟩ := cols (nI (fb_ct (wentB P) k) + 1)
          rw [v1, Option.bind_some, nmE, nI_1, nI_1]
          refine ⟨_, rfl, ?_, rfl, v2, v3⟩
          simp only [fb_ct_succ]
          rw [show wentB P k = true by unfold wentB; rw [decide_eq_true (show 0 < footP P k by omega), decide_eq_true cw]; rfl]
          rfl
        · rw [if_pos (nI_le (by omega) (by omega)), nmE, nmE, e8, pk_mul]
          obtain ⟨υ, v1, v2, v3⟩ := cols (nI (fb_ct (wentB P) k) + 0)
          rw [v1, Option.bind_some, nmE, nI_1, e0, nI_add]
          refine ⟨_, rfl, ?_, rfl, v2, v3⟩
          simp only [fb_ct_succ]
          rw [show wentB P k = false by unfold wentB; rw [decide_eq_false cw, Bool.and_false]]
          rfl)
    (by
      rintro ⟨m1, i1, τ2⟩ ⟨c1, c2, c3, c4⟩
      simp only at c1 c2 c3 c4
      subst c1 c2
      have mt := MP_MF mq c4 (fun q => q)
      unfold bd_X5_bend_74
      rw [stepsM_eq hp8 mt (by omega), Option.bind_some]
      simp only
      rw [if_pos (nI_le (by omega) (by omega))]
      refine ⟨_, rfl, rfl, AR_ext c3 (fun a c _ _ => ?_), c4⟩
      cases hg : (bendP P).2.2 a c with
      | false => simp
      | true =>
        have := (bend_in gl hg).1
        rw [decide_eq_true (by omega)]; rfl)
    ⟨rfl, rfl, AR_ext w2 (fun a c _ _ => by simp), w3⟩ (by show _ < 5000; omega)
  have mt := MP_MF mq z4 (fun q => q)
  obtain ⟨υ, u1, u2, u3⟩ := becomes_eq (w := P.1) (h := P.2.1) hp8 z3
  rw [z1, Option.bind_some, r65_2, l66, if_pos (gd_nI (by omega) (by omega)), r65_3, l67, if_pos (gd_nI (by omega) (by omega)), nI_cl (by omega), mt.1, mt.2.1, u1, Option.bind_some, z2]
  exact ⟨_, rfl, MR_chg q2 (MF_trans (MF_mono z4 (fun q z => z.elim)) u3) u2, KF_trans k1 (KF_trans q3 (KF_trans (MF_KF z4) (MF_KF u3)))⟩
theorem mp_bend_f {b : Nat} {q : Int32} {σ : Sto} {D : Desk} (hc : MR b σ D) (G : GD D) (hn : ¬ ∃ p, p < dN D ∧ q = nI p) : F_X5_bend (ΛE b) σ (b + 65) q = some (-1, stI σ (b + 65) 0 0) := by
  obtain ⟨h1, k1, -⟩ := mr0 (v := 0) hc
  unfold F_X5_bend
  rw [nmE]
  generalize stI σ (b + 65) 0 0 = σ1 at *
  rw [nmE, isPage_f h1 G.1 hn, if_pos nI_0]
-- back
theorem mp_back_n {b : Nat} {σ : Sto} {D : Desk} (h : MR b σ D) (hk : dK D = 0) : F_X5_back (ΛE b) σ (b + 65) = some (-1, stI σ (b + 65) 0 0) := by
  obtain ⟨h1, k1, -⟩ := mr0 (v := 0) h
  unfold F_X5_back
  rw [nmE]
  generalize stI σ (b + 65) 0 0 = σ1 at *
  rw [h1.2.2.1, hk, if_pos nI_0]
theorem mp_back_t {b : Nat} {σ : Sto} {D : Desk} (h : MR b σ D) (G : GD D) (hk : 0 < dK D) : ∃ τ, F_X5_back (ΛE b) σ (b + 65) = some (nI (dH D 0).1, τ) ∧ MR b τ (backD D) ∧ KF b σ τ := by
  obtain ⟨h1, k1, -⟩ := mr0 (v := 0) h
  obtain ⟨g1, g2, g3, g4, g5, g6, g7, g8, g9⟩ := G
  have h0 := g5 0 hk
  unfold F_X5_back
  rw [nmE]
  generalize stI σ (b + 65) 0 0 = σ1 at *
  obtain ⟨a1, a2, a3, ⟨nw, n1, n2, n3⟩, a5, a6⟩ := h1
  have n0 := n3 0 hk
  rw [show (nw + 10 - 0) % 10 = nw by omega] at n0
  obtain ⟨c1, c2, c3, c4, c5⟩ := n0
  obtain ⟨p, P, m, hc⟩ : ∃ p P m, dH D 0 = (p, m, P) := ⟨_, _, _, rfl⟩
  rw [hc] at c1 c2 c3 c4 c5 h0
  simp only at c1 c2 c3 c4 c5 h0
  have hp8 : p < 8 := by omega
  simp (disch := omega) only [a3, eq_f, e0, ↓reduceIte, n2, r65_8, l70, r65_9, l71, r65_10, l72, r65_2, l66, r65_3, l67, gd_nI, nI_cl, nmE, c1, c2, stI_1, up2_ne, c3]
  generalize hσ2 : stI (stI σ1 (b + 66) p (nI P.1)) (b + 67) p (nI P.2.1) = σ2
  have mf2 : MF b (fun q => q = p) σ1 σ2 := by rw [← hσ2]; exact MF_trans MF_wide MF_high
  have m66 : σ2.1 (b + 66) p = nI P.1 := by rw [← hσ2]; simp (disch := omega) only [stI_1, up2_ne, up2_self]
  have m67 : σ2.1 (b + 67) p = nI P.2.1 := by rw [← hσ2]; simp (disch := omega) only [stI_1, up2_ne, up2_self]
  clear hσ2
  have v7 : σ2.1 (b + 65) 7 = nI nw := by rw [mf2.2.2.1 7 (by decide) (by decide)]; exact n2
  have v1 : σ2.1 (b + 65) 1 = nI (dN D) := by rw [mf2.2.2.1 1 (by decide) (by decide)]; exact a1
  have v6 : σ2.1 (b + 65) 6 = nI (dK D) := by rw [mf2.2.2.1 6 (by decide) (by decide)]; exact a3
  have v73 : σ2.1 (b + 73) nw = mdI m := by rw [mf2.2.1 (b + 73) (by omega)]; exact c4
  rw [show (nI 0, σ2) = ((0 : Int32), σ2) from rfl, run_loop (s0 := ((0 : Int32), σ2)) (fun k => (nI k, putI σ2 (b + 68) (p * 4096) k (fun k => bI (pk2 P.2.2 k)))) (putI σ2 (b + 68) (p * 4096) 4096 (fun k => bI (pk2 P.2.2 k))) 4096 (by omega) (by rw [putI_0]; rfl)]
  · rw [Option.bind_some]
    have mf3 : MF b (fun q => q = p) σ1 (putI σ2 (b + 68) (p * 4096) 4096 (fun k => bI (pk2 P.2.2 k))) := MF_trans mf2 (MF_inkp (by omega))
    have mp3 : MP b (putI σ2 (b + 68) (p * 4096) 4096 (fun k => bI (pk2 P.2.2 k))) p P := ⟨by rw [putI_ne (by omega)]; exact m66, by rw [putI_ne (by omega)]; exact m67, AR_put⟩
    have w7 : (putI σ2 (b + 68) (p * 4096) 4096 (fun k => bI (pk2 P.2.2 k))).1 (b + 65) 7 = nI nw := by rw [putI_ne (by omega)]; exact v7
    have w1 : (putI σ2 (b + 68) (p * 4096) 4096 (fun k => bI (pk2 P.2.2 k))).1 (b + 65) 1 = nI (dN D) := by rw [putI_ne (by omega)]; exact v1
    have w6 : (putI σ2 (b + 68) (p * 4096) 4096 (fun k => bI (pk2 P.2.2 k))).1 (b + 65) 6 = nI (dK D) := by rw [putI_ne (by omega)]; exact v6
    have w73 : (putI σ2 (b + 68) (p * 4096) 4096 (fun k => bI (pk2 P.2.2 k))).1 (b + 73) nw = mdI m := by rw [putI_ne (by omega)]; exact v73
    generalize putI σ2 (b + 68) (p * 4096) 4096 (fun k => bI (pk2 P.2.2 k)) = σ3 at *
    -- the last steps, with the number of pages as it then is
    have fin : ∀ (n : Nat) (σ4 : Sto), n ≤ dN D → σ4.2 = σ3.2 → (∀ c, c ≠ b + 65 → σ4.1 c = σ3.1 c) → (∀ k, k ≠ 1 → σ4.1 (b + 65) k = σ3.1 (b + 65) k) → σ4.1 (b + 65) 1 = nI n → ∃ τ, jp_X5_back_136 (ΛE b) σ4 (b + 65) (nI p) = some (nI p, τ) ∧ MR b τ (n, up1 (dP D) p P, dK D - 1, (dX D + 9) % 10, (fun i => dH D (i + 1)), dL D, dM D, dV D) ∧ KF b σ τ := by
      intro n σ4 hn e2 oc os o1
      have u7 : σ4.1 (b + 65) 7 = nI nw := by rw [os 7 (by decide)]; exact w7
      have u6 : σ4.1 (b + 65) 6 = nI (dK D) := by rw [os 6 (by decide)]; exact w6
      unfold jp_X5_back_136
      rw [u7, e10, nI_add, e1, nI_sb (by omega), pk_rem (by omega) (by omega) (by omega)]
      simp (disch := omega) only [nmE, stI_1, up2_nk, u6, nI_sb]
      have oc2 : ∀ c, c ≠ b + 65 → (stI (stI σ4 (b + 65) 7 (nI ((nw + 10 - 1) % 10))) (b + 65) 6 (nI (dK D - 1))).1 c = σ3.1 c := fun c hc => by
        rw [stI_1, up2_ne _ _ _ hc, stI_1, up2_ne _ _ _ hc]; exact oc c hc
      have os2 : ∀ k, k ≠ 1 → k ≠ 6 → k ≠ 7 → (stI (stI σ4 (b + 65) 7 (nI ((nw + 10 - 1) % 10))) (b + 65) 6 (nI (dK D - 1))).1 (b + 65) k = σ3.1 (b + 65) k := fun k k1 k6 k7 => by
        rw [stI_1, up2_nk _ _ _ k6, stI_1, up2_nk _ _ _ k7]; exact os k k1
      refine ⟨_, rfl, ⟨?_, fun q hq => ?_, ?_, ⟨(nw + 10 - 1) % 10, Nat.mod_lt _ (by omega), ?_, fun i hi => ?_⟩, ⟨?_, fun x y q => ?_⟩, ⟨?_, fun j hj => ?_⟩⟩, KF_trans k1 ⟨?_, fun c hc => ?_⟩⟩
      · rw [stI_1, up2_nk _ _ _ (by decide), stI_1, up2_nk _ _ _ (by decide)]; exact o1
      · have hq : q < n := hq
        have : MP b σ3 q (up1 (dP D) p P q) := by
          by_cases e : q = p
          · rw [e, up1_self]; exact mp3
          · rw [up1_ne _ _ e]; exact MP_MF (a2 q (by omega)) mf3 e
        exact ⟨by rw [oc2 _ (by omega)]; exact this.1, by rw [oc2 _ (by omega)]; exact this.2.1, AR_cong this.2.2 (fun k _ => by rw [oc2 _ (by omega)])⟩
      · rw [stI_1, up2_self]
      · rw [stI_1, up2_nk _ _ _ (by decide), stI_1, up2_self]
      · have hi : i < dK D - 1 := hi
        show MC b _ (((nw + 10 - 1) % 10 + 10 - i) % 10) (dH D (i + 1))
        rw [show ((nw + 10 - 1) % 10 + 10 - i) % 10 = (nw + 10 - (i + 1)) % 10 by omega]
        exact MC_fr (n3 (i + 1) (by omega)) (fun e e1 e2 => by rw [oc2 _ (by omega)]; exact mf3.2.1 e (by omega))
      · rw [os2 19 (by decide) (by decide) (by decide), mf3.2.2.1 19 (by decide) (by decide)]; exact a5.1
      · rw [oc2 _ (by omega), oc2 _ (by omega), mf3.2.1 _ (by omega), mf3.2.1 _ (by omega)]; exact a5.2 x y q
      · rw [os2 22 (by decide) (by decide) (by decide), mf3.2.2.1 22 (by decide) (by decide)]; exact a6.1
      · rw [oc2 _ (by omega), mf3.2.1 _ (by omega)]; exact a6.2 j hj
      · show σ4.2 = σ1.2
        rw [e2]; exact mf3.1
      · rw [oc2 _ (by omega)]; exact mf3.2.1 c (by omega)
    rw [w7, r65_11, l73, if_pos (gd_nI n1 (by omega)), nI_cl (by omega), w73]
    unfold backD mdI
    rw [hc]
    simp only
    by_cases m0 : m = 0
    · rw [if_pos m0, if_pos (by decide), if_neg (by omega)]
      exact fin (dN D) σ3 (Nat.le_refl _) rfl (fun _ _ => rfl) (fun _ _ => rfl) w1
    · rw [if_neg m0, if_neg (nI_nlt (by omega) (by omega)), if_pos (gd_nI n1 (by omega)), w1, e1, nI_sb (by omega)]
      by_cases m1 : m = dN D
      · rw [if_pos m1, if_pos (by rw [m1])]
        exact fin (dN D - 1) (stI σ3 (b + 65) 1 (nI (dN D - 1))) (by omega) rfl (fun c hc => by rw [stI_1, up2_ne _ _ _ hc]) (fun k hk => by rw [stI_1, up2_nk _ _ _ hk]) (by rw [stI_1, up2_self])
      · rw [if_neg m1, if_neg (fun q => by
          have := (nI_eq (by omega) (by omega)).mp q
          omega)]
        exact fin (dN D) σ3 (Nat.le_refl _) rfl (fun _ _ => rfl) (fun _ _ => rfl) w1
  · intro k hk
    unfold bd_X5_back_56
    have b1 : (putI σ2 (b + 68) (p * 4096) k (fun k => bI (pk2 P.2.2 k))).1 (b + 65) 7 = nI nw := by rw [putI_ne (by omega)]; exact v7
    have b2 : (putI σ2 (b + 68) (p * 4096) k (fun k => bI (pk2 P.2.2 k))).1 (b + 74) (nw * 4096 + k) = bI (pk2 P.2.2 k) := by
      rw [putI_ne (by omega), mf2.2.1 (b + 74) (by omega)]; exact c5 k hk
    simp (disch := omega) only [b1, e1, e4096, nI_add, pk_mul, le_f, r65_4, l68, r65_12, l74, gd_nI, nI_cl, ↓reduceIte, nmE, b2, nar_bI]
    rw [putI_se rfl rfl]
  · unfold bd_X5_back_56
    simp (disch := omega) only [e4096, le_t, ↓reduceIte]
