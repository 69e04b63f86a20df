/-! THE REFERENCE'S CALLS, going on: box, cut, spans -/
theorem first_ext {p : Nat → Bool} {n m : Nat} (h : n ≤ m) (hp : ∀ k, n ≤ k → k < m → p k = false) (hx : ∃ k, k < n ∧ p k = true) : fa_first p m = fa_first p n := by
  obtain ⟨k, k1, k2⟩ := hx
  have a1 := first_lt k1 k2
  have a2 := first_lt (show k < m by omega) k2
  have b1 := fa_first_yes p n (by omega)
  have b2 := fa_first_yes p m (by omega)
  have c1 := first_lt (show fa_first p n < m by omega) b1
  have c2 := first_lt (show fa_first p m < n by omega) b2
  omega
theorem top_ext {p : Nat → Bool} {n m : Nat} (h : n ≤ m) (hp : ∀ k, n ≤ k → k < m → p k = false) : topB p m = topB p n := by
  have h1 := topB_le p n
  refine topB_one (by omega) (fun k k1 k2 => ?_) (topB_is p n)
  rcases Nat.lt_or_ge k n with q | q
  · exact topB_gt p n k k1 q
  · exact hp k q k2
theorem col_out {P : PG} (hP : okP P) : ∀ k, P.1 ≤ k → k < 64 → colB P k = false := fun k h1 _ => by
  unfold colB
  rw [anyB_not]
  intro y _
  cases hc : P.2.2 k y with
  | false => rfl
  | true => have := (hP.2.2.2.2 k y hc).1; omega
theorem row_out {P : PG} (hP : okP P) : ∀ k, P.2.1 ≤ k → k < 64 → rowB P k = false := fun k h1 _ => by
  unfold rowB
  rw [anyB_not]
  intro x _
  cases hc : P.2.2 x k with
  | false => rfl
  | true => have := (hP.2.2.2.2 x k hc).2; omega
theorem has_col {P : PG} (hP : okP P) (h : hasP P) : ∃ k, k < P.1 ∧ colB P k = true := by
  obtain ⟨x, y, h⟩ := h
  exact ⟨x, (hP.2.2.2.2 x y h).1, colB_of (okP_L hP) h⟩
theorem has_row {P : PG} (hP : okP P) (h : hasP P) : ∃ k, k < P.2.1 ∧ rowB P k = true := by
  obtain ⟨x, y, h⟩ := h
  exact ⟨y, (hP.2.2.2.2 x y h).2, rowB_of (okP_L hP) h⟩
theorem firstC_eq {b p : Nat} {σ : Sto} {P : PG} (hp : p < 8) (mp : MP b σ p P) (hP : okP P) : F_X5_firstColumn (ΛE b) σ (b + 65) (nI p) = some (nI (fa_first (colB P) P.1)) := by
  have gp := hP
  unfold okP at gp
  have hl := fa_first_le (colB P) P.1
  unfold F_X5_firstColumn
  rw [run_loop (s0 := (0 : Int32)) (fun k => nI k) (nI (fa_first (colB P) P.1)) (fa_first (colB P) P.1) (by omega) rfl]
  · rfl
  · intro k hk
    have hno := fa_first_no (colB P) P.1 k hk
    unfold bd_X5_firstColumn_2
    simp (disch := omega) only [r65_2, l66, gd_nI, nI_cl, ↓reduceIte, mp.1, le_f, colInk_eq hp mp (show P.2.1 ≤ 64 by omega) (show k < 64 by omega), Option.bind_some, nmE, nI_1]
    rw [colInk_pos.mpr hno, if_pos nI_0]
  · unfold bd_X5_firstColumn_2
    by_cases e : fa_first (colB P) P.1 < P.1
    · have hy := fa_first_yes (colB P) P.1 e
      have hc := fb_ct_le (fun y => P.2.2 (fa_first (colB P) P.1) y) P.2.1
      simp (disch := omega) only [r65_2, l66, gd_nI, nI_cl, ↓reduceIte, mp.1, le_f, colInk_eq hp mp (show P.2.1 ≤ 64 by omega) (show fa_first (colB P) P.1 < 64 by omega), Option.bind_some]
      rw [if_neg (fun q => by
        have q2 := (nI_eq (b := 0) (by omega) (by omega)).mp q
        rw [colInk_pos.mp q2] at hy; cases hy)]
    · simp (disch := omega) only [r65_2, l66, gd_nI, nI_cl, ↓reduceIte, mp.1, le_t]
theorem firstR_eq {b p : Nat} {σ : Sto} {P : PG} (hp : p < 8) (mp : MP b σ p P) (hP : okP P) : F_X5_firstRow (ΛE b) σ (b + 65) (nI p) = some (nI (fa_first (rowB P) P.2.1)) := by
  have gp := hP
  unfold okP at gp
  have hl := fa_first_le (rowB P) P.2.1
  unfold F_X5_firstRow
  rw [run_loop (s0 := (0 : Int32)) (fun k => nI k) (nI (fa_first (rowB P) P.2.1)) (fa_first (rowB P) P.2.1) (by omega) rfl]
  · rfl
  · intro k hk
    have hno := fa_first_no (rowB P) P.2.1 k hk
    unfold bd_X5_firstRow_2
    simp (disch := omega) only [r65_3, l67, gd_nI, nI_cl, ↓reduceIte, mp.2.1, le_f, rowInk_eq hp mp (show P.1 ≤ 64 by omega) (show k < 64 by omega), Option.bind_some, nmE, nI_1]
    rw [(rowInk_pos hP).mpr hno, if_pos nI_0]
  · unfold bd_X5_firstRow_2
    by_cases e : fa_first (rowB P) P.2.1 < P.2.1
    · have hy := fa_first_yes (rowB P) P.2.1 e
      have hc := fb_ct_le (fun x => P.2.2 x (fa_first (rowB P) P.2.1)) P.1
      simp (disch := omega) only [r65_3, l67, gd_nI, nI_cl, ↓reduceIte, mp.2.1, le_f, rowInk_eq hp mp (show P.1 ≤ 64 by omega) (show fa_first (rowB P) P.2.1 < 64 by omega), Option.bind_some]
      rw [if_neg (fun q => by
        have q2 := (nI_eq (b := 0) (by omega) (by omega)).mp q
        rw [(rowInk_pos hP).mp q2] at hy; cases hy)]
    · simp (disch := omega) only [r65_3, l67, gd_nI, nI_cl, ↓reduceIte, mp.2.1, le_t]
theorem firstC_h {b p : Nat} {σ : Sto} {P : PG} (hp : p < 8) (mp : MP b σ p P) (hP : okP P) (hi : hasP P) : F_X5_firstColumn (ΛE b) σ (b + 65) (nI p) = some (nI (fstC P)) := by
  rw [firstC_eq hp mp hP]
  unfold fstC
  rw [first_ext hP.2.1 (col_out hP) (has_col hP hi)]
theorem firstR_h {b p : Nat} {σ : Sto} {P : PG} (hp : p < 8) (mp : MP b σ p P) (hP : okP P) (hi : hasP P) : F_X5_firstRow (ΛE b) σ (b + 65) (nI p) = some (nI (fstR P)) := by
  rw [firstR_eq hp mp hP]
  unfold fstR
  rw [first_ext hP.2.2.2.1 (row_out hP) (has_row hP hi)]
theorem lastC_h {b p : Nat} {σ : Sto} {P : PG} (hp : p < 8) (mp : MP b σ p P) (hP : okP P) (hi : hasP P) : F_X5_lastColumn (ΛE b) σ (b + 65) (nI p) = some (nI (lstC P - 1)) := by
  have gp := hP
  unfold okP at gp
  have bb := box_bd (okP_L hP) hi
  have et : lstC P = topB (colB P) P.1 := top_ext hP.2.1 (col_out hP)
  unfold F_X5_lastColumn
  rw [r65_2, l66, if_pos (gd_nI (by omega) (by omega)), nI_cl (by omega), mp.1, nmE, run_loop (s0 := nI P.1 - 1) (fun k => nI (P.1 - 1 - k)) (nI (lstC P - 1)) (P.1 - lstC P) (by omega) (by rw [nI_subo (by omega)]; rfl)]
  · rfl
  · intro k hk
    have hno := topB_gt (colB P) P.1 (P.1 - 1 - k) (by omega) (by omega)
    unfold bd_X5_lastColumn_9
    rw [colInk_eq hp mp (by omega) (by omega), Option.bind_some, colInk_pos.mpr hno, if_pos nI_0, nmE, add_m1, nI_subo (by omega)]
    rw [show P.1 - 1 - k - 1 = P.1 - 1 - (k + 1) by omega]
  · have hy := topB_is (colB P) P.1 (by omega)
    rw [← et] at hy
    have hc := fb_ct_le (fun y => P.2.2 (lstC P - 1) y) P.2.1
    unfold bd_X5_lastColumn_9
    rw [show P.1 - 1 - (P.1 - lstC P) = lstC P - 1 by omega, colInk_eq hp mp (by omega) (by omega), Option.bind_some, if_neg (fun q => by
      have q2 := (nI_eq (b := 0) (by omega) (by omega)).mp q
      rw [colInk_pos.mp q2] at hy; cases hy)]
theorem lastR_h {b p : Nat} {σ : Sto} {P : PG} (hp : p < 8) (mp : MP b σ p P) (hP : okP P) (hi : hasP P) : F_X5_lastRow (ΛE b) σ (b + 65) (nI p) = some (nI (botP P - 1)) := by
  have gp := hP
  unfold okP at gp
  have bb := box_bd (okP_L hP) hi
  have et : botP P = topB (rowB P) P.2.1 := top_ext hP.2.2.2.1 (row_out hP)
  unfold F_X5_lastRow
  rw [r65_3, l67, if_pos (gd_nI (by omega) (by omega)), nI_cl (by omega), mp.2.1, nmE, run_loop (s0 := nI P.2.1 - 1) (fun k => nI (P.2.1 - 1 - k)) (nI (botP P - 1)) (P.2.1 - botP P) (by omega) (by rw [nI_subo (by omega)]; rfl)]
  · rfl
  · intro k hk
    have hno := topB_gt (rowB P) P.2.1 (P.2.1 - 1 - k) (by omega) (by omega)
    unfold bd_X5_lastRow_9
    rw [rowInk_eq hp mp (by omega) (by omega), Option.bind_some, (rowInk_pos hP).mpr hno, if_pos nI_0, nmE, add_m1, nI_subo (by omega)]
    rw [show P.2.1 - 1 - k - 1 = P.2.1 - 1 - (k + 1) by omega]
  · have hy := topB_is (rowB P) P.2.1 (by omega)
    rw [← et] at hy
    have hc := fb_ct_le (fun x => P.2.2 x (botP P - 1)) P.1
    unfold bd_X5_lastRow_9
    rw [show P.2.1 - 1 - (P.2.1 - botP P) = botP P - 1 by omega, rowInk_eq hp mp (by omega) (by omega), Option.bind_some, if_neg (fun q => by
      have q2 := (nI_eq (b := 0) (by omega) (by omega)).mp q
      rw [(rowInk_pos hP).mp q2] at hy; cases hy)]
theorem hasInkM_t {b p : Nat} {σ : Sto} {P : PG} (hp : p < 8) (mp : MP b σ p P) (hP : okP P) (hi : hasP P) : F_X5_hasInk (ΛE b) σ (b + 65) (nI p) = some (nI 1) := by
  have gp := hP
  unfold okP at gp
  have bb := box_bd (okP_L hP) hi
  unfold F_X5_hasInk
  rw [firstR_h hp mp hP hi, Option.bind_some, r65_3, l67, if_pos (gd_nI (by omega) (by omega)), nI_cl (by omega), mp.2.1, if_neg (nI_ge (by omega) (by omega))]
  rfl
theorem hasInkM_f {b p : Nat} {σ : Sto} {P : PG} (hp : p < 8) (mp : MP b σ p P) (hP : okP P) (hi : ¬ hasP P) : F_X5_hasInk (ΛE b) σ (b + 65) (nI p) = some (nI 0) := by
  have gp := hP
  unfold okP at gp
  have hl := fa_first_le (rowB P) P.2.1
  unfold F_X5_hasInk
  rw [firstR_eq hp mp hP, Option.bind_some, r65_3, l67, if_pos (gd_nI (by omega) (by omega)), nI_cl (by omega), mp.2.1, if_pos]
  · rfl
  · refine nI_le ?_ (by omega)
    rcases Nat.lt_or_ge (fa_first (rowB P) P.2.1) P.2.1 with q | q
    · exfalso
      obtain ⟨x, _, x2⟩ := anyB_iff.mp (fa_first_yes (rowB P) P.2.1 q)
      exact hi ⟨x, _, x2⟩
    · exact q
theorem mp_box_t {b p w : Nat} {σ : Sto} {D : Desk} (h : MR b σ D) (G : GD D) (hp : p < dN D) (hi : hasP (dP D p)) (hw : w < 4) : F_X5_box (ΛE b) σ (b + 65) (nI p) (nI w) = some (nI (boxN (dP D p) w), stI σ (b + 65) 0 0) := by
  obtain ⟨h1, k1, -⟩ := mr0 (v := 0) h
  have g1 := G.1
  have gp := G.2.1 p hp
  have hp8 : p < 8 := by omega
  unfold F_X5_box
  rw [nmE]
  generalize stI σ (b + 65) 0 0 = σ1 at *
  have mp := h1.2.1 p hp
  rw [nmE, isPage_t h1 g1 hp, if_neg (by decide), hasInkM_t hp8 mp gp hi, Option.bind_some, if_neg (by decide), nmE, w0, w3, in_w, show F_X4_within (nI w) 0 3 = nI 1 from within_t (lo := 0) (hi := 3) (by omega) (by omega) (by omega), if_neg (by decide), firstC_h hp8 mp gp hi, firstR_h hp8 mp gp hi, lastC_h hp8 mp gp hi, lastR_h hp8 mp gp hi]
  simp only [Option.bind_some]
  unfold boxN
  rcases (show w = 0 ∨ w = 1 ∨ w = 2 ∨ w = 3 by omega) with q | q | q | q
  · subst q; rw [if_pos (by decide), if_pos rfl]
  · subst q; rw [if_neg (by decide), if_pos (by decide), if_neg (by decide), if_pos rfl]
  · subst q; rw [if_neg (by decide), if_neg (by decide), if_pos (by decide), if_neg (by decide), if_neg (by decide), if_pos rfl]
  · subst q; rw [if_neg (by decide), if_neg (by decide), if_neg (by decide), if_neg (by decide), if_neg (by decide), if_neg (by decide)]
theorem mp_box_f {b : Nat} {q x : Int32} {σ : Sto} {D : Desk} (hc : MR b σ D) (G : GD D) (hn : ¬ ∃ p w, p < dN D ∧ hasP (dP D p) ∧ w < 4 ∧ q = nI p ∧ x = nI w) : F_X5_box (ΛE b) σ (b + 65) q x = some (-1, stI σ (b + 65) 0 0) := by
  obtain ⟨h1, k1, -⟩ := mr0 (v := 0) hc
  unfold F_X5_box
  rw [nmE]
  generalize stI σ (b + 65) 0 0 = σ1 at *
  rw [nmE]
  by_cases c1 : ∃ p, p < dN D ∧ q = nI p
  · obtain ⟨p, hp, rfl⟩ := c1
    have g1 := G.1
    have gp := G.2.1 p hp
    rw [isPage_t h1 g1 hp, if_neg (by decide)]
    by_cases c2 : hasP (dP D p)
    · rw [hasInkM_t (by omega) (h1.2.1 p hp) gp c2, Option.bind_some, if_neg (by decide), nmE, w0, w3, in_w, show F_X4_within x 0 3 = nI 0 from within_f (lo := 0) (hi := 3) (by omega) (fun ⟨w, _, w2, w3⟩ => hn ⟨p, w, hp, c2, by omega, rfl, w3⟩) (by omega), if_pos nI_0]
    · rw [hasInkM_f (by omega) (h1.2.1 p hp) gp c2, Option.bind_some, if_pos nI_0]
  · rw [isPage_f h1 G.1 c1, if_pos nI_0]
-- cut
theorem cutRow {b p m r : Nat} {σ σ0 : Sto} {P : PG} {h6 : Int32} (hp : p < 8) (mp : MP b σ0 p P) (hP : okP P) (hi : hasP P) (hm : m ≤ 20) (hw : (cutP P m).1 ≤ 64) (hh : (cutP P m).2.1 ≤ 64) (hr : r < botP P - fstR P) (hA : AR σ (b + 69) 0 (fun a c => decide (c < m + r) && (cutP P m).2.2 a c)) (hM : MF b X0 σ0 σ) :
    ∃ τ, iter (bd_X5_cut_121 (ΛE b) (b + 65) (nI p) (nI m) (nI (fstC P)) (nI (fstR P)) (nI (lstC P - fstC P + 2 * m)) h6 (nI r)) FU ((0 : Int32), σ) = some τ ∧ AR τ (b + 69) 0 (fun a c => decide (c < m + (r + 1)) && (cutP P m).2.2 a c) ∧ MF b X0 σ0 τ := by
  have gl := okP_L hP
  have gp := hP
  unfold okP at gp
  have bb := box_bd gl hi
  have hw : lstC P - fstC P + 2 * m ≤ 64 := hw
  have hh : botP P - fstR P + 2 * m ≤ 64 := hh
  have hT : ∀ a c, (cutP P m).2.2 a c = (decide (m ≤ a) && (decide (m ≤ c) && P.2.2 (a - m + fstC P) (c - m + fstR P))) := fun a c => rfl
  have hTin := fun {a c : Nat} => cut_in (m := m) gl (x := a) (y := c)
  generalize (cutP P m).2.2 = T at *
  exact iter_for (f := bd_X5_cut_121 (ΛE b) (b + 65) (nI p) (nI m) (nI (fstC P)) (nI (fstR P)) (nI (lstC P - fstC P + 2 * m)) h6 (nI r)) (lstC P - fstC P) (fun x z => z.1 = nI x ∧ AR z.2 (b + 69) 0 (fun a c => decide (c < m + r ∨ (c = m + r ∧ a < m + x)) && T a c) ∧ MF b X0 σ0 z.2)
    (fun τ => AR τ (b + 69) 0 (fun a c => decide (c < m + (r + 1)) && T a c) ∧ MF b X0 σ0 τ) (s := ((0 : Int32), σ)) (n := FU)
    (by
      rintro x ⟨j, υ⟩ hx ⟨d1, d2, d3⟩
      simp only at d1 d2 d3
      subst d1
      have mu := MP_MF mp d3 (fun q => q)
      unfold bd_X5_cut_121
      simp (disch := omega) only [e2, pk_mul, nI_sb, nI_add, le_f, ↓reduceIte, has_eq hp mu (show fstC P + x < 64 by omega) (show fstR P + r < 64 by omega), Option.bind_some, r65_5, l69, e64, gd_nI, nI_cl, nmE, nar_bI, nI_1]
      refine ⟨_, rfl, rfl, ?_, MF_trans d3 (MF_a (Or.inl rfl))⟩
      simp only
      rw [show (r + m) * 64 + x + m = 0 + (64 * (m + r) + (m + x)) by omega]
      refine AR_ext (AR_set (v := P.2.2 (fstC P + x) (fstR P + r)) d2 (show m + x < 64 by omega) (show m + r < 64 by omega)) (fun a c _ _ => ?_)
      by_cases e : a = m + x ∧ c = m + r
      · rw [if_pos e, decide_eq_true (show c < m + r ∨ (c = m + r ∧ a < m + (x + 1)) by omega), Bool.true_and, hT, e.1, e.2, decide_eq_true (show m ≤ m + x by omega), decide_eq_true (show m ≤ m + r by omega), show m + x - m + fstC P = fstC P + x by omega, show m + r - m + fstR P = fstR P + r by omega]
        rfl
      · rw [if_neg e]
        congr 1
        rw [decide_eq_decide]
        omega)
    (by
      rintro ⟨j, υ⟩ ⟨d1, d2, d3⟩
      simp only at d1 d2 d3
      subst d1
      unfold bd_X5_cut_121
      simp (disch := omega) only [e2, pk_mul, nI_sb, le_t, ↓reduceIte]
      refine ⟨_, rfl, AR_ext d2 (fun a c _ _ => ?_), d3⟩
      cases hg : T a c with
      | false => simp
      | true =>
        have := hTin hg
        simp only [Bool.and_true]
        rw [decide_eq_decide]
        omega)
    ⟨rfl, AR_ext hA (fun a c _ _ => by
      cases hg : T a c with
      | false => simp
      | true =>
        have := hTin hg
        simp only [Bool.and_true]
        rw [decide_eq_decide]
        omega), hM⟩ (by show _ < 5000; omega)
theorem mp_cut_t {b p m : Nat} {σ : Sto} {D : Desk} (h : MR b σ D) (G : GD D) (hp : p < dN D) (hi : hasP (dP D p)) (hm : m ≤ 20) (hw : (cutP (dP D p) m).1 ≤ 64) (hh : (cutP (dP D p) m).2.1 ≤ 64) :
    ∃ τ, F_X5_cut (ΛE b) σ (b + 65) (nI p) (nI m) = some (1, τ) ∧ MR b τ (setP (pushD D p 0) p (cutP (dP D p) m)) ∧ KF b σ τ := by
  obtain ⟨h1, k1, -⟩ := mr0 (v := 0) h
  have g1 := G.1
  have gp := G.2.1 p hp
  have gp0 := gp
  have gl := okP_L gp
  have hp8 : p < 8 := by omega
  unfold okP at gp
  have bb := box_bd gl hi
  unfold F_X5_cut
  rw [nmE]
  generalize stI σ (b + 65) 0 0 = σ1 at *
  have mp := h1.2.1 p hp
  obtain ⟨τ, q1, q2, q3, -⟩ := changing_eq h1 G hp
  have mq : MP b τ p (dP D p) := q2.2.1 p hp
  obtain ⟨τ1, w1, w2, w3⟩ := blank_eq (b := b) (σ := τ)
  have hw' : lstC (dP D p) - fstC (dP D p) + 2 * m ≤ 64 := hw
  have hh' : botP (dP D p) - fstR (dP D p) + 2 * m ≤ 64 := hh
  have ew : nI (lstC (dP D p) - 1) - nI (fstC (dP D p)) + 1 + 2 * nI m = nI (lstC (dP D p) - fstC (dP D p) + 2 * m) := by
    rw [nI_sb (by omega), nI_1, e2, pk_mul, nI_add]
    exact congrArg nI (by omega)
  have eh : nI (botP (dP D p) - 1) - nI (fstR (dP D p)) + 1 + 2 * nI m = nI (botP (dP D p) - fstR (dP D p) + 2 * m) := by
    rw [nI_sb (by omega), nI_1, e2, pk_mul, nI_add]
    exact congrArg nI (by omega)
  rw [nmE, isPage_t h1 g1 hp, if_neg (by decide), hasInkM_t hp8 mp gp0 hi, Option.bind_some, if_neg (by decide), nmE, w0, w20, in_w, show F_X4_within (nI m) 0 20 = nI 1 from within_t (lo := 0) (hi := 20) (by omega) (by omega) (by omega), if_neg (by decide), firstC_h hp8 mp gp0 hi, firstR_h hp8 mp gp0 hi, lastC_h hp8 mp gp0 hi, lastR_h hp8 mp gp0 hi]
  simp only [Option.bind_some, nmE]
  rw [ew, eh, e64, if_neg (nI_nlt hw' (by omega)), if_pos (nI_le hh' (by omega)), q1, Option.bind_some, w1, Option.bind_some]
  obtain ⟨τ2, t1, t2, t3⟩ := iter_for (f := bd_X5_cut_107 (ΛE b) (b + 65) (nI p) (nI m) (nI (fstC (dP D p))) (nI (fstR (dP D p))) (nI (lstC (dP D p) - fstC (dP D p) + 2 * m)) (nI (botP (dP D p) - fstR (dP D p) + 2 * m))) (botP (dP D p) - fstR (dP D p)) (fun r z => z.1 = nI r ∧ AR z.2 (b + 69) 0 (fun a c => decide (c < m + r) && (cutP (dP D p) m).2.2 a c) ∧ MF b X0 τ z.2)
    (fun υ => AR υ (b + 69) 0 (cutP (dP D p) m).2.2 ∧ MF b X0 τ υ) (s := ((0 : Int32), τ1)) (n := FU)
    (by
      rintro r ⟨j, υ⟩ hr ⟨d1, d2, d3⟩
      simp only at d1 d2 d3
      subst d1
      obtain ⟨υ2, v1, v2, v3⟩ := cutRow (h6 := nI (botP (dP D p) - fstR (dP D p) + 2 * m)) hp8 mq gp0 hi hm hw hh hr d2 d3
      unfold bd_X5_cut_107
      simp (disch := omega) only [e2, pk_mul, nI_sb, le_f, ↓reduceIte, v1, Option.bind_some, nmE, nI_1]
      exact ⟨(_, υ2), rfl, rfl, v2, v3⟩)
    (by
      rintro ⟨j, υ⟩ ⟨d1, d2, d3⟩
      simp only at d1 d2 d3
      subst d1
      unfold bd_X5_cut_107
      simp (disch := omega) only [e2, pk_mul, nI_sb, le_t, ↓reduceIte]
      refine ⟨_, rfl, AR_ext d2 (fun a c _ _ => ?_), d3⟩
      cases hg : (cutP (dP D p) m).2.2 a c with
      | false => simp
      | true =>
        have := cut_in gl hg
        rw [decide_eq_true (by omega)]; rfl)
    ⟨rfl, AR_ext w2 (fun a c _ _ => by
      cases hg : (cutP (dP D p) m).2.2 a c with
      | false => simp
      | true =>
        have := cut_in gl hg
        rw [decide_eq_false (by omega)]; rfl), w3⟩ (by show _ < 5000; omega)
  obtain ⟨υ, u1, u2, u3⟩ := becomes_eq (w := lstC (dP D p) - fstC (dP D p) + 2 * m) (h := botP (dP D p) - fstR (dP D p) + 2 * m) hp8 t2
  rw [t1, Option.bind_some, u1, Option.bind_some]
  exact ⟨_, rfl, MR_chg q2 (MF_trans (MF_mono t3 (fun q z => z.elim)) u3) u2, KF_trans k1 (KF_trans q3 (KF_trans (MF_KF t3) (MF_KF u3)))⟩
theorem mp_cut_f {b : Nat} {q x : Int32} {σ : Sto} {D : Desk} (hc : MR b σ D) (G : GD D) (hn : ¬ ∃ p m, p < dN D ∧ hasP (dP D p) ∧ m ≤ 20 ∧ (cutP (dP D p) m).1 ≤ 64 ∧ (cutP (dP D p) m).2.1 ≤ 64 ∧ q = nI p ∧ x = nI m) : F_X5_cut (ΛE b) σ (b + 65) q x = some (0, stI σ (b + 65) 0 0) := by
  obtain ⟨h1, k1, -⟩ := mr0 (v := 0) hc
  unfold F_X5_cut
  rw [nmE]
  generalize stI σ (b + 65) 0 0 = σ1 at *
  rw [nmE]
  by_cases c1 : ∃ p, p < dN D ∧ q = nI p
  · obtain ⟨p, hp, rfl⟩ := c1
    have g1 := G.1
    have gp := G.2.1 p hp
    have gp0 := gp
    have gl := okP_L gp
    have hp8 : p < 8 := by omega
    unfold okP at gp
    have mp := h1.2.1 p hp
    rw [isPage_t h1 g1 hp, if_neg (by decide)]
    by_cases c3 : hasP (dP D p)
    · have bb := box_bd gl c3
      rw [hasInkM_t hp8 mp gp0 c3, Option.bind_some, if_neg (by decide), nmE, w0, w20, in_w]
      by_cases c2 : ∃ k, 0 ≤ k ∧ k ≤ 20 ∧ x = nI k
      · obtain ⟨m, m1, m2, rfl⟩ := c2
        have ew : nI (lstC (dP D p) - 1) - nI (fstC (dP D p)) + 1 + 2 * nI m = nI (lstC (dP D p) - fstC (dP D p) + 2 * m) := by
          rw [nI_sb (by omega), nI_1, e2, pk_mul, nI_add]
          exact congrArg nI (by omega)
        have eh : nI (botP (dP D p) - 1) - nI (fstR (dP D p)) + 1 + 2 * nI m = nI (botP (dP D p) - fstR (dP D p) + 2 * m) := by
          rw [nI_sb (by omega), nI_1, e2, pk_mul, nI_add]
          exact congrArg nI (by omega)
        rw [show F_X4_within (nI m) 0 20 = nI 1 from within_t (lo := 0) (hi := 20) (by omega) (by omega) (by omega), if_neg (by decide), firstC_h hp8 mp gp0 c3, firstR_h hp8 mp gp0 c3, lastC_h hp8 mp gp0 c3, lastR_h hp8 mp gp0 c3]
        simp only [Option.bind_some, nmE]
        rw [ew, eh, e64]
        by_cases c4 : lstC (dP D p) - fstC (dP D p) + 2 * m ≤ 64
        · have c5 : ¬ botP (dP D p) - fstR (dP D p) + 2 * m ≤ 64 := fun c5 => hn ⟨p, m, hp, c3, m2, c4, c5, rfl, rfl⟩
          rw [if_neg (nI_nlt c4 (by omega)), if_neg (nI_ge (by omega) (by omega))]
        · rw [if_pos (nI_lt (by omega) (by omega))]
      · rw [show F_X4_within x 0 20 = nI 0 from within_f (lo := 0) (hi := 20) (by omega) c2 (by omega), if_pos nI_0]
    · rw [hasInkM_f hp8 mp gp0 c3, Option.bind_some, if_pos nI_0]
  · rw [isPage_f h1 G.1 c1, if_pos nI_0]
-- spans
/-- only the numbers change -/
def VF (b : Nat) (σ τ : Sto) : Prop := τ.2 = σ.2 ∧ (∀ c, c ≠ b + 65 → c ≠ b + 82 → τ.1 c = σ.1 c) ∧ ∀ k, k ≠ 22 → τ.1 (b + 65) k = σ.1 (b + 65) k
theorem VF_trans {b : Nat} {σ τ υ : Sto} (h : VF b σ τ) (h2 : VF b τ υ) : VF b σ υ := ⟨h2.1.trans h.1, fun c c1 c2 => (h2.2.1 c c1 c2).trans (h.2.1 c c1 c2), fun k hk => (h2.2.2 k hk).trans (h.2.2 k hk)⟩
theorem VF_n {b : Nat} {v : Int32} {σ : Sto} : VF b σ (stI σ (b + 65) 22 v) := ⟨rfl, fun c c1 _ => by rw [stI_1, up2_ne _ _ _ c1], fun k hk => by rw [stI_1, up2_nk _ _ _ hk]⟩
theorem VF_a {b k : Nat} {v : Int32} {σ : Sto} : VF b σ (stI σ (b + 82) k v) := ⟨rfl, fun c _ c2 => by rw [stI_1, up2_ne _ _ _ c2], fun k hk => by rw [stI_1, up2_ne _ _ _ (by omega)]⟩
theorem MP_VF {b p : Nat} {σ τ : Sto} {P : PG} (h : MP b σ p P) (hf : VF b σ τ) : MP b τ p P := ⟨by rw [hf.2.1 _ (by omega) (by omega)]; exact h.1, by rw [hf.2.1 _ (by omega) (by omega)]; exact h.2.1, AR_cong h.2.2 (fun k _ => by rw [hf.2.1 _ (by omega) (by omega)])⟩
theorem MR_vals {b m : Nat} {V : Nat → Nat} {σ τ : Sto} {D : Desk} (h : MR b σ D) (hf : VF b σ τ) (hv : VR (b + 65) (b + 82) 22 τ (m, V)) : MR b τ (setV D m V) := by
  obtain ⟨a1, a2, a3, ⟨nw, n1, n2, n3⟩, a5, a6⟩ := h
  refine ⟨?_, fun q hq => MP_VF (a2 q hq) hf, ?_, ⟨nw, n1, ?_, fun i hi => MC_fr (n3 i hi) (fun e e1 e2 => hf.2.1 e (by omega) (by omega))⟩, ⟨?_, fun x y q => ?_⟩, hv⟩
  · rw [hf.2.2 1 (by decide)]; exact a1
  · rw [hf.2.2 6 (by decide)]; exact a3
  · rw [hf.2.2 7 (by decide)]; exact n2
  · rw [hf.2.2 19 (by decide)]; exact a5.1
  · rw [hf.2.1 _ (by omega) (by omega), hf.2.1 _ (by omega) (by omega)]; exact a5.2 x y q
theorem mp_spans_t {b p w g : Nat} {σ : Sto} {D : Desk} (h : MR b σ D) (G : GD D) (hp : p < dN D) (hw : w ≤ 1) (hg : 1 ≤ g) (hg2 : g ≤ 64) :
    ∃ τ, F_X5_spans (ΛE b) σ (b + 65) (nI p) (nI w) (nI g) = some (nI ((spn (spB (dP D p) w) g 64).1 / 2), τ) ∧ MR b τ (setV D (spn (spB (dP D p) w) g 64).1 (spn (spB (dP D p) w) g 64).2) ∧ KF b σ τ := by
  obtain ⟨h1, k1, -⟩ := mr0 (v := 0) h
  have g1 := G.1
  have gp := G.2.1 p hp
  have gp0 := gp
  have hp8 : p < 8 := by omega
  unfold okP at gp
  unfold F_X5_spans
  rw [nmE]
  generalize stI σ (b + 65) 0 0 = σ1 at *
  have mp := h1.2.1 p hp
  rw [nmE, isPage_t h1 g1 hp, if_neg (by decide), nmE, w0, w1, in_w, show F_X4_within (nI w) 0 1 = nI 1 from within_t (lo := 0) (hi := 1) (by omega) hw (by omega), if_neg (by decide), nmE, w64, in_w, show F_X4_within (nI g) 1 64 = nI 1 from within_t (lo := 1) (hi := 64) hg hg2 (by omega), if_neg (by decide), nmE]
  have fin : ∀ many, many ≤ 64 → (∀ k, many ≤ k → k < 64 → spB (dP D p) w k = false) → (∀ k τ, k < many → VF b σ1 τ → ∃ q, (if nI w = 0 then (F_X5_columnInk (ΛE b) τ (b + 65) (nI p) (nI k)).bind (fun q_17 => jp_X5_spans_94 (ΛE b) τ (b + 65) (nI p) (nI w) (nI g) (nI many) (nI k) q_17) else (F_X5_rowInk (ΛE b) τ (b + 65) (nI p) (nI k)).bind (fun q_8 => jp_X5_spans_94 (ΛE b) τ (b + 65) (nI p) (nI w) (nI g) (nI many) (nI k) q_8)) = jp_X5_spans_94 (ΛE b) τ (b + 65) (nI p) (nI w) (nI g) (nI many) (nI k) q ∧ (q = 0 ↔ spB (dP D p) w k = false)) →
      ∃ τ, jp_X5_spans_61 (ΛE b) (stI σ1 (b + 65) 22 0) (b + 65) (nI p) (nI w) (nI g) (nI many) = some (nI ((spn (spB (dP D p) w) g 64).1 / 2), τ) ∧ MR b τ (setV D (spn (spB (dP D p) w) g 64).1 (spn (spB (dP D p) w) g 64).2) ∧ KF b σ τ := by
    intro many hm hout hstep
    have es : spn (spB (dP D p) w) g 64 = spn (spB (dP D p) w) g many := by
      obtain ⟨d, hd⟩ : ∃ d, 64 = many + d := ⟨64 - many, by omega⟩
      rw [hd, spn_ext (fun k k1 k2 => hout k k1 (by omega))]
    unfold jp_X5_spans_61
    obtain ⟨τ, t1, t2, t3⟩ := iter_for (f := bd_X5_spans_66 (ΛE b) (b + 65) (nI p) (nI w) (nI g) (nI many)) many (fun i s => s.1 = nI i ∧ VR (b + 65) (b + 82) 22 s.2 (spn (spB (dP D p) w) g i) ∧ VF b σ1 s.2)
      (fun τ => VR (b + 65) (b + 82) 22 τ (spn (spB (dP D p) w) g many) ∧ VF b σ1 τ) (s := ((0 : Int32), stI σ1 (b + 65) 22 0)) (n := FU)
      (by
        rintro i ⟨k, τ⟩ hi ⟨c1, c2, c3⟩
        simp only at c1 c2 c3
        subst c1
        have ok := spn_ok (p := spB (dP D p) w) hg i
        have hmm := spn_m (p := spB (dP D p) w) hg (i := i) (by omega)
        obtain ⟨q, hq1, hq2⟩ := hstep i τ hi c3
        simp only [spn]
        generalize spn (spB (dP D p) w) g i = s at *
        unfold spOk at ok
        have fin152 : ∀ (υ : Sto) (n : Nat), 0 < n → n ≤ 128 → υ.1 (b + 65) 22 = nI n → VF b σ1 υ → ∃ t, jp_X5_spans_152 (ΛE b) υ (b + 65) (nI p) (nI w) (nI g) (nI many) (nI i) = some (.inl t) ∧ t.1 = nI (i + 1) ∧ t.2 = stI υ (b + 82) (n - 1) (nI i) ∧ VF b σ1 t.2 := by
          intro υ n z1 z2 z3 z4
          unfold jp_X5_spans_152 jp_X5_spans_165
          rw [z3]
          simp (disch := omega) only [r65_23, l82, e0, e1, e2, e3, e4, e7, e8, e9, e10, e12, e16, e20, e63, e64, e100, e4096, nI_add, pk_mul, nI_sb, le_t, le_f, lt_t, lt_f, nI_cl, gd_nI, ↓reduceIte, nmE, Option.bind_some, Option.bind_eq_bind]
          exact ⟨_, rfl, rfl, rfl, VF_trans z4 VF_a⟩
        have fin131 : (s.1 = 0 ∨ g < i - s.2 (s.1 - 1)) → ∃ t, jp_X5_spans_131 (ΛE b) τ (b + 65) (nI p) (nI w) (nI g) (nI many) (nI i) = some (.inl t) ∧ t.1 = nI (i + 1) ∧ VR (b + 65) (b + 82) 22 t.2 (spS g i s) ∧ VF b σ1 t.2 := by
          intro y2
          have e7 : (stI τ (b + 82) s.1 (nI i)).1 (b + 65) 22 = nI s.1 := by rw [stI_1, up2_ne _ _ _ (by omega)]; exact c2.1
          have vn := VR_new (i := i) (show b + 65 ≠ b + 82 by omega) c2
          obtain ⟨t, t1, t2, t3, t4⟩ := fin152 (stI (stI τ (b + 82) s.1 (nI i)) (b + 65) 22 (nI (s.1 + 2))) (s.1 + 2) (by omega) (by omega) (by rw [stI_1, up2_self]) (VF_trans (VF_trans c3 VF_a) VF_n)
          unfold jp_X5_spans_131
          rw [c2.1]
          simp (disch := omega) only [r65_23, l82, gd_nI, nI_cl, ↓reduceIte, nmE, e7, e2, nI_add]
          refine ⟨t, t1, t2, ?_, t4⟩
          rw [t3]
          unfold spS
          rw [if_pos y2]
          exact vn
        unfold bd_X5_spans_66
        simp (disch := omega) only [le_f, ↓reduceIte]
        rw [hq1]
        unfold jp_X5_spans_94
        cases hb : spB (dP D p) w i with
        | false =>
          rw [if_pos (hq2.mpr hb)]
          unfold jp_X5_spans_165
          simp only [nmE, nI_1, Bool.false_eq_true, ↓reduceIte]
          exact ⟨_, rfl, rfl, c2, c3⟩
        | true =>
          rw [if_neg (fun z => by rw [hq2.mp z] at hb; cases hb), c2.1]
          simp only [↓reduceIte]
          by_cases m0 : s.1 = 0
          · rw [m0, if_pos nI_0]
            exact fin131 (Or.inl m0)
          · have o2 := ok.2.1 (by omega)
            have ea : τ.1 (b + 82) (s.1 - 1) = nI (s.2 (s.1 - 1)) := c2.2 _ (by omega)
            simp (disch := omega) only [eq_f, e0, e1, nI_sb, r65_23, l82, gd_nI, nI_cl, ↓reduceIte, ea]
            by_cases cg : i - s.2 (s.1 - 1) ≤ g
            · rw [if_pos (nI_lt (by omega) (by omega))]
              obtain ⟨t, t1, t2, t3, t4⟩ := fin152 τ s.1 (by omega) (by omega) c2.1 c3
              refine ⟨t, t1, t2, ?_, t4⟩
              rw [t3]
              unfold spS
              rw [if_neg (by omega)]
              exact VR_ext (show b + 65 ≠ b + 82 by omega) c2
            · rw [if_neg (nI_nlt (by omega) (by omega))]
              exact fin131 (Or.inr (by omega)))
      (by
        rintro ⟨k, τ⟩ ⟨c1, c2, c3⟩
        simp only at c1 c2 c3
        subst c1
        unfold bd_X5_spans_66
        simp (disch := omega) only [le_t, ↓reduceIte]
        exact ⟨_, rfl, c2, c3⟩)
      ⟨rfl, ⟨by rw [stI_1, up2_self]; rfl, fun j hj => absurd hj (Nat.not_lt_zero j)⟩, VF_n⟩ (by show _ < 5000; omega)
    have hmm := spn_m (p := spB (dP D p) w) hg (i := many) hm
    rw [t1, Option.bind_some, es, t2.1, e2, pk_div (by omega) (by omega) (by omega)]
    exact ⟨_, rfl, MR_vals h1 t3 t2, KF_trans k1 ⟨t3.1, fun c hc => t3.2.1 c (by omega) (by omega)⟩⟩
  have o66 : (stI σ1 (b + 65) 22 0).1 (b + 66) = σ1.1 (b + 66) := by rw [stI_1, up2_ne _ _ _ (by omega)]
  have o67 : (stI σ1 (b + 65) 22 0).1 (b + 67) = σ1.1 (b + 67) := by rw [stI_1, up2_ne _ _ _ (by omega)]
  rcases (show w = 0 ∨ w = 1 by omega) with q | q
  · subst q
    rw [if_pos nI_0, r65_2, l66, if_pos (gd_nI (by omega) (by omega)), nI_cl (by omega), o66, mp.1]
    refine fin (dP D p).1 (by omega) (col_out gp0) (fun k τ hk hv => ?_)
    have hc := fb_ct_le (fun y => (dP D p).2.2 k y) (dP D p).2.1
    rw [if_pos nI_0, colInk_eq hp8 (MP_VF mp hv) (by omega) (by omega), Option.bind_some]
    refine ⟨_, rfl, ⟨fun z => colInk_pos.mp ((nI_eq (b := 0) (by omega) (by omega)).mp z), fun z => ?_⟩⟩
    rw [colInk_pos.mpr z]; exact nI_0
  · subst q
    rw [if_neg (by decide), r65_3, l67, if_pos (gd_nI (by omega) (by omega)), nI_cl (by omega), o67, mp.2.1]
    refine fin (dP D p).2.1 (by omega) (row_out gp0) (fun k τ hk hv => ?_)
    have hc := fb_ct_le (fun x => (dP D p).2.2 x k) (dP D p).1
    rw [if_neg (by decide), rowInk_eq hp8 (MP_VF mp hv) (by omega) (by omega), Option.bind_some]
    refine ⟨_, rfl, ⟨fun z => (rowInk_pos gp0).mp ((nI_eq (b := 0) (by omega) (by omega)).mp z), fun z => ?_⟩⟩
    rw [(rowInk_pos gp0).mpr z]; exact nI_0
theorem mp_spans_f {b : Nat} {q x z : Int32} {σ : Sto} {D : Desk} (hc : MR b σ D) (G : GD D) (hn : ¬ ((∃ p, p < dN D ∧ q = nI p) ∧ (∃ w, w ≤ 1 ∧ x = nI w) ∧ ∃ g, 1 ≤ g ∧ g ≤ 64 ∧ z = nI g)) : F_X5_spans (ΛE b) σ (b + 65) q x z = some (-1, stI σ (b + 65) 0 0) := by
  obtain ⟨h1, k1, -⟩ := mr0 (v := 0) hc
  unfold F_X5_spans
  rw [nmE]
  generalize stI σ (b + 65) 0 0 = σ1 at *
  rw [nmE]
  by_cases c1 : ∃ p, p < dN D ∧ q = nI p
  · have c0 := c1
    obtain ⟨p, hp, rfl⟩ := c1
    rw [isPage_t h1 G.1 hp, if_neg (by decide), nmE, w0, w1, in_w]
    by_cases c2 : ∃ w, 0 ≤ w ∧ w ≤ 1 ∧ x = nI w
    · obtain ⟨w, w1, w2, rfl⟩ := c2
      rw [show F_X4_within (nI w) 0 1 = nI 1 from within_t (lo := 0) (hi := 1) (by omega) w2 (by omega), if_neg (by decide), nmE, w64, in_w, show F_X4_within z 1 64 = nI 0 from within_f (lo := 1) (hi := 64) (by omega) (fun c3 => hn ⟨c0, ⟨w, w2, rfl⟩, c3⟩) (by omega), if_pos nI_0]
    · rw [show F_X4_within x 0 1 = nI 0 from within_f (lo := 0) (hi := 1) (by omega) c2 (by omega), if_pos nI_0]
  · rw [isPage_f h1 G.1 c1, if_pos nI_0]
