/-! THE REFERENCE'S CALLS over the desk: pages, points, rows -/
theorem MR_more {b : Nat} {σ τ : Sto} {D : Desk} {P : PG} (h : MR b σ D) (hf : MF b (fun q => q = dN D) σ τ) (hP : MP b τ (dN D) P) : τ.1 (b + 65) 1 = nI (dN D) ∧ MR b (stI τ (b + 65) 1 (nI (dN D + 1))) (setN (setP D (dN D) P) (dN D + 1)) ∧ KF b σ (stI τ (b + 65) 1 (nI (dN D + 1))) := by
  have h1 := MR_page h hf hP
  refine ⟨h1.1, ?_, KF_trans (MF_KF hf) (KF_stI (by omega) (by omega))⟩
  obtain ⟨a1, a2, a3, ⟨nw, n1, n2, n3⟩, a5, a6⟩ := h1
  have o : ∀ c, c ≠ b + 65 → (stI τ (b + 65) 1 (nI (dN D + 1))).1 c = τ.1 c := fun c hc => by rw [stI_1, up2_ne _ _ _ hc]
  have s : ∀ k, k ≠ 1 → (stI τ (b + 65) 1 (nI (dN D + 1))).1 (b + 65) k = τ.1 (b + 65) k := fun k hk => by rw [stI_1, up2_nk _ _ _ hk]
  refine ⟨?_, fun q hq => ?_, ?_, ⟨nw, n1, ?_, fun i hi => MC_fr (n3 i hi) (fun e e1 e2 => o e (by omega))⟩, ⟨?_, fun x y q => ?_⟩, ⟨?_, fun j hj => ?_⟩⟩
  · rw [stI_1, up2_self]; rfl
  · have hq : q < dN D + 1 := hq
    have : MP b τ q (up1 (dP D) (dN D) P q) := by
      by_cases e : q = dN D
      · rw [e, up1_self]; exact hP
      · exact a2 q (by show q < dN D; omega)
    exact ⟨by rw [o _ (by omega)]; exact this.1, by rw [o _ (by omega)]; exact this.2.1, AR_cong this.2.2 (fun k _ => by rw [o _ (by omega)])⟩
  · rw [s 6 (by decide)]; exact a3
  · rw [s 7 (by decide)]; exact n2
  · rw [s 19 (by decide)]; exact a5.1
  · rw [o _ (by omega), o _ (by omega)]; exact a5.2 x y q
  · rw [s 22 (by decide)]; exact a6.1
  · rw [o _ (by omega)]; exact a6.2 j hj
theorem mp_page_t {b i j : Nat} {σ : Sto} {D : Desk} (h : MR b σ D) (G : GD D) (i1 : 1 ≤ i) (i2 : i ≤ 64) (j1 : 1 ≤ j) (j2 : j ≤ 64) (hN : dN D < 8) :
    ∃ τ, F_X5_page (ΛE b) σ (b + 65) (nI i) (nI j) = some (nI (dN D), τ) ∧ MR b τ (setN (setP D (dN D) (noP i j)) (dN D + 1)) ∧ KF b σ τ := by
  obtain ⟨h1, k1, -⟩ := mr0 (v := 0) h
  unfold F_X5_page
  rw [nmE]
  generalize stI σ (b + 65) 0 0 = σ1 at *
  obtain ⟨τ, q1, q2, q3⟩ := clears_eq (b := b) (p := dN D) (w := i) (h := j) (σ := σ1) hN
  obtain ⟨z1, z2, z3⟩ := MR_more h1 q3 q2
  rw [nmE, w1, w64, in_w, e1, e64, within_t i1 i2 (by omega), if_neg (by decide), nmE, in_w, within_t j1 j2 (by omega), if_neg (by decide), h1.1, e8, if_neg (fun q => by have := (nI_eq (by omega) (by omega)).mp q; omega), q1, Option.bind_some, nmE, z1, nI_add, stI_1, up2_self, nI_sb (by omega)]
  exact ⟨_, rfl, z2, KF_trans k1 z3⟩
theorem mp_page_f {b : Nat} {w h : Int32} {σ : Sto} {D : Desk} (hc : MR b σ D) (G : GD D) (hn : ¬ ((∃ i, 1 ≤ i ∧ i ≤ 64 ∧ w = nI i) ∧ (∃ j, 1 ≤ j ∧ j ≤ 64 ∧ h = nI j) ∧ dN D < 8)) : F_X5_page (ΛE b) σ (b + 65) w h = some (-1, stI σ (b + 65) 0 0) := by
  obtain ⟨h1, k1, -⟩ := mr0 (v := 0) hc
  unfold F_X5_page
  rw [nmE]
  generalize stI σ (b + 65) 0 0 = σ1 at *
  rw [nmE, w1, w64, in_w, e1, e64]
  by_cases c1 : ∃ i, 1 ≤ i ∧ i ≤ 64 ∧ w = nI i
  · obtain ⟨i, i1, i2, rfl⟩ := c1
    rw [within_t i1 i2 (by omega), if_neg (by decide), nmE, in_w]
    by_cases c2 : ∃ j, 1 ≤ j ∧ j ≤ 64 ∧ h = nI j
    · obtain ⟨j, j1, j2, rfl⟩ := c2
      have hN := G.1
      have : dN D = 8 := by
        rcases Nat.lt_or_ge (dN D) 8 with q | q
        · exact absurd ⟨⟨i, i1, i2, rfl⟩, ⟨j, j1, j2, rfl⟩, q⟩ hn
        · omega
      rw [within_t j1 j2 (by omega), if_neg (by decide), h1.1, this, if_pos (by decide)]
    · rw [within_f (by omega) c2 (by omega), if_pos nI_0]
  · rw [within_f (by omega) c1 (by omega), if_pos nI_0]
theorem mp_copy_t {b p : Nat} {σ : Sto} {D : Desk} (h : MR b σ D) (G : GD D) (hp : p < dN D) (hN : dN D < 8) :
    ∃ τ, F_X5_copy (ΛE b) σ (b + 65) (nI p) = some (nI (dN D), τ) ∧ MR b τ (setN (setP D (dN D) (dP D p)) (dN D + 1)) ∧ KF b σ τ := by
  obtain ⟨h1, k1, -⟩ := mr0 (v := 0) h
  unfold F_X5_copy
  rw [nmE]
  generalize stI σ (b + 65) 0 0 = σ1 at *
  obtain ⟨m1, m2, m3⟩ := h1.2.1 p hp
  obtain ⟨τ, q1, q2, q3⟩ := clears_eq (b := b) (p := dN D) (w := (dP D p).1) (h := (dP D p).2.1) (σ := σ1) hN
  have mp := MP_MF (h1.2.1 p hp) q3 (by omega)
  have t1 : τ.1 (b + 65) 1 = nI (dN D) := by rw [q3.2.2.1 1 (by decide) (by decide)]; exact h1.1
  rw [nmE, isPage_t h1 G.1 hp, if_neg (by decide), h1.1, e8, if_neg (fun q => by have := (nI_eq (by omega) (by omega)).mp q; omega), r65_2, l66, if_pos (gd_nI (by omega) (by omega)), r65_3, l67, if_pos (gd_nI (by omega) (by omega)), nI_cl (by omega), m1, m2, q1, Option.bind_some]
  rw [run_loop (s0 := ((0 : Int32), τ)) (fun k => (nI k, putI τ (b + 68) (dN D * 4096) k (fun k => bI (pk2 (dP D p).2.2 k)))) (putI τ (b + 68) (dN D * 4096) 4096 (fun k => bI (pk2 (dP D p).2.2 k))) 4096 (by omega) (by rw [putI_0]; rfl)]
  · rw [Option.bind_some]
    obtain ⟨z1, z2, z3⟩ := MR_more (τ := putI τ (b + 68) (dN D * 4096) 4096 (fun k => bI (pk2 (dP D p).2.2 k))) (P := dP D p) h1 (MF_trans q3 (MF_inkp (by omega))) ⟨by rw [putI_ne (by omega)]; exact q2.1, by rw [putI_ne (by omega)]; exact q2.2.1, AR_put⟩
    rw [nmE, z1, e1, nI_add, stI_1, up2_self, nI_sb (by omega)]
    exact ⟨_, rfl, z2, KF_trans k1 z3⟩
  · intro k hk
    unfold bd_X5_copy_46
    have a1 : (putI τ (b + 68) (dN D * 4096) k (fun k => bI (pk2 (dP D p).2.2 k))).1 (b + 68) (p * 4096 + k) = bI (pk2 (dP D p).2.2 k) := by
      rw [putI_out (by omega)]; exact mp.2.2 k hk
    have a2 : (putI τ (b + 68) (dN D * 4096) k (fun k => bI (pk2 (dP D p).2.2 k))).1 (b + 65) 1 = nI (dN D) := by rw [putI_ne (by omega)]; exact t1
    simp (disch := omega) only [a2, e1, e4096, nI_add, pk_mul, le_f, r65_4, l68, gd_nI, nI_cl, ↓reduceIte, nmE, a1, nar_bI]
    rw [putI_se rfl rfl]
  · unfold bd_X5_copy_46
    simp (disch := omega) only [e4096, le_t, ↓reduceIte]
theorem mp_copy_f {b : Nat} {x : Int32} {σ : Sto} {D : Desk} (hc : MR b σ D) (G : GD D) (hn : ¬ ((∃ p, p < dN D ∧ x = nI p) ∧ dN D < 8)) : F_X5_copy (ΛE b) σ (b + 65) x = some (-1, stI σ (b + 65) 0 0) := by
  obtain ⟨h1, k1, -⟩ := mr0 (v := 0) hc
  unfold F_X5_copy
  rw [nmE]
  generalize stI σ (b + 65) 0 0 = σ1 at *
  have hN := G.1
  rw [nmE]
  by_cases c1 : ∃ p, p < dN D ∧ x = nI p
  · have : dN D = 8 := by
      rcases Nat.lt_or_ge (dN D) 8 with q | q
      · exact absurd ⟨c1, q⟩ hn
      · omega
    obtain ⟨p, hp, rfl⟩ := c1
    rw [isPage_t h1 hN hp, if_neg (by decide), h1.1, this, if_pos (by decide)]
  · rw [isPage_f h1 hN c1, if_pos nI_0]
/-- after a change is kept a page is told anew -/
theorem MR_chg {b p m : Nat} {σ τ : Sto} {D : Desk} {P : PG} (h : MR b σ (pushD D p m)) (hf : MF b (fun q => q = p) σ τ) (hP : MP b τ p P) : MR b τ (setP (pushD D p m) p P) := MR_page h hf hP
theorem vI (v : Int32) : v = 0 ∨ v = 1 → v = bI (decide (v ≠ 0)) := by rintro (h | h) <;> subst h <;> decide
theorem mp_set_t {b p x y : Nat} {v : Int32} {σ : Sto} {D : Desk} (h : MR b σ D) (G : GD D) (hp : p < dN D) (hx : x < (dP D p).1) (hy : y < (dP D p).2.1) (hv : v = 0 ∨ v = 1) :
    ∃ τ, F_X5_set (ΛE b) σ (b + 65) (nI p) (nI x) (nI y) v = some (1, τ) ∧ MR b τ (setP (pushD D p 0) p (setPt (dP D p) x y (decide (v ≠ 0)))) ∧ KF b σ τ := by
  obtain ⟨h1, k1, -⟩ := mr0 (v := 0) h
  have gp := G.2.1 p hp
  have g1 := G.1
  unfold okP at gp
  unfold F_X5_set
  rw [nmE]
  generalize stI σ (b + 65) 0 0 = σ1 at *
  obtain ⟨τ, q1, q2, q3, -⟩ := changing_eq h1 G hp
  have mp : MP b τ p (dP D p) := q2.2.1 p hp
  rw [isPoint_t h1 G hp hx hy, Option.bind_some, if_neg (by decide), q1, Option.bind_some, vI v hv, inks_eq (by omega) (by omega) (by omega), Option.bind_some]
  refine ⟨_, rfl, MR_chg q2 (MF_ink (by omega)) ⟨?_, ?_, ?_⟩, KF_trans k1 (KF_trans q3 (KF_stI (by omega) (by omega)))⟩
  · rw [stI_1, up2_ne _ _ _ (by omega)]; exact mp.1
  · rw [stI_1, up2_ne _ _ _ (by omega)]; exact mp.2.1
  · rw [← vI v hv]
    have := AR_set (v := decide (v ≠ 0)) mp.2.2 (show x < 64 by omega) (show y < 64 by omega)
    rw [← vI v hv] at this
    exact this
theorem mp_set_f {b : Nat} {q x y v : Int32} {σ : Sto} {D : Desk} (hc : MR b σ D) (G : GD D) (hn : ¬ ∃ p i j, p < dN D ∧ i < (dP D p).1 ∧ j < (dP D p).2.1 ∧ q = nI p ∧ x = nI i ∧ y = nI j) : F_X5_set (ΛE b) σ (b + 65) q x y v = some (0, stI σ (b + 65) 0 0) := by
  obtain ⟨h1, k1, -⟩ := mr0 (v := 0) hc
  unfold F_X5_set
  rw [nmE]
  generalize stI σ (b + 65) 0 0 = σ1 at *
  rw [isPoint_f h1 G hn, Option.bind_some, if_pos nI_0]
theorem rowInk_eq {b p y : Nat} {σ : Sto} {P : PG} (hp : p < 8) (h : MP b σ p P) (hw : P.1 ≤ 64) (hy : y < 64) : F_X5_rowInk (ΛE b) σ (b + 65) (nI p) (nI y) = some (nI (fb_ct (fun x => P.2.2 x y) P.1)) := by
  unfold F_X5_rowInk
  rw [run_loop (s0 := ((0 : Int32), (0 : Int32))) (fun k => (nI (fb_ct (fun x => P.2.2 x y) k), nI k)) (nI (fb_ct (fun x => P.2.2 x y) P.1)) P.1 (by omega) rfl]
  · rfl
  · intro k hk
    unfold bd_X5_rowInk_5 jp_X5_rowInk_33
    simp (disch := omega) only [r65_2, l66, gd_nI, nI_cl, ↓reduceIte, h.1, le_f, has_eq hp h (show k < 64 by omega) hy, Option.bind_some, nmE, e0, e1, bI_0, nI_add, fb_ct_succ]
    cases P.2.2 k y <;> simp
  · unfold bd_X5_rowInk_5
    simp (disch := omega) only [r65_2, l66, gd_nI, nI_cl, ↓reduceIte, h.1, le_t]
theorem colInk_eq {b p x : Nat} {σ : Sto} {P : PG} (hp : p < 8) (h : MP b σ p P) (hh : P.2.1 ≤ 64) (hx : x < 64) : F_X5_columnInk (ΛE b) σ (b + 65) (nI p) (nI x) = some (nI (fb_ct (fun y => P.2.2 x y) P.2.1)) := by
  unfold F_X5_columnInk
  rw [run_loop (s0 := ((0 : Int32), (0 : Int32))) (fun k => (nI (fb_ct (fun y => P.2.2 x y) k), nI k)) (nI (fb_ct (fun y => P.2.2 x y) P.2.1)) P.2.1 (by omega) rfl]
  · rfl
  · intro k hk
    unfold bd_X5_columnInk_5 jp_X5_columnInk_33
    simp (disch := omega) only [r65_3, l67, gd_nI, nI_cl, ↓reduceIte, h.2.1, le_f, has_eq hp h hx (show k < 64 by omega), Option.bind_some, nmE, e0, e1, bI_0, nI_add, fb_ct_succ]
    cases P.2.2 x k <;> simp
  · unfold bd_X5_columnInk_5
    simp (disch := omega) only [r65_3, l67, gd_nI, nI_cl, ↓reduceIte, h.2.1, le_t]
theorem bit_sis {v : Int64} {k : Nat} (hk : k < 64) : (lg_cmp ((shrL v (nI k)) &&& (1 : Int64)) (1 : Int64) = nI 0) = (tb v k = true) := by
  rw [show nI 0 = (0 : Int32) from rfl]
  exact propext ((lg_cmp_eq _ _).trans (bit_s hk v))
/-- a row becomes bits -/
theorem lays_eq {b p y : Nat} {v : Int64} {σ : Sto} {P : PG} (hp : p < 8) (h : MP b σ p P) (hP : okP P) (hy : y < P.2.1) :
    ∃ τ, F_X5_lays (ΛE b) σ (b + 65) (nI p) (nI y) v = some τ ∧ MP b τ p (lineP P y v) ∧ MF b (fun q => q = p) σ τ := by
  have gp := hP
  unfold okP at gp
  unfold F_X5_lays
  obtain ⟨τ, t1, t2, t3⟩ := iter_for (f := bd_X5_lays_3 (ΛE b) (b + 65) (nI p) (nI y) v) P.1 (fun k s => s.1 = nI k ∧ MP b s.2 p (P.1, P.2.1, fun a c => if c = y ∧ a < k then tb v a else P.2.2 a c) ∧ MF b (fun q => q = p) σ s.2)
    (fun τ => MP b τ p (lineP P y v) ∧ MF b (fun q => q = p) σ τ) (s := ((0 : Int32), σ)) (n := FU)
    (by
      rintro k ⟨i, τ⟩ hk ⟨c1, c2, c3⟩
      simp only at c1 c2 c3
      subst c1
      have fin : ∃ t, jp_X5_lays_35 (ΛE b) τ (b + 65) (nI p) (nI y) v (nI k) (bI (tb v k)) (nI y) (nI k) (nI p) (b + 65) = some (.inl t) ∧ t.1 = nI (k + 1) ∧ MP b t.2 p (P.1, P.2.1, fun a c => if c = y ∧ a < k + 1 then tb v a else P.2.2 a c) ∧ MF b (fun q => q = p) σ t.2 := by
        unfold jp_X5_lays_35
        rw [inks_eq hp (by omega) (by omega), Option.bind_some, nmE, nI_1]
        refine ⟨_, rfl, rfl, ⟨?_, ?_, ?_⟩, MF_trans c3 (MF_ink (by omega))⟩
        · rw [stI_1, up2_ne _ _ _ (by omega)]; exact c2.1
        · rw [stI_1, up2_ne _ _ _ (by omega)]; exact c2.2.1
        · refine AR_ext (AR_set (v := tb v k) c2.2.2 (show k < 64 by omega) (show y < 64 by omega)) (fun a c _ _ => ?_)
          show (if c = y ∧ a < k + 1 then tb v a else P.2.2 a c) = (if a = k ∧ c = y then tb v k else (if c = y ∧ a < k then tb v a else P.2.2 a c))
          by_cases e1 : c = y
          · by_cases e2 : a = k
            · subst e1 e2; simp
            · by_cases e3 : a < k
              · rw [if_pos ⟨e1, by omega⟩, if_neg (by omega), if_pos ⟨e1, e3⟩]
              · rw [if_neg (by omega), if_neg (by omega), if_neg (by omega)]
          · rw [if_neg (by omega), if_neg (by omega), if_neg (by omega)]
      have m1 : τ.1 (b + 66) p = nI P.1 := c2.1
      unfold bd_X5_lays_3
      simp (disch := omega) only [r65_2, l66, gd_nI, nI_cl, ↓reduceIte, m1, le_f]
      rw [e0]
      simp only [bit_sis (show k < 64 by omega)]
      cases hv : tb v k with
      | true => rw [hv] at fin; simp only [↓reduceIte]; exact fin
      | false => rw [hv] at fin; simp only [Bool.false_eq_true, ↓reduceIte]; exact fin)
    (by
      rintro ⟨i, τ⟩ ⟨c1, c2, c3⟩
      simp only at c1 c2 c3
      subst c1
      have m1 : τ.1 (b + 66) p = nI P.1 := c2.1
      unfold bd_X5_lays_3
      simp (disch := omega) only [r65_2, l66, gd_nI, nI_cl, ↓reduceIte, m1, le_t]
      refine ⟨_, rfl, MP_ext c2 rfl rfl (fun a c _ _ => ?_), c3⟩
      show (if c = y then decide (a < P.1) && tb v a else P.2.2 a c) = (if c = y ∧ a < P.1 then tb v a else P.2.2 a c)
      by_cases e1 : c = y
      · by_cases e2 : a < P.1
        · simp [e1, e2]
        · rw [if_pos e1, if_neg (by omega), decide_eq_false e2]
          cases hg : P.2.2 a c with
          | false => rfl
          | true => exact absurd (gp.2.2.2.2 a c hg).1 e2
      · rw [if_neg e1, if_neg (by omega)])
    ⟨rfl, MP_ext h rfl rfl (fun a c _ _ => by show (if c = y ∧ a < 0 then tb v a else P.2.2 a c) = P.2.2 a c; rw [if_neg (by omega)]), MF_refl _ _ _⟩ (by show _ < 5000; omega)
  rw [t1, Option.bind_some]
  exact ⟨_, rfl, t2, t3⟩
theorem line_ok {P : PG} {y : Nat} {v : Int64} (h : okP P) (hy : y < P.2.1) : okP (lineP P y v) := by
  refine ⟨h.1, h.2.1, h.2.2.1, h.2.2.2.1, fun a c q => ?_⟩
  have q : (if c = y then decide (a < P.1) && tb v a else P.2.2 a c) = true := q
  by_cases e : c = y
  · rw [if_pos e, Bool.and_eq_true, decide_eq_true_eq] at q
    exact ⟨q.1, by rw [e]; exact hy⟩
  · rw [if_neg e] at q; exact h.2.2.2.2 a c q
theorem mp_line_t {b p y : Nat} {v : Int64} {σ : Sto} {D : Desk} (h : MR b σ D) (G : GD D) (hp : p < dN D) (hy : y < (dP D p).2.1) :
    ∃ τ, F_X5_line (ΛE b) σ (b + 65) (nI p) (nI y) v = some (nI (fb_ct (tb v) (dP D p).1), τ) ∧ MR b τ (setP (pushD D p 0) p (lineP (dP D p) y v)) ∧ KF b σ τ := by
  obtain ⟨h1, k1, -⟩ := mr0 (v := 0) h
  have gp := G.2.1 p hp
  have gp0 := gp
  have g1 := G.1
  unfold okP at gp
  unfold F_X5_line
  rw [nmE]
  generalize stI σ (b + 65) 0 0 = σ1 at *
  obtain ⟨τ, q1, q2, q3, -⟩ := changing_eq h1 G hp
  have mp : MP b τ p (dP D p) := q2.2.1 p hp
  obtain ⟨υ, w1, w2, w3⟩ := lays_eq (v := v) (show p < 8 by omega) mp gp0 hy
  have er := rowInk_eq (y := y) (show p < 8 by omega) w2 gp.2.1 (by omega)
  rw [e0, isPoint_t h1 G hp (show 0 < (dP D p).1 by omega) hy, Option.bind_some, if_neg (by decide), q1, Option.bind_some]
  rw [show F_X5_lays (ΛE b) τ (b + 65) (nI p) (nI y) v = some υ from w1, Option.bind_some, er, Option.bind_some]
  have ec : fb_ct (fun x => (lineP (dP D p) y v).2.2 x y) (lineP (dP D p) y v).1 = fb_ct (tb v) (dP D p).1 := fb_ct_cong (fun x hx => by
    have hx : x < (dP D p).1 := hx
    show (if y = y then decide (x < (dP D p).1) && tb v x else _) = _
    rw [if_pos rfl, decide_eq_true hx]; rfl)
  rw [ec]
  exact ⟨_, rfl, MR_chg q2 w3 w2, KF_trans k1 (KF_trans q3 (MF_KF w3))⟩
theorem mp_line_f {b : Nat} {q y : Int32} {v : Int64} {σ : Sto} {D : Desk} (hc : MR b σ D) (G : GD D) (hn : ¬ ∃ p j, p < dN D ∧ j < (dP D p).2.1 ∧ q = nI p ∧ y = nI j) : F_X5_line (ΛE b) σ (b + 65) q y v = some (-1, stI σ (b + 65) 0 0) := by
  obtain ⟨h1, k1, -⟩ := mr0 (v := 0) hc
  unfold F_X5_line
  rw [nmE]
  generalize stI σ (b + 65) 0 0 = σ1 at *
  rw [isPoint_f h1 G (fun ⟨p, i, j, p1, _, p3, p4, _, p6⟩ => hn ⟨p, j, p1, p3, p4, p6⟩), Option.bind_some, if_pos nI_0]
theorem mp_at_t {b p x y : Nat} {σ : Sto} {D : Desk} (h : MR b σ D) (G : GD D) (hp : p < dN D) (hx : x < (dP D p).1) (hy : y < (dP D p).2.1) : F_X5_at (ΛE b) σ (b + 65) (nI p) (nI x) (nI y) = some (bI ((dP D p).2.2 x y), stI σ (b + 65) 0 0) := by
  obtain ⟨h1, k1, -⟩ := mr0 (v := 0) h
  have gp := G.2.1 p hp
  have g1 := G.1
  unfold okP at gp
  unfold F_X5_at
  rw [nmE]
  generalize stI σ (b + 65) 0 0 = σ1 at *
  rw [isPoint_t h1 G hp hx hy, Option.bind_some, if_neg (by decide), has_eq (by omega) (h1.2.1 p hp) (by omega) (by omega), Option.bind_some, e0]
  simp only [bI_0]
  cases (dP D p).2.2 x y <;> rfl
theorem mp_at_f {b : Nat} {q x y : Int32} {σ : Sto} {D : Desk} (hc : MR b σ D) (G : GD D) (hn : ¬ ∃ p i j, p < dN D ∧ i < (dP D p).1 ∧ j < (dP D p).2.1 ∧ q = nI p ∧ x = nI i ∧ y = nI j) : F_X5_at (ΛE b) σ (b + 65) q x y = some (-1, stI σ (b + 65) 0 0) := by
  obtain ⟨h1, k1, -⟩ := mr0 (v := 0) hc
  unfold F_X5_at
  rw [nmE]
  generalize stI σ (b + 65) 0 0 = σ1 at *
  rw [isPoint_f h1 G hn, Option.bind_some, if_pos nI_0]
theorem mp_row_t {b p y : Nat} {σ : Sto} {D : Desk} (h : MR b σ D) (G : GD D) (hp : p < dN D) (hy : y < (dP D p).2.1) : ∃ v, F_X5_row (ΛE b) σ (b + 65) (nI p) (nI y) = some (v, stI σ (b + 65) 0 0) ∧ ∀ x, tb v x = (dP D p).2.2 x y := by
  obtain ⟨h1, k1, -⟩ := mr0 (v := 0) h
  have gp := G.2.1 p hp
  have g1 := G.1
  unfold okP at gp
  unfold F_X5_row
  rw [nmE]
  generalize stI σ (b + 65) 0 0 = σ1 at *
  have mp := h1.2.1 p hp
  rw [e0, isPoint_t h1 G hp (show 0 < (dP D p).1 by omega) hy, Option.bind_some, if_neg (by decide)]
  obtain ⟨v, v1, v2⟩ := iter_for (f := bd_X5_row_26 (ΛE b) σ1 (b + 65) (nI p) (nI y)) (dP D p).1 (fun k s => s.2 = nI k ∧ ∀ x, tb s.1 x = (decide (x < k) && (dP D p).2.2 x y)) (fun v => ∀ x, tb v x = (dP D p).2.2 x y) (s := ((0 : Int64), nI 0)) (n := FU)
    (by
      rintro k ⟨v, i⟩ hk ⟨c1, c2⟩
      simp only at c1 c2
      subst c1
      unfold bd_X5_row_26 jp_X5_row_57
      simp (disch := omega) only [r65_2, l66, gd_nI, nI_cl, ↓reduceIte, mp.1, le_f, has_eq (show p < 8 by omega) mp (show k < 64 by omega) (show y < 64 by omega), Option.bind_some, nmE, e0, e1, bI_0, nI_add]
      cases hg : (dP D p).2.2 k y with
      | false =>
        simp only [↓reduceIte]
        refine ⟨_, rfl, rfl, fun x => ?_⟩
        simp only
        rw [tb_or, tb_zero, c2, Bool.or_false]
        by_cases e : x = k
        · rw [e, hg]; simp
        · congr 1
          rw [decide_eq_decide]
          omega
      | true =>
        simp only [Bool.true_eq_false, ↓reduceIte]
        refine ⟨_, rfl, rfl, fun x => ?_⟩
        simp only
        rw [tb_or, tb_bit (by omega), c2]
        by_cases e : x = k
        · rw [e, hg]; simp
        · rw [decide_eq_false e, Bool.or_false]
          congr 1
          rw [decide_eq_decide]
          omega)
    (by
      rintro ⟨v, i⟩ ⟨c1, c2⟩
      simp only at c1 c2
      subst c1
      unfold bd_X5_row_26
      simp (disch := omega) only [r65_2, l66, gd_nI, nI_cl, ↓reduceIte, mp.1, le_t]
      refine ⟨_, rfl, fun x => ?_⟩
      rw [c2]
      cases hg : (dP D p).2.2 x y with
      | false => simp
      | true => rw [decide_eq_true (gp.2.2.2.2 x y hg).1]; rfl)
    ⟨rfl, fun x => by simp [tb_zero]⟩ (by show _ < 5000; omega)
  rw [v1, Option.bind_some]
  exact ⟨v, rfl, v2⟩
theorem mp_row_f {b : Nat} {q y : Int32} {σ : Sto} {D : Desk} (hc : MR b σ D) (G : GD D) (hn : ¬ ∃ p j, p < dN D ∧ j < (dP D p).2.1 ∧ q = nI p ∧ y = nI j) : ∃ v, F_X5_row (ΛE b) σ (b + 65) q y = some (v, stI (stI σ (b + 65) 0 0) (b + 65) 0 1) := by
  obtain ⟨h1, k1, -⟩ := mr0 (v := 0) hc
  unfold F_X5_row
  rw [nmE]
  generalize stI σ (b + 65) 0 0 = σ1 at *
  rw [isPoint_f h1 G (fun ⟨p, i, j, p1, _, p3, p4, _, p6⟩ => hn ⟨p, j, p1, p3, p4, p6⟩), Option.bind_some, if_pos nI_0]
  unfold F_X5_refuse
  rw [nmE, Option.bind_some]
  exact ⟨_, rfl⟩
theorem mp_count {b : Nat} {x : Int32} {σ : Sto} {D : Desk} (h : MR b σ D) : F_X5_count (ΛE b) σ (b + 65) x = some (cntI D x, stI σ (b + 65) 0 0) := by
  obtain ⟨h1, k1, -⟩ := mr0 (v := 0) h
  unfold F_X5_count cntI
  rw [nmE]
  generalize stI σ (b + 65) 0 0 = σ1 at *
  rw [h1.1, h1.2.2.1, h1.2.2.2.2.1.1, h1.2.2.2.2.2.1]
  by_cases c0 : x = 0
  · rw [if_pos c0, if_pos c0]
  · rw [if_neg c0, if_neg c0]
    by_cases c1 : x = 1
    · rw [if_pos c1, if_pos c1]
    · rw [if_neg c1, if_neg c1]
      by_cases c2 : x = 2
      · rw [if_pos c2, if_pos c2]
      · rw [if_neg c2, if_neg c2]
        by_cases c3 : x = 3
        · rw [if_pos c3, if_pos c3]
        · rw [if_neg c3, if_neg c3]
theorem mp_told_t {b i : Nat} {σ : Sto} {D : Desk} (h : MR b σ D) (G : GD D) (hi : i < dM D) : F_X5_told (ΛE b) σ (b + 65) (nI i) = some (nI (dV D i), stI σ (b + 65) 0 0) := by
  obtain ⟨h1, k1, -⟩ := mr0 (v := 0) h
  have g := G.2.2.2.2.2.2.2.1
  unfold F_X5_told
  rw [nmE]
  generalize stI σ (b + 65) 0 0 = σ1 at *
  rw [nmE, h1.2.2.2.2.2.1, w0, in_w, e0, e1]
  simp only
  rw [within0_t hi (by omega), if_neg (by decide), r65_23, l82, if_pos (gd_nI (by omega) (by omega)), nI_cl (by omega), h1.2.2.2.2.2.2 i hi]
theorem mp_told_f {b : Nat} {x : Int32} {σ : Sto} {D : Desk} (h : MR b σ D) (G : GD D) (hn : ¬ ∃ i, i < dM D ∧ x = nI i) : ∃ v, F_X5_told (ΛE b) σ (b + 65) x = some (v, stI (stI σ (b + 65) 0 0) (b + 65) 0 1) := by
  obtain ⟨h1, k1, -⟩ := mr0 (v := 0) h
  have g := G.2.2.2.2.2.2.2.1
  unfold F_X5_told
  rw [nmE]
  generalize stI σ (b + 65) 0 0 = σ1 at *
  rw [nmE, h1.2.2.2.2.2.1, w0, in_w, e0, e1]
  simp only
  rw [within0_f (by omega) hn, if_pos rfl]
  unfold F_X5_refuse
  rw [nmE, Option.bind_some]
  exact ⟨_, rfl⟩
theorem mp_listed_t {b i x y : Nat} {σ : Sto} {D : Desk} (h : MR b σ D) (G : GD D) (hi : i < inkP (dL D)) (hl : (dL D).2.2 x y = true) (hr : rkP (dL D) x y = i) :
    F_X5_listed (ΛE b) σ (b + 65) (nI i) (nI 0) = some (nI x, stI σ (b + 65) 0 0) ∧ F_X5_listed (ΛE b) σ (b + 65) (nI i) (nI 1) = some (nI y, stI σ (b + 65) 0 0) := by
  obtain ⟨h1, k1, -⟩ := mr0 (v := 0) h
  have gl := G.2.2.2.2.2.2.1
  unfold okL at gl
  have hb : inkP (dL D) ≤ (dL D).2.1 * 64 := fb_sm_bound (fun k _ => fb_ct_le _ _)
  unfold F_X5_listed
  rw [nmE, nmE]
  generalize stI σ (b + 65) 0 0 = σ1 at *
  obtain ⟨lx, ly⟩ := h1.2.2.2.2.1.2 x y hl
  rw [hr] at lx ly
  simp only [nmE]
  rw [h1.2.2.2.2.1.1, w0, w1, in_w, in_w, in_w, e0, e1, within0_t hi (by omega), within_t (by omega) (by omega) (by omega), within_t (by omega) (by omega) (by omega), if_neg (by decide), if_neg (by decide), if_pos rfl, r65_20, l80, if_pos (gd_nI (by omega) (by omega)), nI_cl (by omega), lx, if_neg (by decide), if_neg (by decide), if_neg (by decide), r65_21, l81, if_pos (gd_nI (by omega) (by omega)), ly]
  exact ⟨rfl, rfl⟩
theorem mp_listed_f {b : Nat} {x z : Int32} {σ : Sto} {D : Desk} (h : MR b σ D) (G : GD D) (hn : ¬ ((∃ i, i < inkP (dL D) ∧ x = nI i) ∧ (z = 0 ∨ z = 1))) : ∃ v, F_X5_listed (ΛE b) σ (b + 65) x z = some (v, stI (stI σ (b + 65) 0 0) (b + 65) 0 1) := by
  obtain ⟨h1, k1, -⟩ := mr0 (v := 0) h
  have gl := G.2.2.2.2.2.2.1
  unfold okL at gl
  have hb : inkP (dL D) ≤ (dL D).2.1 * 64 := fb_sm_bound (fun k _ => fb_ct_le _ _)
  unfold F_X5_listed
  rw [nmE, nmE]
  generalize stI σ (b + 65) 0 0 = σ1 at *
  have fin : ∃ v, jp_X5_listed_31 (ΛE b) σ1 (b + 65) = some (v, stI σ1 (b + 65) 0 1) := by
    unfold jp_X5_listed_31 F_X5_refuse
    rw [nmE, Option.bind_some]
    exact ⟨_, rfl⟩
  rw [h1.2.2.2.2.1.1, w0, in_w, e0, e1]
  by_cases c1 : ∃ i, i < inkP (dL D) ∧ x = nI i
  · have c2 : ¬ (z = 0 ∨ z = 1) := fun c2 => hn ⟨c1, c2⟩
    obtain ⟨i, hi, rfl⟩ := c1
    rw [within0_t hi (by omega), if_neg (by decide), nmE, w1, in_w, e1, within_f (by omega) (fun ⟨w, w1, w2, w3⟩ => c2 (by
      rcases (show w = 0 ∨ w = 1 by omega) with q | q
      · subst q; exact Or.inl w3
      · subst q; exact Or.inr w3)) (by omega), if_pos rfl]
    exact fin
  · rw [within0_f (by omega) c1, if_pos rfl]
    exact fin
