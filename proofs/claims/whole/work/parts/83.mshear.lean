/-! THE REFERENCE'S CALLS, going on: shears -/
def lsF (s : Int) : Nat → Int
  | 0 => 0
  | k + 1 => min (lsF s k) (sl s k)
theorem lsF_pos {s : Int} (h : 0 ≤ s) : ∀ k, lsF s k = 0
  | 0 => rfl
  | k + 1 => by
    have h1 := sl_mono h (show 0 ≤ k by omega)
    rw [sl_0] at h1
    simp only [lsF]
    rw [lsF_pos h k]
    omega
theorem lsF_neg {s : Int} (h : s ≤ 0) : ∀ k, lsF s (k + 1) = sl s k
  | 0 => by simp [lsF, sl_0]
  | k + 1 => by
    have h1 := sl_anti h (show k ≤ k + 1 by omega)
    have ih := lsF_neg h k
    show min (lsF s (k + 1)) (sl s (k + 1)) = _
    rw [ih]
    omega
theorem lsF_eq {s : Int} {n : Nat} (hn : 0 < n) : lsF s n = lst s n := by
  unfold lst
  rcases Int.le_total 0 s with h0 | h0
  · have h2 := sl_mono h0 (show 0 ≤ n - 1 by omega)
    rw [sl_0] at h2
    rw [lsF_pos h0]
    omega
  · have h2 := sl_anti h0 (show 0 ≤ n - 1 by omega)
    rw [sl_0] at h2
    obtain ⟨k, rfl⟩ : ∃ k, n = k + 1 := ⟨n - 1, by omega⟩
    rw [lsF_neg h0]
    rw [show k + 1 - 1 = k by omega] at h2 ⊢
    omega
theorem lsF_bd {s : Int} (hs : okS s) : ∀ k : Nat, -(k : Int) ≤ lsF s k ∧ lsF s k ≤ 0
  | 0 => by simp [lsF]
  | k + 1 => by
    have h1 := lsF_bd hs k
    have h2 := sl_bd (k := k) hs
    simp only [lsF]
    omega
theorem least_eq {s : Int} {n : Nat} (hs : okS s) (h0 : 0 < n) (hn : n ≤ 64) : F_X5_least (iI s) (nI n) = some (iI (lst s n)) := by
  unfold F_X5_least
  rw [run_loop (s0 := ((0 : Int32), (0 : Int32))) (fun k => (iI (lsF s k), nI k)) (iI (lsF s n)) n (by omega) rfl]
  · rw [Option.bind_some, lsF_eq h0]
  · intro k hk
    have b1 := lsF_bd hs k
    have b2 := sl_bd (k := k) hs
    unfold bd_X5_least_4
    simp (disch := omega) only [le_f, ↓reduceIte, nmE, floor_eq hs (show k ≤ 64 by omega), nI_1, mn_iI]
    rfl
  · unfold bd_X5_least_4
    simp (disch := omega) only [le_t, ↓reduceIte]
def mfF (s : Int) (n : Nat) : Nat → Nat
  | 0 => 0
  | k + 1 => max (mfF s n k) (off s n k)
theorem mfF_le {s : Int} {n : Nat} : ∀ k, k ≤ n → mfF s n k ≤ spr s n
  | 0, _ => Nat.zero_le _
  | k + 1, h => by
    have h1 := mfF_le (s := s) (n := n) k (by omega)
    have h2 := off_le (s := s) (show k < n by omega)
    simp only [mfF]
    omega
theorem mfF_ge {s : Int} {n : Nat} : ∀ k j, j < k → off s n j ≤ mfF s n k
  | 0, _, h => absurd h (Nat.not_lt_zero _)
  | k + 1, j, h => by
    simp only [mfF]
    by_cases e : j = k
    · subst e; omega
    · have := mfF_ge (s := s) (n := n) k j (by omega)
      omega
theorem mfF_eq {s : Int} {n : Nat} (h0 : 0 < n) : mfF s n n = spr s n := by
  have h1 := mfF_le (s := s) n (Nat.le_refl n)
  have h2 := mfF_ge (s := s) (n := n) n 0 h0
  have h3 := mfF_ge (s := s) (n := n) n (n - 1) (by omega)
  have e1 := off_eq (s := s) (k := 0) h0
  have e2 := off_eq (s := s) (n := n) (k := n - 1) (by omega)
  rw [sl_0] at e1
  unfold lst at e1 e2
  unfold spr at h1 ⊢
  omega
theorem most_eq {s : Int} {n : Nat} (hs : okS s) (h0 : 0 < n) (hn : n ≤ 64) : F_X5_most (iI s) (nI n) = some (nI (spr s n)) := by
  have hsp := spr_bd (n := n) hs h0
  unfold F_X5_most
  rw [run_loop (s0 := ((0 : Int32), (0 : Int32))) (fun k => (nI (mfF s n k), nI k)) (nI (mfF s n n)) n (by omega) rfl]
  · rw [Option.bind_some, mfF_eq h0]
  · intro k hk
    have b1 := mfF_le (s := s) (n := n) k (by omega)
    have b2 := off_le (s := s) hk
    unfold bd_X5_most_4
    simp (disch := omega) only [le_f, ↓reduceIte, nmE, floor_eq hs (show k ≤ 64 by omega), nI_1, least_eq hs h0 hn, Option.bind_some, off_iI, mx_nI]
    rfl
  · unfold bd_X5_most_4
    simp (disch := omega) only [le_t, ↓reduceIte]
theorem shearM_t {s : Int} (h : okS s) : F_X5_isShear (iI s) = nI 1 := by
  unfold F_X5_isShear
  rw [nmE, wm16, w16, in_w]
  have := shear_t h
  unfold F_X4_isShear at this
  rw [nmE] at this
  exact this
theorem shearM_f {x : Int32} (h : ¬ ∃ s, okS s ∧ x = iI s) : F_X5_isShear x = nI 0 := by
  unfold F_X5_isShear
  rw [nmE, wm16, w16, in_w]
  have := shear_f h
  unfold F_X4_isShear at this
  rw [nmE] at this
  exact this
theorem goesAcross_eq {b p : Nat} {s : Int} {σ : Sto} {P : PG} (hp : p < 8) (mp : MP b σ p P) (hP : okP P) (hs : okS s) (hw : P.1 + spr s P.2.1 ≤ 64) :
    ∃ τ, F_X5_goesAcross (ΛE b) σ (b + 65) (nI p) (iI s) = some (1, τ) ∧ MP b τ p (acrossP s P) ∧ MF b (fun q => q = p) σ τ := by
  have gp := hP
  unfold okP at gp
  have h0 : 0 < P.2.1 := by omega
  have hh : P.2.1 ≤ 64 := by omega
  have hT : ∀ a c, (acrossP s P).2.2 a c = (decide (c < P.2.1) && (decide (off s P.2.1 c ≤ a) && P.2.2 (a - off s P.2.1 c) c)) := fun a c => rfl
  have hTin : ∀ a c, (acrossP s P).2.2 a c = true → c < P.2.1 := fun a c q => by
    rw [hT, Bool.and_eq_true, decide_eq_true_eq] at q
    exact q.1
  generalize hTT : (acrossP s P).2.2 = T at hT hTin
  obtain ⟨σ1, q1, q2, q3⟩ := blank_eq (b := b) (σ := σ)
  unfold F_X5_goesAcross
  rw [r65_2, l66, if_pos (gd_nI (by omega) (by omega)), r65_3, l67, if_pos (gd_nI (by omega) (by omega)), nI_cl (by omega), mp.1, mp.2.1, most_eq hs h0 hh, Option.bind_some, nmE, nI_add, e64, if_pos (nI_le hw (by omega)), q1, Option.bind_some]
  obtain ⟨τ, t1, t2, t3⟩ := iter_for (f := bd_X5_goesAcross_33 (ΛE b) (b + 65) (nI p) (iI s) (nI (P.1 + spr s P.2.1))) P.2.1 (fun y z => z.1 = nI y ∧ AR z.2 (b + 69) 0 (fun a c => decide (c < y) && T a c) ∧ MF b X0 σ z.2)
    (fun τ => AR τ (b + 69) 0 T ∧ MF b X0 σ τ) (s := ((0 : Int32), σ1)) (n := FU)
    (by
      rintro y ⟨i, τ⟩ hy ⟨c1, c2, c3⟩
      simp only at c1 c2 c3
      subst c1
      have mt := MP_MF mp c3 (fun q => q)
      have ho := off_le (s := s) hy
      unfold bd_X5_goesAcross_33
      simp (disch := omega) only [r65_3, l67, gd_nI, nI_cl, ↓reduceIte, mt.2.1, le_f, nmE, floor_eq hs (show y ≤ 64 by omega), least_eq hs h0 hh, Option.bind_some, off_iI]
      obtain ⟨υ, u1, u2, u3⟩ := iter_for (f := bd_X5_goesAcross_69 (ΛE b) (b + 65) (nI p) (iI s) (nI (P.1 + spr s P.2.1)) (nI y) (nI (off s P.2.1 y))) P.1 (fun x z => z.1 = nI x ∧ AR z.2 (b + 69) 0 (fun a c => decide (c < y ∨ (c = y ∧ a < x + off s P.2.1 y)) && T a c) ∧ MF b X0 σ z.2)
        (fun υ => AR υ (b + 69) 0 (fun a c => decide (c < y + 1) && T a c) ∧ MF b X0 σ υ) (s := ((0 : Int32), τ)) (n := FU)
        (by
          rintro x ⟨j, υ⟩ hx ⟨d1, d2, d3⟩
          simp only at d1 d2 d3
          subst d1
          have mu := MP_MF mp d3 (fun q => q)
          unfold bd_X5_goesAcross_69
          simp (disch := omega) only [r65_2, l66, r65_5, l69, gd_nI, nI_cl, ↓reduceIte, mu.1, le_f, nmE, has_eq hp mu (show x < 64 by omega) (show y < 64 by omega), Option.bind_some, nar_bI, e64, pk_mul, nI_add, nI_1]
          refine ⟨_, rfl, rfl, ?_, MF_trans d3 (MF_a (Or.inl rfl))⟩
          simp only
          rw [show y * 64 + x + off s P.2.1 y = 0 + (64 * y + (x + off s P.2.1 y)) by omega]
          refine AR_ext (AR_set (v := P.2.2 x y) d2 (show x + off s P.2.1 y < 64 by omega) (show y < 64 by omega)) (fun a c _ _ => ?_)
          by_cases e : a = x + off s P.2.1 y ∧ c = y
          · rw [if_pos e, decide_eq_true (show c < y ∨ (c = y ∧ a < x + 1 + off s P.2.1 y) by omega), Bool.true_and, hT, e.1, e.2, decide_eq_true hy, decide_eq_true (show off s P.2.1 y ≤ x + off s P.2.1 y by omega), show x + off s P.2.1 y - off s P.2.1 y = x by omega]
            rfl
          · rw [if_neg e]
            congr 1
            rw [decide_eq_decide]
            omega)
        (by
          rintro ⟨j, υ⟩ ⟨d1, d2, d3⟩
          simp only at d1 d2 d3
          subst d1
          have mu := MP_MF mp d3 (fun q => q)
          unfold bd_X5_goesAcross_69
          simp (disch := omega) only [r65_2, l66, gd_nI, nI_cl, ↓reduceIte, mu.1, le_t]
          refine ⟨_, rfl, AR_ext d2 (fun a c _ _ => ?_), d3⟩
          cases hg : T a c with
          | false => simp
          | true =>
            rw [hT, Bool.and_eq_true, Bool.and_eq_true, decide_eq_true_eq, decide_eq_true_eq] at hg
            simp only [Bool.and_true]
            rw [decide_eq_decide]
            constructor
            · intro q
              by_cases e : c = y
              · subst e
                have := (gp.2.2.2.2 _ _ hg.2.2).1
                omega
              · omega
            · omega)
        ⟨rfl, AR_ext c2 (fun a c _ _ => by
          cases hg : T a c with
          | false => simp
          | true =>
            simp only [Bool.and_true]
            rw [decide_eq_decide]
            constructor
            · rintro (q | q)
              · exact q
              · rw [hT, Bool.and_eq_true, Bool.and_eq_true, decide_eq_true_eq, decide_eq_true_eq, q.1] at hg
                omega
            · omega), c3⟩ (by show _ < 5000; omega)
      rw [u1, Option.bind_some, nI_1]
      exact ⟨_, rfl, rfl, u2, u3⟩)
    (by
      rintro ⟨i, τ⟩ ⟨c1, c2, c3⟩
      simp only at c1 c2 c3
      subst c1
      have mt := MP_MF mp c3 (fun q => q)
      unfold bd_X5_goesAcross_33
      simp (disch := omega) only [r65_3, l67, gd_nI, nI_cl, ↓reduceIte, mt.2.1, le_t]
      refine ⟨_, rfl, AR_ext c2 (fun a c _ _ => ?_), c3⟩
      cases hg : T a c with
      | false => simp
      | true => rw [decide_eq_true (hTin a c hg)]; rfl)
    ⟨rfl, AR_ext q2 (fun a c _ _ => by simp), q3⟩ (by show _ < 5000; omega)
  have mt := MP_MF mp t3 (fun q => q)
  obtain ⟨υ, u1, u2, u3⟩ := becomes_eq (w := P.1 + spr s P.2.1) (h := P.2.1) hp t2
  rw [t1, Option.bind_some, if_pos (gd_nI (by omega) (by omega)), mt.2.1, u1, Option.bind_some]
  refine ⟨_, rfl, ?_, MF_trans (MF_mono t3 (fun q z => z.elim)) u3⟩
  rw [← hTT] at u2
  exact u2
theorem goesUp_eq {b p : Nat} {s : Int} {σ : Sto} {P : PG} (hp : p < 8) (mp : MP b σ p P) (hP : okP P) (hs : okS s) (hh : P.2.1 + spr s P.1 ≤ 64) :
    ∃ τ, F_X5_goesUp (ΛE b) σ (b + 65) (nI p) (iI s) = some (1, τ) ∧ MP b τ p (uprightP s P) ∧ MF b (fun q => q = p) σ τ := by
  have gp := hP
  unfold okP at gp
  have h0 : 0 < P.1 := by omega
  have hw : P.1 ≤ 64 := by omega
  have hT : ∀ a c, (uprightP s P).2.2 a c = (decide (a < P.1) && (decide (off s P.1 a ≤ c) && P.2.2 a (c - off s P.1 a))) := fun a c => rfl
  have hTin : ∀ a c, (uprightP s P).2.2 a c = true → a < P.1 := fun a c q => by
    rw [hT, Bool.and_eq_true, decide_eq_true_eq] at q
    exact q.1
  generalize hTT : (uprightP s P).2.2 = T at hT hTin
  obtain ⟨σ1, q1, q2, q3⟩ := blank_eq (b := b) (σ := σ)
  unfold F_X5_goesUp
  rw [r65_3, l67, if_pos (gd_nI (by omega) (by omega)), r65_2, l66, if_pos (gd_nI (by omega) (by omega)), nI_cl (by omega), mp.1, mp.2.1, most_eq hs h0 hw, Option.bind_some, nmE, nI_add, e64, if_pos (nI_le hh (by omega)), q1, Option.bind_some]
  obtain ⟨τ, t1, t2, t3⟩ := iter_for (f := bd_X5_goesUp_33 (ΛE b) (b + 65) (nI p) (iI s) (nI (P.2.1 + spr s P.1))) P.1 (fun x z => z.1 = nI x ∧ AR z.2 (b + 69) 0 (fun a c => decide (a < x) && T a c) ∧ MF b X0 σ z.2)
    (fun τ => AR τ (b + 69) 0 T ∧ MF b X0 σ τ) (s := ((0 : Int32), σ1)) (n := FU)
    (by
      rintro x ⟨i, τ⟩ hx ⟨c1, c2, c3⟩
      simp only at c1 c2 c3
      subst c1
      have mt := MP_MF mp c3 (fun q => q)
      have ho := off_le (s := s) hx
      unfold bd_X5_goesUp_33
      simp (disch := omega) only [r65_2, l66, gd_nI, nI_cl, ↓reduceIte, mt.1, le_f, nmE, floor_eq hs (show x ≤ 64 by omega), least_eq hs h0 hw, Option.bind_some, off_iI]
      obtain ⟨υ, u1, u2, u3⟩ := iter_for (f := bd_X5_goesUp_69 (ΛE b) (b + 65) (nI p) (iI s) (nI (P.2.1 + spr s P.1)) (nI x) (nI (off s P.1 x))) P.2.1 (fun y z => z.1 = nI y ∧ AR z.2 (b + 69) 0 (fun a c => decide (a < x ∨ (a = x ∧ c < y + off s P.1 x)) && T a c) ∧ MF b X0 σ z.2)
        (fun υ => AR υ (b + 69) 0 (fun a c => decide (a < x + 1) && T a c) ∧ MF b X0 σ υ) (s := ((0 : Int32), τ)) (n := FU)
        (by
          rintro y ⟨j, υ⟩ hy ⟨d1, d2, d3⟩
          simp only at d1 d2 d3
          subst d1
          have mu := MP_MF mp d3 (fun q => q)
          unfold bd_X5_goesUp_69
          simp (disch := omega) only [r65_3, l67, r65_5, l69, gd_nI, nI_cl, ↓reduceIte, mu.2.1, le_f, nmE, has_eq hp mu (show x < 64 by omega) (show y < 64 by omega), Option.bind_some, nar_bI, e64, pk_mul, nI_add, nI_1]
          refine ⟨_, rfl, rfl, ?_, MF_trans d3 (MF_a (Or.inl rfl))⟩
          simp only
          rw [show (y + off s P.1 x) * 64 + x = 0 + (64 * (y + off s P.1 x) + x) by omega]
          refine AR_ext (AR_set (v := P.2.2 x y) d2 (show x < 64 by omega) (show y + off s P.1 x < 64 by omega)) (fun a c _ _ => ?_)
          by_cases e : a = x ∧ c = y + off s P.1 x
          · rw [if_pos e, decide_eq_true (show a < x ∨ (a = x ∧ c < y + 1 + off s P.1 x) by omega), Bool.true_and, hT, e.1, e.2, decide_eq_true hx, decide_eq_true (show off s P.1 x ≤ y + off s P.1 x by omega), show y + off s P.1 x - off s P.1 x = y by omega]
            rfl
          · rw [if_neg e]
            congr 1
            rw [decide_eq_decide]
            omega)
        (by
          rintro ⟨j, υ⟩ ⟨d1, d2, d3⟩
          simp only at d1 d2 d3
          subst d1
          have mu := MP_MF mp d3 (fun q => q)
          unfold bd_X5_goesUp_69
          simp (disch := omega) only [r65_3, l67, gd_nI, nI_cl, ↓reduceIte, mu.2.1, le_t]
          refine ⟨_, rfl, AR_ext d2 (fun a c _ _ => ?_), d3⟩
          cases hg : T a c with
          | false => simp
          | true =>
            rw [hT, Bool.and_eq_true, Bool.and_eq_true, decide_eq_true_eq, decide_eq_true_eq] at hg
            simp only [Bool.and_true]
            rw [decide_eq_decide]
            constructor
            · intro q
              by_cases e : a = x
              · subst e
                have := (gp.2.2.2.2 _ _ hg.2.2).2
                omega
              · omega
            · omega)
        ⟨rfl, AR_ext c2 (fun a c _ _ => by
          cases hg : T a c with
          | false => simp
          | true =>
            simp only [Bool.and_true]
            rw [decide_eq_decide]
            constructor
            · rintro (q | q)
              · exact q
              · rw [hT, Bool.and_eq_true, Bool.and_eq_true, decide_eq_true_eq, decide_eq_true_eq, q.1] at hg
                omega
            · omega), c3⟩ (by show _ < 5000; omega)
      rw [u1, Option.bind_some, nI_1]
      exact ⟨_, rfl, rfl, u2, u3⟩)
    (by
      rintro ⟨i, τ⟩ ⟨c1, c2, c3⟩
      simp only at c1 c2 c3
      subst c1
      have mt := MP_MF mp c3 (fun q => q)
      unfold bd_X5_goesUp_33
      simp (disch := omega) only [r65_2, l66, gd_nI, nI_cl, ↓reduceIte, mt.1, le_t]
      refine ⟨_, rfl, AR_ext c2 (fun a c _ _ => ?_), c3⟩
      cases hg : T a c with
      | false => simp
      | true => rw [decide_eq_true (hTin a c hg)]; rfl)
    ⟨rfl, AR_ext q2 (fun a c _ _ => by simp), q3⟩ (by show _ < 5000; omega)
  have mt := MP_MF mp t3 (fun q => q)
  obtain ⟨υ, u1, u2, u3⟩ := becomes_eq (w := P.1) (h := P.2.1 + spr s P.1) hp t2
  rw [t1, Option.bind_some, if_pos (gd_nI (by omega) (by omega)), mt.1, u1, Option.bind_some]
  refine ⟨_, rfl, ?_, MF_trans (MF_mono t3 (fun q z => z.elim)) u3⟩
  rw [← hTT] at u2
  exact u2
theorem mp_across_t {b p : Nat} {s : Int} {σ : Sto} {D : Desk} (h : MR b σ D) (G : GD D) (hp : p < dN D) (hs : okS s) (hw : (dP D p).1 + spr s (dP D p).2.1 ≤ 64) :
    ∃ τ, F_X5_across (ΛE b) σ (b + 65) (nI p) (iI s) = some (nI (acrossP s (dP D p)).1, τ) ∧ MR b τ (setP (pushD D p 0) p (acrossP s (dP D p))) ∧ KF b σ τ := by
  obtain ⟨h1, k1, -⟩ := mr0 (v := 0) h
  have gp := G.2.1 p hp
  have gp0 := gp
  have g1 := G.1
  unfold okP at gp
  unfold F_X5_across
  rw [nmE]
  generalize stI σ (b + 65) 0 0 = σ1 at *
  have mp := h1.2.1 p hp
  obtain ⟨τ, q1, q2, q3, -⟩ := changing_eq h1 G hp
  have mq : MP b τ p (dP D p) := q2.2.1 p hp
  obtain ⟨υ, u1, u2, u3⟩ := goesAcross_eq (show p < 8 by omega) mq gp0 hs hw
  rw [nmE, isPage_t h1 g1 hp, if_neg (by decide), nmE, shearM_t hs, if_neg (by decide), r65_2, l66, if_pos (gd_nI (by omega) (by omega)), r65_3, l67, if_pos (gd_nI (by omega) (by omega)), nI_cl (by omega), mp.1, mp.2.1, most_eq hs (by omega) (by omega), Option.bind_some, nI_add, e64, if_pos (nI_le hw (by omega)), q1, Option.bind_some, u1, Option.bind_some, if_pos (gd_nI (by omega) (by omega)), u2.1]
  exact ⟨_, rfl, MR_chg q2 u3 u2, KF_trans k1 (KF_trans q3 (MF_KF u3))⟩
theorem mp_across_f {b : Nat} {q x : Int32} {σ : Sto} {D : Desk} (hc : MR b σ D) (G : GD D) (hn : ¬ ∃ p s, p < dN D ∧ okS s ∧ (dP D p).1 + spr s (dP D p).2.1 ≤ 64 ∧ q = nI p ∧ x = iI s) : F_X5_across (ΛE b) σ (b + 65) q x = some (-1, stI σ (b + 65) 0 0) := by
  obtain ⟨h1, k1, -⟩ := mr0 (v := 0) hc
  unfold F_X5_across
  rw [nmE]
  generalize stI σ (b + 65) 0 0 = σ1 at *
  rw [nmE]
  by_cases c1 : ∃ p, p < dN D ∧ q = nI p
  · obtain ⟨p, hp, rfl⟩ := c1
    have g1 := G.1
    have gp := G.2.1 p hp
    unfold okP at gp
    have mp := h1.2.1 p hp
    rw [isPage_t h1 g1 hp, if_neg (by decide), nmE]
    by_cases c2 : ∃ s, okS s ∧ x = iI s
    · obtain ⟨s, hs, rfl⟩ := c2
      have hsp := spr_bd (n := (dP D p).2.1) hs (by omega)
      rw [shearM_t hs, if_neg (by decide), r65_2, l66, if_pos (gd_nI (by omega) (by omega)), r65_3, l67, if_pos (gd_nI (by omega) (by omega)), nI_cl (by omega), mp.1, mp.2.1, most_eq hs (by omega) (by omega), Option.bind_some, nI_add, e64, if_neg (nI_ge (Nat.lt_of_not_le fun q => hn ⟨p, s, hp, hs, q, rfl, rfl⟩) (by omega))]
    · rw [shearM_f c2, if_pos nI_0]
  · rw [isPage_f h1 G.1 c1, if_pos nI_0]
theorem mp_upright_t {b p : Nat} {s : Int} {σ : Sto} {D : Desk} (h : MR b σ D) (G : GD D) (hp : p < dN D) (hs : okS s) (hw : (dP D p).2.1 + spr s (dP D p).1 ≤ 64) :
    ∃ τ, F_X5_upright (ΛE b) σ (b + 65) (nI p) (iI s) = some (nI (uprightP s (dP D p)).2.1, τ) ∧ MR b τ (setP (pushD D p 0) p (uprightP s (dP D p))) ∧ KF b σ τ := by
  obtain ⟨h1, k1, -⟩ := mr0 (v := 0) h
  have gp := G.2.1 p hp
  have gp0 := gp
  have g1 := G.1
  unfold okP at gp
  unfold F_X5_upright
  rw [nmE]
  generalize stI σ (b + 65) 0 0 = σ1 at *
  have mp := h1.2.1 p hp
  obtain ⟨τ, q1, q2, q3, -⟩ := changing_eq h1 G hp
  have mq : MP b τ p (dP D p) := q2.2.1 p hp
  obtain ⟨υ, u1, u2, u3⟩ := goesUp_eq (show p < 8 by omega) mq gp0 hs hw
  rw [nmE, isPage_t h1 g1 hp, if_neg (by decide), nmE, shearM_t hs, if_neg (by decide), r65_3, l67, if_pos (gd_nI (by omega) (by omega)), r65_2, l66, if_pos (gd_nI (by omega) (by omega)), nI_cl (by omega), mp.1, mp.2.1, most_eq hs (by omega) (by omega), Option.bind_some, nI_add, e64, if_pos (nI_le hw (by omega)), q1, Option.bind_some, u1, Option.bind_some, if_pos (gd_nI (by omega) (by omega)), u2.2.1]
  exact ⟨_, rfl, MR_chg q2 u3 u2, KF_trans k1 (KF_trans q3 (MF_KF u3))⟩
theorem mp_upright_f {b : Nat} {q x : Int32} {σ : Sto} {D : Desk} (hc : MR b σ D) (G : GD D) (hn : ¬ ∃ p s, p < dN D ∧ okS s ∧ (dP D p).2.1 + spr s (dP D p).1 ≤ 64 ∧ q = nI p ∧ x = iI s) : F_X5_upright (ΛE b) σ (b + 65) q x = some (-1, stI σ (b + 65) 0 0) := by
  obtain ⟨h1, k1, -⟩ := mr0 (v := 0) hc
  unfold F_X5_upright
  rw [nmE]
  generalize stI σ (b + 65) 0 0 = σ1 at *
  rw [nmE]
  by_cases c1 : ∃ p, p < dN D ∧ q = nI p
  · obtain ⟨p, hp, rfl⟩ := c1
    have g1 := G.1
    have gp := G.2.1 p hp
    unfold okP at gp
    have mp := h1.2.1 p hp
    rw [isPage_t h1 g1 hp, if_neg (by decide), nmE]
    by_cases c2 : ∃ s, okS s ∧ x = iI s
    · obtain ⟨s, hs, rfl⟩ := c2
      have hsp := spr_bd (n := (dP D p).1) hs (by omega)
      rw [shearM_t hs, if_neg (by decide), r65_3, l67, if_pos (gd_nI (by omega) (by omega)), r65_2, l66, if_pos (gd_nI (by omega) (by omega)), nI_cl (by omega), mp.1, mp.2.1, most_eq hs (by omega) (by omega), Option.bind_some, nI_add, e64, if_neg (nI_ge (Nat.lt_of_not_le fun q => hn ⟨p, s, hp, hs, q, rfl, rfl⟩) (by omega))]
    · rw [shearM_f c2, if_pos nI_0]
  · rw [isPage_f h1 G.1 c1, if_pos nI_0]
theorem mp_turn_t {b p : Nat} {s u : Int} {σ : Sto} {D : Desk} (h : MR b σ D) (G : GD D) (hp : p < dN D) (hs : okS s) (hu : okS u) (hc : canP (dP D p) s u) :
    ∃ τ, F_X5_turn (ΛE b) σ (b + 65) (nI p) (iI s) (iI u) = some (1, τ) ∧ MR b τ (setP (pushD D p 0) p (turnP s u (dP D p))) ∧ KF b σ τ := by
  obtain ⟨h1, k1, -⟩ := mr0 (v := 0) h
  have gp := G.2.1 p hp
  have gp0 := gp
  have g1 := G.1
  have hc0 := hc
  unfold okP at gp
  unfold canP at hc
  unfold F_X5_turn
  rw [nmE]
  generalize stI σ (b + 65) 0 0 = σ1 at *
  have mp := h1.2.1 p hp
  obtain ⟨τ, q1, q2, q3, -⟩ := changing_eq h1 G hp
  have mq : MP b τ p (dP D p) := q2.2.1 p hp
  obtain ⟨τ1, u1, u2, u3⟩ := goesAcross_eq (show p < 8 by omega) mq gp0 hs hc.1
  have o1 := across_ok gp0 hs hc.1
  obtain ⟨τ2, v1, v2, v3⟩ := goesUp_eq (show p < 8 by omega) u2 o1 hu hc.2.1
  have o2 := upright_ok o1 hu hc.2.1
  obtain ⟨τ3, x1, x2, x3⟩ := goesAcross_eq (show p < 8 by omega) v2 o2 hs hc.2.2
  rw [nmE, isPage_t h1 g1 hp, if_neg (by decide), nmE, shearM_t hs, if_neg (by decide), nmE, shearM_t hu, if_neg (by decide), r65_2, l66, if_pos (gd_nI (by omega) (by omega)), r65_3, l67, if_pos (gd_nI (by omega) (by omega)), nI_cl (by omega), mp.1, mp.2.1, most_eq hs (by omega) (by omega), Option.bind_some, nmE, nI_add, e64, if_pos (nI_le hc.1 (by omega)), if_pos (gd_nI (by omega) (by omega)), most_eq hu (by omega) (by omega), Option.bind_some, nI_add]
  unfold jp_X5_turn_73
  rw [e64, if_neg (nI_nlt hc.1 (by omega)), if_neg (nI_nlt hc.2.1 (by omega)), most_eq hs (by omega) (by omega), Option.bind_some, nI_add, if_pos (nI_le hc.2.2 (by omega)), q1, Option.bind_some, u1, Option.bind_some]
  simp only
  rw [if_neg (by decide), v1, Option.bind_some]
  simp only
  rw [if_neg (by decide), x1, Option.bind_some]
  simp only
  rw [if_neg (by decide)]
  exact ⟨_, rfl, MR_chg q2 (MF_trans u3 (MF_trans v3 x3)) x2, KF_trans k1 (KF_trans q3 (KF_trans (MF_KF u3) (KF_trans (MF_KF v3) (MF_KF x3))))⟩
theorem mp_turn_f {b : Nat} {q x y : Int32} {σ : Sto} {D : Desk} (hc : MR b σ D) (G : GD D) (hn : ¬ ∃ p s u, p < dN D ∧ okS s ∧ okS u ∧ canP (dP D p) s u ∧ q = nI p ∧ x = iI s ∧ y = iI u) : F_X5_turn (ΛE b) σ (b + 65) q x y = some (0, stI σ (b + 65) 0 0) := by
  obtain ⟨h1, k1, -⟩ := mr0 (v := 0) hc
  unfold F_X5_turn
  rw [nmE]
  generalize stI σ (b + 65) 0 0 = σ1 at *
  rw [nmE]
  by_cases c1 : ∃ p, p < dN D ∧ q = nI p
  · obtain ⟨p, hp, rfl⟩ := c1
    have g1 := G.1
    have gp := G.2.1 p hp
    unfold okP at gp
    have mp := h1.2.1 p hp
    rw [isPage_t h1 g1 hp, if_neg (by decide), nmE]
    by_cases c2 : ∃ s, okS s ∧ x = iI s
    · obtain ⟨s, hs, rfl⟩ := c2
      rw [shearM_t hs, if_neg (by decide), nmE]
      by_cases c3 : ∃ s, okS s ∧ y = iI s
      · obtain ⟨u, hu, rfl⟩ := c3
        have hca : ¬ canP (dP D p) s u := fun z => hn ⟨p, s, u, hp, hs, hu, z, rfl, rfl, rfl⟩
        unfold canP at hca
        have b1 := spr_bd (n := (dP D p).2.1) hs (by omega)
        rw [shearM_t hu, if_neg (by decide), r65_2, l66, if_pos (gd_nI (by omega) (by omega)), r65_3, l67, if_pos (gd_nI (by omega) (by omega)), nI_cl (by omega), mp.1, mp.2.1, most_eq hs (by omega) (by omega), Option.bind_some, nmE, nI_add, e64]
        unfold jp_X5_turn_73
        by_cases c4 : (dP D p).1 + spr s (dP D p).2.1 ≤ 64
        · have b2 := spr_bd (n := (dP D p).1 + spr s (dP D p).2.1) hu (by omega)
          rw [if_pos (nI_le c4 (by omega)), if_pos (gd_nI (by omega) (by omega)), most_eq hu (by omega) (by omega), Option.bind_some, nI_add, e64, if_neg (nI_nlt c4 (by omega))]
          by_cases c5 : (dP D p).2.1 + spr u ((dP D p).1 + spr s (dP D p).2.1) ≤ 64
          · have b3 := spr_bd (n := (dP D p).2.1 + spr u ((dP D p).1 + spr s (dP D p).2.1)) hs (by omega)
            rw [if_neg (nI_nlt c5 (by omega)), most_eq hs (by omega) (by omega), Option.bind_some, nI_add, if_neg (nI_ge (Nat.lt_of_not_le fun c6 => hca ⟨c4, c5, c6⟩) (by omega))]
          · rw [if_pos (nI_lt (by omega) (by omega))]
        · rw [if_neg (nI_ge (by omega) (by omega)), e64, if_pos (nI_lt (by omega) (by omega))]
      · rw [shearM_f c3, if_pos nI_0]
    · rw [shearM_f c2, if_pos nI_0]
  · rw [isPage_f h1 G.1 c1, if_pos nI_0]
