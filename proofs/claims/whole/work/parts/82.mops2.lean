/-! THE REFERENCE'S CALLS, going on: lay, unlike, back, shears -/
theorem MR_forg {b : Nat} {σ : Sto} {D : Desk} (h : MR b σ D) : MR b (stI σ (b + 65) 6 0) (forgD D) ∧ KF b σ (stI σ (b + 65) 6 0) := by
  obtain ⟨a1, a2, a3, ⟨nw, n1, n2, n3⟩, a5, a6⟩ := h
  have o : ∀ c, c ≠ b + 65 → (stI σ (b + 65) 6 0).1 c = σ.1 c := fun c hc => by rw [stI_1, up2_ne _ _ _ hc]
  have s : ∀ k, k ≠ 6 → (stI σ (b + 65) 6 0).1 (b + 65) k = σ.1 (b + 65) k := fun k hk => by rw [stI_1, up2_nk _ _ _ hk]
  refine ⟨⟨?_, fun q hq => ?_, ?_, ⟨nw, n1, ?_, fun i hi => absurd hi (Nat.not_lt_zero i)⟩, ⟨?_, fun x y q => ?_⟩, ⟨?_, fun j hj => ?_⟩⟩, KF_stI (by omega) (by omega)⟩
  · rw [s 1 (by decide)]; exact a1
  · have := a2 q hq
    exact ⟨by rw [o _ (by omega)]; exact this.1, by rw [o _ (by omega)]; exact this.2.1, AR_cong this.2.2 (fun k _ => by rw [o _ (by omega)])⟩
  · rw [stI_1, up2_self]; rfl
  · rw [s 7 (by decide)]; exact n2
  · rw [s 19 (by decide)]; exact a5.1
  · rw [o _ (by omega), o _ (by omega)]; exact a5.2 x y q
  · rw [s 22 (by decide)]; exact a6.1
  · rw [o _ (by omega)]; exact a6.2 j hj
theorem eb0 : F_X4_entryBits (nI 0) = 255 := by decide
theorem eb1 : F_X4_entryBits (nI 1) = 65535 := by decide
theorem eb2 : F_X4_entryBits (nI 2) = 4294967295 := by decide
theorem eb3 : F_X4_entryBits (nI 3) = -1 := by decide
theorem and_m1 (v : Int64) : v &&& -1 = v := tb_ext (fun i hi => by rw [tb_and, tb_m1, decide_eq_true hi, Bool.and_true])
theorem lay_next {P : PG} {y kd k : Nat} {f st : Int64} (a c : Nat) : (layP P y kd f st (k + 1)).2.2 a c = (lineP (layP P y kd f st k) (y + k) (layV y kd f st (y + k))).2.2 a c := by
  show (if y ≤ c ∧ c < y + (k + 1) then decide (a < P.1) && tb (layV y kd f st c) a else P.2.2 a c) = (if c = y + k then decide (a < P.1) && tb (layV y kd f st (y + k)) a else (if y ≤ c ∧ c < y + k then decide (a < P.1) && tb (layV y kd f st c) a else P.2.2 a c))
  by_cases e1 : c = y + k
  · rw [if_pos (by omega), if_pos e1, e1]
  · rw [if_neg e1]
    by_cases e2 : y ≤ c ∧ c < y + k
    · rw [if_pos (by omega), if_pos e2]
    · rw [if_neg (by omega), if_neg e2]
theorem mp_lay_b {b p y kd n : Nat} {f st : Int64} {σ : Sto} {D : Desk} (h : MR b σ D) (G : GD D) (hp : p < dN D) (hy : y < (dP D p).2.1) (hkd : kd < 4) (hn : n ≤ 64) :
    ∃ τ, F_X5_lay (ΛE b) σ (b + 65) (nI p) (nI y) (nI kd) (nI n) f st = some (nI (min n ((dP D p).2.1 - y)), τ) ∧ MR b τ (setP (forgD D) p (layP (dP D p) y kd f st (min n ((dP D p).2.1 - y)))) ∧ KF b σ τ := by
  obtain ⟨h1, k1, -⟩ := mr0 (v := 0) h
  have gp := G.2.1 p hp
  have gp0 := gp
  have g1 := G.1
  unfold okP at gp
  unfold F_X5_lay
  rw [nmE]
  generalize stI σ (b + 65) 0 0 = σ1 at *
  rw [e0, isPoint_t h1 G hp (show 0 < (dP D p).1 by omega) hy, Option.bind_some, if_neg (by decide), nmE, w0, w4, in_w, e0, e4, within_t (by omega) (by omega) (by omega), if_neg (by decide), e64, if_pos (nI_le hn (by omega)), if_pos (nI_le (by omega) (by omega))]
  unfold jp_X5_lay_49
  obtain ⟨h2, k2⟩ := MR_forg h1
  rw [nmE]
  generalize stI σ1 (b + 65) 6 0 = σ2 at *
  have mp : MP b σ2 p (dP D p) := h2.2.1 p hp
  rw [e4, if_neg (fun q => by have := (nI_eq (by omega) (by omega)).mp q; omega), r65_3, l67, if_pos (gd_nI (by omega) (by omega)), nI_cl (by omega), mp.2.1, nmE, nI_sb (by omega), mn_nI (by omega) (by omega)]
  unfold jp_X5_lay_76
  generalize hm : min n ((dP D p).2.1 - y) = m
  have hm2 : y + m ≤ (dP D p).2.1 := by omega
  obtain ⟨τ, t1, t2, t3⟩ := iter_for (f := bd_X5_lay_81 (ΛE b) (b + 65) (nI p) (nI y) (nI kd) f st (nI m)) m (fun k s => s.1 = nI k ∧ MP b s.2 p (layP (dP D p) y kd f st k) ∧ MF b (fun q => q = p) σ2 s.2)
    (fun τ => MP b τ p (layP (dP D p) y kd f st m) ∧ MF b (fun q => q = p) σ2 τ) (s := ((0 : Int32), σ2)) (n := FU)
    (by
      rintro k ⟨i, τ⟩ hk ⟨c1, c2, c3⟩
      simp only at c1 c2 c3
      subst c1
      have ok := layP_ok (kd := kd) (f := f) (st := st) (y := y) (m := k) gp0 (by omega)
      have fin : ∀ z, z = layV y kd f st (y + k) → ∃ t, jp_X5_lay_148 (ΛE b) τ (b + 65) (nI p) (nI y) (nI kd) f st (nI m) (nI k) z (nI (y + k)) (nI p) (b + 65) = some (.inl t) ∧ t.1 = nI (k + 1) ∧ MP b t.2 p (layP (dP D p) y kd f st (k + 1)) ∧ MF b (fun q => q = p) σ2 t.2 := by
        intro z hz
        subst hz
        obtain ⟨υ, w1, w2, w3⟩ := lays_eq (v := layV y kd f st (y + k)) (show p < 8 by omega) c2 ok (show y + k < (dP D p).2.1 by omega)
        unfold jp_X5_lay_148
        rw [w1, Option.bind_some, nmE, nI_1]
        exact ⟨_, rfl, rfl, MP_ext w2 rfl rfl (fun a c _ _ => lay_next a c), MF_trans c3 w3⟩
      unfold bd_X5_lay_81
      simp (disch := omega) only [le_f, ↓reduceIte, nmE, nI_add, e0, e1, e2]
      have ev : layV y kd f st (y + k) = (f + (nI k).toInt64 * st) &&& F_X4_entryBits (nI kd) := by
        unfold layV
        rw [show y + k - y = k by omega]
      rcases (show kd = 0 ∨ kd = 1 ∨ kd = 2 ∨ kd = 3 by omega) with q | q | q | q
      · subst q
        rw [eb0] at ev
        rw [if_pos rfl]
        exact fin _ ev.symm
      · subst q
        rw [eb1] at ev
        rw [if_neg (by decide), if_pos rfl]
        exact fin _ ev.symm
      · subst q
        rw [eb2] at ev
        rw [if_neg (by decide), if_neg (by decide), if_pos rfl]
        exact fin _ ev.symm
      · subst q
        rw [eb3, and_m1] at ev
        rw [if_neg (by decide), if_neg (by decide), if_neg (by decide)]
        exact fin _ ev.symm)
    (by
      rintro ⟨i, τ⟩ ⟨c1, c2, c3⟩
      simp only at c1 c2 c3
      subst c1
      unfold bd_X5_lay_81
      simp (disch := omega) only [le_t, ↓reduceIte]
      exact ⟨_, rfl, c2, c3⟩)
    ⟨rfl, MP_ext mp rfl rfl (fun a c _ _ => by show (if y ≤ c ∧ c < y + 0 then _ else (dP D p).2.2 a c) = (dP D p).2.2 a c; rw [if_neg (by omega)]), MF_refl _ _ _⟩ (by show _ < 5000; omega)
  rw [t1, Option.bind_some]
  exact ⟨_, rfl, MR_page h2 t3 t2, KF_trans k1 (KF_trans k2 (MF_KF t3))⟩
theorem mp_lay_a {b p y : Nat} {n : Int32} {f st : Int64} {σ : Sto} {D : Desk} (h : MR b σ D) (G : GD D) (hp : p < dN D) (hy : y < (dP D p).2.1) (hn : n ≤ 64) :
    ∃ τ, F_X5_lay (ΛE b) σ (b + 65) (nI p) (nI y) (nI 4) n f st = some (nI 0, τ) ∧ MR b τ (forgD D) ∧ KF b σ τ := by
  obtain ⟨h1, k1, -⟩ := mr0 (v := 0) h
  have gp := G.2.1 p hp
  have g1 := G.1
  unfold okP at gp
  unfold F_X5_lay
  rw [nmE]
  generalize stI σ (b + 65) 0 0 = σ1 at *
  rw [show F_X5_isPoint (ΛE b) σ1 (b + 65) (nI p) 0 (nI y) = some (nI 1) from isPoint_t h1 G hp (show 0 < (dP D p).1 by omega) hy, Option.bind_some, if_neg (by decide), nmE, w0, w4, in_w, show F_X4_within (nI 4) 0 4 = nI 1 from within_t (lo := 0) (hi := 4) (by omega) (by omega) (by omega), if_neg (by decide), if_pos hn, if_pos (show (4 : Int32) ≤ nI 4 by decide)]
  obtain ⟨h2, k2⟩ := MR_forg h1
  have fin : jp_X5_lay_49 (ΛE b) σ1 (b + 65) (nI p) (nI y) (nI 4) n f st = some (nI 0, stI σ1 (b + 65) 6 0) := by
    unfold jp_X5_lay_49 jp_X5_lay_76
    rw [nmE, if_pos (show nI 4 = (4 : Int32) from rfl)]
    have : iter (bd_X5_lay_81 (ΛE b) (b + 65) (nI p) (nI y) (nI 4) f st 0) FU (0, stI σ1 (b + 65) 6 0) = some (stI σ1 (b + 65) 6 0) := by
      refine run_loop (fun _ => ((0 : Int32), stI σ1 (b + 65) 6 0)) _ 0 (by omega) rfl (fun k hk => absurd hk (Nat.not_lt_zero k)) ?_
      unfold bd_X5_lay_81
      simp only [e0]
      rw [if_pos (nI_le (by omega) (by omega))]
    rw [this, Option.bind_some]; rfl
  rw [fin, ite_self]
  exact ⟨_, rfl, h2, KF_trans k1 k2⟩
theorem mp_lay_c {b p y kd : Nat} {n : Int32} {f st : Int64} {σ : Sto} {D : Desk} (h : MR b σ D) (G : GD D) (hp : p < dN D) (hy : y < (dP D p).2.1) (hkd : kd < 4) (hn : n < 0) : F_X5_lay (ΛE b) σ (b + 65) (nI p) (nI y) (nI kd) n f st = some (-2, stI σ (b + 65) 0 0) := by
  obtain ⟨h1, k1, -⟩ := mr0 (v := 0) h
  have gp := G.2.1 p hp
  have g1 := G.1
  unfold okP at gp
  unfold F_X5_lay
  rw [nmE]
  generalize stI σ (b + 65) 0 0 = σ1 at *
  have n1 : n ≤ 64 := by
    rw [le32]; rw [lt32] at hn
    have e1 : (0 : Int32).toInt = 0 := by decide
    have e2 : (64 : Int32).toInt = 64 := by decide
    omega
  have n2 : ¬ 0 ≤ n := by
    rw [le32]; rw [lt32] at hn
    omega
  rw [show F_X5_isPoint (ΛE b) σ1 (b + 65) (nI p) 0 (nI y) = some (nI 1) from isPoint_t h1 G hp (show 0 < (dP D p).1 by omega) hy, Option.bind_some, if_neg (by decide), nmE, w0, w4, in_w, show F_X4_within (nI kd) 0 4 = nI 1 from within_t (lo := 0) (hi := 4) (by omega) (by omega) (by omega), if_neg (by decide), if_pos n1, if_neg n2, if_neg (show ¬ (4 : Int32) ≤ nI kd from nI_ge (a := kd) (b := 4) hkd (by omega))]
theorem mp_lay_f {b : Nat} {q y k n : Int32} {f st : Int64} {σ : Sto} {D : Desk} (hc : MR b σ D) (G : GD D) (hn : ¬ ((∃ p j, p < dN D ∧ j < (dP D p).2.1 ∧ q = nI p ∧ y = nI j) ∧ (∃ kd, kd ≤ 4 ∧ k = nI kd) ∧ n ≤ 64)) : F_X5_lay (ΛE b) σ (b + 65) q y k n f st = some (-1, stI σ (b + 65) 0 0) := by
  obtain ⟨h1, k1, -⟩ := mr0 (v := 0) hc
  unfold F_X5_lay
  rw [nmE]
  generalize stI σ (b + 65) 0 0 = σ1 at *
  by_cases c1 : ∃ p j, p < dN D ∧ j < (dP D p).2.1 ∧ q = nI p ∧ y = nI j
  · have c0 := c1
    obtain ⟨p, j, hp, hj, rfl, rfl⟩ := c1
    have gp := G.2.1 p hp
    unfold okP at gp
    rw [show F_X5_isPoint (ΛE b) σ1 (b + 65) (nI p) 0 (nI j) = some (nI 1) from isPoint_t h1 G hp (show 0 < (dP D p).1 by omega) hj, Option.bind_some, if_neg (by decide), nmE, w0, w4, in_w]
    by_cases c2 : ∃ kd, kd ≤ 4 ∧ k = nI kd
    · have c3 : ¬ n ≤ 64 := fun c3 => hn ⟨c0, c2, c3⟩
      obtain ⟨kd, kd1, rfl⟩ := c2
      rw [if_neg c3, ite_self]
    · rw [show F_X4_within k 0 4 = nI 0 from within_f (lo := 0) (hi := 4) (by omega) (fun ⟨z, z1, z2, z3⟩ => c2 ⟨z, z2, z3⟩) (by omega), if_pos nI_0]
  · rw [isPoint_f h1 G (fun ⟨p, i, j, p1, _, p3, p4, _, p6⟩ => c1 ⟨p, j, p1, p3, p4, p6⟩), Option.bind_some, if_pos nI_0]
-- unlike
theorem un_row {b p q y : Nat} {σ : Sto} {P Q : PG} (hp : p < 8) (hq : q < 8) (mp : MP b σ p P) (mq : MP b σ q Q) (hP : okP P) (hQ : okP Q) (e1 : P.1 = Q.1) (hy : y < 64) :
    iter (bd_X5_unlike_72 (ΛE b) σ (b + 65) (nI p) (nI q) (nI y)) FU (0 : Int32) = some (if rowNe P Q y = true then Sum.inl () else Sum.inr ()) := by
  have hw : P.1 ≤ 64 := hP.2.1
  have hl := fa_first_le (fun x => P.2.2 x y != Q.2.2 x y) P.1
  obtain ⟨r, h1, h2⟩ := iter_for (f := bd_X5_unlike_72 (ΛE b) σ (b + 65) (nI p) (nI q) (nI y)) (fa_first (fun x => P.2.2 x y != Q.2.2 x y) P.1) (fun k s => s = nI k)
    (fun e => e = if fa_first (fun x => P.2.2 x y != Q.2.2 x y) P.1 < P.1 then Sum.inl () else Sum.inr ()) (s := (0 : Int32)) (n := FU)
    (by
      rintro k s hk rfl
      have hno := fa_first_no (fun x => P.2.2 x y != Q.2.2 x y) P.1 k hk
      unfold bd_X5_unlike_72
      simp (disch := omega) only [r65_2, l66, gd_nI, nI_cl, ↓reduceIte, mp.1, le_f, has_eq hp mp (show k < 64 by omega) hy, has_eq hq mq (show k < 64 by omega) hy, Option.bind_some, nmE, e1, nI_1]
      have : P.2.2 k y = Q.2.2 k y := by simpa using hno
      rw [this, if_pos rfl]
      exact ⟨_, rfl, rfl⟩)
    (by
      rintro s rfl
      unfold bd_X5_unlike_72
      by_cases e : fa_first (fun x => P.2.2 x y != Q.2.2 x y) P.1 < P.1
      · have hy2 := fa_first_yes (fun x => P.2.2 x y != Q.2.2 x y) P.1 e
        simp (disch := omega) only [r65_2, l66, gd_nI, nI_cl, ↓reduceIte, mp.1, le_f, has_eq hp mp (show fa_first (fun x => P.2.2 x y != Q.2.2 x y) P.1 < 64 by omega) hy, has_eq hq mq (show fa_first (fun x => P.2.2 x y != Q.2.2 x y) P.1 < 64 by omega) hy, Option.bind_some]
        rw [if_pos e, if_neg (fun c => by
          have c2 : P.2.2 (fa_first (fun x => P.2.2 x y != Q.2.2 x y) P.1) y = Q.2.2 (fa_first (fun x => P.2.2 x y != Q.2.2 x y) P.1) y := by
            revert c
            cases P.2.2 (fa_first (fun x => P.2.2 x y != Q.2.2 x y) P.1) y <;> cases Q.2.2 (fa_first (fun x => P.2.2 x y != Q.2.2 x y) P.1) y <;> decide
          rw [c2] at hy2
          simp at hy2)]
        exact ⟨_, rfl, rfl⟩
      · rw [if_neg e]
        simp (disch := omega) only [r65_2, l66, gd_nI, nI_cl, ↓reduceIte, mp.1, le_t]
        exact ⟨_, rfl, rfl⟩)
    rfl (by show _ < 5000; omega)
  rw [h1, h2]
  have : (fa_first (fun x => P.2.2 x y != Q.2.2 x y) P.1 < P.1) ↔ rowNe P Q y = true := by
    unfold rowNe
    rw [anyB_iff]
    constructor
    · intro e
      exact ⟨_, by omega, fa_first_yes (fun x => P.2.2 x y != Q.2.2 x y) P.1 e⟩
    · rintro ⟨x, x1, x2⟩
      have hx : x < P.1 := by
        rcases Nat.lt_or_ge x P.1 with z | z
        · exact z
        · have a1 : P.2.2 x y = false := by
            cases hc : P.2.2 x y with
            | false => rfl
            | true => have := (hP.2.2.2.2 x y hc).1; omega
          have a2 : Q.2.2 x y = false := by
            cases hc : Q.2.2 x y with
            | false => rfl
            | true => have := (hQ.2.2.2.2 x y hc).1; omega
          rw [a1, a2] at x2
          simp at x2
      have := first_lt (p := fun x => P.2.2 x y != Q.2.2 x y) hx x2
      omega
  by_cases c : fa_first (fun x => P.2.2 x y != Q.2.2 x y) P.1 < P.1
  · rw [if_pos c, if_pos (this.mp c)]
  · rw [if_neg c, if_neg (fun q => c (this.mpr q))]
theorem mp_unlike_t {b p q : Nat} {σ : Sto} {D : Desk} (h : MR b σ D) (G : GD D) (hp : p < dN D) (hq : q < dN D) (e1 : (dP D p).1 = (dP D q).1) (e2 : (dP D p).2.1 = (dP D q).2.1) : F_X5_unlike (ΛE b) σ (b + 65) (nI p) (nI q) = some (unP (dP D p) (dP D q), stI σ (b + 65) 0 0) := by
  obtain ⟨h1, k1, -⟩ := mr0 (v := 0) h
  have g1 := G.1
  have gp := G.2.1 p hp
  have gq := G.2.1 q hq
  have gp0 := gp
  have gq0 := gq
  unfold okP at gp gq
  unfold F_X5_unlike
  rw [nmE]
  generalize stI σ (b + 65) 0 0 = σ1 at *
  have mp := h1.2.1 p hp
  have mq := h1.2.1 q hq
  rw [nmE, isPage_t h1 g1 hp, if_neg (by decide), nmE, isPage_t h1 g1 hq, if_neg (by decide)]
  simp (disch := omega) only [r65_2, l66, r65_3, l67, gd_nI, nI_cl, ↓reduceIte, mp.1, mq.1, mp.2.1, mq.2.1, ← e1, ← e2]
  have hl := fa_first_le (rowNe (dP D p) (dP D q)) (dP D p).2.1
  obtain ⟨r, i1, i2⟩ := iter_for (f := bd_X5_unlike_59 (ΛE b) σ1 (b + 65) (nI p) (nI q)) (fa_first (rowNe (dP D p) (dP D q)) (dP D p).2.1) (fun k s => s = nI k)
    (fun e => e = if fa_first (rowNe (dP D p) (dP D q)) (dP D p).2.1 < (dP D p).2.1 then Sum.inl (nI (fa_first (rowNe (dP D p) (dP D q)) (dP D p).2.1)) else Sum.inr ()) (s := (0 : Int32)) (n := FU)
    (by
      rintro k s hk rfl
      unfold bd_X5_unlike_59
      simp (disch := omega) only [r65_3, l67, gd_nI, nI_cl, ↓reduceIte, mp.2.1, le_f]
      rw [un_row (by omega) (by omega) mp mq gp0 gq0 e1 (by omega), fa_first_no _ _ k hk, if_neg (by decide), Option.bind_some]
      exact ⟨_, rfl, nI_1 k⟩)
    (by
      rintro s rfl
      unfold bd_X5_unlike_59
      by_cases e : fa_first (rowNe (dP D p) (dP D q)) (dP D p).2.1 < (dP D p).2.1
      · simp (disch := omega) only [r65_3, l67, gd_nI, nI_cl, ↓reduceIte, mp.2.1, le_f]
        rw [un_row (by omega) (by omega) mp mq gp0 gq0 e1 (by omega), fa_first_yes _ _ e, if_pos rfl, Option.bind_some, if_pos e]
        exact ⟨_, rfl, rfl⟩
      · simp (disch := omega) only [r65_3, l67, gd_nI, nI_cl, ↓reduceIte, mp.2.1, le_t]
        rw [if_neg e]
        exact ⟨_, rfl, rfl⟩)
    rfl (by show _ < 5000; omega)
  rw [i1, Option.bind_some, i2]
  unfold unP
  by_cases e : fa_first (rowNe (dP D p) (dP D q)) (dP D p).2.1 < (dP D p).2.1
  · rw [if_pos e, if_pos e]; rfl
  · rw [if_neg e, if_neg e]; rfl
theorem mp_unlike_n {b p q : Nat} {σ : Sto} {D : Desk} (h : MR b σ D) (G : GD D) (hp : p < dN D) (hq : q < dN D) (hn : ¬ ((dP D p).1 = (dP D q).1 ∧ (dP D p).2.1 = (dP D q).2.1)) : F_X5_unlike (ΛE b) σ (b + 65) (nI p) (nI q) = some (100, stI σ (b + 65) 0 0) := by
  obtain ⟨h1, k1, -⟩ := mr0 (v := 0) h
  have g1 := G.1
  have gp := G.2.1 p hp
  have gq := G.2.1 q hq
  unfold okP at gp gq
  unfold F_X5_unlike
  rw [nmE]
  generalize stI σ (b + 65) 0 0 = σ1 at *
  have mp := h1.2.1 p hp
  have mq := h1.2.1 q hq
  rw [nmE, isPage_t h1 g1 hp, if_neg (by decide), nmE, isPage_t h1 g1 hq, if_neg (by decide)]
  simp (disch := omega) only [r65_2, l66, r65_3, l67, gd_nI, nI_cl, ↓reduceIte, mp.1, mq.1, mp.2.1, mq.2.1]
  by_cases c1 : (dP D p).1 = (dP D q).1
  · have c2 : ¬ (dP D p).2.1 = (dP D q).2.1 := fun c2 => hn ⟨c1, c2⟩
    simp (disch := omega) only [eq_f, ↓reduceIte, ite_self]
  · simp (disch := omega) only [eq_f, ↓reduceIte, ite_self]
theorem mp_unlike_f {b : Nat} {x z : Int32} {σ : Sto} {D : Desk} (hc : MR b σ D) (G : GD D) (hn : ¬ ((∃ p, p < dN D ∧ x = nI p) ∧ (∃ p, p < dN D ∧ z = nI p))) : F_X5_unlike (ΛE b) σ (b + 65) x z = some (-2, stI σ (b + 65) 0 0) := by
  obtain ⟨h1, k1, -⟩ := mr0 (v := 0) hc
  unfold F_X5_unlike
  rw [nmE]
  generalize stI σ (b + 65) 0 0 = σ1 at *
  rw [nmE]
  by_cases c1 : ∃ p, p < dN D ∧ x = nI p
  · have c2 : ¬ ∃ p, p < dN D ∧ z = nI p := fun c2 => hn ⟨c1, c2⟩
    obtain ⟨p, hp, rfl⟩ := c1
    rw [isPage_t h1 G.1 hp, if_neg (by decide), nmE, isPage_f h1 G.1 c2, if_pos nI_0]
  · rw [isPage_f h1 G.1 c1, if_pos nI_0]
