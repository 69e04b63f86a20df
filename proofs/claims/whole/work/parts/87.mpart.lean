/-! THE REFERENCE'S CALLS, going on: part, what is taken, shadow -/
theorem MR_n {b n : Nat} {σ : Sto} {D : Desk} (h : MR b σ D) (hS : ∀ q, q < n → MP b σ q (dP D q)) : MR b (stI σ (b + 65) 1 (nI n)) (setN D n) := by
  obtain ⟨a1, a2, a3, ⟨nw, n1, n2, n3⟩, a5, a6⟩ := h
  have o : ∀ c, c ≠ b + 65 → (stI σ (b + 65) 1 (nI n)).1 c = σ.1 c := fun c hc => by rw [stI_1, up2_ne _ _ _ hc]
  have s : ∀ k, k ≠ 1 → (stI σ (b + 65) 1 (nI n)).1 (b + 65) k = σ.1 (b + 65) k := fun k hk => by rw [stI_1, up2_nk _ _ _ hk]
  refine ⟨?_, fun q hq => ?_, ?_, ⟨nw, n1, ?_, fun i hi => MC_fr (n3 i hi) (fun e e1 e2 => o e (by omega))⟩, ⟨?_, fun x y q => ?_⟩, ⟨?_, fun j hj => ?_⟩⟩
  · rw [stI_1, up2_self]; rfl
  · have := hS q hq
    exact ⟨by rw [o _ (by omega)]; exact this.1, by rw [o _ (by omega)]; exact this.2.1, AR_cong this.2.2 (fun k _ => by rw [o _ (by omega)])⟩
  · rw [s 6 (by decide)]; exact a3
  · rw [s 7 (by decide)]; exact n2
  · rw [s 19 (by decide)]; exact a5.1
  · rw [o _ (by omega), o _ (by omega)]; exact a5.2 x y q
  · rw [s 22 (by decide)]; exact a6.1
  · rw [o _ (by omega)]; exact a6.2 j hj
/-- the page that the latest change made -/
theorem MR_made {b p m : Nat} {σ : Sto} {D : Desk} (h : MR b σ (pushD D p 0)) (hK : dK D ≤ 10) : ∃ nw, nw < 10 ∧ σ.1 (b + 65) 7 = nI nw ∧ MR b (stI σ (b + 73) nw (nI m)) (pushD D p (m + 1)) ∧ KF b σ (stI σ (b + 73) nw (nI m)) := by
  obtain ⟨a1, a2, a3, ⟨nw, n1, n2, n3⟩, a5, a6⟩ := h
  have o : ∀ c, c ≠ b + 73 → (stI σ (b + 73) nw (nI m)).1 c = σ.1 c := fun c hc => by rw [stI_1, up2_ne _ _ _ hc]
  refine ⟨nw, n1, n2, ⟨?_, fun q hq => ?_, ?_, ⟨nw, n1, ?_, fun i hi => ?_⟩, ⟨?_, fun x y q => ?_⟩, ⟨?_, fun j hj => ?_⟩⟩, KF_stI (by omega) (by omega)⟩
  · rw [o _ (by omega)]; exact a1
  · have := a2 q hq
    exact ⟨by rw [o _ (by omega)]; exact this.1, by rw [o _ (by omega)]; exact this.2.1, AR_cong this.2.2 (fun k _ => by rw [o _ (by omega)])⟩
  · rw [o _ (by omega)]; exact a3
  · rw [o _ (by omega)]; exact n2
  · have hi : i < min (dK D + 1) 10 := hi
    have hn := n3 i hi
    by_cases e : i = 0
    · subst e
      have hn : MC b σ ((nw + 10 - 0) % 10) (p, 0, dP D p) := hn
      show MC b _ ((nw + 10 - 0) % 10) (p, m + 1, dP D p)
      rw [show (nw + 10 - 0) % 10 = nw by omega] at hn ⊢
      obtain ⟨c1, c2, c3, c4, c5⟩ := hn
      refine ⟨?_, ?_, ?_, ?_, AR_cong c5 (fun k _ => by rw [o _ (by omega)])⟩
      · rw [o _ (by omega)]; exact c1
      · rw [o _ (by omega)]; exact c2
      · rw [o _ (by omega)]; exact c3
      · rw [stI_1, up2_self]; rfl
    · have hn : MC b σ ((nw + 10 - i) % 10) (if i = 0 then (p, 0, dP D p) else dH D (i - 1)) := hn
      show MC b _ ((nw + 10 - i) % 10) (if i = 0 then (p, m + 1, dP D p) else dH D (i - 1))
      rw [if_neg e] at hn ⊢
      obtain ⟨c1, c2, c3, c4, c5⟩ := hn
      refine ⟨?_, ?_, ?_, ?_, AR_cong c5 (fun k _ => by rw [o _ (by omega)])⟩
      · rw [o _ (by omega)]; exact c1
      · rw [o _ (by omega)]; exact c2
      · rw [o _ (by omega)]; exact c3
      · rw [stI_1, up2_nk _ _ _ (by omega)]; exact c4
  · rw [o _ (by omega)]; exact a5.1
  · rw [o _ (by omega), o _ (by omega)]; exact a5.2 x y q
  · rw [o _ (by omega)]; exact a6.1
  · rw [o _ (by omega)]; exact a6.2 j hj
theorem seam_eq {b p la lb : Nat} {e : Int32} {σ : Sto} {P : PG} (hp : p < 8) (mp : MP b σ p P) (hP : okP P) (hab : la ≤ lb) (hb : lb < P.1) :
    iter (bd_X5_part_58 (ΛE b) σ (b + 65) (nI p) (nI la) (nI lb) e) FU (nI la, nI (la + 1)) = some (nI (seamP P la lb)) := by
  have gp := hP
  unfold okP at gp
  unfold seamP
  refine run_loop (fun j => (nI (fnt (fun x => fb_ct (fun y => P.2.2 x y) P.2.1) la lb j), nI (la + 1 + j))) _ (lb - la) (by omega) rfl ?_ ?_
  · intro j hj
    have bd := fnt_bd (fun x => fb_ct (fun y => P.2.2 x y) P.2.1) la lb j
    generalize hbest : fnt (fun x => fb_ct (fun y => P.2.2 x y) P.2.1) la lb j = best at *
    have h1 := fb_ct_le (fun y => P.2.2 (la + 1 + j) y) P.2.1
    have h2 := fb_ct_le (fun y => P.2.2 best y) P.2.1
    have keep : ¬ fntC (fun x => fb_ct (fun y => P.2.2 x y) P.2.1) la lb (la + 1 + j) best → jp_X5_part_120 (ΛE b) σ (b + 65) (nI p) (nI la) (nI lb) e (nI best) (nI (la + 1 + j)) = some (.inl (nI (fnt (fun x => fb_ct (fun y => P.2.2 x y) P.2.1) la lb (j + 1)), nI (la + 1 + (j + 1)))) := by
      intro hc
      unfold jp_X5_part_120
      rw [nmE, nI_1, fnt_f (by rw [hbest]; exact hc), hbest]
      rfl
    have take : fntC (fun x => fb_ct (fun y => P.2.2 x y) P.2.1) la lb (la + 1 + j) best → jp_X5_part_116 (ΛE b) σ (b + 65) (nI p) (nI la) (nI lb) e (nI (la + 1 + j)) = some (.inl (nI (fnt (fun x => fb_ct (fun y => P.2.2 x y) P.2.1) la lb (j + 1)), nI (la + 1 + (j + 1)))) := by
      intro hc
      unfold jp_X5_part_116 jp_X5_part_120
      rw [nmE, nI_1, fnt_t (by rw [hbest]; exact hc)]
      rfl
    unfold bd_X5_part_58
    simp (disch := omega) only [lt_f, ↓reduceIte, colInk_eq hp mp (show P.2.1 ≤ 64 by omega) (show la + 1 + j < 64 by omega), colInk_eq hp mp (show P.2.1 ≤ 64 by omega) (show best < 64 by omega), Option.bind_some, nmE]
    rw [dist_eq (by omega) (by omega) (by omega), dist_eq (by omega) (by omega) (by omega)]
    have ed : nI (fb_ct (fun y => P.2.2 (la + 1 + j) y) P.2.1) - nI (fb_ct (fun y => P.2.2 best y) P.2.1) = iI ((fb_ct (fun y => P.2.2 (la + 1 + j) y) P.2.1 : Int) - (fb_ct (fun y => P.2.2 best y) P.2.1 : Int)) := by rw [iI_nat, iI_nat, iI_sub]
    rw [ed]
    by_cases c1 : fb_ct (fun y => P.2.2 (la + 1 + j) y) P.2.1 < fb_ct (fun y => P.2.2 best y) P.2.1
    · rw [if_pos (by rw [show (0 : Int32) = iI 0 from rfl, iI_lt (by omega) (by omega) (by omega) (by omega)]; omega)]
      exact take (Or.inl c1)
    · rw [if_neg (by rw [show (0 : Int32) = iI 0 from rfl, iI_lt (by omega) (by omega) (by omega) (by omega)]; omega)]
      by_cases c2 : fb_ct (fun y => P.2.2 (la + 1 + j) y) P.2.1 = fb_ct (fun y => P.2.2 best y) P.2.1
      · rw [if_pos (by rw [show (0 : Int32) = iI 0 from rfl, iI_eq (by omega) (by omega) (by omega) (by omega)]; omega)]
        by_cases c3 : (2 * (best : Int) - la - lb).natAbs ≤ (2 * ((la + 1 + j : Nat) : Int) - la - lb).natAbs
        · rw [if_pos (nI_le c3 (by omega))]
          exact keep (fun q => by
            unfold fntC at q
            simp only at q
            omega)
        · rw [if_neg (nI_ge (by omega) (by omega))]
          exact take (Or.inr ⟨c2, by omega⟩)
      · rw [if_neg (by rw [show (0 : Int32) = iI 0 from rfl, iI_eq (by omega) (by omega) (by omega) (by omega)]; omega)]
        exact keep (fun q => by
          unfold fntC at q
          simp only at q
          omega)
  · unfold bd_X5_part_58
    simp (disch := omega) only [lt_t, ↓reduceIte]
/-- the two pages while they are parted -/
def PT (b p n m y x : Nat) (P : PG) (σ0 τ : Sto) : Prop := MP b τ p (P.1, P.2.1, fun a c => P.2.2 a c && !decide (m ≤ a ∧ (c < y ∨ (c = y ∧ a < x)))) ∧ MP b τ n (P.1 - m, P.2.1, fun a c => P.2.2 (a + m) c && decide (c < y ∨ (c = y ∧ a + m < x))) ∧ MF b (fun q => q = p ∨ q = n) σ0 τ
theorem PT_step {b p n m y x : Nat} {P : PG} {σ0 τ : Sto} (hp : p < 8) (hn : n < 8) (hne : p ≠ n) (hP : okP P) (hm : m ≤ x) (hx : x < P.1) (hy : y < P.2.1) (hN : τ.1 (b + 65) 1 = nI n) (h : PT b p n m y x P σ0 τ) :
    ∃ t, bd_X5_part_203 (ΛE b) (b + 65) (nI p) (nI m) (nI P.1) (nI y) (nI x, τ) = some (.inl t) ∧ t.1 = nI (x + 1) ∧ PT b p n m y (x + 1) P σ0 t.2 := by
  have gp := hP
  unfold okP at gp
  obtain ⟨h1, h2, h3⟩ := h
  have e1 : F_X5_has (ΛE b) τ (b + 65) (nI p) (nI x) (nI y) = some (bI (P.2.2 x y)) := by
    rw [has_eq hp h1 (show x < 64 by omega) (show y < 64 by omega)]
    show some (bI (P.2.2 x y && !decide (m ≤ x ∧ (y < y ∨ (y = y ∧ x < x))))) = _
    rw [decide_eq_false (by omega), Bool.not_false, Bool.and_true]
  unfold bd_X5_part_203
  simp (disch := omega) only [le_f, ↓reduceIte, e1, Option.bind_some, hN, nI_sb, inks_eq, nmE, nI_1]
  rw [bIf, inks_eq hp (by omega) (by omega), Option.bind_some]
  have f1 : MF b (fun q => q = p ∨ q = n) τ (stI τ (b + 68) (n * 4096 + (64 * y + (x - m))) (bI (P.2.2 x y))) := MF_mono (MF_ink (by omega)) (fun q z => Or.inr z)
  have f2 : MF b (fun q => q = p ∨ q = n) (stI τ (b + 68) (n * 4096 + (64 * y + (x - m))) (bI (P.2.2 x y))) (stI (stI τ (b + 68) (n * 4096 + (64 * y + (x - m))) (bI (P.2.2 x y))) (b + 68) (p * 4096 + (64 * y + x)) (bI false)) := MF_mono (MF_ink (by omega)) (fun q z => Or.inl z)
  refine ⟨_, rfl, rfl, ⟨?_, ?_, ?_⟩, ⟨?_, ?_, ?_⟩, MF_trans h3 (MF_trans f1 f2)⟩
  · simp (disch := omega) only [stI_1, up2_ne]; exact h1.1
  · simp (disch := omega) only [stI_1, up2_ne]; exact h1.2.1
  · have a1 : AR (stI τ (b + 68) (n * 4096 + (64 * y + (x - m))) (bI (P.2.2 x y))) (b + 68) (p * 4096) (fun a c => P.2.2 a c && !decide (m ≤ a ∧ (c < y ∨ (c = y ∧ a < x)))) := AR_cong h1.2.2 (fun k hk => by rw [stI_1, up2_nk _ _ _ (by omega)])
    refine AR_ext (AR_set (v := false) a1 (show x < 64 by omega) (show y < 64 by omega)) (fun a c _ _ => ?_)
    show (P.2.2 a c && !decide (m ≤ a ∧ (c < y ∨ (c = y ∧ a < x + 1)))) = (if a = x ∧ c = y then false else (P.2.2 a c && !decide (m ≤ a ∧ (c < y ∨ (c = y ∧ a < x)))))
    by_cases e : a = x ∧ c = y
    · rw [if_pos e, decide_eq_true (show m ≤ a ∧ (c < y ∨ (c = y ∧ a < x + 1)) by omega)]; simp
    · rw [if_neg e]
      congr 2
      rw [decide_eq_decide]
      omega
  · simp (disch := omega) only [stI_1, up2_ne]; exact h2.1
  · simp (disch := omega) only [stI_1, up2_ne]; exact h2.2.1
  · have a1 := AR_set (v := P.2.2 x y) h2.2.2 (show x - m < 64 by omega) (show y < 64 by omega)
    refine AR_ext (AR_cong (τ := stI (stI τ (b + 68) (n * 4096 + (64 * y + (x - m))) (bI (P.2.2 x y))) (b + 68) (p * 4096 + (64 * y + x)) (bI false)) a1 (fun k hk => by rw [stI_1, up2_nk _ _ _ (by omega)])) (fun a c _ _ => ?_)
    show (P.2.2 (a + m) c && decide (c < y ∨ (c = y ∧ a + m < x + 1))) = (if a = x - m ∧ c = y then P.2.2 x y else (P.2.2 (a + m) c && decide (c < y ∨ (c = y ∧ a + m < x))))
    by_cases e : a = x - m ∧ c = y
    · rw [if_pos e, decide_eq_true (show c < y ∨ (c = y ∧ a + m < x + 1) by omega), Bool.and_true, e.1, e.2, show x - m + m = x by omega]
    · rw [if_neg e]
      congr 1
      rw [decide_eq_decide]
      omega
theorem mp_part_t {b p la lb : Nat} {e : Int32} {σ : Sto} {D : Desk} (h : MR b σ D) (G : GD D) (hp : p < dN D) (ha : 1 ≤ la) (hab : la ≤ lb) (hb : lb < (dP D p).1) (he : 0 ≤ e) (hN : dN D < 8) (hs : nI (fb_ct (fun y => (dP D p).2.2 (seamP (dP D p) la lb) y) (dP D p).2.1) ≤ e) :
    ∃ τ, F_X5_part (ΛE b) σ (b + 65) (nI p) (nI la) (nI lb) e = some (nI (dN D), τ) ∧ MR b τ (partD D p (seamP (dP D p) la lb)) ∧ KF b σ τ := by
  obtain ⟨h1, k1, -⟩ := mr0 (v := 0) h
  have g1 := G.1
  have gp := G.2.1 p hp
  have gp0 := gp
  have hp8 : p < 8 := by omega
  unfold okP at gp
  unfold F_X5_part
  rw [nmE]
  generalize stI σ (b + 65) 0 0 = σ1 at *
  have mp := h1.2.1 p hp
  have bd := fnt_bd (fun x => fb_ct (fun y => (dP D p).2.2 x y) (dP D p).2.1) la lb (lb - la)
  rw [show fnt (fun x => fb_ct (fun y => (dP D p).2.2 x y) (dP D p).2.1) la lb (lb - la) = seamP (dP D p) la lb from rfl] at bd
  generalize hm : seamP (dP D p) la lb = m at *
  obtain ⟨τ, q1, q2, q3, -⟩ := changing_eq h1 G hp
  obtain ⟨nw, n1, n2, n3, n4⟩ := MR_made (m := dN D) q2 G.2.2.1
  have t1 : τ.1 (b + 65) 1 = nI (dN D) := q2.1
  rw [nmE, isPage_t h1 g1 hp, if_neg (by decide), nmE, w1, in_w, e1, within_t ha hab (by omega), if_neg (by decide), r65_2, l66, if_pos (gd_nI (by omega) (by omega)), nI_cl (by omega), mp.1, if_neg (nI_ge hb (by omega)), if_neg (by rw [lt32]; rw [le32] at he; omega), h1.1, e8, if_neg (fun q => by have := (nI_eq (by omega) (by omega)).mp q; omega), nmE, nI_add, seam_eq hp8 mp gp0 hab hb, Option.bind_some, hm, colInk_eq hp8 mp (by omega) (by omega), Option.bind_some, if_pos hs, q1, Option.bind_some, n2, r65_11, l73, if_pos (gd_nI n1 (by omega)), nmE, nI_cl (by omega), t1]
  generalize stI τ (b + 73) nw (nI (dN D)) = τ1 at *
  have mq : MP b τ1 p (dP D p) := n3.2.1 p hp
  have t2 : τ1.1 (b + 65) 1 = nI (dN D) := n3.1
  obtain ⟨τ2, u1, u2, u3⟩ := clears_eq (b := b) (p := dN D) (w := (dP D p).1 - m) (h := (dP D p).2.1) (σ := τ1) hN
  rw [if_pos (gd_nI (by omega) (by omega)), nmE, mq.1, r65_3, l67, if_pos (gd_nI (by omega) (by omega)), mq.2.1, t2, nI_sb (by omega), u1, Option.bind_some]
  have pt0 : PT b p (dN D) m 0 m (dP D p) τ1 τ2 := by
    refine ⟨MP_ext (MP_MF mq u3 (by omega)) rfl rfl (fun a c _ _ => ?_), MP_ext u2 rfl rfl (fun a c _ _ => ?_), MF_mono u3 (fun q z => Or.inr z)⟩
    · show ((dP D p).2.2 a c && !decide (m ≤ a ∧ (c < 0 ∨ (c = 0 ∧ a < m)))) = (dP D p).2.2 a c
      rw [decide_eq_false (by omega), Bool.not_false, Bool.and_true]
    · show ((dP D p).2.2 (a + m) c && decide (c < 0 ∨ (c = 0 ∧ a + m < m))) = false
      rw [decide_eq_false (by omega), Bool.and_false]
  have nn : ∀ υ, MF b (fun q => q = p ∨ q = dN D) τ1 υ → υ.1 (b + 65) 1 = nI (dN D) := fun υ hf => by rw [hf.2.2.1 1 (by decide) (by decide)]; exact t2
  obtain ⟨τ3, v1, v2⟩ := iter_for (f := bd_X5_part_188 (ΛE b) (b + 65) (nI p) (nI m) (nI (dP D p).1)) (dP D p).2.1 (fun y z => z.1 = nI y ∧ PT b p (dN D) m y m (dP D p) τ1 z.2)
    (fun υ => PT b p (dN D) m (dP D p).2.1 m (dP D p) τ1 υ) (s := ((0 : Int32), τ2)) (n := FU)
    (by
      rintro y ⟨i, υ⟩ hy ⟨c1, c2⟩
      simp only at c1 c2
      subst c1
      obtain ⟨υ2, x1, x2⟩ := iter_for (f := bd_X5_part_203 (ΛE b) (b + 65) (nI p) (nI m) (nI (dP D p).1) (nI y)) ((dP D p).1 - m) (fun j z => z.1 = nI (m + j) ∧ PT b p (dN D) m y (m + j) (dP D p) τ1 z.2)
        (fun υ => PT b p (dN D) m (y + 1) m (dP D p) τ1 υ) (s := (nI m, υ)) (n := FU)
        (by
          rintro j ⟨i, υ⟩ hj ⟨d1, d2⟩
          simp only at d1 d2
          subst d1
          obtain ⟨t, s1, s2, s3⟩ := PT_step hp8 hN (by omega) gp0 (by omega) (by omega) hy (nn υ d2.2.2) d2
          exact ⟨t, s1, s2, s3⟩)
        (by
          rintro ⟨i, υ⟩ ⟨d1, d2⟩
          simp only at d1 d2
          subst d1
          unfold bd_X5_part_203
          simp (disch := omega) only [le_t, ↓reduceIte]
          refine ⟨_, rfl, MP_ext d2.1 rfl rfl (fun a c _ _ => ?_), MP_ext d2.2.1 rfl rfl (fun a c _ _ => ?_), d2.2.2⟩
          · show ((dP D p).2.2 a c && !decide (m ≤ a ∧ (c < y + 1 ∨ (c = y + 1 ∧ a < m)))) = ((dP D p).2.2 a c && !decide (m ≤ a ∧ (c < y ∨ (c = y ∧ a < m + ((dP D p).1 - m)))))
            cases hg : (dP D p).2.2 a c with
            | false => rfl
            | true =>
              have := gp.2.2.2.2 a c hg
              congr 2
              rw [decide_eq_decide]
              omega
          · show ((dP D p).2.2 (a + m) c && decide (c < y + 1 ∨ (c = y + 1 ∧ a + m < m))) = ((dP D p).2.2 (a + m) c && decide (c < y ∨ (c = y ∧ a + m < m + ((dP D p).1 - m))))
            cases hg : (dP D p).2.2 (a + m) c with
            | false => rfl
            | true =>
              have := gp.2.2.2.2 (a + m) c hg
              congr 1
              rw [decide_eq_decide]
              omega)
        ⟨rfl, c2⟩ (by show _ < 5000; omega)
      have mh : υ.1 (b + 67) p = nI (dP D p).2.1 := c2.1.2.1
      unfold bd_X5_part_188
      simp (disch := omega) only [r65_3, l67, gd_nI, nI_cl, ↓reduceIte, mh, le_f, x1, Option.bind_some, nmE, nI_1]
      exact ⟨(_, υ2), rfl, rfl, x2⟩)
    (by
      rintro ⟨i, υ⟩ ⟨c1, c2⟩
      simp only at c1 c2
      subst c1
      have mh : υ.1 (b + 67) p = nI (dP D p).2.1 := c2.1.2.1
      unfold bd_X5_part_188
      simp (disch := omega) only [r65_3, l67, gd_nI, nI_cl, ↓reduceIte, mh, le_t]
      exact ⟨_, rfl, c2⟩)
    ⟨rfl, pt0⟩ (by show _ < 5000; omega)
  rw [v1, Option.bind_some, if_pos (gd_nI (by omega) (by omega))]
  simp only [nmE]
  obtain ⟨a1, a2, a3⟩ := v2
  have fw : MF b (fun q => q = p ∨ q = dN D) τ1 (stI τ3 (b + 66) p (nI m)) := MF_trans a3 (MF_mono MF_wide (fun q z => Or.inl z))
  have mL : MP b (stI τ3 (b + 66) p (nI m)) p (lefP (dP D p) m) := by
    refine ⟨by rw [stI_1, up2_self]; rfl, by rw [stI_1, up2_ne _ _ _ (by omega)]; exact a1.2.1, AR_ext (AR_cong a1.2.2 (fun k _ => by rw [stI_1, up2_ne _ _ _ (by omega)])) (fun a c _ _ => ?_)⟩
    show (decide (a < m) && (dP D p).2.2 a c) = ((dP D p).2.2 a c && !decide (m ≤ a ∧ (c < (dP D p).2.1 ∨ (c = (dP D p).2.1 ∧ a < m))))
    cases hg : (dP D p).2.2 a c with
    | false => simp
    | true =>
      have := gp.2.2.2.2 a c hg
      rw [Bool.and_true, Bool.true_and]
      by_cases z : a < m
      · rw [decide_eq_true z, decide_eq_false (by omega)]; rfl
      · rw [decide_eq_false z, decide_eq_true (by omega)]; rfl
  have mR : MP b (stI τ3 (b + 66) p (nI m)) (dN D) (rigP (dP D p) m) := by
    refine ⟨by rw [stI_1, up2_nk _ _ _ (by omega)]; exact a2.1, by rw [stI_1, up2_ne _ _ _ (by omega)]; exact a2.2.1, AR_ext (AR_cong a2.2.2 (fun k _ => by rw [stI_1, up2_ne _ _ _ (by omega)])) (fun a c _ _ => ?_)⟩
    show (dP D p).2.2 (a + m) c = ((dP D p).2.2 (a + m) c && decide (c < (dP D p).2.1 ∨ (c = (dP D p).2.1 ∧ a + m < m)))
    cases hg : (dP D p).2.2 (a + m) c with
    | false => rfl
    | true =>
      have := gp.2.2.2.2 (a + m) c hg
      rw [decide_eq_true (by omega)]; rfl
  have hR : MR b (stI τ3 (b + 66) p (nI m)) (setP (setP (pushD D p (dN D + 1)) p (lefP (dP D p) m)) (dN D) (rigP (dP D p) m)) := by
    refine MR_pages (D := pushD D p (dN D + 1)) n3 fw (fun q hq => ?_)
    have hq : q < dN D := hq
    rw [up1_ne _ _ (by omega)]
    by_cases z : q = p
    · show MP b _ q (up1 (dP D) p (lefP (dP D p) m) q)
      rw [z, up1_self]; exact mL
    · show MP b _ q (up1 (dP D) p (lefP (dP D p) m) q)
      rw [up1_ne _ _ z]; exact MP_MF (n3.2.1 q hq) fw (by omega)
  have t3 : (stI τ3 (b + 66) p (nI m)).1 (b + 65) 1 = nI (dN D) := nn _ fw
  rw [t3, nI_add, stI_1, up2_self, nI_sb (by omega)]
  refine ⟨_, rfl, MR_n hR (fun q hq => ?_), KF_trans k1 (KF_trans q3 (KF_trans n4 (KF_trans (MF_KF fw) (KF_stI (by omega) (by omega)))))⟩
  by_cases z : q = dN D
  · subst z
    show MP b _ (dN D) (up1 _ (dN D) _ (dN D))
    rw [up1_self]; exact mR
  · exact hR.2.1 q (by show q < dN D; omega)
theorem mp_part_f {b : Nat} {q x z e : Int32} {σ : Sto} {D : Desk} (hc : MR b σ D) (G : GD D) (hn : ¬ ∃ p la lb, p < dN D ∧ 1 ≤ la ∧ la ≤ lb ∧ lb < (dP D p).1 ∧ 0 ≤ e ∧ dN D < 8 ∧ nI (fb_ct (fun y => (dP D p).2.2 (seamP (dP D p) la lb) y) (dP D p).2.1) ≤ e ∧ q = nI p ∧ x = nI la ∧ z = nI lb) : F_X5_part (ΛE b) σ (b + 65) q x z e = some (-1, stI σ (b + 65) 0 0) := by
  obtain ⟨h1, k1, -⟩ := mr0 (v := 0) hc
  unfold F_X5_part
  rw [nmE]
  generalize stI σ (b + 65) 0 0 = σ1 at *
  rw [nmE]
  by_cases c1 : ∃ p, p < dN D ∧ q = nI p
  · obtain ⟨p, hp, rfl⟩ := c1
    have g1 := G.1
    have gp := G.2.1 p hp
    have gp0 := gp
    have hp8 : p < 8 := by omega
    unfold okP at gp
    have mp := h1.2.1 p hp
    rw [isPage_t h1 g1 hp, if_neg (by decide), nmE, w1, in_w]
    unfold F_X4_within
    by_cases c2 : x < 1
    · rw [if_pos c2, if_pos rfl]
    · rw [if_neg c2]
      by_cases c3 : z < x
      · rw [if_pos c3, if_pos rfl]
      · rw [if_neg c3, if_neg (by decide), r65_2, l66, if_pos (gd_nI (by omega) (by omega)), nI_cl (by omega), mp.1]
        by_cases c4 : nI (dP D p).1 ≤ z
        · rw [if_pos c4]
        · rw [if_neg c4]
          rw [lt32, show (1 : Int32).toInt = 1 by decide] at c2
          rw [lt32] at c3
          rw [le32, nI_ti (by omega)] at c4
          obtain ⟨la, a1, a2⟩ : ∃ la : Nat, (la : Int) = x.toInt ∧ x = nI la := ⟨x.toInt.toNat, by omega, by rw [eq32, nI_ti (by omega)]; omega⟩
          obtain ⟨lb, b1, b2⟩ : ∃ lb : Nat, (lb : Int) = z.toInt ∧ z = nI lb := ⟨z.toInt.toNat, by omega, by rw [eq32, nI_ti (by omega)]; omega⟩
          by_cases c5 : e < 0
          · rw [if_pos c5]
          · rw [if_neg c5, h1.1, e8]
            by_cases c6 : dN D < 8
            · have bd := fnt_bd (fun x => fb_ct (fun y => (dP D p).2.2 x y) (dP D p).2.1) la lb (lb - la)
              rw [show fnt (fun x => fb_ct (fun y => (dP D p).2.2 x y) (dP D p).2.1) la lb (lb - la) = seamP (dP D p) la lb from rfl] at bd
              rw [if_neg (fun q => by have := (nI_eq (by omega) (by omega)).mp q; omega), nmE, a2, b2, nI_1, seam_eq hp8 mp gp0 (by omega) (by omega), Option.bind_some, colInk_eq hp8 mp (by omega) (by omega), Option.bind_some, if_neg (fun c7 => hn ⟨p, la, lb, hp, by omega, by omega, by omega, by rw [lt32] at c5; rw [le32]; omega, c6, c7, rfl, a2, b2⟩)]
            · rw [if_pos (by rw [show dN D = 8 by omega])]
  · rw [isPage_f h1 G.1 c1, if_pos nI_0]
