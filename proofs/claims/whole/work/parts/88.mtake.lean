/-! WHAT THE REFERENCE TAKES, into its list -/
theorem rk_x (L : PG) (x y : Nat) : rkP L (x + 1) y = rkP L x y + (if L.2.2 x y then 1 else 0) := by
  unfold rkP
  rw [fb_ct_succ, Nat.add_assoc]
theorem rk_bd (L : PG) (x y : Nat) : rkP L x y ≤ 64 * y + x := by
  unfold rkP
  have h1 : fb_sm (fun y => fb_ct (fun x => L.2.2 x y) 64) y ≤ y * 64 := fb_sm_bound (fun k _ => fb_ct_le _ _)
  have h2 := fb_ct_le (fun x => L.2.2 x y) x
  omega
theorem rk_row {L : PG} (hL : okL L) (y : Nat) : rkP L 0 (y + 1) = rkP L L.1 y := by
  unfold rkP
  rw [fb_sm_succ, Nat.add_assoc]
  congr 1
  have : fb_ct (fun x => L.2.2 x y) 64 = fb_ct (fun x => L.2.2 x y) L.1 := ct_ext2 hL.1 (fun k k1 _ => by
    cases hc : L.2.2 k y with
    | false => rfl
    | true => have := (hL.2.2 k y hc).1; omega)
  rw [this]; rfl
theorem rk_lt {L : PG} {a c x y : Nat} (h : L.2.2 a c = true) (ha : a < 64) (hb : c < y ∨ (c = y ∧ a < x)) : rkP L a c < rkP L x y := by
  unfold rkP
  have m1 := fb_ct_mono (fun x => L.2.2 x c) (show a + 1 ≤ 64 by omega)
  rw [fb_ct_succ, h, if_pos rfl] at m1
  rcases hb with q | q
  · have := fb_sm_part (fun y => fb_ct (fun x => L.2.2 x y) 64) q
    omega
  · obtain ⟨rfl, q⟩ := q
    have m2 := fb_ct_mono (fun x => L.2.2 x c) (show a + 1 ≤ x by omega)
    rw [fb_ct_succ, h, if_pos rfl] at m2
    omega
/-- page p, the list and spots' rows may change -/
def LF (b p : Nat) (σ τ : Sto) : Prop := τ.2 = σ.2 ∧ (∀ c, c ≠ b + 65 → c ≠ b + 68 → c ≠ b + 80 → c ≠ b + 81 → τ.1 c = σ.1 c) ∧ (∀ k, k ≠ 19 → τ.1 (b + 65) k = σ.1 (b + 65) k) ∧ ∀ q, q ≠ p → ∀ k, k < 4096 → τ.1 (b + 68) (q * 4096 + k) = σ.1 (b + 68) (q * 4096 + k)
def TK (b p : Nat) (P L : PG) (σ0 : Sto) (y x : Nat) (τ : Sto) : Prop := MP b τ p (P.1, P.2.1, fun a c => P.2.2 a c && !(L.2.2 a c && decide (c < y ∨ (c = y ∧ a < x)))) ∧ τ.1 (b + 65) 19 = nI (rkP L x y) ∧ (∀ a c, L.2.2 a c = true → (c < y ∨ (c = y ∧ a < x)) → τ.1 (b + 80) (rkP L a c) = nI a ∧ τ.1 (b + 81) (rkP L a c) = nI c) ∧ LF b p σ0 τ
theorem tk_skip {b p : Nat} {P L : PG} {σ0 τ : Sto} {x y : Nat} (h : TK b p P L σ0 y x τ) (hl : L.2.2 x y = false) : TK b p P L σ0 y (x + 1) τ := by
  obtain ⟨h1, h2, h3, h4⟩ := h
  refine ⟨MP_ext h1 rfl rfl (fun a c _ _ => ?_), ?_, fun a c q1 q2 => ?_, h4⟩
  · show (P.2.2 a c && !(L.2.2 a c && decide (c < y ∨ (c = y ∧ a < x + 1)))) = (P.2.2 a c && !(L.2.2 a c && decide (c < y ∨ (c = y ∧ a < x))))
    by_cases e : a = x ∧ c = y
    · rw [e.1, e.2, hl]; rfl
    · congr 3
      rw [decide_eq_decide]
      omega
  · rw [rk_x, hl]; exact h2
  · refine h3 a c q1 ?_
    by_cases e : a = x ∧ c = y
    · rw [e.1, e.2, hl] at q1; cases q1
    · omega
theorem tk_take {b p : Nat} {P L : PG} {σ0 τ : Sto} {x y : Nat} (hp : p < 8) (hL : okL L) (hx : x < 64) (hy : y < 64) (h : TK b p P L σ0 y x τ) (hl : L.2.2 x y = true) : ∃ υ, F_X5_takes (ΛE b) τ (b + 65) (nI p) (nI x) (nI y) = some υ ∧ TK b p P L σ0 y (x + 1) υ := by
  obtain ⟨h1, h2, h3, h4⟩ := h
  have hr := rk_bd L x y
  have a19 : (stI τ (b + 68) (p * 4096 + (64 * y + x)) (bI false)).1 (b + 65) 19 = nI (rkP L x y) := by rw [stI_1, up2_ne _ _ _ (by omega)]; exact h2
  unfold F_X5_takes
  rw [bIf, inks_eq hp hx hy, Option.bind_some]
  simp (disch := omega) only [a19, r65_20, l80, r65_21, l81, gd_nI, nI_cl, ↓reduceIte, nmE, stI_1, up2_ne]
  have a19' : up2 τ.1 (b + 68) (p * 4096 + (64 * y + x)) (bI false) (b + 65) 19 = nI (rkP L x y) := a19
  simp (disch := omega) only [h2, gd_nI, nI_cl, ↓reduceIte, nI_1]
  refine ⟨_, rfl, ⟨?_, ?_, ?_⟩, ?_, fun a c q1 q2 => ?_, ?_, ?_, ?_, ?_⟩
  · simp (disch := omega) only [stI_1, up2_ne]; exact h1.1
  · simp (disch := omega) only [stI_1, up2_ne]; exact h1.2.1
  · refine AR_ext (AR_cong (AR_set (v := false) h1.2.2 hx hy) (fun k hk => by simp (disch := omega) only [stI_1, up2_ne])) (fun a c _ _ => ?_)
    show (P.2.2 a c && !(L.2.2 a c && decide (c < y ∨ (c = y ∧ a < x + 1)))) = (if a = x ∧ c = y then false else (P.2.2 a c && !(L.2.2 a c && decide (c < y ∨ (c = y ∧ a < x)))))
    by_cases e : a = x ∧ c = y
    · rw [if_pos e, e.1, e.2, hl, decide_eq_true (by omega)]; simp
    · rw [if_neg e]
      congr 3
      rw [decide_eq_decide]
      omega
  · rw [stI_1, up2_self, rk_x, hl]; rfl
  · by_cases e : a = x ∧ c = y
    · rw [e.1, e.2]
      simp (disch := omega) only [stI_1, up2_ne, up2_self]
      exact ⟨trivial, trivial⟩
    · have hb : c < y ∨ (c = y ∧ a < x) := by omega
      have hlt := rk_lt q1 (by have := (hL.2.2 a c q1).1; have := hL.1; omega) hb
      simp (disch := omega) only [stI_1, up2_ne, up2_nk]
      exact h3 a c q1 hb
  · exact h4.1
  · intro c c1 c2 c3 c4
    simp (disch := omega) only [stI_1, up2_ne]
    exact h4.2.1 c c1 c2 c3 c4
  · intro k hk
    simp (disch := omega) only [stI_1, up2_ne, up2_nk]
    exact h4.2.2.1 k hk
  · intro q hq k hk
    simp (disch := omega) only [stI_1, up2_ne, up2_nk]
    exact h4.2.2.2 q hq k hk
theorem tk_row {b p : Nat} {P L : PG} {σ0 τ : Sto} {y : Nat} (hL : okL L) (hw : L.1 = P.1) (h : TK b p P L σ0 y P.1 τ) : TK b p P L σ0 (y + 1) 0 τ := by
  obtain ⟨h1, h2, h3, h4⟩ := h
  have key : ∀ a c, L.2.2 a c = true → ((c < y + 1 ∨ (c = y + 1 ∧ a < 0)) ↔ (c < y ∨ (c = y ∧ a < P.1))) := fun a c q => by
    have := (hL.2.2 a c q).1
    omega
  refine ⟨MP_ext h1 rfl rfl (fun a c _ _ => ?_), ?_, fun a c q1 q2 => h3 a c q1 ((key a c q1).mp q2), h4⟩
  · show (P.2.2 a c && !(L.2.2 a c && decide (c < y + 1 ∨ (c = y + 1 ∧ a < 0)))) = (P.2.2 a c && !(L.2.2 a c && decide (c < y ∨ (c = y ∧ a < P.1))))
    cases hl : L.2.2 a c with
    | false => rfl
    | true =>
      congr 3
      rw [decide_eq_decide]
      exact key a c hl
  · rw [rk_row hL, hw]; exact h2
theorem tk_0 {b p : Nat} {P L : PG} {σ : Sto} (h : MP b σ p P) : TK b p P L σ 0 0 (stI σ (b + 65) 19 0) := by
  refine ⟨MP_ext ⟨?_, ?_, AR_cong h.2.2 (fun k _ => ?_)⟩ rfl rfl (fun a c _ _ => ?_), ?_, fun a c _ q => by omega, rfl, fun c c1 _ _ _ => ?_, fun k hk => ?_, fun q hq k hk => ?_⟩
  · rw [stI_1, up2_ne _ _ _ (by omega)]; exact h.1
  · rw [stI_1, up2_ne _ _ _ (by omega)]; exact h.2.1
  · rw [stI_1, up2_ne _ _ _ (by omega)]
  · show (P.2.2 a c && !(L.2.2 a c && decide (c < 0 ∨ (c = 0 ∧ a < 0)))) = P.2.2 a c
    rw [decide_eq_false (by omega)]; simp
  · rw [stI_1, up2_self]; rfl
  · rw [stI_1, up2_ne _ _ _ c1]
  · rw [stI_1, up2_nk _ _ _ hk]
  · rw [stI_1, up2_ne _ _ _ (by omega)]
/-- once all is taken -/
theorem tk_end {b p : Nat} {P L : PG} {σ τ : Sto} {D : Desk} (hm : MR b σ (pushD D p 0)) (hP : dP D p = P) (hL : okL L) (hh : L.2.1 = P.2.1) (h : TK b p P L σ P.2.1 0 τ) : τ.1 (b + 65) 19 = nI (inkP L) ∧ MR b τ (setP (pushD (setL D L) p 0) p (minusP P L)) ∧ KF b σ τ := by
  obtain ⟨h1, h2, h3, h4⟩ := h
  have e19 : τ.1 (b + 65) 19 = nI (inkP L) := by
    rw [h2]
    unfold rkP inkP
    rw [hh]; rfl
  refine ⟨e19, ?_, ⟨h4.1, fun c hc => h4.2.1 c (by omega) (by omega) (by omega) (by omega)⟩⟩
  obtain ⟨a1, a2, a3, ⟨nw, n1, n2, n3⟩, a5, a6⟩ := hm
  refine ⟨?_, fun q hq => ?_, ?_, ⟨nw, n1, ?_, fun i hi => MC_fr (n3 i hi) (fun e e1 e2 => h4.2.1 e (by omega) (by omega) (by omega) (by omega))⟩, ⟨e19, fun x y q => h3 x y q (Or.inl (by have := (hL.2.2 x y q).2; omega))⟩, ⟨?_, fun j hj => ?_⟩⟩
  · rw [h4.2.2.1 1 (by decide)]; exact a1
  · show MP b τ q (up1 (dP D) p (minusP P L) q)
    by_cases e : q = p
    · rw [e, up1_self]
      refine MP_ext h1 rfl rfl (fun a c _ _ => ?_)
      show (P.2.2 a c && !L.2.2 a c) = (P.2.2 a c && !(L.2.2 a c && decide (c < P.2.1 ∨ (c = P.2.1 ∧ a < 0))))
      cases hl : L.2.2 a c with
      | false => rfl
      | true => rw [decide_eq_true (by have := (hL.2.2 a c hl).2; omega)]; rfl
    · rw [up1_ne _ _ e]
      have := a2 q hq
      exact ⟨by rw [h4.2.1 _ (by omega) (by omega) (by omega) (by omega)]; exact this.1, by rw [h4.2.1 _ (by omega) (by omega) (by omega) (by omega)]; exact this.2.1, AR_cong this.2.2 (h4.2.2.2 q e)⟩
  · rw [h4.2.2.1 6 (by decide)]; exact a3
  · rw [h4.2.2.1 7 (by decide)]; exact n2
  · rw [h4.2.2.1 22 (by decide)]; exact a6.1
  · rw [h4.2.1 _ (by omega) (by omega) (by omega) (by omega)]; exact a6.2 j hj
-- shadow
theorem darkM_eq {b p x k : Nat} {σ : Sto} {P : PG} (hp : p < 8) (mp : MP b σ p P) (hh : P.2.1 ≤ 64) (hx : x < 64) (hk : k ≤ 100) : F_X5_isDark (ΛE b) σ (b + 65) (nI p) (nI x) (nI k) = some (nI (if darkB P k x then 1 else 0)) := by
  have hc := fb_ct_le (fun y => P.2.2 x y) P.2.1
  have hm : k * P.2.1 ≤ 100 * 64 := Nat.mul_le_mul hk hh
  unfold F_X5_isDark darkB
  rw [colInk_eq hp mp hh hx, Option.bind_some, r65_3, l67, if_pos (gd_nI (by omega) (by omega)), nI_cl (by omega), mp.2.1, e100, pk_mul, pk_mul]
  by_cases c : k * P.2.1 ≤ 100 * fb_ct (fun y => P.2.2 x y) P.2.1
  · rw [if_neg (nI_nlt c (by omega)), decide_eq_true c]; rfl
  · rw [if_pos (nI_lt (by omega) (by omega)), decide_eq_false c]; rfl
theorem mp_shadow_t {b p k : Nat} {σ : Sto} {D : Desk} (h : MR b σ D) (G : GD D) (hp : p < dN D) (hk1 : 1 ≤ k) (hk2 : k ≤ 100) :
    ∃ τ, F_X5_shadow (ΛE b) σ (b + 65) (nI p) (nI k) = some (nI (shL (dP D p) k + ((dP D p).1 - shR (dP D p) k)), τ) ∧ MR b τ (setP (pushD (setL D (shaL (dP D p) k)) p 0) p (minusP (dP D p) (shaL (dP D p) k))) ∧ KF b σ τ := by
  obtain ⟨h1, k1, -⟩ := mr0 (v := 0) h
  have g1 := G.1
  have gp := G.2.1 p hp
  have gp0 := gp
  have hp8 : p < 8 := by omega
  unfold okP at gp
  unfold F_X5_shadow
  rw [nmE]
  generalize stI σ (b + 65) 0 0 = σ1 at *
  obtain ⟨τ, q1, q2, q3, -⟩ := changing_eq h1 G hp
  have mq : MP b τ p (dP D p) := q2.2.1 p hp
  rw [nmE, isPage_t h1 g1 hp, if_neg (by decide), nmE, w1, w100, in_w, show F_X4_within (nI k) 1 100 = nI 1 from within_t (lo := 1) (hi := 100) hk1 hk2 (by omega), if_neg (by decide), q1, Option.bind_some, r65_2, l66, if_pos (gd_nI (by omega) (by omega)), nI_cl (by omega), nmE, mq.1]
  generalize hPP : dP D p = P at *
  have hlr := shLR P k
  have hN := fa_first_le (fun x => !darkB P k x) P.1
  have lp1 : iter (bd_X5_shadow_42 (ΛE b) τ (b + 65) (nI p) (nI k) (nI P.1)) FU (0 : Int32) = some (nI (fa_first (fun x => !darkB P k x) P.1)) := by
    refine run_loop (fun j => nI j) _ (fa_first (fun x => !darkB P k x) P.1) (by omega) rfl ?_ ?_
    · intro j hj
      unfold bd_X5_shadow_42
      rw [if_neg (nI_ge (by omega) (by omega)), darkM_eq hp8 mq (by omega) (by omega) hk2, Option.bind_some, first_dark hj, if_neg (by decide), nmE, nI_1]
    · unfold bd_X5_shadow_42
      by_cases e : fa_first (fun x => !darkB P k x) P.1 < P.1
      · have hy := fa_first_yes (fun x => !darkB P k x) P.1 e
        rw [if_neg (nI_ge e (by omega)), darkM_eq hp8 mq (by omega) (by omega) hk2, Option.bind_some, show darkB P k (fa_first (fun x => !darkB P k x) P.1) = false by simpa using hy, if_pos (by decide)]
      · rw [if_pos (nI_le (by omega) (by omega))]
  have lp2 : iter (bd_X5_shadow_68 (ΛE b) τ (b + 65) (nI p) (nI k) (nI P.1) (nI (fa_first (fun x => !darkB P k x) P.1))) FU (0 : Int32) = some (nI (P.1 - shR P k)) := by
    by_cases e : fa_first (fun x => !darkB P k x) P.1 = P.1
    · refine run_loop (fun j => nI j) _ 0 (by omega) rfl (fun j hj => absurd hj (Nat.not_lt_zero j)) ?_
      unfold bd_X5_shadow_68 shR
      rw [if_pos (nI_le (by omega) (by omega)), if_pos e, Nat.sub_self]
    · have hft := first_top e
      have ht := topB_le (fun x => !darkB P k x) P.1
      have esr : shR P k = topB (fun x => !darkB P k x) P.1 := by unfold shR; rw [if_neg e]
      rw [esr]
      refine run_loop (fun j => nI j) _ (P.1 - topB (fun x => !darkB P k x) P.1) (by omega) rfl ?_ ?_
      · intro j hj
        unfold bd_X5_shadow_68
        rw [if_neg (nI_ge (by omega) (by omega)), e1, nI_sb (by omega), nI_sb (by omega), darkM_eq hp8 mq (by omega) (by omega) hk2, Option.bind_some, tops_dark (by omega) (by omega), if_neg (by decide), nmE, nI_add]
      · unfold bd_X5_shadow_68
        have hy := topB_is (fun x => !darkB P k x) P.1 (by omega)
        rw [if_neg (nI_ge (by omega) (by omega)), e1, nI_sb (by omega), nI_sb (by omega), show P.1 - 1 - (P.1 - topB (fun x => !darkB P k x) P.1) = topB (fun x => !darkB P k x) P.1 - 1 by omega, darkM_eq hp8 mq (by omega) (by omega) hk2, Option.bind_some, show darkB P k (topB (fun x => !darkB P k x) P.1 - 1) = false by simpa using hy, if_pos (by decide)]
  rw [lp1, Option.bind_some, lp2, Option.bind_some]
  have okL1 : okL (shaL P k) := sha_ok gp0
  have fin : ∃ τ2, jp_X5_shadow_107 (ΛE b) τ (b + 65) (nI p) (nI P.1) (nI (P.1 - shR P k)) (nI (shL P k)) = some (nI (shL P k + (P.1 - shR P k)), τ2) ∧ MR b τ2 (setP (pushD (setL D (shaL P k)) p 0) p (minusP P (shaL P k))) ∧ KF b σ τ2 := by
    unfold jp_X5_shadow_107
    rw [nmE]
    obtain ⟨τ2, t1, t2⟩ := iter_for (f := bd_X5_shadow_117 (ΛE b) (b + 65) (nI p) (nI P.1) (nI (shL P k)) (nI (P.1 - shR P k))) P.2.1 (fun y z => z.1 = nI y ∧ TK b p P (shaL P k) τ y 0 z.2)
      (fun υ => TK b p P (shaL P k) τ P.2.1 0 υ) (s := ((0 : Int32), stI τ (b + 65) 19 0)) (n := FU)
      (by
        rintro y ⟨i, υ⟩ hy ⟨c1, c2⟩
        simp only at c1 c2
        subst c1
        obtain ⟨υ2, x1, x2⟩ := iter_for (f := bd_X5_shadow_131 (ΛE b) (b + 65) (nI p) (nI P.1) (nI (shL P k)) (nI (P.1 - shR P k)) (nI y)) P.1 (fun x z => z.1 = nI x ∧ TK b p P (shaL P k) τ y x z.2)
          (fun υ => TK b p P (shaL P k) τ (y + 1) 0 υ) (s := ((0 : Int32), υ)) (n := FU)
          (by
            rintro x ⟨i, υ⟩ hx ⟨d1, d2⟩
            simp only at d1 d2
            subst d1
            have hLx : (shaL P k).2.2 x y = (decide (x < shL P k ∨ (shR P k ≤ x ∧ x < P.1)) && P.2.2 x y) := rfl
            have eh : F_X5_has (ΛE b) υ (b + 65) (nI p) (nI x) (nI y) = some (bI (P.2.2 x y)) := by
              rw [has_eq hp8 d2.1 (show x < 64 by omega) (show y < 64 by omega)]
              show some (bI (P.2.2 x y && !((shaL P k).2.2 x y && decide (y < y ∨ (y = y ∧ x < x))))) = _
              rw [decide_eq_false (by omega), Bool.and_false, Bool.not_false, Bool.and_true]
            have f153 : (x < shL P k ∨ (shR P k ≤ x ∧ x < P.1)) → ∃ t, jp_X5_shadow_153 (ΛE b) υ (b + 65) (nI p) (nI P.1) (nI (shL P k)) (nI (P.1 - shR P k)) (nI y) (nI x) = some (.inl t) ∧ t.1 = nI (x + 1) ∧ TK b p P (shaL P k) τ y (x + 1) t.2 := by
              intro hc
              unfold jp_X5_shadow_153 jp_X5_shadow_174
              rw [eh, Option.bind_some, e0]
              simp only [bI_0, nmE, nI_1]
              rw [decide_eq_true hc, Bool.true_and] at hLx
              cases hg : P.2.2 x y with
              | false =>
                rw [hg] at hLx
                simp only [↓reduceIte]
                exact ⟨_, rfl, rfl, tk_skip d2 hLx⟩
              | true =>
                rw [hg] at hLx
                obtain ⟨υ3, s1, s2⟩ := tk_take hp8 okL1 (by omega) (by omega) d2 hLx
                simp only [Bool.true_eq_false, ↓reduceIte]
                rw [s1, Option.bind_some]
                exact ⟨_, rfl, rfl, s2⟩
            unfold bd_X5_shadow_131
            simp (disch := omega) only [le_f, ↓reduceIte, nI_sb]
            by_cases z1 : x < shL P k
            · rw [if_pos (nI_lt z1 (by omega))]
              exact f153 (Or.inl z1)
            · rw [if_neg (nI_nlt (by omega) (by omega))]
              by_cases z2 : x < P.1 - (P.1 - shR P k)
              · rw [if_pos (nI_lt z2 (by omega))]
                unfold jp_X5_shadow_174
                rw [nmE, nI_1]
                exact ⟨_, rfl, rfl, tk_skip d2 (by rw [hLx, decide_eq_false (by omega), Bool.false_and])⟩
              · rw [if_neg (nI_nlt (by omega) (by omega))]
                exact f153 (Or.inr ⟨by omega, hx⟩))
          (by
            rintro ⟨i, υ⟩ ⟨d1, d2⟩
            simp only at d1 d2
            subst d1
            unfold bd_X5_shadow_131
            simp (disch := omega) only [le_t, ↓reduceIte]
            exact ⟨_, rfl, tk_row okL1 rfl d2⟩)
          ⟨rfl, c2⟩ (by show _ < 5000; omega)
        have mh : υ.1 (b + 67) p = nI P.2.1 := c2.1.2.1
        unfold bd_X5_shadow_117
        simp (disch := omega) only [r65_3, l67, gd_nI, nI_cl, ↓reduceIte, mh, le_f, x1, Option.bind_some, nmE, nI_1]
        exact ⟨(_, υ2), rfl, rfl, x2⟩)
      (by
        rintro ⟨i, υ⟩ ⟨c1, c2⟩
        simp only at c1 c2
        subst c1
        have mh : υ.1 (b + 67) p = nI P.2.1 := c2.1.2.1
        unfold bd_X5_shadow_117
        simp (disch := omega) only [r65_3, l67, gd_nI, nI_cl, ↓reduceIte, mh, le_t]
        exact ⟨_, rfl, c2⟩)
      ⟨rfl, tk_0 mq⟩ (by show _ < 5000; omega)
    obtain ⟨u1, u2, u3⟩ := tk_end q2 hPP okL1 rfl t2
    rw [t1, Option.bind_some, nI_add]
    exact ⟨_, rfl, u2, KF_trans k1 (KF_trans q3 u3)⟩
  by_cases e : fa_first (fun x => !darkB P k x) P.1 = P.1
  · have esl : shL P k = 0 := by unfold shL; rw [if_pos e]
    rw [if_pos (by rw [e])]
    rw [esl] at fin
    rw [esl]
    exact fin
  · have esl : shL P k = fa_first (fun x => !darkB P k x) P.1 := by unfold shL; rw [if_neg e]
    rw [if_neg (fun q => e ((nI_eq (by omega) (by omega)).mp q)), ← esl]
    exact fin
theorem mp_shadow_f {b : Nat} {q x : Int32} {σ : Sto} {D : Desk} (hc : MR b σ D) (G : GD D) (hn : ¬ ((∃ p, p < dN D ∧ q = nI p) ∧ ∃ k, 1 ≤ k ∧ k ≤ 100 ∧ x = nI k)) : F_X5_shadow (ΛE b) σ (b + 65) q x = some (-1, stI σ (b + 65) 0 0) := by
  obtain ⟨h1, k1, -⟩ := mr0 (v := 0) hc
  unfold F_X5_shadow
  rw [nmE]
  generalize stI σ (b + 65) 0 0 = σ1 at *
  rw [nmE]
  by_cases c1 : ∃ p, p < dN D ∧ q = nI p
  · have c2 : ¬ ∃ k, 1 ≤ k ∧ k ≤ 100 ∧ x = nI k := fun c2 => hn ⟨c1, c2⟩
    obtain ⟨p, hp, rfl⟩ := c1
    rw [isPage_t h1 G.1 hp, if_neg (by decide), nmE, w1, w100, in_w, show F_X4_within x 1 100 = nI 0 from within_f (lo := 1) (hi := 100) (by omega) c2 (by omega), if_pos nI_0]
  · rw [isPage_f h1 G.1 c1, if_pos nI_0]
