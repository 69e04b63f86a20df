/-! THE REFERENCE'S SPOTS, all; of -/
theorem lab_skip {I : Nat → Nat → Bool} {t u k : Nat} (htu : t ≤ u) (hk : k < 4096) (hn : ∀ i, t ≤ i → i < u → ldB I i = false) : lab I u k = lab I t k := by
  unfold lab
  by_cases hi : pk2 I k = true
  · obtain ⟨a, _, _⟩ := ldr_is hk hi
    by_cases c : ldr I k < t
    · rw [if_pos ⟨hi, by omega⟩, if_pos ⟨hi, c⟩]
    · rw [if_neg (fun q => by
        have := hn (ldr I k) (by omega) q.2
        rw [a] at this; cases this), if_neg (fun q => c q.2)]
  · rw [if_neg (fun q => hi q.1), if_neg (fun q => hi q.1)]
theorem lab_bd (I : Nat → Nat → Bool) (t : Nat) {k : Nat} (hk : k < 4096) : lab I t k ≤ 4096 := by
  unfold lab
  split
  · rename_i h
    obtain ⟨_, _, c⟩ := ldr_is hk h.1
    exact nmb_le I (by omega)
  · omega
def SI (b : Nat) (I : Nat → Nat → Bool) (σ0 : Sto) (t : Nat) (τ : Sto) : Prop := τ.1 (b + 65) 16 = nI (fb_ct (ldB I) t) ∧ (∀ k, k < 4096 → τ.1 (b + 75) k = nI (lab I t k)) ∧ (∀ j, j < t → ldB I j = true → τ.1 (b + 76) (nmb I j) = nI (szS I j)) ∧ MF b X0 σ0 τ
theorem SI_skip {b : Nat} {I : Nat → Nat → Bool} {σ0 τ : Sto} {t u : Nat} (htu : t ≤ u) (hn : ∀ i, t ≤ i → i < u → ldB I i = false) (h : SI b I σ0 t τ) : SI b I σ0 u τ := by
  obtain ⟨h1, h2, h3, h4⟩ := h
  refine ⟨by rw [ct_none htu hn]; exact h1, fun k hk => by rw [lab_skip htu hk hn]; exact h2 k hk, fun j hj hl => ?_, h4⟩
  rcases Nat.lt_or_ge j t with q | q
  · exact h3 j q hl
  · rw [hn j q hj] at hl; cases hl
theorem ld_off {I : Nat → Nat → Bool} {k : Nat} (h : pk2 I k = false) : ldB I k = false := by
  cases hl : ldB I k with
  | false => rfl
  | true => rw [ld_ink hl] at h; cases h
theorem findsSpots_eq {b p : Nat} {σ : Sto} {D : Desk} {P : PG} (hM : MR b σ D) (G : GD D) (hp : p < dN D) (hPP : dP D p = P) :
    ∃ τ, F_X5_findsSpots (ΛE b) σ (b + 65) (nI p) = some τ ∧ SI b P.2.2 σ 4096 τ := by
  have g1 := G.1
  have gp := G.2.1 p hp
  rw [hPP] at gp
  have gp0 := gp
  have hp8 : p < 8 := by omega
  unfold okP at gp
  have mp : MP b σ p P := by rw [← hPP]; exact hM.2.1 p hp
  unfold F_X5_findsSpots
  rw [nmE, run_loop (s0 := ((0 : Int32), stI σ (b + 65) 16 0)) (fun k => (nI k, putI (stI σ (b + 65) 16 0) (b + 75) 0 k (fun _ => nI 0))) (putI (stI σ (b + 65) 16 0) (b + 75) 0 4096 (fun _ => nI 0)) 4096 (by omega) (by rw [putI_0]; rfl)]
  · rw [Option.bind_some]
    have s0 : SI b P.2.2 σ 0 (putI (stI σ (b + 65) 16 0) (b + 75) 0 4096 (fun _ => nI 0)) := by
      refine ⟨?_, fun k hk => ?_, fun j hj => absurd hj (Nat.not_lt_zero j), MF_trans (MF_s (Or.inr rfl)) (MF_ap (Or.inr ⟨by omega, by omega⟩))⟩
      · rw [putI_ne (by omega), stI_1, up2_self]; rfl
      · rw [putI_in (by omega) (by omega)]
        unfold lab
        rw [if_neg (by omega)]
    generalize putI (stI σ (b + 65) 16 0) (b + 75) 0 4096 (fun _ => nI 0) = σ1 at *
    have off : ∀ x y, P.1 ≤ x ∨ P.2.1 ≤ y → P.2.2 x y = false := fun x y hq => by
      cases hc : P.2.2 x y with
      | false => rfl
      | true => have := gp.2.2.2.2 x y hc; omega
    obtain ⟨τ, t1, t2⟩ := iter_for (f := bd_X5_findsSpots_29 (ΛE b) (b + 65) (nI p)) P.2.1 (fun y z => z.1 = nI y ∧ SI b P.2.2 σ (64 * y) z.2)
      (fun τ => SI b P.2.2 σ 4096 τ) (s := ((0 : Int32), σ1)) (n := FU)
      (by
        rintro y ⟨i, υ⟩ hy ⟨c1, c2⟩
        simp only at c1 c2
        subst c1
        obtain ⟨υ2, x1, x2⟩ := iter_for (f := bd_X5_findsSpots_41 (ΛE b) (b + 65) (nI p) (nI y)) P.1 (fun x z => z.1 = nI x ∧ SI b P.2.2 σ (64 * y + x) z.2)
          (fun υ => SI b P.2.2 σ (64 * (y + 1)) υ) (s := ((0 : Int32), υ)) (n := FU)
          (by
            rintro x ⟨i, υ⟩ hx ⟨d1, d2⟩
            simp only at d1 d2
            subst d1
            have mu := MP_MF mp d2.2.2.2 (fun q => q)
            have ht : 64 * y + x < 4096 := by omega
            have epk : pk2 P.2.2 (64 * y + x) = P.2.2 x y := pk2_at _ (by omega)
            have hmod : (64 * y + x) % 64 = x := by omega
            have hdiv : (64 * y + x) / 64 = y := by omega
            have skip : ldB P.2.2 (64 * y + x) = false → ∃ t, jp_X5_findsSpots_101 (ΛE b) υ (b + 65) (nI p) (nI y) (nI x) = some (.inl t) ∧ t.1 = nI (x + 1) ∧ SI b P.2.2 σ (64 * y + (x + 1)) t.2 := by
              intro hl
              unfold jp_X5_findsSpots_101
              rw [nmE, nI_1]
              exact ⟨_, rfl, rfl, SI_skip (by omega) (fun i i1 i2 => by rw [show i = 64 * y + x by omega]; exact hl) d2⟩
            have m1 : υ.1 (b + 66) p = nI P.1 := mu.1
            unfold bd_X5_findsSpots_41
            simp (disch := omega) only [r65_2, l66, gd_nI, nI_cl, ↓reduceIte, m1, le_f, has_eq hp8 mu (show x < 64 by omega) (show y < 64 by omega), Option.bind_some]
            cases hg : P.2.2 x y with
            | false =>
              rw [if_pos (by decide)]
              exact skip (ld_off (by rw [epk]; exact hg))
            | true =>
              have hpk : pk2 P.2.2 (64 * y + x) = true := by rw [epk]; exact hg
              obtain ⟨l1, l2, l3⟩ := ldr_is ht hpk
              have v75 := d2.2.1 (64 * y + x) ht
              have hlb := lab_bd P.2.2 (64 * y + x) ht
              rw [if_neg (by decide), e64, pk_mul, nI_add, show y * 64 + x = 64 * y + x by omega, r65_13, l75, if_pos (gd_nI ht (by omega)), nI_cl (by omega), v75]
              by_cases cl : ldr P.2.2 (64 * y + x) < 64 * y + x
              · have hlp : 0 < lab P.2.2 (64 * y + x) (64 * y + x) := by
                  unfold lab
                  rw [if_pos ⟨hpk, cl⟩]
                  exact nmb_pos l1
                rw [if_neg (fun q => by
                  have := (nI_eq (b := 0) (by omega) (by omega)).mp q
                  omega)]
                refine skip ?_
                cases hl : ldB P.2.2 (64 * y + x) with
                | false => rfl
                | true => have := ldr_one ht hpk hl (spot_self _ _); omega
              · have el : ldr P.2.2 (64 * y + x) = 64 * y + x := by omega
                have hld : ldB P.2.2 (64 * y + x) = true := by rw [el] at l1; exact l1
                have hlz : lab P.2.2 (64 * y + x) (64 * y + x) = 0 := by
                  unfold lab
                  rw [if_neg (fun q => cl q.2)]
                have hnm : nmb P.2.2 (64 * y + x) = fb_ct (ldB P.2.2) (64 * y + x) + 1 := by
                  unfold nmb
                  rw [fb_ct_succ, hld, if_pos rfl]
                have hnl := nmb_le P.2.2 ht
                rw [hlz, if_pos nI_0, nmE, d2.1, nI_1, ← hnm]
                have f1 : MF b X0 σ (stI υ (b + 65) 16 (nI (nmb P.2.2 (64 * y + x)))) := MF_trans d2.2.2.2 (MF_s (Or.inr rfl))
                obtain ⟨υ3, Q, s1, s2, s3, s4, s5, s6⟩ := spread_eq2 (s := nmb P.2.2 (64 * y + x)) (t := 64 * y + x) (sx := x) (sy := y) (sn := lab P.2.2 (64 * y + x)) (σ0 := stI υ (b + 65) 16 (nI (nmb P.2.2 (64 * y + x)))) (MR_MF hM f1) G hp hPP (nmb_pos hld) (by omega) (fun k hk => by have := lab_bd P.2.2 (64 * y + x) hk; omega) (fun k hk hi => by
                  rw [lef_ldr hk hi]
                  unfold lab
                  obtain ⟨a, _, _⟩ := ldr_is hk hi
                  have := nmb_pos a
                  by_cases c : ldr P.2.2 k < 64 * y + x
                  · rw [if_pos ⟨hi, c⟩]; omega
                  · rw [if_neg (fun q => c q.2)]; omega) (MF_refl _ _ _) (by rw [stI_1, up2_self]) (fun k hk => by rw [stI_1, up2_ne _ _ _ (by omega)]; exact d2.2.1 k hk) rfl (by
                  have := (lef_ldr (t := 64 * y + x) ht hpk).mpr (by omega)
                  rw [pk2_at _ (show x < 64 by omega)] at this
                  exact this)
                have eQ : Q = spot P.2.2 (64 * y + x) := by
                  rw [s2]
                  unfold spot
                  rw [hmod, hdiv]
                rw [s1, Option.bind_some, stI_1, up2_self, r65_14, l76, if_pos (gd_nI (by omega) (by omega)), nmE, nI_cl (by omega)]
                unfold jp_X5_findsSpots_101
                rw [nmE, nI_1]
                refine ⟨_, rfl, rfl, ?_, fun k hk => ?_, fun j hj hl => ?_, MF_trans f1 (MF_trans s4 (MF_a (Or.inr ⟨by omega, by omega⟩)))⟩
                · rw [stI_1, up2_ne _ _ _ (by omega), s5]; rfl
                · rw [stI_1, up2_ne _ _ _ (by omega), s3 k hk, eQ]
                  refine congrArg nI ?_
                  show _ = lab P.2.2 (64 * y + x + 1) k
                  by_cases hi : pk2 P.2.2 k = true
                  · obtain ⟨a, a2, _⟩ := ldr_is hk hi
                    by_cases hs : pk2 (spot P.2.2 (64 * y + x)) k = true
                    · have := ldr_one hk hi hld hs
                      rw [if_pos hs]
                      unfold lab
                      rw [this, if_pos ⟨hi, by omega⟩]
                    · rw [if_neg hs]
                      have hne : ldr P.2.2 k ≠ 64 * y + x := fun q => hs (by rw [q] at a2; exact a2)
                      unfold lab
                      by_cases c : ldr P.2.2 k < 64 * y + x
                      · rw [if_pos ⟨hi, c⟩, if_pos ⟨hi, by omega⟩]
                      · rw [if_neg (fun q => c q.2), if_neg (fun q => by omega)]
                  · have hs : ¬ pk2 (spot P.2.2 (64 * y + x)) k = true := fun q => hi (spot_ink hpk q)
                    rw [if_neg hs]
                    unfold lab
                    rw [if_neg (fun q => hi q.1), if_neg (fun q => hi q.1)]
                · by_cases ej : j = 64 * y + x
                  · rw [ej, stI_1, up2_self, eQ]; rfl
                  · have hne : nmb P.2.2 j ≠ nmb P.2.2 (64 * y + x) := fun q => ej (nmb_inj hl hld q)
                    rw [stI_1, up2_nk _ _ _ hne, s6, stI_1, up2_ne _ _ _ (by omega)]
                    exact d2.2.2.1 j (by omega) hl)
          (by
            rintro ⟨i, υ⟩ ⟨d1, d2⟩
            simp only at d1 d2
            subst d1
            have mu := MP_MF mp d2.2.2.2 (fun q => q)
            have m1 : υ.1 (b + 66) p = nI P.1 := mu.1
            unfold bd_X5_findsSpots_41
            simp (disch := omega) only [r65_2, l66, gd_nI, nI_cl, ↓reduceIte, m1, le_t]
            exact ⟨_, rfl, SI_skip (by omega) (fun i i1 i2 => ld_off (off _ _ (Or.inl (by omega)))) d2⟩)
          ⟨rfl, c2⟩ (by show _ < 5000; omega)
        have mu := MP_MF mp c2.2.2.2 (fun q => q)
        have mh : υ.1 (b + 67) p = nI P.2.1 := mu.2.1
        unfold bd_X5_findsSpots_29
        simp (disch := omega) only [r65_3, l67, gd_nI, nI_cl, ↓reduceIte, mh, le_f, x1, Option.bind_some, nmE, nI_1]
        exact ⟨(_, υ2), rfl, rfl, x2⟩)
      (by
        rintro ⟨i, υ⟩ ⟨c1, c2⟩
        simp only at c1 c2
        subst c1
        have mu := MP_MF mp c2.2.2.2 (fun q => q)
        have mh : υ.1 (b + 67) p = nI P.2.1 := mu.2.1
        unfold bd_X5_findsSpots_29
        simp (disch := omega) only [r65_3, l67, gd_nI, nI_cl, ↓reduceIte, mh, le_t]
        exact ⟨_, rfl, SI_skip (by omega) (fun i i1 i2 => ld_off (off _ _ (Or.inr (by omega)))) c2⟩)
      ⟨rfl, s0⟩ (by show _ < 5000; omega)
    rw [t1, Option.bind_some]
    exact ⟨_, rfl, t2⟩
  · intro k hk
    unfold bd_X5_findsSpots_7
    simp (disch := omega) only [e4096, le_f, r65_13, l75, gd_nI, nI_cl, ↓reduceIte, nmE, e0, e1, nI_add]
    rw [putI_se (base := 0) (n := k) (k := k) (z := nI 0) (v := fun _ => nI 0) (by omega) rfl]
  · unfold bd_X5_findsSpots_7
    simp (disch := omega) only [e4096, le_t, ↓reduceIte]
theorem mxF_ct {p : Nat → Bool} {f : Nat → Nat} {s t : Nat} (h : fb_ct p s = fb_ct p t) : mxF p f s = mxF p f t := by
  have key : ∀ {s t : Nat}, s ≤ t → fb_ct p s = fb_ct p t → mxF p f t = mxF p f s := by
    intro s t hst e
    obtain ⟨d, rfl⟩ : ∃ d, t = s + d := ⟨t - s, by omega⟩
    refine mxF_none (fun i i1 i2 => ?_)
    rw [fb_ct_split] at e
    have := fb_ct_zero.mp (show fb_ct (fun k => p (s + k)) d = 0 by omega) (i - s) (by omega)
    rwa [show s + (i - s) = i by omega] at this
  rcases Nat.le_total s t with q | q
  · exact (key q h).symm
  · exact key q h.symm
theorem nSp_bd (I : Nat → Nat → Bool) : nSp I ≤ 4096 := fb_ct_le _ _
theorem largestM_eq {b : Nat} {I : Nat → Nat → Bool} {σ0 τ : Sto} {p l2 e1 e2 e3 : Int32} (h : SI b I σ0 4096 τ) : iter (bd_X5_of_136 (ΛE b) τ (b + 65) p l2 e1 e2 e3) FU ((0 : Int32), (1 : Int32)) = some (nI (lgSp I)) := by
  have hb := nSp_bd I
  have h16 : τ.1 (b + 65) 16 = nI (nSp I) := h.1
  obtain ⟨e, k1, k2⟩ := iter_for (f := bd_X5_of_136 (ΛE b) τ (b + 65) p l2 e1 e2 e3) (nSp I) (fun r z => z.2 = nI (r + 1) ∧ ∃ t, t ≤ 4096 ∧ fb_ct (ldB I) t = r ∧ z.1 = nI (mxF (ldB I) (szS I) t)) (fun e => e = nI (lgSp I)) (s := ((0 : Int32), (1 : Int32))) (n := FU)
    (by
      rintro r ⟨m, i⟩ hr ⟨c1, t, c2, c3, c4⟩
      simp only at c1 c4
      subst c1 c4
      obtain ⟨j, j1, j2, j3⟩ := fb_ct_kth hr
      have ej : nmb I j = r + 1 := by unfold nmb; rw [fb_ct_succ, j2, if_pos rfl, j3]
      have vz := h.2.2.1 j j1 j2
      rw [ej] at vz
      have hm := mxF_bd (p := ldB I) (sz_bd I) t
      have hz := sz_bd I j
      unfold bd_X5_of_136
      rw [h16]
      simp (disch := omega) only [lt_f, ↓reduceIte, r65_14, l76, gd_nI, nI_cl, nmE, vz, mx_nI, nI_1]
      refine ⟨_, rfl, rfl, j + 1, by omega, ej, ?_⟩
      simp only [mxF]
      rw [j2, if_pos rfl, mxF_ct (f := szS I) (show fb_ct (ldB I) j = fb_ct (ldB I) t by omega)])
    (by
      rintro ⟨m, i⟩ ⟨c1, t, c2, c3, c4⟩
      simp only at c1 c4
      subst c1 c4
      unfold bd_X5_of_136
      rw [h16]
      simp (disch := omega) only [lt_t, ↓reduceIte]
      refine ⟨_, rfl, ?_⟩
      unfold lgSp
      rw [mxF_ct (f := szS I) (show fb_ct (ldB I) t = fb_ct (ldB I) 4096 from c3)])
    ⟨rfl, 0, by omega, rfl, rfl⟩ (by show _ < 5000; omega)
  rw [k1, k2]
theorem inkP_w {P : PG} (hP : okP P) : inkP P = fb_sm (fun y => fb_ct (fun x => P.2.2 x y) P.1) P.2.1 := by
  unfold inkP
  refine fb_sm_cong (fun y _ => ?_)
  exact ct_ext2 hP.2.1 (fun k k1 _ => by
    cases hc : P.2.2 k y with
    | false => rfl
    | true => have := (hP.2.2.2.2 k y hc).1; omega)
theorem mp_of_t {b p w : Nat} {σ : Sto} {D : Desk} (h : MR b σ D) (G : GD D) (hp : p < dN D) (hq : w ≤ 6) :
    ∃ τ, F_X5_of (ΛE b) σ (b + 65) (nI p) (nI w) = some (nI (ofN (dP D p) w), τ) ∧ MR b τ D ∧ KF b σ τ := by
  obtain ⟨h1, k1, -⟩ := mr0 (v := 0) h
  have g1 := G.1
  have gp := G.2.1 p hp
  have gp0 := gp
  have hp8 : p < 8 := by omega
  unfold okP at gp
  unfold F_X5_of
  rw [nmE]
  generalize stI σ (b + 65) 0 0 = σ1 at *
  have mp := h1.2.1 p hp
  have lp1 : iter (bd_X5_of_38 (ΛE b) σ1 (b + 65) (nI p) (nI w) 0) FU ((0 : Int32), (0 : Int32), (0 : Int32)) = some (nI (inkP (dP D p)), nI (inR (dP D p))) := by
    have e : inR (dP D p) = fb_ct (rowB (dP D p)) (dP D p).2.1 := by
      unfold inR
      exact ct_ext2 (show (dP D p).2.1 ≤ 64 by omega) (row_out gp0)
    rw [inkP_w gp0, e]
    refine run_loop (fun k => (nI (fb_sm (fun y => fb_ct (fun x => (dP D p).2.2 x y) (dP D p).1) k), nI (fb_ct (rowB (dP D p)) k), nI k)) _ (dP D p).2.1 (by omega) rfl ?_ ?_
    · intro k hk
      have hc := fb_ct_le (fun x => (dP D p).2.2 x k) (dP D p).1
      unfold bd_X5_of_38 jp_X5_of_76
      simp (disch := omega) only [r65_3, l67, gd_nI, nI_cl, ↓reduceIte, mp.2.1, le_f, rowInk_eq hp8 mp (show (dP D p).1 ≤ 64 by omega) (show k < 64 by omega), Option.bind_some, nmE, e0, e1, nI_add, fb_ct_succ, fb_sm_succ]
      cases hr : rowB (dP D p) k with
      | false =>
        rw [(rowInk_pos gp0).mpr hr, if_pos (nI_le (by omega) (by omega))]
        simp
      | true =>
        have : fb_ct (fun x => (dP D p).2.2 x k) (dP D p).1 ≠ 0 := fun q => by
          rw [(rowInk_pos gp0).mp q] at hr; cases hr
        rw [if_neg (nI_ge (by omega) (by omega))]
        simp
    · unfold bd_X5_of_38
      simp (disch := omega) only [r65_3, l67, gd_nI, nI_cl, ↓reduceIte, mp.2.1, le_t]
  have lp2 : ∀ e1' e2', iter (bd_X5_of_88 (ΛE b) σ1 (b + 65) (nI p) (nI w) e1' e2') FU ((0 : Int32), (0 : Int32)) = some (nI (inC (dP D p))) := by
    intro e1' e2'
    have e : inC (dP D p) = fb_ct (colB (dP D p)) (dP D p).1 := by
      unfold inC
      exact ct_ext2 (show (dP D p).1 ≤ 64 by omega) (col_out gp0)
    rw [e]
    refine run_loop (fun k => (nI (fb_ct (colB (dP D p)) k), nI k)) _ (dP D p).1 (by omega) rfl ?_ ?_
    · intro k hk
      have hc := fb_ct_le (fun y => (dP D p).2.2 k y) (dP D p).2.1
      unfold bd_X5_of_88 jp_X5_of_116
      simp (disch := omega) only [r65_2, l66, gd_nI, nI_cl, ↓reduceIte, mp.1, le_f, colInk_eq hp8 mp (show (dP D p).2.1 ≤ 64 by omega) (show k < 64 by omega), Option.bind_some, nmE, e0, e1, nI_add, fb_ct_succ]
      cases hr : colB (dP D p) k with
      | false =>
        rw [colInk_pos.mpr hr, if_pos (nI_le (by omega) (by omega))]
        simp
      | true =>
        have : fb_ct (fun y => (dP D p).2.2 k y) (dP D p).2.1 ≠ 0 := fun q => by
          rw [colInk_pos.mp q] at hr; cases hr
        rw [if_neg (nI_ge (by omega) (by omega))]
        simp
    · unfold bd_X5_of_88
      simp (disch := omega) only [r65_2, l66, gd_nI, nI_cl, ↓reduceIte, mp.1, le_t]
  obtain ⟨τ, q1, q2⟩ := findsSpots_eq h1 G hp rfl
  have hm2 := MR_MF h1 q2.2.2.2
  have mt := hm2.2.1 p hp
  rw [nmE, isPage_t h1 g1 hp, if_neg (by decide), nmE, w0, w6, in_w, show F_X4_within (nI w) 0 6 = nI 1 from within_t (lo := 0) (hi := 6) (by omega) hq (by omega), if_neg (by decide), lp1, Option.bind_some, lp2, Option.bind_some, q1, Option.bind_some, largestM_eq q2, Option.bind_some, r65_2, l66, r65_3, l67, if_pos (gd_nI (show p < 8 by omega) (by omega)), nI_cl (by omega), mt.1, mt.2.1, if_pos (gd_nI (show p < 8 by omega) (by omega)), show τ.1 (b + 65) 16 = nI (nSp (dP D p).2.2) from q2.1]
  have fin : ∀ v : Int32, ∃ τ2, some (v, τ) = some (v, τ2) ∧ MR b τ2 D ∧ KF b σ τ2 := fun v => ⟨τ, rfl, hm2, KF_trans k1 (MF_KF q2.2.2.2)⟩
  unfold ofN
  rcases (show w = 0 ∨ w = 1 ∨ w = 2 ∨ w = 3 ∨ w = 4 ∨ w = 5 ∨ w = 6 by omega) with q | q | q | q | q | q | q
  · subst q
    rw [if_pos (by decide), if_pos rfl]; exact fin _
  · subst q
    rw [if_neg (by decide), if_pos (by decide), if_neg (by decide), if_pos rfl]; exact fin _
  · subst q
    rw [if_neg (by decide), if_neg (by decide), if_pos (by decide), if_neg (by decide), if_neg (by decide), if_pos rfl]; exact fin _
  · subst q
    rw [if_neg (by decide), if_neg (by decide), if_neg (by decide), if_pos (by decide), if_neg (by decide), if_neg (by decide), if_neg (by decide), if_pos rfl]; exact fin _
  · subst q
    rw [if_neg (by decide), if_neg (by decide), if_neg (by decide), if_neg (by decide), if_pos (by decide), if_neg (by decide), if_neg (by decide), if_neg (by decide), if_neg (by decide), if_pos rfl]; exact fin _
  · subst q
    rw [if_neg (by decide), if_neg (by decide), if_neg (by decide), if_neg (by decide), if_neg (by decide), if_pos (by decide), if_neg (by decide), if_neg (by decide), if_neg (by decide), if_neg (by decide), if_neg (by decide), if_pos rfl]; exact fin _
  · subst q
    rw [if_neg (by decide), if_neg (by decide), if_neg (by decide), if_neg (by decide), if_neg (by decide), if_neg (by decide), if_neg (by decide), if_neg (by decide), if_neg (by decide), if_neg (by decide), if_neg (by decide), if_neg (by decide)]; exact fin _
theorem mp_of_f {b : Nat} {q x : Int32} {σ : Sto} {D : Desk} (hc : MR b σ D) (G : GD D) (hn : ¬ ((∃ p, p < dN D ∧ q = nI p) ∧ ∃ w, w ≤ 6 ∧ x = nI w)) : F_X5_of (ΛE b) σ (b + 65) q x = some (-1, stI σ (b + 65) 0 0) := by
  obtain ⟨h1, k1, -⟩ := mr0 (v := 0) hc
  unfold F_X5_of
  rw [nmE]
  generalize stI σ (b + 65) 0 0 = σ1 at *
  rw [nmE]
  by_cases c1 : ∃ p, p < dN D ∧ q = nI p
  · have c2 : ¬ ∃ w, w ≤ 6 ∧ x = nI w := fun c2 => hn ⟨c1, c2⟩
    obtain ⟨p, hp, rfl⟩ := c1
    rw [isPage_t h1 G.1 hp, if_neg (by decide), nmE, w0, w6, in_w, show F_X4_within x 0 6 = nI 0 from within_f (lo := 0) (hi := 6) (by omega) (fun ⟨w, _, w2, w3⟩ => c2 ⟨w, w2, w3⟩) (by omega), if_pos nI_0]
  · rw [isPage_f h1 G.1 c1, if_pos nI_0]
