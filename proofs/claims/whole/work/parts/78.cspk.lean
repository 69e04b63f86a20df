/-! THE CLASS'S SPOTS AND SPECKS -/
theorem Sh_in {σ : Sto} {a r N w h : Nat} {S : Nat → Nat → Bool} (hS : Sh σ a r N (w, h, S)) : ∀ x y, S x y = true → x < w ∧ y < h := hS.2.2.2.2.2
theorem Sh_x3 {σ : Sto} {a r N w h : Nat} {S T : Nat → Nat → Bool} (hS : Sh σ a r N (w, h, S)) (he : ∀ x y, T x y = S x y) : Sh σ a r N (w, h, T) := Sh_ext hS rfl rfl he
def spX (b : Nat) : List Nat := [b + 50, b + 51, b + 52, b + 53, b + 54, b + 55, b + 56, b + 57, b + 58, b + 59]
def FrR (b : Nat) (σ τ : Sto) : Prop := ∀ c, b + 65 ≤ c → c ≠ b + 83 → τ.1 c = σ.1 c ∧ τ.2 c = σ.2 c
theorem FrR_C {b : Nat} {σ τ : Sto} (h : FrC b σ τ) : FrR b σ τ := fun c hc hd => h c (Or.inl hc) hd
theorem CW_C {b : Nat} {σ τ : Sto} (h : FrC b σ τ) (hw : CW b σ) : CW b τ := ⟨fun y hy => by rw [(h (b + 59) (by omega) (by omega)).2]; exact hw.1 y hy, by rw [(h (b + 50) (by omega) (by omega)).2]; exact hw.2⟩
theorem FrR_trans {b : Nat} {σ τ υ : Sto} (h : FrR b σ τ) (h2 : FrR b τ υ) : FrR b σ υ := fun c hc hd => ⟨(h2 c hc hd).1.trans (h c hc hd).1, (h2 c hc hd).2.trans (h c hc hd).2⟩
theorem FrR_X {b : Nat} {σ τ : Sto} (h : Fr (spX b) σ τ) : FrR b σ τ := fun c hc _ => h c (by unfold spX; simp <;> omega)
theorem CR_X {b : Nat} {σ τ : Sto} {D : Desk} (h : CR b σ D) (hN : dN D ≤ 8) (hf : Fr (spX b) σ τ) : CR b τ D := CR_same h hN (fun c hc => hf c (by unfold spX; simp <;> omega))
theorem begin_eq {b p : Nat} {σ : Sto} {P : PG} (hp : p < 8) (hS : Sh σ (b + (2 + 2 * p)) (b + (3 + 2 * p)) 64 P) (hw : CW b σ) :
    ∃ τ, F_X3_begin (ΛE b) σ (b + 50) (b + (2 + 2 * p)) = some τ ∧ FB b P.1 P.2.1 0 P.2.2 τ (fun _ _ => false) ∧ Fr [b + 50, b + 53, b + 54, b + 55, b + 56] σ τ := by
  unfold F_X3_begin
  obtain ⟨τ, q1, q2, q3⟩ := become_sh (Λ := ΛE b) (r53_2 b) (l54 b) (by omega) (rPr hp b) (lP hp b) (by omega) (by omega) (by omega) hS hS.2.2.2.1
  have hS1 : Sh τ _ _ 64 P := Sh_Fr hS q3 (by simp <;> omega) (by simp <;> omega)
  obtain ⟨τ1, w1, w2, w3⟩ := empty_sh (Λ := ΛE b) (σ := τ) (w := P.1) (h := P.2.1) (r55_2 b) (l56 b) (by omega) hS.2.2.1 hS.2.2.2.1
  rw [r50_1, q1, Option.bind_some, r50_2, hS1.1, hS1.2.1, w1, Option.bind_some]
  simp only [nmE]
  have fr : Fr [b + 50, b + 53, b + 54, b + 55, b + 56] σ τ1 := Fr_trans (Fr_mono q3 (by simp)) (Fr_mono w3 (by simp))
  refine ⟨_, rfl, ⟨?_, ?_, ⟨fun y hy => ?_, ?_⟩, ⟨0, 0, ?_, ?_, by omega, by omega, fun x y q => (Bool.false_ne_true q).elim⟩, 0, ?_, Nat.zero_le _, fun _ _ _ => Nat.zero_le _⟩, Fr_trans fr (Fr_trans (Fr_trans (Fr_stI (by simp)) (Fr_stI (by simp))) (Fr_stI (by simp)))⟩
  · have s1 : Sh τ1 (b + 53) (b + 54) 64 P := Sh_Fr q2 w3 (by simp <;> omega) (by simp <;> omega)
    refine Sh_ext (Sh_fr s1 ?_ rfl) rfl rfl (fun x y => lef_0 _ x y)
    simp (disch := omega) only [stI_1, stI_2, stJ_1, stJ_2, putJ_1, putI_2, up2_self, up2_ne, up2_nk]
  · refine Sh_fr w2 ?_ rfl
    simp (disch := omega) only [stI_1, stI_2, stJ_1, stJ_2, putJ_1, putI_2, up2_self, up2_ne, up2_nk]
  · show τ1.2 (b + 59) y = 0
    rw [(fr (b + 59) (by simp <;> omega)).2]; exact hw.1 y hy
  · show τ1.2 (b + 50) 5 = 0
    rw [(w3 (b + 50) (by simp <;> omega)).2, (q3 (b + 50) (by simp <;> omega)).2]; exact hw.2
  · simp (disch := omega) only [stI_1, stI_2, stJ_1, stJ_2, putJ_1, putI_2, up2_self, up2_ne, up2_nk]; rfl
  · simp (disch := omega) only [stI_1, stI_2, stJ_1, stJ_2, putJ_1, putI_2, up2_self, up2_ne, up2_nk]; rfl
  · simp (disch := omega) only [stI_1, stI_2, stJ_1, stJ_2, putJ_1, putI_2, up2_self, up2_ne, up2_nk]; rfl
theorem ct_lead {I : Nat → Nat → Bool} {t j : Nat} (ht : t ≤ j) (hj : ldB I j = true) (hn : ∀ i, t ≤ i → i < j → ldB I i = false) : fb_ct (ldB I) (j + 1) = fb_ct (ldB I) t + 1 := by
  rw [fb_ct_succ, hj, if_pos rfl, ct_none ht hn]
theorem full_t {I : Nat → Nat → Bool} {t : Nat} (ht : t ≤ 4096) (h : 4096 ≤ fb_ct (ldB I) t) : t = 4096 := by
  have := fb_ct_le (ldB I) t
  omega
theorem number_eq {b p : Nat} {σ : Sto} {P : PG} (hp : p < 8) (hS : Sh σ (b + (2 + 2 * p)) (b + (3 + 2 * p)) 64 P) (hw : CW b σ) :
    ∃ τ, F_X3_number (ΛE b) σ (b + 50) (b + (2 + 2 * p)) = some (nI (nSp P.2.2), τ) ∧ CW b τ ∧ Fr (spX b) σ τ := by
  obtain ⟨τ, q1, q2, q3⟩ := begin_eq hp hS hw
  unfold F_X3_number
  rw [q1, Option.bind_some]
  have q4 : Fr (spX b) σ τ := Fr_mono q3 (by unfold spX; simp)
  obtain ⟨e, h1, h2, h3, h4⟩ := iter_mu (f := bd_X3_number_7 (ΛE b) (b + 50)) (fun s => ∃ t C, t ≤ 4096 ∧ FB b P.1 P.2.1 t P.2.2 s.2 C ∧ s.1 = nI (fb_ct (ldB P.2.2) t) ∧ Fr (spX b) σ s.2) (fun s => 4096 - s.1.toNatClampNeg)
    (fun e => e.1 = nI (nSp P.2.2) ∧ CW b e.2 ∧ Fr (spX b) σ e.2)
    (by
      rintro ⟨k, τ⟩ ⟨t, C, t1, t2, t3, t4⟩
      simp only at t2 t3 t4
      subst t3
      have hc := fb_ct_le (ldB P.2.2) t
      unfold bd_X3_number_7
      simp only
      rw [e4096]
      by_cases c1 : 4096 ≤ fb_ct (ldB P.2.2) t
      · rw [if_pos (nI_le c1 (by omega))]
        have := full_t t1 c1
        subst this
        exact Or.inr ⟨_, rfl, rfl, t2.2.2.1, t4⟩
      · rw [if_neg (nI_ge (by omega) (by omega))]
        rcases next_eq t2 with ⟨j, τ2, n1, n2, n3, n4, n5, n6, n7, n8⟩ | ⟨τ2, n5, n6, n7, n8⟩
        · rw [n5, Option.bind_some, if_neg (show ¬ ((1 : Int32), τ2).1 = 0 from (by decide : ¬ (1 : Int32) = 0)), nmE, nI_1]
          refine Or.inl ⟨_, rfl, ⟨j + 1, _, by omega, n6, ?_, Fr_trans t4 (Fr_mono n8 (by unfold spX; simp))⟩, ?_⟩
          · rw [ct_lead n2 n3 n4]
          · show 4096 - (nI (fb_ct (ldB P.2.2) t + 1)).toNatClampNeg < 4096 - (nI (fb_ct (ldB P.2.2) t)).toNatClampNeg
            rw [nI_cl (by omega), nI_cl (by omega)]; omega
        · rw [n5, Option.bind_some, if_pos (show ((0 : Int32), τ2).1 = 0 from rfl)]
          refine Or.inr ⟨_, rfl, ?_, n6.2.2.1, Fr_trans t4 (Fr_mono n8 (by unfold spX; simp))⟩
          show nI (fb_ct (ldB P.2.2) t) = nI (nSp P.2.2)
          unfold nSp
          rw [ct_none t1 n7])
    FU ((0 : Int32), τ) ⟨0, _, by omega, q2, rfl, q4⟩ (by show _ < 5000; omega)
  rw [h1, Option.bind_some, h2]
  exact ⟨_, rfl, h3, h4⟩
theorem largest_eq {b p : Nat} {σ : Sto} {P : PG} (hp : p < 8) (hS : Sh σ (b + (2 + 2 * p)) (b + (3 + 2 * p)) 64 P) (hw : CW b σ) :
    ∃ τ, F_X3_largest (ΛE b) σ (b + 50) (b + (2 + 2 * p)) = some (nI (lgSp P.2.2), τ) ∧ CW b τ ∧ Fr (spX b) σ τ := by
  obtain ⟨τ, q1, q2, q3⟩ := begin_eq hp hS hw
  unfold F_X3_largest
  rw [q1, Option.bind_some]
  have q4 : Fr (spX b) σ τ := Fr_mono q3 (by unfold spX; simp)
  obtain ⟨e, h1, h2, h3, h4⟩ := iter_mu (f := bd_X3_largest_9 (ΛE b) (b + 50)) (fun s => ∃ t C, t ≤ 4096 ∧ FB b P.1 P.2.1 t P.2.2 s.2.2 C ∧ s.2.1 = nI (fb_ct (ldB P.2.2) t) ∧ s.1 = nI (mxF (ldB P.2.2) (szS P.2.2) t) ∧ Fr (spX b) σ s.2.2) (fun s => 4096 - s.2.1.toNatClampNeg)
    (fun e => e.1 = nI (lgSp P.2.2) ∧ CW b e.2 ∧ Fr (spX b) σ e.2)
    (by
      rintro ⟨m, k, τ⟩ ⟨t, C, t1, t2, t3, t5, t4⟩
      simp only at t2 t3 t4 t5
      subst t3 t5
      have hc := fb_ct_le (ldB P.2.2) t
      have hm := mxF_bd (p := ldB P.2.2) (sz_bd P.2.2) t
      unfold bd_X3_largest_9
      simp only
      rw [e4096]
      by_cases c1 : 4096 ≤ fb_ct (ldB P.2.2) t
      · rw [if_pos (nI_le c1 (by omega))]
        have := full_t t1 c1
        subst this
        exact Or.inr ⟨_, rfl, rfl, t2.2.2.1, t4⟩
      · rw [if_neg (nI_ge (by omega) (by omega))]
        rcases next_eq t2 with ⟨j, τ2, n1, n2, n3, n4, n5, n6, n7, n8⟩ | ⟨τ2, n5, n6, n7, n8⟩
        · have hz := sz_bd P.2.2 j
          rw [n5, Option.bind_some, if_neg (show ¬ ((1 : Int32), τ2).1 = 0 from (by decide : ¬ (1 : Int32) = 0)), nmE, nmE, n7, nI_1, mx_nI (by omega) (by omega)]
          refine Or.inl ⟨_, rfl, ⟨j + 1, _, by omega, n6, ?_, ?_, Fr_trans t4 (Fr_mono n8 (by unfold spX; simp))⟩, ?_⟩
          · rw [ct_lead n2 n3 n4]
          · simp only [mxF]
            rw [n3, if_pos rfl]
            obtain ⟨d, rfl⟩ : ∃ d, j = t + d := ⟨j - t, by omega⟩
            rw [mxF_none n4]
          · show 4096 - (nI (fb_ct (ldB P.2.2) t + 1)).toNatClampNeg < 4096 - (nI (fb_ct (ldB P.2.2) t)).toNatClampNeg
            rw [nI_cl (by omega), nI_cl (by omega)]; omega
        · rw [n5, Option.bind_some, if_pos (show ((0 : Int32), τ2).1 = 0 from rfl)]
          refine Or.inr ⟨_, rfl, ?_, n6.2.2.1, Fr_trans t4 (Fr_mono n8 (by unfold spX; simp))⟩
          show nI (mxF (ldB P.2.2) (szS P.2.2) t) = nI (lgSp P.2.2)
          unfold lgSp
          obtain ⟨d, hd⟩ : ∃ d, 4096 = t + d := ⟨4096 - t, by omega⟩
          rw [hd, mxF_none (fun i i1 i2 => n7 i i1 (by omega))])
    FU ((0 : Int32), (0 : Int32), τ) ⟨0, _, by omega, q2, rfl, rfl, q4⟩ (by show _ < 5000; omega)
  rw [h1, Option.bind_some, h2]
  exact ⟨_, rfl, h3, h4⟩
theorem FB_fr {b w h t : Nat} {I C : Nat → Nat → Bool} {σ τ : Sto} {S : List Nat} (hB : FB b w h t I σ C) (hf : Fr S σ τ) (n50 : b + 50 ∉ S) (n53 : b + 53 ∉ S) (n54 : b + 54 ∉ S) (n55 : b + 55 ∉ S) (n56 : b + 56 ∉ S) (n59 : b + 59 ∉ S) : FB b w h t I τ C := by
  obtain ⟨h1, h2, h3, h4, h5⟩ := hB
  refine ⟨Sh_Fr h1 hf n53 n54, Sh_Fr h2 hf n55 n56, ⟨fun y hy => ?_, ?_⟩, ?_, ?_⟩
  · rw [(hf _ n59).2]; exact h3.1 y hy
  · rw [(hf _ n50).2]; exact h3.2
  · rw [(hf _ n50).1]; exact h4
  · rw [(hf _ n50).1]; exact h5
theorem addSpot_eq {b w h t a r : Nat} {I C N : Nat → Nat → Bool} {σ : Sto} (hB : FB b w h t I σ C) (hr : rfA (ΛE b) a 2 = r) (hn : ln (ΛE b) r = 64) (hne : r ≠ b + 56) (hS : Sh σ a r 64 (w, h, N)) :
    ∃ τ, F_X3_addSpotTo (ΛE b) σ (b + 50) a = some τ ∧ Sh τ a r 64 (w, h, fun x y => N x y || C x y) ∧ Fr [r] σ τ := by
  obtain ⟨hl, hs, hcw, ⟨tp, nb, t1, t2, t3, t4, t5⟩, -⟩ := hB
  unfold F_X3_addSpotTo
  rw [t1, nmE]
  have lp : iter (bd_X3_addSpotTo_5 (ΛE b) (b + 50) a) FU (nI tp, σ) = some (setR σ r (fun j => if tp ≤ j ∧ j < tp + (nb - tp) then σ.2 r j ||| σ.2 (b + 56) j else σ.2 r j)) := by
    refine run_loop (fun k => (nI (tp + k), setR σ r (fun j => if tp ≤ j ∧ j < tp + k then σ.2 r j ||| σ.2 (b + 56) j else σ.2 r j))) _ (nb - tp) (by omega) ?_ ?_ ?_
    · rw [show (fun j => if tp ≤ j ∧ j < tp + 0 then σ.2 r j ||| σ.2 (b + 56) j else σ.2 r j) = σ.2 r from funext fun j => if_neg (by omega), setR_id]; rfl
    · intro k hk
      unfold bd_X3_addSpotTo_5
      have a8 : (setR σ r (fun j => if tp ≤ j ∧ j < tp + k then σ.2 r j ||| σ.2 (b + 56) j else σ.2 r j)).1 (b + 50) 8 = nI nb - 1 := t2
      simp only [a8]
      rw [if_neg (by rw [last_lt (by omega) (by omega)]; omega)]
      simp (disch := omega) only [hr, hn, r50_2, r55_2, l56, e0, e1, e2, e3, e4, e7, e8, e9, e10, e12, e16, e20, e63, e64, e100, e4096, nI_add, pk_mul, nI_sb, le_t, le_f, lt_t, lt_f, nI_cl, gd_nI, ↓reduceIte, nmE, Option.bind_some, Option.bind_eq_bind]
      rw [setR_st (R2 := fun j => if tp ≤ j ∧ j < tp + (k + 1) then σ.2 r j ||| σ.2 (b + 56) j else σ.2 r j)]
      · rw [show tp + (k + 1) = tp + k + 1 by omega]
      · rw [if_pos (by omega), setR_r, if_neg (by omega), setR_ne (Ne.symm hne)]
      · intro j hj
        by_cases e : tp ≤ j ∧ j < tp + k
        · rw [if_pos e, if_pos (by omega)]
        · rw [if_neg e, if_neg (by omega)]
    · unfold bd_X3_addSpotTo_5
      have a8 : (setR σ r (fun j => if tp ≤ j ∧ j < tp + (nb - tp) then σ.2 r j ||| σ.2 (b + 56) j else σ.2 r j)).1 (b + 50) 8 = nI nb - 1 := t2
      simp only [a8]
      rw [if_pos (by rw [last_lt (by omega) (by omega)]; omega)]
  rw [lp, Option.bind_some]
  refine ⟨_, rfl, ?_, Fr_setR (by simp)⟩
  refine Sh_setR (g := fun x y => N x y || C x y) hS (fun y hy x => ?_) (fun x y q => ?_)
  · by_cases e : tp ≤ y ∧ y < tp + (nb - tp)
    · rw [if_pos e, tb_or, hS.2.2.2.2.1 y hy, hs.2.2.2.2.1 y hy]
    · rw [if_neg e, hS.2.2.2.2.1 y hy]
      cases hc : C x y with
      | false => simp
      | true => have := t5 x y hc; omega
  · simp only [Bool.or_eq_true] at q
    rcases q with q | q
    · exact hS.2.2.2.2.2 x y q
    · exact hs.2.2.2.2.2 x y q
theorem anyB_ext {p : Nat → Bool} {t j : Nat} (ht : t ≤ j) (h : ∀ i, t ≤ i → i < j → p i = false) : anyB p j = anyB p t := by
  cases h1 : anyB p j with
  | false =>
    symm
    rw [anyB_not] at h1 ⊢
    exact fun k hk => h1 k (by omega)
  | true =>
    symm
    rw [anyB_iff] at h1 ⊢
    obtain ⟨k, k1, k2⟩ := h1
    refine ⟨k, ?_, k2⟩
    rcases Nat.lt_or_ge k t with q | q
    · exact q
    · rw [h k q k1] at k2; cases k2
/-- the points of spots with more than k points whose first one is below t -/
noncomputable def bigT (I : Nat → Nat → Bool) (k t : Nat) (u v : Nat) : Bool := anyB (fun j => ldB I j && (decide (k < szS I j) && spot I j u v)) t
def nearS (I : Nat → Nat → Bool) (k d x y : Nat) : Prop := ∃ u v, bigT I k 4096 u v = true ∧ x ≤ u + d ∧ u ≤ x + d ∧ y ≤ v + d ∧ v ≤ y + d
theorem bigT_next {I : Nat → Nat → Bool} {k t j : Nat} (ht : t ≤ j) (hj : ldB I j = true) (hn : ∀ i, t ≤ i → i < j → ldB I i = false) (u v : Nat) : bigT I k (j + 1) u v = (bigT I k t u v || (decide (k < szS I j) && spot I j u v)) := by
  unfold bigT
  show (anyB _ j || (ldB I j && (decide (k < szS I j) && spot I j u v))) = _
  rw [anyB_ext ht (fun i i1 i2 => by rw [hn i i1 i2]; rfl), hj, Bool.true_and]
theorem bigT_end {I : Nat → Nat → Bool} {k t : Nat} (ht : t ≤ 4096) (hn : ∀ i, t ≤ i → i < 4096 → ldB I i = false) (u v : Nat) : bigT I k 4096 u v = bigT I k t u v := by
  unfold bigT
  exact anyB_ext ht (fun i i1 i2 => by rw [hn i i1 i2]; rfl)
theorem widen_eq {b w h : Nat} {N : Nat → Nat → Bool} {σ : Sto} (hS : Sh σ (b + 57) (b + 58) 64 (w, h, N)) :
    ∃ τ N2, F_X3_widenNear (ΛE b) σ (b + 50) = some τ ∧ Sh τ (b + 57) (b + 58) 64 (w, h, N2) ∧ Fr [b + 58] σ τ ∧ ∀ x y, N2 x y = true ↔ (x < w ∧ y < h ∧ ∃ u v, ad x y u v ∧ N u v = true) := by
  obtain ⟨s1, s2, s3, s4, s5, s6⟩ := hS
  have s1 : σ.1 (b + 57) 0 = nI w := s1
  have s2 : σ.1 (b + 57) 1 = nI h := s2
  have s3 : w ≤ 64 := s3
  have s4 : h ≤ 64 := s4
  have s5 : ∀ y, y < 64 → ∀ x, tb (σ.2 (b + 58) y) x = N x y := s5
  have s6 : ∀ x y, N x y = true → x < w ∧ y < h := s6
  generalize hab : (fun j : Nat => if j = 0 then (0 : Int64) else σ.2 (b + 58) (j - 1)) = abv
  generalize hbe : (fun j : Nat => if j + 1 < h then σ.2 (b + 58) (j + 1) else (0 : Int64)) = bel
  generalize hnw : (fun j => F_X3_widened ((abv j ||| σ.2 (b + 58) j) ||| bel j) &&& F_X2_allColumns (ΛE b) σ (b + 57)) = nw
  have tab : ∀ j x, j < h → (tb (abv j) x = true ↔ ∃ v, v + 1 = j ∧ N x v = true) := by
    intro j x hj
    rw [← hab]
    simp only
    by_cases e : j = 0
    · rw [if_pos e, tb_zero]
      exact ⟨fun q => (Bool.false_ne_true q).elim, fun ⟨v, v1, _⟩ => by omega⟩
    · rw [if_neg e, s5 _ (by omega)]
      exact ⟨fun q => ⟨j - 1, by omega, q⟩, fun ⟨v, v1, v2⟩ => by rw [show j - 1 = v by omega]; exact v2⟩
  have tbe : ∀ j x, j < h → (tb (bel j) x = true ↔ ∃ v, v = j + 1 ∧ N x v = true) := by
    intro j x hj
    rw [← hbe]
    simp only
    by_cases e : j + 1 < h
    · rw [if_pos e, s5 _ (by omega)]
      exact ⟨fun q => ⟨j + 1, rfl, q⟩, fun ⟨v, v1, v2⟩ => by rw [← v1]; exact v2⟩
    · rw [if_neg e, tb_zero]
      exact ⟨fun q => (Bool.false_ne_true q).elim, fun ⟨v, v1, v2⟩ => by have := (s6 x v v2).2; omega⟩
  have tany : ∀ j x, j < h → (tb ((abv j ||| σ.2 (b + 58) j) ||| bel j) x = true ↔ ∃ v, j ≤ v + 1 ∧ v ≤ j + 1 ∧ N x v = true) := by
    intro j x hj
    rw [tb_or, tb_or, Bool.or_eq_true, Bool.or_eq_true, tab j x hj, tbe j x hj, s5 j (by omega)]
    constructor
    · rintro ((⟨v, v1, v2⟩ | q) | ⟨v, v1, v2⟩)
      · exact ⟨v, by omega, by omega, v2⟩
      · exact ⟨j, by omega, by omega, q⟩
      · exact ⟨v, by omega, by omega, v2⟩
    · rintro ⟨v, v1, v2, v3⟩
      rcases (show v + 1 = j ∨ v = j ∨ v = j + 1 by omega) with e | e | e
      · exact Or.inl (Or.inl ⟨v, e, v3⟩)
      · subst e; exact Or.inl (Or.inr v3)
      · exact Or.inr ⟨v, e, v3⟩
  have tnw : ∀ j x, j < h → (tb (nw j) x = true ↔ (x < w ∧ ∃ u v, ad x j u v ∧ N u v = true)) := by
    intro j x hj
    rw [← hnw]
    simp only
    rw [tb_and, allColumns_tb s1 s3, Bool.and_eq_true, decide_eq_true_eq]
    constructor
    · rintro ⟨q1, q2⟩
      obtain ⟨u, u1, u2, u3⟩ := widened_f q1
      obtain ⟨v, v1, v2, v3⟩ := (tany j u hj).mp u1
      exact ⟨q2, u, v, ⟨u2, u3, v1, v2⟩, v3⟩
    · rintro ⟨q1, u, v, ⟨d1, d2, d3, d4⟩, q2⟩
      exact ⟨widened_t ((tany j u hj).mpr ⟨v, d3, d4, q2⟩) d1 d2 (by omega), q1⟩
  unfold F_X3_widenNear
  rw [run_loop (s0 := ((0 : Int64), (0 : Int32), σ)) (fun k => (abv k, nI k, setR σ (b + 58) (fun j => if j < k then nw j else σ.2 (b + 58) j))) (setR σ (b + 58) (fun j => if j < h then nw j else σ.2 (b + 58) j)) h (by omega)
    (by
      rw [show (fun j => if j < 0 then nw j else σ.2 (b + 58) j) = σ.2 (b + 58) from funext fun j => if_neg (by omega), setR_id, ← hab]
      rfl)]
  · rw [Option.bind_some]
    refine ⟨_, fun x y => decide (y < h) && tb (nw y) x, rfl, ?_, Fr_setR (by simp), fun x y => ?_⟩
    · refine Sh_setR (P := (w, h, N)) (g := fun x y => decide (y < h) && tb (nw y) x) ⟨s1, s2, s3, s4, s5, s6⟩ (fun y hy x => ?_) (fun x y q => ?_)
      · by_cases e : y < h
        · rw [if_pos e, decide_eq_true e]; rfl
        · rw [if_neg e, decide_eq_false e, s5 y hy, Bool.false_and]
          cases hc : N x y with
          | false => rfl
          | true => exact absurd (s6 x y hc).2 e
      · simp only [Bool.and_eq_true, decide_eq_true_eq] at q
        exact ⟨((tnw y x q.1).mp q.2).1, q.1⟩
    · simp only [Bool.and_eq_true, decide_eq_true_eq]
      constructor
      · rintro ⟨q1, q2⟩
        have := (tnw y x q1).mp q2
        exact ⟨this.1, q1, this.2⟩
      · rintro ⟨q1, q2, q3⟩
        exact ⟨q2, (tnw y x q2).mpr ⟨q1, q3⟩⟩
  · intro k hk
    have fin : ∀ z, z = bel k → jp_X3_widenNear_54 (ΛE b) (setR σ (b + 58) (fun j => if j < k then nw j else σ.2 (b + 58) j)) (b + 50) (abv k) (nI k) (σ.2 (b + 58) k) z = some (.inl (abv (k + 1), nI (k + 1), setR σ (b + 58) (fun j => if j < k + 1 then nw j else σ.2 (b + 58) j))) := by
      intro z hz
      unfold jp_X3_widenNear_54
      simp (disch := omega) only [r50_3, r57_2, l58, e0, e1, e2, e3, e4, e7, e8, e9, e10, e12, e16, e20, e63, e64, e100, e4096, nI_add, pk_mul, nI_sb, le_t, le_f, lt_t, lt_f, nI_cl, gd_nI, ↓reduceIte, nmE, Option.bind_some, Option.bind_eq_bind]
      rw [setR_st (R2 := fun j => if j < k + 1 then nw j else σ.2 (b + 58) j)]
      · rw [← hab]; rfl
      · rw [if_pos (by omega), ← hnw, hz]
        rfl
      · intro j hj
        by_cases e : j < k
        · rw [if_pos e, if_pos (by omega)]
        · rw [if_neg e, if_neg (by omega)]
    unfold bd_X3_widenNear_4
    have a1 : (setR σ (b + 58) (fun j => if j < k then nw j else σ.2 (b + 58) j)).1 (b + 57) 1 = nI h := s2
    have a2 : (setR σ (b + 58) (fun j => if j < k then nw j else σ.2 (b + 58) j)).2 (b + 58) k = σ.2 (b + 58) k := by rw [setR_r, if_neg (by omega)]
    have a3 : (setR σ (b + 58) (fun j => if j < k then nw j else σ.2 (b + 58) j)).2 (b + 58) (k + 1) = σ.2 (b + 58) (k + 1) := by rw [setR_r, if_neg (by omega)]
    simp (disch := omega) only [r50_3, r57_2, l58, a1, a2, le_f, gd_nI, nI_cl, ↓reduceIte, nmE, e1, nI_add]
    by_cases e : k + 1 < h
    · rw [if_neg (nI_ge e (by omega)), if_pos (gd_nI (by omega) (by omega)), a3]
      exact fin _ (by rw [← hbe]; simp only; rw [if_pos e])
    · rw [if_pos (nI_le (by omega) (by omega))]
      exact fin _ (by rw [← hbe]; simp only; rw [if_neg e])
  · unfold bd_X3_widenNear_4
    have a1 : (setR σ (b + 58) (fun j => if j < h then nw j else σ.2 (b + 58) j)).1 (b + 57) 1 = nI h := s2
    simp (disch := omega) only [r50_3, a1, le_t, ↓reduceIte]
theorem mark_eq {b p k d : Nat} {σ : Sto} {P : PG} (hp : p < 8) (hS : Sh σ (b + (2 + 2 * p)) (b + (3 + 2 * p)) 64 P) (hw : CW b σ) (hk : k ≤ 100) (hd : d ≤ 20) :
    ∃ τ N, F_X3_markNearLarge (ΛE b) σ (b + 50) (b + (2 + 2 * p)) (nI k) (nI d) = some τ ∧ CW b τ ∧ Sh τ (b + 57) (b + 58) 64 (P.1, P.2.1, N) ∧ (∀ x y, N x y = true ↔ (x < P.1 ∧ y < P.2.1 ∧ nearS P.2.2 k d x y)) ∧ Fr (spX b) σ τ := by
  unfold F_X3_markNearLarge
  obtain ⟨τ, q1, q2, q3⟩ := empty_sh (Λ := ΛE b) (σ := σ) (w := P.1) (h := P.2.1) (r57_2 b) (l58 b) (by omega) hS.2.2.1 hS.2.2.2.1
  rw [r50_3, hS.1, hS.2.1, q1, Option.bind_some]
  have hS1 : Sh τ _ _ 64 P := Sh_Fr hS q3 (by simp <;> omega) (by simp <;> omega)
  have hw1 : CW b τ := ⟨fun y hy => by rw [(q3 (b + 59) (by simp <;> omega)).2]; exact hw.1 y hy, by rw [(q3 (b + 50) (by simp <;> omega)).2]; exact hw.2⟩
  obtain ⟨τ1, w1, w2, w3⟩ := begin_eq hp hS1 hw1
  rw [w1, Option.bind_some]
  have f1 : Fr (spX b) σ τ1 := Fr_trans (Fr_mono q3 (by unfold spX; simp)) (Fr_mono w3 (by unfold spX; simp))
  have n1 : Sh τ1 (b + 57) (b + 58) 64 (noP P.1 P.2.1) := Sh_Fr q2 w3 (by simp <;> omega) (by simp <;> omega)
  obtain ⟨τ2, h1, h2, h3, h4⟩ := iter_mu (f := bd_X3_markNearLarge_23 (ΛE b) (b + 50) (nI k) (nI d)) (fun s => ∃ t C, t ≤ 4096 ∧ FB b P.1 P.2.1 t P.2.2 s.2 C ∧ s.1 = nI (fb_ct (ldB P.2.2) t) ∧ Sh s.2 (b + 57) (b + 58) 64 (P.1, P.2.1, bigT P.2.2 k t) ∧ Fr (spX b) σ s.2) (fun s => 4096 - s.1.toNatClampNeg)
    (fun e => CW b e ∧ Sh e (b + 57) (b + 58) 64 (P.1, P.2.1, bigT P.2.2 k 4096) ∧ Fr (spX b) σ e)
    (by
      rintro ⟨i, τ⟩ ⟨t, C, t1, t2, t3, t5, t4⟩
      simp only at t2 t3 t4 t5
      subst t3
      have hc := fb_ct_le (ldB P.2.2) t
      unfold bd_X3_markNearLarge_23
      simp only
      rw [e4096]
      by_cases c1 : 4096 ≤ fb_ct (ldB P.2.2) t
      · rw [if_pos (nI_le c1 (by omega))]
        have := full_t t1 c1
        subst this
        exact Or.inr ⟨_, rfl, t2.2.2.1, t5, t4⟩
      · rw [if_neg (nI_ge (by omega) (by omega))]
        rcases next_eq t2 with ⟨j, τ2, n1, n2, n3, n4, n5, n6, n7, n8⟩ | ⟨τ2, n5, n6, n7, n8⟩
        · have hz := sz_bd P.2.2 j
          have s3 : Sh τ2 (b + 57) (b + 58) 64 (P.1, P.2.1, bigT P.2.2 k t) := Sh_Fr t5 n8 (by simp <;> omega) (by simp <;> omega)
          have f3 : Fr (spX b) σ τ2 := Fr_trans t4 (Fr_mono n8 (by unfold spX; simp))
          rw [n5, Option.bind_some, if_neg (show ¬ ((1 : Int32), τ2).1 = 0 from (by decide : ¬ (1 : Int32) = 0)), n7]
          unfold jp_X3_markNearLarge_54
          have mu : 4096 - (nI (fb_ct (ldB P.2.2) t + 1)).toNatClampNeg < 4096 - (nI (fb_ct (ldB P.2.2) t)).toNatClampNeg := by
            rw [nI_cl (by omega), nI_cl (by omega)]; omega
          by_cases c2 : szS P.2.2 j ≤ k
          · rw [if_pos (nI_le c2 (by omega)), nmE, nI_1]
            refine Or.inl ⟨_, rfl, ⟨j + 1, _, by omega, n6, by rw [ct_lead n2 n3 n4], Sh_ext s3 rfl rfl (fun x y => ?_), f3⟩, mu⟩
            show bigT P.2.2 k (j + 1) x y = bigT P.2.2 k t x y
            rw [bigT_next n2 n3 n4, decide_eq_false (by omega), Bool.false_and, Bool.or_false]
          · obtain ⟨τ3, a1, a2, a3⟩ := addSpot_eq n6 (r57_2 b) (l58 b) (by omega) s3
            rw [if_neg (nI_ge (by omega) (by omega)), r50_3, a1, Option.bind_some, nmE, nI_1]
            refine Or.inl ⟨_, rfl, ⟨j + 1, _, by omega, FB_fr n6 a3 (by simp <;> omega) (by simp <;> omega) (by simp <;> omega) (by simp <;> omega) (by simp <;> omega) (by simp <;> omega), by rw [ct_lead n2 n3 n4], Sh_ext a2 rfl rfl (fun x y => ?_), Fr_trans f3 (Fr_mono a3 (by unfold spX; simp))⟩, mu⟩
            show bigT P.2.2 k (j + 1) x y = (bigT P.2.2 k t x y || spot P.2.2 j x y)
            rw [bigT_next n2 n3 n4, decide_eq_true (by omega), Bool.true_and]
        · rw [n5, Option.bind_some, if_pos (show ((0 : Int32), τ2).1 = 0 from rfl)]
          refine Or.inr ⟨_, rfl, n6.2.2.1, Sh_x3 (Sh_Fr t5 n8 (by simp <;> omega) (by simp <;> omega)) (bigT_end t1 n7), Fr_trans t4 (Fr_mono n8 (by unfold spX; simp))⟩)
    FU ((0 : Int32), τ1) ⟨0, _, by omega, w2, rfl, Sh_ext n1 rfl rfl (fun x y => rfl), f1⟩ (by show _ < 5000; omega)
  have h3in : ∀ x y, bigT P.2.2 k 4096 x y = true → x < P.1 ∧ y < P.2.1 := Sh_in h3
  rw [h1, Option.bind_some]
  obtain ⟨τ3, j1, j2, N, j3, j4, j5⟩ := iter_for (f := bd_X3_markNearLarge_63 (ΛE b) (b + 50) (nI d)) d
    (fun n s => s.1 = nI n ∧ CW b s.2 ∧ ∃ N, Sh s.2 (b + 57) (b + 58) 64 (P.1, P.2.1, N) ∧ (∀ x y, N x y = true ↔ (x < P.1 ∧ y < P.2.1 ∧ nearS P.2.2 k n x y)) ∧ Fr (spX b) σ s.2)
    (fun e => CW b e ∧ ∃ N, Sh e (b + 57) (b + 58) 64 (P.1, P.2.1, N) ∧ (∀ x y, N x y = true ↔ (x < P.1 ∧ y < P.2.1 ∧ nearS P.2.2 k d x y)) ∧ Fr (spX b) σ e) (s := ((0 : Int32), τ2)) (n := FU)
    (by
      rintro n ⟨i, τ⟩ hn ⟨c1, c2, N, c3, c4, c5⟩
      simp only at c1 c2 c3 c5
      subst c1
      obtain ⟨τ4, N2, a1, a2, a3, a4⟩ := widen_eq c3
      unfold bd_X3_markNearLarge_63
      simp only
      rw [if_neg (nI_ge hn (by omega)), a1, Option.bind_some, nmE, nI_1]
      refine ⟨_, rfl, rfl, ⟨fun y hy => ?_, ?_⟩, N2, a2, fun x y => ?_, Fr_trans c5 (Fr_mono a3 (by unfold spX; simp))⟩
      · rw [(a3 (b + 59) (by simp <;> omega)).2]; exact c2.1 y hy
      · rw [(a3 (b + 50) (by simp <;> omega)).2]; exact c2.2
      · rw [a4]
        constructor
        · rintro ⟨q1, q2, u, v, ⟨d1, d2, d3, d4⟩, q3⟩
          obtain ⟨_, _, u2, v2, z1, z2, z3, z4, z5⟩ := (c4 u v).mp q3
          exact ⟨q1, q2, u2, v2, z1, by omega, by omega, by omega, by omega⟩
        · rintro ⟨q1, q2, u2, v2, z1, z2, z3, z4, z5⟩
          have hb := h3in u2 v2 z1
          have toward : ∀ (a c m : Nat), a < m → c < m → a ≤ c + (n + 1) → c ≤ a + (n + 1) → ∃ e, a ≤ e + 1 ∧ e ≤ a + 1 ∧ e < m ∧ e ≤ c + n ∧ c ≤ e + n := by
            intro a c m h1 h2 h3 h4
            rcases Nat.lt_trichotomy a c with z | z | z
            · exact ⟨a + 1, by omega, by omega, by omega, by omega, by omega⟩
            · exact ⟨a, by omega, by omega, by omega, by omega, by omega⟩
            · exact ⟨a - 1, by omega, by omega, by omega, by omega, by omega⟩
          obtain ⟨u, u1, u3, u4, u5, u6⟩ := toward x u2 P.1 q1 hb.1 z2 z3
          obtain ⟨v, v1, v3, v4, v5, v6⟩ := toward y v2 P.2.1 q2 hb.2 z4 z5
          exact ⟨q1, q2, u, v, ⟨u1, u3, v1, v3⟩, (c4 u v).mpr ⟨u4, v4, u2, v2, z1, u5, u6, v5, v6⟩⟩)
    (by
      rintro ⟨i, τ⟩ ⟨c1, c2, c3⟩
      simp only at c1 c2 c3
      subst c1
      unfold bd_X3_markNearLarge_63
      simp only
      rw [if_pos (nI_le (by omega) (by omega))]
      exact ⟨_, rfl, c2, c3⟩)
    ⟨rfl, h2, _, h3, fun x y => ⟨fun q => by
      have hb := h3in x y q
      exact ⟨hb.1, hb.2, x, y, q, by omega, by omega, by omega, by omega⟩, fun ⟨_, _, u, v, q, z1, z2, z3, z4⟩ => by
      rw [show x = u by omega, show y = v by omega]; exact q⟩, h4⟩ (by show _ < 5000; omega)
  rw [j1, Option.bind_some]
  exact ⟨_, N, rfl, j2, j3, j4, j5⟩
