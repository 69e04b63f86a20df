/-! THE CLASS'S CALLS, the last ones: specks, take, of -/
theorem touch_eq {b w h t : Nat} {I C N : Nat → Nat → Bool} {σ : Sto} (hB : FB b w h t I σ C) (hS : Sh σ (b + 57) (b + 58) 64 (w, h, N)) :
    ∃ z, F_X3_touchesNear (ΛE b) σ (b + 50) = some z ∧ ((z = 1 ∧ ∃ x y, C x y = true ∧ N x y = true) ∨ (z = 0 ∧ ¬ ∃ x y, C x y = true ∧ N x y = true)) := by
  obtain ⟨hl, hs, hcw, ⟨tp, nb, t1, t2, t3, t4, t5⟩, -⟩ := hB
  unfold F_X3_touchesNear
  rw [t1, nmE]
  obtain ⟨e, h1, h2⟩ := iter_mu (f := bd_X3_touchesNear_7 (ΛE b) σ (b + 50)) (fun s => (∃ k, s = ((0 : Int32), nI k) ∧ k ≤ 64 ∧ ∀ x y, y < k → C x y = true → N x y = false) ∨ (∃ k, s = ((1 : Int32), nI k) ∧ k ≤ 64 ∧ ∃ x y, C x y = true ∧ N x y = true)) (fun s => 100 - s.2.toNatClampNeg)
    (fun z => (z = 1 ∧ ∃ x y, C x y = true ∧ N x y = true) ∨ (z = 0 ∧ ¬ ∃ x y, C x y = true ∧ N x y = true))
    (by
      rintro s (⟨k, rfl, k1, k2⟩ | ⟨k, rfl, k1, k2⟩)
      · unfold bd_X3_touchesNear_7
        simp only [t2]
        by_cases c1 : nI nb - 1 < nI k
        · rw [if_pos c1]
          rw [last_lt (by omega) (by omega)] at c1
          refine Or.inr ⟨_, rfl, Or.inr ⟨rfl, fun ⟨x, y, q1, q2⟩ => ?_⟩⟩
          have := t5 x y q1
          rw [k2 x y (by omega) q1] at q2; cases q2
        · rw [if_neg c1, if_pos trivial]
          rw [last_lt (by omega) (by omega)] at c1
          unfold jp_X3_touchesNear_48
          simp (disch := omega) only [r50_2, r55_2, l56, r50_3, r57_2, l58, gd_nI, nI_cl, ↓reduceIte, nmE, nI_1]
          have hz : (lg_cmp (σ.2 (b + 56) k &&& σ.2 (b + 58) k) 0 = nI 0) = (∀ i, tb (σ.2 (b + 56) k &&& σ.2 (b + 58) k) i = false) := zero_is
          have hrow : ∀ i, tb (σ.2 (b + 56) k &&& σ.2 (b + 58) k) i = (C i k && N i k) := fun i => by rw [tb_and, hs.2.2.2.2.1 k (by omega), hS.2.2.2.2.1 k (by omega)]
          rw [e0]
          by_cases c2 : ∀ i, tb (σ.2 (b + 56) k &&& σ.2 (b + 58) k) i = false
          · rw [if_pos (by rw [hz]; exact c2)]
            refine Or.inl ⟨_, rfl, Or.inl ⟨k + 1, rfl, by omega, fun x y hy q => ?_⟩, ?_⟩
            · by_cases e : y = k
              · subst e
                have := c2 x
                rw [hrow, q, Bool.true_and] at this
                exact this
              · exact k2 x y (by omega) q
            · show 100 - (nI (k + 1)).toNatClampNeg < 100 - k
              rw [nI_cl (by omega)]; omega
          · rw [if_neg (by rw [hz]; exact c2)]
            have c3 : ∃ i, (C i k && N i k) = true := Classical.byContradiction fun c3 => c2 (fun i => by
              rw [hrow]
              cases hc : (C i k && N i k) with
              | false => rfl
              | true => exact absurd ⟨i, hc⟩ c3)
            obtain ⟨i, hi⟩ := c3
            rw [Bool.and_eq_true] at hi
            refine Or.inl ⟨_, rfl, Or.inr ⟨k + 1, rfl, by omega, i, k, hi.1, hi.2⟩, ?_⟩
            show 100 - (nI (k + 1)).toNatClampNeg < 100 - k
            rw [nI_cl (by omega)]; omega
      · unfold bd_X3_touchesNear_7
        simp only
        right
        by_cases c1 : σ.1 (b + 50) 8 < nI k
        · rw [if_pos c1]; exact ⟨_, rfl, Or.inl ⟨rfl, k2⟩⟩
        · rw [if_neg c1, if_neg (by decide)]; exact ⟨_, rfl, Or.inl ⟨rfl, k2⟩⟩)
    FU ((0 : Int32), nI tp) (Or.inl ⟨tp, rfl, by omega, fun x y hy q => by have := t5 x y q; omega⟩) (by show _ < 5000; omega)
  rw [h1, Option.bind_some]
  have hz : bz e = true := by
    rcases h2 with ⟨rfl, _⟩ | ⟨rfl, _⟩ <;> decide
  rw [if_pos hz]
  exact ⟨e, rfl, h2⟩
/-- a first one whose spot is a speck -/
noncomputable def spkB (I : Nat → Nat → Bool) (k d j : Nat) : Bool := haveI := Classical.propDecidable (∃ x y, spot I j x y = true ∧ nearS I k d x y); ldB I j && !decide (∃ x y, spot I j x y = true ∧ nearS I k d x y)
theorem spk_t {I : Nat → Nat → Bool} {k d j : Nat} (h : ldB I j = true) (h2 : ¬ ∃ x y, spot I j x y = true ∧ nearS I k d x y) : spkB I k d j = true := by
  unfold spkB
  rw [h, Bool.true_and, Bool.not_eq_true']
  exact @decide_eq_false _ (Classical.propDecidable _) h2
theorem spk_f {I : Nat → Nat → Bool} {k d j : Nat} (h2 : ∃ x y, spot I j x y = true ∧ nearS I k d x y) : spkB I k d j = false := by
  unfold spkB
  rw [Bool.and_eq_false_iff]
  right
  rw [Bool.not_eq_false']
  exact @decide_eq_true _ (Classical.propDecidable _) h2
theorem spk_l {I : Nat → Nat → Bool} {k d j : Nat} (h : ldB I j = false) : spkB I k d j = false := by
  unfold spkB
  rw [h, Bool.false_and]
theorem spk_is {I : Nat → Nat → Bool} {k d j : Nat} (h : spkB I k d j = true) : ldB I j = true ∧ ¬ ∃ x y, spot I j x y = true ∧ nearS I k d x y := by
  constructor
  · cases hl : ldB I j with
    | true => rfl
    | false => rw [spk_l hl] at h; cases h
  · intro q
    rw [spk_f q] at h; cases h
noncomputable def spkS (I : Nat → Nat → Bool) (k d t : Nat) (u v : Nat) : Bool := anyB (fun j => spkB I k d j && spot I j u v) t
theorem spkS_next {I : Nat → Nat → Bool} {k d t j : Nat} (ht : t ≤ j) (hn : ∀ i, t ≤ i → i < j → ldB I i = false) (u v : Nat) : spkS I k d (j + 1) u v = (spkS I k d t u v || (spkB I k d j && spot I j u v)) := by
  unfold spkS
  show (anyB _ j || (spkB I k d j && spot I j u v)) = _
  rw [anyB_ext ht (fun i i1 i2 => by rw [spk_l (hn i i1 i2)]; rfl)]
theorem spkS_end {I : Nat → Nat → Bool} {k d t : Nat} (ht : t ≤ 4096) (hn : ∀ i, t ≤ i → i < 4096 → ldB I i = false) (u v : Nat) : spkS I k d 4096 u v = spkS I k d t u v := by
  unfold spkS
  exact anyB_ext ht (fun i i1 i2 => by rw [spk_l (hn i i1 i2)]; rfl)
theorem ct_spk {I : Nat → Nat → Bool} {k d t j : Nat} (ht : t ≤ j) (hn : ∀ i, t ≤ i → i < j → ldB I i = false) : fb_ct (spkB I k d) j = fb_ct (spkB I k d) t := ct_none ht (fun i i1 i2 => spk_l (hn i i1 i2))
noncomputable def spkP (P : PG) (k d : Nat) : PG := (P.1, P.2.1, spkS P.2.2 k d 4096)
theorem findSpecks_eq {b p k d : Nat} {σ : Sto} {P : PG} (hp : p < 8) (hS : Sh σ (b + (2 + 2 * p)) (b + (3 + 2 * p)) 64 P) (hw : CW b σ) (hk : k ≤ 100) (hd : d ≤ 20) :
    ∃ τ, F_X3_findSpecks (ΛE b) σ (b + 50) (b + (2 + 2 * p)) (nI k) (nI d) = some (nI (fb_ct (spkB P.2.2 k d) 4096), τ) ∧ CW b τ ∧ Sh τ (b + 51) (b + 52) 64 (spkP P k d) ∧ Fr (spX b) σ τ := by
  unfold F_X3_findSpecks
  obtain ⟨τ0, N, m1, m2, m3, m4, m5⟩ := mark_eq (k := k) (d := d) hp hS hw hk hd
  have hS0 : Sh τ0 _ _ 64 P := Sh_Fr hS m5 (by unfold spX; simp <;> omega) (by unfold spX; simp <;> omega)
  obtain ⟨τ, q1, q2, q3⟩ := empty_sh (Λ := ΛE b) (σ := τ0) (w := P.1) (h := P.2.1) (r51_2 b) (l52 b) (by omega) hS.2.2.1 hS.2.2.2.1
  rw [m1, Option.bind_some, r50_0, hS0.1, hS0.2.1, q1, Option.bind_some]
  have hS1 : Sh τ _ _ 64 P := Sh_Fr hS0 q3 (by simp <;> omega) (by simp <;> omega)
  have hw1 : CW b τ := ⟨fun y hy => by rw [(q3 (b + 59) (by simp <;> omega)).2]; exact m2.1 y hy, by rw [(q3 (b + 50) (by simp <;> omega)).2]; exact m2.2⟩
  obtain ⟨τ1, w1, w2, w3⟩ := begin_eq hp hS1 hw1
  rw [w1, Option.bind_some]
  have f1 : Fr (spX b) σ τ1 := Fr_trans m5 (Fr_trans (Fr_mono q3 (by unfold spX; simp)) (Fr_mono w3 (by unfold spX; simp)))
  have n1 : Sh τ1 (b + 51) (b + 52) 64 (noP P.1 P.2.1) := Sh_Fr q2 w3 (by simp <;> omega) (by simp <;> omega)
  have nN : Sh τ1 (b + 57) (b + 58) 64 (P.1, P.2.1, N) := Sh_Fr (Sh_Fr m3 q3 (by simp <;> omega) (by simp <;> omega)) w3 (by simp <;> omega) (by simp <;> omega)
  obtain ⟨e, h1, h0, h2, h3, h4⟩ := iter_mu (f := bd_X3_findSpecks_33 (ΛE b) (b + 50)) (fun s => ∃ t C, t ≤ 4096 ∧ FB b P.1 P.2.1 t P.2.2 s.2.2 C ∧ s.2.1 = nI (fb_ct (ldB P.2.2) t) ∧ s.1 = nI (fb_ct (spkB P.2.2 k d) t) ∧ Sh s.2.2 (b + 51) (b + 52) 64 (P.1, P.2.1, spkS P.2.2 k d t) ∧ Sh s.2.2 (b + 57) (b + 58) 64 (P.1, P.2.1, N) ∧ Fr (spX b) σ s.2.2) (fun s => 4096 - s.2.1.toNatClampNeg)
    (fun e => e.1 = nI (fb_ct (spkB P.2.2 k d) 4096) ∧ CW b e.2 ∧ Sh e.2 (b + 51) (b + 52) 64 (spkP P k d) ∧ Fr (spX b) σ e.2)
    (by
      rintro ⟨m, i, τ⟩ ⟨t, C, t1, t2, t3, t6, t5, t7, t4⟩
      simp only at t2 t3 t4 t5 t6 t7
      subst t3 t6
      have hc := fb_ct_le (ldB P.2.2) t
      have hc2 := fb_ct_le (spkB P.2.2 k d) t
      unfold bd_X3_findSpecks_33
      simp only
      rw [e4096]
      by_cases c1 : 4096 ≤ fb_ct (ldB P.2.2) t
      · rw [if_pos (nI_le c1 (by omega))]
        have := full_t t1 c1
        subst this
        exact Or.inr ⟨_, rfl, rfl, t2.2.2.1, t5, t4⟩
      · rw [if_neg (nI_ge (by omega) (by omega))]
        rcases next_eq t2 with ⟨j, τ2, n1, n2, n3, n4, n5, n6, n7, n8⟩ | ⟨τ2, n5, n6, n7, n8⟩
        · have s3 : Sh τ2 (b + 51) (b + 52) 64 (P.1, P.2.1, spkS P.2.2 k d t) := Sh_Fr t5 n8 (by simp <;> omega) (by simp <;> omega)
          have s4 : Sh τ2 (b + 57) (b + 58) 64 (P.1, P.2.1, N) := Sh_Fr t7 n8 (by simp <;> omega) (by simp <;> omega)
          have f3 : Fr (spX b) σ τ2 := Fr_trans t4 (Fr_mono n8 (by unfold spX; simp))
          have mu : 4096 - (nI (fb_ct (ldB P.2.2) t + 1)).toNatClampNeg < 4096 - (nI (fb_ct (ldB P.2.2) t)).toNatClampNeg := by
            rw [nI_cl (by omega), nI_cl (by omega)]; omega
          obtain ⟨z, z1, z2⟩ := touch_eq n6 s4
          rw [n5, Option.bind_some, if_neg (show ¬ ((1 : Int32), τ2).1 = 0 from (by decide : ¬ (1 : Int32) = 0)), z1, Option.bind_some]
          unfold jp_X3_findSpecks_66
          have tin : (∃ x y, spot P.2.2 j x y = true ∧ N x y = true) ↔ ∃ x y, spot P.2.2 j x y = true ∧ nearS P.2.2 k d x y := by
            constructor
            · rintro ⟨x, y, q1, q2⟩
              exact ⟨x, y, q1, ((m4 x y).mp q2).2.2⟩
            · rintro ⟨x, y, q1, q2⟩
              have hb := n6.2.1.2.2.2.2.2 x y q1
              exact ⟨x, y, q1, (m4 x y).mpr ⟨hb.1, hb.2, q2⟩⟩
          rcases z2 with ⟨rfl, z3⟩ | ⟨rfl, z3⟩
          · have es := spk_f (tin.mp z3)
            rw [if_neg (by decide), nmE, nI_1]
            refine Or.inl ⟨_, rfl, ⟨j + 1, _, by omega, n6, by rw [ct_lead n2 n3 n4], ?_, Sh_ext s3 rfl rfl (fun x y => ?_), s4, f3⟩, mu⟩
            · rw [fb_ct_succ, ct_spk n2 n4, es]; rfl
            · show spkS P.2.2 k d (j + 1) x y = spkS P.2.2 k d t x y
              rw [spkS_next n2 n4, es, Bool.false_and, Bool.or_false]
          · have es := spk_t n3 (fun q => z3 (tin.mpr q))
            obtain ⟨τ3, a1, a2, a3⟩ := addSpot_eq n6 (r51_2 b) (l52 b) (by omega) s3
            rw [if_pos rfl, nmE, r50_0, a1, Option.bind_some, nmE, nI_1, nI_1]
            refine Or.inl ⟨_, rfl, ⟨j + 1, _, by omega, FB_fr n6 a3 (by simp <;> omega) (by simp <;> omega) (by simp <;> omega) (by simp <;> omega) (by simp <;> omega) (by simp <;> omega), by rw [ct_lead n2 n3 n4], ?_, Sh_ext a2 rfl rfl (fun x y => ?_), Sh_Fr s4 a3 (by simp <;> omega) (by simp <;> omega), Fr_trans f3 (Fr_mono a3 (by unfold spX; simp))⟩, mu⟩
            · rw [fb_ct_succ, ct_spk n2 n4, es]; rfl
            · show spkS P.2.2 k d (j + 1) x y = (spkS P.2.2 k d t x y || spot P.2.2 j x y)
              rw [spkS_next n2 n4, es, Bool.true_and]
        · rw [n5, Option.bind_some, if_pos (show ((0 : Int32), τ2).1 = 0 from rfl)]
          refine Or.inr ⟨_, rfl, ?_, n6.2.2.1, Sh_x3 (Sh_Fr t5 n8 (by simp <;> omega) (by simp <;> omega)) (spkS_end t1 n7), Fr_trans t4 (Fr_mono n8 (by unfold spX; simp))⟩
          show nI (fb_ct (spkB P.2.2 k d) t) = _
          rw [ct_spk t1 n7])
    FU ((0 : Int32), (0 : Int32), τ1) ⟨0, _, by omega, w2, rfl, rfl, Sh_ext n1 rfl rfl (fun x y => rfl), nN, f1⟩ (by show _ < 5000; omega)
  rw [h1, Option.bind_some, h0]
  exact ⟨_, rfl, h2, h3, h4⟩
theorem rule_t {k d : Nat} (k1 : 1 ≤ k) (k2 : k ≤ 100) (hd : d ≤ 20) : F_X4_isSpeckRule (nI k) (nI d) = nI 1 := by
  unfold F_X4_isSpeckRule
  simp (disch := omega) only [e0, e1, e2, e3, e4, e7, e8, e9, e10, e12, e16, e20, e63, e64, e100, e4096, nmE, within_t, eq_f, ↓reduceIte]
theorem rule_f {x z : Int32} (h : ¬ ∃ k d, 1 ≤ k ∧ k ≤ 100 ∧ d ≤ 20 ∧ x = nI k ∧ z = nI d) : F_X4_isSpeckRule x z = nI 0 := by
  unfold F_X4_isSpeckRule
  simp only [e0, e1, e2, e3, e4, e7, e8, e9, e10, e12, e16, e20, e63, e64, e100, e4096, nmE]
  by_cases c1 : ∃ k, 1 ≤ k ∧ k ≤ 100 ∧ x = nI k
  · obtain ⟨k, k1, k2, rfl⟩ := c1
    rw [within_t k1 k2 (by omega), if_neg (by decide), within_f (by omega) (fun ⟨d, _, d2, d3⟩ => h ⟨k, d, k1, k2, d2, rfl, d3⟩) (by omega), if_pos rfl]
  · rw [within_f (by omega) c1 (by omega), if_pos rfl]
theorem cp_specks_t {b p k d : Nat} {σ : Sto} {D : Desk} (h : CR b σ D) (hw : CW b σ) (G : GD D) (hp : p < dN D) (k1 : 1 ≤ k) (k2 : k ≤ 100) (hd : d ≤ 20) :
    ∃ τ, F_X4_specks (ΛE b) σ b (nI p) (nI k) (nI d) = some (nI (fb_ct (spkB (dP D p).2.2 k d) 4096), τ) ∧ CR b τ D ∧ CW b τ ∧ FrR b σ τ := by
  have g1 := G.1
  obtain ⟨τ, q1, q2, q3, q4⟩ := findSpecks_eq (show p < 8 by omega) (h.2.1 p hp) hw k2 hd
  unfold F_X4_specks
  rw [find_t h g1 hp, Option.bind_some, oc_s, nmE, rule_t k1 k2 hd, if_neg (by decide), r0_3, q1, Option.bind_some]
  exact ⟨_, rfl, CR_X h g1 q4, q2, FrR_X q4⟩
theorem cp_specks_f {b : Nat} {q x z : Int32} {σ : Sto} {D : Desk} (hc : CR b σ D) (G : GD D) (hn : ¬ ((∃ p, p < dN D ∧ q = nI p) ∧ ∃ k d, 1 ≤ k ∧ k ≤ 100 ∧ d ≤ 20 ∧ x = nI k ∧ z = nI d)) : F_X4_specks (ΛE b) σ b q x z = some (-1, σ) := by
  unfold F_X4_specks
  by_cases c1 : ∃ p, p < dN D ∧ q = nI p
  · have c2 : ¬ ∃ k d, 1 ≤ k ∧ k ≤ 100 ∧ d ≤ 20 ∧ x = nI k ∧ z = nI d := fun c2 => hn ⟨c1, c2⟩
    obtain ⟨p, hp, rfl⟩ := c1
    rw [find_t hc G.1 hp, Option.bind_some, oc_s, nmE, rule_f c2, if_pos nI_0]
  · rw [find_f hc G.1 c1, Option.bind_some, oc_n]
theorem spkP_ok {σ : Sto} {a r : Nat} {P : PG} {k d : Nat} (hS : Sh σ a r 64 (spkP P k d)) : okL (spkP P k d) := ⟨hS.2.2.1, hS.2.2.2.1, hS.2.2.2.2.2⟩
theorem okL_of {w h : Nat} {S : Nat → Nat → Bool} (h1 : w ≤ 64) (h2 : h ≤ 64) (h3 : ∀ x y, S x y = true → x < w ∧ y < h) : okL (w, h, S) := ⟨h1, h2, h3⟩
theorem spk_in {P : PG} (hP : okL P) {k d : Nat} : okL (spkP P k d) := by
  unfold spkP
  refine okL_of hP.1 hP.2.1 (fun x y q => hP.2.2 x y ?_)
  unfold spkS at q
  obtain ⟨j, j1, j2⟩ := anyB_iff.mp q
  rw [Bool.and_eq_true] at j2
  exact spot_ink (ld_ink (spk_is j2.1).1) j2.2
theorem cp_take_t {b p k d : Nat} {σ : Sto} {D : Desk} (h : CR b σ D) (hw : CW b σ) (G : GD D) (hp : p < dN D) (k1 : 1 ≤ k) (k2 : k ≤ 100) (hd : d ≤ 20) :
    ∃ τ, F_X4_take (ΛE b) σ b (nI p) (nI k) (nI d) = some (nI (inkP (spkP (dP D p) k d)), τ) ∧ CR b τ (setP (pushD (setL D (spkP (dP D p) k d)) p 0) p (minusP (dP D p) (spkP (dP D p) k d))) ∧ CW b τ ∧ FrR b σ τ := by
  have g1 := G.1
  obtain ⟨τ, q1, q2, q3, q4⟩ := findSpecks_eq (show p < 8 by omega) (h.2.1 p hp) hw k2 hd
  have c0 := CR_X h g1 q4
  obtain ⟨τ1, w1, w2, w3⟩ := become_sh (Λ := ΛE b) (r60_2 b) (l61 b) (by omega) (r51_2 b) (l52 b) (by omega) (by omega) (by omega) q3 q3.2.2.2.1
  have c1 := CR_list c0 g1 (Fr_mono w3 (by simp)) w2
  have G1 := GD_list (L := spkP (dP D p) k d) G (spkP_ok q3)
  obtain ⟨τ2, x1, x2, x3⟩ := takeListed_cr (p := p) c1 G1 hp
  have s2 : Sh τ2 (b + 60) (b + 61) 64 (spkP (dP D p) k d) := x2.2.2.2.2.2.1
  have fC : FrC b τ τ2 := FrC_trans (FrC_of w3 (by simp)) x3
  unfold F_X4_take
  rw [find_t h g1 hp, Option.bind_some, oc_s, nmE, rule_t k1 k2 hd, if_neg (by decide), r0_3, q1, Option.bind_some]
  simp only
  rw [r0_4, r50_0, w1, Option.bind_some, x1, Option.bind_some, ink_eq (r60_2 b) (l61 b) (by omega) s2, Option.bind_some]
  exact ⟨_, rfl, x2, CW_C fC q2, FrR_trans (FrR_X q4) (FrR_C fC)⟩
theorem cp_take_f {b : Nat} {q x z : Int32} {σ : Sto} {D : Desk} (hc : CR b σ D) (G : GD D) (hn : ¬ ((∃ p, p < dN D ∧ q = nI p) ∧ ∃ k d, 1 ≤ k ∧ k ≤ 100 ∧ d ≤ 20 ∧ x = nI k ∧ z = nI d)) : F_X4_take (ΛE b) σ b q x z = some (-1, σ) := by
  unfold F_X4_take
  by_cases c1 : ∃ p, p < dN D ∧ q = nI p
  · have c2 : ¬ ∃ k d, 1 ≤ k ∧ k ≤ 100 ∧ d ≤ 20 ∧ x = nI k ∧ z = nI d := fun c2 => hn ⟨c1, c2⟩
    obtain ⟨p, hp, rfl⟩ := c1
    rw [find_t hc G.1 hp, Option.bind_some, oc_s, nmE, rule_f c2, if_pos nI_0]
  · rw [find_f hc G.1 c1, Option.bind_some, oc_n]
-- of
def inC (P : PG) : Nat := fb_ct (colB P) 64
noncomputable def ofN (P : PG) (w : Nat) : Nat := if w = 0 then P.1 else if w = 1 then P.2.1 else if w = 2 then inkP P else if w = 3 then inR P else if w = 4 then inC P else if w = 5 then nSp P.2.2 else lgSp P.2.2
theorem cp_of_t {b p w : Nat} {σ : Sto} {D : Desk} (h : CR b σ D) (hw : CW b σ) (G : GD D) (hp : p < dN D) (hq : w ≤ 6) :
    ∃ τ, F_X4_of (ΛE b) σ b (nI p) (nI w) = some (nI (ofN (dP D p) w), τ) ∧ CR b τ D ∧ CW b τ ∧ FrR b σ τ := by
  have g1 := G.1
  have hS := h.2.1 p hp
  have fr : FrR b σ σ := fun _ _ _ => ⟨rfl, rfl⟩
  unfold F_X4_of
  rw [find_t h g1 hp, Option.bind_some, oc_s]
  unfold ofN
  rcases (show w = 0 ∨ w = 1 ∨ w = 2 ∨ w = 3 ∨ w = 4 ∨ w = 5 ∨ w = 6 by omega) with q | q | q | q | q | q | q
  · subst q
    rw [if_pos (by decide), if_pos rfl, hS.1]
    exact ⟨_, rfl, h, hw, fr⟩
  · subst q
    rw [if_neg (by decide), if_pos (by decide), if_neg (by decide), if_pos rfl, hS.2.1]
    exact ⟨_, rfl, h, hw, fr⟩
  · subst q
    rw [if_neg (by decide), if_neg (by decide), if_pos (by decide), if_neg (by decide), if_neg (by decide), if_pos rfl, ink_eq (rPr (by omega) b) (lP (by omega) b) (by omega) hS, Option.bind_some]
    exact ⟨_, rfl, h, hw, fr⟩
  · subst q
    obtain ⟨v, v1, v2⟩ := inkedRows_eq (rPr (show p < 8 by omega) b) (lP (by omega) b) (by omega) hS
    rw [if_neg (by decide), if_neg (by decide), if_neg (by decide), if_pos (by decide), if_neg (by decide), if_neg (by decide), if_neg (by decide), if_pos rfl, v1, Option.bind_some, nmE, bitCount_eq, fb_ct_cong (fun y _ => v2 y)]
    exact ⟨_, rfl, h, hw, fr⟩
  · subst q
    obtain ⟨v, v1, v2⟩ := inkedColumns_eq (rPr (show p < 8 by omega) b) (lP (by omega) b) (by omega) hS
    rw [if_neg (by decide), if_neg (by decide), if_neg (by decide), if_neg (by decide), if_pos (by decide), if_neg (by decide), if_neg (by decide), if_neg (by decide), if_neg (by decide), if_pos rfl, v1, Option.bind_some, nmE, bitCount_eq, fb_ct_cong (fun y _ => v2 y)]
    exact ⟨_, rfl, h, hw, fr⟩
  · subst q
    obtain ⟨τ, q1, q2, q3⟩ := number_eq (show p < 8 by omega) hS hw
    rw [if_neg (by decide), if_neg (by decide), if_neg (by decide), if_neg (by decide), if_neg (by decide), if_pos (by decide), if_neg (by decide), if_neg (by decide), if_neg (by decide), if_neg (by decide), if_neg (by decide), if_pos rfl, r0_3, q1, Option.bind_some]
    exact ⟨_, rfl, CR_X h g1 q3, q2, FrR_X q3⟩
  · subst q
    obtain ⟨τ, q1, q2, q3⟩ := largest_eq (show p < 8 by omega) hS hw
    rw [if_neg (by decide), if_neg (by decide), if_neg (by decide), if_neg (by decide), if_neg (by decide), if_neg (by decide), if_pos (by decide), if_neg (by decide), if_neg (by decide), if_neg (by decide), if_neg (by decide), if_neg (by decide), if_neg (by decide), r0_3, q1, Option.bind_some]
    exact ⟨_, rfl, CR_X h g1 q3, q2, FrR_X q3⟩
theorem cp_of_f {b : Nat} {q x : Int32} {σ : Sto} {D : Desk} (hc : CR b σ D) (G : GD D) (hn : ¬ ((∃ p, p < dN D ∧ q = nI p) ∧ ∃ w, w ≤ 6 ∧ x = nI w)) : F_X4_of (ΛE b) σ b q x = some (-1, σ) := by
  unfold F_X4_of
  by_cases c1 : ∃ p, p < dN D ∧ q = nI p
  · have c2 : ∀ w, w ≤ 6 → x ≠ nI w := fun w w1 w2 => hn ⟨c1, w, w1, w2⟩
    obtain ⟨p, hp, rfl⟩ := c1
    rw [find_t hc G.1 hp, Option.bind_some, oc_s, if_neg (show ¬ x = 0 from c2 0 (by omega)), if_neg (show ¬ x = 1 from c2 1 (by omega)), if_neg (show ¬ x = 2 from c2 2 (by omega)), if_neg (show ¬ x = 3 from c2 3 (by omega)), if_neg (show ¬ x = 4 from c2 4 (by omega)), if_neg (show ¬ x = 5 from c2 5 (by omega)), if_neg (show ¬ x = 6 from c2 6 (by omega))]
  · rw [find_f hc G.1 c1, Option.bind_some, oc_n]
