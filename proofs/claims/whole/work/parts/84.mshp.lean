/-! THE REFERENCE'S CALLS, going on: sharpness, angle, feet, bend, back -/
theorem rowInk_pos {P : PG} (hP : okP P) {y : Nat} : (fb_ct (fun x => P.2.2 x y) P.1 = 0) ↔ rowB P y = false := by
  rw [fb_ct_zero]
  unfold rowB
  rw [anyB_not]
  constructor
  · intro h k hk
    cases hc : P.2.2 k y with
    | false => rfl
    | true =>
      have := (hP.2.2.2.2 k y hc).1
      rw [h k this] at hc; cases hc
  · intro h k hk
    exact h k (by have := hP.2.1; omega)
theorem colInk_pos {P : PG} {x : Nat} : (fb_ct (fun y => P.2.2 x y) P.2.1 = 0) ↔ colB P x = false := by
  rw [fb_ct_zero]
  unfold colB
  rw [anyB_not]
theorem sharpM_eq {b p : Nat} {s : Int} {σ : Sto} {P : PG} (hp : p < 8) (mp : MP b σ p P) (hP : okP P) (hs : okS s) :
    ∃ τ, F_X5_sharpness (ΛE b) σ (b + 65) (nI p) (iI s) = some (nI (shpP s P), τ) ∧ MF b X0 σ τ := by
  have gp := hP
  unfold okP at gp
  have hw0 : 0 < P.1 := by omega
  have hw : P.1 ≤ 64 := by omega
  have hsp := spr_bd (n := P.1) hs hw0
  have hU : ∀ a c, (uprightP s P).2.2 a c = (decide (a < P.1) && (decide (off s P.1 a ≤ c) && P.2.2 a (c - off s P.1 a))) := fun a c => rfl
  have hUin : ∀ a c, (uprightP s P).2.2 a c = true → a < P.1 ∧ c < P.2.1 + spr s P.1 := fun a c q => by
    rw [hU, Bool.and_eq_true, Bool.and_eq_true, decide_eq_true_eq, decide_eq_true_eq] at q
    have := (gp.2.2.2.2 _ _ q.2.2).2
    have := off_le (s := s) q.1
    exact ⟨q.1, by omega⟩
  have eshp : shpP s P = fb_sm (fun y => sqr (fb_ct (fun x => (uprightP s P).2.2 x y) P.1)) 192 := by
    unfold shpP
    rw [show 192 = (P.2.1 + spr s P.1) + (192 - (P.2.1 + spr s P.1)) by omega, fb_sm_split _ (P.2.1 + spr s P.1) (192 - (P.2.1 + spr s P.1))]
    have z : fb_sm (fun k => sqr (fb_ct (fun x => (uprightP s P).2.2 x (P.2.1 + spr s P.1 + k)) P.1)) (192 - (P.2.1 + spr s P.1)) = 0 := by
      have : fb_sm (fun k => sqr (fb_ct (fun x => (uprightP s P).2.2 x (P.2.1 + spr s P.1 + k)) P.1)) (192 - (P.2.1 + spr s P.1)) ≤ (192 - (P.2.1 + spr s P.1)) * 0 := fb_sm_bound (fun k _ => by
        have : fb_ct (fun x => (uprightP s P).2.2 x (P.2.1 + spr s P.1 + k)) P.1 = 0 := fb_ct_zero.mpr (fun x _ => by
          cases hc : (uprightP s P).2.2 x (P.2.1 + spr s P.1 + k) with
          | false => rfl
          | true => have := (hUin _ _ hc).2; omega)
        rw [this]; exact Nat.le_refl 0)
      omega
    rw [z, Nat.add_zero]
    refine fb_sm_cong (fun y _ => ?_)
    rw [ct_ext2 hw (fun x x1 _ => by
      cases hc : (uprightP s P).2.2 x y with
      | false => rfl
      | true => have := (hUin _ _ hc).1; omega)]
  generalize hUU : (uprightP s P).2.2 = U at hU hUin eshp
  unfold F_X5_sharpness
  have lp1 : iter (bd_X5_sharpness_2 (ΛE b) (b + 65) (nI p) (iI s)) FU ((0 : Int32), σ) = some (putI σ (b + 78) 0 192 (fun _ => nI 0)) := by
    refine run_loop (fun k => (nI k, putI σ (b + 78) 0 k (fun _ => nI 0))) _ 192 (by omega) (by rw [putI_0]; rfl) ?_ ?_
    · intro k hk
      unfold bd_X5_sharpness_2
      simp (disch := omega) only [r65_17, l78, le_f, gd_nI, nI_cl, ↓reduceIte, nmE, e0, e1, nI_add]
      rw [putI_se (base := 0) (n := k) (k := k) (z := nI 0) (v := fun _ => nI 0) (by omega) rfl]
    · unfold bd_X5_sharpness_2
      simp (disch := omega) only [r65_17, l78, le_t, ↓reduceIte]
  rw [lp1, Option.bind_some]
  have i0 : ∀ k, k < 192 → (putI σ (b + 78) 0 192 (fun _ => nI 0)).1 (b + 78) k = nI (fb_ct (fun x => U x k) 0) := fun k hk => by
    rw [putI_in (by omega) (by omega)]; rfl
  have f0 : MF b X0 σ (putI σ (b + 78) 0 192 (fun _ => nI 0)) := MF_ap (Or.inr ⟨by omega, by omega⟩)
  generalize putI σ (b + 78) 0 192 (fun _ => nI 0) = σ1 at *
  obtain ⟨τ, t1, t2, t3⟩ := iter_for (f := bd_X5_sharpness_26 (ΛE b) (b + 65) (nI p) (iI s)) P.1 (fun x z => z.1 = nI x ∧ (∀ k, k < 192 → z.2.1 (b + 78) k = nI (fb_ct (fun x => U x k) x)) ∧ MF b X0 σ z.2)
    (fun τ => (∀ k, k < 192 → τ.1 (b + 78) k = nI (fb_ct (fun x => U x k) P.1)) ∧ MF b X0 σ τ) (s := ((0 : Int32), σ1)) (n := FU)
    (by
      rintro x ⟨i, τ⟩ hx ⟨c1, c2, c3⟩
      simp only at c1 c2 c3
      subst c1
      have mt := MP_MF mp c3 (fun q => q)
      have ho := off_le (s := s) hx
      unfold bd_X5_sharpness_26
      simp (disch := omega) only [r65_2, l66, gd_nI, nI_cl, ↓reduceIte, mt.1, le_f, nmE, floor_eq hs (show x ≤ 64 by omega), least_eq hs hw0 hw, Option.bind_some, off_iI]
      obtain ⟨υ, u1, u2, u3⟩ := iter_for (f := bd_X5_sharpness_60 (ΛE b) (b + 65) (nI p) (iI s) (nI x) (nI (off s P.1 x))) P.2.1 (fun y z => z.1 = nI y ∧ (∀ k, k < 192 → z.2.1 (b + 78) k = nI (fb_ct (fun x => U x k) x + (if k < y + off s P.1 x ∧ U x k = true then 1 else 0))) ∧ MF b X0 σ z.2)
        (fun υ => (∀ k, k < 192 → υ.1 (b + 78) k = nI (fb_ct (fun x => U x k) (x + 1))) ∧ MF b X0 σ υ) (s := ((0 : Int32), τ)) (n := FU)
        (by
          rintro y ⟨j, υ⟩ hy ⟨d1, d2, d3⟩
          simp only at d1 d2 d3
          subst d1
          have mu := MP_MF mp d3 (fun q => q)
          have eU : U x (y + off s P.1 x) = P.2.2 x y := by
            rw [hU, decide_eq_true hx, decide_eq_true (show off s P.1 x ≤ y + off s P.1 x by omega), show y + off s P.1 x - off s P.1 x = y by omega]; rfl
          have d4 := d2 (y + off s P.1 x) (by omega)
          rw [if_neg (by omega), Nat.add_zero] at d4
          unfold bd_X5_sharpness_60 jp_X5_sharpness_98
          simp (disch := omega) only [r65_3, l67, r65_17, l78, gd_nI, nI_cl, ↓reduceIte, mu.2.1, le_f, nmE, has_eq hp mu (show x < 64 by omega) (show y < 64 by omega), Option.bind_some, nI_add, nI_1, d4, e0, e1, bI_0]
          have fin : ∀ v : Nat, v = (if P.2.2 x y = true then 1 else 0) → ∀ k, k < 192 → (stI υ (b + 78) (y + off s P.1 x) (nI (fb_ct (fun x_1 => U x_1 (y + off s P.1 x)) x + v))).1 (b + 78) k = nI (fb_ct (fun x => U x k) x + (if k < y + 1 + off s P.1 x ∧ U x k = true then 1 else 0)) := by
            intro v hv k hk
            by_cases e : k = y + off s P.1 x
            · subst e
              rw [stI_1, up2_self, hv, eU]
              congr 2
              by_cases hg : P.2.2 x y = true
              · rw [if_pos hg, if_pos ⟨by omega, hg⟩]
              · rw [if_neg hg, if_neg (fun q => hg q.2)]
            · rw [stI_1, up2_nk _ _ _ e, d2 k hk]
              congr 2
              by_cases hg : k < y + off s P.1 x ∧ U x k = true
              · rw [if_pos hg, if_pos ⟨by omega, hg.2⟩]
              · rw [if_neg hg, if_neg (fun q => hg ⟨by omega, q.2⟩)]
          cases hg : P.2.2 x y with
          | false =>
            simp only [↓reduceIte]
            exact ⟨_, rfl, rfl, fin 0 (by rw [hg]; rfl), MF_trans d3 (MF_a (Or.inr ⟨by omega, by omega⟩))⟩
          | true =>
            simp only [Bool.true_eq_false, ↓reduceIte]
            exact ⟨_, rfl, rfl, fin 1 (by rw [hg]; rfl), MF_trans d3 (MF_a (Or.inr ⟨by omega, by omega⟩))⟩)
        (by
          rintro ⟨j, υ⟩ ⟨d1, d2, d3⟩
          simp only at d1 d2 d3
          subst d1
          have mu := MP_MF mp d3 (fun q => q)
          unfold bd_X5_sharpness_60
          simp (disch := omega) only [r65_3, l67, gd_nI, nI_cl, ↓reduceIte, mu.2.1, le_t]
          refine ⟨_, rfl, fun k hk => ?_, d3⟩
          rw [d2 k hk, fb_ct_succ]
          congr 2
          cases hg : U x k with
          | false => simp
          | true =>
            rw [hU, Bool.and_eq_true, Bool.and_eq_true, decide_eq_true_eq, decide_eq_true_eq] at hg
            have := (gp.2.2.2.2 _ _ hg.2.2).2
            rw [if_pos ⟨by omega, rfl⟩, if_pos rfl])
        ⟨rfl, fun k hk => by
          rw [c2 k hk, if_neg]
          · rfl
          · rintro ⟨q1, q2⟩
            rw [hU, Bool.and_eq_true, Bool.and_eq_true, decide_eq_true_eq, decide_eq_true_eq] at q2
            omega, c3⟩ (by show _ < 5000; omega)
      rw [u1, Option.bind_some, nI_1]
      exact ⟨_, rfl, rfl, u2, u3⟩)
    (by
      rintro ⟨i, τ⟩ ⟨c1, c2, c3⟩
      simp only at c1 c2 c3
      subst c1
      have mt := MP_MF mp c3 (fun q => q)
      unfold bd_X5_sharpness_26
      simp (disch := omega) only [r65_2, l66, gd_nI, nI_cl, ↓reduceIte, mt.1, le_t]
      exact ⟨_, rfl, c2, c3⟩)
    ⟨rfl, i0, f0⟩ (by show _ < 5000; omega)
  rw [t1, Option.bind_some, run_loop (s0 := ((0 : Int32), (0 : Int32))) (fun k => (nI (fb_sm (fun y => sqr (fb_ct (fun x => U x y) P.1)) k), nI k)) (nI (fb_sm (fun y => sqr (fb_ct (fun x => U x y) P.1)) 192)) 192 (by omega) rfl]
  · rw [Option.bind_some, eshp]
    exact ⟨_, rfl, t3⟩
  · intro k hk
    unfold bd_X5_sharpness_117
    simp (disch := omega) only [r65_17, l78, le_f, gd_nI, nI_cl, ↓reduceIte, nmE, t2 k hk, pk_mul, nI_add, nI_1]
    rfl
  · unfold bd_X5_sharpness_117
    simp (disch := omega) only [r65_17, l78, le_t, ↓reduceIte]
theorem mp_sharp_t {b p : Nat} {s : Int} {σ : Sto} {D : Desk} (h : MR b σ D) (G : GD D) (hp : p < dN D) (hs : okT s) :
    ∃ τ, F_X5_sharp (ΛE b) σ (b + 65) (nI p) (iI s) = some (nI (shpP s (dP D p)), τ) ∧ MR b τ D ∧ KF b σ τ := by
  obtain ⟨h1, k1, -⟩ := mr0 (v := 0) h
  have g1 := G.1
  unfold F_X5_sharp
  rw [nmE]
  generalize stI σ (b + 65) 0 0 = σ1 at *
  obtain ⟨τ, q1, q2⟩ := sharpM_eq (show p < 8 by omega) (h1.2.1 p hp) (G.2.1 p hp) (okT_S hs)
  rw [nmE, isPage_t h1 g1 hp, if_neg (by decide), nmE, wm12, w12, in_w, sharpR_t hs, if_neg (by decide), q1, Option.bind_some]
  exact ⟨_, rfl, MR_MF h1 q2, KF_trans k1 (MF_KF q2)⟩
theorem mp_sharp_f {b : Nat} {q x : Int32} {σ : Sto} {D : Desk} (hc : MR b σ D) (G : GD D) (hn : ¬ ∃ p s, p < dN D ∧ okT s ∧ q = nI p ∧ x = iI s) : F_X5_sharp (ΛE b) σ (b + 65) q x = some (-1, stI σ (b + 65) 0 0) := by
  obtain ⟨h1, k1, -⟩ := mr0 (v := 0) hc
  unfold F_X5_sharp
  rw [nmE]
  generalize stI σ (b + 65) 0 0 = σ1 at *
  rw [nmE]
  by_cases c1 : ∃ p, p < dN D ∧ q = nI p
  · obtain ⟨p, hp, rfl⟩ := c1
    rw [isPage_t h1 G.1 hp, if_neg (by decide), nmE, wm12, w12, in_w, sharpR_f (fun ⟨s, s1, s2⟩ => hn ⟨p, s, hp, s1, rfl, s2⟩), if_pos nI_0]
  · rw [isPage_f h1 G.1 c1, if_pos nI_0]
theorem it_go {S E : Type} {f : S → Option (S ⊕ E)} {n : Nat} {s t : S} (h : f s = some (.inl t)) : iter f (n + 1) s = iter f n t := by simp only [iter, h]
theorem it_out {S E : Type} {f : S → Option (S ⊕ E)} {n : Nat} {s : S} {e : E} (h : f s = some (.inr e)) : iter f (n + 1) s = some e := by simp only [iter, h]
theorem inRows_eq {b p : Nat} {σ : Sto} {P : PG} (hp : p < 8) (mp : MP b σ p P) (hP : okP P) : iter (bd_X5_angle_19 (ΛE b) σ (b + 65) (nI p)) FU ((0 : Int32), (0 : Int32)) = some (nI (inR P)) := by
  have gp := hP
  unfold okP at gp
  have e : inR P = fb_ct (rowB P) P.2.1 := by
    unfold inR
    rw [ct_ext2 (show P.2.1 ≤ 64 by omega) (fun y y1 _ => by
      rw [anyB_not]
      intro x _
      cases hc : P.2.2 x y with
      | false => rfl
      | true => have := (gp.2.2.2.2 x y hc).2; omega)]
    rfl
  rw [e]
  refine run_loop (fun k => (nI (fb_ct (rowB P) k), nI k)) _ P.2.1 (by omega) rfl ?_ ?_
  · intro k hk
    have hc := fb_ct_le (fun x => P.2.2 x k) P.1
    unfold bd_X5_angle_19 jp_X5_angle_44
    simp (disch := omega) only [r65_3, l67, gd_nI, nI_cl, ↓reduceIte, mp.2.1, le_f, rowInk_eq hp mp (show P.1 ≤ 64 by omega) (show k < 64 by omega), Option.bind_some, nmE, e0, e1, nI_add, fb_ct_succ]
    cases hr : rowB P k with
    | false =>
      rw [rowInk_pos hP |>.mpr hr, if_pos (nI_le (by omega) (by omega))]
      simp
    | true =>
      have : fb_ct (fun x => P.2.2 x k) P.1 ≠ 0 := fun q => by
        rw [rowInk_pos hP |>.mp q] at hr; cases hr
      rw [if_neg (nI_ge (by omega) (by omega))]
      simp
  · unfold bd_X5_angle_19
    simp (disch := omega) only [r65_3, l67, gd_nI, nI_cl, ↓reduceIte, mp.2.1, le_t]
theorem mp_angle_t {b p : Nat} {σ : Sto} {D : Desk} (h : MR b σ D) (G : GD D) (hp : p < dN D) (hr : 2 ≤ inR (dP D p)) :
    ∃ τ, F_X5_angle (ΛE b) σ (b + 65) (nI p) = some (iI (angF (fun s => shpP s (dP D p)) 12).1, τ) ∧ MR b τ D ∧ KF b σ τ := by
  obtain ⟨h1, k1, -⟩ := mr0 (v := 0) h
  have g1 := G.1
  have gp := G.2.1 p hp
  have hp8 : p < 8 := by omega
  unfold F_X5_angle
  rw [nmE]
  generalize stI σ (b + 65) 0 0 = σ1 at *
  have mp := h1.2.1 p hp
  have hin : inR (dP D p) ≤ 64 := fb_ct_le _ _
  rw [nmE, isPage_t h1 g1 hp, if_neg (by decide), inRows_eq hp8 mp gp, Option.bind_some, e2, if_pos (nI_le hr (by omega))]
  obtain ⟨τ0, q1, q2⟩ := sharpM_eq (s := 0) hp8 mp gp ⟨by omega, by omega⟩
  rw [show F_X5_sharpness (ΛE b) σ1 (b + 65) (nI p) 0 = some (nI (shpP 0 (dP D p)), τ0) from q1, Option.bind_some]
  have hf : ∀ s, okT s → shpP s (dP D p) < 600000 := fun s hs => shp_bd gp (okT_S hs)
  obtain ⟨z, z1, z2, z3⟩ := iter_for (f := bd_X5_angle_73 (ΛE b) (b + 65) (nI p)) 12
    (fun k q => q.1 = iI (angF (fun s => shpP s (dP D p)) k).1 ∧ q.2.1 = nI (angF (fun s => shpP s (dP D p)) k).2 ∧ q.2.2.1 = nI (k + 1) ∧ MF b X0 σ1 q.2.2.2)
    (fun z => z.1 = iI (angF (fun s => shpP s (dP D p)) 12).1 ∧ MF b X0 σ1 z.2) (s := ((0 : Int32), nI (shpP 0 (dP D p)), (1 : Int32), τ0)) (n := FU)
    (by
      rintro k ⟨b1, m1, i1, τ⟩ hk ⟨c1, c2, c3, c4⟩
      simp only at c1 c2 c3 c4
      subst c1 c2 c3
      have w0 := angF_bd hf k (by omega)
      have hs1 : okT ((k + 1 : Nat) : Int) := ⟨by omega, by omega⟩
      have hs2 : okT (-((k + 1 : Nat) : Int)) := ⟨by omega, by omega⟩
      obtain ⟨τ1, x1, x2⟩ := sharpM_eq hp8 (MP_MF mp c4 (fun q => q)) gp (okT_S hs1)
      have c5 := MF_trans c4 x2
      obtain ⟨τ2, y1, y2⟩ := sharpM_eq hp8 (MP_MF mp c5 (fun q => q)) gp (okT_S hs2)
      have c6 := MF_trans c5 y2
      have f1 := hf _ hs1
      have f2 := hf _ hs2
      have step : ∀ (q : Int × Nat) (sg : Int) (υ υ2 : Sto), q.2 < 600000 → (sg = 1 ∨ sg = -1) → F_X5_sharpness (ΛE b) υ (b + 65) (nI p) (iI (sg * ((k + 1 : Nat) : Int))) = some (nI (shpP (sg * ((k + 1 : Nat) : Int)) (dP D p)), υ2) → shpP (sg * ((k + 1 : Nat) : Int)) (dP D p) < 600000 →
          bd_X5_angle_83 (ΛE b) (b + 65) (nI p) (nI (k + 1)) (iI q.1, nI q.2, iI sg, υ) = some (.inl (iI (ang1 (fun s => shpP s (dP D p)) (sg * ((k + 1 : Nat) : Int)) q).1, nI (ang1 (fun s => shpP s (dP D p)) (sg * ((k + 1 : Nat) : Int)) q).2, iI (sg - 2), υ2)) := by
        intro q sg υ υ2 hq hsg hsh hbd
        unfold bd_X5_angle_83 jp_X5_angle_118
        simp only
        rw [if_neg (by rw [show (-1 : Int32) = iI (-1) from rfl, iI_lt (by omega) (by omega) (by omega) (by omega)]; omega), iI_nat (k + 1), iI_mul, hsh, Option.bind_some]
        simp only [nmE]
        rw [show (-2 : Int32) = iI (-2) from rfl, iI_add, show sg + -2 = sg - 2 by omega]
        unfold ang1
        by_cases cc : shpP (sg * ((k + 1 : Nat) : Int)) (dP D p) ≤ q.2
        · rw [if_pos (nI_le cc (by omega)), if_pos cc]
        · rw [if_neg (nI_ge (by omega) (by omega)), if_neg cc]
      have inner : iter (bd_X5_angle_83 (ΛE b) (b + 65) (nI p) (nI (k + 1))) FU (iI (angF (fun s => shpP s (dP D p)) k).1, nI (angF (fun s => shpP s (dP D p)) k).2, (1 : Int32), τ) = some (iI (angF (fun s => shpP s (dP D p)) (k + 1)).1, nI (angF (fun s => shpP s (dP D p)) (k + 1)).2, τ2) := by
        show iter _ (4997 + 1 + 1 + 1) _ = _
        have st1 := step (angF (fun s => shpP s (dP D p)) k) 1 τ τ1 w0 (Or.inl rfl) (by rw [Int.one_mul]; exact x1) (by rw [Int.one_mul]; exact f1)
        rw [Int.one_mul] at st1
        have wb : (ang1 (fun s => shpP s (dP D p)) ((k + 1 : Nat) : Int) (angF (fun s => shpP s (dP D p)) k)).2 < 600000 := ang1_bd f1 w0
        have st2 := step (ang1 (fun s => shpP s (dP D p)) ((k + 1 : Nat) : Int) (angF (fun s => shpP s (dP D p)) k)) (-1) τ1 τ2 wb (Or.inr rfl) (by rw [Int.neg_one_mul]; exact y1) (by rw [Int.neg_one_mul]; exact f2)
        rw [Int.neg_one_mul] at st2
        rw [show (1 : Int32) = iI 1 from rfl, it_go st1, show (1 : Int) - 2 = -1 by omega, it_go st2]
        refine it_out ?_
        unfold bd_X5_angle_83
        simp only
        rw [if_pos (by rw [show (-1 : Int32) = iI (-1) from rfl, iI_lt (by omega) (by omega) (by omega) (by omega)]; omega)]
        rfl
      unfold bd_X5_angle_73
      simp only
      rw [e12, if_neg (nI_nlt (by omega) (by omega)), inner, Option.bind_some, nmE, nI_1]
      exact ⟨_, rfl, rfl, rfl, rfl, c6⟩)
    (by
      rintro ⟨b1, m1, i1, τ⟩ ⟨c1, c2, c3, c4⟩
      simp only at c1 c2 c3 c4
      subst c1 c2 c3
      unfold bd_X5_angle_73
      simp only
      rw [e12, if_pos (nI_lt (by omega) (by omega))]
      exact ⟨_, rfl, rfl, c4⟩)
    ⟨rfl, rfl, rfl, q2⟩ (by show _ < 5000; omega)
  rw [z1, Option.bind_some, z2]
  exact ⟨_, rfl, MR_MF h1 z3, KF_trans k1 (MF_KF z3)⟩
theorem mp_angle_n {b p : Nat} {σ : Sto} {D : Desk} (h : MR b σ D) (G : GD D) (hp : p < dN D) (hr : ¬ 2 ≤ inR (dP D p)) : F_X5_angle (ΛE b) σ (b + 65) (nI p) = some (100, stI σ (b + 65) 0 0) := by
  obtain ⟨h1, k1, -⟩ := mr0 (v := 0) h
  have g1 := G.1
  unfold F_X5_angle
  rw [nmE]
  generalize stI σ (b + 65) 0 0 = σ1 at *
  rw [nmE, isPage_t h1 g1 hp, if_neg (by decide), inRows_eq (by omega) (h1.2.1 p hp) (G.2.1 p hp), Option.bind_some, e2, if_neg (nI_ge (by omega) (by omega))]
theorem mp_angle_f {b : Nat} {q : Int32} {σ : Sto} {D : Desk} (hc : MR b σ D) (G : GD D) (hn : ¬ ∃ p, p < dN D ∧ q = nI p) : F_X5_angle (ΛE b) σ (b + 65) q = some (-1, stI σ (b + 65) 0 0) := by
  obtain ⟨h1, k1, -⟩ := mr0 (v := 0) hc
  unfold F_X5_angle
  rw [nmE]
  generalize stI σ (b + 65) 0 0 = σ1 at *
  rw [nmE, isPage_f h1 G.1 hn, if_pos nI_0]
-- feet
theorem stepsM_eq {b p : Nat} {σ : Sto} {P : PG} (hp : p < 8) (mp : MP b σ p P) (hw : P.1 ≤ 64) : F_X5_steps (ΛE b) σ (b + 65) (nI p) = some (nI ((P.1 + 7) / 8)) := by
  unfold F_X5_steps
  simp (disch := omega) only [r65_2, l66, gd_nI, nI_cl, ↓reduceIte, mp.1, e7, e8, nI_add, pk_div]
theorem footRow {b p s y : Nat} {σ : Sto} {P : PG} (hp : p < 8) (mp : MP b σ p P) (hP : okP P) (hs : s < (P.1 + 7) / 8) (hy : y < 64) :
    iter (bd_X5_footOf_19 (ΛE b) σ (b + 65) (nI p) (nI s) (nI y)) FU (nI (8 * s)) = some (if stepB P s y = true then Sum.inl () else Sum.inr ()) := by
  have gp := hP
  unfold okP at gp
  generalize hm : min 8 (P.1 - 8 * s) = m
  have hl := fa_first_le (fun x => P.2.2 (8 * s + x) y) m
  obtain ⟨r, h1, h2⟩ := iter_for (f := bd_X5_footOf_19 (ΛE b) σ (b + 65) (nI p) (nI s) (nI y)) (fa_first (fun x => P.2.2 (8 * s + x) y) m) (fun k z => z = nI (8 * s + k))
    (fun e => e = if fa_first (fun x => P.2.2 (8 * s + x) y) m < m then Sum.inl () else Sum.inr ()) (s := nI (8 * s)) (n := FU)
    (by
      rintro k z hk rfl
      have hno := fa_first_no (fun x => P.2.2 (8 * s + x) y) m k hk
      unfold bd_X5_footOf_19
      simp (disch := omega) only [e8, pk_mul, nI_add, r65_2, l66, gd_nI, nI_cl, ↓reduceIte, mp.1, le_f, has_eq hp mp (show 8 * s + k < 64 by omega) hy, Option.bind_some, nmE, nI_1]
      rw [show P.2.2 (8 * s + k) y = false from hno, if_pos (by decide)]
      exact ⟨_, rfl, by rw [Nat.add_assoc]⟩)
    (by
      rintro z rfl
      unfold bd_X5_footOf_19
      by_cases e : fa_first (fun x => P.2.2 (8 * s + x) y) m < m
      · have hy2 := fa_first_yes (fun x => P.2.2 (8 * s + x) y) m e
        simp (disch := omega) only [e8, pk_mul, nI_add, r65_2, l66, gd_nI, nI_cl, ↓reduceIte, mp.1, le_f, has_eq hp mp (show 8 * s + fa_first (fun x => P.2.2 (8 * s + x) y) m < 64 by omega) hy, Option.bind_some]
        rw [show P.2.2 (8 * s + fa_first (fun x => P.2.2 (8 * s + x) y) m) y = true from hy2, if_neg (by decide), if_pos e]
        exact ⟨_, rfl, rfl⟩
      · rw [if_neg e]
        by_cases e3 : 8 * s + 8 ≤ 8 * s + fa_first (fun x => P.2.2 (8 * s + x) y) m
        · simp (disch := omega) only [e8, pk_mul, nI_add, le_t, ↓reduceIte]
          exact ⟨_, rfl, rfl⟩
        · simp (disch := omega) only [e8, pk_mul, nI_add, r65_2, l66, gd_nI, nI_cl, ↓reduceIte, mp.1, le_f, le_t]
          exact ⟨_, rfl, rfl⟩)
    rfl (by show _ < 5000; omega)
  rw [h1, h2]
  have : (fa_first (fun x => P.2.2 (8 * s + x) y) m < m) ↔ stepB P s y = true := by
    unfold stepB
    rw [anyB_iff]
    constructor
    · intro e
      exact ⟨_, by omega, fa_first_yes (fun x => P.2.2 (8 * s + x) y) m e⟩
    · rintro ⟨x, x1, x2⟩
      have := (gp.2.2.2.2 _ _ x2).1
      have := first_lt (p := fun x => P.2.2 (8 * s + x) y) (n := m) (i := x) (by omega) x2
      omega
  by_cases c : fa_first (fun x => P.2.2 (8 * s + x) y) m < m
  · rw [if_pos c, if_pos (this.mp c)]
  · rw [if_neg c, if_neg (fun q => c (this.mpr q))]
theorem sc_r {α β γ : Type} (c : β) (f : α → γ) (g : β → γ) : sc (Sum.inr c) f g = g c := eq_of_heq HEq.rfl
theorem sc_l {α β γ : Type} (c : α) (f : α → γ) (g : β → γ) : sc (Sum.inl c) f g = f c := eq_of_heq HEq.rfl
theorem footM_eq {b p s : Nat} {σ : Sto} {P : PG} (hp : p < 8) (mp : MP b σ p P) (hP : okP P) (hs : s < (P.1 + 7) / 8) : F_X5_footOf (ΛE b) σ (b + 65) (nI p) (nI s) = some (footI P s) := by
  have gp := hP
  unfold okP at gp
  unfold F_X5_footOf
  rw [r65_3, l67, if_pos (gd_nI (by omega) (by omega)), nI_cl (by omega), mp.2.1, nmE, down_loop (stepB P s) (fun t => if t = 0 then Sum.inr () else Sum.inl (nI (t - 1))) P.2.1 (by omega)]
  · rw [Option.bind_some]
    unfold footI footP
    by_cases c : topB (stepB P s) P.2.1 = 0
    · rw [if_pos c, if_pos c]; rfl
    · rw [if_neg c, if_neg c]; rfl
  · intro k hk hb
    unfold bd_X5_footOf_9
    rw [nI_pred, if_neg (nI_pos (by omega)), nmE, e8, pk_mul, footRow hp mp hP hs (by omega), hb, if_neg (by decide), Option.bind_some]
    rw [sc_r, nmE, add_m1]
  · intro k hk hb
    unfold bd_X5_footOf_9
    rw [nI_pred, if_neg (nI_pos (by omega)), nmE, e8, pk_mul, footRow hp mp hP hs (by omega), hb, if_pos rfl, Option.bind_some, if_neg (by omega), show k + 1 - 1 = k by omega]
    rfl
  · unfold bd_X5_footOf_9
    rw [if_pos sub1_lt0, if_pos rfl]
theorem mp_foot_t {b p s : Nat} {σ : Sto} {D : Desk} (h : MR b σ D) (G : GD D) (hp : p < dN D) (hs : s < ((dP D p).1 + 7) / 8) : F_X5_foot (ΛE b) σ (b + 65) (nI p) (nI s) = some (footI (dP D p) s, stI σ (b + 65) 0 0) := by
  obtain ⟨h1, k1, -⟩ := mr0 (v := 0) h
  have g1 := G.1
  have gp := G.2.1 p hp
  have gp0 := gp
  unfold okP at gp
  unfold F_X5_foot
  rw [nmE]
  generalize stI σ (b + 65) 0 0 = σ1 at *
  have mp := h1.2.1 p hp
  rw [nmE, isPage_t h1 g1 hp, if_neg (by decide), stepsM_eq (by omega) mp (by omega), Option.bind_some, nmE, w0, in_w, e0, e1, within0_t hs (by omega), if_neg (by decide), footM_eq (by omega) mp gp0 hs, Option.bind_some]
theorem mp_foot_f {b : Nat} {q x : Int32} {σ : Sto} {D : Desk} (hc : MR b σ D) (G : GD D) (hn : ¬ ∃ p s, p < dN D ∧ s < ((dP D p).1 + 7) / 8 ∧ q = nI p ∧ x = nI s) : F_X5_foot (ΛE b) σ (b + 65) q x = some (-1, stI σ (b + 65) 0 0) := by
  obtain ⟨h1, k1, -⟩ := mr0 (v := 0) hc
  unfold F_X5_foot
  rw [nmE]
  generalize stI σ (b + 65) 0 0 = σ1 at *
  rw [nmE]
  by_cases c1 : ∃ p, p < dN D ∧ q = nI p
  · obtain ⟨p, hp, rfl⟩ := c1
    have g1 := G.1
    have gp := G.2.1 p hp
    unfold okP at gp
    rw [isPage_t h1 g1 hp, if_neg (by decide), stepsM_eq (by omega) (h1.2.1 p hp) (by omega), Option.bind_some, nmE, w0, in_w, e0, e1, within0_f (by omega) (fun ⟨s, s1, s2⟩ => hn ⟨p, s, hp, s1, rfl, s2⟩), if_pos rfl]
  · rw [isPage_f h1 G.1 c1, if_pos nI_0]
