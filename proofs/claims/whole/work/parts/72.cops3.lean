-- turn
def canP (P : PG) (s u : Int) : Prop := P.1 + spr s P.2.1 ≤ 64 ∧ P.2.1 + spr u (P.1 + spr s P.2.1) ≤ 64 ∧ P.1 + spr s P.2.1 + spr s (P.2.1 + spr u (P.1 + spr s P.2.1)) ≤ 64
theorem canTurn_t {Λ : Lay} {σ : Sto} {a r N : Nat} {P : PG} {s u : Int} (hS : Sh σ a r N P) (hP : okP P) (hs : okS s) (hu : okS u) (h : canP P s u) : F_X4_canTurn Λ σ a (iI s) (iI u) = nI 1 := by
  unfold okP at hP
  unfold canP at h
  unfold F_X4_canTurn
  rw [hS.1, hS.2.1]
  simp only [nmE, e64]
  rw [spread_eq hs (by omega) (by omega), nI_add, spread_eq hu (by omega) (by omega), nI_add, if_neg (nI_nlt h.1 (by omega)), if_neg (nI_nlt h.2.1 (by omega)), spread_eq hs (by omega) (by omega), nI_add, if_neg (nI_nlt h.2.2 (by omega))]
  rfl
theorem canTurn_f {Λ : Lay} {σ : Sto} {a r N : Nat} {P : PG} {s u : Int} (hS : Sh σ a r N P) (hP : okP P) (hs : okS s) (hu : okS u) (h : ¬ canP P s u) : F_X4_canTurn Λ σ a (iI s) (iI u) = nI 0 := by
  unfold okP at hP
  unfold canP at h
  unfold F_X4_canTurn
  rw [hS.1, hS.2.1]
  simp only [nmE, e64]
  have b1 := spr_bd (n := P.2.1) hs (by omega)
  rw [spread_eq hs (by omega) (by omega), nI_add]
  by_cases c1 : P.1 + spr s P.2.1 ≤ 64
  · have b2 := spr_bd (n := P.1 + spr s P.2.1) hu (by omega)
    rw [if_neg (nI_nlt c1 (by omega)), spread_eq hu (by omega) (by omega), nI_add]
    by_cases c2 : P.2.1 + spr u (P.1 + spr s P.2.1) ≤ 64
    · have b3 := spr_bd (n := P.2.1 + spr u (P.1 + spr s P.2.1)) hs (by omega)
      rw [if_neg (nI_nlt c2 (by omega)), spread_eq hs (by omega) (by omega), nI_add, if_pos (nI_lt (Nat.lt_of_not_le fun c3 => h ⟨c1, c2, c3⟩) (by omega))]
      rfl
    · rw [if_pos (nI_lt (by omega) (by omega))]; rfl
  · rw [if_pos (nI_lt (by omega) (by omega))]; rfl
def turnP (s u : Int) (P : PG) : PG := acrossP s (uprightP u (acrossP s P))
theorem turn_ok {s u : Int} {P : PG} (h : okP P) (hs : okS s) (hu : okS u) (hc : canP P s u) : okP (turnP s u P) := across_ok (upright_ok (across_ok h hs hc.1) hu hc.2.1) hs hc.2.2
theorem cp_turn_t {b p : Nat} {s u : Int} {σ : Sto} {D : Desk} (h : CR b σ D) (G : GD D) (hp : p < dN D) (hs : okS s) (hu : okS u) (hc : canP (dP D p) s u) :
    ∃ τ, F_X4_turn (ΛE b) σ b (nI p) (iI s) (iI u) = some (1, τ) ∧ CR b τ (setP (pushD D p 0) p (turnP s u (dP D p))) ∧ FrC b σ τ := by
  have g1 := G.1
  have gp := G.2.1 p hp
  have gp0 := gp
  unfold okP at gp
  unfold F_X4_turn
  rw [find_t h g1 hp, Option.bind_some, oc_s, nmE, shear_t hs, if_neg (by decide), nmE, shear_t hu, if_neg (by decide), nmE, canTurn_t (h.2.1 p hp) gp0 hs hu hc, if_neg (by decide), r0_2]
  obtain ⟨τ, q1, q2, q3⟩ := remember_cr (m := 0) (made := -1) h G hp (by decide)
  have hS : Sh τ _ _ 64 (dP D p) := q2.2.1 p hp
  obtain ⟨τ1, z1, z2, z3⟩ := shearAcross_sh (rPr (by omega) b) (lP (by omega) b) hS hs (by omega) hc.1
  have k1 := across_ok gp0 hs hc.1
  obtain ⟨τ2, y1, y2, y3⟩ := shearUp_sh (by omega) z2 hu k1.1 hc.2.1
  have k2 := upright_ok k1 hu hc.2.1
  obtain ⟨τ3, x1, x2, x3⟩ := shearAcross_sh (rPr (by omega) b) (lP (by omega) b) y2 hs k2.2.2.1 hc.2.2
  rw [q1, Option.bind_some, z1, Option.bind_some, y1, Option.bind_some, x1, Option.bind_some]
  obtain ⟨w1, w2⟩ := CR_chg q2 G hp (Fr_trans (Fr_trans (Fr_mono z3 (by simp)) y3) (Fr_mono x3 (by simp))) x2
  exact ⟨_, rfl, w1, FrC_trans q3 w2⟩
theorem cp_turn_f {b : Nat} {q x y : Int32} {σ : Sto} {D : Desk} (hc : CR b σ D) (G : GD D) (hn : ¬ ∃ p s u, p < dN D ∧ okS s ∧ okS u ∧ canP (dP D p) s u ∧ q = nI p ∧ x = iI s ∧ y = iI u) : F_X4_turn (ΛE b) σ b q x y = some (0, σ) := by
  unfold F_X4_turn
  by_cases c1 : ∃ p, p < dN D ∧ q = nI p
  · obtain ⟨p, hp, rfl⟩ := c1
    rw [find_t hc G.1 hp, Option.bind_some, oc_s, nmE]
    by_cases c2 : ∃ s, okS s ∧ x = iI s
    · obtain ⟨s, hs, rfl⟩ := c2
      rw [shear_t hs, if_neg (by decide), nmE]
      by_cases c3 : ∃ s, okS s ∧ y = iI s
      · obtain ⟨u, hu, rfl⟩ := c3
        rw [shear_t hu, if_neg (by decide), nmE, canTurn_f (hc.2.1 p hp) (G.2.1 p hp) hs hu (fun k => hn ⟨p, s, u, hp, hs, hu, k, rfl, rfl, rfl⟩), if_pos nI_0]
      · rw [shear_f c3, if_pos nI_0]
    · rw [shear_f c2, if_pos nI_0]
  · rw [find_f hc G.1 c1, Option.bind_some, oc_n]
-- sharpness
def okT (s : Int) : Prop := -12 ≤ s ∧ s ≤ 12
theorem okT_S {s : Int} (h : okT s) : okS s := ⟨by have := h.1; omega, by have := h.2; omega⟩
def sqr (n : Nat) : Nat := n * n
def shpP (s : Int) (P : PG) : Nat := fb_sm (fun y => sqr (fb_ct (fun x => (uprightP s P).2.2 x y) 64)) (P.2.1 + spr s P.1)
theorem shp_bd {s : Int} {P : PG} (hP : okP P) (hs : okS s) : shpP s P < 600000 := by
  have h1 := spr_bd (n := P.1) hs hP.1
  have h2 := hP.2.1
  have h3 := hP.2.2.2.1
  have h4 : shpP s P ≤ (P.2.1 + spr s P.1) * 4096 := fb_sm_bound (fun k _ => by
    have := fb_ct_le (fun x => (uprightP s P).2.2 x k) 64
    exact Nat.mul_le_mul this this)
  omega
theorem sharpness_eq {b p : Nat} {s : Int} {σ : Sto} {P : PG} (hp : p < 8) (hS : Sh σ (b + (2 + 2 * p)) (b + (3 + 2 * p)) 64 P) (hP : okP P) (hs : okS s) :
    ∃ τ, F_X4_sharpness (ΛE b) σ b (b + (2 + 2 * p)) (iI s) = some (nI (shpP s P), τ) ∧ Fr (scr b) σ τ := by
  have hsp := spr_bd (n := P.1) hs hP.1
  unfold okP at hP
  unfold F_X4_sharpness
  rw [r0_5]
  obtain ⟨τ, q1, q2, q3⟩ := becomeShearedUp_sh (r62_2 b) (l63 b) (by omega) (rPr hp b) (lP hp b) (by omega) (by omega) (by omega) (by omega) (by omega) hS hs (by omega) (show P.2.1 + spr s P.1 ≤ 128 by omega)
  rw [q1, Option.bind_some, run_loop (s0 := ((0 : Int32), (0 : Int32))) (fun k => (nI (fb_sm (fun y => sqr (fb_ct (fun x => (uprightP s P).2.2 x y) 64)) k), nI k)) (nI (shpP s P)) (P.2.1 + spr s P.1) (by omega) rfl]
  · refine ⟨τ, rfl, Fr_mono q3 ?_⟩
    unfold scr; simp
  · intro k hk
    obtain ⟨s1, s2, s3, s4, s5, s6⟩ := q2
    unfold bd_X4_sharpness_14
    have s2 : τ.1 (b + 62) 1 = nI (P.2.1 + spr s P.1) := s2
    simp (disch := omega) only [r0_5, r62_2, l63, s2, e0, e1, e2, e3, e4, e7, e8, e9, e10, e12, e16, e20, e63, e64, e100, e4096, nI_add, pk_mul, nI_sb, le_t, le_f, lt_t, lt_f, nI_cl, gd_nI, ↓reduceIte, nmE, Option.bind_some, Option.bind_eq_bind, bitCount_eq]
    rw [fb_sm_succ, fb_ct_cong (fun x _ => s5 k (by omega) x)]
    rfl
  · unfold bd_X4_sharpness_14
    have s2 : τ.1 (b + 62) 1 = nI (P.2.1 + spr s P.1) := q2.2.1
    simp (disch := omega) only [r0_5, s2, nI_add, pk_mul, nI_sb, le_t, le_f, lt_t, lt_f, nI_cl, gd_nI, ↓reduceIte, nmE, Option.bind_some, Option.bind_eq_bind]
    rfl
theorem sharpR_t {s : Int} (h : okT s) : F_X4_within (iI s) (-12) 12 = nI 1 := by
  unfold F_X4_within
  unfold okT at h
  rw [show (-12 : Int32) = iI (-12) from rfl, show (12 : Int32) = iI 12 from rfl, if_neg (by rw [iI_lt (by omega) (by omega) (by omega) (by omega)]; omega), if_neg (by rw [iI_lt (by omega) (by omega) (by omega) (by omega)]; omega)]
  rfl
theorem sharpR_f {x : Int32} (h : ¬ ∃ s, okT s ∧ x = iI s) : F_X4_within x (-12) 12 = nI 0 := by
  unfold F_X4_within
  by_cases c1 : x < -12
  · rw [if_pos c1]; rfl
  · by_cases c2 : 12 < x
    · rw [if_neg c1, if_pos c2]; rfl
    · exfalso
      apply h
      rw [lt32, show (-12 : Int32).toInt = -12 by decide] at c1
      rw [lt32, show (12 : Int32).toInt = 12 by decide] at c2
      exact ⟨x.toInt, ⟨by omega, by omega⟩, iI_of x⟩
theorem scr_lt (b : Nat) : ∀ c, c ∈ scr b → c < b + 65 ∧ c ≠ b + 50 ∧ c ≠ b + 59 := by
  unfold scr
  intro c h
  simp at h
  omega
theorem cp_sharp_t {b p : Nat} {s : Int} {σ : Sto} {D : Desk} (h : CR b σ D) (G : GD D) (hp : p < dN D) (hs : okT s) :
    ∃ τ, F_X4_sharp (ΛE b) σ b (nI p) (iI s) = some (nI (shpP s (dP D p)), τ) ∧ CR b τ D ∧ FrC b σ τ := by
  have g1 := G.1
  unfold F_X4_sharp
  rw [find_t h g1 hp, Option.bind_some, oc_s, nmE, sharpR_t hs, if_neg (by decide)]
  obtain ⟨τ, q1, q2⟩ := sharpness_eq (by omega) (h.2.1 p hp) (G.2.1 p hp) (okT_S hs)
  rw [q1, Option.bind_some]
  exact ⟨_, rfl, CR_scr h g1 q2, FrC_of q2 (scr_lt b)⟩
theorem cp_sharp_f {b : Nat} {q x : Int32} {σ : Sto} {D : Desk} (hc : CR b σ D) (G : GD D) (hn : ¬ ∃ p s, p < dN D ∧ okT s ∧ q = nI p ∧ x = iI s) : F_X4_sharp (ΛE b) σ b q x = some (-1, σ) := by
  unfold F_X4_sharp
  by_cases c1 : ∃ p, p < dN D ∧ q = nI p
  · obtain ⟨p, hp, rfl⟩ := c1
    rw [find_t hc G.1 hp, Option.bind_some, oc_s, nmE]
    by_cases c2 : ∃ s, okT s ∧ x = iI s
    · obtain ⟨s, hs, rfl⟩ := c2
      exact absurd ⟨p, s, hp, hs, rfl, rfl⟩ hn
    · rw [sharpR_f c2, if_pos nI_0]
  · rw [find_f hc G.1 c1, Option.bind_some, oc_n]
-- angle
def ang1 (f : Int → Nat) (s : Int) (q : Int × Nat) : Int × Nat := if f s ≤ q.2 then q else (s, f s)
def angF (f : Int → Nat) : Nat → Int × Nat
  | 0 => (0, f 0)
  | k + 1 => ang1 f (-((k + 1 : Nat) : Int)) (ang1 f ((k + 1 : Nat) : Int) (angF f k))
def inR (P : PG) : Nat := fb_ct (fun y => anyB (fun x => P.2.2 x y) 64) 64
theorem ang1_bd {f : Int → Nat} {s : Int} {q : Int × Nat} {B : Nat} (h1 : f s < B) (h2 : q.2 < B) : (ang1 f s q).2 < B := by
  unfold ang1
  split
  · exact h2
  · exact h1
theorem angF_bd {f : Int → Nat} (hf : ∀ s, okT s → f s < 600000) : ∀ k, k ≤ 12 → (angF f k).2 < 600000 := by
  intro k
  induction k with
  | zero => intro _; exact hf 0 ⟨by omega, by omega⟩
  | succ k ih =>
    intro hk
    have h1 := ih (by omega)
    have h2 := hf ((k + 1 : Nat) : Int) ⟨by omega, by omega⟩
    have h3 := hf (-((k + 1 : Nat) : Int)) ⟨by omega, by omega⟩
    exact ang1_bd h3 (ang1_bd h2 h1)
theorem cp_angle_t {b p : Nat} {σ : Sto} {D : Desk} (h : CR b σ D) (G : GD D) (hp : p < dN D) (hr : 2 ≤ inR (dP D p)) :
    ∃ τ, F_X4_angle (ΛE b) σ b (nI p) = some (iI (angF (fun s => shpP s (dP D p)) 12).1, τ) ∧ CR b τ D ∧ FrC b σ τ := by
  have g1 := G.1
  have gp := G.2.1 p hp
  have hS := h.2.1 p hp
  unfold F_X4_angle
  obtain ⟨v, v1, v2⟩ := inkedRows_eq (rPr (by omega) b) (lP (by omega) b) (by omega) hS
  have hv : fb_ct (tb v) 64 = inR (dP D p) := fb_ct_cong (fun y _ => v2 y)
  have hv2 : inR (dP D p) ≤ 64 := fb_ct_le _ _
  rw [find_t h g1 hp, Option.bind_some, oc_s, v1, Option.bind_some, nmE, bitCount_eq, hv, e2, if_pos (nI_le hr (by omega))]
  obtain ⟨τ0, q1, q2⟩ := sharpness_eq (s := 0) (by omega) hS gp ⟨by omega, by omega⟩
  rw [show (0 : Int32) = iI 0 from rfl, q1, Option.bind_some]
  have hf : ∀ s, okT s → shpP s (dP D p) < 600000 := fun s hs => shp_bd gp (okT_S hs)
  obtain ⟨z, z1, z2, z3⟩ := iter_for (f := bd_X4_angle_39 (ΛE b) b (b + (2 + 2 * p))) 12
    (fun k q => q.1 = iI (angF (fun s => shpP s (dP D p)) k).1 ∧ q.2.1 = nI (angF (fun s => shpP s (dP D p)) k).2 ∧ q.2.2.1 = nI (k + 1) ∧ Fr (scr b) σ q.2.2.2)
    (fun z => z.1 = iI (angF (fun s => shpP s (dP D p)) 12).1 ∧ Fr (scr b) σ z.2) (s := (iI 0, nI (shpP 0 (dP D p)), (1 : Int32), τ0)) (n := FU)
    (by
      rintro k ⟨b1, m1, i1, τ⟩ hk ⟨c1, c2, c3, c4⟩
      simp only at c1 c2 c3 c4
      subst c1 c2 c3
      have w0 := angF_bd hf k (by omega)
      have hS1 : Sh τ _ _ 64 (dP D p) := Sh_Fr hS c4 (by unfold scr; simp <;> omega) (by unfold scr; simp <;> omega)
      have hs1 : okT ((k + 1 : Nat) : Int) := ⟨by omega, by omega⟩
      have hs2 : okT (-((k + 1 : Nat) : Int)) := ⟨by omega, by omega⟩
      obtain ⟨τ1, x1, x2⟩ := sharpness_eq (by omega) hS1 gp (okT_S hs1)
      have c5 := Fr_trans c4 x2
      have hS2 : Sh τ1 _ _ 64 (dP D p) := Sh_Fr hS c5 (by unfold scr; simp <;> omega) (by unfold scr; simp <;> omega)
      obtain ⟨τ2, y1, y2⟩ := sharpness_eq (by omega) hS2 gp (okT_S hs2)
      have c6 := Fr_trans c5 y2
      have f1 := hf _ hs1
      have f2 := hf _ hs2
      have key : ∀ (q : Int × Nat), q.2 < 600000 → ∃ t, jp_X4_angle_69 (ΛE b) τ1 b (b + (2 + 2 * p)) (iI q.1) (nI q.2) (nI (k + 1)) = some (.inl t) ∧ (t.1 = iI (ang1 (fun s => shpP s (dP D p)) (-((k + 1 : Nat) : Int)) q).1 ∧ t.2.1 = nI (ang1 (fun s => shpP s (dP D p)) (-((k + 1 : Nat) : Int)) q).2 ∧ t.2.2.1 = nI (k + 1 + 1) ∧ Fr (scr b) σ t.2.2.2) := by
        intro q hq
        unfold jp_X4_angle_69 jp_X4_angle_94
        rw [show -nI (k + 1) = iI (-((k + 1 : Nat) : Int)) by rw [iI_nat, iI_neg], y1, Option.bind_some]
        simp only [nmE, nI_1]
        unfold ang1
        by_cases cc : shpP (-((k + 1 : Nat) : Int)) (dP D p) ≤ q.2
        · rw [if_pos (nI_le cc (by omega)), if_pos cc]
          exact ⟨_, rfl, rfl, rfl, rfl, c6⟩
        · rw [if_neg (nI_ge (by omega) (by omega)), if_neg cc]
          exact ⟨_, rfl, rfl, rfl, rfl, c6⟩
      have x3 : F_X4_sharpness (ΛE b) τ b (b + (2 + 2 * p)) (nI (k + 1)) = some (nI (shpP ((k + 1 : Nat) : Int) (dP D p)), τ1) := by rw [iI_nat (k + 1)]; exact x1
      unfold bd_X4_angle_39
      simp only
      rw [e12, if_neg (nI_nlt (by omega) (by omega)), x3, Option.bind_some]
      simp only [angF]
      by_cases cc : shpP ((k + 1 : Nat) : Int) (dP D p) ≤ (angF (fun s => shpP s (dP D p)) k).2
      · rw [if_pos (nI_le cc (by omega))]
        have := key (angF (fun s => shpP s (dP D p)) k) w0
        rw [show ang1 (fun s => shpP s (dP D p)) ((k + 1 : Nat) : Int) (angF (fun s => shpP s (dP D p)) k) = angF (fun s => shpP s (dP D p)) k from if_pos cc]
        exact this
      · rw [if_neg (nI_ge (by omega) (by omega))]
        have := key (((k + 1 : Nat) : Int), shpP ((k + 1 : Nat) : Int) (dP D p)) f1
        rw [show ang1 (fun s => shpP s (dP D p)) ((k + 1 : Nat) : Int) (angF (fun s => shpP s (dP D p)) k) = (((k + 1 : Nat) : Int), shpP ((k + 1 : Nat) : Int) (dP D p)) from if_neg cc]
        rw [iI_nat (k + 1)] at this ⊢
        exact this)
    (by
      rintro ⟨b1, m1, i1, τ⟩ ⟨c1, c2, c3, c4⟩
      simp only at c1 c2 c3 c4
      subst c1 c2 c3
      unfold bd_X4_angle_39
      simp only
      rw [e12, if_pos (nI_lt (by omega) (by omega))]
      exact ⟨_, rfl, rfl, c4⟩)
    ⟨rfl, rfl, rfl, q2⟩ (by show _ < 5000; omega)
  rw [z1, Option.bind_some, z2]
  exact ⟨_, rfl, CR_scr h g1 z3, FrC_of z3 (scr_lt b)⟩
theorem cp_angle_n {b p : Nat} {σ : Sto} {D : Desk} (h : CR b σ D) (G : GD D) (hp : p < dN D) (hr : ¬ 2 ≤ inR (dP D p)) : F_X4_angle (ΛE b) σ b (nI p) = some (100, σ) := by
  have g1 := G.1
  have hS := h.2.1 p hp
  unfold F_X4_angle
  obtain ⟨v, v1, v2⟩ := inkedRows_eq (rPr (by omega) b) (lP (by omega) b) (by omega) hS
  have hv : fb_ct (tb v) 64 = inR (dP D p) := fb_ct_cong (fun y _ => v2 y)
  rw [find_t h g1 hp, Option.bind_some, oc_s, v1, Option.bind_some, nmE, bitCount_eq, hv, e2, if_neg (nI_ge (by omega) (by omega))]
theorem cp_angle_f {b : Nat} {q : Int32} {σ : Sto} {D : Desk} (hc : CR b σ D) (G : GD D) (hn : ¬ ∃ p, p < dN D ∧ q = nI p) : F_X4_angle (ΛE b) σ b q = some (-1, σ) := by
  unfold F_X4_angle
  rw [find_f hc G.1 hn, Option.bind_some, oc_n]
-- foot
def footP (P : PG) (s : Nat) : Nat := topB (stepB P s) P.2.1
def footI (P : PG) (s : Nat) : Int32 := if footP P s = 0 then 100 else nI (footP P s - 1)
theorem cp_foot_t {b p s : Nat} {σ : Sto} {D : Desk} (h : CR b σ D) (G : GD D) (hp : p < dN D) (hs : s < ((dP D p).1 + 7) / 8) : F_X4_foot (ΛE b) σ b (nI p) (nI s) = some (footI (dP D p) s) := by
  have g1 := G.1
  have gp := G.2.1 p hp
  unfold okP at gp
  have hS := h.2.1 p hp
  have hl := topB_le (stepB (dP D p) s) (dP D p).2.1
  unfold F_X4_foot footI footP
  rw [find_t h g1 hp, Option.bind_some, oc_s, nmE, steps_eq hS.1 (by omega), nmE, e0, e1, within0_t hs (by omega), if_neg (by decide), footOf_eq (rPr (by omega) b) (lP (by omega) b) (by omega) hS (by omega), Option.bind_some]
  by_cases c : topB (stepB (dP D p) s) (dP D p).2.1 = 0
  · rw [if_pos c, if_pos (by rw [c]; decide)]
  · rw [if_neg c, nI_subo (by omega), if_neg (by
      intro q
      rw [eq32, nI_ti (by omega), show (-nI 1 : Int32).toInt = -1 by decide] at q
      omega)]
theorem cp_foot_f {b : Nat} {q x : Int32} {σ : Sto} {D : Desk} (hc : CR b σ D) (G : GD D) (hn : ¬ ∃ p s, p < dN D ∧ s < ((dP D p).1 + 7) / 8 ∧ q = nI p ∧ x = nI s) : F_X4_foot (ΛE b) σ b q x = some (-1) := by
  unfold F_X4_foot
  by_cases c1 : ∃ p, p < dN D ∧ q = nI p
  · obtain ⟨p, hp, rfl⟩ := c1
    have gp := G.2.1 p hp
    unfold okP at gp
    rw [find_t hc G.1 hp, Option.bind_some, oc_s, nmE, steps_eq (hc.2.1 p hp).1 (by omega), nmE, e0, e1, within0_f (by omega) (fun ⟨s, s1, s2⟩ => hn ⟨p, s, hp, s1, rfl, s2⟩), if_pos rfl]
  · rw [find_f hc G.1 c1, Option.bind_some, oc_n]
