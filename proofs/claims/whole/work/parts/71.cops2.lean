-- lay
def layV (y kd : Nat) (f st : Int64) (c : Nat) : Int64 := (f + (nI (c - y)).toInt64 * st) &&& F_X4_entryBits (nI kd)
def layP (P : PG) (y kd : Nat) (f st : Int64) (m : Nat) : PG := (P.1, P.2.1, fun a c => if y ≤ c ∧ c < y + m then decide (a < P.1) && tb (layV y kd f st c) a else P.2.2 a c)
theorem CR_forg {b : Nat} {σ : Sto} {D : Desk} (h : CR b σ D) : CR b (stI σ (b + 18) 2 (nI 0)) (forgD D) ∧ FrC b σ (stI σ (b + 18) 2 (nI 0)) := by
  obtain ⟨h1, h2, h3, h4, h5, h6, h7, h8⟩ := h
  have hf2 : ∀ c, c ≠ b + 18 → (stI σ (b + 18) 2 (nI 0)).1 c = σ.1 c ∧ (stI σ (b + 18) 2 (nI 0)).2 c = σ.2 c := fun c hc => ⟨up2_ne _ _ _ hc, rfl⟩
  refine ⟨⟨?_, ?_, ?_, ?_, ?_, ?_, ?_, ?_⟩, fun c hc _ => hf2 c (by omega)⟩
  · rw [(hf2 b (by omega)).1]; exact h1
  · intro q hq
    by_cases e1 : b + (2 + 2 * q) = b + 18
    · refine ⟨?_, ?_, ?_⟩
      · rw [stI_1, e1, up2_nk _ _ _ (by decide), ← e1]; exact (h2 q hq).1
      · rw [stI_1, e1, up2_nk _ _ _ (by decide), ← e1]; exact (h2 q hq).2.1
      · exact (h2 q hq).2.2
    · exact Sh_fr (h2 q hq) (hf2 _ e1).1 rfl
  · rw [stI_1, up2_nk _ _ _ (by decide)]; exact h3
  · rw [stI_1, up2_self]; rfl
  · intro i hi
    have hi : i < 0 := hi
    omega
  · exact Sh_fr h6 (hf2 _ (by omega)).1 rfl
  · rw [(hf2 b (by omega)).1]; exact h7
  · intro i hi
    rw [(hf2 (b + 64) (by omega)).1]; exact h8 i hi
theorem GD_forg {D : Desk} (G : GD D) : GD (forgD D) := by
  obtain ⟨g1, g2, g3, g4, g5, g6, g7, g8, g9⟩ := G
  refine ⟨g1, g2, Nat.zero_le _, g4, ?_, ?_, g7, g8, g9⟩
  · intro i hi
    have hi : i < 0 := hi
    omega
  · intro i j _ hj
    have hj : j < 0 := hj
    omega
theorem layP_ok {P : PG} {y kd m : Nat} {f st : Int64} (h : okP P) (hm : y + m ≤ P.2.1) : okP (layP P y kd f st m) := by
  refine ⟨h.1, h.2.1, h.2.2.1, h.2.2.2.1, ?_⟩
  intro a c hac
  have hac : (if y ≤ c ∧ c < y + m then decide (a < P.1) && tb (layV y kd f st c) a else P.2.2 a c) = true := hac
  show a < P.1 ∧ c < P.2.1
  by_cases e : y ≤ c ∧ c < y + m
  · rw [if_pos e] at hac
    simp only [Bool.and_eq_true, decide_eq_true_eq] at hac
    exact ⟨hac.1, by omega⟩
  · rw [if_neg e] at hac; exact h.2.2.2.2 a c hac
theorem cp_lay_b {b p y kd k : Nat} {f st : Int64} {σ : Sto} {D : Desk} (h : CR b σ D) (G : GD D) (hp : p < dN D) (hy : y < (dP D p).2.1) (hkd : kd < 4) (hk : k ≤ 64) :
    ∃ τ, F_X4_lay (ΛE b) σ b (nI p) (nI y) (nI kd) (nI k) f st = some (nI (min k ((dP D p).2.1 - y)), τ) ∧ CR b τ (setP (forgD D) p (layP (dP D p) y kd f st (min k ((dP D p).2.1 - y)))) ∧ FrC b σ τ := by
  have g1 := G.1
  have gp := G.2.1 p hp
  have gp0 := gp
  unfold okP at gp
  obtain ⟨hc, hfc⟩ := CR_forg h
  have hS : Sh (stI σ (b + 18) 2 (nI 0)) _ _ 64 (dP D p) := hc.2.1 p hp
  have ep : b + (2 + 2 * p) ≠ b + 18 := by omega
  unfold F_X4_lay jp_X4_lay_52 F_X1_forget
  rw [find_t h g1 hp, Option.bind_some, oc_s, hasRow_t (h.2.1 p hp) (by omega) hy]
  simp (disch := omega) only [e0, e1, e2, e3, e4, e7, e8, e9, e10, e12, e16, e20, e63, e64, e100, e4096, nmE, within_t, eq_f, le_t, ↓reduceIte, r0_2]
  rw [hS.2.1, nI_sb (by omega), mn_nI (by omega) (by omega)]
  generalize hm : min k ((dP D p).2.1 - y) = m
  generalize stI σ (b + 18) 2 (nI 0) = υ at *
  have hkp : ∀ a, tb (F_X4_entryBits (nI kd) &&& F_X2_allColumns (ΛE b) υ (b + (2 + 2 * p))) a = (tb (F_X4_entryBits (nI kd)) a && decide (a < (dP D p).1)) := fun a => by rw [tb_and, allColumns_tb hS.1 gp.2.1]
  generalize F_X4_entryBits (nI kd) &&& F_X2_allColumns (ΛE b) υ (b + (2 + 2 * p)) = kp at *
  rw [run_loop (s0 := (nI 0, υ)) (fun i => (nI i, setR υ (b + (3 + 2 * p)) (fun j => if y ≤ j ∧ j < y + i then (f + (nI (j - y)).toInt64 * st) &&& kp else υ.2 (b + (3 + 2 * p)) j))) (setR υ (b + (3 + 2 * p)) (fun j => if y ≤ j ∧ j < y + m then (f + (nI (j - y)).toInt64 * st) &&& kp else υ.2 (b + (3 + 2 * p)) j)) m (by omega)
    (by rw [show (fun j => if y ≤ j ∧ j < y + 0 then (f + (nI (j - y)).toInt64 * st) &&& kp else υ.2 (b + (3 + 2 * p)) j) = υ.2 (b + (3 + 2 * p)) from funext fun j => if_neg (by omega), setR_id])]
  · rw [Option.bind_some]
    have s2 : Sh (setR υ (b + (3 + 2 * p)) (fun j => if y ≤ j ∧ j < y + m then (f + (nI (j - y)).toInt64 * st) &&& kp else υ.2 (b + (3 + 2 * p)) j)) (b + (2 + 2 * p)) (b + (3 + 2 * p)) 64 (layP (dP D p) y kd f st m) := by
      refine Sh_setR (g := (layP (dP D p) y kd f st m).2.2) hS ?_ ((layP_ok gp0 (by omega)).2.2.2.2)
      intro j hj a
      show _ = (if y ≤ j ∧ j < y + m then decide (a < (dP D p).1) && tb (layV y kd f st j) a else (dP D p).2.2 a j)
      by_cases e : y ≤ j ∧ j < y + m
      · rw [if_pos e, if_pos e, tb_and, hkp]
        unfold layV
        rw [tb_and]
        cases decide (a < (dP D p).1) <;> simp
      · rw [if_neg e, if_neg e, hS.2.2.2.2.1 j hj]
    have w1 := CR_page (p := p) hc g1 (by omega) (Fr_setR (by simp)) s2
    exact ⟨_, rfl, w1, FrC_trans hfc (FrC_of (Fr_setR (S := [b + (3 + 2 * p)]) (by simp)) (by simp <;> omega))⟩
  · intro i hi
    unfold bd_X4_lay_95
    simp (disch := omega) only [rPr, lP, e0, e1, e2, e3, e4, e7, e8, e9, e10, e12, e16, e20, e63, e64, e100, e4096, nI_add, pk_mul, nI_sb, le_t, le_f, lt_t, lt_f, nI_cl, gd_nI, ↓reduceIte, nmE, Option.bind_some, Option.bind_eq_bind]
    rw [setR_st (R2 := fun j => if y ≤ j ∧ j < y + (i + 1) then (f + (nI (j - y)).toInt64 * st) &&& kp else υ.2 (b + (3 + 2 * p)) j)]
    · rw [if_pos (by omega), show y + i - y = i by omega]
    · intro j hj
      by_cases e : y ≤ j ∧ j < y + i
      · rw [if_pos e, if_pos (by omega)]
      · rw [if_neg e, if_neg (by omega)]
  · unfold bd_X4_lay_95
    simp (disch := omega) only [nI_add, pk_mul, nI_sb, le_t, le_f, lt_t, lt_f, nI_cl, gd_nI, ↓reduceIte, nmE, Option.bind_some, Option.bind_eq_bind]
theorem cp_lay_a {b p y : Nat} {n : Int32} {f st : Int64} {σ : Sto} {D : Desk} (h : CR b σ D) (G : GD D) (hp : p < dN D) (hy : y < (dP D p).2.1) (hn : n ≤ 64) :
    ∃ τ, F_X4_lay (ΛE b) σ b (nI p) (nI y) (nI 4) n f st = some (nI 0, τ) ∧ CR b τ (forgD D) ∧ FrC b σ τ := by
  obtain ⟨hc, hfc⟩ := CR_forg h
  unfold F_X4_lay jp_X4_lay_52 F_X1_forget
  have g1 := G.1
  rw [find_t h g1 hp, Option.bind_some, oc_s, hasRow_t (h.2.1 p hp) (by omega) hy]
  rw [nmE, if_neg (by decide), nmE, if_neg (by decide), if_pos hn]
  simp (disch := omega) only [e0, e1, e2, e3, e4, e7, e8, e9, e10, e12, e16, e20, e63, e64, e100, e4096, nmE, ↓reduceIte, r0_2, ite_self]
  exact ⟨_, rfl, hc, hfc⟩
theorem cp_lay_c {b p y kd : Nat} {n : Int32} {f st : Int64} {σ : Sto} {D : Desk} (h : CR b σ D) (G : GD D) (hp : p < dN D) (hy : y < (dP D p).2.1) (hkd : kd < 4) (hn : n < 0) : F_X4_lay (ΛE b) σ b (nI p) (nI y) (nI kd) n f st = some (-2, σ) := by
  unfold F_X4_lay
  have g1 := G.1
  have n1 : n ≤ 64 := by
    rw [le32]; rw [lt32] at hn
    have e1 : (0 : Int32).toInt = 0 := by decide
    have e2 : (64 : Int32).toInt = 64 := by decide
    omega
  have n2 : ¬ 0 ≤ n := by
    rw [le32]; rw [lt32] at hn
    omega
  rw [find_t h g1 hp, Option.bind_some, oc_s, hasRow_t (h.2.1 p hp) (by omega) hy]
  rw [nmE, if_neg (by decide), if_pos n1, if_neg n2]
  simp (disch := omega) only [e0, e1, e2, e3, e4, e7, e8, e9, e10, e12, e16, e20, e63, e64, e100, e4096, nmE, within_t, eq_f, ↓reduceIte]
theorem cp_lay_f {b : Nat} {q y k n : Int32} {f st : Int64} {σ : Sto} {D : Desk} (hc : CR b σ D) (G : GD D) (hn : ¬ ((∃ p j, p < dN D ∧ j < (dP D p).2.1 ∧ q = nI p ∧ y = nI j) ∧ (∃ kd, kd ≤ 4 ∧ k = nI kd) ∧ n ≤ 64)) : F_X4_lay (ΛE b) σ b q y k n f st = some (-1, σ) := by
  unfold F_X4_lay
  by_cases c1 : ∃ p, p < dN D ∧ q = nI p
  · obtain ⟨p, hp, rfl⟩ := c1
    rw [find_t hc G.1 hp, Option.bind_some, oc_s, nmE]
    by_cases c2 : ∃ j, j < (dP D p).2.1 ∧ y = nI j
    · obtain ⟨j, hj, rfl⟩ := c2
      rw [hasRow_t (hc.2.1 p hp) (by omega) hj, if_neg (by decide), nmE]
      by_cases c3 : ∃ kd, kd ≤ 4 ∧ k = nI kd
      · by_cases c4 : n ≤ 64
        · exact absurd ⟨⟨p, j, hp, hj, rfl, rfl⟩, c3, c4⟩ hn
        · rw [if_neg c4, ite_self]
      · rw [show (0 : Int32) = nI 0 from rfl, show (4 : Int32) = nI 4 from rfl, within_f (by omega) (fun ⟨z, z1, z2, z3⟩ => c3 ⟨z, z2, z3⟩) (by omega), if_pos rfl]
    · rw [hasRow_f (hc.2.1 p hp) (by omega) c2, if_pos nI_0]
  · rw [find_f hc G.1 c1, Option.bind_some, oc_n]
-- unlike
def rowNe (P Q : PG) (y : Nat) : Bool := anyB (fun x => P.2.2 x y != Q.2.2 x y) 64
def unP (P Q : PG) : Int32 := if fa_first (rowNe P Q) P.2.1 < P.2.1 then nI (fa_first (rowNe P Q) P.2.1) else -1
theorem cp_unlike_t {b p q : Nat} {σ : Sto} {D : Desk} (h : CR b σ D) (G : GD D) (hp : p < dN D) (hq : q < dN D) (e1 : (dP D p).1 = (dP D q).1) (e2 : (dP D p).2.1 = (dP D q).2.1) : F_X4_unlike (ΛE b) σ b (nI p) (nI q) = some (unP (dP D p) (dP D q)) := by
  have g1 := G.1
  have gp := G.2.1 p hp
  have gq := G.2.1 q hq
  unfold okP at gp gq
  have hS := h.2.1 p hp
  have hT := h.2.1 q hq
  unfold F_X4_unlike
  rw [find_t h g1 hp, find_t h g1 hq, Option.bind_some, oc_s, Option.bind_some, oc_s, hS.1, hS.2.1, hT.1, hT.2.1, e1, e2, if_pos rfl, if_pos rfl]
  have hl := fa_first_le (rowNe (dP D p) (dP D q)) (dP D p).2.1
  have hz : ∀ y, y < (dP D p).2.1 → ((lg_cmp (σ.2 (b + (3 + 2 * p)) y) (σ.2 (b + (3 + 2 * q)) y) = 0) ↔ rowNe (dP D p) (dP D q) y = false) := by
    intro y hy
    rw [lg_cmp_eq]
    unfold rowNe
    rw [anyB_not]
    constructor
    · intro e x _
      rw [← hS.2.2.2.2.1 y (by omega), ← hT.2.2.2.2.1 y (by omega), e]; simp
    · intro e
      apply tb_ext
      intro x hx
      have := e x hx
      rw [hS.2.2.2.2.1 y (by omega), hT.2.2.2.2.1 y (by omega)]
      simpa using this
  obtain ⟨r, h1, h2⟩ := iter_for (f := bd_X4_unlike_55 (ΛE b) σ (b + (2 + 2 * p)) (b + (2 + 2 * q))) (fa_first (rowNe (dP D p) (dP D q)) (dP D p).2.1) (fun k s => s = nI k)
    (fun e => e = if fa_first (rowNe (dP D p) (dP D q)) (dP D p).2.1 < (dP D p).2.1 then Sum.inl (nI (fa_first (rowNe (dP D p) (dP D q)) (dP D p).2.1)) else Sum.inr ()) (s := (0 : Int32)) (n := FU)
    (by
      rintro k s hk rfl
      unfold bd_X4_unlike_55
      rw [hS.2.1, if_neg (nI_ge (by omega) (by omega)), rPr (by omega), lP (by omega), if_pos (gd_nI (by omega) (by omega)), rPr (by omega), lP (by omega), if_pos (gd_nI (by omega) (by omega)), nI_cl (by omega), if_pos ((hz k (by omega)).mpr (fa_first_no _ _ k hk)), nmE]
      exact ⟨_, rfl, nI_1 k⟩)
    (by
      rintro s rfl
      unfold bd_X4_unlike_55
      by_cases e : fa_first (rowNe (dP D p) (dP D q)) (dP D p).2.1 < (dP D p).2.1
      · rw [hS.2.1, if_neg (nI_ge e (by omega)), rPr (by omega), lP (by omega), if_pos (gd_nI (by omega) (by omega)), rPr (by omega), lP (by omega), if_pos (gd_nI (by omega) (by omega)), nI_cl (by omega), if_neg (fun c => by
          have c1 := (hz _ e).mp c
          rw [fa_first_yes _ _ e] at c1; cases c1), if_pos e]
        exact ⟨_, rfl, rfl⟩
      · rw [hS.2.1, if_pos (nI_le (by omega) (by omega)), if_neg e]
        exact ⟨_, rfl, rfl⟩)
    rfl (by show _ < 5000; omega)
  rw [h1, Option.bind_some, h2]
  unfold unP
  by_cases e : fa_first (rowNe (dP D p) (dP D q)) (dP D p).2.1 < (dP D p).2.1
  · rw [if_pos e, if_pos e]; rfl
  · rw [if_neg e, if_neg e]; rfl
theorem cp_unlike_n {b p q : Nat} {σ : Sto} {D : Desk} (h : CR b σ D) (G : GD D) (hp : p < dN D) (hq : q < dN D) (hn : ¬ ((dP D p).1 = (dP D q).1 ∧ (dP D p).2.1 = (dP D q).2.1)) : F_X4_unlike (ΛE b) σ b (nI p) (nI q) = some 100 := by
  have g1 := G.1
  have gp := G.2.1 p hp
  have gq := G.2.1 q hq
  unfold okP at gp gq
  have hS := h.2.1 p hp
  have hT := h.2.1 q hq
  unfold F_X4_unlike
  rw [find_t h g1 hp, find_t h g1 hq, Option.bind_some, oc_s, Option.bind_some, oc_s, hS.1, hS.2.1, hT.1, hT.2.1]
  by_cases c1 : (dP D p).1 = (dP D q).1
  · have c2 : ¬ (dP D p).2.1 = (dP D q).2.1 := fun c2 => hn ⟨c1, c2⟩
    simp (disch := omega) only [eq_f, ↓reduceIte, ite_self]
  · simp (disch := omega) only [eq_f, ↓reduceIte, ite_self]
theorem cp_unlike_f {b : Nat} {x z : Int32} {σ : Sto} {D : Desk} (hc : CR b σ D) (G : GD D) (hn : ¬ ((∃ p, p < dN D ∧ x = nI p) ∧ (∃ p, p < dN D ∧ z = nI p))) : F_X4_unlike (ΛE b) σ b x z = some (-2) := by
  unfold F_X4_unlike
  by_cases c1 : ∃ p, p < dN D ∧ x = nI p
  · have c2 : ¬ ∃ p, p < dN D ∧ z = nI p := fun c2 => hn ⟨c1, c2⟩
    obtain ⟨p, hp, rfl⟩ := c1
    rw [find_t hc G.1 hp, find_f hc G.1 c2, Option.bind_some, oc_s, Option.bind_some, oc_n]
  · rw [find_f hc G.1 c1, Option.bind_some, oc_n]
    by_cases c2 : ∃ p, p < dN D ∧ z = nI p
    · obtain ⟨p, hp, rfl⟩ := c2
      rw [find_t hc G.1 hp, Option.bind_some, oc_s]
    · rw [find_f hc G.1 c2, Option.bind_some, oc_n]
-- shears
theorem shear_t {s : Int} (h : okS s) : F_X4_isShear (iI s) = nI 1 := by
  unfold F_X4_isShear F_X4_within
  unfold okS at h
  rw [nmE, show (-16 : Int32) = iI (-16) from rfl, show (16 : Int32) = iI 16 from rfl, if_neg (by rw [iI_lt (by omega) (by omega) (by omega) (by omega)]; omega), if_neg (by rw [iI_lt (by omega) (by omega) (by omega) (by omega)]; omega)]
  rfl
theorem shear_f {x : Int32} (h : ¬ ∃ s, okS s ∧ x = iI s) : F_X4_isShear x = nI 0 := by
  unfold F_X4_isShear F_X4_within
  rw [nmE]
  by_cases c1 : x < -16
  · rw [if_pos c1]; rfl
  · by_cases c2 : 16 < x
    · rw [if_neg c1, if_pos c2]; rfl
    · exfalso
      apply h
      rw [lt32, show (-16 : Int32).toInt = -16 by decide] at c1
      rw [lt32, show (16 : Int32).toInt = 16 by decide] at c2
      exact ⟨x.toInt, ⟨by omega, by omega⟩, iI_of x⟩
theorem across_ok {s : Int} {P : PG} (h : okP P) (hs : okS s) (hw : P.1 + spr s P.2.1 ≤ 64) : okP (acrossP s P) := by
  refine ⟨by show 1 ≤ P.1 + _; have := h.1; omega, hw, h.2.2.1, h.2.2.2.1, ?_⟩
  intro x y hxy
  have hxy : (decide (y < P.2.1) && (decide (off s P.2.1 y ≤ x) && P.2.2 (x - off s P.2.1 y) y)) = true := hxy
  show x < P.1 + spr s P.2.1 ∧ y < P.2.1
  simp only [Bool.and_eq_true, decide_eq_true_eq] at hxy
  have ho := off_le (s := s) hxy.1
  have := (h.2.2.2.2 _ _ hxy.2.2).1
  omega
theorem upright_ok {s : Int} {P : PG} (h : okP P) (hs : okS s) (hw : P.2.1 + spr s P.1 ≤ 64) : okP (uprightP s P) := by
  refine ⟨h.1, h.2.1, by show 1 ≤ P.2.1 + _; have := h.2.2.1; omega, hw, ?_⟩
  intro x y hxy
  have hxy : (decide (x < P.1) && (decide (off s P.1 x ≤ y) && P.2.2 x (y - off s P.1 x))) = true := hxy
  show x < P.1 ∧ y < P.2.1 + spr s P.1
  simp only [Bool.and_eq_true, decide_eq_true_eq] at hxy
  have ho := off_le (s := s) hxy.1
  have := (h.2.2.2.2 _ _ hxy.2.2).2
  omega
theorem cp_across_t {b p : Nat} {s : Int} {σ : Sto} {D : Desk} (h : CR b σ D) (G : GD D) (hp : p < dN D) (hs : okS s) (hw : (dP D p).1 + spr s (dP D p).2.1 ≤ 64) :
    ∃ τ, F_X4_across (ΛE b) σ b (nI p) (iI s) = some (nI (acrossP s (dP D p)).1, τ) ∧ CR b τ (setP (pushD D p 0) p (acrossP s (dP D p))) ∧ FrC b σ τ := by
  have g1 := G.1
  have gp := G.2.1 p hp
  unfold okP at gp
  unfold F_X4_across
  rw [find_t h g1 hp, Option.bind_some, oc_s, nmE, shear_t hs, if_neg (by decide), (h.2.1 p hp).1, (h.2.1 p hp).2.1, nmE, spread_eq hs (by omega) (by omega), nI_add, e64, if_pos (nI_le hw (by omega)), r0_2]
  obtain ⟨τ, q1, q2, q3⟩ := remember_cr (m := 0) (made := -1) h G hp (by decide)
  have hS : Sh τ _ _ 64 (dP D p) := q2.2.1 p hp
  obtain ⟨υ, z1, z2, z3⟩ := shearAcross_sh (rPr (by omega) b) (lP (by omega) b) hS hs (by omega) hw
  rw [q1, Option.bind_some, z1, Option.bind_some, z2.1]
  obtain ⟨w1, w2⟩ := CR_chg q2 G hp (Fr_mono z3 (by simp)) z2
  exact ⟨_, rfl, w1, FrC_trans q3 w2⟩
theorem cp_across_f {b : Nat} {q x : Int32} {σ : Sto} {D : Desk} (hc : CR b σ D) (G : GD D) (hn : ¬ ∃ p s, p < dN D ∧ okS s ∧ (dP D p).1 + spr s (dP D p).2.1 ≤ 64 ∧ q = nI p ∧ x = iI s) : F_X4_across (ΛE b) σ b q x = some (-1, σ) := by
  unfold F_X4_across
  by_cases c1 : ∃ p, p < dN D ∧ q = nI p
  · obtain ⟨p, hp, rfl⟩ := c1
    have gp := G.2.1 p hp
    unfold okP at gp
    rw [find_t hc G.1 hp, Option.bind_some, oc_s, nmE]
    by_cases c2 : ∃ s, okS s ∧ x = iI s
    · obtain ⟨s, hs, rfl⟩ := c2
      have hsp := spr_bd (n := (dP D p).2.1) hs (by omega)
      rw [shear_t hs, if_neg (by decide), (hc.2.1 p hp).1, (hc.2.1 p hp).2.1, nmE, spread_eq hs (by omega) (by omega), nI_add, e64, if_neg (nI_ge (Nat.lt_of_not_le fun q => hn ⟨p, s, hp, hs, q, rfl, rfl⟩) (by omega))]
    · rw [shear_f c2, if_pos nI_0]
  · rw [find_f hc G.1 c1, Option.bind_some, oc_n]
/-- a page through the bench -/
theorem shearUp_sh {b p : Nat} {s : Int} {σ : Sto} {P : PG} (hp : p < 8) (hS : Sh σ (b + (2 + 2 * p)) (b + (3 + 2 * p)) 64 P) (hs : okS s) (h0 : 0 < P.1) (hh : P.2.1 + spr s P.1 ≤ 64) :
    ∃ τ, F_X4_shearUp (ΛE b) σ b (b + (2 + 2 * p)) (iI s) = some τ ∧ Sh τ (b + (2 + 2 * p)) (b + (3 + 2 * p)) 64 (uprightP s P) ∧ Fr ((b + (2 + 2 * p)) :: (b + (3 + 2 * p)) :: scr b) σ τ := by
  unfold F_X4_shearUp
  rw [r0_5]
  obtain ⟨τ, q1, q2, q3⟩ := becomeShearedUp_sh (r62_2 b) (l63 b) (by omega) (rPr hp b) (lP hp b) (by omega) (by omega) (by omega) (by omega) (by omega) hS hs h0 (show P.2.1 + spr s P.1 ≤ 128 by omega)
  obtain ⟨υ, z1, z2, z3⟩ := become_sh (rPr hp b) (lP hp b) (by omega) (r62_2 b) (l63 b) (by omega) (by omega) (by omega) q2 hh
  rw [q1, Option.bind_some, z1]
  refine ⟨_, rfl, z2, Fr_trans (Fr_mono q3 ?_) (Fr_mono z3 ?_)⟩
  · unfold scr; simp
  · simp
theorem cp_upright_t {b p : Nat} {s : Int} {σ : Sto} {D : Desk} (h : CR b σ D) (G : GD D) (hp : p < dN D) (hs : okS s) (hw : (dP D p).2.1 + spr s (dP D p).1 ≤ 64) :
    ∃ τ, F_X4_upright (ΛE b) σ b (nI p) (iI s) = some (nI (uprightP s (dP D p)).2.1, τ) ∧ CR b τ (setP (pushD D p 0) p (uprightP s (dP D p))) ∧ FrC b σ τ := by
  have g1 := G.1
  have gp := G.2.1 p hp
  unfold okP at gp
  unfold F_X4_upright
  rw [find_t h g1 hp, Option.bind_some, oc_s, nmE, shear_t hs, if_neg (by decide), (h.2.1 p hp).1, (h.2.1 p hp).2.1, nmE, spread_eq hs (by omega) (by omega), nI_add, e64, if_pos (nI_le hw (by omega)), r0_2]
  obtain ⟨τ, q1, q2, q3⟩ := remember_cr (m := 0) (made := -1) h G hp (by decide)
  have hS : Sh τ _ _ 64 (dP D p) := q2.2.1 p hp
  obtain ⟨υ, z1, z2, z3⟩ := shearUp_sh (by omega) hS hs (by omega) hw
  rw [q1, Option.bind_some, z1, Option.bind_some, z2.2.1]
  obtain ⟨w1, w2⟩ := CR_chg q2 G hp z3 z2
  exact ⟨_, rfl, w1, FrC_trans q3 w2⟩
theorem cp_upright_f {b : Nat} {q x : Int32} {σ : Sto} {D : Desk} (hc : CR b σ D) (G : GD D) (hn : ¬ ∃ p s, p < dN D ∧ okS s ∧ (dP D p).2.1 + spr s (dP D p).1 ≤ 64 ∧ q = nI p ∧ x = iI s) : F_X4_upright (ΛE b) σ b q x = some (-1, σ) := by
  unfold F_X4_upright
  by_cases c1 : ∃ p, p < dN D ∧ q = nI p
  · obtain ⟨p, hp, rfl⟩ := c1
    have gp := G.2.1 p hp
    unfold okP at gp
    rw [find_t hc G.1 hp, Option.bind_some, oc_s, nmE]
    by_cases c2 : ∃ s, okS s ∧ x = iI s
    · obtain ⟨s, hs, rfl⟩ := c2
      have hsp := spr_bd (n := (dP D p).1) hs (by omega)
      rw [shear_t hs, if_neg (by decide), (hc.2.1 p hp).1, (hc.2.1 p hp).2.1, nmE, spread_eq hs (by omega) (by omega), nI_add, e64, if_neg (nI_ge (Nat.lt_of_not_le fun q => hn ⟨p, s, hp, hs, q, rfl, rfl⟩) (by omega))]
    · rw [shear_f c2, if_pos nI_0]
  · rw [find_f hc G.1 c1, Option.bind_some, oc_n]
