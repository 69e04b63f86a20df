/-! THE DESK, told plainly: pages; changes, the newest first (page, 0 or the page it made and one more, what the page was); the list; the numbers -/
abbrev Chg : Type := Nat × Nat × PG
abbrev Desk : Type := Nat × (Nat → PG) × Nat × Nat × (Nat → Chg) × PG × Nat × (Nat → Nat)
abbrev dN (D : Desk) : Nat := D.1
abbrev dP (D : Desk) : Nat → PG := D.2.1
abbrev dK (D : Desk) : Nat := D.2.2.1
abbrev dX (D : Desk) : Nat := D.2.2.2.1
abbrev dH (D : Desk) : Nat → Chg := D.2.2.2.2.1
abbrev dL (D : Desk) : PG := D.2.2.2.2.2.1
abbrev dM (D : Desk) : Nat := D.2.2.2.2.2.2.1
abbrev dV (D : Desk) : Nat → Nat := D.2.2.2.2.2.2.2
/-- a page's bounds -/
def okP (P : PG) : Prop := 1 ≤ P.1 ∧ P.1 ≤ 64 ∧ 1 ≤ P.2.1 ∧ P.2.1 ≤ 64 ∧ ∀ x y, P.2.2 x y = true → x < P.1 ∧ y < P.2.1
def okL (P : PG) : Prop := P.1 ≤ 64 ∧ P.2.1 ≤ 64 ∧ ∀ x y, P.2.2 x y = true → x < P.1 ∧ y < P.2.1
def GD (D : Desk) : Prop := dN D ≤ 8 ∧ (∀ p, p < dN D → okP (dP D p)) ∧ dK D ≤ 10 ∧ dX D < 10 ∧ (∀ i, i < dK D → (dH D i).1 < dN D ∧ okP (dH D i).2.2 ∧ (dH D i).2.1 ≤ 8) ∧ (∀ i j, i < j → j < dK D → 0 < (dH D i).2.1 → (dH D j).1 + 1 < (dH D i).2.1) ∧ okL (dL D) ∧ dM D ≤ 64 ∧ (∀ i, i < dM D → dV D i < 64)
def mdI (m : Nat) : Int32 := if m = 0 then -1 else nI (m - 1)
def up1 {α : Type} (f : Nat → α) (k : Nat) (v : α) : Nat → α := fun j => if j = k then v else f j
theorem up1_self {α : Type} (f : Nat → α) (k : Nat) (v : α) : up1 f k v k = v := by simp [up1]
theorem up1_ne {α : Type} (f : Nat → α) {k j : Nat} (v : α) (h : j ≠ k) : up1 f k v j = f j := by simp [up1, h]
def setP (D : Desk) (p : Nat) (P : PG) : Desk := (dN D, up1 (dP D) p P, dK D, dX D, dH D, dL D, dM D, dV D)
def setN (D : Desk) (n : Nat) : Desk := (n, dP D, dK D, dX D, dH D, dL D, dM D, dV D)
def setL (D : Desk) (L : PG) : Desk := (dN D, dP D, dK D, dX D, dH D, L, dM D, dV D)
def setV (D : Desk) (m : Nat) (v : Nat → Nat) : Desk := (dN D, dP D, dK D, dX D, dH D, dL D, m, v)
def pushD (D : Desk) (p m : Nat) : Desk := (dN D, dP D, min (dK D + 1) 10, (dX D + 1) % 10, (fun i => if i = 0 then (p, m, dP D p) else dH D (i - 1)), dL D, dM D, dV D)
def popD (D : Desk) : Desk := (dN D, dP D, dK D - 1, (dX D + 9) % 10, (fun i => dH D (i + 1)), dL D, dM D, dV D)
def forgD (D : Desk) : Desk := (dN D, dP D, 0, dX D, dH D, dL D, dM D, dV D)
/-- the class's change k shows c -/
def HC (b : Nat) (σ : Sto) (k : Nat) (c : Chg) : Prop := σ.1 (b + (20 + 3 * k)) 0 = nI c.1 ∧ σ.1 (b + (20 + 3 * k)) 1 = mdI c.2.1 ∧ Sh σ (b + (21 + 3 * k)) (b + (22 + 3 * k)) 64 c.2.2
/-- the class's cells show the desk -/
def CR (b : Nat) (σ : Sto) (D : Desk) : Prop := σ.1 b 1 = nI (dN D) ∧ (∀ p, p < dN D → Sh σ (b + (2 + 2 * p)) (b + (3 + 2 * p)) 64 (dP D p)) ∧ σ.1 (b + 18) 1 = nI (dX D) ∧ σ.1 (b + 18) 2 = nI (dK D) ∧ (∀ i, i < dK D → HC b σ ((dX D + 9 - i) % 10) (dH D i)) ∧ Sh σ (b + 60) (b + 61) 64 (dL D) ∧ σ.1 b 7 = nI (dM D) ∧ (∀ i, i < dM D → σ.1 (b + 64) i = nI (dV D i))
/-- the class leaves the reference's cells alone -/
def FrC (b : Nat) (σ τ : Sto) : Prop := ∀ c, (b + 65 ≤ c ∨ c = b + 50 ∨ c = b + 59) → c ≠ b + 83 → τ.1 c = σ.1 c ∧ τ.2 c = σ.2 c
theorem FrC_refl (b : Nat) (σ : Sto) : FrC b σ σ := fun _ _ _ => ⟨rfl, rfl⟩
theorem FrC_trans {b : Nat} {σ τ υ : Sto} (h : FrC b σ τ) (h2 : FrC b τ υ) : FrC b σ υ := fun c hc hd => ⟨(h2 c hc hd).1.trans (h c hc hd).1, (h2 c hc hd).2.trans (h c hc hd).2⟩
theorem FrC_of {b : Nat} {S : List Nat} {σ τ : Sto} (h : Fr S σ τ) (hs : ∀ c, c ∈ S → c < b + 65 ∧ c ≠ b + 50 ∧ c ≠ b + 59) : FrC b σ τ := fun c hc _ => h c (fun q => by have := hs c q; omega)
/-- the class's scratch -/
def scr (b : Nat) : List Nat := [b + 51, b + 52, b + 53, b + 54, b + 55, b + 56, b + 57, b + 58, b + 62, b + 63]
theorem CR_same {b : Nat} {σ τ : Sto} {D : Desk} (h : CR b σ D) (hN : dN D ≤ 8) (hf : ∀ c, (c < b + 50 ∨ c = b + 60 ∨ c = b + 61 ∨ c = b + 64) → τ.1 c = σ.1 c ∧ τ.2 c = σ.2 c) : CR b τ D := by
  obtain ⟨h1, h2, h3, h4, h5, h6, h7, h8⟩ := h
  refine ⟨?_, ?_, ?_, ?_, ?_, ?_, ?_, ?_⟩
  · rw [(hf b (by omega)).1]; exact h1
  · intro p hp
    exact Sh_fr (h2 p hp) (hf _ (by omega)).1 (hf _ (by omega)).2
  · rw [(hf (b + 18) (by omega)).1]; exact h3
  · rw [(hf (b + 18) (by omega)).1]; exact h4
  · intro i hi
    obtain ⟨g1, g2, g3⟩ := h5 i hi
    have hk : (dX D + 9 - i) % 10 < 10 := Nat.mod_lt _ (by omega)
    refine ⟨?_, ?_, ?_⟩
    · rw [(hf _ (by omega)).1]; exact g1
    · rw [(hf _ (by omega)).1]; exact g2
    · exact Sh_fr g3 (hf _ (by omega)).1 (hf _ (by omega)).2
  · exact Sh_fr h6 (hf _ (by omega)).1 (hf _ (by omega)).2
  · rw [(hf b (by omega)).1]; exact h7
  · intro i hi
    rw [(hf (b + 64) (by omega)).1]; exact h8 i hi
theorem CR_scr {b : Nat} {σ τ : Sto} {D : Desk} (h : CR b σ D) (hN : dN D ≤ 8) (hf : Fr (scr b) σ τ) : CR b τ D := CR_same h hN (fun c hc => hf c (by unfold scr; simp; omega))
/-- a page anew -/
theorem CR_page {b : Nat} {σ τ : Sto} {D : Desk} {p : Nat} {P : PG} (h : CR b σ D) (hN : dN D ≤ 8) (hp : p < 8) (hf : Fr ((b + (2 + 2 * p)) :: (b + (3 + 2 * p)) :: scr b) σ τ) (hS : Sh τ (b + (2 + 2 * p)) (b + (3 + 2 * p)) 64 P) : CR b τ (setP D p P) := by
  have hf2 : ∀ c, (c < b + 50 ∨ c = b + 60 ∨ c = b + 61 ∨ c = b + 64) → c ≠ b + (2 + 2 * p) → c ≠ b + (3 + 2 * p) → τ.1 c = σ.1 c ∧ τ.2 c = σ.2 c := fun c hc n1 n2 => hf c (by unfold scr; simp; omega)
  obtain ⟨h1, h2, h3, h4, h5, h6, h7, h8⟩ := h
  refine ⟨?_, ?_, ?_, ?_, ?_, ?_, ?_, ?_⟩
  · rw [(hf2 b (by omega) (by omega) (by omega)).1]; exact h1
  · intro q hq
    by_cases e : q = p
    · subst e
      show Sh τ _ _ 64 (up1 (dP D) q P q)
      rw [up1_self]; exact hS
    · show Sh τ _ _ 64 (up1 (dP D) p P q)
      rw [up1_ne _ _ e]
      have hq : q < dN D := hq
      exact Sh_fr (h2 q hq) (hf2 _ (by omega) (by omega) (by omega)).1 (hf2 _ (by omega) (by omega) (by omega)).2
  · rw [(hf2 (b + 18) (by omega) (by omega) (by omega)).1]; exact h3
  · rw [(hf2 (b + 18) (by omega) (by omega) (by omega)).1]; exact h4
  · intro i hi
    obtain ⟨g1, g2, g3⟩ := h5 i hi
    have hk : (dX D + 9 - i) % 10 < 10 := Nat.mod_lt _ (by omega)
    show HC b τ ((dX D + 9 - i) % 10) (dH D i)
    refine ⟨?_, ?_, ?_⟩
    · rw [(hf2 _ (by omega) (by omega) (by omega)).1]; exact g1
    · rw [(hf2 _ (by omega) (by omega) (by omega)).1]; exact g2
    · exact Sh_fr g3 (hf2 _ (by omega) (by omega) (by omega)).1 (hf2 _ (by omega) (by omega) (by omega)).2
  · exact Sh_fr h6 (hf2 _ (by omega) (by omega) (by omega)).1 (hf2 _ (by omega) (by omega) (by omega)).2
  · rw [(hf2 b (by omega) (by omega) (by omega)).1]; exact h7
  · intro i hi
    rw [(hf2 (b + 64) (by omega) (by omega) (by omega)).1]; exact h8 i hi
/-- one page more or less -/
theorem CR_n {b : Nat} {σ : Sto} {D : Desk} {n : Nat} (h : CR b σ D) (hS : ∀ p, p < n → Sh σ (b + (2 + 2 * p)) (b + (3 + 2 * p)) 64 (dP D p)) : CR b (stI σ b 1 (nI n)) (setN D n) := by
  obtain ⟨h1, h2, h3, h4, h5, h6, h7, h8⟩ := h
  have hf2 : ∀ c, c ≠ b → (stI σ b 1 (nI n)).1 c = σ.1 c ∧ (stI σ b 1 (nI n)).2 c = σ.2 c := fun c hc => ⟨up2_ne _ _ _ hc, rfl⟩
  refine ⟨?_, ?_, ?_, ?_, ?_, ?_, ?_, ?_⟩
  · rw [stI_1, up2_self]; rfl
  · intro q hq
    exact Sh_fr (hS q hq) (hf2 _ (by omega)).1 (hf2 _ (by omega)).2
  · rw [(hf2 (b + 18) (by omega)).1]; exact h3
  · rw [(hf2 (b + 18) (by omega)).1]; exact h4
  · intro i hi
    obtain ⟨g1, g2, g3⟩ := h5 i hi
    refine ⟨?_, ?_, ?_⟩
    · rw [(hf2 _ (by omega)).1]; exact g1
    · rw [(hf2 _ (by omega)).1]; exact g2
    · exact Sh_fr g3 (hf2 _ (by omega)).1 (hf2 _ (by omega)).2
  · exact Sh_fr h6 (hf2 _ (by omega)).1 (hf2 _ (by omega)).2
  · rw [stI_1, up2_nk _ _ _ (by decide)]; exact h7
  · intro i hi
    rw [(hf2 (b + 64) (by omega)).1]; exact h8 i hi
theorem find_t {b p : Nat} {σ : Sto} {D : Desk} (h : CR b σ D) (hN : dN D ≤ 8) (hp : p < dN D) : F_X4_find (ΛE b) σ b (nI p) = some (some (b + (2 + 2 * p))) := by
  unfold F_X4_find
  rw [h.1]
  simp (disch := omega) only [e0, e1, e2, e3, e4, e7, e8, e9, e10, e12, e16, e20, e63, e64, e100, e4096, nmE, within0_t, eq_f, ↓reduceIte, r0_0, l1, gd_nI, nI_cl, rP]
theorem find_f {b : Nat} {x : Int32} {σ : Sto} {D : Desk} (h : CR b σ D) (hN : dN D ≤ 8) (hp : ¬ ∃ p, p < dN D ∧ x = nI p) : F_X4_find (ΛE b) σ b x = some none := by
  unfold F_X4_find
  rw [h.1]
  simp only [e0, e1, e2, e3, e4, e7, e8, e9, e10, e12, e16, e20, e63, e64, e100, e4096, nmE]
  rw [within0_f (by omega) hp, if_pos rfl]
theorem mn_nI {a c : Nat} (ha : a < 2147483648) (hc : c < 2147483648) : mn (nI a) (nI c) = nI (min a c) := by
  unfold mn
  by_cases h : c < a
  · rw [if_pos (nI_lt h ha), Nat.min_eq_right (by omega)]
  · rw [if_neg (nI_nlt (by omega) hc), Nat.min_eq_left (by omega)]
theorem mx_nI {a c : Nat} (ha : a < 2147483648) (hc : c < 2147483648) : mx (nI a) (nI c) = nI (max a c) := by
  unfold mx
  by_cases h : a < c
  · rw [if_pos (nI_lt h hc), Nat.max_eq_right (by omega)]
  · rw [if_neg (nI_nlt (by omega) ha), Nat.max_eq_left (by omega)]
theorem remember_cr {b p m : Nat} {σ : Sto} {D : Desk} {made : Int32} (h : CR b σ D) (G : GD D) (hp : p < dN D) (hm : made = mdI m) :
    ∃ τ, F_X1_remember (ΛE b) σ (b + 18) (nI p) (b + (2 + 2 * p)) made = some τ ∧ CR b τ (pushD D p m) ∧ FrC b σ τ := by
  obtain ⟨g1, g2, g3, g4, g5, g6, g7, g8, g9⟩ := G
  obtain ⟨h1, h2, h3, h4, h5, h6, h7, h8⟩ := h
  subst hm
  unfold F_X1_remember
  rw [h3]
  simp (disch := omega) only [r18_0, l19, gd_nI, nI_cl, rH, ↓reduceIte, nmE, rHs]
  have hS := h2 p hp
  have s0 : Sh (stI (stI σ (b + (20 + 3 * dX D)) 0 (nI p)) (b + (20 + 3 * dX D)) 1 (mdI m)) (b + (2 + 2 * p)) (b + (3 + 2 * p)) 64 (dP D p) := Sh_Fr (S := [b + (20 + 3 * dX D)]) hS (Fr_trans (Fr_stI (by simp)) (Fr_stI (by simp))) (by simp <;> omega) (by simp <;> omega)
  obtain ⟨τ, q1, q2, q3⟩ := become_sh (Λ := ΛE b) (a := b + (21 + 3 * dX D)) (r := b + (22 + 3 * dX D)) (N := 64) (rHr g4 b) (lH g4 b) (by omega) (rPr (by omega) b) (lP (by omega) b) (by omega) (by omega) (by omega) s0 (hS.2.2.2.1)
  rw [q1, Option.bind_some]
  have hf : Fr [b + (20 + 3 * dX D), b + (21 + 3 * dX D), b + (22 + 3 * dX D)] σ τ := Fr_trans (Fr_trans (Fr_stI (by simp)) (Fr_stI (by simp))) (Fr_mono q3 (by simp))
  have hfc : ∀ c, c ≠ b + (20 + 3 * dX D) → c ≠ b + (21 + 3 * dX D) → c ≠ b + (22 + 3 * dX D) → τ.1 c = σ.1 c ∧ τ.2 c = σ.2 c := fun c n1 n2 n3 => hf c (by simp <;> omega)
  have i1 : τ.1 (b + 18) 1 = nI (dX D) := by rw [(hfc (b + 18) (by omega) (by omega) (by omega)).1]; exact h3
  have i2 : τ.1 (b + 18) 2 = nI (dK D) := by rw [(hfc (b + 18) (by omega) (by omega) (by omega)).1]; exact h4
  have i3 : τ.1 (b + (20 + 3 * dX D)) 0 = nI p := by
    rw [(q3 (b + (20 + 3 * dX D)) (by simp <;> omega)).1, stI_1, up2_nk _ _ _ (by decide), stI_1, up2_self]
  have i4 : τ.1 (b + (20 + 3 * dX D)) 1 = mdI m := by
    rw [(q3 (b + (20 + 3 * dX D)) (by simp <;> omega)).1, stI_1, up2_self]
  have fin : ∀ nx, nx = (dX D + 1) % 10 → ∃ υ, jp_X1_remember_54 (ΛE b) τ (b + 18) (nI nx) (b + 18) = some υ ∧ CR b υ (pushD D p m) ∧ FrC b σ υ := by
    intro nx hnx
    unfold jp_X1_remember_54
    simp only [nmE]
    rw [stI_1, up2_nk _ _ _ (by decide), i2, show (10 : Int32) = nI 10 from rfl, nI_1, mn_nI (by omega) (by omega)]
    have hu : ∀ c, c ≠ b + 18 → (stI (stI τ (b + 18) 1 (nI nx)) (b + 18) 2 (nI (min (dK D + 1) 10))).1 c = τ.1 c ∧ (stI (stI τ (b + 18) 1 (nI nx)) (b + 18) 2 (nI (min (dK D + 1) 10))).2 c = τ.2 c := by
      intro c hc
      refine ⟨?_, rfl⟩
      rw [stI_1, up2_ne _ _ _ hc, stI_1, up2_ne _ _ _ hc]
    have hu2 : ∀ c, c ≠ b + 18 → c ≠ b + (20 + 3 * dX D) → c ≠ b + (21 + 3 * dX D) → c ≠ b + (22 + 3 * dX D) → (stI (stI τ (b + 18) 1 (nI nx)) (b + 18) 2 (nI (min (dK D + 1) 10))).1 c = σ.1 c ∧ (stI (stI τ (b + 18) 1 (nI nx)) (b + 18) 2 (nI (min (dK D + 1) 10))).2 c = σ.2 c := fun c n0 n1 n2 n3 => ⟨(hu c n0).1.trans (hfc c n1 n2 n3).1, (hu c n0).2.trans (hfc c n1 n2 n3).2⟩
    refine ⟨_, rfl, ⟨?_, ?_, ?_, ?_, ?_, ?_, ?_, ?_⟩, ?_⟩
    · rw [(hu2 b (by omega) (by omega) (by omega) (by omega)).1]; exact h1
    · intro q hq
      have hq : q < dN D := hq
      exact Sh_fr (h2 q hq) (hu2 _ (by omega) (by omega) (by omega) (by omega)).1 (hu2 _ (by omega) (by omega) (by omega) (by omega)).2
    · rw [stI_1, up2_nk _ _ _ (by decide), stI_1, up2_self, hnx]; rfl
    · rw [stI_1, up2_self]; rfl
    · intro i hi
      have hi : i < min (dK D + 1) 10 := hi
      show HC b _ (((dX D + 1) % 10 + 9 - i) % 10) (if i = 0 then (p, m, dP D p) else dH D (i - 1))
      by_cases e : i = 0
      · subst e
        rw [if_pos rfl, show ((dX D + 1) % 10 + 9 - 0) % 10 = dX D by omega]
        refine ⟨?_, ?_, ?_⟩
        · rw [(hu _ (by omega)).1]; exact i3
        · rw [(hu _ (by omega)).1]; exact i4
        · exact Sh_fr q2 (hu _ (by omega)).1 (hu _ (by omega)).2
      · rw [if_neg e, show ((dX D + 1) % 10 + 9 - i) % 10 = (dX D + 9 - (i - 1)) % 10 by omega]
        obtain ⟨c1, c2, c3⟩ := h5 (i - 1) (by omega)
        have hne : (dX D + 9 - (i - 1)) % 10 ≠ dX D := by omega
        have hlt : (dX D + 9 - (i - 1)) % 10 < 10 := by omega
        refine ⟨?_, ?_, ?_⟩
        · rw [(hu2 _ (by omega) (by omega) (by omega) (by omega)).1]; exact c1
        · rw [(hu2 _ (by omega) (by omega) (by omega) (by omega)).1]; exact c2
        · exact Sh_fr c3 (hu2 _ (by omega) (by omega) (by omega) (by omega)).1 (hu2 _ (by omega) (by omega) (by omega) (by omega)).2
    · exact Sh_fr h6 (hu2 _ (by omega) (by omega) (by omega) (by omega)).1 (hu2 _ (by omega) (by omega) (by omega) (by omega)).2
    · rw [(hu2 b (by omega) (by omega) (by omega) (by omega)).1]; exact h7
    · intro i hi
      rw [(hu2 (b + 64) (by omega) (by omega) (by omega) (by omega)).1]; exact h8 i hi
    · intro c hc _
      exact hu2 c (by omega) (by omega) (by omega) (by omega)
  rw [i1]
  by_cases e : dX D = 9
  · rw [if_pos (by rw [show (10 : Int32) = nI 10 from rfl, nI_1]; exact nI_le (by omega) (by omega))]
    exact fin 0 (by omega)
  · rw [if_neg (by rw [show (10 : Int32) = nI 10 from rfl, nI_1]; exact nI_ge (by omega) (by omega)), nI_1]
    exact fin (dX D + 1) (by omega)
theorem GD_push {D : Desk} {p m : Nat} (G : GD D) (hp : p < dN D) (hm : m = 0 ∨ m = dN D + 1) (hm2 : m ≤ 8) : GD (pushD D p m) := by
  obtain ⟨g1, g2, g3, g4, g5, g6, g7, g8, g9⟩ := G
  refine ⟨g1, g2, by show min (dK D + 1) 10 ≤ 10; omega, by show (dX D + 1) % 10 < 10; omega, ?_, ?_, g7, g8, g9⟩
  · intro i hi
    have hi : i < min (dK D + 1) 10 := hi
    show (if i = 0 then (p, m, dP D p) else dH D (i - 1)).1 < dN D ∧ okP (if i = 0 then (p, m, dP D p) else dH D (i - 1)).2.2 ∧ (if i = 0 then (p, m, dP D p) else dH D (i - 1)).2.1 ≤ 8
    by_cases e : i = 0
    · rw [if_pos e]; exact ⟨hp, g2 p hp, hm2⟩
    · rw [if_neg e]; exact g5 (i - 1) (by omega)
  · intro i j hij hj h0
    have hj : j < min (dK D + 1) 10 := hj
    have h0 : 0 < (if i = 0 then (p, m, dP D p) else dH D (i - 1)).2.1 := h0
    show (if j = 0 then (p, m, dP D p) else dH D (j - 1)).1 + 1 < (if i = 0 then (p, m, dP D p) else dH D (i - 1)).2.1
    rw [if_neg (show ¬ j = 0 by omega)]
    by_cases e : i = 0
    · rw [if_pos e] at h0 ⊢
      have h0 : 0 < m := h0
      have := (g5 (j - 1) (by omega)).1
      show (dH D (j - 1)).1 + 1 < m
      omega
    · rw [if_neg e] at h0 ⊢
      exact g6 (i - 1) (j - 1) (by omega) (by omega) h0
theorem GD_page {D : Desk} {p : Nat} {P : PG} (G : GD D) (hP : okP P) : GD (setP D p P) := by
  obtain ⟨g1, g2, g3, g4, g5, g6, g7, g8, g9⟩ := G
  refine ⟨g1, ?_, g3, g4, g5, g6, g7, g8, g9⟩
  intro q hq
  show okP (up1 (dP D) p P q)
  by_cases e : q = p
  · rw [e, up1_self]; exact hP
  · rw [up1_ne _ _ e]; exact g2 q hq
