/-! BOTH SIDES TOGETHER, the three that throw -/
-- the three that throw
theorem inv_out {b : Nat} {v : Int64} {σ : Sto} {D : Desk} (h : INV b σ D) : INV b (stJ σ (b + 83) 0 v) D := by
  obtain ⟨hc, hw, G, hm⟩ := h
  have hf : Fr [b + 83] σ (stJ σ (b + 83) 0 v) := Fr_stJ (by simp)
  have hfc : FrC b σ (stJ σ (b + 83) 0 v) := fun c h1 h2 => hf c (by simp <;> omega)
  exact ⟨CR_same hc G.1 (fun c h1 => hf c (by simp <;> omega)), CW_C hfc hw, G, MR_fr hm (FrR_C hfc)⟩
/-- both throw, or both answer and alike -/
def AG3 (b : Nat) (f4 f5 : Sto → Option (Int32 × Sto)) (g : Int32 → Int64) : Prop := ∀ σ D, INV b σ D → ∃ k τ r υ, f4 σ = some (k, τ) ∧ f5 τ = some (r, υ) ∧ υ.1 (b + 65) 0 = k ∧ (k = 0 → υ.2 (b + 83) 0 = g r) ∧ INV b υ D
theorem ag_row {b : Nat} (q y : Int32) : ∀ σ D, INV b σ D → ∃ k τ r υ, F_L_row (ΛE b) σ b q y (b + 83) = some (k, τ) ∧ F_X5_row (ΛE b) τ (b + 65) q y = some (r, υ) ∧ υ.1 (b + 65) 0 = k ∧ (k = 0 → υ.2 (b + 83) 0 = r) ∧ INV b υ D := by
  intro σ D hI
  have hI0 := hI
  obtain ⟨hc, hw, G, hm⟩ := hI
  unfold F_L_row
  by_cases c : ∃ p j, p < dN D ∧ j < (dP D p).2.1 ∧ q = nI p ∧ y = nI j
  · obtain ⟨p, j, hp, hj, rfl, rfl⟩ := c
    obtain ⟨v, v1, v2⟩ := cp_row_t hc G hp hj
    rw [v1, Option.bind_some, oc_s, l83, if_pos (by decide), nmE]
    have hI2 := inv_out (v := v) hI0
    obtain ⟨u, u1, u2⟩ := mp_row_t hI2.2.2.2 G hp hj
    refine ⟨_, _, u, _, rfl, u1, by rw [stI_1, up2_self], fun _ => ?_, inv0 hI2⟩
    have : v = u := tb_ext (fun i _ => by rw [v2, u2])
    rw [stI_2]
    show up2 σ.2 (b + 83) 0 v (b + 83) 0 = u
    rw [up2_self, this]
  · obtain ⟨v, v1⟩ := mp_row_f hm G c
    rw [cp_row_f hc G c, Option.bind_some, oc_n]
    exact ⟨_, _, v, _, rfl, v1, by rw [stI_1, up2_self], fun h => absurd h (by decide), inv0 (inv0 hI0)⟩
theorem ag_told {b : Nat} (x : Int32) : AG3 b (fun σ => F_L_told (ΛE b) σ b x (b + 83)) (fun σ => F_X5_told (ΛE b) σ (b + 65) x) Int32.toInt64 := by
  intro σ D hI
  have hI0 := hI
  obtain ⟨hc, hw, G, hm⟩ := hI
  simp only
  unfold F_L_told
  by_cases c : ∃ i, i < dM D ∧ x = nI i
  · obtain ⟨i, hi, rfl⟩ := c
    rw [cp_told_t hc G hi, Option.bind_some, oc_s, l83, if_pos (by decide), nmE]
    have hI2 := inv_out (v := (nI (dV D i)).toInt64) hI0
    refine ⟨_, _, _, _, rfl, mp_told_t hI2.2.2.2 G hi, by rw [stI_1, up2_self], fun _ => ?_, inv0 hI2⟩
    rw [stI_2]
    show up2 σ.2 (b + 83) 0 _ (b + 83) 0 = _
    rw [up2_self]
  · obtain ⟨v, v1⟩ := mp_told_f hm G c
    rw [cp_told_f hc G c, Option.bind_some, oc_n]
    exact ⟨_, _, v, _, rfl, v1, by rw [stI_1, up2_self], fun h => absurd h (by decide), inv0 (inv0 hI0)⟩
theorem ag_listed {b : Nat} (x z : Int32) : AG3 b (fun σ => F_L_listed (ΛE b) σ b x z (b + 83)) (fun σ => F_X5_listed (ΛE b) σ (b + 65) x z) Int32.toInt64 := by
  intro σ D hI
  have hI0 := hI
  obtain ⟨hc, hw, G, hm⟩ := hI
  simp only
  unfold F_L_listed
  by_cases c : (∃ i, i < inkP (dL D) ∧ x = nI i) ∧ (z = 0 ∨ z = 1)
  · obtain ⟨⟨i, hi, rfl⟩, hz⟩ := c
    obtain ⟨u, v, h1, h2, h3, h4⟩ := cp_listed_t hc G hi
    rcases hz with rfl | rfl
    · rw [show F_X4_listed (ΛE b) σ b (nI i) 0 = some (some (nI u)) from h3, Option.bind_some, oc_s, l83, if_pos (by decide), nmE]
      have hI2 := inv_out (v := (nI u).toInt64) hI0
      refine ⟨_, _, _, _, rfl, (mp_listed_t hI2.2.2.2 G hi h1 h2).1, by rw [stI_1, up2_self], fun _ => ?_, inv0 hI2⟩
      rw [stI_2]
      show up2 σ.2 (b + 83) 0 _ (b + 83) 0 = _
      rw [up2_self]
    · rw [show F_X4_listed (ΛE b) σ b (nI i) 1 = some (some (nI v)) from h4, Option.bind_some, oc_s, l83, if_pos (by decide), nmE]
      have hI2 := inv_out (v := (nI v).toInt64) hI0
      refine ⟨_, _, _, _, rfl, (mp_listed_t hI2.2.2.2 G hi h1 h2).2, by rw [stI_1, up2_self], fun _ => ?_, inv0 hI2⟩
      rw [stI_2]
      show up2 σ.2 (b + 83) 0 _ (b + 83) 0 = _
      rw [up2_self]
  · obtain ⟨v, v1⟩ := mp_listed_f hm G c
    rw [cp_listed_f hc G c, Option.bind_some, oc_n]
    exact ⟨_, _, v, _, rfl, v1, by rw [stI_1, up2_self], fun h => absurd h (by decide), inv0 (inv0 hI0)⟩
