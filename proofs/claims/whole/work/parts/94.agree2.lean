/-! BOTH SIDES TOGETHER, going on -/
theorem ag_of {b : Nat} (q x : Int32) : AG1 b (fun σ => F_X4_of (ΛE b) σ b q x) (fun σ => F_X5_of (ΛE b) σ (b + 65) q x) := by
  intro σ D hI
  obtain ⟨hc, hw, G, hm⟩ := hI
  by_cases c : (∃ p, p < dN D ∧ q = nI p) ∧ ∃ w, w ≤ 6 ∧ x = nI w
  · obtain ⟨⟨p, hp, rfl⟩, w, hq, rfl⟩ := c
    obtain ⟨τ, t1, t2, t3, t4⟩ := cp_of_t hc hw G hp hq
    obtain ⟨υ, u1, u2, u3⟩ := mp_of_t (MR_fr hm t4) G hp hq
    exact ⟨_, τ, υ, _, t1, u1, inv_of t2 t3 G u2 u3⟩
  · exact ⟨_, σ, _, D, cp_of_f hc G c, mp_of_f hm G c, inv0 ⟨hc, hw, G, hm⟩⟩
theorem ag_count {b : Nat} (x : Int32) : AG0 b (fun σ => F_X4_count (ΛE b) σ b x) (fun σ => F_X5_count (ΛE b) σ (b + 65) x) := by
  intro σ D hI
  obtain ⟨hc, hw, G, hm⟩ := hI
  exact ⟨_, _, D, cp_count hc G, mp_count hm, inv0 ⟨hc, hw, G, hm⟩⟩
theorem ag_unlike {b : Nat} (x z : Int32) : AG0 b (fun σ => F_X4_unlike (ΛE b) σ b x z) (fun σ => F_X5_unlike (ΛE b) σ (b + 65) x z) := by
  intro σ D hI
  obtain ⟨hc, hw, G, hm⟩ := hI
  by_cases c : (∃ p, p < dN D ∧ x = nI p) ∧ (∃ p, p < dN D ∧ z = nI p)
  · obtain ⟨⟨p, hp, rfl⟩, q, hq, rfl⟩ := c
    by_cases c2 : (dP D p).1 = (dP D q).1 ∧ (dP D p).2.1 = (dP D q).2.1
    · exact ⟨_, _, D, cp_unlike_t hc G hp hq c2.1 c2.2, mp_unlike_t hm G hp hq c2.1 c2.2, inv0 ⟨hc, hw, G, hm⟩⟩
    · exact ⟨_, _, D, cp_unlike_n hc G hp hq c2, mp_unlike_n hm G hp hq c2, inv0 ⟨hc, hw, G, hm⟩⟩
  · exact ⟨_, _, D, cp_unlike_f hc G c, mp_unlike_f hm G c, inv0 ⟨hc, hw, G, hm⟩⟩
theorem ag_across {b : Nat} (q x : Int32) : AG1 b (fun σ => F_X4_across (ΛE b) σ b q x) (fun σ => F_X5_across (ΛE b) σ (b + 65) q x) := by
  intro σ D hI
  obtain ⟨hc, hw, G, hm⟩ := hI
  by_cases c : ∃ p s, p < dN D ∧ okS s ∧ (dP D p).1 + spr s (dP D p).2.1 ≤ 64 ∧ q = nI p ∧ x = iI s
  · obtain ⟨p, s, hp, hs, hq, rfl, rfl⟩ := c
    obtain ⟨τ, t1, t2, t3⟩ := cp_across_t hc G hp hs hq
    obtain ⟨υ, u1, u2, u3⟩ := mp_across_t (MR_fr hm (FrR_C t3)) G hp hs hq
    exact ⟨_, τ, υ, _, t1, u1, inv_of t2 (CW_C t3 hw) (GD_page (GD_push G hp (Or.inl rfl) (by omega)) (across_ok (G.2.1 p hp) hs hq)) u2 u3⟩
  · exact ⟨_, σ, _, D, cp_across_f hc G c, mp_across_f hm G c, inv0 ⟨hc, hw, G, hm⟩⟩
theorem ag_upright {b : Nat} (q x : Int32) : AG1 b (fun σ => F_X4_upright (ΛE b) σ b q x) (fun σ => F_X5_upright (ΛE b) σ (b + 65) q x) := by
  intro σ D hI
  obtain ⟨hc, hw, G, hm⟩ := hI
  by_cases c : ∃ p s, p < dN D ∧ okS s ∧ (dP D p).2.1 + spr s (dP D p).1 ≤ 64 ∧ q = nI p ∧ x = iI s
  · obtain ⟨p, s, hp, hs, hq, rfl, rfl⟩ := c
    obtain ⟨τ, t1, t2, t3⟩ := cp_upright_t hc G hp hs hq
    obtain ⟨υ, u1, u2, u3⟩ := mp_upright_t (MR_fr hm (FrR_C t3)) G hp hs hq
    exact ⟨_, τ, υ, _, t1, u1, inv_of t2 (CW_C t3 hw) (GD_page (GD_push G hp (Or.inl rfl) (by omega)) (upright_ok (G.2.1 p hp) hs hq)) u2 u3⟩
  · exact ⟨_, σ, _, D, cp_upright_f hc G c, mp_upright_f hm G c, inv0 ⟨hc, hw, G, hm⟩⟩
theorem ag_turn {b : Nat} (q x y : Int32) : AG1 b (fun σ => F_X4_turn (ΛE b) σ b q x y) (fun σ => F_X5_turn (ΛE b) σ (b + 65) q x y) := by
  intro σ D hI
  obtain ⟨hc, hw, G, hm⟩ := hI
  by_cases c : ∃ p s u, p < dN D ∧ okS s ∧ okS u ∧ canP (dP D p) s u ∧ q = nI p ∧ x = iI s ∧ y = iI u
  · obtain ⟨p, s, u, hp, hs, hu, hca, rfl, rfl, rfl⟩ := c
    obtain ⟨τ, t1, t2, t3⟩ := cp_turn_t hc G hp hs hu hca
    obtain ⟨υ, u1, u2, u3⟩ := mp_turn_t (MR_fr hm (FrR_C t3)) G hp hs hu hca
    exact ⟨_, τ, υ, _, t1, u1, inv_of t2 (CW_C t3 hw) (GD_page (GD_push G hp (Or.inl rfl) (by omega)) (turn_ok (G.2.1 p hp) hs hu hca)) u2 u3⟩
  · exact ⟨_, σ, _, D, cp_turn_f hc G c, mp_turn_f hm G c, inv0 ⟨hc, hw, G, hm⟩⟩
theorem ag_sharp {b : Nat} (q x : Int32) : AG1 b (fun σ => F_X4_sharp (ΛE b) σ b q x) (fun σ => F_X5_sharp (ΛE b) σ (b + 65) q x) := by
  intro σ D hI
  obtain ⟨hc, hw, G, hm⟩ := hI
  by_cases c : ∃ p s, p < dN D ∧ okT s ∧ q = nI p ∧ x = iI s
  · obtain ⟨p, s, hp, hs, rfl, rfl⟩ := c
    obtain ⟨τ, t1, t2, t3⟩ := cp_sharp_t hc G hp hs
    obtain ⟨υ, u1, u2, u3⟩ := mp_sharp_t (MR_fr hm (FrR_C t3)) G hp hs
    exact ⟨_, τ, υ, _, t1, u1, inv_of t2 (CW_C t3 hw) G u2 u3⟩
  · exact ⟨_, σ, _, D, cp_sharp_f hc G c, mp_sharp_f hm G c, inv0 ⟨hc, hw, G, hm⟩⟩
theorem ag_angle {b : Nat} (q : Int32) : AG1 b (fun σ => F_X4_angle (ΛE b) σ b q) (fun σ => F_X5_angle (ΛE b) σ (b + 65) q) := by
  intro σ D hI
  obtain ⟨hc, hw, G, hm⟩ := hI
  by_cases c : ∃ p, p < dN D ∧ q = nI p
  · obtain ⟨p, hp, rfl⟩ := c
    by_cases c2 : 2 ≤ inR (dP D p)
    · obtain ⟨τ, t1, t2, t3⟩ := cp_angle_t hc G hp c2
      obtain ⟨υ, u1, u2, u3⟩ := mp_angle_t (MR_fr hm (FrR_C t3)) G hp c2
      exact ⟨_, τ, υ, _, t1, u1, inv_of t2 (CW_C t3 hw) G u2 u3⟩
    · exact ⟨_, σ, _, D, cp_angle_n hc G hp c2, mp_angle_n hm G hp c2, inv0 ⟨hc, hw, G, hm⟩⟩
  · exact ⟨_, σ, _, D, cp_angle_f hc G c, mp_angle_f hm G c, inv0 ⟨hc, hw, G, hm⟩⟩
theorem ag_bend {b : Nat} (q : Int32) : AG1 b (fun σ => F_X4_bend (ΛE b) σ b q) (fun σ => F_X5_bend (ΛE b) σ (b + 65) q) := by
  intro σ D hI
  obtain ⟨hc, hw, G, hm⟩ := hI
  by_cases c : ∃ p, p < dN D ∧ q = nI p
  · obtain ⟨p, hp, rfl⟩ := c
    obtain ⟨τ, t1, t2, t3⟩ := cp_bend_t hc G hp
    obtain ⟨υ, u1, u2, u3⟩ := mp_bend_t (MR_fr hm (FrR_C t3)) G hp
    exact ⟨_, τ, υ, _, t1, u1, inv_of t2 (CW_C t3 hw) (GD_page (GD_push G hp (Or.inl rfl) (by omega)) (bend_ok (G.2.1 p hp))) u2 u3⟩
  · exact ⟨_, σ, _, D, cp_bend_f hc G c, mp_bend_f hm G c, inv0 ⟨hc, hw, G, hm⟩⟩
theorem ag_foot {b : Nat} (q x : Int32) : AG0 b (fun σ => F_X4_foot (ΛE b) σ b q x) (fun σ => F_X5_foot (ΛE b) σ (b + 65) q x) := by
  intro σ D hI
  obtain ⟨hc, hw, G, hm⟩ := hI
  by_cases c : ∃ p s, p < dN D ∧ s < ((dP D p).1 + 7) / 8 ∧ q = nI p ∧ x = nI s
  · obtain ⟨p, s, hp, hs, rfl, rfl⟩ := c
    exact ⟨_, _, D, cp_foot_t hc G hp hs, mp_foot_t hm G hp hs, inv0 ⟨hc, hw, G, hm⟩⟩
  · exact ⟨_, _, D, cp_foot_f hc G c, mp_foot_f hm G c, inv0 ⟨hc, hw, G, hm⟩⟩
