/-! BOTH SIDES TOGETHER, going on -/
theorem ag_specks {b : Nat} (q x z : Int32) : AG1 b (fun σ => F_X4_specks (ΛE b) σ b q x z) (fun σ => F_X5_specks (ΛE b) σ (b + 65) q x z) := by
  intro σ D hI
  obtain ⟨hc, hw, G, hm⟩ := hI
  by_cases c : (∃ p, p < dN D ∧ q = nI p) ∧ ∃ k d, 1 ≤ k ∧ k ≤ 100 ∧ d ≤ 20 ∧ x = nI k ∧ z = nI d
  · obtain ⟨⟨p, hp, rfl⟩, k, d, k1, k2, hd, rfl, rfl⟩ := c
    obtain ⟨τ, t1, t2, t3, t4⟩ := cp_specks_t hc hw G hp k1 k2 hd
    obtain ⟨υ, u1, u2, u3⟩ := mp_specks_t (MR_fr hm t4) G hp k1 k2 hd
    exact ⟨_, τ, υ, _, t1, u1, inv_of t2 t3 G u2 u3⟩
  · exact ⟨_, σ, _, D, cp_specks_f hc G c, mp_specks_f hm G c, inv0 ⟨hc, hw, G, hm⟩⟩
theorem GD_tk {D : Desk} {L : PG} {p : Nat} (G : GD D) (hL : okL L) (hp : p < dN D) : GD (setP (pushD (setL D L) p 0) p (minusP (dP D p) L)) := GD_page (GD_push (GD_list G hL) hp (Or.inl rfl) (by omega)) (minus_ok (G.2.1 p hp))
theorem ag_take {b : Nat} (q x z : Int32) : AG1 b (fun σ => F_X4_take (ΛE b) σ b q x z) (fun σ => F_X5_take (ΛE b) σ (b + 65) q x z) := by
  intro σ D hI
  obtain ⟨hc, hw, G, hm⟩ := hI
  by_cases c : (∃ p, p < dN D ∧ q = nI p) ∧ ∃ k d, 1 ≤ k ∧ k ≤ 100 ∧ d ≤ 20 ∧ x = nI k ∧ z = nI d
  · obtain ⟨⟨p, hp, rfl⟩, k, d, k1, k2, hd, rfl, rfl⟩ := c
    have okL1 : okL (spkP (dP D p) k d) := spk_in (okP_L (G.2.1 p hp))
    obtain ⟨τ, t1, t2, t3, t4⟩ := cp_take_t hc hw G hp k1 k2 hd
    obtain ⟨υ, u1, u2, u3⟩ := mp_take_t (MR_fr hm t4) G hp k1 k2 hd
    generalize spkP (dP D p) k d = L at *
    exact ⟨_, τ, υ, _, t1, u1, inv_of t2 t3 (GD_tk G okL1 hp) u2 u3⟩
  · exact ⟨_, σ, _, D, cp_take_f hc G c, mp_take_f hm G c, inv0 ⟨hc, hw, G, hm⟩⟩
theorem ag_shadow {b : Nat} (q x : Int32) : AG1 b (fun σ => F_X4_shadow (ΛE b) σ b q x) (fun σ => F_X5_shadow (ΛE b) σ (b + 65) q x) := by
  intro σ D hI
  obtain ⟨hc, hw, G, hm⟩ := hI
  by_cases c : (∃ p, p < dN D ∧ q = nI p) ∧ ∃ k, 1 ≤ k ∧ k ≤ 100 ∧ x = nI k
  · obtain ⟨⟨p, hp, rfl⟩, k, k1, k2, rfl⟩ := c
    obtain ⟨τ, t1, t2, t3⟩ := cp_shadow_t hc G hp k1 k2
    obtain ⟨υ, u1, u2, u3⟩ := mp_shadow_t (MR_fr hm (FrR_C t3)) G hp k1 k2
    exact ⟨_, τ, υ, _, t1, u1, inv_of t2 (CW_C t3 hw) (GD_tk G (sha_ok (G.2.1 p hp)) hp) u2 u3⟩
  · exact ⟨_, σ, _, D, cp_shadow_f hc G c, mp_shadow_f hm G c, inv0 ⟨hc, hw, G, hm⟩⟩
theorem ag_box {b : Nat} (q x : Int32) : AG0 b (fun σ => F_X4_box (ΛE b) σ b q x) (fun σ => F_X5_box (ΛE b) σ (b + 65) q x) := by
  intro σ D hI
  obtain ⟨hc, hw, G, hm⟩ := hI
  by_cases c : ∃ p w, p < dN D ∧ hasP (dP D p) ∧ w < 4 ∧ q = nI p ∧ x = nI w
  · obtain ⟨p, w, hp, hi, hq, rfl, rfl⟩ := c
    exact ⟨_, _, D, cp_box_t hc G hp hi hq, mp_box_t hm G hp hi hq, inv0 ⟨hc, hw, G, hm⟩⟩
  · exact ⟨_, _, D, cp_box_f hc G c, mp_box_f hm G c, inv0 ⟨hc, hw, G, hm⟩⟩
theorem ag_cut {b : Nat} (q x : Int32) : AG1 b (fun σ => F_X4_cut (ΛE b) σ b q x) (fun σ => F_X5_cut (ΛE b) σ (b + 65) q x) := by
  intro σ D hI
  obtain ⟨hc, hw, G, hm⟩ := hI
  by_cases c : ∃ p m, p < dN D ∧ hasP (dP D p) ∧ m ≤ 20 ∧ (cutP (dP D p) m).1 ≤ 64 ∧ (cutP (dP D p) m).2.1 ≤ 64 ∧ q = nI p ∧ x = nI m
  · obtain ⟨p, m, hp, hi, hm2, h1, h2, rfl, rfl⟩ := c
    obtain ⟨τ, t1, t2, t3⟩ := cp_cut_t hc G hp hi hm2 h1 h2
    obtain ⟨υ, u1, u2, u3⟩ := mp_cut_t (MR_fr hm (FrR_C t3)) G hp hi hm2 h1 h2
    exact ⟨_, τ, υ, _, t1, u1, inv_of t2 (CW_C t3 hw) (GD_page (GD_push G hp (Or.inl rfl) (by omega)) (cut_ok (G.2.1 p hp) hi h1 h2)) u2 u3⟩
  · exact ⟨_, σ, _, D, cp_cut_f hc G c, mp_cut_f hm G c, inv0 ⟨hc, hw, G, hm⟩⟩
theorem ag_spans {b : Nat} (q x z : Int32) : AG1 b (fun σ => F_X4_spans (ΛE b) σ b q x z) (fun σ => F_X5_spans (ΛE b) σ (b + 65) q x z) := by
  intro σ D hI
  obtain ⟨hc, hw, G, hm⟩ := hI
  by_cases c : (∃ p, p < dN D ∧ q = nI p) ∧ (∃ w, w ≤ 1 ∧ x = nI w) ∧ ∃ g, 1 ≤ g ∧ g ≤ 64 ∧ z = nI g
  · obtain ⟨⟨p, hp, rfl⟩, ⟨w, hq, rfl⟩, g, g1, g2, rfl⟩ := c
    obtain ⟨τ, t1, t2, t3⟩ := cp_spans_t hc G hp hq g1 g2
    obtain ⟨υ, u1, u2, u3⟩ := mp_spans_t (MR_fr hm (FrR_C t3)) G hp hq g1 g2
    exact ⟨_, τ, υ, _, t1, u1, inv_of t2 (CW_C t3 hw) (GD_vals G (spn_m g1 (Nat.le_refl 64)) (spn_ok g1 64).2.2) u2 u3⟩
  · exact ⟨_, σ, _, D, cp_spans_f hc G c, mp_spans_f hm G c, inv0 ⟨hc, hw, G, hm⟩⟩
theorem ag_part {b : Nat} (q x z e : Int32) : AG1 b (fun σ => F_X4_part (ΛE b) σ b q x z e) (fun σ => F_X5_part (ΛE b) σ (b + 65) q x z e) := by
  intro σ D hI
  obtain ⟨hc, hw, G, hm⟩ := hI
  by_cases c : ∃ p la lb, p < dN D ∧ 1 ≤ la ∧ la ≤ lb ∧ lb < (dP D p).1 ∧ 0 ≤ e ∧ dN D < 8 ∧ nI (fb_ct (fun y => (dP D p).2.2 (seamP (dP D p) la lb) y) (dP D p).2.1) ≤ e ∧ q = nI p ∧ x = nI la ∧ z = nI lb
  · obtain ⟨p, la, lb, hp, h1, h2, h3, h4, h5, h6, rfl, rfl, rfl⟩ := c
    have bd := fnt_bd (fun x => fb_ct (fun y => (dP D p).2.2 x y) (dP D p).2.1) la lb (lb - la)
    rw [show fnt (fun x => fb_ct (fun y => (dP D p).2.2 x y) (dP D p).2.1) la lb (lb - la) = seamP (dP D p) la lb from rfl] at bd
    obtain ⟨τ, t1, t2, t3⟩ := cp_part_t hc G hp h1 h2 h3 h4 h5 h6
    obtain ⟨υ, u1, u2, u3⟩ := mp_part_t (MR_fr hm (FrR_C t3)) G hp h1 h2 h3 h4 h5 h6
    exact ⟨_, τ, υ, _, t1, u1, inv_of t2 (CW_C t3 hw) (GD_part G hp h5 (by omega) (by omega)) u2 u3⟩
  · exact ⟨_, σ, _, D, cp_part_f hc G c, mp_part_f hm G c, inv0 ⟨hc, hw, G, hm⟩⟩
theorem ag_back {b : Nat} : AG1 b (fun σ => F_X4_back (ΛE b) σ b) (fun σ => F_X5_back (ΛE b) σ (b + 65)) := by
  intro σ D hI
  obtain ⟨hc, hw, G, hm⟩ := hI
  by_cases c : 0 < dK D
  · obtain ⟨τ, t1, t2, t3⟩ := cp_back_t hc G c
    obtain ⟨υ, u1, u2, u3⟩ := mp_back_t (MR_fr hm (FrR_C t3)) G c
    exact ⟨_, τ, υ, _, t1, u1, inv_of t2 (CW_C t3 hw) (GD_back G c) u2 u3⟩
  · exact ⟨_, σ, _, D, cp_back_n hc (by omega), mp_back_n hm (by omega), inv0 ⟨hc, hw, G, hm⟩⟩
