/-! BOTH SIDES TOGETHER: each call answers alike and the desk goes on -/
def INV (b : Nat) (σ : Sto) (D : Desk) : Prop := CR b σ D ∧ CW b σ ∧ GD D ∧ MR b σ D
theorem MR_fr {b : Nat} {σ τ : Sto} {D : Desk} (h : MR b σ D) (hf : FrR b σ τ) : MR b τ D := by
  have f : ∀ c, b + 65 ≤ c → c ≤ b + 82 → τ.1 c = σ.1 c := fun c h1 h2 => (hf c h1 (by omega)).1
  obtain ⟨a1, a2, a3, ⟨nw, n1, n2, n3⟩, a5, a6⟩ := h
  refine ⟨?_, fun q hq => ?_, ?_, ⟨nw, n1, ?_, fun i hi => MC_fr (n3 i hi) (fun e e1 e2 => f e (by omega) (by omega))⟩, ⟨?_, fun x y q => ?_⟩, ⟨?_, fun j hj => ?_⟩⟩
  · rw [f _ (by omega) (by omega)]; exact a1
  · have := a2 q hq
    exact ⟨by rw [f _ (by omega) (by omega)]; exact this.1, by rw [f _ (by omega) (by omega)]; exact this.2.1, AR_cong this.2.2 (fun k _ => by rw [f _ (by omega) (by omega)])⟩
  · rw [f _ (by omega) (by omega)]; exact a3
  · rw [f _ (by omega) (by omega)]; exact n2
  · rw [f _ (by omega) (by omega)]; exact a5.1
  · rw [f _ (by omega) (by omega), f _ (by omega) (by omega)]; exact a5.2 x y q
  · rw [f _ (by omega) (by omega)]; exact a6.1
  · rw [f _ (by omega) (by omega)]; exact a6.2 j hj
theorem CR_KF {b : Nat} {σ τ : Sto} {D : Desk} (h : CR b σ D) (G : GD D) (hf : KF b σ τ) : CR b τ D := CR_same h G.1 (fun c hc => ⟨hf.2 c (by omega), by rw [hf.1]⟩)
theorem CW_KF {b : Nat} {σ τ : Sto} (h : CW b σ) (hf : KF b σ τ) : CW b τ := ⟨fun y hy => by rw [hf.1]; exact h.1 y hy, by rw [hf.1]; exact h.2⟩
theorem inv_of {b : Nat} {τ υ : Sto} {D : Desk} (hc : CR b τ D) (hw : CW b τ) (G : GD D) (hm : MR b υ D) (hk : KF b τ υ) : INV b υ D := ⟨CR_KF hc G hk, CW_KF hw hk, G, hm⟩
theorem inv0 {b : Nat} {v : Int32} {σ : Sto} {D : Desk} (h : INV b σ D) : INV b (stI σ (b + 65) 0 v) D := by
  obtain ⟨hc, hw, G, hm⟩ := h
  obtain ⟨m1, k1, -⟩ := mr0 (v := v) hm
  exact inv_of hc hw G m1 k1
/-- both answer alike (the class may write) -/
def AG1 (b : Nat) (f4 f5 : Sto → Option (Int32 × Sto)) : Prop := ∀ σ D, INV b σ D → ∃ r τ υ D', f4 σ = some (r, τ) ∧ f5 τ = some (r, υ) ∧ INV b υ D'
/-- both answer alike (the class only reads) -/
def AG0 (b : Nat) (f4 : Sto → Option Int32) (f5 : Sto → Option (Int32 × Sto)) : Prop := ∀ σ D, INV b σ D → ∃ r υ D', f4 σ = some r ∧ f5 σ = some (r, υ) ∧ INV b υ D'
theorem no_okP {w h : Nat} (h1 : 1 ≤ w) (h2 : w ≤ 64) (h3 : 1 ≤ h) (h4 : h ≤ 64) : okP (noP w h) := ⟨h1, h2, h3, h4, fun _ _ q => (Bool.false_ne_true q).elim⟩
theorem ag_page {b : Nat} (w h : Int32) : AG1 b (fun σ => F_X4_page (ΛE b) σ b w h) (fun σ => F_X5_page (ΛE b) σ (b + 65) w h) := by
  intro σ D hI
  obtain ⟨hc, hw, G, hm⟩ := hI
  by_cases c : (∃ i, 1 ≤ i ∧ i ≤ 64 ∧ w = nI i) ∧ (∃ j, 1 ≤ j ∧ j ≤ 64 ∧ h = nI j) ∧ dN D < 8
  · obtain ⟨⟨i, i1, i2, rfl⟩, ⟨j, j1, j2, rfl⟩, hN⟩ := c
    obtain ⟨τ, t1, t2, t3⟩ := cp_page_t hc G i1 i2 j1 j2 hN
    obtain ⟨υ, u1, u2, u3⟩ := mp_page_t (MR_fr hm (FrR_C t3)) G i1 i2 j1 j2 hN
    exact ⟨_, τ, υ, _, t1, u1, inv_of t2 (CW_C t3 hw) (GD_more G hN (no_okP i1 i2 j1 j2)) u2 u3⟩
  · exact ⟨_, σ, _, D, cp_page_f hc G c, mp_page_f hm G c, inv0 ⟨hc, hw, G, hm⟩⟩
theorem ag_copy {b : Nat} (x : Int32) : AG1 b (fun σ => F_X4_copy (ΛE b) σ b x) (fun σ => F_X5_copy (ΛE b) σ (b + 65) x) := by
  intro σ D hI
  obtain ⟨hc, hw, G, hm⟩ := hI
  by_cases c : (∃ p, p < dN D ∧ x = nI p) ∧ dN D < 8
  · obtain ⟨⟨p, hp, rfl⟩, hN⟩ := c
    obtain ⟨τ, t1, t2, t3⟩ := cp_copy_t hc G hp hN
    obtain ⟨υ, u1, u2, u3⟩ := mp_copy_t (MR_fr hm (FrR_C t3)) G hp hN
    exact ⟨_, τ, υ, _, t1, u1, inv_of t2 (CW_C t3 hw) (GD_more G hN (G.2.1 p hp)) u2 u3⟩
  · exact ⟨_, σ, _, D, cp_copy_f hc G c, mp_copy_f hm G c, inv0 ⟨hc, hw, G, hm⟩⟩
theorem setPt_ok {P : PG} {x y : Nat} {v : Bool} (h : okP P) (hx : x < P.1) (hy : y < P.2.1) : okP (setPt P x y v) := by
  refine ⟨h.1, h.2.1, h.2.2.1, h.2.2.2.1, fun a c q => ?_⟩
  have q : (if a = x ∧ c = y then v else P.2.2 a c) = true := q
  show a < P.1 ∧ c < P.2.1
  by_cases e : a = x ∧ c = y
  · omega
  · rw [if_neg e] at q; exact h.2.2.2.2 a c q
theorem ag_set {b : Nat} (q x y v : Int32) (hv : v = 0 ∨ v = 1) : AG1 b (fun σ => F_X4_set (ΛE b) σ b q x y v) (fun σ => F_X5_set (ΛE b) σ (b + 65) q x y v) := by
  intro σ D hI
  obtain ⟨hc, hw, G, hm⟩ := hI
  by_cases c : ∃ p i j, p < dN D ∧ i < (dP D p).1 ∧ j < (dP D p).2.1 ∧ q = nI p ∧ x = nI i ∧ y = nI j
  · obtain ⟨p, i, j, hp, hi, hj, rfl, rfl, rfl⟩ := c
    obtain ⟨τ, t1, t2, t3⟩ := cp_set_t hc G hp hi hj
    obtain ⟨υ, u1, u2, u3⟩ := mp_set_t (MR_fr hm (FrR_C t3)) G hp hi hj hv
    exact ⟨_, τ, υ, _, t1, u1, inv_of t2 (CW_C t3 hw) (GD_page (GD_push G hp (Or.inl rfl) (by omega)) (setPt_ok (G.2.1 p hp) hi hj)) u2 u3⟩
  · exact ⟨_, σ, _, D, cp_set_f hc G c, mp_set_f hm G c, inv0 ⟨hc, hw, G, hm⟩⟩
theorem ag_line {b : Nat} (q y : Int32) (v : Int64) : AG1 b (fun σ => F_X4_line (ΛE b) σ b q y v) (fun σ => F_X5_line (ΛE b) σ (b + 65) q y v) := by
  intro σ D hI
  obtain ⟨hc, hw, G, hm⟩ := hI
  by_cases c : ∃ p j, p < dN D ∧ j < (dP D p).2.1 ∧ q = nI p ∧ y = nI j
  · obtain ⟨p, j, hp, hj, rfl, rfl⟩ := c
    obtain ⟨τ, t1, t2, t3⟩ := cp_line_t hc G hp hj
    obtain ⟨υ, u1, u2, u3⟩ := mp_line_t (MR_fr hm (FrR_C t3)) G hp hj
    exact ⟨_, τ, υ, _, t1, u1, inv_of t2 (CW_C t3 hw) (GD_page (GD_push G hp (Or.inl rfl) (by omega)) (line_ok (G.2.1 p hp) hj)) u2 u3⟩
  · exact ⟨_, σ, _, D, cp_line_f hc G c, mp_line_f hm G c, inv0 ⟨hc, hw, G, hm⟩⟩
theorem ag_lay {b : Nat} (q y k n : Int32) (f st : Int64) : AG1 b (fun σ => F_X4_lay (ΛE b) σ b q y k n f st) (fun σ => F_X5_lay (ΛE b) σ (b + 65) q y k n f st) := by
  intro σ D hI
  obtain ⟨hc, hw, G, hm⟩ := hI
  by_cases c : (∃ p j, p < dN D ∧ j < (dP D p).2.1 ∧ q = nI p ∧ y = nI j) ∧ (∃ kd, kd ≤ 4 ∧ k = nI kd) ∧ n ≤ 64
  · obtain ⟨⟨p, j, hp, hj, rfl, rfl⟩, ⟨kd, kd1, rfl⟩, hn⟩ := c
    by_cases c4 : kd = 4
    · subst c4
      obtain ⟨τ, t1, t2, t3⟩ := cp_lay_a (f := f) (st := st) hc G hp hj hn
      obtain ⟨υ, u1, u2, u3⟩ := mp_lay_a (f := f) (st := st) (MR_fr hm (FrR_C t3)) G hp hj hn
      exact ⟨_, τ, υ, _, t1, u1, inv_of t2 (CW_C t3 hw) (GD_forg G) u2 u3⟩
    · by_cases c5 : n < 0
      · exact ⟨_, σ, _, D, cp_lay_c (kd := kd) (f := f) (st := st) hc G hp hj (by omega) c5, mp_lay_c (kd := kd) (f := f) (st := st) hm G hp hj (by omega) c5, inv0 ⟨hc, hw, G, hm⟩⟩
      · obtain ⟨k, k1, rfl⟩ : ∃ k, k ≤ 64 ∧ n = nI k := by
          rw [lt32, show (0 : Int32).toInt = 0 by decide] at c5
          rw [le32, show (64 : Int32).toInt = 64 by decide] at hn
          exact ⟨n.toInt.toNat, by omega, by rw [eq32, nI_ti (by omega)]; omega⟩
        obtain ⟨τ, t1, t2, t3⟩ := cp_lay_b (kd := kd) (f := f) (st := st) hc G hp hj (by omega) k1
        obtain ⟨υ, u1, u2, u3⟩ := mp_lay_b (kd := kd) (f := f) (st := st) (MR_fr hm (FrR_C t3)) G hp hj (by omega) k1
        exact ⟨_, τ, υ, _, t1, u1, inv_of t2 (CW_C t3 hw) (GD_page (GD_forg G) (layP_ok (G.2.1 p hp) (by omega))) u2 u3⟩
  · exact ⟨_, σ, _, D, cp_lay_f hc G c, mp_lay_f hm G c, inv0 ⟨hc, hw, G, hm⟩⟩
theorem ag_at {b : Nat} (q x y : Int32) : AG0 b (fun σ => F_X4_at (ΛE b) σ b q x y) (fun σ => F_X5_at (ΛE b) σ (b + 65) q x y) := by
  intro σ D hI
  obtain ⟨hc, hw, G, hm⟩ := hI
  by_cases c : ∃ p i j, p < dN D ∧ i < (dP D p).1 ∧ j < (dP D p).2.1 ∧ q = nI p ∧ x = nI i ∧ y = nI j
  · obtain ⟨p, i, j, hp, hi, hj, rfl, rfl, rfl⟩ := c
    exact ⟨_, _, D, cp_at_t hc G hp hi hj, mp_at_t hm G hp hi hj, inv0 ⟨hc, hw, G, hm⟩⟩
  · exact ⟨_, _, D, cp_at_f hc G c, mp_at_f hm G c, inv0 ⟨hc, hw, G, hm⟩⟩
