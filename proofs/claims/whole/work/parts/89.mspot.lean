/-! THE REFERENCE'S SPOTS: labels by a queue -/
/-- the first one of its spot -/
noncomputable def ldr (I : Nat → Nat → Bool) (k : Nat) : Nat := fa_first (fun j => ldB I j && spot I j (k % 64) (k / 64)) 4096
theorem ldr_is {I : Nat → Nat → Bool} {k : Nat} (hk : k < 4096) (hi : pk2 I k = true) : ldB I (ldr I k) = true ∧ spot I (ldr I k) (k % 64) (k / 64) = true ∧ ldr I k ≤ k := by
  obtain ⟨j, j1, j2, j3⟩ := ld_ex hi
  have hle : ldr I k ≤ j := first_lt (p := fun j => ldB I j && spot I j (k % 64) (k / 64)) (n := 4096) (i := j) (by omega) (by rw [j2, j3]; rfl)
  have hy := fa_first_yes (fun j => ldB I j && spot I j (k % 64) (k / 64)) 4096 (by unfold ldr at hle; omega)
  rw [show fa_first (fun j => ldB I j && spot I j (k % 64) (k / 64)) 4096 = ldr I k from rfl, Bool.and_eq_true] at hy
  exact ⟨hy.1, hy.2, by omega⟩
theorem ldr_one {I : Nat → Nat → Bool} {k j : Nat} (hk : k < 4096) (hi : pk2 I k = true) (hj : ldB I j = true) (h : spot I j (k % 64) (k / 64) = true) : ldr I k = j := by
  obtain ⟨a, b, _⟩ := ldr_is hk hi
  exact ld_one a hj b h
theorem lef_ldr {I : Nat → Nat → Bool} {k t : Nat} (hk : k < 4096) (hi : pk2 I k = true) : pk2 (lef I t) k = true ↔ t ≤ ldr I k := by
  obtain ⟨a, b, _⟩ := ldr_is hk hi
  constructor
  · intro h
    rcases Nat.lt_or_ge (ldr I k) t with q | q
    · have := lef_no (u := k % 64) (v := k / 64) h q a
      rw [b] at this; cases this
    · exact q
  · intro h
    refine lef_t hi (fun j hj hl => ?_)
    cases hs : spot I j (k % 64) (k / 64) with
    | false => rfl
    | true => have := ldr_one hk hi hl hs; omega
noncomputable def nmb (I : Nat → Nat → Bool) (j : Nat) : Nat := fb_ct (ldB I) (j + 1)
noncomputable def lab (I : Nat → Nat → Bool) (t k : Nat) : Nat := if pk2 I k = true ∧ ldr I k < t then nmb I (ldr I k) else 0
theorem nmb_pos {I : Nat → Nat → Bool} {j : Nat} (h : ldB I j = true) : 0 < nmb I j := by
  unfold nmb
  rw [fb_ct_succ, h, if_pos rfl]
  omega
theorem nmb_le (I : Nat → Nat → Bool) {j : Nat} (hj : j < 4096) : nmb I j ≤ 4096 := by
  have := fb_ct_le (ldB I) (j + 1)
  unfold nmb
  omega
theorem nmb_nSp (I : Nat → Nat → Bool) {j : Nat} (hj : j < 4096) : nmb I j ≤ nSp I := fb_ct_mono _ (by omega)
theorem nmb_inj {I : Nat → Nat → Bool} {i j : Nat} (hi : ldB I i = true) (hj : ldB I j = true) (e : nmb I i = nmb I j) : i = j := by
  unfold nmb at e
  rw [fb_ct_succ, fb_ct_succ, hi, hj, if_pos rfl] at e
  exact fb_ct_kth_one hi hj (by omega)
/-- the queue: n points of Q, each told; labels s on Q -/
def QuI (b s : Nat) (I A : Nat → Nat → Bool) (sn : Nat → Nat) (sx sy n : Nat) (Q : Nat → Nat → Bool) (σ0 τ : Sto) : Prop :=
  (∀ i, i < n → ∃ j, j < 4096 ∧ τ.1 (b + 77) i = nI j ∧ pk2 Q j = true) ∧ (∀ j, j < 4096 → pk2 Q j = true → ∃ i, i < n ∧ τ.1 (b + 77) i = nI j) ∧ n = fb_ct (pk2 Q) 4096 ∧ (∀ k, k < 4096 → τ.1 (b + 75) k = nI (if pk2 Q k = true then s else sn k)) ∧ (∀ x y, Q x y = true → A x y = true) ∧ (∀ x y, Q x y = true → cn I sx sy x y) ∧ Q sx sy = true ∧ MF b X0 σ0 τ ∧ τ.1 (b + 65) 16 = nI s ∧ τ.1 (b + 76) = σ0.1 (b + 76)
def QuC (b k : Nat) (I Q : Nat → Nat → Bool) (τ : Sto) : Prop := ∀ i, i < k → ∀ j, j < 4096 → τ.1 (b + 77) i = nI j → ∀ u v, ad (j % 64) (j / 64) u v → I u v = true → Q u v = true
theorem QuI_add {b s : Nat} {I A : Nat → Nat → Bool} {sn : Nat → Nat} {sx sy n k : Nat} {Q : Nat → Nat → Bool} {σ0 τ : Sto} {u v : Nat} (h : QuI b s I A sn sx sy n Q σ0 τ) (hc : QuC b k I Q τ) (hkn : k ≤ n) (hu : u < 64) (hv : v < 64) (hq : Q u v = false) (ha : A u v = true) (hcn : cn I sx sy u v) :
    n < 4096 ∧ QuI b s I A sn sx sy (n + 1) (fun a c => if a = u ∧ c = v then true else Q a c) σ0 (stI (stI τ (b + 75) (64 * v + u) (nI s)) (b + 77) n (nI (64 * v + u))) ∧ QuC b k I (fun a c => if a = u ∧ c = v then true else Q a c) (stI (stI τ (b + 75) (64 * v + u) (nI s)) (b + 77) n (nI (64 * v + u))) := by
  obtain ⟨h1, h2, h3, h4, h5, h6, h7, h8, h9, h10⟩ := h
  have mono : ∀ a c, Q a c = true → (if a = u ∧ c = v then true else Q a c) = true := fun a c q => by
    by_cases e : a = u ∧ c = v
    · rw [if_pos e]
    · rw [if_neg e]; exact q
  have ect : fb_ct (pk2 (fun a c => if a = u ∧ c = v then true else Q a c)) 4096 = fb_ct (pk2 Q) 4096 + 1 := by
    have e1 : fb_ct (pk2 (fun a c => if a = u ∧ c = v then true else Q a c)) 4096 = fb_ct (fun i => if i = 64 * v + u then true else pk2 Q i) 4096 := fb_ct_cong (fun i _ => by
      show (if i % 64 = u ∧ i / 64 = v then true else Q (i % 64) (i / 64)) = _
      by_cases e : i = 64 * v + u
      · rw [if_pos (by omega), if_pos e]
      · rw [if_neg (by omega), if_neg e]; rfl)
    have e2 := fb_ct_upd (pk2 Q) true (show 64 * v + u < 4096 by omega)
    rw [pk2_at _ hu, hq] at e2
    simp only [Bool.false_eq_true, if_false, if_true] at e2
    omega
  have hle := fb_ct_le (pk2 (fun a c => if a = u ∧ c = v then true else Q a c)) 4096
  have o77 : ∀ i, i < n → (stI (stI τ (b + 75) (64 * v + u) (nI s)) (b + 77) n (nI (64 * v + u))).1 (b + 77) i = τ.1 (b + 77) i := fun i hi => by
    rw [stI_1, up2_nk _ _ _ (by omega), stI_1, up2_ne _ _ _ (by omega)]
  have n77 : (stI (stI τ (b + 75) (64 * v + u) (nI s)) (b + 77) n (nI (64 * v + u))).1 (b + 77) n = nI (64 * v + u) := by rw [stI_1, up2_self]
  refine ⟨by omega, ⟨fun i hi => ?_, fun j hj q => ?_, by omega, fun k hk => ?_, fun x y q => ?_, fun x y q => ?_, mono _ _ h7, MF_trans h8 (MF_trans (MF_a (Or.inr ⟨by omega, by omega⟩)) (MF_a (Or.inr ⟨by omega, by omega⟩))), ?_, ?_⟩, fun i hi j hj q a c qa qi => ?_⟩
  · by_cases e : i = n
    · subst e
      exact ⟨64 * v + u, by omega, n77, by rw [pk2_at _ hu]; simp⟩
    · obtain ⟨j, j1, j2, j3⟩ := h1 i (by omega)
      exact ⟨j, j1, by rw [o77 i (by omega)]; exact j2, mono _ _ j3⟩
  · by_cases e : j = 64 * v + u
    · exact ⟨n, by omega, by rw [n77, e]⟩
    · have q : (if j % 64 = u ∧ j / 64 = v then true else Q (j % 64) (j / 64)) = true := q
      rw [if_neg (by omega)] at q
      obtain ⟨i, i1, i2⟩ := h2 j hj q
      exact ⟨i, by omega, by rw [o77 i i1]; exact i2⟩
  · rw [stI_1, up2_ne _ _ _ (by omega)]
    show _ = nI (if (if k % 64 = u ∧ k / 64 = v then true else Q (k % 64) (k / 64)) = true then s else sn k)
    by_cases e : k = 64 * v + u
    · rw [e, stI_1, up2_self, if_pos (show (64 * v + u) % 64 = u ∧ (64 * v + u) / 64 = v by omega), if_pos rfl]
    · rw [stI_1, up2_nk _ _ _ e, h4 k hk, if_neg (show ¬ (k % 64 = u ∧ k / 64 = v) by omega)]
      rfl
  · by_cases e : x = u ∧ y = v
    · rw [e.1, e.2]; exact ha
    · simp only [if_neg e] at q; exact h5 x y q
  · by_cases e : x = u ∧ y = v
    · rw [e.1, e.2]; exact hcn
    · simp only [if_neg e] at q; exact h6 x y q
  · rw [stI_1, up2_ne _ _ _ (by omega), stI_1, up2_ne _ _ _ (by omega)]; exact h9
  · rw [stI_1, up2_ne _ _ _ (by omega), stI_1, up2_ne _ _ _ (by omega)]; exact h10
  · rw [o77 i (by omega)] at q
    exact mono _ _ (hc i hi j hj q a c qa qi)
theorem nI_rem (a d : Nat) : nI a - nI (a / d) * nI d = nI (a % d) := by
  have h := Nat.div_add_mod a d
  have h2 := Nat.div_mul_le_self a d
  rw [pk_mul, nI_sb h2]
  refine congrArg nI ?_
  rw [Nat.mul_comm] at h2 ⊢
  omega
/-- the d-th neighbour of x, y, if it is one -/
def nbI (x y d u v : Nat) : Prop := u + 1 = x + d % 3 ∧ v + 1 = y + d / 3
theorem near9 {x y u v : Nat} (h : ad x y u v) : ∃ d, d < 9 ∧ nbI x y d u v := by
  unfold ad at h
  exact ⟨3 * (v + 1 - y) + (u + 1 - x), by omega, by omega, by omega⟩
theorem spread_eq2 {b p t s : Nat} {σ0 σ : Sto} {D : Desk} {sn : Nat → Nat} {sx sy : Nat} {P : PG} (hM : MR b σ0 D) (G : GD D) (hp : p < dN D) (hPP : dP D p = P) (hs0 : 0 < s) (hs1 : s < 5000) (hsn : ∀ k, k < 4096 → sn k < 5000) (hsA : ∀ k, k < 4096 → pk2 P.2.2 k = true → (sn k = 0 ↔ pk2 (lef P.2.2 t) k = true)) (hF : MF b X0 σ0 σ) (h16 : σ.1 (b + 65) 16 = nI s) (h75 : ∀ k, k < 4096 → σ.1 (b + 75) k = nI (sn k)) (h76 : σ.1 (b + 76) = σ0.1 (b + 76)) (hxy : lef P.2.2 t sx sy = true) :
    ∃ τ Q, F_X5_spreads (ΛE b) σ (b + 65) (nI p) (nI sx) (nI sy) = some (nI (fb_ct (pk2 Q) 4096), τ) ∧ Q = (fun x y => cnB P.2.2 sx sy x y) ∧ (∀ k, k < 4096 → τ.1 (b + 75) k = nI (if pk2 Q k = true then s else sn k)) ∧ MF b X0 σ0 τ ∧ τ.1 (b + 65) 16 = nI s ∧ τ.1 (b + 76) = σ0.1 (b + 76) := by
  have g1 := G.1
  have gp := G.2.1 p hp
  rw [hPP] at gp
  have gp0 := gp
  have hp8 : p < 8 := by omega
  unfold okP at gp
  have hxb := gp.2.2.2.2 sx sy (lef_ink hxy)
  unfold F_X5_spreads
  simp (disch := omega) only [r65_15, l77, r65_13, l75, e0, gd_nI, nI_cl, ↓reduceIte, nmE, e64, pk_mul, nI_add, stI_1, up2_self, up2_ne, h16]
  -- the first one
  have q0 : QuI b s P.2.2 (lef P.2.2 t) sn sx sy 1 (fun a c => decide (a = sx ∧ c = sy)) σ0 (stI (stI σ (b + 77) 0 (nI (sy * 64 + sx))) (b + 75) (sy * 64 + sx) (nI s)) := by
    have pkq : ∀ k, pk2 (fun a c => decide (a = sx ∧ c = sy)) k = decide (k = 64 * sy + sx) := fun k => by
      show decide (k % 64 = sx ∧ k / 64 = sy) = _
      rw [decide_eq_decide]
      omega
    refine ⟨fun i hi => ⟨64 * sy + sx, by omega, ?_, by rw [pkq]; simp⟩, fun j hj q => ⟨0, by omega, ?_⟩, ?_, fun k hk => ?_, fun x y q => ?_, fun x y q => ?_, by simp, MF_trans hF (MF_trans (MF_a (Or.inr ⟨by omega, by omega⟩)) (MF_a (Or.inr ⟨by omega, by omega⟩))), ?_, ?_⟩
    · rw [show i = 0 by omega, stI_1, up2_ne _ _ _ (by omega), stI_1, up2_self, show sy * 64 + sx = 64 * sy + sx by omega]
    · rw [pkq, decide_eq_true_eq] at q
      rw [stI_1, up2_ne _ _ _ (by omega), stI_1, up2_self, q, show sy * 64 + sx = 64 * sy + sx by omega]
    · have e1 : fb_ct (pk2 (fun a c => decide (a = sx ∧ c = sy))) 4096 = fb_ct (fun i => if i = 64 * sy + sx then true else false) 4096 := fb_ct_cong (fun i _ => by
        rw [pkq]
        by_cases e : i = 64 * sy + sx
        · rw [if_pos e, decide_eq_true e]
        · rw [if_neg e, decide_eq_false e])
      have e2 := fb_ct_upd (fun _ => false) true (show 64 * sy + sx < 4096 by omega)
      have e3 : fb_ct (fun _ => false) 4096 = 0 := fb_ct_zero.mpr (fun _ _ => rfl)
      simp only [Bool.false_eq_true, if_false, if_true] at e2
      rw [e1]
      omega
    · rw [pkq]
      by_cases e : k = 64 * sy + sx
      · rw [e, stI_1, show sy * 64 + sx = 64 * sy + sx by omega, up2_self, decide_eq_true rfl, if_pos rfl]
      · rw [stI_1, up2_nk _ _ _ (by omega), stI_1, up2_ne _ _ _ (by omega), h75 k hk, decide_eq_false e, if_neg (by decide)]
    · rw [decide_eq_true_eq] at q
      rw [q.1, q.2]; exact hxy
    · rw [decide_eq_true_eq] at q
      rw [q.1, q.2]; exact cn_refl _ _ _
    · rw [stI_1, up2_ne _ _ _ (by omega), stI_1, up2_ne _ _ _ (by omega)]; exact h16
    · rw [stI_1, up2_ne _ _ _ (by omega), stI_1, up2_ne _ _ _ (by omega)]; exact h76
  generalize stI (stI σ (b + 77) 0 (nI (sy * 64 + sx))) (b + 75) (sy * 64 + sx) (nI s) = σ1 at *
  obtain ⟨e, k1, Q, n, k2, k3, k4⟩ := iter_mu (f := bd_X5_spreads_33 (ΛE b) (b + 65) (nI p)) (fun z => ∃ n k Q, z.1 = nI n ∧ z.2.1 = nI k ∧ k ≤ n ∧ QuI b s P.2.2 (lef P.2.2 t) sn sx sy n Q σ0 z.2.2 ∧ QuC b k P.2.2 Q z.2.2) (fun z => 4096 - z.2.1.toNatClampNeg)
    (fun e => ∃ Q n, e.1 = nI n ∧ QuI b s P.2.2 (lef P.2.2 t) sn sx sy n Q σ0 e.2 ∧ QuC b n P.2.2 Q e.2)
    (by
      rintro ⟨zn, zk, τ⟩ ⟨n, k, Q, a1, a2, a3, a4, a5⟩
      simp only at a1 a2 a4 a5
      subst a1 a2
      have hn : n ≤ 4096 := by rw [a4.2.2.1]; exact fb_ct_le _ _
      unfold bd_X5_spreads_33
      simp only
      by_cases c1 : n ≤ k
      · rw [if_pos (nI_le c1 (by omega))]
        have : k = n := by omega
        subst this
        exact Or.inr ⟨_, rfl, Q, k, rfl, a4, a5⟩
      · rw [if_neg (nI_ge (by omega) (by omega))]
        obtain ⟨j, j1, j2, j3⟩ := a4.1 k (by omega)
        simp (disch := omega) only [r65_15, l77, gd_nI, nI_cl, ↓reduceIte, nmE, j2, e64, pk_div, nI_rem]
        have hjb := gp.2.2.2.2 _ _ (lef_ink (a4.2.2.2.2.1 _ _ j3))
        obtain ⟨e, i1, n2, Q2, i2, i3, i4, i5, i6⟩ := iter_for (f := bd_X5_spreads_67 (ΛE b) (b + 65) (nI p) (nI k) (nI (j / 64)) (nI (j % 64))) 9
          (fun d z => z.2.1 = nI d ∧ ∃ n2 Q2, z.1 = nI n2 ∧ n ≤ n2 ∧ QuI b s P.2.2 (lef P.2.2 t) sn sx sy n2 Q2 σ0 z.2.2 ∧ QuC b k P.2.2 Q2 z.2.2 ∧ z.2.2.1 (b + 77) k = nI j ∧ (∀ d2, d2 < d → ∀ u v, nbI (j % 64) (j / 64) d2 u v → P.2.2 u v = true → Q2 u v = true) ∧ pk2 Q2 j = true)
          (fun e => ∃ n2 Q2, e.1 = nI n2 ∧ n ≤ n2 ∧ QuI b s P.2.2 (lef P.2.2 t) sn sx sy n2 Q2 σ0 e.2 ∧ QuC b k P.2.2 Q2 e.2 ∧ e.2.1 (b + 77) k = nI j ∧ (∀ d2, d2 < 9 → ∀ u v, nbI (j % 64) (j / 64) d2 u v → P.2.2 u v = true → Q2 u v = true)) (s := (nI n, nI 0, τ)) (n := FU)
          (by
            rintro d ⟨zn, zd, υ⟩ hd ⟨b1, n2, Q2, b2, b3, b4, b5, b6, b7, b8⟩
            simp only at b1 b2 b4 b5 b6 b7
            subst b1 b2
            have hn2 : n2 ≤ 4096 := by rw [b4.2.2.1]; exact fb_ct_le _ _
            have hM2 := MR_MF hM b4.2.2.2.2.2.2.2.1
            have mu : MP b υ p P := by rw [← hPP]; exact hM2.2.1 p hp
            have skip : (∀ u v, nbI (j % 64) (j / 64) d u v → P.2.2 u v = true → Q2 u v = true) → ∃ tt, jp_X5_spreads_171 (ΛE b) υ (b + 65) (nI p) (nI n2) (nI k) (nI (j / 64)) (nI (j % 64)) (nI d) = some (.inl tt) ∧ tt.2.1 = nI (d + 1) ∧ ∃ n3 Q3, tt.1 = nI n3 ∧ n ≤ n3 ∧ QuI b s P.2.2 (lef P.2.2 t) sn sx sy n3 Q3 σ0 tt.2.2 ∧ QuC b k P.2.2 Q3 tt.2.2 ∧ tt.2.2.1 (b + 77) k = nI j ∧ (∀ d2, d2 < d + 1 → ∀ u v, nbI (j % 64) (j / 64) d2 u v → P.2.2 u v = true → Q3 u v = true) ∧ pk2 Q3 j = true := by
              intro hsk
              unfold jp_X5_spreads_171
              rw [nmE, nI_1]
              refine ⟨_, rfl, rfl, n2, Q2, rfl, b3, b4, b5, b6, fun d2 hd2 u v q1 q2 => ?_, b8⟩
              by_cases ed : d2 = d
              · subst ed; exact hsk u v q1 q2
              · exact b7 d2 (by omega) u v q1 q2
            unfold bd_X5_spreads_67
            simp (disch := omega) only [e9, le_f, ↓reduceIte, nmE, e3, pk_div, nI_rem, nI_add]
            by_cases cz : 1 ≤ j % 64 + d % 3 ∧ 1 ≤ j / 64 + d / 3 ∧ j % 64 + d % 3 - 1 < P.1 ∧ j / 64 + d / 3 - 1 < P.2.1
            · obtain ⟨z1, z2, z3, z4⟩ := cz
              generalize hu : j % 64 + d % 3 - 1 = u at *
              generalize hv : j / 64 + d / 3 - 1 = v at *
              rw [nI_subo (by omega), nI_subo (by omega), hu, hv, show F_X5_isPoint (ΛE b) υ (b + 65) (nI p) (nI u) (nI v) = some (nI 1) from isPoint_t hM2 G hp (by rw [hPP]; exact z3) (by rw [hPP]; exact z4), Option.bind_some, if_neg (by decide), has_eq hp8 mu (by omega) (by omega), Option.bind_some]
              have uniq : ∀ u2 v2, nbI (j % 64) (j / 64) d u2 v2 → u2 = u ∧ v2 = v := fun u2 v2 q => by
                unfold nbI at q
                omega
              have hj64 : ad (j % 64) (j / 64) u v := ⟨by omega, by omega, by omega, by omega⟩
              cases hg : P.2.2 u v with
              | false =>
                rw [if_pos (by decide)]
                exact skip (fun u2 v2 q1 q2 => by
                  obtain ⟨rfl, rfl⟩ := uniq u2 v2 q1
                  rw [hg] at q2; cases q2)
              | true =>
                have hlef : lef P.2.2 t u v = true := lef_cn (b4.2.2.2.2.1 _ _ b8) (cn_one hj64 hg)
                have v75 := b4.2.2.2.1 (64 * v + u) (by omega)
                rw [pk2_at _ (show u < 64 by omega)] at v75
                have hs' := hsn (64 * v + u) (by omega)
                rw [if_neg (by decide), e64, pk_mul, nI_add, show v * 64 + u = 64 * v + u by omega]
                simp (disch := omega) only [r65_13, l75, r65_15, l77, gd_nI, nI_cl, ↓reduceIte, v75, b4.2.2.2.2.2.2.2.2.1]
                cases hq : Q2 u v with
                | true =>
                  simp only [↓reduceIte]
                  rw [if_neg (fun q => by
                    have := (nI_eq (b := 0) (by omega) (by omega)).mp q
                    omega)]
                  exact skip (fun u2 v2 q1 q2 => by
                    obtain ⟨rfl, rfl⟩ := uniq u2 v2 q1
                    exact hq)
                | false =>
                  have hz : sn (64 * v + u) = 0 := (hsA (64 * v + u) (by omega) (by rw [pk2_at _ (show u < 64 by omega)]; exact hg)).mpr (by rw [pk2_at _ (show u < 64 by omega)]; exact hlef)
                  simp only [Bool.false_eq_true, ↓reduceIte]
                  rw [hz, if_pos nI_0]
                  obtain ⟨x1, x2, x3⟩ := QuI_add b4 b5 (by omega) (show u < 64 by omega) (show v < 64 by omega) hq hlef (cn_trans (b4.2.2.2.2.2.1 _ _ b8) (cn_one hj64 hg))
                  rw [if_pos (gd_nI x1 (by omega))]
                  unfold jp_X5_spreads_171
                  simp only [nmE, nI_1]
                  refine ⟨_, rfl, rfl, n2 + 1, _, rfl, by omega, x2, x3, ?_, fun d2 hd2 u2 v2 q1 q2 => ?_, ?_⟩
                  · rw [stI_1, up2_nk _ _ _ (by omega), stI_1, up2_ne _ _ _ (by omega)]; exact b6
                  · by_cases ed : d2 = d
                    · subst ed
                      obtain ⟨rfl, rfl⟩ := uniq u2 v2 q1
                      simp
                    · have := b7 d2 (by omega) u2 v2 q1 q2
                      simp only [this]
                      simp
                  · show (if j % 64 = u ∧ j / 64 = v then true else Q2 (j % 64) (j / 64)) = true
                    rw [show Q2 (j % 64) (j / 64) = true from b8, ite_self]
            · rw [isPoint_f hM2 G, Option.bind_some, if_pos nI_0]
              · refine skip (fun u2 v2 q1 q2 => ?_)
                have := gp.2.2.2.2 u2 v2 q2
                unfold nbI at q1
                omega
              · rintro ⟨p2, i2, j2, pp1, pp2, pp3, pp4, pp5, pp6⟩
                have ep := (nI_eq (by omega) (by omega)).mp pp4
                subst ep
                rw [hPP] at pp2 pp3
                rw [iI_nat, iI_nat, show (1 : Int32) = iI 1 from rfl, iI_sub, iI_eq (by omega) (by omega) (by omega) (by omega)] at pp5 pp6
                omega)
          (by
            rintro ⟨zn, zd, υ⟩ ⟨b1, n2, Q2, b2, b3, b4, b5, b6, b7, b8⟩
            simp only at b1 b2 b4 b5 b6 b7
            subst b1 b2
            unfold bd_X5_spreads_67
            simp (disch := omega) only [e9, le_t, ↓reduceIte]
            exact ⟨_, rfl, n2, Q2, rfl, b3, b4, b5, b6, b7⟩)
          ⟨rfl, n, Q, rfl, Nat.le_refl _, a4, a5, j2, fun d2 hd2 => absurd hd2 (Nat.not_lt_zero d2), j3⟩ (by show _ < 5000; omega)
        have i7 : ∀ d2, d2 < 9 → ∀ u v, nbI (j % 64) (j / 64) d2 u v → P.2.2 u v = true → Q2 u v = true := i6.2
        rw [show ((nI n, (0 : Int32), τ) : Int32 × Int32 × Sto) = (nI n, nI 0, τ) from rfl, i1, Option.bind_some, nI_1]
        have hn2 : n2 ≤ 4096 := by rw [i4.2.2.1]; exact fb_ct_le _ _
        refine Or.inl ⟨_, rfl, ⟨n2, k + 1, Q2, i2, rfl, by omega, i4, fun i hi jj hjj q u v qa qi => ?_⟩, ?_⟩
        · by_cases ei : i = k
          · subst ei
            rw [i6.1] at q
            have := (nI_eq (by omega) (by omega)).mp q
            subst this
            obtain ⟨d, d1, d2⟩ := near9 qa
            exact i7 d d1 u v d2 qi
          · exact i5 i (by omega) jj hjj q u v qa qi
        · show 4096 - (nI (k + 1)).toNatClampNeg < 4096 - k
          rw [nI_cl (by omega)]
          omega)
    FU (nI 1, nI 0, σ1) ⟨1, 0, _, rfl, rfl, by omega, q0, fun i hi => absurd hi (Nat.not_lt_zero i)⟩ (by show _ < 5000; omega)
  rw [show ((1 : Int32), nI 0, σ1) = (nI 1, nI 0, σ1) from rfl, k1, Option.bind_some]
  obtain ⟨m1, m2, m3, m4, m5, m6, m7, m8, m9, m10⟩ := k3
  have inb : ∀ x y, Q x y = true → x < 64 ∧ y < 64 := fun x y q => by
    have := gp.2.2.2.2 x y (lef_ink (m5 x y q))
    omega
  have eQ : Q = fun x y => cnB P.2.2 sx sy x y := by
    funext x y
    cases hq : Q x y with
    | true => symm; exact cnB_t.mpr (m6 x y hq)
    | false =>
      symm
      cases hc : cnB P.2.2 sx sy x y with
      | false => rfl
      | true =>
        have := cnB_t.mp hc (fun a c => Q a c = true) m7 (fun a c u v q1 q2 q3 => by
          have hb := inb a c q1
          obtain ⟨i, i1, i2⟩ := m2 (64 * c + a) (by omega) (by rw [pk2_at _ hb.1]; exact q1)
          exact k4 i i1 (64 * c + a) (by omega) i2 u v (by rw [show (64 * c + a) % 64 = a by omega, show (64 * c + a) / 64 = c by omega]; exact q2) q3)
        rw [hq] at this; cases this
  rw [k2, m3]
  exact ⟨_, Q, rfl, eQ, m4, m8, m9, m10⟩
