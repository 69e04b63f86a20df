/-! THE REFERENCE'S CALLS, the last ones: specks, take -/
theorem ruleM_t {k d : Nat} (k1 : 1 ≤ k) (k2 : k ≤ 100) (hd : d ≤ 20) : F_X5_areSpecks (nI k) (nI d) = nI 1 := by
  unfold F_X5_areSpecks
  rw [nmE, w1, w100, in_w, show F_X4_within (nI k) 1 100 = nI 1 from within_t (lo := 1) (hi := 100) k1 k2 (by omega), if_neg (by decide), nmE, w0, w20, in_w, show F_X4_within (nI d) 0 20 = nI 1 from within_t (lo := 0) (hi := 20) (by omega) hd (by omega), if_neg (by decide)]
  rfl
theorem ruleM_f {x z : Int32} (h : ¬ ∃ k d, 1 ≤ k ∧ k ≤ 100 ∧ d ≤ 20 ∧ x = nI k ∧ z = nI d) : F_X5_areSpecks x z = nI 0 := by
  unfold F_X5_areSpecks
  rw [nmE, w1, w100, in_w]
  by_cases c1 : ∃ k, 1 ≤ k ∧ k ≤ 100 ∧ x = nI k
  · obtain ⟨k, k1, k2, rfl⟩ := c1
    rw [show F_X4_within (nI k) 1 100 = nI 1 from within_t (lo := 1) (hi := 100) k1 k2 (by omega), if_neg (by decide), nmE, w0, w20, in_w, show F_X4_within z 0 20 = nI 0 from within_f (lo := 0) (hi := 20) (by omega) (fun ⟨d, _, d2, d3⟩ => h ⟨k, d, k1, k2, d2, rfl, d3⟩) (by omega), if_pos nI_0]
    rfl
  · rw [show F_X4_within x 1 100 = nI 0 from within_f (lo := 1) (hi := 100) (by omega) c1 (by omega), if_pos nI_0]
    rfl
theorem mp_specks_t {b p k d : Nat} {σ : Sto} {D : Desk} (h : MR b σ D) (G : GD D) (hp : p < dN D) (k1 : 1 ≤ k) (k2 : k ≤ 100) (hd : d ≤ 20) :
    ∃ τ, F_X5_specks (ΛE b) σ (b + 65) (nI p) (nI k) (nI d) = some (nI (fb_ct (spkB (dP D p).2.2 k d) 4096), τ) ∧ MR b τ D ∧ KF b σ τ := by
  obtain ⟨h1, kk, -⟩ := mr0 (v := 0) h
  unfold F_X5_specks
  rw [nmE]
  generalize stI σ (b + 65) 0 0 = σ1 at *
  obtain ⟨τ, q1, q2, q3⟩ := findsSpecks_eq2 h1 G hp rfl k2 hd
  rw [nmE, isPage_t h1 G.1 hp, if_neg (by decide), nmE, ruleM_t k1 k2 hd, if_neg (by decide), q1, Option.bind_some]
  exact ⟨_, rfl, MR_MF h1 q2.2.2.2, KF_trans kk (MF_KF q2.2.2.2)⟩
theorem mp_specks_f {b : Nat} {q x z : Int32} {σ : Sto} {D : Desk} (hc : MR b σ D) (G : GD D) (hn : ¬ ((∃ p, p < dN D ∧ q = nI p) ∧ ∃ k d, 1 ≤ k ∧ k ≤ 100 ∧ d ≤ 20 ∧ x = nI k ∧ z = nI d)) : F_X5_specks (ΛE b) σ (b + 65) q x z = some (-1, stI σ (b + 65) 0 0) := by
  obtain ⟨h1, kk, -⟩ := mr0 (v := 0) hc
  unfold F_X5_specks
  rw [nmE]
  generalize stI σ (b + 65) 0 0 = σ1 at *
  rw [nmE]
  by_cases c1 : ∃ p, p < dN D ∧ q = nI p
  · have c2 : ¬ ∃ k d, 1 ≤ k ∧ k ≤ 100 ∧ d ≤ 20 ∧ x = nI k ∧ z = nI d := fun c2 => hn ⟨c1, c2⟩
    obtain ⟨p, hp, rfl⟩ := c1
    rw [isPage_t h1 G.1 hp, if_neg (by decide), nmE, ruleM_f c2, if_pos nI_0]
  · rw [isPage_f h1 G.1 c1, if_pos nI_0]
/-- a point of a speck, by its label -/
theorem spkS_ldr {I : Nat → Nat → Bool} {k d i : Nat} (hi : i < 4096) (hp : pk2 I i = true) : spkS I k d 4096 (i % 64) (i / 64) = spkB I k d (ldr I i) := by
  obtain ⟨a, a2, a3⟩ := ldr_is hi hp
  have key : spkS I k d 4096 (i % 64) (i / 64) = true ↔ spkB I k d (ldr I i) = true := by
    unfold spkS
    rw [anyB_iff]
    constructor
    · rintro ⟨j, j1, j2⟩
      rw [Bool.and_eq_true] at j2
      rw [ldr_one hi hp (spk_is j2.1).1 j2.2]
      exact j2.1
    · intro h
      exact ⟨ldr I i, by omega, by rw [h, a2]; rfl⟩
  cases h1 : spkS I k d 4096 (i % 64) (i / 64) with
  | true => exact (key.mp h1).symm
  | false =>
    cases h2 : spkB I k d (ldr I i) with
    | false => rfl
    | true => rw [key.mpr h2] at h1; cases h1
theorem spkS_off {I : Nat → Nat → Bool} {k d u v : Nat} (h : I u v = false) : spkS I k d 4096 u v = false := by
  cases hs : spkS I k d 4096 u v with
  | false => rfl
  | true =>
    unfold spkS at hs
    obtain ⟨j, j1, j2⟩ := anyB_iff.mp hs
    rw [Bool.and_eq_true] at j2
    rw [spot_ink (ld_ink (spk_is j2.1).1) j2.2] at h; cases h
theorem grid1 (w h : Nat) (S : Nat → Nat → Bool) : ((w, h, S) : PG).1 = w := eq_of_heq HEq.rfl
theorem grid2 (w h : Nat) (S : Nat → Nat → Bool) : ((w, h, S) : PG).2.1 = h := eq_of_heq HEq.rfl
theorem grid3 (w h : Nat) (S : Nat → Nat → Bool) : ((w, h, S) : PG).2.2 = S := eq_of_heq HEq.rfl
theorem take_loop {b p k d : Nat} {τ1 : Sto} {P L : PG} (hp8 : p < 8) (gp0 : okP P) (okL1 : okL L) (eL1 : L.1 = P.1) (eL3 : L.2.2 = spkS P.2.2 k d 4096) (mq : MP b τ1 p P) (w75 : ∀ k, k < 4096 → τ1.1 (b + 75) k = nI (lab P.2.2 4096 k)) (w3 : KS b P.2.2 (spkB P.2.2 k d) τ1) :
    ∃ τ2, iter (bd_X5_take_45 (ΛE b) (b + 65) (nI p)) FU ((0 : Int32), stI τ1 (b + 65) 19 0) = some τ2 ∧ TK b p P L τ1 P.2.1 0 τ2 := by
  have gp := gp0
  unfold okP at gp
  exact iter_for (f := bd_X5_take_45 (ΛE b) (b + 65) (nI p)) P.2.1 (fun y z => z.1 = nI y ∧ TK b p P L τ1 y 0 z.2)
    (fun υ => TK b p P L τ1 P.2.1 0 υ) (s := ((0 : Int32), stI τ1 (b + 65) 19 0)) (n := FU)
    (by
      rintro y ⟨i, υ⟩ hy ⟨c1, c2⟩
      simp only at c1 c2
      subst c1
      obtain ⟨υ2, x1, x2⟩ := iter_for (f := bd_X5_take_59 (ΛE b) (b + 65) (nI p) (nI y)) P.1 (fun x z => z.1 = nI x ∧ TK b p P L τ1 y x z.2)
        (fun υ => TK b p P L τ1 (y + 1) 0 υ) (s := ((0 : Int32), υ)) (n := FU)
        (by
          rintro x ⟨i, υ⟩ hx ⟨d1, d2⟩
          simp only at d1 d2
          subst d1
          have hi : 64 * y + x < 4096 := by omega
          have epk : pk2 P.2.2 (64 * y + x) = P.2.2 x y := pk2_at _ (by omega)
          have mw : υ.1 (b + 66) p = nI P.1 := d2.1.1
          have lf := d2.2.2.2
          have v75 : υ.1 (b + 75) (64 * y + x) = nI (lab P.2.2 4096 (64 * y + x)) := by rw [lf.2.1 (b + 75) (by omega) (by omega) (by omega) (by omega)]; exact w75 _ hi
          have skip : L.2.2 x y = false → ∃ t, jp_X5_take_109 (ΛE b) υ (b + 65) (nI p) (nI y) (nI x) = some (.inl t) ∧ t.1 = nI (x + 1) ∧ TK b p P L τ1 y (x + 1) t.2 := by
            intro hl
            unfold jp_X5_take_109
            rw [nmE, nI_1]
            exact ⟨_, rfl, rfl, tk_skip d2 hl⟩
          unfold bd_X5_take_59
          simp (disch := omega) only [r65_2, l66, gd_nI, nI_cl, ↓reduceIte, mw, le_f, e64, pk_mul, nI_add]
          rw [show y * 64 + x = 64 * y + x by omega, r65_13, l75, if_pos (gd_nI hi (by omega)), v75, nmE]
          cases hg : P.2.2 x y with
          | false =>
            rw [lab_0 hi (by rw [epk]; exact hg), if_pos (by decide)]
            exact skip (by rw [eL3]; exact spkS_off hg)
          | true =>
            have hpk : pk2 P.2.2 (64 * y + x) = true := by rw [epk]; exact hg
            obtain ⟨l1, l2, l3⟩ := ldr_is hi hpk
            have hn0 := nmb_pos l1
            have hn1 := nmb_le P.2.2 (show ldr P.2.2 (64 * y + x) < 4096 by omega)
            have v79 : υ.1 (b + 79) (nmb P.2.2 (ldr P.2.2 (64 * y + x))) = bI (spkB P.2.2 k d (ldr P.2.2 (64 * y + x))) := by
              rw [lf.2.1 (b + 79) (by omega) (by omega) (by omega) (by omega)]; exact w3 _ (by omega) l1
            have es := spkS_ldr (k := k) (d := d) hi hpk
            rw [show (64 * y + x) % 64 = x by omega, show (64 * y + x) / 64 = y by omega, ← eL3] at es
            rw [lab_is hi hpk, if_neg (nI_nle hn0 (by omega)), r65_18, l79, if_pos (gd_nI (by omega) (by omega)), nI_cl (by omega), v79, ← es]
            cases hl : L.2.2 x y with
            | false =>
              rw [if_pos (by decide)]
              exact skip hl
            | true =>
              obtain ⟨υ3, s1, s2⟩ := tk_take hp8 okL1 (by omega) (by omega) d2 hl
              rw [if_neg (by decide), s1, Option.bind_some]
              unfold jp_X5_take_109
              rw [nmE, nI_1]
              exact ⟨_, rfl, rfl, s2⟩)
        (by
          rintro ⟨i, υ⟩ ⟨d1, d2⟩
          simp only at d1 d2
          subst d1
          have mw : υ.1 (b + 66) p = nI P.1 := d2.1.1
          unfold bd_X5_take_59
          simp (disch := omega) only [r65_2, l66, gd_nI, nI_cl, ↓reduceIte, mw, le_t]
          exact ⟨_, rfl, tk_row okL1 eL1 d2⟩)
        ⟨rfl, c2⟩ (by show _ < 5000; omega)
      have mh : υ.1 (b + 67) p = nI P.2.1 := c2.1.2.1
      unfold bd_X5_take_45
      simp (disch := omega) only [r65_3, l67, gd_nI, nI_cl, ↓reduceIte, mh, le_f, x1, Option.bind_some, nmE, nI_1]
      exact ⟨(_, υ2), rfl, rfl, x2⟩)
    (by
      rintro ⟨i, υ⟩ ⟨c1, c2⟩
      simp only at c1 c2
      subst c1
      have mh : υ.1 (b + 67) p = nI P.2.1 := c2.1.2.1
      unfold bd_X5_take_45
      simp (disch := omega) only [r65_3, l67, gd_nI, nI_cl, ↓reduceIte, mh, le_t]
      exact ⟨_, rfl, c2⟩)
    ⟨rfl, tk_0 mq⟩ (by show _ < 5000; omega)
theorem prj1 {w h : Nat} {S : Nat → Nat → Bool} {Q : PG} (e : Q = (w, h, S)) : Q.1 = w := by subst e; exact grid1 w h S
theorem prj2 {w h : Nat} {S : Nat → Nat → Bool} {Q : PG} (e : Q = (w, h, S)) : Q.2.1 = h := by subst e; exact grid2 w h S
theorem prj3 {w h : Nat} {S : Nat → Nat → Bool} {Q : PG} (e : Q = (w, h, S)) : Q.2.2 = S := by subst e; exact grid3 w h S
theorem spkP_3 (P : PG) (k d : Nat) : (spkP P k d).2.2 = spkS P.2.2 k d 4096 := prj3 (Eq.refl (spkP P k d))
theorem spkP_1 (P : PG) (k d : Nat) : (spkP P k d).1 = P.1 := prj1 (Eq.refl (spkP P k d))
theorem spkP_2 (P : PG) (k d : Nat) : (spkP P k d).2.1 = P.2.1 := prj2 (Eq.refl (spkP P k d))
theorem mp_take_t {b p k d : Nat} {σ : Sto} {D : Desk} (h : MR b σ D) (G : GD D) (hp : p < dN D) (k1 : 1 ≤ k) (k2 : k ≤ 100) (hd : d ≤ 20) :
    ∃ τ, F_X5_take (ΛE b) σ (b + 65) (nI p) (nI k) (nI d) = some (nI (inkP (spkP (dP D p) k d)), τ) ∧ MR b τ (setP (pushD (setL D (spkP (dP D p) k d)) p 0) p (minusP (dP D p) (spkP (dP D p) k d))) ∧ KF b σ τ := by
  obtain ⟨h1, kk, -⟩ := mr0 (v := 0) h
  have g1 := G.1
  have gp := G.2.1 p hp
  have gp0 := gp
  have hp8 : p < 8 := by omega
  unfold okP at gp
  unfold F_X5_take
  rw [nmE]
  generalize stI σ (b + 65) 0 0 = σ1 at *
  obtain ⟨τ, q1, q2, q3, -⟩ := changing_eq h1 G hp
  obtain ⟨τ1, w1, w2, w3⟩ := findsSpecks_eq2 (P := dP D p) q2 (GD_push G hp (Or.inl rfl) (by omega)) hp (show dP (pushD D p 0) p = dP D p from rfl) k2 hd
  have hM1 := MR_MF q2 w2.2.2.2
  have mq : MP b τ1 p (dP D p) := hM1.2.1 p hp
  rw [nmE, isPage_t h1 g1 hp, if_neg (by decide), nmE, ruleM_t k1 k2 hd, if_neg (by decide), q1, Option.bind_some, w1, Option.bind_some, nmE]
  generalize hPP : dP D p = P at *
  have okL1 : okL (spkP P k d) := spk_in (okP_L gp0)
  have eL1 : (spkP P k d).1 = P.1 := spkP_1 P k d
  have eL2 : (spkP P k d).2.1 = P.2.1 := spkP_2 P k d
  have eL3 : (spkP P k d).2.2 = spkS P.2.2 k d 4096 := spkP_3 P k d
  generalize spkP P k d = L at *
  obtain ⟨τ2, t1, t2⟩ := take_loop (k := k) (d := d) hp8 gp0 okL1 eL1 eL3 mq w2.2.1 w3
  obtain ⟨u1, u2, u3⟩ := tk_end hM1 hPP okL1 eL2 t2
  rw [t1, Option.bind_some, u1]
  exact ⟨_, rfl, u2, KF_trans kk (KF_trans q3 (KF_trans (MF_KF w2.2.2.2) u3))⟩
theorem mp_take_f {b : Nat} {q x z : Int32} {σ : Sto} {D : Desk} (hc : MR b σ D) (G : GD D) (hn : ¬ ((∃ p, p < dN D ∧ q = nI p) ∧ ∃ k d, 1 ≤ k ∧ k ≤ 100 ∧ d ≤ 20 ∧ x = nI k ∧ z = nI d)) : F_X5_take (ΛE b) σ (b + 65) q x z = some (-1, stI σ (b + 65) 0 0) := by
  obtain ⟨h1, kk, -⟩ := mr0 (v := 0) hc
  unfold F_X5_take
  rw [nmE]
  generalize stI σ (b + 65) 0 0 = σ1 at *
  rw [nmE]
  by_cases c1 : ∃ p, p < dN D ∧ q = nI p
  · have c2 : ¬ ∃ k d, 1 ≤ k ∧ k ≤ 100 ∧ d ≤ 20 ∧ x = nI k ∧ z = nI d := fun c2 => hn ⟨c1, c2⟩
    obtain ⟨p, hp, rfl⟩ := c1
    rw [isPage_t h1 G.1 hp, if_neg (by decide), nmE, ruleM_f c2, if_pos nI_0]
  · rw [isPage_f h1 G.1 c1, if_pos nI_0]
