/-! THE REFERENCE'S SPECKS -/
theorem big_ldr {I : Nat → Nat → Bool} {k i : Nat} (hi : i < 4096) (hp : pk2 I i = true) : bigT I k 4096 (i % 64) (i / 64) = true ↔ k < szS I (ldr I i) := by
  obtain ⟨a, a2, a3⟩ := ldr_is hi hp
  unfold bigT
  rw [anyB_iff]
  constructor
  · rintro ⟨j, j1, j2⟩
    simp only [Bool.and_eq_true, decide_eq_true_eq] at j2
    rw [ldr_one hi hp j2.1 j2.2.2]
    exact j2.2.1
  · intro h
    refine ⟨ldr I i, by omega, ?_⟩
    simp only [Bool.and_eq_true, decide_eq_true_eq]
    exact ⟨a, h, a2⟩
theorem big_ink {I : Nat → Nat → Bool} {k u v : Nat} (h : bigT I k 4096 u v = true) : I u v = true := by
  unfold bigT at h
  obtain ⟨j, j1, j2⟩ := anyB_iff.mp h
  simp only [Bool.and_eq_true] at j2
  exact spot_ink (ld_ink j2.1) j2.2.2
theorem mx0_sub {x d : Nat} (hx : x < 100) (hd : d < 100) : mx (0 : Int32) (nI x - nI d) = nI (x - d) := by
  rw [show (0 : Int32) = iI 0 from rfl, iI_nat, iI_nat, iI_sub, mx_iI (by omega) (by omega) (by omega) (by omega), iI_nat]
  exact congrArg iI (by omega)
theorem lab_0 {I : Nat → Nat → Bool} {k : Nat} (hk : k < 4096) (h : pk2 I k = false) : lab I 4096 k = 0 := by
  unfold lab
  rw [if_neg (fun q => by rw [h] at q; cases q.1)]
theorem lab_is {I : Nat → Nat → Bool} {k : Nat} (hk : k < 4096) (h : pk2 I k = true) : lab I 4096 k = nmb I (ldr I k) := by
  obtain ⟨_, _, a3⟩ := ldr_is hk h
  unfold lab
  rw [if_pos ⟨h, by omega⟩]
/-- what a search for specks needs to see -/
def SV (b p : Nat) (P : PG) (τ : Sto) : Prop := (∀ k, k < 4096 → τ.1 (b + 75) k = nI (lab P.2.2 4096 k)) ∧ (∀ j, j < 4096 → ldB P.2.2 j = true → τ.1 (b + 76) (nmb P.2.2 j) = nI (szS P.2.2 j)) ∧ τ.1 (b + 66) p = nI P.1 ∧ τ.1 (b + 67) p = nI P.2.1
theorem isNear_row {b p x y k d c : Nat} {τ : Sto} {P : PG} (hp : p < 8) (hP : okP P) (h : SV b p P τ) (hx : x < 64) (hc : c < 64) (hk : k ≤ 100) (hd : d ≤ 20) :
    ∃ e, iter (bd_X5_isNear_40 (ΛE b) τ (b + 65) (nI p) (nI x) (nI y) (nI k) (nI d) (nI c)) FU (nI (x - d)) = some e ∧ ((e = Sum.inl () ∧ ∃ a, x - d ≤ a ∧ a ≤ x + d ∧ bigT P.2.2 k 4096 a c = true) ∨ (e = Sum.inr () ∧ ∀ a, x - d ≤ a → a ≤ x + d → bigT P.2.2 k 4096 a c = false)) := by
  have gp := hP
  unfold okP at gp
  obtain ⟨s1, s2, s3, s4⟩ := h
  refine iter_mu (fun z => ∃ a, z = nI a ∧ x - d ≤ a ∧ a ≤ 100 ∧ ∀ a', x - d ≤ a' → a' < a → bigT P.2.2 k 4096 a' c = false) (fun z => 200 - z.toNatClampNeg) _ ?_ FU (nI (x - d)) ⟨x - d, rfl, Nat.le_refl _, by omega, fun a' q1 q2 => by omega⟩ (by show _ < 5000; omega)
  rintro z ⟨a, rfl, a1, a2, a3⟩
  unfold bd_X5_isNear_40
  rw [r65_2, l66, if_pos (gd_nI (by omega) (by omega)), nI_cl (by omega), s3, nmE, e1, nI_sb (by omega), nI_add, mn_nI (by omega) (by omega)]
  by_cases c1 : min (P.1 - 1) (x + d) < a
  · rw [if_pos (nI_lt c1 (by omega))]
    refine Or.inr ⟨_, rfl, Or.inr ⟨rfl, fun a' q1 q2 => ?_⟩⟩
    rcases Nat.lt_or_ge a' a with q | q
    · exact a3 a' q1 q
    · cases hb : bigT P.2.2 k 4096 a' c with
      | false => rfl
      | true => have := (gp.2.2.2.2 _ _ (big_ink hb)).1; omega
  · rw [if_neg (nI_nlt (by omega) (by omega)), e64, pk_mul, nI_add, show c * 64 + a = 64 * c + a by omega, r65_13, l75, if_pos (gd_nI (by omega) (by omega)), nI_cl (by omega), s1 _ (by omega), nmE]
    have hi : 64 * c + a < 4096 := by omega
    have epk : pk2 P.2.2 (64 * c + a) = P.2.2 a c := pk2_at _ (by omega)
    have next : bigT P.2.2 k 4096 a c = false → ∃ t, jp_X5_isNear_94 (ΛE b) τ (b + 65) (nI p) (nI x) (nI y) (nI k) (nI d) (nI c) (nI a) = some (.inl t) ∧ (∃ a', t = nI a' ∧ x - d ≤ a' ∧ a' ≤ 100 ∧ ∀ a'', x - d ≤ a'' → a'' < a' → bigT P.2.2 k 4096 a'' c = false) ∧ 200 - t.toNatClampNeg < 200 - (nI a).toNatClampNeg := by
      intro hb
      unfold jp_X5_isNear_94
      rw [nmE, nI_1]
      refine ⟨_, rfl, ⟨a + 1, rfl, by omega, by omega, fun a'' q1 q2 => ?_⟩, ?_⟩
      · by_cases e : a'' = a
        · rw [e]; exact hb
        · exact a3 a'' q1 (by omega)
      · rw [nI_cl (by omega), nI_cl (by omega)]; omega
    cases hg : P.2.2 a c with
    | false =>
      rw [lab_0 hi (by rw [epk]; exact hg), if_pos (by decide)]
      exact Or.inl (next (by
        cases hb : bigT P.2.2 k 4096 a c with
        | false => rfl
        | true => rw [big_ink hb] at hg; cases hg))
    | true =>
      have hpk : pk2 P.2.2 (64 * c + a) = true := by rw [epk]; exact hg
      obtain ⟨l1, l2, l3⟩ := ldr_is hi hpk
      have hn0 := nmb_pos l1
      have hn1 := nmb_le P.2.2 (show ldr P.2.2 (64 * c + a) < 4096 by omega)
      have hz := sz_bd P.2.2 (ldr P.2.2 (64 * c + a))
      have hbl := big_ldr (k := k) hi hpk
      rw [show (64 * c + a) % 64 = a by omega, show (64 * c + a) / 64 = c by omega] at hbl
      rw [lab_is hi hpk, if_neg (nI_nle hn0 (by omega)), r65_14, l76, if_pos (gd_nI (by omega) (by omega)), nI_cl (by omega), s2 _ (by omega) l1]
      by_cases c2 : szS P.2.2 (ldr P.2.2 (64 * c + a)) ≤ k
      · rw [if_pos (nI_le c2 (by omega))]
        exact Or.inl (next (by
          cases hb : bigT P.2.2 k 4096 a c with
          | false => rfl
          | true => have := hbl.mp hb; omega))
      · rw [if_neg (nI_ge (by omega) (by omega))]
        exact Or.inr ⟨_, rfl, Or.inl ⟨rfl, a, a1, by omega, hbl.mpr (by omega)⟩⟩
theorem isNear_eq {b p x y k d : Nat} {τ : Sto} {P : PG} (hp : p < 8) (hP : okP P) (h : SV b p P τ) (hx : x < 64) (hy : y < 64) (hk : k ≤ 100) (hd : d ≤ 20) :
    ∃ z, F_X5_isNear (ΛE b) τ (b + 65) (nI p) (nI x) (nI y) (nI k) (nI d) = some z ∧ ((z = 1 ∧ nearS P.2.2 k d x y) ∨ (z = 0 ∧ ¬ nearS P.2.2 k d x y)) := by
  have gp := hP
  unfold okP at gp
  have s4 := h.2.2.2
  unfold F_X5_isNear
  rw [nmE, mx0_sub (by omega) (by omega)]
  obtain ⟨e, h1, h2⟩ := iter_mu (f := bd_X5_isNear_10 (ΛE b) τ (b + 65) (nI p) (nI x) (nI y) (nI k) (nI d)) (fun z => ∃ c, z = nI c ∧ y - d ≤ c ∧ c ≤ 100 ∧ ∀ c', y - d ≤ c' → c' < c → ∀ a, x - d ≤ a → a ≤ x + d → bigT P.2.2 k 4096 a c' = false) (fun z => 200 - z.toNatClampNeg)
    (fun e => (e = Sum.inl () ∧ nearS P.2.2 k d x y) ∨ (e = Sum.inr () ∧ ¬ nearS P.2.2 k d x y))
    (by
      rintro z ⟨c, rfl, a1, a2, a3⟩
      unfold bd_X5_isNear_10
      rw [r65_3, l67, if_pos (gd_nI (by omega) (by omega)), nI_cl (by omega), s4, nmE, e1, nI_sb (by omega), nI_add, mn_nI (by omega) (by omega)]
      by_cases c1 : min (P.2.1 - 1) (y + d) < c
      · rw [if_pos (nI_lt c1 (by omega))]
        refine Or.inr ⟨_, rfl, Or.inr ⟨rfl, ?_⟩⟩
        rintro ⟨u, v, q1, q2, q3, q4, q5⟩
        have hv := (gp.2.2.2.2 _ _ (big_ink q1)).2
        have := a3 v (by omega) (by omega) u (by omega) (by omega)
        rw [this] at q1; cases q1
      · rw [if_neg (nI_nlt (by omega) (by omega)), nmE, mx0_sub (by omega) (by omega)]
        obtain ⟨e, i1, i2⟩ := isNear_row (y := y) (c := c) hp hP h hx (by omega) hk hd
        rw [i1, Option.bind_some]
        rcases i2 with ⟨rfl, a, a4, a5, a6⟩ | ⟨rfl, a4⟩
        · rw [sc_l]
          exact Or.inr ⟨_, rfl, Or.inl ⟨rfl, a, c, a6, by omega, by omega, by omega, by omega⟩⟩
        · rw [sc_r, nmE, nI_add]
          refine Or.inl ⟨_, rfl, ⟨c + 1, rfl, by omega, by omega, fun c' q1 q2 a q3 q4 => ?_⟩, ?_⟩
          · by_cases ec : c' = c
            · rw [ec]; exact a4 a q3 q4
            · exact a3 c' q1 (by omega) a q3 q4
          · rw [nI_cl (by omega), nI_cl (by omega)]; omega)
    FU (nI (y - d)) ⟨y - d, rfl, Nat.le_refl _, by omega, fun c' q1 q2 => by omega⟩ (by show _ < 5000; omega)
  rw [h1, Option.bind_some]
  rcases h2 with ⟨rfl, h2⟩ | ⟨rfl, h2⟩
  · rw [sc_l]; exact ⟨_, rfl, Or.inl ⟨rfl, h2⟩⟩
  · rw [sc_r]; exact ⟨_, rfl, Or.inr ⟨rfl, h2⟩⟩
/-- the speck of the j-th, as far as points below t were looked at -/
noncomputable def gT (I : Nat → Nat → Bool) (k d t j : Nat) : Bool := haveI := Classical.propDecidable (∃ i, i < t ∧ spot I j (i % 64) (i / 64) = true ∧ nearS I k d (i % 64) (i / 64)); decide (szS I j ≤ k) && !decide (∃ i, i < t ∧ spot I j (i % 64) (i / 64) = true ∧ nearS I k d (i % 64) (i / 64))
theorem gT_t {I : Nat → Nat → Bool} {k d t j : Nat} : gT I k d t j = true ↔ (szS I j ≤ k ∧ ¬ ∃ i, i < t ∧ spot I j (i % 64) (i / 64) = true ∧ nearS I k d (i % 64) (i / 64)) := by
  unfold gT
  rw [Bool.and_eq_true, decide_eq_true_eq, Bool.not_eq_true']
  exact and_congr Iff.rfl (@decide_eq_false_iff_not _ (Classical.propDecidable _))
theorem gT_cong {I : Nat → Nat → Bool} {k d t u j : Nat} (h : gT I k d t j = true ↔ gT I k d u j = true) : gT I k d t j = gT I k d u j := by
  cases h1 : gT I k d t j with
  | true => exact (h.mp h1).symm
  | false =>
    cases h2 : gT I k d u j with
    | false => rfl
    | true => rw [h.mpr h2] at h1; cases h1
theorem gT_end {I : Nat → Nat → Bool} (h64 : in64 I) {k d j : Nat} (hj : ldB I j = true) (hj2 : j < 4096) : gT I k d 4096 j = spkB I k d j := by
  have key : gT I k d 4096 j = true ↔ spkB I k d j = true := by
    rw [gT_t]
    constructor
    · rintro ⟨q1, q2⟩
      refine spk_t hj (fun ⟨x, y, z1, z2⟩ => q2 ?_)
      have hb := h64 x y (spot_ink (ld_ink hj) z1)
      exact ⟨64 * y + x, by omega, by rw [show (64 * y + x) % 64 = x by omega, show (64 * y + x) / 64 = y by omega]; exact z1, by rw [show (64 * y + x) % 64 = x by omega, show (64 * y + x) / 64 = y by omega]; exact z2⟩
    · intro q
      obtain ⟨_, q2⟩ := spk_is q
      constructor
      · rcases Nat.lt_or_ge k (szS I j) with z | z
        · exfalso
          refine q2 ⟨j % 64, j / 64, spot_self I j, j % 64, j / 64, ?_, by omega, by omega, by omega, by omega⟩
          unfold bigT
          rw [anyB_iff]
          refine ⟨j, hj2, ?_⟩
          rw [hj, decide_eq_true z, spot_self]; rfl
        · exact z
      · rintro ⟨i, i1, i2, i3⟩
        exact q2 ⟨_, _, i2, i3⟩
  cases h1 : gT I k d 4096 j with
  | true => exact (key.mp h1).symm
  | false =>
    cases h2 : spkB I k d j with
    | false => rfl
    | true => rw [key.mpr h2] at h1; cases h1
def KS (b : Nat) (I : Nat → Nat → Bool) (g : Nat → Bool) (τ : Sto) : Prop := ∀ j, j < 4096 → ldB I j = true → τ.1 (b + 79) (nmb I j) = bI (g j)
theorem findsSpecks_eq2 {b p k d : Nat} {σ : Sto} {D : Desk} {P : PG} (hM : MR b σ D) (G : GD D) (hp : p < dN D) (hPP : dP D p = P) (hk : k ≤ 100) (hd : d ≤ 20) :
    ∃ τ, F_X5_findsSpecks (ΛE b) σ (b + 65) (nI p) (nI k) (nI d) = some (nI (fb_ct (spkB P.2.2 k d) 4096), τ) ∧ SI b P.2.2 σ 4096 τ ∧ KS b P.2.2 (spkB P.2.2 k d) τ := by
  have g1 := G.1
  have gp := G.2.1 p hp
  rw [hPP] at gp
  have gp0 := gp
  have hp8 : p < 8 := by omega
  unfold okP at gp
  have h64 : in64 P.2.2 := fun x y q => by have := gp.2.2.2.2 x y q; omega
  have mp : MP b σ p P := by rw [← hPP]; exact hM.2.1 p hp
  have hnb := nSp_bd P.2.2
  obtain ⟨σ1, q1, q2⟩ := findsSpots_eq hM G hp hPP
  -- all that matters is kept while specks are told
  have keep : ∀ {τ : Sto} {i : Nat} {v : Int32}, SI b P.2.2 σ 4096 τ → SI b P.2.2 σ 4096 (stI τ (b + 79) i v) := by
    intro τ i v hq
    refine ⟨?_, fun k hk => ?_, fun j hj hl => ?_, MF_trans hq.2.2.2 (MF_a (Or.inr ⟨by omega, by omega⟩))⟩
    · rw [stI_1, up2_ne _ _ _ (by omega)]; exact hq.1
    · rw [stI_1, up2_ne _ _ _ (by omega)]; exact hq.2.1 k hk
    · rw [stI_1, up2_ne _ _ _ (by omega)]; exact hq.2.2.1 j hj hl
  have sv : ∀ {τ : Sto}, SI b P.2.2 σ 4096 τ → SV b p P τ := by
    intro τ hq
    have mu := MP_MF mp hq.2.2.2 (fun q => q)
    exact ⟨hq.2.1, hq.2.2.1, mu.1, mu.2.1⟩
  have n16 : ∀ {τ : Sto}, SI b P.2.2 σ 4096 τ → τ.1 (b + 65) 16 = nI (nSp P.2.2) := fun hq => hq.1
  unfold F_X5_findsSpecks
  rw [q1, Option.bind_some]
  obtain ⟨σ2, a1, a2, a3⟩ := iter_for (f := bd_X5_findsSpecks_8 (ΛE b) (b + 65) (nI p) (nI k) (nI d)) (nSp P.2.2) (fun r z => z.1 = nI (r + 1) ∧ SI b P.2.2 σ 4096 z.2 ∧ ∀ j, j < 4096 → ldB P.2.2 j = true → nmb P.2.2 j ≤ r → z.2.1 (b + 79) (nmb P.2.2 j) = bI (gT P.2.2 k d 0 j))
    (fun τ => SI b P.2.2 σ 4096 τ ∧ KS b P.2.2 (gT P.2.2 k d 0) τ) (s := ((1 : Int32), σ1)) (n := FU)
    (by
      rintro r ⟨i, τ⟩ hr ⟨c1, c2, c3⟩
      simp only at c1 c2 c3
      subst c1
      obtain ⟨j, j1, j2, j3⟩ := fb_ct_kth hr
      have ej : nmb P.2.2 j = r + 1 := by unfold nmb; rw [fb_ct_succ, j2, if_pos rfl, j3]
      have vz := c2.2.2.1 j j1 j2
      rw [ej] at vz
      have hz := sz_bd P.2.2 j
      have g0 : gT P.2.2 k d 0 j = decide (szS P.2.2 j ≤ k) := by
        cases hs : decide (szS P.2.2 j ≤ k) with
        | true => exact gT_t.mpr ⟨of_decide_eq_true hs, fun ⟨i, i1, _⟩ => by omega⟩
        | false =>
          cases hq : gT P.2.2 k d 0 j with
          | false => rfl
          | true => exact absurd (gT_t.mp hq).1 (of_decide_eq_false hs)
      have fin : ∃ t, jp_X5_findsSpecks_39 (ΛE b) τ (b + 65) (nI p) (nI k) (nI d) (nI (r + 1)) (bI (gT P.2.2 k d 0 j)) (nI (r + 1)) (b + 79) = some (.inl t) ∧ t.1 = nI (r + 1 + 1) ∧ SI b P.2.2 σ 4096 t.2 ∧ ∀ j, j < 4096 → ldB P.2.2 j = true → nmb P.2.2 j ≤ r + 1 → t.2.1 (b + 79) (nmb P.2.2 j) = bI (gT P.2.2 k d 0 j) := by
        unfold jp_X5_findsSpecks_39
        rw [l79, if_pos (gd_nI (by omega) (by omega)), nmE, nI_cl (by omega), nar_bI, nmE, nI_1]
        refine ⟨_, rfl, rfl, keep c2, fun j' h1 h2 h3 => ?_⟩
        by_cases e : nmb P.2.2 j' = r + 1
        · have : j' = j := nmb_inj h2 j2 (e.trans ej.symm)
          subst this
          rw [e, stI_1, up2_self]
        · rw [stI_1, up2_nk _ _ _ e]
          exact c3 j' h1 h2 (by omega)
      unfold bd_X5_findsSpecks_8
      rw [n16 c2]
      simp (disch := omega) only [lt_f, ↓reduceIte, r65_14, l76, gd_nI, nI_cl, vz, r65_18]
      rw [g0] at fin
      by_cases cs : szS P.2.2 j ≤ k
      · rw [decide_eq_true cs] at fin
        rw [if_neg (nI_nlt cs (by omega))]
        exact fin
      · rw [decide_eq_false cs] at fin
        rw [if_pos (nI_lt (by omega) (by omega))]
        exact fin)
    (by
      rintro ⟨i, τ⟩ ⟨c1, c2, c3⟩
      simp only at c1 c2 c3
      subst c1
      unfold bd_X5_findsSpecks_8
      rw [n16 c2]
      simp (disch := omega) only [lt_t, ↓reduceIte]
      exact ⟨_, rfl, c2, fun j h1 h2 => c3 j h1 h2 (nmb_nSp P.2.2 h1)⟩)
    ⟨rfl, q2, fun j h1 h2 h3 => by have := nmb_pos h2; omega⟩ (by show _ < 5000; omega)
  rw [a1, Option.bind_some]
  have gskip : ∀ {t u : Nat} {τ : Sto}, t ≤ u → (∀ i, t ≤ i → i < u → ∀ j, ldB P.2.2 j = true → spot P.2.2 j (i % 64) (i / 64) = true → gT P.2.2 k d t j = true → ¬ nearS P.2.2 k d (i % 64) (i / 64)) → KS b P.2.2 (gT P.2.2 k d t) τ → KS b P.2.2 (gT P.2.2 k d u) τ := by
    intro t u τ htu hn hks j h1 h2
    rw [hks j h1 h2]
    refine congrArg bI ?_
    refine gT_cong ?_
    constructor
    · intro q
      obtain ⟨z1, z2⟩ := gT_t.mp q
      refine gT_t.mpr ⟨z1, ?_⟩
      rintro ⟨i, i1, i2, i3⟩
      rcases Nat.lt_or_ge i t with z | z
      · exact z2 ⟨i, z, i2, i3⟩
      · exact hn i z i1 j h2 i2 q i3
    · intro q
      obtain ⟨z1, z2⟩ := gT_t.mp q
      exact gT_t.mpr ⟨z1, fun ⟨i, i1, i2, i3⟩ => z2 ⟨i, by omega, i2, i3⟩⟩
  have goff : ∀ {t u : Nat} {τ : Sto}, t ≤ u → (∀ i, t ≤ i → i < u → pk2 P.2.2 i = false) → KS b P.2.2 (gT P.2.2 k d t) τ → KS b P.2.2 (gT P.2.2 k d u) τ := fun htu hn => gskip htu (fun i i1 i2 j hl hs => by
    have := spot_ink (ld_ink hl) hs
    have h3 := hn i i1 i2
    unfold pk2 at h3
    rw [this] at h3; cases h3)
  have off : ∀ x y, P.1 ≤ x ∨ P.2.1 ≤ y → P.2.2 x y = false := fun x y hq => by
    cases hc : P.2.2 x y with
    | false => rfl
    | true => have := gp.2.2.2.2 x y hc; omega
  obtain ⟨σ3, b1, b2, b3⟩ := iter_for (f := bd_X5_findsSpecks_49 (ΛE b) (b + 65) (nI p) (nI k) (nI d)) P.2.1 (fun y z => z.1 = nI y ∧ SI b P.2.2 σ 4096 z.2 ∧ KS b P.2.2 (gT P.2.2 k d (64 * y)) z.2)
    (fun τ => SI b P.2.2 σ 4096 τ ∧ KS b P.2.2 (gT P.2.2 k d 4096) τ) (s := ((0 : Int32), σ2)) (n := FU)
    (by
      rintro y ⟨i, υ⟩ hy ⟨c1, c2, c3⟩
      simp only at c1 c2 c3
      subst c1
      obtain ⟨υ2, x1, x2, x3⟩ := iter_for (f := bd_X5_findsSpecks_63 (ΛE b) (b + 65) (nI p) (nI k) (nI d) (nI y)) P.1 (fun x z => z.1 = nI x ∧ SI b P.2.2 σ 4096 z.2 ∧ KS b P.2.2 (gT P.2.2 k d (64 * y + x)) z.2)
        (fun υ => SI b P.2.2 σ 4096 υ ∧ KS b P.2.2 (gT P.2.2 k d (64 * (y + 1))) υ) (s := ((0 : Int32), υ)) (n := FU)
        (by
          rintro x ⟨i, υ⟩ hx ⟨d1, d2, d3⟩
          simp only at d1 d2 d3
          subst d1
          have hsv := sv d2
          have hi : 64 * y + x < 4096 := by omega
          have epk : pk2 P.2.2 (64 * y + x) = P.2.2 x y := pk2_at _ (by omega)
          have hmod : (64 * y + x) % 64 = x := by omega
          have hdiv : (64 * y + x) / 64 = y := by omega
          have skip : KS b P.2.2 (gT P.2.2 k d (64 * y + (x + 1))) υ → ∃ t, jp_X5_findsSpecks_126 (ΛE b) υ (b + 65) (nI p) (nI k) (nI d) (nI y) (nI x) = some (.inl t) ∧ t.1 = nI (x + 1) ∧ SI b P.2.2 σ 4096 t.2 ∧ KS b P.2.2 (gT P.2.2 k d (64 * y + (x + 1))) t.2 := by
            intro hks
            unfold jp_X5_findsSpecks_126
            rw [nmE, nI_1]
            exact ⟨_, rfl, rfl, d2, hks⟩
          unfold bd_X5_findsSpecks_63
          simp (disch := omega) only [r65_2, l66, gd_nI, nI_cl, ↓reduceIte, hsv.2.2.1, le_f, e64, pk_mul, nI_add]
          rw [show y * 64 + x = 64 * y + x by omega, r65_13, l75, if_pos (gd_nI hi (by omega)), hsv.1 _ hi, nmE]
          cases hg : P.2.2 x y with
          | false =>
            rw [lab_0 hi (by rw [epk]; exact hg), if_pos (by decide)]
            exact skip (goff (by omega) (fun i i1 i2 => by rw [show i = 64 * y + x by omega, epk]; exact hg) d3)
          | true =>
            have hpk : pk2 P.2.2 (64 * y + x) = true := by rw [epk]; exact hg
            obtain ⟨l1, l2, l3⟩ := ldr_is hi hpk
            have hn0 := nmb_pos l1
            have hn1 := nmb_le P.2.2 (show ldr P.2.2 (64 * y + x) < 4096 by omega)
            rw [lab_is hi hpk, if_neg (nI_nle hn0 (by omega)), r65_18, l79, if_pos (gd_nI (by omega) (by omega)), nI_cl (by omega), d3 _ (by omega) l1]
            cases hgt : gT P.2.2 k d (64 * y + x) (ldr P.2.2 (64 * y + x)) with
            | false =>
              rw [if_pos (by decide)]
              exact skip (gskip (by omega) (fun i i1 i2 j hl hs hq => by
                have ei : i = 64 * y + x := by omega
                subst ei
                rw [ldr_one hi hpk hl hs] at hgt
                rw [hgt] at hq; cases hq) d3)
            | true =>
              rw [if_neg (by decide)]
              obtain ⟨z, z1, z2⟩ := isNear_eq (k := k) (d := d) hp8 gp0 hsv (show x < 64 by omega) (show y < 64 by omega) hk hd
              rw [z1, Option.bind_some]
              rcases z2 with ⟨rfl, z2⟩ | ⟨rfl, z2⟩
              · rw [if_neg (by decide), if_pos (gd_nI (by omega) (by omega)), nmE, bIf, nar_bI]
                unfold jp_X5_findsSpecks_126
                rw [nmE, nI_1]
                refine ⟨_, rfl, rfl, keep d2, fun j h1 h2 => ?_⟩
                by_cases ej : j = ldr P.2.2 (64 * y + x)
                · rw [ej, stI_1, up2_self]
                  congr 1
                  symm
                  cases hq : gT P.2.2 k d (64 * y + (x + 1)) (ldr P.2.2 (64 * y + x)) with
                  | false => rfl
                  | true => exact absurd ⟨64 * y + x, by omega, l2, by rw [hmod, hdiv]; exact z2⟩ (gT_t.mp hq).2
                · have hne : nmb P.2.2 j ≠ nmb P.2.2 (ldr P.2.2 (64 * y + x)) := fun q => ej (nmb_inj h2 l1 q)
                  rw [stI_1, up2_nk _ _ _ hne, d3 j h1 h2]
                  refine congrArg bI ?_
                  refine gT_cong ?_
                  constructor
                  · intro q
                    obtain ⟨y1, y2⟩ := gT_t.mp q
                    refine gT_t.mpr ⟨y1, ?_⟩
                    rintro ⟨i, i1, i2, i3⟩
                    by_cases e : i = 64 * y + x
                    · subst e
                      exact ej (ldr_one hi hpk h2 i2).symm
                    · exact y2 ⟨i, by omega, i2, i3⟩
                  · intro q
                    obtain ⟨y1, y2⟩ := gT_t.mp q
                    exact gT_t.mpr ⟨y1, fun ⟨i, i1, i2, i3⟩ => y2 ⟨i, by omega, i2, i3⟩⟩
              · rw [if_pos rfl]
                exact skip (gskip (by omega) (fun i i1 i2 j hl hs hq hnr => by
                  have ei : i = 64 * y + x := by omega
                  subst ei
                  rw [hmod, hdiv] at hnr
                  exact z2 hnr) d3))
        (by
          rintro ⟨i, υ⟩ ⟨d1, d2, d3⟩
          simp only at d1 d2 d3
          subst d1
          have hsv := sv d2
          unfold bd_X5_findsSpecks_63
          simp (disch := omega) only [r65_2, l66, gd_nI, nI_cl, ↓reduceIte, hsv.2.2.1, le_t]
          exact ⟨_, rfl, d2, goff (by omega) (fun i i1 i2 => off _ _ (Or.inl (by omega))) d3⟩)
        ⟨rfl, c2, c3⟩ (by show _ < 5000; omega)
      have hsv := sv c2
      unfold bd_X5_findsSpecks_49
      simp (disch := omega) only [r65_3, l67, gd_nI, nI_cl, ↓reduceIte, hsv.2.2.2, le_f, x1, Option.bind_some, nmE, nI_1]
      exact ⟨(_, υ2), rfl, rfl, x2, x3⟩)
    (by
      rintro ⟨i, υ⟩ ⟨c1, c2, c3⟩
      simp only at c1 c2 c3
      subst c1
      have hsv := sv c2
      unfold bd_X5_findsSpecks_49
      simp (disch := omega) only [r65_3, l67, gd_nI, nI_cl, ↓reduceIte, hsv.2.2.2, le_t]
      exact ⟨_, rfl, c2, goff (by omega) (fun i i1 i2 => off _ _ (Or.inr (by omega))) c3⟩)
    ⟨rfl, a2, a3⟩ (by show _ < 5000; omega)
  rw [b1, Option.bind_some]
  have ks : KS b P.2.2 (spkB P.2.2 k d) σ3 := fun j h1 h2 => by rw [b3 j h1 h2, gT_end h64 h2 h1]
  obtain ⟨e, f1, f2⟩ := iter_for (f := bd_X5_findsSpecks_144 (ΛE b) σ3 (b + 65)) (nSp P.2.2) (fun r z => z.2 = nI (r + 1) ∧ ∃ t, t ≤ 4096 ∧ fb_ct (ldB P.2.2) t = r ∧ z.1 = nI (fb_ct (spkB P.2.2 k d) t)) (fun e => e = nI (fb_ct (spkB P.2.2 k d) 4096)) (s := ((0 : Int32), (1 : Int32))) (n := FU)
    (by
      rintro r ⟨m, i⟩ hr ⟨c1, t, c2, c3, c4⟩
      simp only at c1 c4
      subst c1 c4
      obtain ⟨j, j1, j2, j3⟩ := fb_ct_kth hr
      have ej : nmb P.2.2 j = r + 1 := by unfold nmb; rw [fb_ct_succ, j2, if_pos rfl, j3]
      have vz := ks j j1 j2
      rw [ej] at vz
      have est : fb_ct (spkB P.2.2 k d) j = fb_ct (spkB P.2.2 k d) t := by
        have key : ∀ {s t : Nat}, s ≤ t → fb_ct (ldB P.2.2) s = fb_ct (ldB P.2.2) t → fb_ct (spkB P.2.2 k d) t = fb_ct (spkB P.2.2 k d) s := by
          intro s t hst e
          refine ct_spk hst (fun i i1 i2 => ?_)
          obtain ⟨dd, rfl⟩ : ∃ dd, t = s + dd := ⟨t - s, by omega⟩
          rw [fb_ct_split] at e
          have := fb_ct_zero.mp (show fb_ct (fun k => ldB P.2.2 (s + k)) dd = 0 by omega) (i - s) (by omega)
          rwa [show s + (i - s) = i by omega] at this
        rcases Nat.le_total j t with q | q
        · exact (key q (by omega)).symm
        · exact key q (by omega)
      unfold bd_X5_findsSpecks_144 jp_X5_findsSpecks_170
      rw [n16 b2]
      simp (disch := omega) only [lt_f, ↓reduceIte, r65_18, l79, gd_nI, nI_cl, nmE, vz, nI_1, e0, e1, nI_add, bI_0]
      cases hs : spkB P.2.2 k d j with
      | false =>
        simp only [↓reduceIte]
        refine ⟨_, rfl, rfl, j + 1, by omega, ej, ?_⟩
        rw [fb_ct_succ, hs, est]; rfl
      | true =>
        simp only [Bool.true_eq_false, ↓reduceIte]
        refine ⟨_, rfl, rfl, j + 1, by omega, ej, ?_⟩
        rw [fb_ct_succ, hs, est]; rfl)
    (by
      rintro ⟨m, i⟩ ⟨c1, t, c2, c3, c4⟩
      simp only at c1 c4
      subst c1 c4
      unfold bd_X5_findsSpecks_144
      rw [n16 b2]
      simp (disch := omega) only [lt_t, ↓reduceIte]
      refine ⟨_, rfl, ?_⟩
      have c3 : fb_ct (ldB P.2.2) t = fb_ct (ldB P.2.2) 4096 := c3
      rw [ct_spk c2 (fun i i1 i2 => ?_)]
      obtain ⟨dd, hdd⟩ : ∃ dd, 4096 = t + dd := ⟨4096 - t, by omega⟩
      rw [hdd, fb_ct_split] at c3
      have := fb_ct_zero.mp (show fb_ct (fun k => ldB P.2.2 (t + k)) dd = 0 by omega) (i - t) (by omega)
      rwa [show t + (i - t) = i by omega] at this)
    ⟨rfl, 0, by omega, rfl, rfl⟩ (by show _ < 5000; omega)
  rw [f1, Option.bind_some, f2]
  exact ⟨_, rfl, b2, ks⟩
