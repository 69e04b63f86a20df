/-! SPOTS: ink that hangs together, told plainly -/
def ad (x y u v : Nat) : Prop := x ≤ u + 1 ∧ u ≤ x + 1 ∧ y ≤ v + 1 ∧ v ≤ y + 1
theorem ad_symm {x y u v : Nat} (h : ad x y u v) : ad u v x y := ⟨h.2.1, h.1, h.2.2.2, h.2.2.1⟩
def cn (I : Nat → Nat → Bool) (x y u v : Nat) : Prop := ∀ S : Nat → Nat → Prop, S x y → (∀ a b c d, S a b → ad a b c d → I c d = true → S c d) → S u v
theorem cn_refl (I : Nat → Nat → Bool) (x y : Nat) : cn I x y x y := fun _ h _ => h
theorem cn_trans {I : Nat → Nat → Bool} {x y u v a b : Nat} (h1 : cn I x y u v) (h2 : cn I u v a b) : cn I x y a b := fun S hS hc => h2 S (h1 S hS hc) hc
theorem cn_one {I : Nat → Nat → Bool} {x y u v : Nat} (h : ad x y u v) (hi : I u v = true) : cn I x y u v := fun _ hS hc => hc _ _ _ _ hS h hi
theorem cn_ink {I : Nat → Nat → Bool} {x y u v : Nat} (hi : I x y = true) (h : cn I x y u v) : I u v = true := h (fun a b => I a b = true) hi (fun _ _ _ _ _ _ h => h)
theorem cn_symm {I : Nat → Nat → Bool} {x y u v : Nat} (hi : I x y = true) (h : cn I x y u v) : cn I u v x y :=
  (h (fun a b => I a b = true ∧ cn I a b x y) ⟨hi, cn_refl I x y⟩ (fun a b c d h1 h2 h3 => ⟨h3, cn_trans (cn_one (ad_symm h2) h1.1) h1.2⟩)).2
/-- ink in 64 x 64 -/
def in64 (I : Nat → Nat → Bool) : Prop := ∀ x y, I x y = true → x < 64 ∧ y < 64
/-- places by number -/
def pk2 (S : Nat → Nat → Bool) (k : Nat) : Bool := S (k % 64) (k / 64)
theorem pk2_at (S : Nat → Nat → Bool) {x y : Nat} (hx : x < 64) : pk2 S (64 * y + x) = S x y := by
  unfold pk2
  rw [show (64 * y + x) % 64 = x by omega, show (64 * y + x) / 64 = y by omega]
noncomputable def cnB (I : Nat → Nat → Bool) (x y u v : Nat) : Bool := haveI := Classical.propDecidable (cn I x y u v); decide (cn I x y u v)
theorem cnB_t {I : Nat → Nat → Bool} {x y u v : Nat} : cnB I x y u v = true ↔ cn I x y u v := by
  unfold cnB
  exact @decide_eq_true_iff _ (Classical.propDecidable _)
/-- the spot of the k-th place -/
noncomputable def spot (I : Nat → Nat → Bool) (k : Nat) (u v : Nat) : Bool := cnB I (k % 64) (k / 64) u v
/-- the first of its spot -/
noncomputable def ldB (I : Nat → Nat → Bool) (k : Nat) : Bool := pk2 I k && !anyB (fun j => pk2 (spot I k) j) k
noncomputable def szS (I : Nat → Nat → Bool) (k : Nat) : Nat := fb_ct (pk2 (spot I k)) 4096
theorem ld_ink {I : Nat → Nat → Bool} {k : Nat} (h : ldB I k = true) : pk2 I k = true := by
  unfold ldB at h
  simp only [Bool.and_eq_true] at h
  exact h.1
theorem ld_no {I : Nat → Nat → Bool} {k j : Nat} (h : ldB I k = true) (hj : j < k) : spot I k (j % 64) (j / 64) = false := by
  unfold ldB at h
  simp only [Bool.and_eq_true, Bool.not_eq_true'] at h
  exact anyB_not.mp h.2 j hj
theorem spot_t {I : Nat → Nat → Bool} {k u v : Nat} : spot I k u v = true ↔ cn I (k % 64) (k / 64) u v := cnB_t
theorem spot_symm {I : Nat → Nat → Bool} {k j : Nat} (hi : pk2 I k = true) (h : spot I k (j % 64) (j / 64) = true) : spot I j (k % 64) (k / 64) = true := spot_t.mpr (cn_symm hi (spot_t.mp h))
theorem spot_trans {I : Nat → Nat → Bool} {k j u v : Nat} (h : spot I k (j % 64) (j / 64) = true) (h2 : spot I j u v = true) : spot I k u v = true := spot_t.mpr (cn_trans (spot_t.mp h) (spot_t.mp h2))
theorem spot_self (I : Nat → Nat → Bool) (k : Nat) : spot I k (k % 64) (k / 64) = true := spot_t.mpr (cn_refl I _ _)
theorem spot_ink {I : Nat → Nat → Bool} {k u v : Nat} (hi : pk2 I k = true) (h : spot I k u v = true) : I u v = true := cn_ink hi (spot_t.mp h)
/-- each has a first one -/
theorem ld_ex {I : Nat → Nat → Bool} {k : Nat} (hi : pk2 I k = true) : ∃ j, j ≤ k ∧ ldB I j = true ∧ spot I j (k % 64) (k / 64) = true := by
  obtain ⟨j, h1, h2, h3⟩ := fb_first (p := fun j => spot I k (j % 64) (j / 64) = true) (n := k + 1) ⟨k, by omega, spot_self I k⟩
  have hj : pk2 I j = true := spot_ink hi h2
  refine ⟨j, by omega, ?_, spot_symm hi h2⟩
  unfold ldB
  rw [hj, Bool.true_and, Bool.not_eq_true', anyB_not]
  intro i hij
  cases hc : pk2 (spot I j) i with
  | false => rfl
  | true => exact absurd (spot_trans h2 hc) (h3 i hij)
theorem ld_one {I : Nat → Nat → Bool} {i j u v : Nat} (hi : ldB I i = true) (hj : ldB I j = true) (h1 : spot I i u v = true) (h2 : spot I j u v = true) : i = j := by
  have a : spot I i (j % 64) (j / 64) = true := spot_t.mpr (cn_trans (spot_t.mp h1) (cn_symm (ld_ink hj) (spot_t.mp h2)))
  have b : spot I j (i % 64) (i / 64) = true := spot_symm (ld_ink hi) a
  rcases Nat.lt_trichotomy i j with q | q | q
  · rw [ld_no hj q] at b; cases b
  · exact q
  · rw [ld_no hi q] at a; cases a
/-- what is left once all spots whose first one is below t are taken -/
noncomputable def lef (I : Nat → Nat → Bool) (t : Nat) (u v : Nat) : Bool := I u v && !anyB (fun j => ldB I j && spot I j u v) t
theorem lef_ink {I : Nat → Nat → Bool} {t u v : Nat} (h : lef I t u v = true) : I u v = true := by
  unfold lef at h
  simp only [Bool.and_eq_true] at h
  exact h.1
theorem lef_no {I : Nat → Nat → Bool} {t u v j : Nat} (h : lef I t u v = true) (hj : j < t) (hl : ldB I j = true) : spot I j u v = false := by
  unfold lef at h
  simp only [Bool.and_eq_true, Bool.not_eq_true'] at h
  have := anyB_not.mp h.2 j hj
  rw [hl, Bool.true_and] at this
  exact this
theorem lef_t {I : Nat → Nat → Bool} {t u v : Nat} (hi : I u v = true) (h : ∀ j, j < t → ldB I j = true → spot I j u v = false) : lef I t u v = true := by
  unfold lef
  rw [hi, Bool.true_and, Bool.not_eq_true', anyB_not]
  intro j hj
  cases hl : ldB I j with
  | false => rfl
  | true => rw [h j hj hl]; rfl
theorem lef_0 (I : Nat → Nat → Bool) (u v : Nat) : lef I 0 u v = I u v := by simp [lef, anyB]
theorem lef_cn {I : Nat → Nat → Bool} {t x y u v : Nat} (h : lef I t x y = true) (hc : cn I x y u v) : lef I t u v = true := by
  refine lef_t (cn_ink (lef_ink h) hc) (fun j hj hl => ?_)
  cases hs : spot I j u v with
  | false => rfl
  | true =>
    have := lef_no h hj hl
    rw [spot_t.mpr (cn_trans (spot_t.mp hs) (cn_symm (lef_ink h) hc))] at this
    cases this
/-- the first that is left is the first of its spot -/
theorem lef_first {I : Nat → Nat → Bool} {t j : Nat} (h : pk2 (lef I t) j = true) (h2 : ∀ i, i < j → pk2 (lef I t) i = false) : ldB I j = true ∧ t ≤ j ∧ (∀ i, t ≤ i → i < j → ldB I i = false) := by
  have hi : pk2 I j = true := lef_ink h
  have own : ∀ i, t ≤ i → i < j → ldB I i = false := by
    intro i h1 h3
    cases hl : ldB I i with
    | false => rfl
    | true =>
      have := h2 i h3
      rw [show pk2 (lef I t) i = true from lef_t (ld_ink hl) (fun k hk hlk => by
        cases hs : spot I k (i % 64) (i / 64) with
        | false => rfl
        | true =>
          have := ld_one hl hlk (spot_self I i) hs
          omega)] at this
      cases this
  obtain ⟨k, k1, k2, k3⟩ := ld_ex hi
  have hk : t ≤ k := by
    rcases Nat.lt_or_ge k t with q | q
    · have := lef_no h q k2
      rw [k3] at this; cases this
    · exact q
  have ek : k = j := by
    rcases Nat.lt_or_ge k j with q | q
    · rw [own k hk q] at k2; cases k2
    · omega
  subst ek
  exact ⟨k2, hk, own⟩
theorem ct_none {p : Nat → Bool} {m n : Nat} (h : m ≤ n) (h2 : ∀ i, m ≤ i → i < n → p i = false) : fb_ct p n = fb_ct p m := ct_ext2 h h2
theorem lef_next {I : Nat → Nat → Bool} {t j : Nat} (hj : ldB I j = true) (ht : t ≤ j) (h2 : ∀ i, t ≤ i → i < j → ldB I i = false) (u v : Nat) : lef I (j + 1) u v = (lef I t u v && !spot I j u v) := by
  cases h : lef I t u v with
  | false =>
    simp only [Bool.false_and]
    cases h3 : lef I (j + 1) u v with
    | false => rfl
    | true =>
      have : lef I t u v = true := lef_t (lef_ink h3) (fun k hk hl => lef_no h3 (by omega) hl)
      rw [h] at this; cases this
  | true =>
    simp only [Bool.true_and]
    cases hs : spot I j u v with
    | true =>
      simp only [Bool.not_true]
      cases h3 : lef I (j + 1) u v with
      | false => rfl
      | true =>
        have := lef_no h3 (Nat.lt_succ_self j) hj
        rw [hs] at this; cases this
    | false =>
      simp only [Bool.not_false]
      refine lef_t (lef_ink h) (fun k hk hl => ?_)
      rcases Nat.lt_or_ge k t with q | q
      · exact lef_no h q hl
      · rcases Nat.lt_or_ge k j with q2 | q2
        · rw [h2 k q q2] at hl; cases hl
        · obtain rfl : k = j := by omega
          exact hs
/-- nothing left: no more first ones -/
theorem lef_end {I : Nat → Nat → Bool} {t n : Nat} (h : ∀ i, i < n → pk2 (lef I t) i = false) : ∀ i, t ≤ i → i < n → ldB I i = false := by
  intro i h1 h2
  cases hl : ldB I i with
  | false => rfl
  | true =>
    have := h i h2
    rw [show pk2 (lef I t) i = true from lef_t (ld_ink hl) (fun k hk hlk => by
      cases hs : spot I k (i % 64) (i / 64) with
      | false => rfl
      | true =>
        have := ld_one hl hlk (spot_self I i) hs
        omega)] at this
    cases this
noncomputable def nSp (I : Nat → Nat → Bool) : Nat := fb_ct (ldB I) 4096
def mxF (p : Nat → Bool) (f : Nat → Nat) : Nat → Nat
  | 0 => 0
  | n + 1 => if p n then max (mxF p f n) (f n) else mxF p f n
theorem mxF_none {p : Nat → Bool} {f : Nat → Nat} {m : Nat} : ∀ {d : Nat}, (∀ i, m ≤ i → i < m + d → p i = false) → mxF p f (m + d) = mxF p f m
  | 0, _ => rfl
  | d + 1, h => by
    show mxF p f (m + d + 1) = _
    simp only [mxF]
    rw [h (m + d) (by omega) (by omega), if_neg (by simp)]
    exact mxF_none (fun i h1 h2 => h i h1 (by omega))
theorem mxF_bd {p : Nat → Bool} {f : Nat → Nat} {B : Nat} (h : ∀ i, f i ≤ B) : ∀ n, mxF p f n ≤ B
  | 0 => Nat.zero_le _
  | n + 1 => by
    have := mxF_bd (p := p) h n
    have := h n
    simp only [mxF]
    split <;> omega
noncomputable def lgSp (I : Nat → Nat → Bool) : Nat := mxF (ldB I) (szS I) 4096
theorem sz_bd (I : Nat → Nat → Bool) (k : Nat) : szS I k ≤ 4096 := fb_ct_le _ _
-- counts of places
theorem ct_rows (S : Nat → Nat → Bool) : ∀ h, fb_sm (fun y => fb_ct (fun x => S x y) 64) h = fb_ct (pk2 S) (64 * h)
  | 0 => rfl
  | h + 1 => by
    rw [fb_sm_succ, ct_rows S h, show 64 * (h + 1) = 64 * h + 64 by omega, fb_ct_split]
    congr 1
    exact fb_ct_cong (fun x hx => (pk2_at S hx).symm)
theorem ct_strict {p q : Nat → Bool} {n k : Nat} (h : ∀ i, i < n → p i = true → q i = true) (hk : k < n) (h1 : p k = false) (h2 : q k = true) : fb_ct p n < fb_ct q n := by
  have a := fb_ct_upd p true hk
  rw [h1] at a
  have b : fb_ct (fun i => if i = k then true else p i) n ≤ fb_ct q n := fb_ct_sub (fun i hi hp => by
    by_cases e : i = k
    · rw [e]; exact h2
    · simp only [if_neg e] at hp; exact h i hi hp)
  simp only [Bool.false_eq_true, if_false, if_true] at a
  omega
-- runs
def UpI (s i : Nat → Bool) (d x : Nat) : Prop := ∃ j, j ≤ x ∧ x < j + d ∧ s j = true ∧ ∀ z, j ≤ z → z ≤ x → i z = true
def UwI (i : Nat → Bool) (d x : Nat) : Prop := d ≤ x + 1 ∧ ∀ z, z ≤ x → x < z + d → i z = true
def DnI (s i : Nat → Bool) (d x : Nat) : Prop := ∃ j, x ≤ j ∧ j < x + d ∧ s j = true ∧ ∀ z, x ≤ z → z ≤ j → i z = true
def DwI (i : Nat → Bool) (d x : Nat) : Prop := ∀ z, x ≤ z → z < x + d → i z = true
theorem UpI_s {s i : Nat → Bool} {d x : Nat} (hd : 1 ≤ d) : UpI s i (2 * d) x ↔ UpI s i d x ∨ (UwI i d x ∧ d ≤ x ∧ UpI s i d (x - d)) := by
  constructor
  · rintro ⟨j, h1, h2, h3, h4⟩
    by_cases c : x < j + d
    · exact Or.inl ⟨j, h1, c, h3, h4⟩
    · exact Or.inr ⟨⟨by omega, fun z z1 z2 => h4 z (by omega) z1⟩, by omega, j, by omega, by omega, h3, fun z z1 z2 => h4 z z1 (by omega)⟩
  · rintro (⟨j, h1, h2, h3, h4⟩ | ⟨⟨u1, u2⟩, h0, j, h1, h2, h3, h4⟩)
    · exact ⟨j, h1, by omega, h3, h4⟩
    · refine ⟨j, by omega, by omega, h3, fun z z1 z2 => ?_⟩
      by_cases c : z ≤ x - d
      · exact h4 z z1 c
      · exact u2 z z2 (by omega)
theorem UwI_s {i : Nat → Bool} {d x : Nat} (hd : 1 ≤ d) : UwI i (2 * d) x ↔ (UwI i d x ∧ d ≤ x ∧ UwI i d (x - d)) := by
  constructor
  · rintro ⟨h1, h2⟩
    exact ⟨⟨by omega, fun z z1 z2 => h2 z z1 (by omega)⟩, by omega, by omega, fun z z1 z2 => h2 z (by omega) (by omega)⟩
  · rintro ⟨⟨h1, h2⟩, h3, h4, h5⟩
    refine ⟨by omega, fun z z1 z2 => ?_⟩
    by_cases c : z ≤ x - d
    · exact h5 z c (by omega)
    · exact h2 z z1 (by omega)
theorem DnI_s {s i : Nat → Bool} {d x : Nat} (hd : 1 ≤ d) : DnI s i (2 * d) x ↔ DnI s i d x ∨ (DwI i d x ∧ DnI s i d (d + x)) := by
  constructor
  · rintro ⟨j, h1, h2, h3, h4⟩
    by_cases c : j < x + d
    · exact Or.inl ⟨j, h1, c, h3, h4⟩
    · exact Or.inr ⟨fun z z1 z2 => h4 z z1 (by omega), j, by omega, by omega, h3, fun z z1 z2 => h4 z (by omega) z2⟩
  · rintro (⟨j, h1, h2, h3, h4⟩ | ⟨u2, j, h1, h2, h3, h4⟩)
    · exact ⟨j, h1, by omega, h3, h4⟩
    · refine ⟨j, by omega, by omega, h3, fun z z1 z2 => ?_⟩
      by_cases c : z < x + d
      · exact u2 z z1 c
      · exact h4 z (by omega) z2
theorem DwI_s {i : Nat → Bool} {d x : Nat} (hd : 1 ≤ d) : DwI i (2 * d) x ↔ (DwI i d x ∧ DwI i d (d + x)) := by
  constructor
  · intro h
    exact ⟨fun z z1 z2 => h z z1 (by omega), fun z z1 z2 => h z (by omega) (by omega)⟩
  · rintro ⟨h1, h2⟩ z z1 z2
    by_cases c : z < x + d
    · exact h1 z z1 c
    · exact h2 z (by omega) (by omega)
theorem runsAt_eq {s i : Int64} (hsi : ∀ x, tb s x = true → tb i x = true) : ∃ v, F_X3_runsAt s i = some v ∧ ∀ x, tb v x = true ↔ (UpI (tb s) (tb i) 64 x ∨ DnI (tb s) (tb i) 64 x) := by
  unfold F_X3_runsAt
  obtain ⟨e, h1, h2, h3⟩ := iter_for (f := bd_X3_runsAt_15) 6 (fun k q => q.2.2.2.2 = nI (2 ^ k) ∧ (∀ x, tb q.1 x = true ↔ UpI (tb s) (tb i) (2 ^ k) x) ∧ (∀ x, tb q.2.1 x = true ↔ DnI (tb s) (tb i) (2 ^ k) x) ∧ (∀ x, tb q.2.2.1 x = true ↔ UwI (tb i) (2 ^ k) x) ∧ (∀ x, tb q.2.2.2.1 x = true ↔ DwI (tb i) (2 ^ k) x))
    (fun e => (∀ x, tb e.1 x = true ↔ UpI (tb s) (tb i) 64 x) ∧ (∀ x, tb e.2 x = true ↔ DnI (tb s) (tb i) 64 x)) (s := (s, s, i, i, (1 : Int32))) (n := FU)
    (by
      rintro k ⟨q1, q2, q3, q4, q5⟩ hk ⟨c1, c2, c3, c4, c5⟩
      simp only at c1 c2 c3 c4 c5
      subst c1
      have hd : 2 ^ k ≤ 2 ^ 5 := Nat.pow_le_pow_right (by omega) (by omega)
      have hd0 : 1 ≤ 2 ^ k := Nat.one_le_two_pow
      have ep : 2 ^ (k + 1) = 2 * 2 ^ k := by rw [Nat.pow_succ]; omega
      rw [ep]
      generalize 2 ^ k = d at *
      unfold bd_X3_runsAt_15
      simp (disch := omega) only [e0, e1, e2, e3, e4, e7, e8, e9, e10, e12, e16, e20, e63, e64, e100, e4096, nI_add, pk_mul, nI_sb, le_t, le_f, lt_t, lt_f, nI_cl, gd_nI, ↓reduceIte, nmE, Option.bind_some, Option.bind_eq_bind]
      refine ⟨_, rfl, ?_, fun x => ?_, fun x => ?_, fun x => ?_, fun x => ?_⟩
      · show nI (d * 2) = nI (2 * d)
        rw [Nat.mul_comm]
      · show tb (q1 ||| (q3 &&& shlL q1 (nI d))) x = true ↔ _
        rw [tb_or, tb_and, tb_shl (by omega), UpI_s hd0, ← c2 x, ← c4 x]
        simp only [Bool.or_eq_true, Bool.and_eq_true, decide_eq_true_eq]
        constructor
        · rintro (h | ⟨h1, h2, h3, h4⟩)
          · exact Or.inl h
          · exact Or.inr ⟨h1, h3, (c2 _).mp h4⟩
        · rintro (h | ⟨h1, h3, h4⟩)
          · exact Or.inl h
          · refine Or.inr ⟨h1, ?_, h3, (c2 _).mpr h4⟩
            rcases Nat.lt_or_ge x 64 with q | q
            · exact q
            · rw [tb_big q] at h1; cases h1
      · show tb (q2 ||| (q4 &&& ushrL q2 (nI d))) x = true ↔ _
        rw [tb_or, tb_and, tb_ushr (by omega), DnI_s hd0, ← c3 x, ← c3 (d + x), ← c5 x]
        simp only [Bool.or_eq_true, Bool.and_eq_true]
      · show tb (q3 &&& shlL q3 (nI d)) x = true ↔ _
        rw [tb_and, tb_shl (by omega), UwI_s hd0, ← c4 x]
        simp only [Bool.and_eq_true, decide_eq_true_eq]
        constructor
        · rintro ⟨h1, h2, h3, h4⟩
          exact ⟨h1, h3, (c4 _).mp h4⟩
        · rintro ⟨h1, h3, h4⟩
          refine ⟨h1, ?_, h3, (c4 _).mpr h4⟩
          rcases Nat.lt_or_ge x 64 with q | q
          · exact q
          · rw [tb_big q] at h1; cases h1
      · show tb (q4 &&& ushrL q4 (nI d)) x = true ↔ _
        rw [tb_and, tb_ushr (by omega), DwI_s hd0, ← c5 x, ← c5 (d + x)]
        simp only [Bool.and_eq_true])
    (by
      rintro ⟨q1, q2, q3, q4, q5⟩ ⟨c1, c2, c3, c4, c5⟩
      simp only at c1 c2 c3 c4 c5
      subst c1
      unfold bd_X3_runsAt_15
      simp (disch := omega) only [e0, e1, e2, e3, e4, e7, e8, e9, e10, e12, e16, e20, e63, e64, e100, e4096, nI_add, pk_mul, nI_sb, le_t, le_f, lt_t, lt_f, nI_cl, gd_nI, ↓reduceIte, nmE, Option.bind_some, Option.bind_eq_bind]
      exact ⟨_, rfl, c2, c3⟩)
    ⟨rfl, fun x => ⟨fun h => ⟨x, by omega, by omega, h, fun z z1 z2 => by rw [show z = x by omega]; exact hsi x h⟩, fun ⟨j, j1, j2, j3, _⟩ => by rw [show x = j by omega]; exact j3⟩, fun x => ⟨fun h => ⟨x, by omega, by omega, h, fun z z1 z2 => by rw [show z = x by omega]; exact hsi x h⟩, fun ⟨j, j1, j2, j3, _⟩ => by rw [show x = j by omega]; exact j3⟩, fun x => ⟨fun h => ⟨by omega, fun z z1 z2 => by rw [show z = x by omega]; exact h⟩, fun h => h.2 x (by omega) (by omega)⟩, fun x => ⟨fun h z z1 z2 => by rw [show z = x by omega]; exact h, fun h => h x (by omega) (by omega)⟩⟩ (by show _ < 5000; omega)
  rw [h1, Option.bind_some]
  refine ⟨_, rfl, fun x => ?_⟩
  rw [tb_or, Bool.or_eq_true, h2 x, h3 x]
