theorem stepColumns_tb {s : Nat} (hs : s < 8) (i : Nat) : tb (F_X4_stepColumns (nI s)) i = decide (8 * s ≤ i ∧ i < 8 * s + 8) := by
  unfold F_X4_stepColumns
  rw [show (8 : Int32) = nI 8 from rfl, pk_mul, tb_shl (by omega)]
  have h : tb (255 : Int64) (i - 8 * s) = decide (i - 8 * s < 8) := by
    rw [show (255 : Int64) = lN (2 ^ 8 - 1) from rfl, tb_lN (by decide), Nat.testBit_two_pow_sub_one]
  rw [h]
  by_cases h1 : 8 * s ≤ i
  · by_cases h2 : i < 8 * s + 8
    · simp [h1, h2]; omega
    · simp [h1, h2]; omega
  · simp [h1]
theorem steps_eq {Λ : Lay} {σ : Sto} {a w : Nat} (h : σ.1 a 0 = nI w) (hw : w ≤ 64) : F_X2_steps Λ σ a = nI ((w + 7) / 8) := by
  unfold F_X2_steps
  rw [h]
  simp (disch := omega) only [e0, e1, e2, e3, e4, e7, e8, e9, e10, e12, e16, e20, e63, e64, e100, e4096, nI_add, pk_div]
/-- ink of this step in row y -/
def stepB (P : PG) (s y : Nat) : Bool := anyB (fun x => P.2.2 (8 * s + x) y) 8
theorem stepB_iff {P : PG} {s y : Nat} : stepB P s y = true ↔ ∃ x, 8 * s ≤ x ∧ x < 8 * s + 8 ∧ P.2.2 x y = true := by
  unfold stepB
  rw [anyB_iff]
  constructor
  · rintro ⟨k, h1, h2⟩
    exact ⟨8 * s + k, by omega, by omega, h2⟩
  · rintro ⟨x, h1, h2, h3⟩
    exact ⟨x - 8 * s, by omega, by rw [show 8 * s + (x - 8 * s) = x by omega]; exact h3⟩
/-- the greatest below n that has p, and one more; 0: none -/
def topB (p : Nat → Bool) : Nat → Nat
  | 0 => 0
  | n + 1 => if p n then n + 1 else topB p n
theorem topB_le (p : Nat → Bool) : ∀ n, topB p n ≤ n
  | 0 => Nat.le_refl 0
  | n + 1 => by
    have := topB_le p n
    simp only [topB]
    split <;> omega
theorem topB_gt (p : Nat → Bool) : ∀ n k, topB p n ≤ k → k < n → p k = false
  | 0, k, _, h => by omega
  | n + 1, k, h1, h2 => by
    simp only [topB] at h1
    by_cases hp : p n = true
    · rw [if_pos hp] at h1; omega
    · rw [if_neg hp] at h1
      by_cases e : k = n
      · subst e; cases hq : p k with
        | false => rfl
        | true => exact absurd hq hp
      · exact topB_gt p n k h1 (by omega)
theorem topB_is (p : Nat → Bool) : ∀ n, 0 < topB p n → p (topB p n - 1) = true
  | 0, h => by simp [topB] at h
  | n + 1, h => by
    simp only [topB] at h ⊢
    by_cases hp : p n = true
    · rw [if_pos hp]; exact hp
    · rw [if_neg hp] at h ⊢
      exact topB_is p n h
theorem topB_cong {p q : Nat → Bool} : ∀ {n : Nat}, (∀ k, k < n → p k = q k) → topB p n = topB q n
  | 0, _ => rfl
  | n + 1, h => by
    simp only [topB]
    rw [h n (by omega), topB_cong (fun k hk => h k (by omega))]
/-- one that is the greatest is topB -/
theorem topB_one {p : Nat → Bool} {n t : Nat} (h1 : t ≤ n) (h2 : ∀ k, t ≤ k → k < n → p k = false) (h3 : 0 < t → p (t - 1) = true) : topB p n = t := by
  have q1 := topB_gt p n
  have q2 := topB_is p n
  have q3 := topB_le p n
  rcases Nat.lt_trichotomy (topB p n) t with h | h | h
  · have := h3 (by omega)
    rw [q1 (t - 1) (by omega) (by omega)] at this; cases this
  · exact h
  · have := q2 (by omega)
    rw [h2 _ (by omega) (by omega)] at this; cases this
/-- a loop down: from n - 1 until p -/
theorem down_loop {E : Type} {f : Int32 → Option (Int32 ⊕ E)} (p : Nat → Bool) (out : Nat → E) (n : Nat) (hn : n < 4999)
    (hs : ∀ k, k < n → p k = false → f (nI (k + 1) - 1) = some (.inl (nI k - 1)))
    (he : ∀ k, k < n → p k = true → f (nI (k + 1) - 1) = some (.inr (out (k + 1))))
    (h0 : f (nI 0 - 1) = some (.inr (out 0))) : iter f FU (nI n - 1) = some (out (topB p n)) := by
  have key : ∀ k m, k ≤ n → k < m → iter f m (nI k - 1) = some (out (topB p k)) := by
    intro k
    induction k with
    | zero =>
      intro m _ hm
      obtain ⟨m, rfl⟩ : ∃ j, m = j + 1 := ⟨m - 1, by omega⟩
      simp only [iter, h0, topB]
    | succ k ih =>
      intro m hk hm
      obtain ⟨m, rfl⟩ : ∃ j, m = j + 1 := ⟨m - 1, by omega⟩
      cases hp : p k with
      | false =>
        simp only [iter, hs k (by omega) hp, topB, hp]
        exact ih m (by omega) (by omega)
      | true =>
        simp only [iter, he k (by omega) hp, topB, hp, if_true]
  exact key n FU (Nat.le_refl _) (by show n < 5000; omega)
theorem add_m1 (x : Int32) : x + (-1) = x - 1 := (Int32.sub_eq_add_neg x 1).symm
theorem sub1_lt0 : nI 0 - 1 < (0 : Int32) := by decide
theorem footOf_eq {Λ : Lay} {σ : Sto} {a r N s : Nat} {P : PG} (hr : rfA Λ a 2 = r) (hn : ln Λ r = N) (hN : N ≤ 128) (hS : Sh σ a r N P) (hs : s < 8) : F_X2_footOf Λ σ a (nI s) = some (nI (topB (stepB P s) P.2.1) - 1) := by
  obtain ⟨s1, s2, s3, s4, s5, s6⟩ := hS
  unfold F_X2_footOf
  have hz : ∀ k, k < P.2.1 → ((lg_cmp ((σ.2 r k) &&& F_X4_stepColumns (nI s)) (0 : Int64) = 0) ↔ stepB P s k = false) := by
    intro k hk
    rw [show (0 : Int32) = nI 0 from rfl, zero_is]
    constructor
    · intro h
      cases hq : stepB P s k with
      | false => rfl
      | true =>
        obtain ⟨x, h1, h2, h3⟩ := stepB_iff.mp hq
        have := h x
        rw [tb_and, s5 k (by omega), h3, stepColumns_tb hs] at this
        simp [h1, h2] at this
    · intro h x
      rw [tb_and, s5 k (by omega), stepColumns_tb hs]
      by_cases h1 : 8 * s ≤ x ∧ x < 8 * s + 8
      · cases hg : P.2.2 x k with
        | false => rfl
        | true => rw [stepB_iff.mpr ⟨x, h1.1, h1.2, hg⟩] at h; cases h
      · simp [h1]
  rw [s2, nmE, down_loop (stepB P s) (fun t => nI t - 1) P.2.1 (by omega)]
  · rfl
  · intro k hk hp
    unfold bd_X2_footOf_7
    rw [nI_pred, if_neg (nI_pos (by omega)), hr, hn, if_pos (gd_nI (by omega) (by omega)), nmE, nI_cl (by omega), if_pos ((hz k hk).mpr hp), nmE, add_m1]
  · intro k hk hp
    unfold bd_X2_footOf_7
    rw [nI_pred, if_neg (nI_pos (by omega)), hr, hn, if_pos (gd_nI (by omega) (by omega)), nmE, nI_cl (by omega), if_neg (fun h => by rw [(hz k hk).mp h] at hp; cases hp)]
  · unfold bd_X2_footOf_7
    rw [if_pos sub1_lt0]
theorem highestBit_eq (v : Int64) : F_X4_highestBit v = some (nI (topB (tb v) 64) - 1) := by
  unfold F_X4_highestBit
  rw [show (63 : Int32) = nI 64 - 1 by decide, down_loop (tb v) (fun t => nI t - 1) 64 (by omega)]
  · rfl
  · intro k hk hp
    unfold bd_X4_highestBit_3
    rw [nI_pred, if_neg (nI_pos (by omega)), if_pos (by rw [show (0 : Int32) = nI 0 from rfl, bit_is0 hk]; exact hp)]
    simp only [nmE, add_m1]
  · intro k hk hp
    unfold bd_X4_highestBit_3
    rw [nI_pred, if_neg (nI_pos (by omega)), if_neg (by rw [show (0 : Int32) = nI 0 from rfl, bit_is0 hk, hp]; simp)]
  · unfold bd_X4_highestBit_3
    rw [if_pos sub1_lt0]
-- slides
def sl (s : Int) (k : Nat) : Int := s * k / 16
def lst (s : Int) (n : Nat) : Int := min 0 (sl s (n - 1))
def spr (s : Int) (n : Nat) : Nat := (sl s (n - 1)).natAbs
def off (s : Int) (n k : Nat) : Nat := (sl s k - lst s n).toNat
def okS (s : Int) : Prop := -16 ≤ s ∧ s ≤ 16
theorem slide_dec : ∀ i : Fin 33, ∀ k : Fin 65, F_X4_slide (iI ((i.val : Int) - 16)) (nI k.val) = iI (sl ((i.val : Int) - 16) k.val) := by decide +kernel
theorem floor_dec : ∀ i : Fin 33, ∀ k : Fin 65, F_J9_floorDiv_7cf53 (iI ((i.val : Int) - 16) * (nI k.val)) 16 = iI (sl ((i.val : Int) - 16) k.val) := by decide +kernel
theorem slide_eq {s : Int} {k : Nat} (hs : okS s) (hk : k ≤ 64) : F_X4_slide (iI s) (nI k) = iI (sl s k) := by
  unfold okS at hs
  have h := slide_dec ⟨(s + 16).toNat, by omega⟩ ⟨k, by omega⟩
  simp only at h
  rw [show (((s + 16).toNat : Nat) : Int) - 16 = s by omega] at h
  exact h
theorem floor_eq {s : Int} {k : Nat} (hs : okS s) (hk : k ≤ 64) : F_J9_floorDiv_7cf53 (iI s * nI k) 16 = iI (sl s k) := by
  unfold okS at hs
  have h := floor_dec ⟨(s + 16).toNat, by omega⟩ ⟨k, by omega⟩
  simp only at h
  rw [show (((s + 16).toNat : Nat) : Int) - 16 = s by omega] at h
  exact h
theorem sl_mono {s : Int} (h : 0 ≤ s) {j k : Nat} (hj : j ≤ k) : sl s j ≤ sl s k := Int.ediv_le_ediv (by omega) (Int.mul_le_mul_of_nonneg_left (by omega) h)
theorem sl_anti {s : Int} (h : s ≤ 0) {j k : Nat} (hj : j ≤ k) : sl s k ≤ sl s j := Int.ediv_le_ediv (by omega) (Int.mul_le_mul_of_nonpos_left h (by omega))
theorem sl_0 (s : Int) : sl s 0 = 0 := by simp [sl]
theorem sl_bd {s : Int} {k : Nat} (hs : okS s) : -(k : Int) ≤ sl s k ∧ sl s k ≤ k := by
  unfold sl
  have h1 : s * (k : Int) ≤ 16 * (k : Int) := Int.mul_le_mul_of_nonneg_right hs.2 (by omega)
  have h2 : (-16) * (k : Int) ≤ s * (k : Int) := Int.mul_le_mul_of_nonneg_right hs.1 (by omega)
  omega
theorem off_bd {s : Int} {n k : Nat} (h : k < n) : lst s n ≤ sl s k ∧ sl s k - lst s n ≤ spr s n := by
  unfold lst spr
  rcases Int.le_total 0 s with h0 | h0
  · have h1 := sl_mono h0 (show k ≤ n - 1 by omega)
    have h2 := sl_mono h0 (show 0 ≤ k by omega)
    rw [sl_0] at h2
    omega
  · have h1 := sl_anti h0 (show k ≤ n - 1 by omega)
    have h2 := sl_anti h0 (show 0 ≤ k by omega)
    rw [sl_0] at h2
    omega
theorem off_eq {s : Int} {n k : Nat} (h : k < n) : (off s n k : Int) = sl s k - lst s n := by
  have := (off_bd (s := s) h).1
  unfold off
  omega
theorem off_le {s : Int} {n k : Nat} (h : k < n) : off s n k ≤ spr s n := by
  have h1 := (off_bd (s := s) h)
  have h2 := off_eq (s := s) h
  omega
theorem spr_bd {s : Int} {n : Nat} (hs : okS s) (h : 0 < n) : spr s n < n := by
  have := sl_bd (k := n - 1) hs
  unfold spr
  omega
theorem mn_iI {a b : Int} (ha1 : -2147483648 ≤ a) (ha2 : a < 2147483648) (hb1 : -2147483648 ≤ b) (hb2 : b < 2147483648) : mn (iI a) (iI b) = iI (min a b) := by
  unfold mn
  by_cases h : b < a
  · rw [if_pos ((iI_lt hb1 hb2 ha1 ha2).mpr h), show min a b = b by omega]
  · rw [if_neg (fun q => h ((iI_lt hb1 hb2 ha1 ha2).mp q)), show min a b = a by omega]
theorem mx_iI {a b : Int} (ha1 : -2147483648 ≤ a) (ha2 : a < 2147483648) (hb1 : -2147483648 ≤ b) (hb2 : b < 2147483648) : mx (iI a) (iI b) = iI (max a b) := by
  unfold mx
  by_cases h : a < b
  · rw [if_pos ((iI_lt ha1 ha2 hb1 hb2).mpr h), show max a b = b by omega]
  · rw [if_neg (fun q => h ((iI_lt ha1 ha2 hb1 hb2).mp q)), show max a b = a by omega]
theorem ab_iI {a : Int} (ha1 : -2147483647 ≤ a) (ha2 : a < 2147483648) : ab (iI a) = nI a.natAbs := by
  unfold ab
  rw [iI_nat]
  by_cases h : 0 ≤ a
  · rw [if_pos (by rw [show (0 : Int32) = iI 0 from rfl]; exact (iI_le (by omega) (by omega) (by omega) (by omega)).mpr h)]
    congr 1; omega
  · rw [if_neg (fun q => h (by rw [show (0 : Int32) = iI 0 from rfl] at q; exact (iI_le (by omega) (by omega) (by omega) (by omega)).mp q)), show (0 : Int32) = iI 0 from rfl, iI_sub]
    congr 1; omega
theorem leastSlide_eq {s : Int} {n : Nat} (hs : okS s) (h0 : 0 < n) (hn : n ≤ 65) : F_X4_leastSlide (iI s) (nI n) = iI (lst s n) := by
  unfold F_X4_leastSlide
  have h := sl_bd (k := n - 1) hs
  rw [nI_subo h0, nmE, nmE, slide_eq hs (by omega), show (0 : Int32) = iI 0 from rfl, mn_iI (by omega) (by omega) (by omega) (by omega)]
  rfl
theorem spread_eq {s : Int} {n : Nat} (hs : okS s) (h0 : 0 < n) (hn : n ≤ 65) : F_X4_spread (iI s) (nI n) = nI (spr s n) := by
  unfold F_X4_spread
  have h := sl_bd (k := n - 1) hs
  rw [nI_subo h0, nmE, nmE, slide_eq hs (by omega), ab_iI (by omega) (by omega)]
  rfl
theorem off_iI {s : Int} {n k : Nat} (h : k < n) : iI (sl s k) - iI (lst s n) = nI (off s n k) := by
  rw [iI_sub, iI_nat, off_eq h]
