/-! HOW MANY 1s: the library's bitCount by bytes -/
theorem and_cons (x m M : Nat) (hm : m < 256) : x &&& (m + 256 * M) = ((x % 256) &&& m) + 256 * ((x / 256) &&& M) := by
  apply Nat.eq_of_testBit_eq
  intro i
  have h1 : ((x % 256) &&& m) < 2 ^ 8 := Nat.lt_of_le_of_lt Nat.and_le_right hm
  rw [Nat.testBit_and, Nat.add_comm m, Nat.add_comm ((x % 256) &&& m), show (256 : Nat) = 2 ^ 8 from rfl, Nat.testBit_two_pow_mul_add _ hm, Nat.testBit_two_pow_mul_add _ h1]
  by_cases h : i < 8
  · rw [if_pos h, if_pos h, Nat.testBit_and, show (x % 256).testBit i = (x % 2 ^ 8).testBit i from rfl, Nat.testBit_mod_two_pow]
    simp [h]
  · rw [if_neg h, if_neg h, Nat.testBit_and, Nat.testBit_div_two_pow]
    rw [show i - 8 + 8 = i by omega]
def mk (c : Nat) : Nat → Nat
  | 0 => 0
  | k + 1 => c + 256 * mk c k
def pop8 (β : Nat) : Nat := fb_ct (fun j => β.testBit j) 8
def lan : Nat → Nat → Nat
  | 0, _ => 0
  | k + 1, n => pop8 (n % 256) + 256 * lan k (n / 256)
def S1 (k n : Nat) : Nat := n - ((n / 2) &&& mk 85 k)
def S2 (k n : Nat) : Nat := (S1 k n &&& mk 51 k) + ((S1 k n / 4) &&& mk 51 k)
def S3 (k n : Nat) : Nat := (S2 k n + S2 k n / 16) &&& mk 15 k
theorem s1_dec : ∀ β : Fin 256, ∀ e : Fin 2, ((β.val / 2 + 128 * e.val) &&& 85) = ((β.val / 2) &&& 85) := by decide +kernel
theorem s2_dec : ∀ β : Fin 256, ∀ e : Fin 4, ((β.val / 4 + 64 * e.val) &&& 51) = ((β.val / 4) &&& 51) := by decide +kernel
theorem s2_bd : ∀ β : Fin 256, ((β.val &&& 51) + ((β.val / 4) &&& 51)) % 16 ≤ 6 ∧ ((β.val &&& 51) + ((β.val / 4) &&& 51)) ≤ 102 := by decide +kernel
theorem s3_dec : ∀ β : Fin 103, ∀ e : Fin 7, ((β.val + β.val / 16 + 16 * e.val) &&& 15) = (β.val + β.val / 16) &&& 15 := by decide +kernel
theorem s_all : ∀ β : Fin 256, (((((β.val - ((β.val / 2) &&& 85)) &&& 51) + (((β.val - ((β.val / 2) &&& 85)) / 4) &&& 51)) + (((β.val - ((β.val / 2) &&& 85)) &&& 51) + (((β.val - ((β.val / 2) &&& 85)) / 4) &&& 51)) / 16) &&& 15) = pop8 β.val := by decide +kernel
theorem S1_cons (k n : Nat) : S1 (k + 1) n = (n % 256 - ((n % 256 / 2) &&& 85)) + 256 * S1 k (n / 256) := by
  unfold S1
  rw [mk, and_cons _ _ _ (by omega), show n / 2 % 256 = n % 256 / 2 + 128 * (n / 256 % 2) by omega, show n / 2 / 256 = n / 256 / 2 by omega]
  have h := s1_dec ⟨n % 256, by omega⟩ ⟨n / 256 % 2, by omega⟩
  simp only at h
  rw [h]
  have h1 : (n % 256 / 2) &&& 85 ≤ n % 256 / 2 := Nat.and_le_left
  have h2 : (n / 256 / 2) &&& mk 85 k ≤ n / 256 / 2 := Nat.and_le_left
  omega
theorem S2_cons (k n : Nat) : S2 (k + 1) n = (((n % 256 - ((n % 256 / 2) &&& 85)) &&& 51) + (((n % 256 - ((n % 256 / 2) &&& 85)) / 4) &&& 51)) + 256 * S2 k (n / 256) := by
  unfold S2
  rw [S1_cons]
  generalize ht : n % 256 - ((n % 256 / 2) &&& 85) = t
  generalize S1 k (n / 256) = T
  have h3 : t < 256 := by omega
  rw [mk, and_cons _ _ _ (by omega), and_cons _ _ _ (by omega), show (t + 256 * T) % 256 = t by omega, show (t + 256 * T) / 256 = T by omega, show (t + 256 * T) / 4 % 256 = t / 4 + 64 * (T % 4) by omega, show (t + 256 * T) / 4 / 256 = T / 4 by omega]
  have h := s2_dec ⟨t, h3⟩ ⟨T % 4, by omega⟩
  simp only at h
  rw [h]
  omega
theorem S2_16 : ∀ k n, S2 k n % 16 ≤ 6
  | 0, n => by simp [S2, mk]
  | k + 1, n => by
    rw [S2_cons]
    have h1 : n % 256 - ((n % 256 / 2) &&& 85) < 256 := by omega
    have h := (s2_bd ⟨_, h1⟩).1
    simp only at h
    omega
theorem S3_cons (k n : Nat) : S3 (k + 1) n = pop8 (n % 256) + 256 * S3 k (n / 256) := by
  unfold S3
  have hq := S2_16 k (n / 256)
  have ha := s_all ⟨n % 256, by omega⟩
  simp only at ha
  rw [S2_cons, ← ha]
  have h1 : n % 256 - ((n % 256 / 2) &&& 85) < 256 := by omega
  have h := (s2_bd ⟨_, h1⟩).2
  simp only at h
  generalize ((n % 256 - ((n % 256 / 2) &&& 85)) &&& 51) + (((n % 256 - ((n % 256 / 2) &&& 85)) / 4) &&& 51) = u at h ⊢
  generalize S2 k (n / 256) = U at hq ⊢
  rw [mk, and_cons _ _ _ (by omega), show (u + 256 * U + (u + 256 * U) / 16) % 256 = u + u / 16 + 16 * (U % 16) by omega, show (u + 256 * U + (u + 256 * U) / 16) / 256 = U + U / 16 by omega]
  have h3 := s3_dec ⟨u, by omega⟩ ⟨U % 16, by omega⟩
  simp only at h3
  rw [h3]
theorem S3_lan : ∀ k n, S3 k n = lan k n
  | 0, n => by simp [S3, mk, lan]
  | k + 1, n => by rw [S3_cons, lan, S3_lan k]
theorem pop8_le (β : Nat) : pop8 β ≤ 8 := fb_ct_le _ _
theorem ct_bytes : ∀ k n, fb_ct (fun i => n.testBit i) (8 * (k + 1)) = pop8 (n % 256) + fb_ct (fun i => (n / 256).testBit i) (8 * k) := by
  intro k n
  rw [show 8 * (k + 1) = 8 + 8 * k by omega, fb_ct_split]
  congr 1
  · apply fb_ct_cong
    intro i hi
    rw [show (256 : Nat) = 2 ^ 8 from rfl, Nat.testBit_mod_two_pow]
    simp [hi]
  · apply fb_ct_cong
    intro i hi
    rw [show (256 : Nat) = 2 ^ 8 from rfl, Nat.testBit_div_two_pow, Nat.add_comm]
theorem tb_lN {n : Nat} (h : n < 2 ^ 64) (i : Nat) : tb (lN n) i = n.testBit i := by
  unfold tb
  rw [wb_tb, BitVec.getLsbD_ofNat]
  by_cases hi : i < 64
  · simp [hi]
  · rw [show decide (i < 64) = false from decide_eq_false hi, Bool.false_and]
    symm
    exact Nat.testBit_lt_two_pow (Nat.lt_of_lt_of_le h (Nat.pow_le_pow_right (n := 2) (by omega) (Nat.le_of_not_lt hi)))
theorem ushr_lN {n k : Nat} (hn : n < 2 ^ 64) (hk : k < 64) : ushrL (lN n) (nI k) = lN (n / 2 ^ k) := wb_shr hn hk
theorem sum_up {p0 p1 p2 p3 p4 p5 p6 p7 : Nat} (q0 : p0 ≤ 8) (q1 : p1 ≤ 8) (q2 : p2 ≤ 8) (q3 : p3 ≤ 8) (q4 : p4 ≤ 8) (q5 : p5 ≤ 8) (q6 : p6 ≤ 8) (q7 : p7 ≤ 8) :
    ∃ V W U : Nat, V = p0 + 256 * (p1 + 256 * (p2 + 256 * (p3 + 256 * (p4 + 256 * (p5 + 256 * (p6 + 256 * (p7 + 256 * 0))))))) ∧ V < 2 ^ 60 ∧ W = V + V / 2 ^ 8 ∧ W < 2 ^ 61 ∧ U = W + W / 2 ^ 16 ∧ U < 2 ^ 62 ∧ (U + U / 2 ^ 32) % 2 ^ 7 = p0 + (p1 + (p2 + (p3 + (p4 + (p5 + (p6 + p7)))))) := by
  have dv : ∀ {p X : Nat}, p < 256 → (p + 256 * X) / 256 = X := fun h => by omega
  refine ⟨_, _, _, rfl, by omega, rfl, ?_, rfl, ?_, ?_⟩
  all_goals rw [show (2 : Nat) ^ 8 = 256 from rfl, dv (by omega)]
  · omega
  all_goals rw [show p0 + 256 * (p1 + 256 * (p2 + 256 * (p3 + 256 * (p4 + 256 * (p5 + 256 * (p6 + 256 * (p7 + 256 * 0))))))) + (p1 + 256 * (p2 + 256 * (p3 + 256 * (p4 + 256 * (p5 + 256 * (p6 + 256 * (p7 + 256 * 0))))))) = (p0 + p1) + 256 * ((p1 + p2) + 256 * ((p2 + p3) + 256 * ((p3 + p4) + 256 * ((p4 + p5) + 256 * ((p5 + p6) + 256 * ((p6 + p7) + 256 * p7)))))) by omega, show (2 : Nat) ^ 16 = 256 * 256 from rfl, ← Nat.div_div_eq_div_mul, dv (by omega), dv (by omega)]
  · omega
  rw [show (p0 + p1) + 256 * ((p1 + p2) + 256 * ((p2 + p3) + 256 * ((p3 + p4) + 256 * ((p4 + p5) + 256 * ((p5 + p6) + 256 * ((p6 + p7) + 256 * p7)))))) + ((p2 + p3) + 256 * ((p3 + p4) + 256 * ((p4 + p5) + 256 * ((p5 + p6) + 256 * ((p6 + p7) + 256 * p7))))) = (p0 + p1 + p2 + p3) + 256 * ((p1 + p2 + p3 + p4) + 256 * ((p2 + p3 + p4 + p5) + 256 * ((p3 + p4 + p5 + p6) + 256 * ((p4 + p5 + p6 + p7) + 256 * ((p5 + p6 + p7) + 256 * ((p6 + p7) + 256 * p7)))))) by omega, show (2 : Nat) ^ 32 = 256 * 256 * 256 * 256 from rfl, ← Nat.div_div_eq_div_mul, ← Nat.div_div_eq_div_mul, ← Nat.div_div_eq_div_mul, dv (by omega), dv (by omega), dv (by omega), dv (by omega)]
  omega
theorem nI_and7 (z : Nat) : nI z &&& nI (2 ^ 7 - 1) = nI (z % 2 ^ 7) := by
  apply Int32.toBitVec_inj.mp
  apply BitVec.eq_of_toNat_eq
  show ((BitVec.ofNat 32 z) &&& (BitVec.ofNat 32 127)).toNat = (BitVec.ofNat 32 (z % 2 ^ 7)).toNat
  rw [BitVec.toNat_and, BitVec.toNat_ofNat, BitVec.toNat_ofNat, BitVec.toNat_ofNat, show 127 % 2 ^ 32 = 2 ^ 7 - 1 from rfl, Nat.and_two_pow_sub_one_eq_mod]
  omega
theorem bc_1 {n : Nat} (hn : n < 2 ^ 64) : lN n - (ushrL (lN n) (1 : Int32) &&& (6148914691236517205 : Int64)) = lN (S1 8 n) := by
  rw [show (6148914691236517205 : Int64) = lN (mk 85 8) by decide +kernel, show (1 : Int32) = nI 1 from rfl, ushr_lN hn (by omega), fb_andL]
  have l1 : (n / 2 ^ 1) &&& mk 85 8 ≤ n / 2 ^ 1 := Nat.and_le_left
  rw [lN_sub (by omega)]
  unfold S1
  rw [show (2 : Nat) ^ 1 = 2 from rfl]
theorem S1_lt {k n : Nat} (hn : n < 2 ^ 64) : S1 k n < 2 ^ 64 := Nat.lt_of_le_of_lt (Nat.sub_le _ _) hn
theorem S2_lt (n : Nat) : S2 8 n < 2 ^ 63 := by
  have g1 : S1 8 n &&& mk 51 8 ≤ mk 51 8 := Nat.and_le_right
  have g2 : (S1 8 n / 4) &&& mk 51 8 ≤ mk 51 8 := Nat.and_le_right
  have mm : 2 * mk 51 8 < 2 ^ 63 := by decide +kernel
  unfold S2
  omega
theorem bc_2 {n : Nat} (hn : n < 2 ^ 64) : (lN (S1 8 n) &&& (3689348814741910323 : Int64)) + (ushrL (lN (S1 8 n)) (2 : Int32) &&& (3689348814741910323 : Int64)) = lN (S2 8 n) := by
  rw [show (3689348814741910323 : Int64) = lN (mk 51 8) by decide +kernel, show (2 : Int32) = nI 2 from rfl, ushr_lN (S1_lt hn) (by omega), fb_andL, fb_andL, lN_add]
  unfold S2
  rw [show (2 : Nat) ^ 2 = 4 from rfl]
theorem bc_3 (n : Nat) : (lN (S2 8 n) + ushrL (lN (S2 8 n)) (4 : Int32)) &&& (1085102592571150095 : Int64) = lN (lan 8 n) := by
  have h := S2_lt n
  rw [show (1085102592571150095 : Int64) = lN (mk 15 8) by decide +kernel, show (4 : Int32) = nI 4 from rfl, ushr_lN (by omega) (by omega), lN_add, fb_andL, ← S3_lan]
  unfold S3
  rw [show (2 : Nat) ^ 4 = 16 from rfl]
theorem ct_lan (n : Nat) : fb_ct (fun i => n.testBit i) 64 = pop8 (n % 256) + (pop8 (n / 256 % 256) + (pop8 (n / 256 / 256 % 256) + (pop8 (n / 256 / 256 / 256 % 256) + (pop8 (n / 256 / 256 / 256 / 256 % 256) + (pop8 (n / 256 / 256 / 256 / 256 / 256 % 256) + (pop8 (n / 256 / 256 / 256 / 256 / 256 / 256 % 256) + (pop8 (n / 256 / 256 / 256 / 256 / 256 / 256 / 256 % 256)))))))) := by
  rw [show (64 : Nat) = 8 * (7 + 1) from rfl, ct_bytes 7, ct_bytes 6, ct_bytes 5, ct_bytes 4, ct_bytes 3, ct_bytes 2, ct_bytes 1, ct_bytes 0]
  simp only [Nat.mul_zero, fb_ct, Nat.add_zero]
theorem bitCount_eq (v : Int64) : F_J13_bitCount_95d88 v = nI (fb_ct (tb v) 64) := by
  obtain ⟨n, hn, rfl⟩ := wb_of v
  have hc : fb_ct (tb (lN n)) 64 = fb_ct (fun i => n.testBit i) 64 := fb_ct_cong (fun k _ => tb_lN hn k)
  rw [hc, ct_lan]
  unfold F_J13_bitCount_95d88
  simp only [nm]
  rw [bc_1 hn, bc_2 hn, bc_3]
  simp only [lan]
  obtain ⟨V, W, U, hV, h1, hW, h2, hU, h3, h4⟩ := sum_up (pop8_le (n % 256)) (pop8_le (n / 256 % 256)) (pop8_le (n / 256 / 256 % 256)) (pop8_le (n / 256 / 256 / 256 % 256)) (pop8_le (n / 256 / 256 / 256 / 256 % 256)) (pop8_le (n / 256 / 256 / 256 / 256 / 256 % 256)) (pop8_le (n / 256 / 256 / 256 / 256 / 256 / 256 % 256)) (pop8_le (n / 256 / 256 / 256 / 256 / 256 / 256 / 256 % 256))
  rw [← hV, ← h4, show (8 : Int32) = nI 8 from rfl, show (16 : Int32) = nI 16 from rfl, show (32 : Int32) = nI 32 from rfl, ushr_lN (by omega) (by omega), lN_add, ← hW, ushr_lN (by omega) (by omega), lN_add, ← hU, ushr_lN (by omega) (by omega), lN_add, lN_i, show (127 : Int32) = nI (2 ^ 7 - 1) from rfl, nI_and7]
/-! the lowest 1 -/
theorem tb_neg (v : Int64) (i : Nat) : tb (-v) i = (decide (i < 64) && (tb v i ^^ decide (∃ j, j < i ∧ tb v j = true))) := by
  unfold tb
  rw [Int64.toBitVec_neg, BitVec.getLsbD_neg]
  by_cases h : i < 64
  · simp [h]
  · simp [h]
    exact BitVec.getLsbD_of_ge _ _ (Nat.le_of_not_lt h)
theorem tb_low (v : Int64) (i : Nat) : tb (v &&& -v) i = decide (tb v i = true ∧ ∀ j, j < i → tb v j = false) := by
  rw [tb_and, tb_neg]
  by_cases h : i < 64
  · cases hv : tb v i with
    | false => simp
    | true =>
      simp only [h, decide_true, Bool.true_and, Bool.true_xor, true_and]
      by_cases hq : ∃ j, j < i ∧ tb v j = true
      · have : ¬ ∀ j, j < i → tb v j = false := by
          intro h2
          obtain ⟨j, h3, h4⟩ := hq
          rw [h2 j h3] at h4; cases h4
        simp only [hq, this, decide_true, decide_false, Bool.not_true]
      · have : ∀ j, j < i → tb v j = false := by
          intro j hj
          cases h4 : tb v j with
          | false => rfl
          | true => exact absurd ⟨j, hj, h4⟩ hq
        simp only [hq, decide_false, Bool.not_false]
        symm
        exact decide_eq_true this
  · rw [tb_big (v := v) (Nat.le_of_not_lt h)]; simp
/-- bits below n are off, bit n is on -/
def lowB (v : Int64) (k : Nat) : Prop := (∀ j, j < k → tb v j = false) ∧ (k < 64 → tb v k = true) ∧ k ≤ 64
theorem lowB_ex (v : Int64) : ∃ k, lowB v k := by
  by_cases h : ∃ i, i < 64 ∧ tb v i = true
  · obtain ⟨i, h1, h2, h3⟩ := fb_first h
    refine ⟨i, fun j hj => ?_, fun _ => h2, by omega⟩
    cases h4 : tb v j with
    | false => rfl
    | true => exact absurd h4 (h3 j hj)
  · refine ⟨64, fun j hj => ?_, fun q => by omega, Nat.le_refl _⟩
    cases h4 : tb v j with
    | false => rfl
    | true => exact absurd ⟨j, hj, h4⟩ h
theorem lowB_one {v : Int64} {j k : Nat} (hj : lowB v j) (hk : lowB v k) : j = k := by
  obtain ⟨a1, a2, a3⟩ := hj
  obtain ⟨b1, b2, b3⟩ := hk
  rcases Nat.lt_trichotomy j k with h | h | h
  · have q1 := b1 j h
    have q2 := a2 (by omega)
    rw [q1] at q2; cases q2
  · exact h
  · have q1 := a1 k h
    have q2 := b2 (by omega)
    rw [q1] at q2; cases q2
theorem low_and {v : Int64} {k : Nat} (h : lowB v k) : v &&& -v = (if k < 64 then shlL 1 (nI k) else 0) := by
  obtain ⟨h1, h2, h3⟩ := h
  apply tb_ext
  intro i hi
  rw [tb_low]
  by_cases hk : k < 64
  · rw [if_pos hk, tb_bit hk]
    by_cases e : i = k
    · subst e
      simp [h2 hk, h1]
      exact h1
    · rw [decide_eq_false e]
      apply decide_eq_false
      rintro ⟨q1, q2⟩
      rcases Nat.lt_trichotomy i k with h | h | h
      · rw [h1 i h] at q1; cases q1
      · exact e h
      · have := q2 k h
        rw [h2 hk] at this; cases this
  · rw [if_neg hk, tb_zero]
    apply decide_eq_false
    rintro ⟨q1, q2⟩
    rw [h1 i (by omega)] at q1; cases q1
theorem ct_lt (k : Nat) : ∀ n, k ≤ n → fb_ct (fun i => decide (i < k)) n = k := by
  intro n
  induction n with
  | zero => intro h; obtain rfl : k = 0 := by omega
            rfl
  | succ n ih =>
    intro h
    rw [fb_ct_succ]
    by_cases e : k ≤ n
    · rw [ih e]; simp; omega
    · obtain rfl : k = n + 1 := by omega
      have : fb_ct (fun i => decide (i < n + 1)) n = n := fb_ct_all.mpr (fun i hi => by simp; omega)
      rw [this]; simp
theorem ct_mask {k : Nat} (hk : k < 64) : fb_ct (tb (shlL 1 (nI k) - 1)) 64 = k := (fb_ct_cong (fun i _ => tb_mask hk i)).trans (ct_lt k 64 (Nat.le_of_lt hk))
theorem ct_m1 : fb_ct (tb (-1)) 64 = 64 := (fb_ct_cong (fun i _ => tb_m1 i)).trans (ct_lt 64 64 (Nat.le_refl _))
theorem z_m1 : (0 : Int64) - 1 = -1 := by decide
theorem nmE {α β : Type} (a : α) (k : α → β) : nm a k = k a := eq_of_heq HEq.rfl
theorem lowestBit_def (v : Int64) : F_X4_lowestBit v = F_J13_bitCount_95d88 ((v &&& -v) - 1) := by
  unfold F_X4_lowestBit
  rw [nmE]
theorem bitCount_m1 : F_J13_bitCount_95d88 (-1) = nI 64 := (bitCount_eq (-1)).trans (congrArg nI ct_m1)
theorem bitCount_mask {k : Nat} (hk : k < 64) : F_J13_bitCount_95d88 (shlL 1 (nI k) - 1) = nI k := (bitCount_eq _).trans (congrArg nI (ct_mask hk))
theorem lowestBit_lt {v : Int64} {k : Nat} (h : lowB v k) (hk : k < 64) : F_X4_lowestBit v = nI k := by
  rw [lowestBit_def, low_and h, if_pos hk, bitCount_mask hk]
theorem lowestBit_ge {v : Int64} {k : Nat} (h : lowB v k) (hk : ¬ k < 64) : F_X4_lowestBit v = nI 64 := by
  rw [lowestBit_def, low_and h, if_neg hk, z_m1, bitCount_m1]
theorem lowestBit_eq {v : Int64} {k : Nat} (h : lowB v k) : F_X4_lowestBit v = nI k := by
  by_cases hk : k < 64
  · exact lowestBit_lt h hk
  · have h3 := h.2.2
    have h4 : k = 64 := by omega
    rw [h4]
    exact lowestBit_ge h hk
/-- without the lowest 1 -/
theorem clear_low {v : Int64} {k : Nat} (h : lowB v k) (hk : k < 64) (i : Nat) : tb (v &&& (v - 1)) i = (tb v i && decide (i ≠ k)) := by
  have e : v - 1 = (-v) ^^^ (-1) := by
    apply Int64.toBitVec_inj.mp
    rw [Int64.toBitVec_sub, Int64.toBitVec_xor, Int64.toBitVec_neg]
    have : (-1 : Int64).toBitVec = BitVec.allOnes 64 := by decide
    rw [this, BitVec.xor_allOnes, BitVec.not_neg]
    rfl
  rw [e, tb_and, tb_not, tb_neg]
  obtain ⟨h1, h2, h3⟩ := h
  by_cases hi : i < 64
  · simp only [hi, decide_true, Bool.true_and]
    cases hv : tb v i with
    | false => simp
    | true =>
      simp only [Bool.true_xor, Bool.not_not, Bool.true_and]
      by_cases e : i = k
      · subst e
        simp
        intro x hx
        exact h1 x hx
      · have : k < i := by
          rcases Nat.lt_trichotomy i k with h | h | h
          · rw [h1 i h] at hv; cases hv
          · exact absurd h e
          · exact h
        simp [e]
        exact ⟨k, this, h2 hk⟩
  · rw [tb_big (Nat.le_of_not_lt hi)]; simp
