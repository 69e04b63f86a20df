/-! NUMBERS: whole numbers as ints, bits of longs, counts -/
def iI (z : Int) : Int32 := Int32.ofInt z
theorem iI_nat (n : Nat) : nI n = iI (n : Int) := (Int32.ofInt_eq_ofNat).symm
theorem iI_toInt {z : Int} (h1 : -2147483648 ≤ z) (h2 : z < 2147483648) : (iI z).toInt = z := Int32.toInt_ofInt_of_le (by omega) (by omega)
theorem iI_of (x : Int32) : x = iI x.toInt := (Int32.ofInt_toInt x).symm
theorem iI_add (a b : Int) : iI a + iI b = iI (a + b) := (Int32.ofInt_add a b).symm
theorem iI_sub (a b : Int) : iI a - iI b = iI (a - b) := (Int32.ofInt_sub a b).symm
theorem iI_mul (a b : Int) : iI a * iI b = iI (a * b) := (Int32.ofInt_mul a b).symm
theorem iI_neg (a : Int) : -iI a = iI (-a) := (Int32.ofInt_neg a).symm
theorem rng32 (x : Int32) : -2147483648 ≤ x.toInt ∧ x.toInt < 2147483648 := by
  have h1 := x.le_toInt
  have h2 := x.toInt_lt
  omega
theorem iI_le {a b : Int} (ha1 : -2147483648 ≤ a) (ha2 : a < 2147483648) (hb1 : -2147483648 ≤ b) (hb2 : b < 2147483648) : iI a ≤ iI b ↔ a ≤ b := by
  rw [Int32.le_iff_toInt_le, iI_toInt ha1 ha2, iI_toInt hb1 hb2]
theorem iI_lt {a b : Int} (ha1 : -2147483648 ≤ a) (ha2 : a < 2147483648) (hb1 : -2147483648 ≤ b) (hb2 : b < 2147483648) : iI a < iI b ↔ a < b := by
  rw [Int32.lt_iff_toInt_lt, iI_toInt ha1 ha2, iI_toInt hb1 hb2]
theorem iI_eq {a b : Int} (ha1 : -2147483648 ≤ a) (ha2 : a < 2147483648) (hb1 : -2147483648 ≤ b) (hb2 : b < 2147483648) : iI a = iI b ↔ a = b := by
  rw [← Int32.toInt_inj, iI_toInt ha1 ha2, iI_toInt hb1 hb2]
theorem le32 {x y : Int32} : x ≤ y ↔ x.toInt ≤ y.toInt := Int32.le_iff_toInt_le
theorem lt32 {x y : Int32} : x < y ↔ x.toInt < y.toInt := Int32.lt_iff_toInt_lt
theorem eq32 {x y : Int32} : x = y ↔ x.toInt = y.toInt := Int32.toInt_inj.symm
theorem clamp_iI {z : Int} (h1 : 0 ≤ z) (h2 : z < 2147483648) : (iI z).toNatClampNeg = z.toNat := by
  show (iI z).toInt.toNat = _
  rw [iI_toInt (by omega) h2]
theorem nI_cl {n : Nat} (h : n < 2147483648) : (nI n).toNatClampNeg = n := nI_clamp (by omega)
theorem nI_ti {n : Nat} (h : n < 2147483648) : (nI n).toInt = n := nI_toInt (by omega)
theorem gd_nI {n N : Nat} (h : n < N) (hN : N < 2147483648) : gd (nI n) N = true := by
  unfold gd
  exact decide_eq_true (vp_in_nI h (by omega))
theorem lit32 (n : Nat) : (OfNat.ofNat n : Int32) = nI n := rfl
theorem nI_subo {n : Nat} (h : 0 < n) : nI n - 1 = nI (n - 1) := by
  obtain ⟨k, rfl⟩ : ∃ k, n = k + 1 := ⟨n - 1, by omega⟩
  exact nI_pred k
-- bits
def tb (v : Int64) (i : Nat) : Bool := v.toBitVec.getLsbD i
theorem tb_ext {a b : Int64} (h : ∀ i, i < 64 → tb a i = tb b i) : a = b := by
  apply Int64.toBitVec_inj.mp
  apply BitVec.eq_of_getLsbD_eq
  intro i hi
  exact h i hi
theorem tb_big {v : Int64} {i : Nat} (h : 64 ≤ i) : tb v i = false := BitVec.getLsbD_of_ge _ _ h
theorem tb_and (a b : Int64) (i : Nat) : tb (a &&& b) i = (tb a i && tb b i) := by simp [tb]
theorem tb_or (a b : Int64) (i : Nat) : tb (a ||| b) i = (tb a i || tb b i) := by simp [tb]
theorem tb_xor (a b : Int64) (i : Nat) : tb (a ^^^ b) i = (tb a i ^^ tb b i) := by simp [tb]
theorem tb_m1 (i : Nat) : tb (-1) i = decide (i < 64) := by
  have : (-1 : Int64).toBitVec = BitVec.allOnes 64 := by decide
  unfold tb
  rw [this, BitVec.getLsbD_allOnes]
theorem tb_not (a : Int64) (i : Nat) : tb (a ^^^ (-1)) i = (decide (i < 64) && !tb a i) := by
  rw [tb_xor, tb_m1]
  by_cases h : i < 64
  · simp [h]
  · simp [h, tb_big (Nat.le_of_not_lt h)]
theorem tb_zero (i : Nat) : tb 0 i = false := by simp [tb]
theorem tb_one (i : Nat) : tb 1 i = decide (i = 0) := by
  show (1#64).getLsbD i = _
  simp [BitVec.getLsbD_one]
theorem sh_amt {k : Nat} (h : k < 64) : ((nI k).toInt64 &&& 63).toBitVec = BitVec.ofNat 64 k := by
  have : ∀ j : Fin 64, ((nI j.val).toInt64 &&& 63).toBitVec = BitVec.ofNat 64 j.val := by decide +kernel
  exact this ⟨k, h⟩
theorem tb_shl {k : Nat} (hk : k < 64) (v : Int64) (i : Nat) : tb (shlL v (nI k)) i = (decide (i < 64) && (decide (k ≤ i) && tb v (i - k))) := by
  unfold tb shlL
  rw [Int64.toBitVec_shiftLeft, sh_amt hk]
  have h1 : (BitVec.ofNat 64 k).smod 64 = BitVec.ofNat 64 k := by
    have : ∀ j : Fin 64, (BitVec.ofNat 64 j.val).smod 64 = BitVec.ofNat 64 j.val := by decide +kernel
    exact this ⟨k, hk⟩
  rw [h1, BitVec.shiftLeft_eq', BitVec.toNat_ofNat, Nat.mod_eq_of_lt (by omega), BitVec.getLsbD_shiftLeft]
  by_cases h : i < 64 <;> by_cases h2 : k ≤ i <;> simp [h, h2] <;> omega
theorem tb_ushr {k : Nat} (hk : k < 64) (v : Int64) (i : Nat) : tb (ushrL v (nI k)) i = tb v (k + i) := by
  unfold tb ushrL
  have h1 : ((nI k).toInt64.toUInt64 &&& Int64.toUInt64 63) = UInt64.ofNat k := by
    have : ∀ j : Fin 64, ((nI j.val).toInt64.toUInt64 &&& Int64.toUInt64 63) = UInt64.ofNat j.val := by decide +kernel
    exact this ⟨k, hk⟩
  rw [h1]
  show (v.toUInt64 >>> UInt64.ofNat k).toBitVec.getLsbD i = _
  rw [UInt64.toBitVec_shiftRight]
  have h2 : (UInt64.ofNat k).toBitVec % 64 = BitVec.ofNat 64 k := by
    have : ∀ j : Fin 64, (UInt64.ofNat j.val).toBitVec % 64 = BitVec.ofNat 64 j.val := by decide +kernel
    exact this ⟨k, hk⟩
  rw [h2, BitVec.ushiftRight_eq', BitVec.toNat_ofNat, Nat.mod_eq_of_lt (by omega), BitVec.getLsbD_ushiftRight]
  rfl
theorem tb_shr0 {k : Nat} (hk : k < 64) (v : Int64) : tb (shrL v (nI k)) 0 = tb v k := by
  unfold tb shrL
  rw [Int64.toBitVec_shiftRight, sh_amt hk]
  have h1 : (BitVec.ofNat 64 k).smod 64 = BitVec.ofNat 64 k := by
    have : ∀ j : Fin 64, (BitVec.ofNat 64 j.val).smod 64 = BitVec.ofNat 64 j.val := by decide +kernel
    exact this ⟨k, hk⟩
  rw [h1, BitVec.sshiftRight_eq', BitVec.toNat_ofNat, Nat.mod_eq_of_lt (by omega), BitVec.getLsbD_sshiftRight]
  simp [hk]
theorem and1 (v : Int64) : (v &&& 1 = 1) ↔ tb v 0 = true := by
  constructor
  · intro h
    have := congrArg (fun z => tb z 0) h
    simpa [tb_and, tb_one] using this
  · intro h
    apply tb_ext
    intro i hi
    rw [tb_and, tb_one]
    by_cases h0 : i = 0
    · subst h0; simp [h]
    · simp [h0]
theorem bit_u {k : Nat} (hk : k < 64) (v : Int64) : (ushrL v (nI k) &&& 1 = 1) ↔ tb v k = true := by rw [and1, tb_ushr hk]; simp
theorem bit_u0 {k : Nat} (hk : k < 64) (v : Int64) : (ushrL v (nI k) &&& 1 = 0) ↔ tb v k = false := by
  constructor
  · intro h
    have := congrArg (fun z => tb z 0) h
    simpa [tb_and, tb_one, tb_ushr hk, tb_zero] using this
  · intro h
    apply tb_ext
    intro i hi
    rw [tb_and, tb_one, tb_zero, tb_ushr hk]
    by_cases h0 : i = 0
    · subst h0; simp [h]
    · simp [h0]
theorem bit_s {k : Nat} (hk : k < 64) (v : Int64) : (shrL v (nI k) &&& 1 = 1) ↔ tb v k = true := by rw [and1, tb_shr0 hk]
theorem tb_bit {k : Nat} (hk : k < 64) (i : Nat) : tb (shlL 1 (nI k)) i = decide (i = k) := by
  rw [tb_shl hk, tb_one]
  by_cases h : i = k
  · subst h; simp [hk]
  · simp [h]; omega
theorem tb_mask {k : Nat} (hk : k < 64) (i : Nat) : tb (shlL 1 (nI k) - 1) i = decide (i < k) := by
  have h0 : (shlL 1 (nI k)).toBitVec = BitVec.ofNat 64 (2 ^ k) := by
    have : ∀ j : Fin 64, (shlL 1 (nI j.val)).toBitVec = BitVec.ofNat 64 (2 ^ j.val) := by decide +kernel
    exact this ⟨k, hk⟩
  unfold tb
  rw [Int64.toBitVec_sub, h0]
  show (BitVec.ofNat 64 (2 ^ k) - 1#64).getLsbD i = _
  have hp : 2 ^ k < 2 ^ 64 := Nat.pow_lt_pow_right (by omega) hk
  have hp0 : 0 < 2 ^ k := Nat.two_pow_pos k
  have h1 : (BitVec.ofNat 64 (2 ^ k) - 1#64) = BitVec.ofNat 64 (2 ^ k - 1) := by
    apply BitVec.eq_of_toNat_eq
    rw [BitVec.toNat_sub, BitVec.toNat_ofNat, BitVec.toNat_ofNat, BitVec.toNat_ofNat]
    omega
  rw [h1, BitVec.getLsbD_ofNat, Nat.testBit_two_pow_sub_one]
  by_cases h : i < k
  · simp [h]; omega
  · simp [h]
-- loops
theorem iter_mu {S E : Type} {f : S → Option (S ⊕ E)} (I : S → Prop) (μ : S → Nat) (P : E → Prop)
    (hs : ∀ s, I s → (∃ t, f s = some (.inl t) ∧ I t ∧ μ t < μ s) ∨ (∃ e, f s = some (.inr e) ∧ P e)) :
    ∀ (n : Nat) (s : S), I s → μ s < n → ∃ e, iter f n s = some e ∧ P e := by
  intro n
  induction n with
  | zero => intro s _ h; omega
  | succ n ih =>
    intro s hI hm
    rcases hs s hI with ⟨t, h1, h2, h3⟩ | ⟨e, h1, h2⟩
    · obtain ⟨e, g1, g2⟩ := ih t h2 (by omega)
      refine ⟨e, ?_, g2⟩
      simp only [iter, h1, g1]
    · refine ⟨e, ?_, h2⟩
      simp only [iter, h1]
/-- a loop of N rounds -/
theorem iter_for {S E : Type} {f : S → Option (S ⊕ E)} (N : Nat) (I : Nat → S → Prop) (P : E → Prop)
    (hs : ∀ i s, i < N → I i s → ∃ t, f s = some (.inl t) ∧ I (i + 1) t) (he : ∀ s, I N s → ∃ e, f s = some (.inr e) ∧ P e) {s : S} (h0 : I 0 s) {n : Nat} (hn : N < n) : ∃ e, iter f n s = some e ∧ P e := by
  have key : ∀ (k i : Nat) (s : S) (n : Nat), i + k = N → I i s → k < n → ∃ e, iter f n s = some e ∧ P e := by
    intro k
    induction k with
    | zero =>
      intro i s n hi hI hn
      obtain ⟨m, rfl⟩ : ∃ m, n = m + 1 := ⟨n - 1, by omega⟩
      obtain rfl : i = N := by omega
      obtain ⟨e, h1, h2⟩ := he s hI
      exact ⟨e, by simp only [iter, h1], h2⟩
    | succ k ih =>
      intro i s n hi hI hn
      obtain ⟨m, rfl⟩ : ∃ m, n = m + 1 := ⟨n - 1, by omega⟩
      obtain ⟨t, h1, h2⟩ := hs i s (by omega) hI
      obtain ⟨e, g1, g2⟩ := ih (i + 1) t m (by omega) h2 (by omega)
      exact ⟨e, by simp only [iter, h1, g1], g2⟩
  exact key N 0 s n (by omega) h0 hn
theorem FU_big {n : Nat} (h : n < 5000) : n < FU := h
