/-! STORES: what a stretch of writes leaves; loops by their states -/
theorem e0 : (0 : Int32) = nI 0 := eq_of_heq HEq.rfl
theorem e1 : (1 : Int32) = nI 1 := eq_of_heq HEq.rfl
theorem e2 : (2 : Int32) = nI 2 := eq_of_heq HEq.rfl
theorem e3 : (3 : Int32) = nI 3 := eq_of_heq HEq.rfl
theorem e4 : (4 : Int32) = nI 4 := eq_of_heq HEq.rfl
theorem e7 : (7 : Int32) = nI 7 := eq_of_heq HEq.rfl
theorem e8 : (8 : Int32) = nI 8 := eq_of_heq HEq.rfl
theorem e9 : (9 : Int32) = nI 9 := eq_of_heq HEq.rfl
theorem e10 : (10 : Int32) = nI 10 := eq_of_heq HEq.rfl
theorem e12 : (12 : Int32) = nI 12 := eq_of_heq HEq.rfl
theorem e16 : (16 : Int32) = nI 16 := eq_of_heq HEq.rfl
theorem e20 : (20 : Int32) = nI 20 := eq_of_heq HEq.rfl
theorem e63 : (63 : Int32) = nI 63 := eq_of_heq HEq.rfl
theorem e64 : (64 : Int32) = nI 64 := eq_of_heq HEq.rfl
theorem e100 : (100 : Int32) = nI 100 := eq_of_heq HEq.rfl
theorem e4096 : (4096 : Int32) = nI 4096 := eq_of_heq HEq.rfl
theorem le_t {a b : Nat} (h : a ≤ b) (hb : b < 2147483648) : (nI a ≤ nI b) = True := eq_true (nI_le h hb)
theorem le_f {a b : Nat} (h : b < a) (ha : a < 2147483648) : (nI a ≤ nI b) = False := eq_false (nI_ge h ha)
theorem lt_t {a b : Nat} (h : a < b) (hb : b < 2147483648) : (nI a < nI b) = True := eq_true (nI_lt h hb)
theorem lt_f {a b : Nat} (h : b ≤ a) (ha : a < 2147483648) : (nI a < nI b) = False := eq_false (nI_nlt h ha)
theorem eq_t {a b : Nat} (h : a = b) : (nI a = nI b) = True := eq_true (by rw [h])
theorem eq_f {a b : Nat} (h : a ≠ b) (ha : a < 2147483648) (hb : b < 2147483648) : (nI a = nI b) = False := eq_false (fun q => h ((nI_eq ha hb).mp q))
theorem nI_sb {a b : Nat} (h : b ≤ a) : nI a - nI b = nI (a - b) := pk_sub h
theorem stI_1 (σ : Sto) (a k : Nat) (v : Int32) : (stI σ a k v).1 = up2 σ.1 a k v := eq_of_heq HEq.rfl
theorem stI_2 (σ : Sto) (a k : Nat) (v : Int32) : (stI σ a k v).2 = σ.2 := eq_of_heq HEq.rfl
theorem stJ_1 (σ : Sto) (a k : Nat) (v : Int64) : (stJ σ a k v).1 = σ.1 := eq_of_heq HEq.rfl
theorem stJ_2 (σ : Sto) (a k : Nat) (v : Int64) : (stJ σ a k v).2 = up2 σ.2 a k v := eq_of_heq HEq.rfl
def putJ (σ : Sto) (r n : Nat) (v : Nat → Int64) : Sto := (σ.1, fun c y => if c = r then (if y < n then v y else σ.2 c y) else σ.2 c y)
theorem putJ_1 (σ : Sto) (r n : Nat) (v : Nat → Int64) : (putJ σ r n v).1 = σ.1 := eq_of_heq HEq.rfl
theorem putJ_in {σ : Sto} {r n y : Nat} {v : Nat → Int64} (h : y < n) : (putJ σ r n v).2 r y = v y := by simp [putJ, h]
theorem putJ_out {σ : Sto} {r n y : Nat} {v : Nat → Int64} (h : n ≤ y) : (putJ σ r n v).2 r y = σ.2 r y := by simp [putJ]; omega
theorem putJ_ne {σ : Sto} {r n c : Nat} {v : Nat → Int64} (h : c ≠ r) : (putJ σ r n v).2 c = σ.2 c := by funext y; simp [putJ, h]
theorem putJ_0 (σ : Sto) (r : Nat) (v : Nat → Int64) : putJ σ r 0 v = σ := by
  apply Prod.ext
  · rfl
  · funext c y; simp [putJ]
theorem putJ_s (σ : Sto) (r n : Nat) (v : Nat → Int64) : stJ (putJ σ r n v) r n (v n) = putJ σ r (n + 1) v := by
  apply Prod.ext
  · rfl
  · funext c y
    simp only [stJ, up2, putJ]
    by_cases hc : c = r
    · subst hc
      simp only [if_true]
      by_cases hy : y = n
      · subst hy; simp
      · rw [if_neg hy]
        by_cases h2 : y < n
        · rw [if_pos h2, if_pos (by omega)]
        · rw [if_neg h2, if_neg (by omega)]
    · simp only [if_neg hc]
theorem putJ_se {σ : Sto} {r n : Nat} {v : Nat → Int64} {z : Int64} (h : z = v n) : stJ (putJ σ r n v) r n z = putJ σ r (n + 1) v := by rw [h]; exact putJ_s σ r n v
def putI (σ : Sto) (A base n : Nat) (v : Nat → Int32) : Sto := (fun c j => if c = A then (if base ≤ j ∧ j < base + n then v (j - base) else σ.1 c j) else σ.1 c j, σ.2)
theorem putI_2 (σ : Sto) (A base n : Nat) (v : Nat → Int32) : (putI σ A base n v).2 = σ.2 := eq_of_heq HEq.rfl
theorem putI_in {σ : Sto} {A base n j : Nat} {v : Nat → Int32} (h : base ≤ j) (h2 : j < base + n) : (putI σ A base n v).1 A j = v (j - base) := by simp [putI, h, h2]
theorem putI_out {σ : Sto} {A base n j : Nat} {v : Nat → Int32} (h : j < base ∨ base + n ≤ j) : (putI σ A base n v).1 A j = σ.1 A j := by
  simp only [putI, if_true]; rw [if_neg (by omega)]
theorem putI_ne {σ : Sto} {A base n c : Nat} {v : Nat → Int32} (h : c ≠ A) : (putI σ A base n v).1 c = σ.1 c := by funext y; simp [putI, h]
theorem putI_0 (σ : Sto) (A base : Nat) (v : Nat → Int32) : putI σ A base 0 v = σ := by
  apply Prod.ext
  · funext c j
    simp only [putI]
    rw [if_neg (show ¬ (base ≤ j ∧ j < base + 0) by omega), ite_self]
  · rfl
theorem putI_se {σ : Sto} {A base n k : Nat} {v : Nat → Int32} {z : Int32} (hk : k = base + n) (h : z = v n) : stI (putI σ A base n v) A k z = putI σ A base (n + 1) v := by
  subst hk; subst h
  apply Prod.ext
  · funext c j
    simp only [stI, up2, putI]
    by_cases hc : c = A
    · subst hc
      simp only [if_true]
      by_cases hy : j = base + n
      · subst hy
        rw [if_pos rfl, if_pos (by omega), show base + n - base = n by omega]
      · rw [if_neg hy]
        by_cases h2 : base ≤ j ∧ j < base + n
        · rw [if_pos h2, if_pos (by omega)]
        · rw [if_neg h2, if_neg (by omega)]
    · simp only [if_neg hc]
  · rfl
theorem run_loop {S E : Type} {f : S → Option (S ⊕ E)} (st : Nat → S) (e : E) (N : Nat) {s0 : S} (hN : N < 4999) (h0 : s0 = st 0) (hs : ∀ k, k < N → f (st k) = some (.inl (st (k + 1)))) (he : f (st N) = some (.inr e)) : iter f FU s0 = some e := by
  subst h0
  have key : ∀ (k i n : Nat), i + k = N → k < n → iter f n (st i) = some e := by
    intro k
    induction k with
    | zero =>
      intro i n hi hn
      obtain ⟨m, rfl⟩ : ∃ m, n = m + 1 := ⟨n - 1, by omega⟩
      obtain rfl : i = N := by omega
      simp only [iter, he]
    | succ k ih =>
      intro i n hi hn
      obtain ⟨m, rfl⟩ : ∃ m, n = m + 1 := ⟨n - 1, by omega⟩
      simp only [iter, hs i (by omega)]
      exact ih (i + 1) m (by omega) (by omega)
  exact key N 0 FU (by omega) (by show N < 5000; omega)
/-- a search: rounds go on while not P, the first that has P goes out -/
def Fr (S : List Nat) (σ τ : Sto) : Prop := ∀ c, c ∉ S → τ.1 c = σ.1 c ∧ τ.2 c = σ.2 c
theorem Fr_refl (S : List Nat) (σ : Sto) : Fr S σ σ := fun _ _ => ⟨rfl, rfl⟩
theorem Fr_trans {S : List Nat} {σ τ υ : Sto} (h : Fr S σ τ) (h2 : Fr S τ υ) : Fr S σ υ := fun c hc => ⟨(h2 c hc).1.trans (h c hc).1, (h2 c hc).2.trans (h c hc).2⟩
theorem Fr_mono {S T : List Nat} {σ τ : Sto} (h : Fr S σ τ) (hs : ∀ c, c ∈ S → c ∈ T) : Fr T σ τ := fun c hc => h c (fun q => hc (hs c q))
theorem Fr_stI {S : List Nat} {σ : Sto} {a k : Nat} {v : Int32} (h : a ∈ S) : Fr S σ (stI σ a k v) := fun c hc => ⟨up2_ne _ _ _ (fun e => hc (e ▸ h)), rfl⟩
theorem Fr_stJ {S : List Nat} {σ : Sto} {a k : Nat} {v : Int64} (h : a ∈ S) : Fr S σ (stJ σ a k v) := fun c hc => ⟨rfl, up2_ne _ _ _ (fun e => hc (e ▸ h))⟩
theorem Fr_putJ {S : List Nat} {σ : Sto} {a k : Nat} {v : Nat → Int64} (h : a ∈ S) : Fr S σ (putJ σ a k v) := fun c hc => ⟨rfl, putJ_ne (fun e => hc (e ▸ h))⟩
theorem Fr_putI {S : List Nat} {σ : Sto} {A base n : Nat} {v : Nat → Int32} (h : A ∈ S) : Fr S σ (putI σ A base n v) := fun c hc => ⟨putI_ne (fun e => hc (e ▸ h)), rfl⟩
abbrev PG : Type := Nat × Nat × (Nat → Nat → Bool)
/-- the sheet at a, its rows at r (N of them), shows the page P -/
def Sh (σ : Sto) (a r N : Nat) (P : PG) : Prop := σ.1 a 0 = nI P.1 ∧ σ.1 a 1 = nI P.2.1 ∧ P.1 ≤ 64 ∧ P.2.1 ≤ N ∧ (∀ y, y < N → ∀ x, tb (σ.2 r y) x = P.2.2 x y) ∧ (∀ x y, P.2.2 x y = true → x < P.1 ∧ y < P.2.1)
theorem Sh_fr {σ τ : Sto} {a r N : Nat} {P : PG} (h : Sh σ a r N P) (ha : τ.1 a = σ.1 a) (hr : τ.2 r = σ.2 r) : Sh τ a r N P := by
  unfold Sh
  rw [ha, hr]
  exact h
theorem Sh_Fr {S : List Nat} {σ τ : Sto} {a r N : Nat} {P : PG} (h : Sh σ a r N P) (hf : Fr S σ τ) (ha : a ∉ S) (hr : r ∉ S) : Sh τ a r N P := Sh_fr h (hf a ha).1 (hf r hr).2
theorem nar_b {x : Int32} (h : x = 0 ∨ x = 1) : vp_nar .boolean x = x := by rcases h with h | h <;> subst h <;> decide
def bI (p : Bool) : Int32 := if p then 1 else 0
theorem nar_bI (p : Bool) : vp_nar .boolean (bI p) = bI p := by cases p <;> decide
theorem bz_bI (p : Bool) : bz (bI p) = true := by cases p <;> decide
theorem bI_0 (p : Bool) : (bI p = nI 0) = (p = false) := by cases p <;> simp [bI] <;> decide
