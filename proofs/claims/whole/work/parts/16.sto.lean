/-! THE STATE'S WORDS. A layout: the addresses, the kind of each, its length (arrays), what its reference slots hold. A store: what the int and the long slots hold.
kinds: 1 Change, 2 History, 3 Sheet, 4 Spots, 5 StraightPages, 6 StraightPagesModel, 7 int[], 8 long[], 9 boolean[], 10 Change[], 11 Sheet[] -/
abbrev Lay : Type := List Nat × (Nat → Nat) × (Nat → Nat) × (Nat → Nat → Option Nat)
abbrev Sto : Type := (Nat → Nat → Int32) × (Nat → Nat → Int64)
abbrev kd (Λ : Lay) (a : Nat) : Nat := Λ.2.1 a
abbrev ln (Λ : Lay) (a : Nat) : Nat := Λ.2.2.1 a
def rfA (Λ : Lay) (a k : Nat) : Nat := (Λ.2.2.2 a k).getD 0
def isK (Λ : Lay) (a k : Nat) : Prop := a ∈ Λ.1 ∧ kd Λ a = k
def isR (Λ : Lay) (a k kk : Nat) : Prop := Λ.2.2.2 a k = some (rfA Λ a k) ∧ isK Λ (rfA Λ a k) kk
def up2 {α : Type} (f : Nat → Nat → α) (a k : Nat) (v : α) : Nat → Nat → α := fun b j => if b = a then (if j = k then v else f b j) else f b j
def stI (σ : Sto) (a k : Nat) (v : Int32) : Sto := (up2 σ.1 a k v, σ.2)
def stJ (σ : Sto) (a k : Nat) (v : Int64) : Sto := (σ.1, up2 σ.2 a k v)
def cpJ (σ : Sto) (src dst sp dp n : Nat) : Sto := (σ.1, fun b => if b = dst then va_cpy (σ.2 src) (σ.2 dst) sp dp n else σ.2 b)
/-- an index in its row -/
def gd (i : Int32) (n : Nat) : Bool := decide (¬ (i < 0 ∨ n ≤ i.toNatClampNeg))
/-- a stretch in both rows -/
def gdc (sp dp n : Int32) (n0 n1 : Nat) : Bool := decide (¬ sp < 0 ∧ ¬ dp < 0 ∧ ¬ n < 0 ∧ sp.toNatClampNeg + n.toNatClampNeg ≤ n0 ∧ dp.toNatClampNeg + n.toNatClampNeg ≤ n1)
/-- a value with a name -/
def nm {α β : Type} (a : α) (k : α → β) : β := k a
/-- more rounds than any loop here has -/
def FU : Nat := 5000
/-- which reference slots there are: the kind that holds it, the slot, the kind that it names -/
def tlTab : List (Nat × Nat × Nat) := [(1, 2, 3), (2, 0, 10), (3, 2, 8), (4, 0, 3), (4, 1, 3), (4, 2, 3), (4, 3, 3), (4, 4, 8), (5, 0, 11), (5, 2, 2), (5, 3, 4), (5, 4, 3), (5, 5, 3), (5, 6, 7), (6, 2, 7), (6, 3, 7), (6, 4, 9), (6, 5, 9), (6, 8, 7), (6, 9, 7), (6, 10, 7), (6, 11, 7), (6, 12, 9), (6, 13, 7), (6, 14, 7), (6, 15, 7), (6, 17, 7), (6, 18, 9), (6, 20, 7), (6, 21, 7), (6, 23, 7)]
def TL (Λ : Lay) : Prop := Λ.1.Nodup ∧ (∀ t ∈ tlTab, ∀ a, isK Λ a t.1 → isR Λ a t.2.1 t.2.2) ∧ (∀ a, isK Λ a 10 → ∀ i, i < ln Λ a → isR Λ a i 1) ∧ (∀ a, isK Λ a 11 → ∀ i, i < ln Λ a → isR Λ a i 3)
theorem of_guard {α : Type} {c : Prop} [Decidable c] {x : Option α} {r : α} (h : (if c then x else none) = some r) : c ∧ x = some r := by
  by_cases hc : c
  · rw [if_pos hc] at h; exact ⟨hc, h⟩
  · rw [if_neg hc] at h; cases h
theorem of_pos {α : Type} {c : Prop} [Decidable c] {x y r : α} (hc : c) (h : (if c then x else y) = r) : x = r := by rw [if_pos hc] at h; exact h
theorem of_neg {α : Type} {c : Prop} [Decidable c] {x y r : α} (hc : ¬ c) (h : (if c then x else y) = r) : y = r := by rw [if_neg hc] at h; exact h
theorem of_nm {α β : Type} {e x : α} {k : α → β} {r : β} (ex : x = e) (h : nm e k = r) : k x = r := by rw [ex]; exact h
theorem of_bind {α β : Type} {x : Option α} {k : α → Option β} {r : β} (h : x.bind k = some r) : ∃ q, x = some q ∧ k q = some r := by
  cases x with
  | none => cases h
  | some q => exact ⟨q, rfl, h⟩
theorem up2_self {α : Type} (f : Nat → Nat → α) (a k : Nat) (v : α) : up2 f a k v a k = v := by simp [up2]
theorem up2_ne {α : Type} (f : Nat → Nat → α) {a b : Nat} (k : Nat) (v : α) (h : b ≠ a) : up2 f a k v b = f b := by funext j; simp [up2, h]
theorem up2_nk {α : Type} (f : Nat → Nat → α) (a : Nat) {k j : Nat} (v : α) (h : j ≠ k) : up2 f a k v a j = f a j := by simp [up2, h]
theorem gd_in {i : Int32} {n : Nat} (h : gd i n = true) : vp_in i n := of_decide_eq_true (p := ¬ (i < 0 ∨ n ≤ i.toNatClampNeg)) h
theorem gd_lt {i : Int32} {n : Nat} (h : gd i n = true) : i.toNatClampNeg < n := Nat.not_le.mp fun q => (gd_in h) (Or.inr q)
/-- rounds of a loop: f goes one round, back to the head (inl) or out (inr) -/
def iter {S E : Type} (f : S → Option (S ⊕ E)) : Nat → S → Option E
  | 0, _ => none
  | n + 1, s => match f s with
    | none => none
    | some (.inl t) => iter f n t
    | some (.inr e) => some e
theorem of_iter {S E : Type} {f : S → Option (S ⊕ E)} {n : Nat} {s : S} {e : E} (h : iter f (n + 1) s = some e) : ∃ r, f s = some r ∧ ((∃ t, r = .inl t ∧ iter f n t = some e) ∨ r = .inr e) := by
  simp only [iter] at h
  cases hf : f s with
  | none => rw [hf] at h; cases h
  | some r =>
    rw [hf] at h
    cases r with
    | inl t => exact ⟨_, rfl, Or.inl ⟨t, rfl, h⟩⟩
    | inr e2 => exact ⟨_, rfl, Or.inr (by cases h; rfl)⟩
theorem of_itl {S E : Type} {f : S → Option (S ⊕ E)} {n : Nat} {r : S ⊕ E} {z : S} {e : E} (ez : r = .inl z) (h : (∃ t, r = .inl t ∧ iter f n t = some e) ∨ r = .inr e) : iter f n z = some e := by
  rcases h with ⟨t, h1, h2⟩ | h1
  · rw [ez] at h1; cases h1; exact h2
  · rw [ez] at h1; cases h1
theorem of_itr {S E : Type} {f : S → Option (S ⊕ E)} {n : Nat} {r : S ⊕ E} {z e : E} (ez : r = .inr z) (h : (∃ t, r = .inl t ∧ iter f n t = some e) ∨ r = .inr e) : z = e := by
  rcases h with ⟨t, h1, h2⟩ | h1
  · rw [ez] at h1; cases h1
  · rw [ez] at h1; cases h1; rfl
/-- which way out -/
def sc {α β γ : Type} (q : α ⊕ β) (f : α → γ) (g : β → γ) : γ := match q with
  | .inl a => f a
  | .inr b => g b
theorem of_scl {α β γ : Type} {q : α ⊕ β} {f : α → γ} {g : β → γ} {z : α} {r : γ} (ez : q = .inl z) (h : sc q f g = r) : f z = r := by rw [ez] at h; exact h
theorem of_scr {α β γ : Type} {q : α ⊕ β} {f : α → γ} {g : β → γ} {z : β} {r : γ} (ez : q = .inr z) (h : sc q f g = r) : g z = r := by rw [ez] at h; exact h
/-- null or not -/
def oc {α β : Type} (q : Option α) (n : β) (f : α → β) : β := match q with
  | none => n
  | some a => f a
theorem of_ocn {α β : Type} {q : Option α} {n : β} {f : α → β} {r : β} (hn : q = none) (h : oc q n f = r) : n = r := by rw [hn] at h; exact h
theorem of_ocs {α β : Type} {q : Option α} {n : β} {f : α → β} {a : α} {r : β} (hn : q = some a) (h : oc q n f = r) : f a = r := by rw [hn] at h; exact h
def bz (v : Int32) : Bool := decide (v = 0 ∨ v = 1)
theorem of_bz {v : Int32} (h : bz v = true) : v = 0 ∨ v = 1 := of_decide_eq_true h
def mx (x y : Int32) : Int32 := if x < y then y else x
def mn (x y : Int32) : Int32 := if y < x then y else x
def ab (x : Int32) : Int32 := if 0 ≤ x then x else 0 - x
def shlL (x : Int64) (y : Int32) : Int64 := x <<< (y.toInt64 &&& 63)
def shrL (x : Int64) (y : Int32) : Int64 := x >>> (y.toInt64 &&& 63)
def ushrL (x : Int64) (y : Int32) : Int64 := (x.toUInt64 >>> (y.toInt64.toUInt64 &&& Int64.toUInt64 63)).toInt64
theorem sw_out {x : Int32} (n : Nat) (h : ∀ k, k < n → x ≠ Int32.ofNat k) (hn : n < 1000 := by decide) : x.toInt < 0 ∨ (n : Int) - 1 < x.toInt := by
  by_cases h0 : x.toInt < 0
  · exact Or.inl h0
  · refine Or.inr (Int.not_le.mp fun h1 => ?_)
    have h2 : x.toInt.toNat < n := by omega
    refine h _ h2 ?_
    have h3 : (Int32.ofNat x.toInt.toNat).toInt = x.toInt := by
      rw [show Int32.ofNat x.toInt.toNat = nI x.toInt.toNat from rfl, nI_toInt (by omega)]
      omega
    exact Int32.toInt_inj.mp h3.symm
