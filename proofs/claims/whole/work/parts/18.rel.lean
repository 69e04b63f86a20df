/-! WHAT CONSTRUCTORS MAKE: cells one behind the other from an address b on, each told by its number. next, slots made, kinds, lengths, references (numbers), ints, longs -/
abbrev Rel : Type := Nat × Nat × (Nat → Nat) × (Nat → Nat) × (Nat → Nat → Option Nat) × (Nat → Nat → Int32) × (Nat → Nat → Int64)
def rel0 : Rel := (0, 0, fun _ => 0, fun _ => 0, fun _ _ => none, fun _ _ => 0, fun _ _ => 0)
def addC (ω : Rel) (kk len sl : Nat) : Rel := (ω.1 + 1, ω.2.1 + sl, va_up ω.2.2.1 ω.1 kk, va_up ω.2.2.2.1 ω.1 len, va_up ω.2.2.2.2.1 ω.1 (fun _ => none), va_up ω.2.2.2.2.2.1 ω.1 (fun _ => 0), va_up ω.2.2.2.2.2.2 ω.1 (fun _ => 0))
def relI (ω : Rel) (a k : Nat) (v : Int32) : Rel := (ω.1, ω.2.1, ω.2.2.1, ω.2.2.2.1, ω.2.2.2.2.1, up2 ω.2.2.2.2.2.1 a k v, ω.2.2.2.2.2.2)
def relJ (ω : Rel) (a k : Nat) (v : Int64) : Rel := (ω.1, ω.2.1, ω.2.2.1, ω.2.2.2.1, ω.2.2.2.2.1, ω.2.2.2.2.2.1, up2 ω.2.2.2.2.2.2 a k v)
def relR (ω : Rel) (a k v : Nat) : Rel := (ω.1, ω.2.1, ω.2.2.1, ω.2.2.2.1, up2 ω.2.2.2.2.1 a k (some v), ω.2.2.2.2.2.1, ω.2.2.2.2.2.2)
/-- cell a is there, and of kind kk -/
def gq (ω : Rel) (a kk : Nat) : Bool := decide (a < ω.1 ∧ ω.2.2.1 a = kk)
/-- there is room for mc cells of ms slots -/
def gr (ω : Rel) (n0 t0 MC MS mc ms : Nat) : Bool := decide (n0 ≤ ω.1 ∧ t0 ≤ ω.2.1 ∧ ω.1 + mc ≤ n0 + MC ∧ ω.2.1 + ms ≤ t0 + MS)
def ge (ω ω1 : Rel) (mc ms : Nat) : Bool := decide (ω1.1 = ω.1 + mc ∧ ω1.2.1 = ω.2.1 + ms)
def gl (n : Int32) : Bool := decide (¬ n < 0 ∧ n.toNatClampNeg ≤ 60000000)
def gi (i : Int32) (n : Nat) : Bool := gd i n
def layR (b : Nat) (ω : Rel) : Lay := (List.range' b ω.1, fun a => ω.2.2.1 (a - b), fun a => ω.2.2.2.1 (a - b), fun a k => (ω.2.2.2.2.1 (a - b) k).map (b + ·))
def stoR (b : Nat) (ω : Rel) : Sto := (fun a k => ω.2.2.2.2.2.1 (a - b) k, fun a k => ω.2.2.2.2.2.2 (a - b) k)
theorem isK_r {b : Nat} {ω : Rel} {a kk : Nat} (h : gq ω a kk = true) : isK (layR b ω) (b + a) kk := by
  obtain ⟨h1, h2⟩ := of_decide_eq_true h
  refine ⟨?_, ?_⟩
  · simp only [layR, List.mem_range'_1]; omega
  · simp only [kd, layR, Nat.add_sub_cancel_left]; exact h2
