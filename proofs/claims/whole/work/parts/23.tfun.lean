def jp_X4_row_18 (Λ : Lay) (σ : Sto)  : Option (Option Int64) :=
  some none
def F_X4_row (Λ : Lay) (σ : Sto) (a0 : Nat) (l1 : Int32) (l2 : Int32) : Option (Option Int64) :=
  (F_X4_find Λ σ a0 l1).bind (fun q_1 => oc q_1 (jp_X4_row_18 Λ σ) (fun a_1 => nm (F_X2_hasRow Λ σ a_1 l2) (fun r_2 => (if r_2 = 0 then jp_X4_row_18 Λ σ else (if gd l2 (ln Λ (rfA Λ a_1 2)) = true then some (some (σ.2 (rfA Λ a_1 2) l2.toNatClampNeg)) else none)))))
def jp_X4_listed_26 (Λ : Lay) (σ : Sto)  : Option (Option Int32) :=
  some none
def bd_X4_listed_41 (Λ : Lay) (σ : Sto) (a0 : Nat) (l2 : Int32) (s9 : (Int32 × Int32)) : Option ((Int32 × Int32) ⊕ (Int32 × Int32)) :=
  (if ((σ.1 (rfA Λ a0 4) 1) - (1 : Int32)) ≤ s9.2 then some (.inr (s9.1, s9.2)) else (if gd s9.2 (ln Λ (rfA Λ (rfA Λ a0 4) 2)) = true then nm (F_J13_bitCount_95d88 (σ.2 (rfA Λ (rfA Λ a0 4) 2) s9.2.toNatClampNeg)) (fun r_9 => (if s9.1 < r_9 then some (.inr (s9.1, s9.2)) else (if gd s9.2 (ln Λ (rfA Λ (rfA Λ a0 4) 2)) = true then nm (F_J13_bitCount_95d88 (σ.2 (rfA Λ (rfA Λ a0 4) 2) s9.2.toNatClampNeg)) (fun r_13 => nm (s9.1 - r_13) (fun v_14 => nm (s9.2 + (1 : Int32)) (fun v_15 => some (.inl (v_14, v_15))))) else none))) else none))
def F_X4_listed (Λ : Lay) (σ : Sto) (a0 : Nat) (l1 : Int32) (l2 : Int32) : Option (Option Int32) :=
  nm (F_X4_within l2 (0 : Int32) (1 : Int32)) (fun r_1 => (if r_1 = 0 then jp_X4_listed_26 Λ σ else (F_X2_ink Λ σ (rfA Λ a0 4)).bind (fun q_3 => nm (F_X4_within l1 (0 : Int32) (q_3 - (1 : Int32))) (fun r_4 => (if r_4 = 0 then jp_X4_listed_26 Λ σ else (iter (bd_X4_listed_41 Λ σ a0 l2) FU (l1, (0 : Int32))).bind (fun e_16 => (if l2 = (1 : Int32) then some (some e_16.2) else (if gd e_16.2 (ln Λ (rfA Λ (rfA Λ a0 4) 2)) = true then (F_X4_bitAfter (σ.2 (rfA Λ (rfA Λ a0 4) 2) e_16.2.toNatClampNeg) e_16.1).bind (fun q_20 => some (some q_20)) else none))))))))
def F_X4_told (Λ : Lay) (σ : Sto) (a0 : Nat) (l1 : Int32) : Option (Option Int32) :=
  nm (F_X4_within l1 (0 : Int32) ((σ.1 a0 7) - (1 : Int32))) (fun r_1 => (if r_1 = 0 then some none else (if gd l1 (ln Λ (rfA Λ a0 6)) = true then some (some (σ.1 (rfA Λ a0 6) l1.toNatClampNeg)) else none)))
