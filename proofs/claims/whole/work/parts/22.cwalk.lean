variable {p : Program} {l : Launch} {e : Env} {R : Room} {s : State} {m : MethodId} {args : Array Value} {below : List Frame} {meth : Method} {c : Code} {Q : State → Prop} {cA : Nat → ClassId} {D : va_G} {b : Nat} {ω : Rel}
theorem fs_1 : ∀ (Λ : Lay) (σ : Sto) (q : Nat), (Λ.2.2.2 q = fun _ => none) → (σ.1 q = fun _ => 0) → (σ.2 q = fun _ => 0) → ∀ j, j < 3 → defaultValue (tyX0 j) = vp_V (fl 1 Λ σ q) j := by
  intro Λ σ q h1 h2 h3 j hj
  rcases (show j = 0 ∨ j = 1 ∨ j = 2 by omega) with rfl | rfl | rfl <;> simp [fl, h1, h2, h3, tyX0, vp_V, defaultValue, va_rf]
theorem fs_2 : ∀ (Λ : Lay) (σ : Sto) (q : Nat), (Λ.2.2.2 q = fun _ => none) → (σ.1 q = fun _ => 0) → (σ.2 q = fun _ => 0) → ∀ j, j < 3 → defaultValue (tyX1 j) = vp_V (fl 2 Λ σ q) j := by
  intro Λ σ q h1 h2 h3 j hj
  rcases (show j = 0 ∨ j = 1 ∨ j = 2 by omega) with rfl | rfl | rfl <;> simp [fl, h1, h2, h3, tyX1, vp_V, defaultValue, va_rf]
theorem fs_3 : ∀ (Λ : Lay) (σ : Sto) (q : Nat), (Λ.2.2.2 q = fun _ => none) → (σ.1 q = fun _ => 0) → (σ.2 q = fun _ => 0) → ∀ j, j < 3 → defaultValue (tyX2 j) = vp_V (fl 3 Λ σ q) j := by
  intro Λ σ q h1 h2 h3 j hj
  rcases (show j = 0 ∨ j = 1 ∨ j = 2 by omega) with rfl | rfl | rfl <;> simp [fl, h1, h2, h3, tyX2, vp_V, defaultValue, va_rf]
theorem fs_4 : ∀ (Λ : Lay) (σ : Sto) (q : Nat), (Λ.2.2.2 q = fun _ => none) → (σ.1 q = fun _ => 0) → (σ.2 q = fun _ => 0) → ∀ j, j < 10 → defaultValue (tyX3 j) = vp_V (fl 4 Λ σ q) j := by
  intro Λ σ q h1 h2 h3 j hj
  rcases (show j = 0 ∨ j = 1 ∨ j = 2 ∨ j = 3 ∨ j = 4 ∨ j = 5 ∨ j = 6 ∨ j = 7 ∨ j = 8 ∨ j = 9 by omega) with rfl | rfl | rfl | rfl | rfl | rfl | rfl | rfl | rfl | rfl <;> simp [fl, h1, h2, h3, tyX3, vp_V, defaultValue, va_rf]
theorem fs_5 : ∀ (Λ : Lay) (σ : Sto) (q : Nat), (Λ.2.2.2 q = fun _ => none) → (σ.1 q = fun _ => 0) → (σ.2 q = fun _ => 0) → ∀ j, j < 8 → defaultValue (tyX4 j) = vp_V (fl 5 Λ σ q) j := by
  intro Λ σ q h1 h2 h3 j hj
  rcases (show j = 0 ∨ j = 1 ∨ j = 2 ∨ j = 3 ∨ j = 4 ∨ j = 5 ∨ j = 6 ∨ j = 7 by omega) with rfl | rfl | rfl | rfl | rfl | rfl | rfl | rfl <;> simp [fl, h1, h2, h3, tyX4, vp_V, defaultValue, va_rf]
theorem fs_6 : ∀ (Λ : Lay) (σ : Sto) (q : Nat), (Λ.2.2.2 q = fun _ => none) → (σ.1 q = fun _ => 0) → (σ.2 q = fun _ => 0) → ∀ j, j < 24 → defaultValue (tyX5 j) = vp_V (fl 6 Λ σ q) j := by
  intro Λ σ q h1 h2 h3 j hj
  rcases (show j = 0 ∨ j = 1 ∨ j = 2 ∨ j = 3 ∨ j = 4 ∨ j = 5 ∨ j = 6 ∨ j = 7 ∨ j = 8 ∨ j = 9 ∨ j = 10 ∨ j = 11 ∨ j = 12 ∨ j = 13 ∨ j = 14 ∨ j = 15 ∨ j = 16 ∨ j = 17 ∨ j = 18 ∨ j = 19 ∨ j = 20 ∨ j = 21 ∨ j = 22 ∨ j = 23 by omega) with rfl | rfl | rfl | rfl | rfl | rfl | rfl | rfl | rfl | rfl | rfl | rfl | rfl | rfl | rfl | rfl | rfl | rfl | rfl | rfl | rfl | rfl | rfl | rfl <;> simp [fl, h1, h2, h3, tyX5, vp_V, defaultValue, va_rf]
theorem in_X2_init_3 : ∀ w ∈ u_ws RX2 TX2 3, w ∈ wsX2_init := by decide +kernel
set_option maxHeartbeats 4000000 in
set_option maxRecDepth 100000 in
theorem w_X2_init (X : CxI cX2_init 2 RX2 wsX2_init p s m args meth c) (hK : KnC cA D s) (k0 : Nat) (l1 : Int32) (hM : 1 ≤ R.frames ∧ 20 ≤ R.locals ∧ 1 ≤ R.cells ∧ l1.toNatClampNeg ≤ R.slots)  {res : Rel} (h : F_X2_init ω k0 l1 = some res) (H : Heap) (locs : List Loc) (ls : Array Slot) (hC : RepC cA D b ω H) (hS : va_S (frm b) s.heap H locs) (hl : lv_has ls 2 [(0, .ref (b + k0)), (1, .int l1)]) : W p l e R s m args below meth c H locs 0 0 (MQ below (QC cA D b res) args s 1 (l1.toNatClampNeg) (frm b)) (F0 m 0 ls []) := by
  have hx := X.1
  have hb := X.2.1
  have hown := X.2.2.2.2.1
  have hts := X.2.2.2.2.2.1
  have hM2 := hM.2.2
  unfold F_X2_init at h
  obtain ⟨n0, e_n0⟩ : ∃ y : Nat, y = ω.1 := ⟨_, rfl⟩
  have h := of_nm e_n0 h
  obtain ⟨t0, e_t0⟩ : ∃ y : Nat, y = ω.2.1 := ⟨_, rfl⟩
  have h := of_nm e_t0 h
  refine W.widen (k := ω.1 - n0) (n := ω.2.1 - t0) (Nat.zero_le _) (Nat.zero_le _) ?_
  refine lv_aload_n hx hb dX2_init_0 rfl (lv_at hl 0 rfl) ?_
  refine W.objInit hx hb hown (hts (.methodLink RX2 3 objectInit) (by decide +kernel)) (hts (.instanceMethod objectInit) (by decide +kernel)) (hts (.code objectInit ⟨#[0xb1]⟩ 1 none) (by decide +kernel)) rfl (by rw [X.2.2.2.1]; exact hl.1) rfl dX2_init_1 (Nat.le_trans (by decide) hM.1) (Nat.le_trans (Nat.le_of_ble_eq_true rfl) hM.2.1) ?_
  refine W.eq (g2 := F0 m 4 ls []) rfl ?_
  refine lv_aload_n hx hb dX2_init_4 rfl (lv_at hl 0 rfl) ?_
  refine lv_iconst (v := (0 : Int32)) hx hb dX2_init_5 (by decide) ?_
  obtain ⟨hg_1, h⟩ := of_guard h
  refine rc_putI X hK hC hS 3 0 tyX2 hg_1 (by decide) (C := RX2) (T := TX2) (N := 3) rfl (by decide) in_X2_init_3 tyX2_ok nmX2 (by decide +kernel) rfl rfl (by decide +kernel) dX2_init_6 (fun ω_1 H locs e_1 hC hS => ?_)
  have h := of_nm e_1 h
  refine lv_aload_n hx hb dX2_init_9 rfl (lv_at hl 0 rfl) ?_
  refine lv_iconst (v := (0 : Int32)) hx hb dX2_init_10 (by decide) ?_
  obtain ⟨hg_2, h⟩ := of_guard h
  refine rc_putI X hK hC hS 3 1 tyX2 hg_2 (by decide) (C := RX2) (T := TX2) (N := 3) rfl (by decide) in_X2_init_3 tyX2_ok nmX2 (by decide +kernel) rfl rfl (by decide +kernel) dX2_init_11 (fun ω_2 H locs e_2 hC hS => ?_)
  have h := of_nm e_2 h
  refine lv_aload_n hx hb dX2_init_14 rfl (lv_at hl 0 rfl) ?_
  refine lv_iload_n hx hb dX2_init_15 rfl (lv_at hl 1 rfl) ?_
  obtain ⟨hl_3, h⟩ := of_guard h
  obtain ⟨hg_3, h⟩ := of_guard h
  refine rc_newa X hK hC hS hM2 8 1 (Or.inr (Or.inl ⟨rfl, rfl, rfl⟩)) (by decide +kernel) hl_3 hg_3 dX2_init_16 (fun ω_3 H e_3 hC hS => ?_)
  have h := of_nm e_3 h
  obtain ⟨hg_4, h⟩ := of_guard h
  refine rc_putR X hK hC hS 3 2 8 tyX2 hg_4 (by decide) (C := RX2) (T := TX2) (N := 3) rfl (by decide) in_X2_init_3 tyX2_ok nmX2 (by decide +kernel) rfl rfl rfl (tyX2_ok 2 (by decide)) rfl rfl dX2_init_18 (fun ω_4 H locs e_4 hC hS => ?_)
  have h := of_nm e_4 h
  obtain ⟨hg_5, h⟩ := of_guard h
  exact rc_ret X hC hS hg_5 (Option.some.inj h) dX2_init_21

set_option maxHeartbeats 4000000 in
set_option maxRecDepth 100000 in
theorem c_X2_init (l : Launch) (cA : Nat → ClassId) (D : va_G) (b : Nat) (ω : Rel) (k0 : Nat) (l1 : Int32) {res : Rel} (h : F_X2_init ω k0 l1 = some res) : Met l yX2_init wsX2_init { frames := 1, cells := 1, slots := l1.toNatClampNeg, locals := 20 } (va_Pc [.ref (b + k0), .int l1] (PC cA D b ω)) (QC cA D b res) 1 (l1.toNatClampNeg) (frm b) := by
  refine Met.ofW (cc := cX2_init) (maxL := 2) (ret := none) (by decide) rfl ?_
  intro p e s m args below meth c s₁ B hml hv
  obtain ⟨rfl, hC, hK⟩ := hv
  have X : CxI cX2_init 2 RX2 wsX2_init p s m _ meth c := ⟨B.exec, B.bytes, B.returns, hml, findClass_of_methodNamed B.named, atoms_spec (ws := wsX2_init) B.pre, B.notSynchronized, (name_of_methodNamed B.named B.method).1⟩
  have hS : va_S (frm b) s.heap s.heap [] := va_S.rf
  have hl := lv_entry ([.ref (b + k0), .int l1]) (n := 2) (Nat.le_of_ble_eq_true rfl)
  rw [lg_entry_eq]
  generalize (lg_sl ([.ref (b + k0), .int l1]) ++ List.replicate (2 - (lg_sl ([.ref (b + k0), .int l1])).length) Slot.unset).toArray = ls at hl ⊢
  have hl : lv_has ls 2 [(0, .ref (b + k0)), (1, .int l1)] := hl
  exact w_X2_init X hK k0 l1 ⟨Nat.le_refl _, Nat.le_refl _, Nat.le_refl _, Nat.le_refl _⟩ h s.heap [] ls hC hS hl
theorem in_X0_init_1 : ∀ w ∈ u_ws RX0 TX0 3, w ∈ wsX0_init := by decide +kernel
theorem in_X0_init_3 : ∀ w ∈ u_ws RX2 TX2 3, w ∈ wsX0_init := by decide +kernel
set_option maxHeartbeats 4000000 in
set_option maxRecDepth 100000 in
theorem w_X0_init (X : CxI cX0_init 1 RX0 wsX0_init p s m args meth c) (hK : KnC cA D s) (k0 : Nat) (hM : 2 ≤ R.frames ∧ 41 ≤ R.locals ∧ 2 ≤ R.cells ∧ 67 ≤ R.slots)  {res : Rel} (h : F_X0_init ω k0 = some res) (H : Heap) (locs : List Loc) (ls : Array Slot) (hC : RepC cA D b ω H) (hS : va_S (frm b) s.heap H locs) (hl : lv_has ls 1 [(0, .ref (b + k0))]) : W p l e R s m args below meth c H locs 0 0 (MQ below (QC cA D b res) args s 2 (67) (frm b)) (F0 m 0 ls []) := by
  have hx := X.1
  have hb := X.2.1
  have hown := X.2.2.2.2.1
  have hts := X.2.2.2.2.2.1
  have hM2 := hM.2.2
  unfold F_X0_init at h
  obtain ⟨n0, e_n0⟩ : ∃ y : Nat, y = ω.1 := ⟨_, rfl⟩
  have h := of_nm e_n0 h
  obtain ⟨t0, e_t0⟩ : ∃ y : Nat, y = ω.2.1 := ⟨_, rfl⟩
  have h := of_nm e_t0 h
  refine W.widen (k := ω.1 - n0) (n := ω.2.1 - t0) (Nat.zero_le _) (Nat.zero_le _) ?_
  refine lv_aload_n hx hb dX0_init_0 rfl (lv_at hl 0 rfl) ?_
  refine W.objInit hx hb hown (hts (.methodLink RX0 3 objectInit) (by decide +kernel)) (hts (.instanceMethod objectInit) (by decide +kernel)) (hts (.code objectInit ⟨#[0xb1]⟩ 1 none) (by decide +kernel)) rfl (by rw [X.2.2.2.1]; exact hl.1) rfl dX0_init_1 (Nat.le_trans (by decide) hM.1) (Nat.le_trans (Nat.le_of_ble_eq_true rfl) hM.2.1) ?_
  refine W.eq (g2 := F0 m 4 ls []) rfl ?_
  refine lv_aload_n hx hb dX0_init_4 rfl (lv_at hl 0 rfl) ?_
  refine lv_iconst (v := (-1 : Int32)) hx hb dX0_init_5 (by decide) ?_
  obtain ⟨hg_1, h⟩ := of_guard h
  refine rc_putI X hK hC hS 1 0 tyX0 hg_1 (by decide) (C := RX0) (T := TX0) (N := 3) rfl (by decide) in_X0_init_1 tyX0_ok nmX0 (by decide +kernel) rfl rfl (by decide +kernel) dX0_init_6 (fun ω_1 H locs e_1 hC hS => ?_)
  have h := of_nm e_1 h
  refine lv_aload_n hx hb dX0_init_9 rfl (lv_at hl 0 rfl) ?_
  refine lv_iconst (v := (-1 : Int32)) hx hb dX0_init_10 (by decide) ?_
  obtain ⟨hg_2, h⟩ := of_guard h
  refine rc_putI X hK hC hS 1 1 tyX0 hg_2 (by decide) (C := RX0) (T := TX0) (N := 3) rfl (by decide) in_X0_init_1 tyX0_ok nmX0 (by decide +kernel) rfl rfl (by decide +kernel) dX0_init_11 (fun ω_2 H locs e_2 hC hS => ?_)
  have h := of_nm e_2 h
  refine lv_aload_n hx hb dX0_init_14 rfl (lv_at hl 0 rfl) ?_
  obtain ⟨hg_3, h⟩ := of_guard h
  refine rc_newo X hK hC hS hM2 3 tyX2 (C := RX2) (T := TX2) (N := 3) rfl (by decide) in_X0_init_3 tyX2_ok (by decide +kernel) (by decide +kernel) (by decide +kernel) fs_3 hg_3 dX0_init_15 (fun ω_3 H e_3 hC hS => ?_)
  have h := of_nm e_3 h
  refine lv_dup hx hb dX0_init_18 rfl ?_
  refine lv_bipush (v := (64 : Int32)) hx hb dX0_init_19 (by decide) ?_
  obtain ⟨hg_4, h⟩ := of_guard h
  obtain ⟨q_4, hq_4, h⟩ := of_bind h
  obtain ⟨he_4, h⟩ := of_guard h
  refine rc_call (As := [.int (64 : Int32)]) (rest := [.ref (b + ω_2.1), .ref (b + k0)]) X hK hC hS hM2 hl.1 (c_X2_init l cA D b ω_3 ω_2.1 (64 : Int32) hq_4) (cwI 1 hts gX0_init_X2_init rfl rfl rfl (hts (.initialized RX2) (by decide +kernel)) (hts (.methodLink RX0 20 yX2_init) (by decide +kernel)) (hts (.instanceMethod yX2_init) (by decide +kernel)) rfl (by decide +kernel) ⟨Nat.le_trans (by decide) hM.1, Nat.le_trans (by decide) hM.2.1⟩) rfl rfl (Nat.le_of_ble_eq_true rfl) hg_4 he_4 dX0_init_21 (fun H locs hC hS => ?_)
  obtain ⟨hg_5, h⟩ := of_guard h
  refine rc_putR X hK hC hS 1 2 3 tyX0 hg_5 (by decide) (C := RX0) (T := TX0) (N := 3) rfl (by decide) in_X0_init_1 tyX0_ok nmX0 (by decide +kernel) rfl rfl rfl (tyX0_ok 2 (by decide)) rfl rfl dX0_init_24 (fun ω_5 H locs e_5 hC hS => ?_)
  have h := of_nm e_5 h
  obtain ⟨hg_6, h⟩ := of_guard h
  exact rc_ret X hC hS hg_6 (Option.some.inj h) dX0_init_27

set_option maxHeartbeats 4000000 in
set_option maxRecDepth 100000 in
theorem c_X0_init (l : Launch) (cA : Nat → ClassId) (D : va_G) (b : Nat) (ω : Rel) (k0 : Nat) {res : Rel} (h : F_X0_init ω k0 = some res) : Met l yX0_init wsX0_init { frames := 2, cells := 2, slots := 67, locals := 41 } (va_Pc [.ref (b + k0)] (PC cA D b ω)) (QC cA D b res) 2 (67) (frm b) := by
  refine Met.ofW (cc := cX0_init) (maxL := 1) (ret := none) (by decide) rfl ?_
  intro p e s m args below meth c s₁ B hml hv
  obtain ⟨rfl, hC, hK⟩ := hv
  have X : CxI cX0_init 1 RX0 wsX0_init p s m _ meth c := ⟨B.exec, B.bytes, B.returns, hml, findClass_of_methodNamed B.named, atoms_spec (ws := wsX0_init) B.pre, B.notSynchronized, (name_of_methodNamed B.named B.method).1⟩
  have hS : va_S (frm b) s.heap s.heap [] := va_S.rf
  have hl := lv_entry ([.ref (b + k0)]) (n := 1) (Nat.le_of_ble_eq_true rfl)
  rw [lg_entry_eq]
  generalize (lg_sl ([.ref (b + k0)]) ++ List.replicate (1 - (lg_sl ([.ref (b + k0)])).length) Slot.unset).toArray = ls at hl ⊢
  have hl : lv_has ls 1 [(0, .ref (b + k0))] := hl
  exact w_X0_init X hK k0 ⟨Nat.le_refl _, Nat.le_refl _, Nat.le_refl _, Nat.le_refl _⟩ h s.heap [] ls hC hS hl
theorem in_X1_init_1 : ∀ w ∈ u_ws RX0 TX0 3, w ∈ wsX1_init := by decide +kernel
theorem in_X1_init_2 : ∀ w ∈ u_ws RX1 TX1 3, w ∈ wsX1_init := by decide +kernel
set_option maxHeartbeats 4000000 in
set_option maxRecDepth 100000 in
theorem w_bd_X1_init_15 (X : CxI cX1_init 2 RX1 wsX1_init p s m args meth c) (hK : KnC cA D s) (hM : 3 ≤ R.frames ∧ 61 ≤ R.locals ∧ 31 ≤ R.cells ∧ 710 ≤ R.slots) (n0 t0 k0 : Nat) (s9 : Int32 × Rel) {r : (Int32 × Rel) ⊕ Rel} (h : bd_X1_init_15 n0 t0 k0 s9 = some r) (kb : ∀ z : Int32 × Rel, r = .inl z → ∀ (H : Heap) (locs : List Loc) (ls : Array Slot), RepC cA D b z.2 H → va_S (frm b) s.heap H locs → lv_has ls 2 [(0, .ref (b + k0)), (1, .int z.1)] → W p l e R s m args below meth c H locs (z.2.1 - n0) (z.2.2.1 - t0) Q (F0 m 15 ls [])) (kx : ∀ z : Rel, r = .inr z → ∀ (H : Heap) (locs : List Loc) (ls : Array Slot), RepC cA D b z H → va_S (frm b) s.heap H locs → lv_has ls 2 [(0, .ref (b + k0))] → W p l e R s m args below meth c H locs (z.1 - n0) (z.2.1 - t0) Q (F0 m 40 ls [])) (H : Heap) (locs : List Loc) (ls : Array Slot) (hC : RepC cA D b s9.2 H) (hS : va_S (frm b) s.heap H locs) (hl : lv_has ls 2 [(0, .ref (b + k0)), (1, .int s9.1)]) : W p l e R s m args below meth c H locs (s9.2.1 - n0) (s9.2.2.1 - t0) Q (F0 m 15 ls []) := by
  have hx := X.1
  have hb := X.2.1
  have hown := X.2.2.2.2.1
  have hts := X.2.2.2.2.2.1
  have hM2 := hM.2.2
  unfold bd_X1_init_15 at h
  refine lv_iload_n hx hb dX1_init_15 rfl (lv_at hl 1 rfl) ?_
  refine lv_bipush (v := (10 : Int32)) hx hb dX1_init_16 (by decide) ?_
  refine lv_icmp_ge (tgt := 40) hx hb dX1_init_18 (by decide) (fun hc => ?_) (fun hc => ?_)
  · have h := of_pos hc h
    exact kx s9.2 (Option.some.inj h).symm H locs ls hC hS (lv_sub hl [0] rfl)
  · have h := of_neg hc h
    refine lv_aload_n hx hb dX1_init_21 rfl (lv_at hl 0 rfl) ?_
    obtain ⟨hg_3, h⟩ := of_guard h
    obtain ⟨r_3, hr_3, h⟩ := of_bind h
    refine rc_getR X hK hC 2 0 10 (v := r_3) hg_3 hr_3 (by decide) (C := RX1) (T := TX1) (N := 3) rfl (by decide) in_X1_init_2 (by decide +kernel) rfl dX1_init_22 ?_
    refine lv_iload_n hx hb dX1_init_25 rfl (lv_at hl 1 rfl) ?_
    obtain ⟨hg_4, h⟩ := of_guard h
    refine rc_newo X hK hC hS hM2 1 tyX0 (C := RX0) (T := TX0) (N := 3) rfl (by decide) in_X1_init_1 tyX0_ok (by decide +kernel) (by decide +kernel) (by decide +kernel) fs_1 hg_4 dX1_init_26 (fun ω_4 H e_4 hC hS => ?_)
    have h := of_nm e_4 h
    refine lv_dup hx hb dX1_init_29 rfl ?_
    obtain ⟨hg_5, h⟩ := of_guard h
    obtain ⟨q_5, hq_5, h⟩ := of_bind h
    obtain ⟨he_5, h⟩ := of_guard h
    refine rc_call (As := []) (rest := [.ref (b + s9.2.1), .int s9.1, .ref (b + r_3)]) X hK hC hS hM2 hl.1 (c_X0_init l cA D b ω_4 s9.2.1 hq_5) (cwI 0 hts gX1_init_X0_init rfl rfl rfl (hts (.initialized RX0) (by decide +kernel)) (hts (.methodLink RX1 17 yX0_init) (by decide +kernel)) (hts (.instanceMethod yX0_init) (by decide +kernel)) rfl (by decide +kernel) ⟨Nat.le_trans (by decide) hM.1, Nat.le_trans (by decide) hM.2.1⟩) rfl rfl (Nat.le_of_ble_eq_true rfl) hg_5 he_5 dX1_init_30 (fun H locs hC hS => ?_)
    obtain ⟨hg_6, h⟩ := of_guard h
    obtain ⟨hv_6, h⟩ := of_guard h
    obtain ⟨hi_6, h⟩ := of_guard h
    refine rc_aast X hK hC hS 10 1 3 (Or.inl ⟨rfl, rfl, rfl⟩) hg_6 hv_6 hi_6 dX1_init_33 (fun ω_6 H locs e_6 hC hS => ?_)
    have h := of_nm e_6 h
    obtain ⟨v_7, e_v_7⟩ : ∃ y : Int32, y = (s9.1 + (1 : Int32)) := ⟨_, rfl⟩
    have h := of_nm e_v_7 h
    refine lv_iinc (v := v_7) (lv' := [(1, .int v_7), (0, .ref (b + k0))]) hx hb dX1_init_34 hl (k := 1) rfl (by rw [e_v_7]; rfl) (by decide) rfl (fun ls hl => ?_)
    refine lv_goto (tgt := 15) hx hb dX1_init_37 (by decide) ?_
    exact kb (v_7, ω_6) (Option.some.inj h).symm H locs ls hC hS (lv_sub hl [1, 0] rfl)

set_option maxHeartbeats 4000000 in
set_option maxRecDepth 100000 in
theorem w_lp_X1_init_15 (X : CxI cX1_init 2 RX1 wsX1_init p s m args meth c) (hK : KnC cA D s) (hM : 3 ≤ R.frames ∧ 61 ≤ R.locals ∧ 31 ≤ R.cells ∧ 710 ≤ R.slots) (n0 t0 k0 : Nat) {e9 : Rel} : ∀ (n9 : Nat) (s9 : Int32 × Rel), iter (bd_X1_init_15 n0 t0 k0) n9 s9 = some e9 → ∀ (kx : ∀ (H : Heap) (locs : List Loc) (ls : Array Slot), RepC cA D b e9 H → va_S (frm b) s.heap H locs → lv_has ls 2 [(0, .ref (b + k0))] → W p l e R s m args below meth c H locs (e9.1 - n0) (e9.2.1 - t0) Q (F0 m 40 ls [])), ∀ (H : Heap) (locs : List Loc) (ls : Array Slot), RepC cA D b s9.2 H → va_S (frm b) s.heap H locs → lv_has ls 2 [(0, .ref (b + k0)), (1, .int s9.1)] → W p l e R s m args below meth c H locs (s9.2.1 - n0) (s9.2.2.1 - t0) Q (F0 m 15 ls []) := by
  intro n9
  induction n9 with
  | zero => intro s9 h; cases h
  | succ n9 ih =>
    intro s9 h kx H locs ls hC hS hl
    obtain ⟨r, hr, h⟩ := of_iter h
    refine w_bd_X1_init_15 X hK hM n0 t0 k0 s9 hr (fun z ez H locs ls hC hS hl => ?_) (fun z ez H locs ls hC hS hl => ?_) H locs ls hC hS hl
    · exact ih z (of_itl ez h) kx H locs ls hC hS hl
    · have he := of_itr ez h; subst he; exact kx H locs ls hC hS hl

set_option maxHeartbeats 4000000 in
set_option maxRecDepth 100000 in
theorem w_X1_init (X : CxI cX1_init 2 RX1 wsX1_init p s m args meth c) (hK : KnC cA D s) (k0 : Nat) (hM : 3 ≤ R.frames ∧ 61 ≤ R.locals ∧ 31 ≤ R.cells ∧ 710 ≤ R.slots)  {res : Rel} (h : F_X1_init ω k0 = some res) (H : Heap) (locs : List Loc) (ls : Array Slot) (hC : RepC cA D b ω H) (hS : va_S (frm b) s.heap H locs) (hl : lv_has ls 2 [(0, .ref (b + k0))]) : W p l e R s m args below meth c H locs 0 0 (MQ below (QC cA D b res) args s 31 (710) (frm b)) (F0 m 0 ls []) := by
  have hx := X.1
  have hb := X.2.1
  have hown := X.2.2.2.2.1
  have hts := X.2.2.2.2.2.1
  have hM2 := hM.2.2
  unfold F_X1_init at h
  obtain ⟨n0, e_n0⟩ : ∃ y : Nat, y = ω.1 := ⟨_, rfl⟩
  have h := of_nm e_n0 h
  obtain ⟨t0, e_t0⟩ : ∃ y : Nat, y = ω.2.1 := ⟨_, rfl⟩
  have h := of_nm e_t0 h
  refine W.widen (k := ω.1 - n0) (n := ω.2.1 - t0) (Nat.zero_le _) (Nat.zero_le _) ?_
  refine lv_aload_n hx hb dX1_init_0 rfl (lv_at hl 0 rfl) ?_
  refine W.objInit hx hb hown (hts (.methodLink RX1 3 objectInit) (by decide +kernel)) (hts (.instanceMethod objectInit) (by decide +kernel)) (hts (.code objectInit ⟨#[0xb1]⟩ 1 none) (by decide +kernel)) rfl (by rw [X.2.2.2.1]; exact hl.1) rfl dX1_init_1 (Nat.le_trans (by decide) hM.1) (Nat.le_trans (Nat.le_of_ble_eq_true rfl) hM.2.1) ?_
  refine W.eq (g2 := F0 m 4 ls []) rfl ?_
  refine lv_aload_n hx hb dX1_init_4 rfl (lv_at hl 0 rfl) ?_
  refine lv_bipush (v := (10 : Int32)) hx hb dX1_init_5 (by decide) ?_
  obtain ⟨hl_1, h⟩ := of_guard h
  obtain ⟨hg_1, h⟩ := of_guard h
  refine rc_newq X hK hC hS hM2 10 3 (C := "StraightPages$Change") (Or.inl ⟨rfl, rfl, rfl⟩) (by decide +kernel) hl_1 hg_1 dX1_init_7 (fun ω_1 H e_1 hC hS => ?_)
  have h := of_nm e_1 h
  obtain ⟨hg_2, h⟩ := of_guard h
  refine rc_putR X hK hC hS 2 0 10 tyX1 hg_2 (by decide) (C := RX1) (T := TX1) (N := 3) rfl (by decide) in_X1_init_2 tyX1_ok nmX1 (by decide +kernel) rfl rfl rfl (tyX1_ok 0 (by decide)) rfl rfl dX1_init_10 (fun ω_2 H locs e_2 hC hS => ?_)
  have h := of_nm e_2 h
  refine lv_iconst (v := (0 : Int32)) hx hb dX1_init_13 (by decide) ?_
  refine lv_istore_n (lv' := [(1, .int (0 : Int32)), (0, .ref (b + k0))]) hx hb dX1_init_14 rfl hl (by decide) rfl (fun ls hl => ?_)
  obtain ⟨e_8, hq_8, h⟩ := of_bind h
  refine w_lp_X1_init_15 X hK hM n0 t0 k0 _ ((0 : Int32), ω_2) hq_8 (fun H locs ls hC hS hl => ?_) H locs ls hC hS (lv_sub hl [1, 0] rfl)
  refine lv_aload_n hx hb dX1_init_40 rfl (lv_at hl 0 rfl) ?_
  refine lv_iconst (v := (0 : Int32)) hx hb dX1_init_41 (by decide) ?_
  obtain ⟨hg_9, h⟩ := of_guard h
  refine rc_putI X hK hC hS 2 1 tyX1 hg_9 (by decide) (C := RX1) (T := TX1) (N := 3) rfl (by decide) in_X1_init_2 tyX1_ok nmX1 (by decide +kernel) rfl rfl (by decide +kernel) dX1_init_42 (fun ω_9 H locs e_9 hC hS => ?_)
  have h := of_nm e_9 h
  refine lv_aload_n hx hb dX1_init_45 rfl (lv_at hl 0 rfl) ?_
  refine lv_iconst (v := (0 : Int32)) hx hb dX1_init_46 (by decide) ?_
  obtain ⟨hg_10, h⟩ := of_guard h
  refine rc_putI X hK hC hS 2 2 tyX1 hg_10 (by decide) (C := RX1) (T := TX1) (N := 3) rfl (by decide) in_X1_init_2 tyX1_ok nmX1 (by decide +kernel) rfl rfl (by decide +kernel) dX1_init_47 (fun ω_10 H locs e_10 hC hS => ?_)
  have h := of_nm e_10 h
  obtain ⟨hg_11, h⟩ := of_guard h
  exact rc_ret X hC hS hg_11 (Option.some.inj h) dX1_init_50

set_option maxHeartbeats 4000000 in
set_option maxRecDepth 100000 in
theorem c_X1_init (l : Launch) (cA : Nat → ClassId) (D : va_G) (b : Nat) (ω : Rel) (k0 : Nat) {res : Rel} (h : F_X1_init ω k0 = some res) : Met l yX1_init wsX1_init { frames := 3, cells := 31, slots := 710, locals := 61 } (va_Pc [.ref (b + k0)] (PC cA D b ω)) (QC cA D b res) 31 (710) (frm b) := by
  refine Met.ofW (cc := cX1_init) (maxL := 2) (ret := none) (by decide) rfl ?_
  intro p e s m args below meth c s₁ B hml hv
  obtain ⟨rfl, hC, hK⟩ := hv
  have X : CxI cX1_init 2 RX1 wsX1_init p s m _ meth c := ⟨B.exec, B.bytes, B.returns, hml, findClass_of_methodNamed B.named, atoms_spec (ws := wsX1_init) B.pre, B.notSynchronized, (name_of_methodNamed B.named B.method).1⟩
  have hS : va_S (frm b) s.heap s.heap [] := va_S.rf
  have hl := lv_entry ([.ref (b + k0)]) (n := 2) (Nat.le_of_ble_eq_true rfl)
  rw [lg_entry_eq]
  generalize (lg_sl ([.ref (b + k0)]) ++ List.replicate (2 - (lg_sl ([.ref (b + k0)])).length) Slot.unset).toArray = ls at hl ⊢
  have hl : lv_has ls 2 [(0, .ref (b + k0))] := hl
  exact w_X1_init X hK k0 ⟨Nat.le_refl _, Nat.le_refl _, Nat.le_refl _, Nat.le_refl _⟩ h s.heap [] ls hC hS hl
theorem in_X3_init_3 : ∀ w ∈ u_ws RX2 TX2 3, w ∈ wsX3_init := by decide +kernel
theorem in_X3_init_4 : ∀ w ∈ u_ws RX3 TX3 10, w ∈ wsX3_init := by decide +kernel
set_option maxHeartbeats 4000000 in
set_option maxRecDepth 100000 in
theorem w_X3_init (X : CxI cX3_init 1 RX3 wsX3_init p s m args meth c) (hK : KnC cA D s) (k0 : Nat) (hM : 2 ≤ R.frames ∧ 41 ≤ R.locals ∧ 9 ≤ R.cells ∧ 332 ≤ R.slots)  {res : Rel} (h : F_X3_init ω k0 = some res) (H : Heap) (locs : List Loc) (ls : Array Slot) (hC : RepC cA D b ω H) (hS : va_S (frm b) s.heap H locs) (hl : lv_has ls 1 [(0, .ref (b + k0))]) : W p l e R s m args below meth c H locs 0 0 (MQ below (QC cA D b res) args s 9 (332) (frm b)) (F0 m 0 ls []) := by
  have hx := X.1
  have hb := X.2.1
  have hown := X.2.2.2.2.1
  have hts := X.2.2.2.2.2.1
  have hM2 := hM.2.2
  unfold F_X3_init at h
  obtain ⟨n0, e_n0⟩ : ∃ y : Nat, y = ω.1 := ⟨_, rfl⟩
  have h := of_nm e_n0 h
  obtain ⟨t0, e_t0⟩ : ∃ y : Nat, y = ω.2.1 := ⟨_, rfl⟩
  have h := of_nm e_t0 h
  refine W.widen (k := ω.1 - n0) (n := ω.2.1 - t0) (Nat.zero_le _) (Nat.zero_le _) ?_
  refine lv_aload_n hx hb dX3_init_0 rfl (lv_at hl 0 rfl) ?_
  refine W.objInit hx hb hown (hts (.methodLink RX3 3 objectInit) (by decide +kernel)) (hts (.instanceMethod objectInit) (by decide +kernel)) (hts (.code objectInit ⟨#[0xb1]⟩ 1 none) (by decide +kernel)) rfl (by rw [X.2.2.2.1]; exact hl.1) rfl dX3_init_1 (Nat.le_trans (by decide) hM.1) (Nat.le_trans (Nat.le_of_ble_eq_true rfl) hM.2.1) ?_
  refine W.eq (g2 := F0 m 4 ls []) rfl ?_
  refine lv_aload_n hx hb dX3_init_4 rfl (lv_at hl 0 rfl) ?_
  obtain ⟨hg_1, h⟩ := of_guard h
  refine rc_newo X hK hC hS hM2 3 tyX2 (C := RX2) (T := TX2) (N := 3) rfl (by decide) in_X3_init_3 tyX2_ok (by decide +kernel) (by decide +kernel) (by decide +kernel) fs_3 hg_1 dX3_init_5 (fun ω_1 H e_1 hC hS => ?_)
  have h := of_nm e_1 h
  refine lv_dup hx hb dX3_init_8 rfl ?_
  refine lv_bipush (v := (64 : Int32)) hx hb dX3_init_9 (by decide) ?_
  obtain ⟨hg_2, h⟩ := of_guard h
  obtain ⟨q_2, hq_2, h⟩ := of_bind h
  obtain ⟨he_2, h⟩ := of_guard h
  refine rc_call (As := [.int (64 : Int32)]) (rest := [.ref (b + ω.1), .ref (b + k0)]) X hK hC hS hM2 hl.1 (c_X2_init l cA D b ω_1 ω.1 (64 : Int32) hq_2) (cwI 1 hts gX3_init_X2_init rfl rfl rfl (hts (.initialized RX2) (by decide +kernel)) (hts (.methodLink RX3 11 yX2_init) (by decide +kernel)) (hts (.instanceMethod yX2_init) (by decide +kernel)) rfl (by decide +kernel) ⟨Nat.le_trans (by decide) hM.1, Nat.le_trans (by decide) hM.2.1⟩) rfl rfl (Nat.le_of_ble_eq_true rfl) hg_2 he_2 dX3_init_11 (fun H locs hC hS => ?_)
  obtain ⟨hg_3, h⟩ := of_guard h
  refine rc_putR X hK hC hS 4 0 3 tyX3 hg_3 (by decide) (C := RX3) (T := TX3) (N := 10) rfl (by decide) in_X3_init_4 tyX3_ok nmX3 (by decide +kernel) rfl rfl rfl (tyX3_ok 0 (by decide)) rfl rfl dX3_init_14 (fun ω_3 H locs e_3 hC hS => ?_)
  have h := of_nm e_3 h
  refine lv_aload_n hx hb dX3_init_17 rfl (lv_at hl 0 rfl) ?_
  obtain ⟨hg_4, h⟩ := of_guard h
  refine rc_newo X hK hC hS hM2 3 tyX2 (C := RX2) (T := TX2) (N := 3) rfl (by decide) in_X3_init_3 tyX2_ok (by decide +kernel) (by decide +kernel) (by decide +kernel) fs_3 hg_4 dX3_init_18 (fun ω_4 H e_4 hC hS => ?_)
  have h := of_nm e_4 h
  refine lv_dup hx hb dX3_init_21 rfl ?_
  refine lv_bipush (v := (64 : Int32)) hx hb dX3_init_22 (by decide) ?_
  obtain ⟨hg_5, h⟩ := of_guard h
  obtain ⟨q_5, hq_5, h⟩ := of_bind h
  obtain ⟨he_5, h⟩ := of_guard h
  refine rc_call (As := [.int (64 : Int32)]) (rest := [.ref (b + ω_3.1), .ref (b + k0)]) X hK hC hS hM2 hl.1 (c_X2_init l cA D b ω_4 ω_3.1 (64 : Int32) hq_5) (cwI 1 hts gX3_init_X2_init rfl rfl rfl (hts (.initialized RX2) (by decide +kernel)) (hts (.methodLink RX3 11 yX2_init) (by decide +kernel)) (hts (.instanceMethod yX2_init) (by decide +kernel)) rfl (by decide +kernel) ⟨Nat.le_trans (by decide) hM.1, Nat.le_trans (by decide) hM.2.1⟩) rfl rfl (Nat.le_of_ble_eq_true rfl) hg_5 he_5 dX3_init_24 (fun H locs hC hS => ?_)
  obtain ⟨hg_6, h⟩ := of_guard h
  refine rc_putR X hK hC hS 4 1 3 tyX3 hg_6 (by decide) (C := RX3) (T := TX3) (N := 10) rfl (by decide) in_X3_init_4 tyX3_ok nmX3 (by decide +kernel) rfl rfl rfl (tyX3_ok 1 (by decide)) rfl rfl dX3_init_27 (fun ω_6 H locs e_6 hC hS => ?_)
  have h := of_nm e_6 h
  refine lv_aload_n hx hb dX3_init_30 rfl (lv_at hl 0 rfl) ?_
  obtain ⟨hg_7, h⟩ := of_guard h
  refine rc_newo X hK hC hS hM2 3 tyX2 (C := RX2) (T := TX2) (N := 3) rfl (by decide) in_X3_init_3 tyX2_ok (by decide +kernel) (by decide +kernel) (by decide +kernel) fs_3 hg_7 dX3_init_31 (fun ω_7 H e_7 hC hS => ?_)
  have h := of_nm e_7 h
  refine lv_dup hx hb dX3_init_34 rfl ?_
  refine lv_bipush (v := (64 : Int32)) hx hb dX3_init_35 (by decide) ?_
  obtain ⟨hg_8, h⟩ := of_guard h
  obtain ⟨q_8, hq_8, h⟩ := of_bind h
  obtain ⟨he_8, h⟩ := of_guard h
  refine rc_call (As := [.int (64 : Int32)]) (rest := [.ref (b + ω_6.1), .ref (b + k0)]) X hK hC hS hM2 hl.1 (c_X2_init l cA D b ω_7 ω_6.1 (64 : Int32) hq_8) (cwI 1 hts gX3_init_X2_init rfl rfl rfl (hts (.initialized RX2) (by decide +kernel)) (hts (.methodLink RX3 11 yX2_init) (by decide +kernel)) (hts (.instanceMethod yX2_init) (by decide +kernel)) rfl (by decide +kernel) ⟨Nat.le_trans (by decide) hM.1, Nat.le_trans (by decide) hM.2.1⟩) rfl rfl (Nat.le_of_ble_eq_true rfl) hg_8 he_8 dX3_init_37 (fun H locs hC hS => ?_)
  obtain ⟨hg_9, h⟩ := of_guard h
  refine rc_putR X hK hC hS 4 2 3 tyX3 hg_9 (by decide) (C := RX3) (T := TX3) (N := 10) rfl (by decide) in_X3_init_4 tyX3_ok nmX3 (by decide +kernel) rfl rfl rfl (tyX3_ok 2 (by decide)) rfl rfl dX3_init_40 (fun ω_9 H locs e_9 hC hS => ?_)
  have h := of_nm e_9 h
  refine lv_aload_n hx hb dX3_init_43 rfl (lv_at hl 0 rfl) ?_
  obtain ⟨hg_10, h⟩ := of_guard h
  refine rc_newo X hK hC hS hM2 3 tyX2 (C := RX2) (T := TX2) (N := 3) rfl (by decide) in_X3_init_3 tyX2_ok (by decide +kernel) (by decide +kernel) (by decide +kernel) fs_3 hg_10 dX3_init_44 (fun ω_10 H e_10 hC hS => ?_)
  have h := of_nm e_10 h
  refine lv_dup hx hb dX3_init_47 rfl ?_
  refine lv_bipush (v := (64 : Int32)) hx hb dX3_init_48 (by decide) ?_
  obtain ⟨hg_11, h⟩ := of_guard h
  obtain ⟨q_11, hq_11, h⟩ := of_bind h
  obtain ⟨he_11, h⟩ := of_guard h
  refine rc_call (As := [.int (64 : Int32)]) (rest := [.ref (b + ω_9.1), .ref (b + k0)]) X hK hC hS hM2 hl.1 (c_X2_init l cA D b ω_10 ω_9.1 (64 : Int32) hq_11) (cwI 1 hts gX3_init_X2_init rfl rfl rfl (hts (.initialized RX2) (by decide +kernel)) (hts (.methodLink RX3 11 yX2_init) (by decide +kernel)) (hts (.instanceMethod yX2_init) (by decide +kernel)) rfl (by decide +kernel) ⟨Nat.le_trans (by decide) hM.1, Nat.le_trans (by decide) hM.2.1⟩) rfl rfl (Nat.le_of_ble_eq_true rfl) hg_11 he_11 dX3_init_50 (fun H locs hC hS => ?_)
  obtain ⟨hg_12, h⟩ := of_guard h
  refine rc_putR X hK hC hS 4 3 3 tyX3 hg_12 (by decide) (C := RX3) (T := TX3) (N := 10) rfl (by decide) in_X3_init_4 tyX3_ok nmX3 (by decide +kernel) rfl rfl rfl (tyX3_ok 3 (by decide)) rfl rfl dX3_init_53 (fun ω_12 H locs e_12 hC hS => ?_)
  have h := of_nm e_12 h
  refine lv_aload_n hx hb dX3_init_56 rfl (lv_at hl 0 rfl) ?_
  refine lv_bipush (v := (64 : Int32)) hx hb dX3_init_57 (by decide) ?_
  obtain ⟨hl_13, h⟩ := of_guard h
  obtain ⟨hg_13, h⟩ := of_guard h
  refine rc_newa X hK hC hS hM2 8 1 (Or.inr (Or.inl ⟨rfl, rfl, rfl⟩)) (by decide +kernel) hl_13 hg_13 dX3_init_59 (fun ω_13 H e_13 hC hS => ?_)
  have h := of_nm e_13 h
  obtain ⟨hg_14, h⟩ := of_guard h
  refine rc_putR X hK hC hS 4 4 8 tyX3 hg_14 (by decide) (C := RX3) (T := TX3) (N := 10) rfl (by decide) in_X3_init_4 tyX3_ok nmX3 (by decide +kernel) rfl rfl rfl (tyX3_ok 4 (by decide)) rfl rfl dX3_init_61 (fun ω_14 H locs e_14 hC hS => ?_)
  have h := of_nm e_14 h
  refine lv_aload_n hx hb dX3_init_64 rfl (lv_at hl 0 rfl) ?_
  refine lv_lconst (v := (0 : Int64)) hx hb dX3_init_65 (by decide) ?_
  obtain ⟨hg_15, h⟩ := of_guard h
  refine rc_putJ X hK hC hS hg_15 in_X3_init_4 (by decide +kernel) dX3_init_66 (fun ω_15 H locs e_15 hC hS => ?_)
  have h := of_nm e_15 h
  refine lv_aload_n hx hb dX3_init_69 rfl (lv_at hl 0 rfl) ?_
  refine lv_iconst (v := (0 : Int32)) hx hb dX3_init_70 (by decide) ?_
  obtain ⟨hg_16, h⟩ := of_guard h
  refine rc_putI X hK hC hS 4 6 tyX3 hg_16 (by decide) (C := RX3) (T := TX3) (N := 10) rfl (by decide) in_X3_init_4 tyX3_ok nmX3 (by decide +kernel) rfl rfl (by decide +kernel) dX3_init_71 (fun ω_16 H locs e_16 hC hS => ?_)
  have h := of_nm e_16 h
  refine lv_aload_n hx hb dX3_init_74 rfl (lv_at hl 0 rfl) ?_
  refine lv_iconst (v := (0 : Int32)) hx hb dX3_init_75 (by decide) ?_
  obtain ⟨hg_17, h⟩ := of_guard h
  refine rc_putI X hK hC hS 4 7 tyX3 hg_17 (by decide) (C := RX3) (T := TX3) (N := 10) rfl (by decide) in_X3_init_4 tyX3_ok nmX3 (by decide +kernel) rfl rfl (by decide +kernel) dX3_init_76 (fun ω_17 H locs e_17 hC hS => ?_)
  have h := of_nm e_17 h
  refine lv_aload_n hx hb dX3_init_79 rfl (lv_at hl 0 rfl) ?_
  refine lv_iconst (v := (-1 : Int32)) hx hb dX3_init_80 (by decide) ?_
  obtain ⟨hg_18, h⟩ := of_guard h
  refine rc_putI X hK hC hS 4 8 tyX3 hg_18 (by decide) (C := RX3) (T := TX3) (N := 10) rfl (by decide) in_X3_init_4 tyX3_ok nmX3 (by decide +kernel) rfl rfl (by decide +kernel) dX3_init_81 (fun ω_18 H locs e_18 hC hS => ?_)
  have h := of_nm e_18 h
  refine lv_aload_n hx hb dX3_init_84 rfl (lv_at hl 0 rfl) ?_
  refine lv_iconst (v := (0 : Int32)) hx hb dX3_init_85 (by decide) ?_
  obtain ⟨hg_19, h⟩ := of_guard h
  refine rc_putI X hK hC hS 4 9 tyX3 hg_19 (by decide) (C := RX3) (T := TX3) (N := 10) rfl (by decide) in_X3_init_4 tyX3_ok nmX3 (by decide +kernel) rfl rfl (by decide +kernel) dX3_init_86 (fun ω_19 H locs e_19 hC hS => ?_)
  have h := of_nm e_19 h
  obtain ⟨hg_20, h⟩ := of_guard h
  exact rc_ret X hC hS hg_20 (Option.some.inj h) dX3_init_89

set_option maxHeartbeats 4000000 in
set_option maxRecDepth 100000 in
theorem c_X3_init (l : Launch) (cA : Nat → ClassId) (D : va_G) (b : Nat) (ω : Rel) (k0 : Nat) {res : Rel} (h : F_X3_init ω k0 = some res) : Met l yX3_init wsX3_init { frames := 2, cells := 9, slots := 332, locals := 41 } (va_Pc [.ref (b + k0)] (PC cA D b ω)) (QC cA D b res) 9 (332) (frm b) := by
  refine Met.ofW (cc := cX3_init) (maxL := 1) (ret := none) (by decide) rfl ?_
  intro p e s m args below meth c s₁ B hml hv
  obtain ⟨rfl, hC, hK⟩ := hv
  have X : CxI cX3_init 1 RX3 wsX3_init p s m _ meth c := ⟨B.exec, B.bytes, B.returns, hml, findClass_of_methodNamed B.named, atoms_spec (ws := wsX3_init) B.pre, B.notSynchronized, (name_of_methodNamed B.named B.method).1⟩
  have hS : va_S (frm b) s.heap s.heap [] := va_S.rf
  have hl := lv_entry ([.ref (b + k0)]) (n := 1) (Nat.le_of_ble_eq_true rfl)
  rw [lg_entry_eq]
  generalize (lg_sl ([.ref (b + k0)]) ++ List.replicate (1 - (lg_sl ([.ref (b + k0)])).length) Slot.unset).toArray = ls at hl ⊢
  have hl : lv_has ls 1 [(0, .ref (b + k0))] := hl
  exact w_X3_init X hK k0 ⟨Nat.le_refl _, Nat.le_refl _, Nat.le_refl _, Nat.le_refl _⟩ h s.heap [] ls hC hS hl
theorem in_X4_init_2 : ∀ w ∈ u_ws RX1 TX1 3, w ∈ wsX4_init := by decide +kernel
theorem in_X4_init_3 : ∀ w ∈ u_ws RX2 TX2 3, w ∈ wsX4_init := by decide +kernel
theorem in_X4_init_4 : ∀ w ∈ u_ws RX3 TX3 10, w ∈ wsX4_init := by decide +kernel
theorem in_X4_init_5 : ∀ w ∈ u_ws RX4 TX4 8, w ∈ wsX4_init := by decide +kernel
set_option maxHeartbeats 4000000 in
set_option maxRecDepth 100000 in
theorem w_bd_X4_init_15 (X : CxI cX4_init 2 RX4 wsX4_init p s m args meth c) (hK : KnC cA D s) (hM : 4 ≤ R.frames ∧ 82 ≤ R.locals ∧ 64 ≤ R.cells ∧ 1861 ≤ R.slots) (n0 t0 k0 : Nat) (s9 : Int32 × Rel) {r : (Int32 × Rel) ⊕ Rel} (h : bd_X4_init_15 n0 t0 k0 s9 = some r) (kb : ∀ z : Int32 × Rel, r = .inl z → ∀ (H : Heap) (locs : List Loc) (ls : Array Slot), RepC cA D b z.2 H → va_S (frm b) s.heap H locs → lv_has ls 2 [(0, .ref (b + k0)), (1, .int z.1)] → W p l e R s m args below meth c H locs (z.2.1 - n0) (z.2.2.1 - t0) Q (F0 m 15 ls [])) (kx : ∀ z : Rel, r = .inr z → ∀ (H : Heap) (locs : List Loc) (ls : Array Slot), RepC cA D b z H → va_S (frm b) s.heap H locs → lv_has ls 2 [(0, .ref (b + k0))] → W p l e R s m args below meth c H locs (z.1 - n0) (z.2.1 - t0) Q (F0 m 42 ls [])) (H : Heap) (locs : List Loc) (ls : Array Slot) (hC : RepC cA D b s9.2 H) (hS : va_S (frm b) s.heap H locs) (hl : lv_has ls 2 [(0, .ref (b + k0)), (1, .int s9.1)]) : W p l e R s m args below meth c H locs (s9.2.1 - n0) (s9.2.2.1 - t0) Q (F0 m 15 ls []) := by
  have hx := X.1
  have hb := X.2.1
  have hown := X.2.2.2.2.1
  have hts := X.2.2.2.2.2.1
  have hM2 := hM.2.2
  unfold bd_X4_init_15 at h
  refine lv_iload_n hx hb dX4_init_15 rfl (lv_at hl 1 rfl) ?_
  refine lv_bipush (v := (8 : Int32)) hx hb dX4_init_16 (by decide) ?_
  refine lv_icmp_ge (tgt := 42) hx hb dX4_init_18 (by decide) (fun hc => ?_) (fun hc => ?_)
  · have h := of_pos hc h
    exact kx s9.2 (Option.some.inj h).symm H locs ls hC hS (lv_sub hl [0] rfl)
  · have h := of_neg hc h
    refine lv_aload_n hx hb dX4_init_21 rfl (lv_at hl 0 rfl) ?_
    obtain ⟨hg_3, h⟩ := of_guard h
    obtain ⟨r_3, hr_3, h⟩ := of_bind h
    refine rc_getR X hK hC 5 0 11 (v := r_3) hg_3 hr_3 (by decide) (C := RX4) (T := TX4) (N := 8) rfl (by decide) in_X4_init_5 (by decide +kernel) rfl dX4_init_22 ?_
    refine lv_iload_n hx hb dX4_init_25 rfl (lv_at hl 1 rfl) ?_
    obtain ⟨hg_4, h⟩ := of_guard h
    refine rc_newo X hK hC hS hM2 3 tyX2 (C := RX2) (T := TX2) (N := 3) rfl (by decide) in_X4_init_3 tyX2_ok (by decide +kernel) (by decide +kernel) (by decide +kernel) fs_3 hg_4 dX4_init_26 (fun ω_4 H e_4 hC hS => ?_)
    have h := of_nm e_4 h
    refine lv_dup hx hb dX4_init_29 rfl ?_
    refine lv_bipush (v := (64 : Int32)) hx hb dX4_init_30 (by decide) ?_
    obtain ⟨hg_5, h⟩ := of_guard h
    obtain ⟨q_5, hq_5, h⟩ := of_bind h
    obtain ⟨he_5, h⟩ := of_guard h
    refine rc_call (As := [.int (64 : Int32)]) (rest := [.ref (b + s9.2.1), .int s9.1, .ref (b + r_3)]) X hK hC hS hM2 hl.1 (c_X2_init l cA D b ω_4 s9.2.1 (64 : Int32) hq_5) (cwI 1 hts gX4_init_X2_init rfl rfl rfl (hts (.initialized RX2) (by decide +kernel)) (hts (.methodLink RX4 15 yX2_init) (by decide +kernel)) (hts (.instanceMethod yX2_init) (by decide +kernel)) rfl (by decide +kernel) ⟨Nat.le_trans (by decide) hM.1, Nat.le_trans (by decide) hM.2.1⟩) rfl rfl (Nat.le_of_ble_eq_true rfl) hg_5 he_5 dX4_init_32 (fun H locs hC hS => ?_)
    obtain ⟨hg_6, h⟩ := of_guard h
    obtain ⟨hv_6, h⟩ := of_guard h
    obtain ⟨hi_6, h⟩ := of_guard h
    refine rc_aast X hK hC hS 11 3 4 (Or.inr ⟨rfl, rfl, rfl⟩) hg_6 hv_6 hi_6 dX4_init_35 (fun ω_6 H locs e_6 hC hS => ?_)
    have h := of_nm e_6 h
    obtain ⟨v_7, e_v_7⟩ : ∃ y : Int32, y = (s9.1 + (1 : Int32)) := ⟨_, rfl⟩
    have h := of_nm e_v_7 h
    refine lv_iinc (v := v_7) (lv' := [(1, .int v_7), (0, .ref (b + k0))]) hx hb dX4_init_36 hl (k := 1) rfl (by rw [e_v_7]; rfl) (by decide) rfl (fun ls hl => ?_)
    refine lv_goto (tgt := 15) hx hb dX4_init_39 (by decide) ?_
    exact kb (v_7, ω_6) (Option.some.inj h).symm H locs ls hC hS (lv_sub hl [1, 0] rfl)

set_option maxHeartbeats 4000000 in
set_option maxRecDepth 100000 in
theorem w_lp_X4_init_15 (X : CxI cX4_init 2 RX4 wsX4_init p s m args meth c) (hK : KnC cA D s) (hM : 4 ≤ R.frames ∧ 82 ≤ R.locals ∧ 64 ≤ R.cells ∧ 1861 ≤ R.slots) (n0 t0 k0 : Nat) {e9 : Rel} : ∀ (n9 : Nat) (s9 : Int32 × Rel), iter (bd_X4_init_15 n0 t0 k0) n9 s9 = some e9 → ∀ (kx : ∀ (H : Heap) (locs : List Loc) (ls : Array Slot), RepC cA D b e9 H → va_S (frm b) s.heap H locs → lv_has ls 2 [(0, .ref (b + k0))] → W p l e R s m args below meth c H locs (e9.1 - n0) (e9.2.1 - t0) Q (F0 m 42 ls [])), ∀ (H : Heap) (locs : List Loc) (ls : Array Slot), RepC cA D b s9.2 H → va_S (frm b) s.heap H locs → lv_has ls 2 [(0, .ref (b + k0)), (1, .int s9.1)] → W p l e R s m args below meth c H locs (s9.2.1 - n0) (s9.2.2.1 - t0) Q (F0 m 15 ls []) := by
  intro n9
  induction n9 with
  | zero => intro s9 h; cases h
  | succ n9 ih =>
    intro s9 h kx H locs ls hC hS hl
    obtain ⟨r, hr, h⟩ := of_iter h
    refine w_bd_X4_init_15 X hK hM n0 t0 k0 s9 hr (fun z ez H locs ls hC hS hl => ?_) (fun z ez H locs ls hC hS hl => ?_) H locs ls hC hS hl
    · exact ih z (of_itl ez h) kx H locs ls hC hS hl
    · have he := of_itr ez h; subst he; exact kx H locs ls hC hS hl

set_option maxHeartbeats 4000000 in
set_option maxRecDepth 100000 in
theorem w_X4_init (X : CxI cX4_init 2 RX4 wsX4_init p s m args meth c) (hK : KnC cA D s) (k0 : Nat) (hM : 4 ≤ R.frames ∧ 82 ≤ R.locals ∧ 64 ≤ R.cells ∧ 1861 ≤ R.slots)  {res : Rel} (h : F_X4_init ω k0 = some res) (H : Heap) (locs : List Loc) (ls : Array Slot) (hC : RepC cA D b ω H) (hS : va_S (frm b) s.heap H locs) (hl : lv_has ls 2 [(0, .ref (b + k0))]) : W p l e R s m args below meth c H locs 0 0 (MQ below (QC cA D b res) args s 64 (1861) (frm b)) (F0 m 0 ls []) := by
  have hx := X.1
  have hb := X.2.1
  have hown := X.2.2.2.2.1
  have hts := X.2.2.2.2.2.1
  have hM2 := hM.2.2
  unfold F_X4_init at h
  obtain ⟨n0, e_n0⟩ : ∃ y : Nat, y = ω.1 := ⟨_, rfl⟩
  have h := of_nm e_n0 h
  obtain ⟨t0, e_t0⟩ : ∃ y : Nat, y = ω.2.1 := ⟨_, rfl⟩
  have h := of_nm e_t0 h
  refine W.widen (k := ω.1 - n0) (n := ω.2.1 - t0) (Nat.zero_le _) (Nat.zero_le _) ?_
  refine lv_aload_n hx hb dX4_init_0 rfl (lv_at hl 0 rfl) ?_
  refine W.objInit hx hb hown (hts (.methodLink RX4 1 objectInit) (by decide +kernel)) (hts (.instanceMethod objectInit) (by decide +kernel)) (hts (.code objectInit ⟨#[0xb1]⟩ 1 none) (by decide +kernel)) rfl (by rw [X.2.2.2.1]; exact hl.1) rfl dX4_init_1 (Nat.le_trans (by decide) hM.1) (Nat.le_trans (Nat.le_of_ble_eq_true rfl) hM.2.1) ?_
  refine W.eq (g2 := F0 m 4 ls []) rfl ?_
  refine lv_aload_n hx hb dX4_init_4 rfl (lv_at hl 0 rfl) ?_
  refine lv_bipush (v := (8 : Int32)) hx hb dX4_init_5 (by decide) ?_
  obtain ⟨hl_1, h⟩ := of_guard h
  obtain ⟨hg_1, h⟩ := of_guard h
  refine rc_newq X hK hC hS hM2 11 4 (C := "StraightPages$Sheet") (Or.inr ⟨rfl, rfl, rfl⟩) (by decide +kernel) hl_1 hg_1 dX4_init_7 (fun ω_1 H e_1 hC hS => ?_)
  have h := of_nm e_1 h
  obtain ⟨hg_2, h⟩ := of_guard h
  refine rc_putR X hK hC hS 5 0 11 tyX4 hg_2 (by decide) (C := RX4) (T := TX4) (N := 8) rfl (by decide) in_X4_init_5 tyX4_ok nmX4 (by decide +kernel) rfl rfl rfl (tyX4_ok 0 (by decide)) rfl rfl dX4_init_10 (fun ω_2 H locs e_2 hC hS => ?_)
  have h := of_nm e_2 h
  refine lv_iconst (v := (0 : Int32)) hx hb dX4_init_13 (by decide) ?_
  refine lv_istore_n (lv' := [(1, .int (0 : Int32)), (0, .ref (b + k0))]) hx hb dX4_init_14 rfl hl (by decide) rfl (fun ls hl => ?_)
  obtain ⟨e_8, hq_8, h⟩ := of_bind h
  refine w_lp_X4_init_15 X hK hM n0 t0 k0 _ ((0 : Int32), ω_2) hq_8 (fun H locs ls hC hS hl => ?_) H locs ls hC hS (lv_sub hl [1, 0] rfl)
  refine lv_aload_n hx hb dX4_init_42 rfl (lv_at hl 0 rfl) ?_
  refine lv_iconst (v := (0 : Int32)) hx hb dX4_init_43 (by decide) ?_
  obtain ⟨hg_9, h⟩ := of_guard h
  refine rc_putI X hK hC hS 5 1 tyX4 hg_9 (by decide) (C := RX4) (T := TX4) (N := 8) rfl (by decide) in_X4_init_5 tyX4_ok nmX4 (by decide +kernel) rfl rfl (by decide +kernel) dX4_init_44 (fun ω_9 H locs e_9 hC hS => ?_)
  have h := of_nm e_9 h
  refine lv_aload_n hx hb dX4_init_47 rfl (lv_at hl 0 rfl) ?_
  obtain ⟨hg_10, h⟩ := of_guard h
  refine rc_newo X hK hC hS hM2 2 tyX1 (C := RX1) (T := TX1) (N := 3) rfl (by decide) in_X4_init_2 tyX1_ok (by decide +kernel) (by decide +kernel) (by decide +kernel) fs_2 hg_10 dX4_init_48 (fun ω_10 H e_10 hC hS => ?_)
  have h := of_nm e_10 h
  refine lv_dup hx hb dX4_init_51 rfl ?_
  obtain ⟨hg_11, h⟩ := of_guard h
  obtain ⟨q_11, hq_11, h⟩ := of_bind h
  obtain ⟨he_11, h⟩ := of_guard h
  refine rc_call (As := []) (rest := [.ref (b + ω_9.1), .ref (b + k0)]) X hK hC hS hM2 hl.1 (c_X1_init l cA D b ω_10 ω_9.1 hq_11) (cwI 0 hts gX4_init_X1_init rfl rfl rfl (hts (.initialized RX1) (by decide +kernel)) (hts (.methodLink RX4 24 yX1_init) (by decide +kernel)) (hts (.instanceMethod yX1_init) (by decide +kernel)) rfl (by decide +kernel) ⟨Nat.le_trans (by decide) hM.1, Nat.le_trans (by decide) hM.2.1⟩) rfl rfl (Nat.le_of_ble_eq_true rfl) hg_11 he_11 dX4_init_52 (fun H locs hC hS => ?_)
  obtain ⟨hg_12, h⟩ := of_guard h
  refine rc_putR X hK hC hS 5 2 2 tyX4 hg_12 (by decide) (C := RX4) (T := TX4) (N := 8) rfl (by decide) in_X4_init_5 tyX4_ok nmX4 (by decide +kernel) rfl rfl rfl (tyX4_ok 2 (by decide)) rfl rfl dX4_init_55 (fun ω_12 H locs e_12 hC hS => ?_)
  have h := of_nm e_12 h
  refine lv_aload_n hx hb dX4_init_58 rfl (lv_at hl 0 rfl) ?_
  obtain ⟨hg_13, h⟩ := of_guard h
  refine rc_newo X hK hC hS hM2 4 tyX3 (C := RX3) (T := TX3) (N := 10) rfl (by decide) in_X4_init_4 tyX3_ok (by decide +kernel) (by decide +kernel) (by decide +kernel) fs_4 hg_13 dX4_init_59 (fun ω_13 H e_13 hC hS => ?_)
  have h := of_nm e_13 h
  refine lv_dup hx hb dX4_init_62 rfl ?_
  obtain ⟨hg_14, h⟩ := of_guard h
  obtain ⟨q_14, hq_14, h⟩ := of_bind h
  obtain ⟨he_14, h⟩ := of_guard h
  refine rc_call (As := []) (rest := [.ref (b + ω_12.1), .ref (b + k0)]) X hK hC hS hM2 hl.1 (c_X3_init l cA D b ω_13 ω_12.1 hq_14) (cwI 0 hts gX4_init_X3_init rfl rfl rfl (hts (.initialized RX3) (by decide +kernel)) (hts (.methodLink RX4 31 yX3_init) (by decide +kernel)) (hts (.instanceMethod yX3_init) (by decide +kernel)) rfl (by decide +kernel) ⟨Nat.le_trans (by decide) hM.1, Nat.le_trans (by decide) hM.2.1⟩) rfl rfl (Nat.le_of_ble_eq_true rfl) hg_14 he_14 dX4_init_63 (fun H locs hC hS => ?_)
  obtain ⟨hg_15, h⟩ := of_guard h
  refine rc_putR X hK hC hS 5 3 4 tyX4 hg_15 (by decide) (C := RX4) (T := TX4) (N := 8) rfl (by decide) in_X4_init_5 tyX4_ok nmX4 (by decide +kernel) rfl rfl rfl (tyX4_ok 3 (by decide)) rfl rfl dX4_init_66 (fun ω_15 H locs e_15 hC hS => ?_)
  have h := of_nm e_15 h
  refine lv_aload_n hx hb dX4_init_69 rfl (lv_at hl 0 rfl) ?_
  obtain ⟨hg_16, h⟩ := of_guard h
  refine rc_newo X hK hC hS hM2 3 tyX2 (C := RX2) (T := TX2) (N := 3) rfl (by decide) in_X4_init_3 tyX2_ok (by decide +kernel) (by decide +kernel) (by decide +kernel) fs_3 hg_16 dX4_init_70 (fun ω_16 H e_16 hC hS => ?_)
  have h := of_nm e_16 h
  refine lv_dup hx hb dX4_init_73 rfl ?_
  refine lv_bipush (v := (64 : Int32)) hx hb dX4_init_74 (by decide) ?_
  obtain ⟨hg_17, h⟩ := of_guard h
  obtain ⟨q_17, hq_17, h⟩ := of_bind h
  obtain ⟨he_17, h⟩ := of_guard h
  refine rc_call (As := [.int (64 : Int32)]) (rest := [.ref (b + ω_15.1), .ref (b + k0)]) X hK hC hS hM2 hl.1 (c_X2_init l cA D b ω_16 ω_15.1 (64 : Int32) hq_17) (cwI 1 hts gX4_init_X2_init rfl rfl rfl (hts (.initialized RX2) (by decide +kernel)) (hts (.methodLink RX4 15 yX2_init) (by decide +kernel)) (hts (.instanceMethod yX2_init) (by decide +kernel)) rfl (by decide +kernel) ⟨Nat.le_trans (by decide) hM.1, Nat.le_trans (by decide) hM.2.1⟩) rfl rfl (Nat.le_of_ble_eq_true rfl) hg_17 he_17 dX4_init_76 (fun H locs hC hS => ?_)
  obtain ⟨hg_18, h⟩ := of_guard h
  refine rc_putR X hK hC hS 5 4 3 tyX4 hg_18 (by decide) (C := RX4) (T := TX4) (N := 8) rfl (by decide) in_X4_init_5 tyX4_ok nmX4 (by decide +kernel) rfl rfl rfl (tyX4_ok 4 (by decide)) rfl rfl dX4_init_79 (fun ω_18 H locs e_18 hC hS => ?_)
  have h := of_nm e_18 h
  refine lv_aload_n hx hb dX4_init_82 rfl (lv_at hl 0 rfl) ?_
  obtain ⟨hg_19, h⟩ := of_guard h
  refine rc_newo X hK hC hS hM2 3 tyX2 (C := RX2) (T := TX2) (N := 3) rfl (by decide) in_X4_init_3 tyX2_ok (by decide +kernel) (by decide +kernel) (by decide +kernel) fs_3 hg_19 dX4_init_83 (fun ω_19 H e_19 hC hS => ?_)
  have h := of_nm e_19 h
  refine lv_dup hx hb dX4_init_86 rfl ?_
  refine lv_sipush (v := (128 : Int32)) hx hb dX4_init_87 (by decide) ?_
  obtain ⟨hg_20, h⟩ := of_guard h
  obtain ⟨q_20, hq_20, h⟩ := of_bind h
  obtain ⟨he_20, h⟩ := of_guard h
  refine rc_call (As := [.int (128 : Int32)]) (rest := [.ref (b + ω_18.1), .ref (b + k0)]) X hK hC hS hM2 hl.1 (c_X2_init l cA D b ω_19 ω_18.1 (128 : Int32) hq_20) (cwI 1 hts gX4_init_X2_init rfl rfl rfl (hts (.initialized RX2) (by decide +kernel)) (hts (.methodLink RX4 15 yX2_init) (by decide +kernel)) (hts (.instanceMethod yX2_init) (by decide +kernel)) rfl (by decide +kernel) ⟨Nat.le_trans (by decide) hM.1, Nat.le_trans (by decide) hM.2.1⟩) rfl rfl (Nat.le_of_ble_eq_true rfl) hg_20 he_20 dX4_init_90 (fun H locs hC hS => ?_)
  obtain ⟨hg_21, h⟩ := of_guard h
  refine rc_putR X hK hC hS 5 5 3 tyX4 hg_21 (by decide) (C := RX4) (T := TX4) (N := 8) rfl (by decide) in_X4_init_5 tyX4_ok nmX4 (by decide +kernel) rfl rfl rfl (tyX4_ok 5 (by decide)) rfl rfl dX4_init_93 (fun ω_21 H locs e_21 hC hS => ?_)
  have h := of_nm e_21 h
  refine lv_aload_n hx hb dX4_init_96 rfl (lv_at hl 0 rfl) ?_
  refine lv_bipush (v := (64 : Int32)) hx hb dX4_init_97 (by decide) ?_
  obtain ⟨hl_22, h⟩ := of_guard h
  obtain ⟨hg_22, h⟩ := of_guard h
  refine rc_newa X hK hC hS hM2 7 0 (Or.inl ⟨rfl, rfl, rfl⟩) (by decide +kernel) hl_22 hg_22 dX4_init_99 (fun ω_22 H e_22 hC hS => ?_)
  have h := of_nm e_22 h
  obtain ⟨hg_23, h⟩ := of_guard h
  refine rc_putR X hK hC hS 5 6 7 tyX4 hg_23 (by decide) (C := RX4) (T := TX4) (N := 8) rfl (by decide) in_X4_init_5 tyX4_ok nmX4 (by decide +kernel) rfl rfl rfl (tyX4_ok 6 (by decide)) rfl rfl dX4_init_101 (fun ω_23 H locs e_23 hC hS => ?_)
  have h := of_nm e_23 h
  refine lv_aload_n hx hb dX4_init_104 rfl (lv_at hl 0 rfl) ?_
  refine lv_iconst (v := (0 : Int32)) hx hb dX4_init_105 (by decide) ?_
  obtain ⟨hg_24, h⟩ := of_guard h
  refine rc_putI X hK hC hS 5 7 tyX4 hg_24 (by decide) (C := RX4) (T := TX4) (N := 8) rfl (by decide) in_X4_init_5 tyX4_ok nmX4 (by decide +kernel) rfl rfl (by decide +kernel) dX4_init_106 (fun ω_24 H locs e_24 hC hS => ?_)
  have h := of_nm e_24 h
  obtain ⟨hg_25, h⟩ := of_guard h
  exact rc_ret X hC hS hg_25 (Option.some.inj h) dX4_init_109

set_option maxHeartbeats 4000000 in
set_option maxRecDepth 100000 in
theorem c_X4_init (l : Launch) (cA : Nat → ClassId) (D : va_G) (b : Nat) (ω : Rel) (k0 : Nat) {res : Rel} (h : F_X4_init ω k0 = some res) : Met l yX4_init wsX4_init { frames := 4, cells := 64, slots := 1861, locals := 82 } (va_Pc [.ref (b + k0)] (PC cA D b ω)) (QC cA D b res) 64 (1861) (frm b) := by
  refine Met.ofW (cc := cX4_init) (maxL := 2) (ret := none) (by decide) rfl ?_
  intro p e s m args below meth c s₁ B hml hv
  obtain ⟨rfl, hC, hK⟩ := hv
  have X : CxI cX4_init 2 RX4 wsX4_init p s m _ meth c := ⟨B.exec, B.bytes, B.returns, hml, findClass_of_methodNamed B.named, atoms_spec (ws := wsX4_init) B.pre, B.notSynchronized, (name_of_methodNamed B.named B.method).1⟩
  have hS : va_S (frm b) s.heap s.heap [] := va_S.rf
  have hl := lv_entry ([.ref (b + k0)]) (n := 2) (Nat.le_of_ble_eq_true rfl)
  rw [lg_entry_eq]
  generalize (lg_sl ([.ref (b + k0)]) ++ List.replicate (2 - (lg_sl ([.ref (b + k0)])).length) Slot.unset).toArray = ls at hl ⊢
  have hl : lv_has ls 2 [(0, .ref (b + k0))] := hl
  exact w_X4_init X hK k0 ⟨Nat.le_refl _, Nat.le_refl _, Nat.le_refl _, Nat.le_refl _⟩ h s.heap [] ls hC hS hl
theorem in_X5_init_6 : ∀ w ∈ u_ws RX5 TX5 24, w ∈ wsX5_init := by decide +kernel
set_option maxHeartbeats 4000000 in
set_option maxRecDepth 100000 in
theorem w_X5_init (X : CxI cX5_init 1 RX5 wsX5_init p s m args meth c) (hK : KnC cA D s) (k0 : Nat) (hM : 1 ≤ R.frames ∧ 20 ≤ R.locals ∧ 17 ≤ R.cells ∧ 102778 ≤ R.slots)  {res : Rel} (h : F_X5_init ω k0 = some res) (H : Heap) (locs : List Loc) (ls : Array Slot) (hC : RepC cA D b ω H) (hS : va_S (frm b) s.heap H locs) (hl : lv_has ls 1 [(0, .ref (b + k0))]) : W p l e R s m args below meth c H locs 0 0 (MQ below (QC cA D b res) args s 17 (102778) (frm b)) (F0 m 0 ls []) := by
  have hx := X.1
  have hb := X.2.1
  have hown := X.2.2.2.2.1
  have hts := X.2.2.2.2.2.1
  have hM2 := hM.2.2
  unfold F_X5_init at h
  obtain ⟨n0, e_n0⟩ : ∃ y : Nat, y = ω.1 := ⟨_, rfl⟩
  have h := of_nm e_n0 h
  obtain ⟨t0, e_t0⟩ : ∃ y : Nat, y = ω.2.1 := ⟨_, rfl⟩
  have h := of_nm e_t0 h
  refine W.widen (k := ω.1 - n0) (n := ω.2.1 - t0) (Nat.zero_le _) (Nat.zero_le _) ?_
  refine lv_aload_n hx hb dX5_init_0 rfl (lv_at hl 0 rfl) ?_
  refine W.objInit hx hb hown (hts (.methodLink RX5 3 objectInit) (by decide +kernel)) (hts (.instanceMethod objectInit) (by decide +kernel)) (hts (.code objectInit ⟨#[0xb1]⟩ 1 none) (by decide +kernel)) rfl (by rw [X.2.2.2.1]; exact hl.1) rfl dX5_init_1 (Nat.le_trans (by decide) hM.1) (Nat.le_trans (Nat.le_of_ble_eq_true rfl) hM.2.1) ?_
  refine W.eq (g2 := F0 m 4 ls []) rfl ?_
  refine lv_aload_n hx hb dX5_init_4 rfl (lv_at hl 0 rfl) ?_
  refine lv_bipush (v := (8 : Int32)) hx hb dX5_init_5 (by decide) ?_
  obtain ⟨hl_1, h⟩ := of_guard h
  obtain ⟨hg_1, h⟩ := of_guard h
  refine rc_newa X hK hC hS hM2 7 0 (Or.inl ⟨rfl, rfl, rfl⟩) (by decide +kernel) hl_1 hg_1 dX5_init_7 (fun ω_1 H e_1 hC hS => ?_)
  have h := of_nm e_1 h
  obtain ⟨hg_2, h⟩ := of_guard h
  refine rc_putR X hK hC hS 6 2 7 tyX5 hg_2 (by decide) (C := RX5) (T := TX5) (N := 24) rfl (by decide) in_X5_init_6 tyX5_ok nmX5 (by decide +kernel) rfl rfl rfl (tyX5_ok 2 (by decide)) rfl rfl dX5_init_9 (fun ω_2 H locs e_2 hC hS => ?_)
  have h := of_nm e_2 h
  refine lv_aload_n hx hb dX5_init_12 rfl (lv_at hl 0 rfl) ?_
  refine lv_bipush (v := (8 : Int32)) hx hb dX5_init_13 (by decide) ?_
  obtain ⟨hl_3, h⟩ := of_guard h
  obtain ⟨hg_3, h⟩ := of_guard h
  refine rc_newa X hK hC hS hM2 7 0 (Or.inl ⟨rfl, rfl, rfl⟩) (by decide +kernel) hl_3 hg_3 dX5_init_15 (fun ω_3 H e_3 hC hS => ?_)
  have h := of_nm e_3 h
  obtain ⟨hg_4, h⟩ := of_guard h
  refine rc_putR X hK hC hS 6 3 7 tyX5 hg_4 (by decide) (C := RX5) (T := TX5) (N := 24) rfl (by decide) in_X5_init_6 tyX5_ok nmX5 (by decide +kernel) rfl rfl rfl (tyX5_ok 3 (by decide)) rfl rfl dX5_init_17 (fun ω_4 H locs e_4 hC hS => ?_)
  have h := of_nm e_4 h
  refine lv_aload_n hx hb dX5_init_20 rfl (lv_at hl 0 rfl) ?_
  refine lv_ldc (v := (32768 : Int32)) hx hb hown (hts (.constant RX5 16 (32768)) (by decide +kernel)) dX5_init_21 ?_
  obtain ⟨hl_5, h⟩ := of_guard h
  obtain ⟨hg_5, h⟩ := of_guard h
  refine rc_newa X hK hC hS hM2 9 2 (Or.inr (Or.inr ⟨rfl, rfl, rfl⟩)) (by decide +kernel) hl_5 hg_5 dX5_init_23 (fun ω_5 H e_5 hC hS => ?_)
  have h := of_nm e_5 h
  obtain ⟨hg_6, h⟩ := of_guard h
  refine rc_putR X hK hC hS 6 4 9 tyX5 hg_6 (by decide) (C := RX5) (T := TX5) (N := 24) rfl (by decide) in_X5_init_6 tyX5_ok nmX5 (by decide +kernel) rfl rfl rfl (tyX5_ok 4 (by decide)) rfl rfl dX5_init_25 (fun ω_6 H locs e_6 hC hS => ?_)
  have h := of_nm e_6 h
  refine lv_aload_n hx hb dX5_init_28 rfl (lv_at hl 0 rfl) ?_
  refine lv_sipush (v := (4096 : Int32)) hx hb dX5_init_29 (by decide) ?_
  obtain ⟨hl_7, h⟩ := of_guard h
  obtain ⟨hg_7, h⟩ := of_guard h
  refine rc_newa X hK hC hS hM2 9 2 (Or.inr (Or.inr ⟨rfl, rfl, rfl⟩)) (by decide +kernel) hl_7 hg_7 dX5_init_32 (fun ω_7 H e_7 hC hS => ?_)
  have h := of_nm e_7 h
  obtain ⟨hg_8, h⟩ := of_guard h
  refine rc_putR X hK hC hS 6 5 9 tyX5 hg_8 (by decide) (C := RX5) (T := TX5) (N := 24) rfl (by decide) in_X5_init_6 tyX5_ok nmX5 (by decide +kernel) rfl rfl rfl (tyX5_ok 5 (by decide)) rfl rfl dX5_init_34 (fun ω_8 H locs e_8 hC hS => ?_)
  have h := of_nm e_8 h
  refine lv_aload_n hx hb dX5_init_37 rfl (lv_at hl 0 rfl) ?_
  refine lv_bipush (v := (10 : Int32)) hx hb dX5_init_38 (by decide) ?_
  obtain ⟨hl_9, h⟩ := of_guard h
  obtain ⟨hg_9, h⟩ := of_guard h
  refine rc_newa X hK hC hS hM2 7 0 (Or.inl ⟨rfl, rfl, rfl⟩) (by decide +kernel) hl_9 hg_9 dX5_init_40 (fun ω_9 H e_9 hC hS => ?_)
  have h := of_nm e_9 h
  obtain ⟨hg_10, h⟩ := of_guard h
  refine rc_putR X hK hC hS 6 8 7 tyX5 hg_10 (by decide) (C := RX5) (T := TX5) (N := 24) rfl (by decide) in_X5_init_6 tyX5_ok nmX5 (by decide +kernel) rfl rfl rfl (tyX5_ok 8 (by decide)) rfl rfl dX5_init_42 (fun ω_10 H locs e_10 hC hS => ?_)
  have h := of_nm e_10 h
  refine lv_aload_n hx hb dX5_init_45 rfl (lv_at hl 0 rfl) ?_
  refine lv_bipush (v := (10 : Int32)) hx hb dX5_init_46 (by decide) ?_
  obtain ⟨hl_11, h⟩ := of_guard h
  obtain ⟨hg_11, h⟩ := of_guard h
  refine rc_newa X hK hC hS hM2 7 0 (Or.inl ⟨rfl, rfl, rfl⟩) (by decide +kernel) hl_11 hg_11 dX5_init_48 (fun ω_11 H e_11 hC hS => ?_)
  have h := of_nm e_11 h
  obtain ⟨hg_12, h⟩ := of_guard h
  refine rc_putR X hK hC hS 6 9 7 tyX5 hg_12 (by decide) (C := RX5) (T := TX5) (N := 24) rfl (by decide) in_X5_init_6 tyX5_ok nmX5 (by decide +kernel) rfl rfl rfl (tyX5_ok 9 (by decide)) rfl rfl dX5_init_50 (fun ω_12 H locs e_12 hC hS => ?_)
  have h := of_nm e_12 h
  refine lv_aload_n hx hb dX5_init_53 rfl (lv_at hl 0 rfl) ?_
  refine lv_bipush (v := (10 : Int32)) hx hb dX5_init_54 (by decide) ?_
  obtain ⟨hl_13, h⟩ := of_guard h
  obtain ⟨hg_13, h⟩ := of_guard h
  refine rc_newa X hK hC hS hM2 7 0 (Or.inl ⟨rfl, rfl, rfl⟩) (by decide +kernel) hl_13 hg_13 dX5_init_56 (fun ω_13 H e_13 hC hS => ?_)
  have h := of_nm e_13 h
  obtain ⟨hg_14, h⟩ := of_guard h
  refine rc_putR X hK hC hS 6 10 7 tyX5 hg_14 (by decide) (C := RX5) (T := TX5) (N := 24) rfl (by decide) in_X5_init_6 tyX5_ok nmX5 (by decide +kernel) rfl rfl rfl (tyX5_ok 10 (by decide)) rfl rfl dX5_init_58 (fun ω_14 H locs e_14 hC hS => ?_)
  have h := of_nm e_14 h
  refine lv_aload_n hx hb dX5_init_61 rfl (lv_at hl 0 rfl) ?_
  refine lv_bipush (v := (10 : Int32)) hx hb dX5_init_62 (by decide) ?_
  obtain ⟨hl_15, h⟩ := of_guard h
  obtain ⟨hg_15, h⟩ := of_guard h
  refine rc_newa X hK hC hS hM2 7 0 (Or.inl ⟨rfl, rfl, rfl⟩) (by decide +kernel) hl_15 hg_15 dX5_init_64 (fun ω_15 H e_15 hC hS => ?_)
  have h := of_nm e_15 h
  obtain ⟨hg_16, h⟩ := of_guard h
  refine rc_putR X hK hC hS 6 11 7 tyX5 hg_16 (by decide) (C := RX5) (T := TX5) (N := 24) rfl (by decide) in_X5_init_6 tyX5_ok nmX5 (by decide +kernel) rfl rfl rfl (tyX5_ok 11 (by decide)) rfl rfl dX5_init_66 (fun ω_16 H locs e_16 hC hS => ?_)
  have h := of_nm e_16 h
  refine lv_aload_n hx hb dX5_init_69 rfl (lv_at hl 0 rfl) ?_
  refine lv_ldc (v := (40960 : Int32)) hx hb hown (hts (.constant RX5 36 (40960)) (by decide +kernel)) dX5_init_70 ?_
  obtain ⟨hl_17, h⟩ := of_guard h
  obtain ⟨hg_17, h⟩ := of_guard h
  refine rc_newa X hK hC hS hM2 9 2 (Or.inr (Or.inr ⟨rfl, rfl, rfl⟩)) (by decide +kernel) hl_17 hg_17 dX5_init_72 (fun ω_17 H e_17 hC hS => ?_)
  have h := of_nm e_17 h
  obtain ⟨hg_18, h⟩ := of_guard h
  refine rc_putR X hK hC hS 6 12 9 tyX5 hg_18 (by decide) (C := RX5) (T := TX5) (N := 24) rfl (by decide) in_X5_init_6 tyX5_ok nmX5 (by decide +kernel) rfl rfl rfl (tyX5_ok 12 (by decide)) rfl rfl dX5_init_74 (fun ω_18 H locs e_18 hC hS => ?_)
  have h := of_nm e_18 h
  refine lv_aload_n hx hb dX5_init_77 rfl (lv_at hl 0 rfl) ?_
  refine lv_sipush (v := (4096 : Int32)) hx hb dX5_init_78 (by decide) ?_
  obtain ⟨hl_19, h⟩ := of_guard h
  obtain ⟨hg_19, h⟩ := of_guard h
  refine rc_newa X hK hC hS hM2 7 0 (Or.inl ⟨rfl, rfl, rfl⟩) (by decide +kernel) hl_19 hg_19 dX5_init_81 (fun ω_19 H e_19 hC hS => ?_)
  have h := of_nm e_19 h
  obtain ⟨hg_20, h⟩ := of_guard h
  refine rc_putR X hK hC hS 6 13 7 tyX5 hg_20 (by decide) (C := RX5) (T := TX5) (N := 24) rfl (by decide) in_X5_init_6 tyX5_ok nmX5 (by decide +kernel) rfl rfl rfl (tyX5_ok 13 (by decide)) rfl rfl dX5_init_83 (fun ω_20 H locs e_20 hC hS => ?_)
  have h := of_nm e_20 h
  refine lv_aload_n hx hb dX5_init_86 rfl (lv_at hl 0 rfl) ?_
  refine lv_sipush (v := (4097 : Int32)) hx hb dX5_init_87 (by decide) ?_
  obtain ⟨hl_21, h⟩ := of_guard h
  obtain ⟨hg_21, h⟩ := of_guard h
  refine rc_newa X hK hC hS hM2 7 0 (Or.inl ⟨rfl, rfl, rfl⟩) (by decide +kernel) hl_21 hg_21 dX5_init_90 (fun ω_21 H e_21 hC hS => ?_)
  have h := of_nm e_21 h
  obtain ⟨hg_22, h⟩ := of_guard h
  refine rc_putR X hK hC hS 6 14 7 tyX5 hg_22 (by decide) (C := RX5) (T := TX5) (N := 24) rfl (by decide) in_X5_init_6 tyX5_ok nmX5 (by decide +kernel) rfl rfl rfl (tyX5_ok 14 (by decide)) rfl rfl dX5_init_92 (fun ω_22 H locs e_22 hC hS => ?_)
  have h := of_nm e_22 h
  refine lv_aload_n hx hb dX5_init_95 rfl (lv_at hl 0 rfl) ?_
  refine lv_sipush (v := (4096 : Int32)) hx hb dX5_init_96 (by decide) ?_
  obtain ⟨hl_23, h⟩ := of_guard h
  obtain ⟨hg_23, h⟩ := of_guard h
  refine rc_newa X hK hC hS hM2 7 0 (Or.inl ⟨rfl, rfl, rfl⟩) (by decide +kernel) hl_23 hg_23 dX5_init_99 (fun ω_23 H e_23 hC hS => ?_)
  have h := of_nm e_23 h
  obtain ⟨hg_24, h⟩ := of_guard h
  refine rc_putR X hK hC hS 6 15 7 tyX5 hg_24 (by decide) (C := RX5) (T := TX5) (N := 24) rfl (by decide) in_X5_init_6 tyX5_ok nmX5 (by decide +kernel) rfl rfl rfl (tyX5_ok 15 (by decide)) rfl rfl dX5_init_101 (fun ω_24 H locs e_24 hC hS => ?_)
  have h := of_nm e_24 h
  refine lv_aload_n hx hb dX5_init_104 rfl (lv_at hl 0 rfl) ?_
  refine lv_sipush (v := (192 : Int32)) hx hb dX5_init_105 (by decide) ?_
  obtain ⟨hl_25, h⟩ := of_guard h
  obtain ⟨hg_25, h⟩ := of_guard h
  refine rc_newa X hK hC hS hM2 7 0 (Or.inl ⟨rfl, rfl, rfl⟩) (by decide +kernel) hl_25 hg_25 dX5_init_108 (fun ω_25 H e_25 hC hS => ?_)
  have h := of_nm e_25 h
  obtain ⟨hg_26, h⟩ := of_guard h
  refine rc_putR X hK hC hS 6 17 7 tyX5 hg_26 (by decide) (C := RX5) (T := TX5) (N := 24) rfl (by decide) in_X5_init_6 tyX5_ok nmX5 (by decide +kernel) rfl rfl rfl (tyX5_ok 17 (by decide)) rfl rfl dX5_init_110 (fun ω_26 H locs e_26 hC hS => ?_)
  have h := of_nm e_26 h
  refine lv_aload_n hx hb dX5_init_113 rfl (lv_at hl 0 rfl) ?_
  refine lv_sipush (v := (4097 : Int32)) hx hb dX5_init_114 (by decide) ?_
  obtain ⟨hl_27, h⟩ := of_guard h
  obtain ⟨hg_27, h⟩ := of_guard h
  refine rc_newa X hK hC hS hM2 9 2 (Or.inr (Or.inr ⟨rfl, rfl, rfl⟩)) (by decide +kernel) hl_27 hg_27 dX5_init_117 (fun ω_27 H e_27 hC hS => ?_)
  have h := of_nm e_27 h
  obtain ⟨hg_28, h⟩ := of_guard h
  refine rc_putR X hK hC hS 6 18 9 tyX5 hg_28 (by decide) (C := RX5) (T := TX5) (N := 24) rfl (by decide) in_X5_init_6 tyX5_ok nmX5 (by decide +kernel) rfl rfl rfl (tyX5_ok 18 (by decide)) rfl rfl dX5_init_119 (fun ω_28 H locs e_28 hC hS => ?_)
  have h := of_nm e_28 h
  refine lv_aload_n hx hb dX5_init_122 rfl (lv_at hl 0 rfl) ?_
  refine lv_sipush (v := (4096 : Int32)) hx hb dX5_init_123 (by decide) ?_
  obtain ⟨hl_29, h⟩ := of_guard h
  obtain ⟨hg_29, h⟩ := of_guard h
  refine rc_newa X hK hC hS hM2 7 0 (Or.inl ⟨rfl, rfl, rfl⟩) (by decide +kernel) hl_29 hg_29 dX5_init_126 (fun ω_29 H e_29 hC hS => ?_)
  have h := of_nm e_29 h
  obtain ⟨hg_30, h⟩ := of_guard h
  refine rc_putR X hK hC hS 6 20 7 tyX5 hg_30 (by decide) (C := RX5) (T := TX5) (N := 24) rfl (by decide) in_X5_init_6 tyX5_ok nmX5 (by decide +kernel) rfl rfl rfl (tyX5_ok 20 (by decide)) rfl rfl dX5_init_128 (fun ω_30 H locs e_30 hC hS => ?_)
  have h := of_nm e_30 h
  refine lv_aload_n hx hb dX5_init_131 rfl (lv_at hl 0 rfl) ?_
  refine lv_sipush (v := (4096 : Int32)) hx hb dX5_init_132 (by decide) ?_
  obtain ⟨hl_31, h⟩ := of_guard h
  obtain ⟨hg_31, h⟩ := of_guard h
  refine rc_newa X hK hC hS hM2 7 0 (Or.inl ⟨rfl, rfl, rfl⟩) (by decide +kernel) hl_31 hg_31 dX5_init_135 (fun ω_31 H e_31 hC hS => ?_)
  have h := of_nm e_31 h
  obtain ⟨hg_32, h⟩ := of_guard h
  refine rc_putR X hK hC hS 6 21 7 tyX5 hg_32 (by decide) (C := RX5) (T := TX5) (N := 24) rfl (by decide) in_X5_init_6 tyX5_ok nmX5 (by decide +kernel) rfl rfl rfl (tyX5_ok 21 (by decide)) rfl rfl dX5_init_137 (fun ω_32 H locs e_32 hC hS => ?_)
  have h := of_nm e_32 h
  refine lv_aload_n hx hb dX5_init_140 rfl (lv_at hl 0 rfl) ?_
  refine lv_sipush (v := (128 : Int32)) hx hb dX5_init_141 (by decide) ?_
  obtain ⟨hl_33, h⟩ := of_guard h
  obtain ⟨hg_33, h⟩ := of_guard h
  refine rc_newa X hK hC hS hM2 7 0 (Or.inl ⟨rfl, rfl, rfl⟩) (by decide +kernel) hl_33 hg_33 dX5_init_144 (fun ω_33 H e_33 hC hS => ?_)
  have h := of_nm e_33 h
  obtain ⟨hg_34, h⟩ := of_guard h
  refine rc_putR X hK hC hS 6 23 7 tyX5 hg_34 (by decide) (C := RX5) (T := TX5) (N := 24) rfl (by decide) in_X5_init_6 tyX5_ok nmX5 (by decide +kernel) rfl rfl rfl (tyX5_ok 23 (by decide)) rfl rfl dX5_init_146 (fun ω_34 H locs e_34 hC hS => ?_)
  have h := of_nm e_34 h
  obtain ⟨hg_35, h⟩ := of_guard h
  exact rc_ret X hC hS hg_35 (Option.some.inj h) dX5_init_149

set_option maxHeartbeats 4000000 in
set_option maxRecDepth 100000 in
theorem c_X5_init (l : Launch) (cA : Nat → ClassId) (D : va_G) (b : Nat) (ω : Rel) (k0 : Nat) {res : Rel} (h : F_X5_init ω k0 = some res) : Met l yX5_init wsX5_init { frames := 1, cells := 17, slots := 102778, locals := 20 } (va_Pc [.ref (b + k0)] (PC cA D b ω)) (QC cA D b res) 17 (102778) (frm b) := by
  refine Met.ofW (cc := cX5_init) (maxL := 1) (ret := none) (by decide) rfl ?_
  intro p e s m args below meth c s₁ B hml hv
  obtain ⟨rfl, hC, hK⟩ := hv
  have X : CxI cX5_init 1 RX5 wsX5_init p s m _ meth c := ⟨B.exec, B.bytes, B.returns, hml, findClass_of_methodNamed B.named, atoms_spec (ws := wsX5_init) B.pre, B.notSynchronized, (name_of_methodNamed B.named B.method).1⟩
  have hS : va_S (frm b) s.heap s.heap [] := va_S.rf
  have hl := lv_entry ([.ref (b + k0)]) (n := 1) (Nat.le_of_ble_eq_true rfl)
  rw [lg_entry_eq]
  generalize (lg_sl ([.ref (b + k0)]) ++ List.replicate (1 - (lg_sl ([.ref (b + k0)])).length) Slot.unset).toArray = ls at hl ⊢
  have hl : lv_has ls 1 [(0, .ref (b + k0))] := hl
  exact w_X5_init X hK k0 ⟨Nat.le_refl _, Nat.le_refl _, Nat.le_refl _, Nat.le_refl _⟩ h s.heap [] ls hC hS hl
