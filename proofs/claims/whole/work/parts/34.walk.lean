variable {p : Program} {l : Launch} {e : Env} {R : Room} {s : State} {m : MethodId} {args : Array Value} {below : List Frame} {meth : Method} {c : Code} {Q : State → Prop} {cA : Nat → ClassId} {D : va_G} {Λ : Lay} {σ : Sto}
theorem in_X5_row_6 : ∀ w ∈ u_ws RX5 TX5 24, w ∈ wsX5_row := by decide +kernel
set_option maxHeartbeats 4000000 in
set_option maxRecDepth 100000 in
theorem w_jp_X5_row_57 (X : Cx cX5_row (some .long) 6 RX5 wsX5_row p s m args meth c) (hK : Kn cA D s) (hT : TL Λ) (hM : 3 ≤ R.frames ∧ 69 ≤ R.locals) (a0 : Nat) (l1 : Int32) (l2 : Int32) (l5 : Int32) (ls0 : Int64) (ls1 : Int64) (k0 : isK Λ a0 6) {r : (Int64 × Int32) ⊕ Int64} (h : jp_X5_row_57 Λ σ a0 l1 l2 l5 ls0 ls1 = some r) (kb : ∀ z : (Int64 × Int32), r = .inl z → ∀ (H : Heap) (locs : List Loc) (ls : Array Slot), Rep cA D Λ σ H → va_S (dm Λ) s.heap H locs → lv_has ls 6 [(0, .ref a0), (1, .int l1), (2, .int l2), (3, .long z.1), (5, .int z.2)] → W p l e R s m args below meth c H locs 0 0 Q (F0 m 26 ls [])) (kx0 : ∀ z : Int64, r = .inr z → ∀ (H : Heap) (locs : List Loc) (ls : Array Slot), Rep cA D Λ σ H → va_S (dm Λ) s.heap H locs → lv_has ls 6 [(3, .long z)] → W p l e R s m args below meth c H locs 0 0 Q (F0 m 65 ls [])) (H : Heap) (locs : List Loc) (ls : Array Slot) (hR : Rep cA D Λ σ H) (hS : va_S (dm Λ) s.heap H locs) (hl : lv_has ls 6 [(0, .ref a0), (1, .int l1), (2, .int l2), (5, .int l5)]) : W p l e R s m args below meth c H locs 0 0 Q (F0 m 57 ls [.long ls0, .long ls1]) := by
  have hx := X.1
  have hb := X.2.1
  have hown := X.2.2.2.2.1
  have hts := X.2.2.2.2.2.1
  unfold jp_X5_row_57 at h
  refine lv_lor hx hb dX5_row_57 ?_
  refine lv_topl (fun v_6 e_v_6 => ?_)
  have h := of_nm e_v_6 h
  refine lv_lstore_n (lv' := [(3, .long v_6), (0, .ref a0), (1, .int l1), (2, .int l2), (5, .int l5)]) hx hb dX5_row_58 rfl hl (by decide) rfl (fun ls hl => ?_)
  obtain ⟨v_7, e_v_7⟩ : ∃ y : Int32, y = (l5 + (1 : Int32)) := ⟨_, rfl⟩
  have h := of_nm e_v_7 h
  refine lv_iinc (v := v_7) (lv' := [(5, .int v_7), (3, .long v_6), (0, .ref a0), (1, .int l1), (2, .int l2)]) hx hb dX5_row_59 hl (k := 4) rfl (by rw [e_v_7]; rfl) (by decide) rfl (fun ls hl => ?_)
  refine lv_goto (tgt := 26) hx hb dX5_row_62 (by decide) ?_
  exact kb (v_6, v_7) (Option.some.inj h).symm H locs ls hR hS (lv_sub hl [2, 3, 4, 1, 0] rfl)

set_option maxHeartbeats 4000000 in
set_option maxRecDepth 100000 in
theorem w_bd_X5_row_26 (X : Cx cX5_row (some .long) 6 RX5 wsX5_row p s m args meth c) (hK : Kn cA D s) (hT : TL Λ) (hM : 3 ≤ R.frames ∧ 69 ≤ R.locals) (a0 : Nat) (l1 : Int32) (l2 : Int32) (s9 : (Int64 × Int32)) (k0 : isK Λ a0 6) {r : (Int64 × Int32) ⊕ Int64} (h : bd_X5_row_26 Λ σ a0 l1 l2 s9 = some r) (kb : ∀ z : (Int64 × Int32), r = .inl z → ∀ (H : Heap) (locs : List Loc) (ls : Array Slot), Rep cA D Λ σ H → va_S (dm Λ) s.heap H locs → lv_has ls 6 [(0, .ref a0), (1, .int l1), (2, .int l2), (3, .long z.1), (5, .int z.2)] → W p l e R s m args below meth c H locs 0 0 Q (F0 m 26 ls [])) (kx0 : ∀ z : Int64, r = .inr z → ∀ (H : Heap) (locs : List Loc) (ls : Array Slot), Rep cA D Λ σ H → va_S (dm Λ) s.heap H locs → lv_has ls 6 [(3, .long z)] → W p l e R s m args below meth c H locs 0 0 Q (F0 m 65 ls [])) (H : Heap) (locs : List Loc) (ls : Array Slot) (hR : Rep cA D Λ σ H) (hS : va_S (dm Λ) s.heap H locs) (hl : lv_has ls 6 [(0, .ref a0), (1, .int l1), (2, .int l2), (3, .long s9.1), (5, .int s9.2)]) : W p l e R s m args below meth c H locs 0 0 Q (F0 m 26 ls []) := by
  have hx := X.1
  have hb := X.2.1
  have hown := X.2.2.2.2.1
  have hts := X.2.2.2.2.2.1
  unfold bd_X5_row_26 at h
  refine lv_iload hx hb dX5_row_26 (lv_at hl 4 rfl) ?_
  refine lv_aload_n hx hb dX5_row_28 rfl (lv_at hl 0 rfl) ?_
  refine rw_getR X hK hT hR 6 2 7 k0 (by decide) (C := RX5) (T := TX5) (N := 24) rfl (by decide) in_X5_row_6 (by decide +kernel) rfl dX5_row_29 (fun kf_3 => ?_)
  refine lv_iload_n hx hb dX5_row_32 rfl (lv_at hl 1 rfl) ?_
  obtain ⟨hg_4, h⟩ := of_guard h
  refine rw_iald X hK hR kf_3 hg_4 dX5_row_33 ?_
  refine lv_icmp_ge (tgt := 65) hx hb dX5_row_34 (by decide) (fun hc => ?_) (fun hc => ?_)
  · have h := of_pos hc h
    exact kx0 s9.1 (Option.some.inj h).symm H locs ls hR hS (lv_sub hl [3] rfl)
  · have h := of_neg hc h
    refine lv_lload_n hx hb dX5_row_37 rfl (lv_at hl 3 rfl) ?_
    refine lv_aload_n hx hb dX5_row_38 rfl (lv_at hl 0 rfl) ?_
    refine lv_iload_n hx hb dX5_row_39 rfl (lv_at hl 1 rfl) ?_
    refine lv_iload hx hb dX5_row_40 (lv_at hl 4 rfl) ?_
    refine lv_iload_n hx hb dX5_row_42 rfl (lv_at hl 2 rfl) ?_
    obtain ⟨q_5, hq_5, h⟩ := of_bind h
    refine cl_z (rn_V (As := [.int l1, .int s9.2, .int l2]) (rest := [.long s9.1]) X hK hR k0 rfl (by decide) hl.1 (c_X5_has l cA D Λ hT σ a0 l1 s9.2 l2 k0 hq_5) (cwV 3 hts gX5_row_X5_has rfl rfl rfl (by decide +kernel) ⟨Nat.le_trans (by decide) hM.1, Nat.le_trans (by decide) hM.2⟩) rfl rfl (Nat.le_of_ble_eq_true rfl) dX5_row_43) hS (fun hz_5 H locs hR hS => ?_)
    refine lv_if_eq (tgt := 56) hx hb dX5_row_46 (by decide) (fun hc => ?_) (fun hc => ?_)
    · have h := of_pos hc h
      refine lv_lconst (v := (0 : Int64)) hx hb dX5_row_56 (by decide) ?_
      exact w_jp_X5_row_57 X hK hT hM a0 l1 l2 s9.2 (0 : Int64) s9.1 k0 h kb kx0 H locs ls hR hS (lv_sub hl [0, 1, 2, 4] rfl)
    · have h := of_neg hc h
      refine lv_lconst (v := (1 : Int64)) hx hb dX5_row_49 (by decide) ?_
      refine lv_iload hx hb dX5_row_50 (lv_at hl 4 rfl) ?_
      refine lv_lshl (v := (shlL (1 : Int64) s9.2)) hx hb dX5_row_52 rfl ?_
      refine lv_goto (tgt := 57) hx hb dX5_row_53 (by decide) ?_
      exact w_jp_X5_row_57 X hK hT hM a0 l1 l2 s9.2 (shlL (1 : Int64) s9.2) s9.1 k0 h kb kx0 H locs ls hR hS (lv_sub hl [0, 1, 2, 4] rfl)

set_option maxHeartbeats 4000000 in
set_option maxRecDepth 100000 in
theorem w_lp_X5_row_26 (X : Cx cX5_row (some .long) 6 RX5 wsX5_row p s m args meth c) (hK : Kn cA D s) (hT : TL Λ) (hM : 3 ≤ R.frames ∧ 69 ≤ R.locals) (a0 : Nat) (l1 : Int32) (l2 : Int32) (k0 : isK Λ a0 6) {e9 : Int64} : ∀ (n9 : Nat) (s9 : (Int64 × Int32)), iter (bd_X5_row_26 Λ σ a0 l1 l2) n9 s9 = some e9 → ∀ (kx0 : ∀ (H : Heap) (locs : List Loc) (ls : Array Slot), Rep cA D Λ σ H → va_S (dm Λ) s.heap H locs → lv_has ls 6 [(3, .long e9)] → W p l e R s m args below meth c H locs 0 0 Q (F0 m 65 ls [])), ∀ (H : Heap) (locs : List Loc) (ls : Array Slot), Rep cA D Λ σ H → va_S (dm Λ) s.heap H locs → lv_has ls 6 [(0, .ref a0), (1, .int l1), (2, .int l2), (3, .long s9.1), (5, .int s9.2)] → W p l e R s m args below meth c H locs 0 0 Q (F0 m 26 ls []) := by
  intro n9
  induction n9 with
  | zero => intro s9 h; cases h
  | succ n9 ih =>
    intro s9 h kx0 H locs ls hR hS hl
    obtain ⟨r, hr, h⟩ := of_iter h
    refine w_bd_X5_row_26 X hK hT hM a0 l1 l2 s9 k0 hr (fun z ez H locs ls hR hS hl => ?_) (fun z ez H locs ls hR hS hl => ?_) H locs ls hR hS hl
    · exact ih z (of_itl ez h) kx0 H locs ls hR hS hl
    · have he := of_itr ez h; subst he; exact kx0 H locs ls hR hS hl

set_option maxHeartbeats 4000000 in
set_option maxRecDepth 100000 in
theorem w_X5_row (X : Cx cX5_row (some .long) 6 RX5 wsX5_row p s m args meth c) (hK : Kn cA D s) (hT : TL Λ) (hM : 3 ≤ R.frames ∧ 69 ≤ R.locals) (a0 : Nat) (l1 : Int32) (l2 : Int32) (k0 : isK Λ a0 6) {res : Int64 × Sto} (h : F_X5_row Λ σ a0 l1 l2 = some res) (H : Heap) (locs : List Loc) (ls : Array Slot) (hR : Rep cA D Λ σ H) (hS : va_S (dm Λ) s.heap H locs) (hl : lv_has ls 6 [(0, .ref a0), (1, .int l1), (2, .int l2)]) : W p l e R s m args below meth c H locs 0 0 (MQ below (QL cA D Λ res) args s 0 0 (dm Λ)) (F0 m 0 ls []) := by
  have hx := X.1
  have hb := X.2.1
  have hown := X.2.2.2.2.1
  have hts := X.2.2.2.2.2.1
  unfold F_X5_row at h
  refine lv_aload_n hx hb dX5_row_0 rfl (lv_at hl 0 rfl) ?_
  refine lv_iconst (v := (0 : Int32)) hx hb dX5_row_1 (by decide) ?_
  refine rw_putI X hK hT hR hS 6 0 tyX5 k0 (by decide) (C := RX5) (T := TX5) (N := 24) rfl (by decide) in_X5_row_6 tyX5_ok nmX5 (by decide +kernel) rfl rfl (by decide +kernel) dX5_row_2 (fun σ_1 H locs e_1 hR hS => ?_)
  have h := of_nm e_1 h
  refine lv_aload_n hx hb dX5_row_5 rfl (lv_at hl 0 rfl) ?_
  refine lv_iload_n hx hb dX5_row_6 rfl (lv_at hl 1 rfl) ?_
  refine lv_iconst (v := (0 : Int32)) hx hb dX5_row_7 (by decide) ?_
  refine lv_iload_n hx hb dX5_row_8 rfl (lv_at hl 2 rfl) ?_
  obtain ⟨q_2, hq_2, h⟩ := of_bind h
  refine cl_z (rn_V (As := [.int l1, .int (0 : Int32), .int l2]) (rest := []) X hK hR k0 rfl (by decide) hl.1 (c_X5_isPoint l cA D Λ hT σ_1 a0 l1 (0 : Int32) l2 k0 hq_2) (cwV 3 hts gX5_row_X5_isPoint rfl rfl rfl (by decide +kernel) ⟨Nat.le_trans (by decide) hM.1, Nat.le_trans (by decide) hM.2⟩) rfl rfl (Nat.le_of_ble_eq_true rfl) dX5_row_9) hS (fun hz_2 H locs hR hS => ?_)
  refine lv_if_ne (tgt := 21) hx hb dX5_row_12 (by decide) (fun hc => ?_) (fun hc => ?_)
  · have h := of_neg hc h
    refine lv_lconst (v := (0 : Int64)) hx hb dX5_row_21 (by decide) ?_
    refine lv_lstore_n (lv' := [(3, .long (0 : Int64)), (0, .ref a0), (1, .int l1), (2, .int l2)]) hx hb dX5_row_22 rfl hl (by decide) rfl (fun ls hl => ?_)
    refine lv_iconst (v := (0 : Int32)) hx hb dX5_row_23 (by decide) ?_
    refine lv_istore (lv' := [(5, .int (0 : Int32)), (3, .long (0 : Int64)), (0, .ref a0), (1, .int l1), (2, .int l2)]) hx hb dX5_row_24 hl (by decide) rfl (fun ls hl => ?_)
    obtain ⟨e_8, hq_8, h⟩ := of_bind h
    refine w_lp_X5_row_26 X hK hT hM a0 l1 l2 k0 _ ((0 : Int64), (0 : Int32)) hq_8 (fun H locs ls hR hS hl => ?_) H locs ls hR hS (lv_sub hl [2, 3, 4, 1, 0] rfl)
    refine lv_lload_n hx hb dX5_row_65 rfl (lv_at hl 0 rfl) ?_
    exact rt_l X hR hS (Option.some.inj h) dX5_row_66
  · have h := of_pos hc h
    refine lv_aload_n hx hb dX5_row_15 rfl (lv_at hl 0 rfl) ?_
    obtain ⟨q_9, hq_9, h⟩ := of_bind h
    refine cl_i (rn_V (As := []) (rest := []) X hK hR k0 rfl (by decide) hl.1 (c_X5_refuse l cA D Λ hT σ_1 a0 k0 hq_9) (cwV 0 hts gX5_row_X5_refuse rfl rfl rfl (by decide +kernel) ⟨Nat.le_trans (by decide) hM.1, Nat.le_trans (by decide) hM.2⟩) rfl rfl (Nat.le_of_ble_eq_true rfl) dX5_row_16) hS (fun H locs hR hS => ?_)
    refine lv_i2l (v := (q_9.1.toInt64)) hx hb dX5_row_19 rfl ?_
    exact rt_l X hR hS (Option.some.inj h) dX5_row_20

set_option maxHeartbeats 4000000 in
set_option maxRecDepth 100000 in
theorem c_X5_row (l : Launch) (cA : Nat → ClassId) (D : va_G) (Λ : Lay) (hT : TL Λ) (σ : Sto) (a0 : Nat) (l1 : Int32) (l2 : Int32) (k0 : isK Λ a0 6) {res : Int64 × Sto} (h : F_X5_row Λ σ a0 l1 l2 = some res) : Met l yX5_row wsX5_row { frames := 3, cells := 0, slots := 0, locals := 69 } (va_Pc [.ref a0, .int l1, .int l2] (PW cA D Λ σ)) (QL cA D Λ res) 0 0 (dm Λ) := by
  refine Met.ofW (cc := cX5_row) (maxL := 6) (ret := (some .long)) (by decide) rfl ?_
  intro p e s m args below meth c s₁ B hml hv
  obtain ⟨rfl, hR, hK⟩ := hv
  have X : Cx cX5_row (some .long) 6 RX5 wsX5_row p s m _ meth c := ⟨B.exec, B.bytes, B.returns, hml, findClass_of_methodNamed B.named, atoms_spec (ws := wsX5_row) B.pre, B.notSynchronized⟩
  have hS : va_S (dm Λ) s.heap s.heap [] := va_S.rf
  have hl := lv_entry ([.ref a0, .int l1, .int l2]) (n := 6) (Nat.le_of_ble_eq_true rfl)
  rw [lg_entry_eq]
  generalize (lg_sl ([.ref a0, .int l1, .int l2]) ++ List.replicate (6 - (lg_sl ([.ref a0, .int l1, .int l2])).length) Slot.unset).toArray = ls at hl ⊢
  have hl : lv_has ls 6 [(0, .ref a0), (1, .int l1), (2, .int l2)] := hl
  exact w_X5_row X hK hT ⟨Nat.le_refl _, Nat.le_refl _⟩ a0 l1 l2 k0 h s.heap [] ls hR hS hl
theorem in_X5_spreads_6 : ∀ w ∈ u_ws RX5 TX5 24, w ∈ wsX5_spreads := by decide +kernel
set_option maxHeartbeats 4000000 in
set_option maxRecDepth 100000 in
theorem w_jp_X5_spreads_171 (X : Cx cX5_spreads (some .int) 11 RX5 wsX5_spreads p s m args meth c) (hK : Kn cA D s) (hT : TL Λ) (hM : 3 ≤ R.frames ∧ 69 ≤ R.locals) (a0 : Nat) (l1 : Int32) (l4 : Int32) (l5 : Int32) (l6 : Int32) (l7 : Int32) (l8 : Int32)  (k0 : isK Λ a0 6) {r : (Int32 × Int32 × Sto) ⊕ (Int32 × Sto)} (h : jp_X5_spreads_171 Λ σ a0 l1 l4 l5 l6 l7 l8 = some r) (kb : ∀ z : (Int32 × Int32 × Sto), r = .inl z → ∀ (H : Heap) (locs : List Loc) (ls : Array Slot), Rep cA D Λ z.2.2 H → va_S (dm Λ) s.heap H locs → lv_has ls 11 [(0, .ref a0), (1, .int l1), (4, .int z.1), (5, .int l5), (6, .int l6), (7, .int l7), (8, .int z.2.1)] → W p l e R s m args below meth c H locs 0 0 Q (F0 m 67 ls [])) (kx0 : ∀ z : (Int32 × Sto), r = .inr z → ∀ (H : Heap) (locs : List Loc) (ls : Array Slot), Rep cA D Λ z.2 H → va_S (dm Λ) s.heap H locs → lv_has ls 11 [(0, .ref a0), (1, .int l1), (4, .int z.1), (5, .int l5)] → W p l e R s m args below meth c H locs 0 0 Q (F0 m 177 ls [])) (H : Heap) (locs : List Loc) (ls : Array Slot) (hR : Rep cA D Λ σ H) (hS : va_S (dm Λ) s.heap H locs) (hl : lv_has ls 11 [(0, .ref a0), (1, .int l1), (4, .int l4), (5, .int l5), (6, .int l6), (7, .int l7), (8, .int l8)]) : W p l e R s m args below meth c H locs 0 0 Q (F0 m 171 ls []) := by
  have hx := X.1
  have hb := X.2.1
  have hown := X.2.2.2.2.1
  have hts := X.2.2.2.2.2.1
  unfold jp_X5_spreads_171 at h
  obtain ⟨v_16, e_v_16⟩ : ∃ y : Int32, y = (l8 + (1 : Int32)) := ⟨_, rfl⟩
  have h := of_nm e_v_16 h
  refine lv_iinc (v := v_16) (lv' := [(8, .int v_16), (0, .ref a0), (1, .int l1), (4, .int l4), (5, .int l5), (6, .int l6), (7, .int l7)]) hx hb dX5_spreads_171 hl (k := 6) rfl (by rw [e_v_16]; rfl) (by decide) rfl (fun ls hl => ?_)
  refine lv_goto (tgt := 67) hx hb dX5_spreads_174 (by decide) ?_
  exact kb (l4, v_16, σ) (Option.some.inj h).symm H locs ls hR hS (lv_sub hl [1, 2, 3, 4, 5, 6, 0] rfl)

set_option maxHeartbeats 4000000 in
set_option maxRecDepth 100000 in
theorem w_bd_X5_spreads_67 (X : Cx cX5_spreads (some .int) 11 RX5 wsX5_spreads p s m args meth c) (hK : Kn cA D s) (hT : TL Λ) (hM : 3 ≤ R.frames ∧ 69 ≤ R.locals) (a0 : Nat) (l1 : Int32) (l5 : Int32) (l6 : Int32) (l7 : Int32) (s9 : (Int32 × Int32 × Sto)) (k0 : isK Λ a0 6) {r : (Int32 × Int32 × Sto) ⊕ (Int32 × Sto)} (h : bd_X5_spreads_67 Λ a0 l1 l5 l6 l7 s9 = some r) (kb : ∀ z : (Int32 × Int32 × Sto), r = .inl z → ∀ (H : Heap) (locs : List Loc) (ls : Array Slot), Rep cA D Λ z.2.2 H → va_S (dm Λ) s.heap H locs → lv_has ls 11 [(0, .ref a0), (1, .int l1), (4, .int z.1), (5, .int l5), (6, .int l6), (7, .int l7), (8, .int z.2.1)] → W p l e R s m args below meth c H locs 0 0 Q (F0 m 67 ls [])) (kx0 : ∀ z : (Int32 × Sto), r = .inr z → ∀ (H : Heap) (locs : List Loc) (ls : Array Slot), Rep cA D Λ z.2 H → va_S (dm Λ) s.heap H locs → lv_has ls 11 [(0, .ref a0), (1, .int l1), (4, .int z.1), (5, .int l5)] → W p l e R s m args below meth c H locs 0 0 Q (F0 m 177 ls [])) (H : Heap) (locs : List Loc) (ls : Array Slot) (hR : Rep cA D Λ s9.2.2 H) (hS : va_S (dm Λ) s.heap H locs) (hl : lv_has ls 11 [(0, .ref a0), (1, .int l1), (4, .int s9.1), (5, .int l5), (6, .int l6), (7, .int l7), (8, .int s9.2.1)]) : W p l e R s m args below meth c H locs 0 0 Q (F0 m 67 ls []) := by
  have hx := X.1
  have hb := X.2.1
  have hown := X.2.2.2.2.1
  have hts := X.2.2.2.2.2.1
  unfold bd_X5_spreads_67 at h
  refine lv_iload hx hb dX5_spreads_67 (lv_at hl 6 rfl) ?_
  refine lv_bipush (v := (9 : Int32)) hx hb dX5_spreads_69 (by decide) ?_
  refine lv_icmp_ge (tgt := 177) hx hb dX5_spreads_71 (by decide) (fun hc => ?_) (fun hc => ?_)
  · have h := of_pos hc h
    exact kx0 (s9.1, s9.2.2) (Option.some.inj h).symm H locs ls hR hS (lv_sub hl [0, 1, 2, 3] rfl)
  · have h := of_neg hc h
    refine lv_iload hx hb dX5_spreads_74 (lv_at hl 5 rfl) ?_
    refine lv_iload hx hb dX5_spreads_76 (lv_at hl 6 rfl) ?_
    refine lv_iconst (v := (3 : Int32)) hx hb dX5_spreads_78 (by decide) ?_
    refine lv_irem hx hb dX5_spreads_79 (by decide) ?_
    refine lv_iadd hx hb dX5_spreads_80 ?_
    refine lv_iconst (v := (1 : Int32)) hx hb dX5_spreads_81 (by decide) ?_
    refine lv_isub hx hb dX5_spreads_82 ?_
    refine lv_topi (fun v_13 e_v_13 => ?_)
    have h := of_nm e_v_13 h
    refine lv_istore (lv' := [(9, .int v_13), (0, .ref a0), (1, .int l1), (4, .int s9.1), (5, .int l5), (6, .int l6), (7, .int l7), (8, .int s9.2.1)]) hx hb dX5_spreads_83 hl (by decide) rfl (fun ls hl => ?_)
    refine lv_iload hx hb dX5_spreads_85 (lv_at hl 5 rfl) ?_
    refine lv_iload hx hb dX5_spreads_87 (lv_at hl 7 rfl) ?_
    refine lv_iconst (v := (3 : Int32)) hx hb dX5_spreads_89 (by decide) ?_
    refine lv_idiv hx hb dX5_spreads_90 (by decide) ?_
    refine lv_iadd hx hb dX5_spreads_91 ?_
    refine lv_iconst (v := (1 : Int32)) hx hb dX5_spreads_92 (by decide) ?_
    refine lv_isub hx hb dX5_spreads_93 ?_
    refine lv_topi (fun v_14 e_v_14 => ?_)
    have h := of_nm e_v_14 h
    refine lv_istore (lv' := [(10, .int v_14), (9, .int v_13), (0, .ref a0), (1, .int l1), (4, .int s9.1), (5, .int l5), (6, .int l6), (7, .int l7), (8, .int s9.2.1)]) hx hb dX5_spreads_94 hl (by decide) rfl (fun ls hl => ?_)
    refine lv_aload_n hx hb dX5_spreads_96 rfl (lv_at hl 2 rfl) ?_
    refine lv_iload_n hx hb dX5_spreads_97 rfl (lv_at hl 3 rfl) ?_
    refine lv_iload hx hb dX5_spreads_98 (lv_at hl 1 rfl) ?_
    refine lv_iload hx hb dX5_spreads_100 (lv_at hl 0 rfl) ?_
    obtain ⟨q_15, hq_15, h⟩ := of_bind h
    refine cl_z (rn_V (As := [.int l1, .int v_13, .int v_14]) (rest := []) X hK hR k0 rfl (by decide) hl.1 (c_X5_isPoint l cA D Λ hT s9.2.2 a0 l1 v_13 v_14 k0 hq_15) (cwV 3 hts gX5_spreads_X5_isPoint rfl rfl rfl (by decide +kernel) ⟨Nat.le_trans (by decide) hM.1, Nat.le_trans (by decide) hM.2⟩) rfl rfl (Nat.le_of_ble_eq_true rfl) dX5_spreads_102) hS (fun hz_15 H locs hR hS => ?_)
    refine lv_if_eq (tgt := 171) hx hb dX5_spreads_105 (by decide) (fun hc => ?_) (fun hc => ?_)
    · have h := of_pos hc h
      exact w_jp_X5_spreads_171 X hK hT hM a0 l1 s9.1 l5 l6 l7 s9.2.1 k0 h kb kx0 H locs ls hR hS (lv_sub hl [2, 3, 4, 5, 6, 7, 8] rfl)
    · have h := of_neg hc h
      refine lv_aload_n hx hb dX5_spreads_108 rfl (lv_at hl 2 rfl) ?_
      refine lv_iload_n hx hb dX5_spreads_109 rfl (lv_at hl 3 rfl) ?_
      refine lv_iload hx hb dX5_spreads_110 (lv_at hl 1 rfl) ?_
      refine lv_iload hx hb dX5_spreads_112 (lv_at hl 0 rfl) ?_
      obtain ⟨q_17, hq_17, h⟩ := of_bind h
      refine cl_z (rn_V (As := [.int l1, .int v_13, .int v_14]) (rest := []) X hK hR k0 rfl (by decide) hl.1 (c_X5_has l cA D Λ hT s9.2.2 a0 l1 v_13 v_14 k0 hq_17) (cwV 3 hts gX5_spreads_X5_has rfl rfl rfl (by decide +kernel) ⟨Nat.le_trans (by decide) hM.1, Nat.le_trans (by decide) hM.2⟩) rfl rfl (Nat.le_of_ble_eq_true rfl) dX5_spreads_114) hS (fun hz_17 H locs hR hS => ?_)
      refine lv_if_eq (tgt := 171) hx hb dX5_spreads_117 (by decide) (fun hc => ?_) (fun hc => ?_)
      · have h := of_pos hc h
        exact w_jp_X5_spreads_171 X hK hT hM a0 l1 s9.1 l5 l6 l7 s9.2.1 k0 h kb kx0 H locs ls hR hS (lv_sub hl [2, 3, 4, 5, 6, 7, 8] rfl)
      · have h := of_neg hc h
        refine lv_aload_n hx hb dX5_spreads_120 rfl (lv_at hl 2 rfl) ?_
        refine rw_getR X hK hT hR 6 13 7 k0 (by decide) (C := RX5) (T := TX5) (N := 24) rfl (by decide) in_X5_spreads_6 (by decide +kernel) rfl dX5_spreads_121 (fun kf_18 => ?_)
        refine lv_iload hx hb dX5_spreads_124 (lv_at hl 0 rfl) ?_
        refine lv_bipush (v := (64 : Int32)) hx hb dX5_spreads_126 (by decide) ?_
        refine lv_imul hx hb dX5_spreads_128 ?_
        refine lv_iload hx hb dX5_spreads_129 (lv_at hl 1 rfl) ?_
        refine lv_iadd hx hb dX5_spreads_131 ?_
        obtain ⟨hg_19, h⟩ := of_guard h
        refine rw_iald X hK hR kf_18 hg_19 dX5_spreads_132 ?_
        refine lv_if_ne (tgt := 171) hx hb dX5_spreads_133 (by decide) (fun hc => ?_) (fun hc => ?_)
        · have h := of_neg hc h
          exact w_jp_X5_spreads_171 X hK hT hM a0 l1 s9.1 l5 l6 l7 s9.2.1 k0 h kb kx0 H locs ls hR hS (lv_sub hl [2, 3, 4, 5, 6, 7, 8] rfl)
        · have h := of_pos hc h
          refine lv_aload_n hx hb dX5_spreads_136 rfl (lv_at hl 2 rfl) ?_
          refine rw_getR X hK hT hR 6 13 7 k0 (by decide) (C := RX5) (T := TX5) (N := 24) rfl (by decide) in_X5_spreads_6 (by decide +kernel) rfl dX5_spreads_137 (fun kf_20 => ?_)
          refine lv_iload hx hb dX5_spreads_140 (lv_at hl 0 rfl) ?_
          refine lv_bipush (v := (64 : Int32)) hx hb dX5_spreads_142 (by decide) ?_
          refine lv_imul hx hb dX5_spreads_144 ?_
          refine lv_iload hx hb dX5_spreads_145 (lv_at hl 1 rfl) ?_
          refine lv_iadd hx hb dX5_spreads_147 ?_
          refine lv_aload_n hx hb dX5_spreads_148 rfl (lv_at hl 2 rfl) ?_
          refine rw_getI X hK hR 6 16 k0 (by decide) (C := RX5) (T := TX5) (N := 24) rfl (by decide) in_X5_spreads_6 (by decide +kernel) rfl dX5_spreads_149 ?_
          obtain ⟨hg_21, h⟩ := of_guard h
          refine rw_iast X hK hT hR hS kf_20 hg_21 dX5_spreads_152 (fun σ_21 H locs e_21 hR hS => ?_)
          have h := of_nm e_21 h
          refine lv_aload_n hx hb dX5_spreads_153 rfl (lv_at hl 2 rfl) ?_
          refine rw_getR X hK hT hR 6 15 7 k0 (by decide) (C := RX5) (T := TX5) (N := 24) rfl (by decide) in_X5_spreads_6 (by decide +kernel) rfl dX5_spreads_154 (fun kf_22 => ?_)
          refine lv_iload hx hb dX5_spreads_157 (lv_at hl 4 rfl) ?_
          refine lv_iload hx hb dX5_spreads_159 (lv_at hl 0 rfl) ?_
          refine lv_bipush (v := (64 : Int32)) hx hb dX5_spreads_161 (by decide) ?_
          refine lv_imul hx hb dX5_spreads_163 ?_
          refine lv_iload hx hb dX5_spreads_164 (lv_at hl 1 rfl) ?_
          refine lv_iadd hx hb dX5_spreads_166 ?_
          obtain ⟨hg_23, h⟩ := of_guard h
          refine rw_iast X hK hT hR hS kf_22 hg_23 dX5_spreads_167 (fun σ_23 H locs e_23 hR hS => ?_)
          have h := of_nm e_23 h
          obtain ⟨v_24, e_v_24⟩ : ∃ y : Int32, y = (s9.1 + (1 : Int32)) := ⟨_, rfl⟩
          have h := of_nm e_v_24 h
          refine lv_iinc (v := v_24) (lv' := [(4, .int v_24), (10, .int v_14), (9, .int v_13), (0, .ref a0), (1, .int l1), (5, .int l5), (6, .int l6), (7, .int l7), (8, .int s9.2.1)]) hx hb dX5_spreads_168 hl (k := 4) rfl (by rw [e_v_24]; rfl) (by decide) rfl (fun ls hl => ?_)
          exact w_jp_X5_spreads_171 X hK hT hM a0 l1 v_24 l5 l6 l7 s9.2.1 k0 h kb kx0 H locs ls hR hS (lv_sub hl [3, 4, 0, 5, 6, 7, 8] rfl)

set_option maxHeartbeats 4000000 in
set_option maxRecDepth 100000 in
theorem w_lp_X5_spreads_67 (X : Cx cX5_spreads (some .int) 11 RX5 wsX5_spreads p s m args meth c) (hK : Kn cA D s) (hT : TL Λ) (hM : 3 ≤ R.frames ∧ 69 ≤ R.locals) (a0 : Nat) (l1 : Int32) (l5 : Int32) (l6 : Int32) (l7 : Int32) (k0 : isK Λ a0 6) {e9 : (Int32 × Sto)} : ∀ (n9 : Nat) (s9 : (Int32 × Int32 × Sto)), iter (bd_X5_spreads_67 Λ a0 l1 l5 l6 l7) n9 s9 = some e9 → ∀ (kx0 : ∀ (H : Heap) (locs : List Loc) (ls : Array Slot), Rep cA D Λ e9.2 H → va_S (dm Λ) s.heap H locs → lv_has ls 11 [(0, .ref a0), (1, .int l1), (4, .int e9.1), (5, .int l5)] → W p l e R s m args below meth c H locs 0 0 Q (F0 m 177 ls [])), ∀ (H : Heap) (locs : List Loc) (ls : Array Slot), Rep cA D Λ s9.2.2 H → va_S (dm Λ) s.heap H locs → lv_has ls 11 [(0, .ref a0), (1, .int l1), (4, .int s9.1), (5, .int l5), (6, .int l6), (7, .int l7), (8, .int s9.2.1)] → W p l e R s m args below meth c H locs 0 0 Q (F0 m 67 ls []) := by
  intro n9
  induction n9 with
  | zero => intro s9 h; cases h
  | succ n9 ih =>
    intro s9 h kx0 H locs ls hR hS hl
    obtain ⟨r, hr, h⟩ := of_iter h
    refine w_bd_X5_spreads_67 X hK hT hM a0 l1 l5 l6 l7 s9 k0 hr (fun z ez H locs ls hR hS hl => ?_) (fun z ez H locs ls hR hS hl => ?_) H locs ls hR hS hl
    · exact ih z (of_itl ez h) kx0 H locs ls hR hS hl
    · have he := of_itr ez h; subst he; exact kx0 H locs ls hR hS hl

set_option maxHeartbeats 4000000 in
set_option maxRecDepth 100000 in
theorem w_bd_X5_spreads_33 (X : Cx cX5_spreads (some .int) 11 RX5 wsX5_spreads p s m args meth c) (hK : Kn cA D s) (hT : TL Λ) (hM : 3 ≤ R.frames ∧ 69 ≤ R.locals) (a0 : Nat) (l1 : Int32) (s9 : (Int32 × Int32 × Sto)) (k0 : isK Λ a0 6) {r : (Int32 × Int32 × Sto) ⊕ (Int32 × Sto)} (h : bd_X5_spreads_33 Λ a0 l1 s9 = some r) (kb : ∀ z : (Int32 × Int32 × Sto), r = .inl z → ∀ (H : Heap) (locs : List Loc) (ls : Array Slot), Rep cA D Λ z.2.2 H → va_S (dm Λ) s.heap H locs → lv_has ls 11 [(0, .ref a0), (1, .int l1), (4, .int z.1), (5, .int z.2.1)] → W p l e R s m args below meth c H locs 0 0 Q (F0 m 33 ls [])) (kx0 : ∀ z : (Int32 × Sto), r = .inr z → ∀ (H : Heap) (locs : List Loc) (ls : Array Slot), Rep cA D Λ z.2 H → va_S (dm Λ) s.heap H locs → lv_has ls 11 [(4, .int z.1)] → W p l e R s m args below meth c H locs 0 0 Q (F0 m 183 ls [])) (H : Heap) (locs : List Loc) (ls : Array Slot) (hR : Rep cA D Λ s9.2.2 H) (hS : va_S (dm Λ) s.heap H locs) (hl : lv_has ls 11 [(0, .ref a0), (1, .int l1), (4, .int s9.1), (5, .int s9.2.1)]) : W p l e R s m args below meth c H locs 0 0 Q (F0 m 33 ls []) := by
  have hx := X.1
  have hb := X.2.1
  have hown := X.2.2.2.2.1
  have hts := X.2.2.2.2.2.1
  unfold bd_X5_spreads_33 at h
  refine lv_iload hx hb dX5_spreads_33 (lv_at hl 3 rfl) ?_
  refine lv_iload hx hb dX5_spreads_35 (lv_at hl 2 rfl) ?_
  refine lv_icmp_ge (tgt := 183) hx hb dX5_spreads_37 (by decide) (fun hc => ?_) (fun hc => ?_)
  · have h := of_pos hc h
    exact kx0 (s9.1, s9.2.2) (Option.some.inj h).symm H locs ls hR hS (lv_sub hl [2] rfl)
  · have h := of_neg hc h
    refine lv_aload_n hx hb dX5_spreads_40 rfl (lv_at hl 0 rfl) ?_
    refine rw_getR X hK hT hR 6 15 7 k0 (by decide) (C := RX5) (T := TX5) (N := 24) rfl (by decide) in_X5_spreads_6 (by decide +kernel) rfl dX5_spreads_41 (fun kf_7 => ?_)
    refine lv_iload hx hb dX5_spreads_44 (lv_at hl 3 rfl) ?_
    obtain ⟨hg_8, h⟩ := of_guard h
    refine rw_iald X hK hR kf_7 hg_8 dX5_spreads_46 ?_
    refine lv_bipush (v := (64 : Int32)) hx hb dX5_spreads_47 (by decide) ?_
    refine lv_idiv hx hb dX5_spreads_49 (by decide) ?_
    refine lv_topi (fun v_9 e_v_9 => ?_)
    have h := of_nm e_v_9 h
    refine lv_istore (lv' := [(6, .int v_9), (0, .ref a0), (1, .int l1), (4, .int s9.1), (5, .int s9.2.1)]) hx hb dX5_spreads_50 hl (by decide) rfl (fun ls hl => ?_)
    refine lv_aload_n hx hb dX5_spreads_52 rfl (lv_at hl 1 rfl) ?_
    refine rw_getR X hK hT hR 6 15 7 k0 (by decide) (C := RX5) (T := TX5) (N := 24) rfl (by decide) in_X5_spreads_6 (by decide +kernel) rfl dX5_spreads_53 (fun kf_10 => ?_)
    refine lv_iload hx hb dX5_spreads_56 (lv_at hl 4 rfl) ?_
    obtain ⟨hg_11, h⟩ := of_guard h
    refine rw_iald X hK hR kf_10 hg_11 dX5_spreads_58 ?_
    refine lv_bipush (v := (64 : Int32)) hx hb dX5_spreads_59 (by decide) ?_
    refine lv_irem hx hb dX5_spreads_61 (by decide) ?_
    refine lv_topi (fun v_12 e_v_12 => ?_)
    have h := of_nm e_v_12 h
    refine lv_istore (lv' := [(7, .int v_12), (6, .int v_9), (0, .ref a0), (1, .int l1), (4, .int s9.1), (5, .int s9.2.1)]) hx hb dX5_spreads_62 hl (by decide) rfl (fun ls hl => ?_)
    refine lv_iconst (v := (0 : Int32)) hx hb dX5_spreads_64 (by decide) ?_
    refine lv_istore (lv' := [(8, .int (0 : Int32)), (7, .int v_12), (6, .int v_9), (0, .ref a0), (1, .int l1), (4, .int s9.1), (5, .int s9.2.1)]) hx hb dX5_spreads_65 hl (by decide) rfl (fun ls hl => ?_)
    obtain ⟨e_25, hq_25, h⟩ := of_bind h
    refine w_lp_X5_spreads_67 X hK hT hM a0 l1 s9.2.1 v_9 v_12 k0 _ (s9.1, (0 : Int32), s9.2.2) hq_25 (fun H locs ls hR hS hl => ?_) H locs ls hR hS (lv_sub hl [3, 4, 5, 6, 2, 1, 0] rfl)
    obtain ⟨v_26, e_v_26⟩ : ∃ y : Int32, y = (s9.2.1 + (1 : Int32)) := ⟨_, rfl⟩
    have h := of_nm e_v_26 h
    refine lv_iinc (v := v_26) (lv' := [(5, .int v_26), (0, .ref a0), (1, .int l1), (4, .int e_25.1)]) hx hb dX5_spreads_177 hl (k := 3) rfl (by rw [e_v_26]; rfl) (by decide) rfl (fun ls hl => ?_)
    refine lv_goto (tgt := 33) hx hb dX5_spreads_180 (by decide) ?_
    exact kb (e_25.1, v_26, e_25.2) (Option.some.inj h).symm H locs ls hR hS (lv_sub hl [1, 2, 3, 0] rfl)

set_option maxHeartbeats 4000000 in
set_option maxRecDepth 100000 in
theorem w_lp_X5_spreads_33 (X : Cx cX5_spreads (some .int) 11 RX5 wsX5_spreads p s m args meth c) (hK : Kn cA D s) (hT : TL Λ) (hM : 3 ≤ R.frames ∧ 69 ≤ R.locals) (a0 : Nat) (l1 : Int32) (k0 : isK Λ a0 6) {e9 : (Int32 × Sto)} : ∀ (n9 : Nat) (s9 : (Int32 × Int32 × Sto)), iter (bd_X5_spreads_33 Λ a0 l1) n9 s9 = some e9 → ∀ (kx0 : ∀ (H : Heap) (locs : List Loc) (ls : Array Slot), Rep cA D Λ e9.2 H → va_S (dm Λ) s.heap H locs → lv_has ls 11 [(4, .int e9.1)] → W p l e R s m args below meth c H locs 0 0 Q (F0 m 183 ls [])), ∀ (H : Heap) (locs : List Loc) (ls : Array Slot), Rep cA D Λ s9.2.2 H → va_S (dm Λ) s.heap H locs → lv_has ls 11 [(0, .ref a0), (1, .int l1), (4, .int s9.1), (5, .int s9.2.1)] → W p l e R s m args below meth c H locs 0 0 Q (F0 m 33 ls []) := by
  intro n9
  induction n9 with
  | zero => intro s9 h; cases h
  | succ n9 ih =>
    intro s9 h kx0 H locs ls hR hS hl
    obtain ⟨r, hr, h⟩ := of_iter h
    refine w_bd_X5_spreads_33 X hK hT hM a0 l1 s9 k0 hr (fun z ez H locs ls hR hS hl => ?_) (fun z ez H locs ls hR hS hl => ?_) H locs ls hR hS hl
    · exact ih z (of_itl ez h) kx0 H locs ls hR hS hl
    · have he := of_itr ez h; subst he; exact kx0 H locs ls hR hS hl

set_option maxHeartbeats 4000000 in
set_option maxRecDepth 100000 in
theorem w_X5_spreads (X : Cx cX5_spreads (some .int) 11 RX5 wsX5_spreads p s m args meth c) (hK : Kn cA D s) (hT : TL Λ) (hM : 3 ≤ R.frames ∧ 69 ≤ R.locals) (a0 : Nat) (l1 : Int32) (l2 : Int32) (l3 : Int32) (k0 : isK Λ a0 6) {res : Int32 × Sto} (h : F_X5_spreads Λ σ a0 l1 l2 l3 = some res) (H : Heap) (locs : List Loc) (ls : Array Slot) (hR : Rep cA D Λ σ H) (hS : va_S (dm Λ) s.heap H locs) (hl : lv_has ls 11 [(0, .ref a0), (1, .int l1), (2, .int l2), (3, .int l3)]) : W p l e R s m args below meth c H locs 0 0 (MQ below (QI cA D Λ res) args s 0 0 (dm Λ)) (F0 m 0 ls []) := by
  have hx := X.1
  have hb := X.2.1
  have hown := X.2.2.2.2.1
  have hts := X.2.2.2.2.2.1
  unfold F_X5_spreads at h
  refine lv_aload_n hx hb dX5_spreads_0 rfl (lv_at hl 0 rfl) ?_
  refine rw_getR X hK hT hR 6 15 7 k0 (by decide) (C := RX5) (T := TX5) (N := 24) rfl (by decide) in_X5_spreads_6 (by decide +kernel) rfl dX5_spreads_1 (fun kf_1 => ?_)
  refine lv_iconst (v := (0 : Int32)) hx hb dX5_spreads_4 (by decide) ?_
  refine lv_iload_n hx hb dX5_spreads_5 rfl (lv_at hl 3 rfl) ?_
  refine lv_bipush (v := (64 : Int32)) hx hb dX5_spreads_6 (by decide) ?_
  refine lv_imul hx hb dX5_spreads_8 ?_
  refine lv_iload_n hx hb dX5_spreads_9 rfl (lv_at hl 2 rfl) ?_
  refine lv_iadd hx hb dX5_spreads_10 ?_
  obtain ⟨hg_2, h⟩ := of_guard h
  refine rw_iast X hK hT hR hS kf_1 hg_2 dX5_spreads_11 (fun σ_2 H locs e_2 hR hS => ?_)
  have h := of_nm e_2 h
  refine lv_aload_n hx hb dX5_spreads_12 rfl (lv_at hl 0 rfl) ?_
  refine rw_getR X hK hT hR 6 13 7 k0 (by decide) (C := RX5) (T := TX5) (N := 24) rfl (by decide) in_X5_spreads_6 (by decide +kernel) rfl dX5_spreads_13 (fun kf_3 => ?_)
  refine lv_aload_n hx hb dX5_spreads_16 rfl (lv_at hl 0 rfl) ?_
  refine rw_getR X hK hT hR 6 15 7 k0 (by decide) (C := RX5) (T := TX5) (N := 24) rfl (by decide) in_X5_spreads_6 (by decide +kernel) rfl dX5_spreads_17 (fun kf_4 => ?_)
  refine lv_iconst (v := (0 : Int32)) hx hb dX5_spreads_20 (by decide) ?_
  obtain ⟨hg_5, h⟩ := of_guard h
  refine rw_iald X hK hR kf_4 hg_5 dX5_spreads_21 ?_
  refine lv_aload_n hx hb dX5_spreads_22 rfl (lv_at hl 0 rfl) ?_
  refine rw_getI X hK hR 6 16 k0 (by decide) (C := RX5) (T := TX5) (N := 24) rfl (by decide) in_X5_spreads_6 (by decide +kernel) rfl dX5_spreads_23 ?_
  obtain ⟨hg_6, h⟩ := of_guard h
  refine rw_iast X hK hT hR hS kf_3 hg_6 dX5_spreads_26 (fun σ_6 H locs e_6 hR hS => ?_)
  have h := of_nm e_6 h
  refine lv_iconst (v := (1 : Int32)) hx hb dX5_spreads_27 (by decide) ?_
  refine lv_istore (lv' := [(4, .int (1 : Int32)), (0, .ref a0), (1, .int l1), (2, .int l2), (3, .int l3)]) hx hb dX5_spreads_28 hl (by decide) rfl (fun ls hl => ?_)
  refine lv_iconst (v := (0 : Int32)) hx hb dX5_spreads_30 (by decide) ?_
  refine lv_istore (lv' := [(5, .int (0 : Int32)), (4, .int (1 : Int32)), (0, .ref a0), (1, .int l1), (2, .int l2), (3, .int l3)]) hx hb dX5_spreads_31 hl (by decide) rfl (fun ls hl => ?_)
  obtain ⟨e_27, hq_27, h⟩ := of_bind h
  refine w_lp_X5_spreads_33 X hK hT hM a0 l1 k0 _ ((1 : Int32), (0 : Int32), σ_6) hq_27 (fun H locs ls hR hS hl => ?_) H locs ls hR hS (lv_sub hl [2, 3, 1, 0] rfl)
  refine lv_iload hx hb dX5_spreads_183 (lv_at hl 0 rfl) ?_
  exact rt_i X hR hS (Option.some.inj h) dX5_spreads_185

set_option maxHeartbeats 4000000 in
set_option maxRecDepth 100000 in
theorem c_X5_spreads (l : Launch) (cA : Nat → ClassId) (D : va_G) (Λ : Lay) (hT : TL Λ) (σ : Sto) (a0 : Nat) (l1 : Int32) (l2 : Int32) (l3 : Int32) (k0 : isK Λ a0 6) {res : Int32 × Sto} (h : F_X5_spreads Λ σ a0 l1 l2 l3 = some res) : Met l yX5_spreads wsX5_spreads { frames := 3, cells := 0, slots := 0, locals := 69 } (va_Pc [.ref a0, .int l1, .int l2, .int l3] (PW cA D Λ σ)) (QI cA D Λ res) 0 0 (dm Λ) := by
  refine Met.ofW (cc := cX5_spreads) (maxL := 11) (ret := (some .int)) (by decide) rfl ?_
  intro p e s m args below meth c s₁ B hml hv
  obtain ⟨rfl, hR, hK⟩ := hv
  have X : Cx cX5_spreads (some .int) 11 RX5 wsX5_spreads p s m _ meth c := ⟨B.exec, B.bytes, B.returns, hml, findClass_of_methodNamed B.named, atoms_spec (ws := wsX5_spreads) B.pre, B.notSynchronized⟩
  have hS : va_S (dm Λ) s.heap s.heap [] := va_S.rf
  have hl := lv_entry ([.ref a0, .int l1, .int l2, .int l3]) (n := 11) (Nat.le_of_ble_eq_true rfl)
  rw [lg_entry_eq]
  generalize (lg_sl ([.ref a0, .int l1, .int l2, .int l3]) ++ List.replicate (11 - (lg_sl ([.ref a0, .int l1, .int l2, .int l3])).length) Slot.unset).toArray = ls at hl ⊢
  have hl : lv_has ls 11 [(0, .ref a0), (1, .int l1), (2, .int l2), (3, .int l3)] := hl
  exact w_X5_spreads X hK hT ⟨Nat.le_refl _, Nat.le_refl _⟩ a0 l1 l2 l3 k0 h s.heap [] ls hR hS hl
theorem in_X5_findsSpots_6 : ∀ w ∈ u_ws RX5 TX5 24, w ∈ wsX5_findsSpots := by decide +kernel
set_option maxHeartbeats 4000000 in
set_option maxRecDepth 100000 in
theorem w_bd_X5_findsSpots_7 (X : Cx cX5_findsSpots none 4 RX5 wsX5_findsSpots p s m args meth c) (hK : Kn cA D s) (hT : TL Λ) (hM : 4 ≤ R.frames ∧ 99 ≤ R.locals) (a0 : Nat) (l1 : Int32) (s9 : (Int32 × Sto)) (k0 : isK Λ a0 6) {r : (Int32 × Sto) ⊕ Sto} (h : bd_X5_findsSpots_7 Λ a0 l1 s9 = some r) (kb : ∀ z : (Int32 × Sto), r = .inl z → ∀ (H : Heap) (locs : List Loc) (ls : Array Slot), Rep cA D Λ z.2 H → va_S (dm Λ) s.heap H locs → lv_has ls 4 [(0, .ref a0), (1, .int l1), (2, .int z.1)] → W p l e R s m args below meth c H locs 0 0 Q (F0 m 7 ls [])) (kx0 : ∀ z : Sto, r = .inr z → ∀ (H : Heap) (locs : List Loc) (ls : Array Slot), Rep cA D Λ z H → va_S (dm Λ) s.heap H locs → lv_has ls 4 [(0, .ref a0), (1, .int l1)] → W p l e R s m args below meth c H locs 0 0 Q (F0 m 27 ls [])) (H : Heap) (locs : List Loc) (ls : Array Slot) (hR : Rep cA D Λ s9.2 H) (hS : va_S (dm Λ) s.heap H locs) (hl : lv_has ls 4 [(0, .ref a0), (1, .int l1), (2, .int s9.1)]) : W p l e R s m args below meth c H locs 0 0 Q (F0 m 7 ls []) := by
  have hx := X.1
  have hb := X.2.1
  have hown := X.2.2.2.2.1
  have hts := X.2.2.2.2.2.1
  unfold bd_X5_findsSpots_7 at h
  refine lv_iload_n hx hb dX5_findsSpots_7 rfl (lv_at hl 2 rfl) ?_
  refine lv_sipush (v := (4096 : Int32)) hx hb dX5_findsSpots_8 (by decide) ?_
  refine lv_icmp_ge (tgt := 27) hx hb dX5_findsSpots_11 (by decide) (fun hc => ?_) (fun hc => ?_)
  · have h := of_pos hc h
    exact kx0 s9.2 (Option.some.inj h).symm H locs ls hR hS (lv_sub hl [0, 1] rfl)
  · have h := of_neg hc h
    refine lv_aload_n hx hb dX5_findsSpots_14 rfl (lv_at hl 0 rfl) ?_
    refine rw_getR X hK hT hR 6 13 7 k0 (by decide) (C := RX5) (T := TX5) (N := 24) rfl (by decide) in_X5_findsSpots_6 (by decide +kernel) rfl dX5_findsSpots_15 (fun kf_2 => ?_)
    refine lv_iload_n hx hb dX5_findsSpots_18 rfl (lv_at hl 2 rfl) ?_
    refine lv_iconst (v := (0 : Int32)) hx hb dX5_findsSpots_19 (by decide) ?_
    obtain ⟨hg_3, h⟩ := of_guard h
    refine rw_iast X hK hT hR hS kf_2 hg_3 dX5_findsSpots_20 (fun σ_3 H locs e_3 hR hS => ?_)
    have h := of_nm e_3 h
    obtain ⟨v_4, e_v_4⟩ : ∃ y : Int32, y = (s9.1 + (1 : Int32)) := ⟨_, rfl⟩
    have h := of_nm e_v_4 h
    refine lv_iinc (v := v_4) (lv' := [(2, .int v_4), (0, .ref a0), (1, .int l1)]) hx hb dX5_findsSpots_21 hl (k := 2) rfl (by rw [e_v_4]; rfl) (by decide) rfl (fun ls hl => ?_)
    refine lv_goto (tgt := 7) hx hb dX5_findsSpots_24 (by decide) ?_
    exact kb (v_4, σ_3) (Option.some.inj h).symm H locs ls hR hS (lv_sub hl [1, 2, 0] rfl)

set_option maxHeartbeats 4000000 in
set_option maxRecDepth 100000 in
theorem w_lp_X5_findsSpots_7 (X : Cx cX5_findsSpots none 4 RX5 wsX5_findsSpots p s m args meth c) (hK : Kn cA D s) (hT : TL Λ) (hM : 4 ≤ R.frames ∧ 99 ≤ R.locals) (a0 : Nat) (l1 : Int32) (k0 : isK Λ a0 6) {e9 : Sto} : ∀ (n9 : Nat) (s9 : (Int32 × Sto)), iter (bd_X5_findsSpots_7 Λ a0 l1) n9 s9 = some e9 → ∀ (kx0 : ∀ (H : Heap) (locs : List Loc) (ls : Array Slot), Rep cA D Λ e9 H → va_S (dm Λ) s.heap H locs → lv_has ls 4 [(0, .ref a0), (1, .int l1)] → W p l e R s m args below meth c H locs 0 0 Q (F0 m 27 ls [])), ∀ (H : Heap) (locs : List Loc) (ls : Array Slot), Rep cA D Λ s9.2 H → va_S (dm Λ) s.heap H locs → lv_has ls 4 [(0, .ref a0), (1, .int l1), (2, .int s9.1)] → W p l e R s m args below meth c H locs 0 0 Q (F0 m 7 ls []) := by
  intro n9
  induction n9 with
  | zero => intro s9 h; cases h
  | succ n9 ih =>
    intro s9 h kx0 H locs ls hR hS hl
    obtain ⟨r, hr, h⟩ := of_iter h
    refine w_bd_X5_findsSpots_7 X hK hT hM a0 l1 s9 k0 hr (fun z ez H locs ls hR hS hl => ?_) (fun z ez H locs ls hR hS hl => ?_) H locs ls hR hS hl
    · exact ih z (of_itl ez h) kx0 H locs ls hR hS hl
    · have he := of_itr ez h; subst he; exact kx0 H locs ls hR hS hl

set_option maxHeartbeats 4000000 in
set_option maxRecDepth 100000 in
theorem w_jp_X5_findsSpots_101 (X : Cx cX5_findsSpots none 4 RX5 wsX5_findsSpots p s m args meth c) (hK : Kn cA D s) (hT : TL Λ) (hM : 4 ≤ R.frames ∧ 99 ≤ R.locals) (a0 : Nat) (l1 : Int32) (l2 : Int32) (l3 : Int32)  (k0 : isK Λ a0 6) {r : (Int32 × Sto) ⊕ Sto} (h : jp_X5_findsSpots_101 Λ σ a0 l1 l2 l3 = some r) (kb : ∀ z : (Int32 × Sto), r = .inl z → ∀ (H : Heap) (locs : List Loc) (ls : Array Slot), Rep cA D Λ z.2 H → va_S (dm Λ) s.heap H locs → lv_has ls 4 [(0, .ref a0), (1, .int l1), (2, .int l2), (3, .int z.1)] → W p l e R s m args below meth c H locs 0 0 Q (F0 m 41 ls [])) (kx0 : ∀ z : Sto, r = .inr z → ∀ (H : Heap) (locs : List Loc) (ls : Array Slot), Rep cA D Λ z H → va_S (dm Λ) s.heap H locs → lv_has ls 4 [(0, .ref a0), (1, .int l1), (2, .int l2)] → W p l e R s m args below meth c H locs 0 0 Q (F0 m 107 ls [])) (H : Heap) (locs : List Loc) (ls : Array Slot) (hR : Rep cA D Λ σ H) (hS : va_S (dm Λ) s.heap H locs) (hl : lv_has ls 4 [(0, .ref a0), (1, .int l1), (2, .int l2), (3, .int l3)]) : W p l e R s m args below meth c H locs 0 0 Q (F0 m 101 ls []) := by
  have hx := X.1
  have hb := X.2.1
  have hown := X.2.2.2.2.1
  have hts := X.2.2.2.2.2.1
  unfold jp_X5_findsSpots_101 at h
  obtain ⟨v_11, e_v_11⟩ : ∃ y : Int32, y = (l3 + (1 : Int32)) := ⟨_, rfl⟩
  have h := of_nm e_v_11 h
  refine lv_iinc (v := v_11) (lv' := [(3, .int v_11), (0, .ref a0), (1, .int l1), (2, .int l2)]) hx hb dX5_findsSpots_101 hl (k := 3) rfl (by rw [e_v_11]; rfl) (by decide) rfl (fun ls hl => ?_)
  refine lv_goto (tgt := 41) hx hb dX5_findsSpots_104 (by decide) ?_
  exact kb (v_11, σ) (Option.some.inj h).symm H locs ls hR hS (lv_sub hl [1, 2, 3, 0] rfl)

set_option maxHeartbeats 4000000 in
set_option maxRecDepth 100000 in
theorem w_bd_X5_findsSpots_41 (X : Cx cX5_findsSpots none 4 RX5 wsX5_findsSpots p s m args meth c) (hK : Kn cA D s) (hT : TL Λ) (hM : 4 ≤ R.frames ∧ 99 ≤ R.locals) (a0 : Nat) (l1 : Int32) (l2 : Int32) (s9 : (Int32 × Sto)) (k0 : isK Λ a0 6) {r : (Int32 × Sto) ⊕ Sto} (h : bd_X5_findsSpots_41 Λ a0 l1 l2 s9 = some r) (kb : ∀ z : (Int32 × Sto), r = .inl z → ∀ (H : Heap) (locs : List Loc) (ls : Array Slot), Rep cA D Λ z.2 H → va_S (dm Λ) s.heap H locs → lv_has ls 4 [(0, .ref a0), (1, .int l1), (2, .int l2), (3, .int z.1)] → W p l e R s m args below meth c H locs 0 0 Q (F0 m 41 ls [])) (kx0 : ∀ z : Sto, r = .inr z → ∀ (H : Heap) (locs : List Loc) (ls : Array Slot), Rep cA D Λ z H → va_S (dm Λ) s.heap H locs → lv_has ls 4 [(0, .ref a0), (1, .int l1), (2, .int l2)] → W p l e R s m args below meth c H locs 0 0 Q (F0 m 107 ls [])) (H : Heap) (locs : List Loc) (ls : Array Slot) (hR : Rep cA D Λ s9.2 H) (hS : va_S (dm Λ) s.heap H locs) (hl : lv_has ls 4 [(0, .ref a0), (1, .int l1), (2, .int l2), (3, .int s9.1)]) : W p l e R s m args below meth c H locs 0 0 Q (F0 m 41 ls []) := by
  have hx := X.1
  have hb := X.2.1
  have hown := X.2.2.2.2.1
  have hts := X.2.2.2.2.2.1
  unfold bd_X5_findsSpots_41 at h
  refine lv_iload_n hx hb dX5_findsSpots_41 rfl (lv_at hl 3 rfl) ?_
  refine lv_aload_n hx hb dX5_findsSpots_42 rfl (lv_at hl 0 rfl) ?_
  refine rw_getR X hK hT hR 6 2 7 k0 (by decide) (C := RX5) (T := TX5) (N := 24) rfl (by decide) in_X5_findsSpots_6 (by decide +kernel) rfl dX5_findsSpots_43 (fun kf_8 => ?_)
  refine lv_iload_n hx hb dX5_findsSpots_46 rfl (lv_at hl 1 rfl) ?_
  obtain ⟨hg_9, h⟩ := of_guard h
  refine rw_iald X hK hR kf_8 hg_9 dX5_findsSpots_47 ?_
  refine lv_icmp_ge (tgt := 107) hx hb dX5_findsSpots_48 (by decide) (fun hc => ?_) (fun hc => ?_)
  · have h := of_pos hc h
    exact kx0 s9.2 (Option.some.inj h).symm H locs ls hR hS (lv_sub hl [0, 1, 2] rfl)
  · have h := of_neg hc h
    refine lv_aload_n hx hb dX5_findsSpots_51 rfl (lv_at hl 0 rfl) ?_
    refine lv_iload_n hx hb dX5_findsSpots_52 rfl (lv_at hl 1 rfl) ?_
    refine lv_iload_n hx hb dX5_findsSpots_53 rfl (lv_at hl 3 rfl) ?_
    refine lv_iload_n hx hb dX5_findsSpots_54 rfl (lv_at hl 2 rfl) ?_
    obtain ⟨q_10, hq_10, h⟩ := of_bind h
    refine cl_z (rn_V (As := [.int l1, .int s9.1, .int l2]) (rest := []) X hK hR k0 rfl (by decide) hl.1 (c_X5_has l cA D Λ hT s9.2 a0 l1 s9.1 l2 k0 hq_10) (cwV 3 hts gX5_findsSpots_X5_has rfl rfl rfl (by decide +kernel) ⟨Nat.le_trans (by decide) hM.1, Nat.le_trans (by decide) hM.2⟩) rfl rfl (Nat.le_of_ble_eq_true rfl) dX5_findsSpots_55) hS (fun hz_10 H locs hR hS => ?_)
    refine lv_if_eq (tgt := 101) hx hb dX5_findsSpots_58 (by decide) (fun hc => ?_) (fun hc => ?_)
    · have h := of_pos hc h
      exact w_jp_X5_findsSpots_101 X hK hT hM a0 l1 l2 s9.1 k0 h kb kx0 H locs ls hR hS (lv_sub hl [0, 1, 2, 3] rfl)
    · have h := of_neg hc h
      refine lv_aload_n hx hb dX5_findsSpots_61 rfl (lv_at hl 0 rfl) ?_
      refine rw_getR X hK hT hR 6 13 7 k0 (by decide) (C := RX5) (T := TX5) (N := 24) rfl (by decide) in_X5_findsSpots_6 (by decide +kernel) rfl dX5_findsSpots_62 (fun kf_12 => ?_)
      refine lv_iload_n hx hb dX5_findsSpots_65 rfl (lv_at hl 2 rfl) ?_
      refine lv_bipush (v := (64 : Int32)) hx hb dX5_findsSpots_66 (by decide) ?_
      refine lv_imul hx hb dX5_findsSpots_68 ?_
      refine lv_iload_n hx hb dX5_findsSpots_69 rfl (lv_at hl 3 rfl) ?_
      refine lv_iadd hx hb dX5_findsSpots_70 ?_
      obtain ⟨hg_13, h⟩ := of_guard h
      refine rw_iald X hK hR kf_12 hg_13 dX5_findsSpots_71 ?_
      refine lv_if_ne (tgt := 101) hx hb dX5_findsSpots_72 (by decide) (fun hc => ?_) (fun hc => ?_)
      · have h := of_neg hc h
        exact w_jp_X5_findsSpots_101 X hK hT hM a0 l1 l2 s9.1 k0 h kb kx0 H locs ls hR hS (lv_sub hl [0, 1, 2, 3] rfl)
      · have h := of_pos hc h
        refine lv_aload_n hx hb dX5_findsSpots_75 rfl (lv_at hl 0 rfl) ?_
        refine lv_dup hx hb dX5_findsSpots_76 rfl ?_
        refine rw_getI X hK hR 6 16 k0 (by decide) (C := RX5) (T := TX5) (N := 24) rfl (by decide) in_X5_findsSpots_6 (by decide +kernel) rfl dX5_findsSpots_77 ?_
        refine lv_iconst (v := (1 : Int32)) hx hb dX5_findsSpots_80 (by decide) ?_
        refine lv_iadd hx hb dX5_findsSpots_81 ?_
        refine rw_putI X hK hT hR hS 6 16 tyX5 k0 (by decide) (C := RX5) (T := TX5) (N := 24) rfl (by decide) in_X5_findsSpots_6 tyX5_ok nmX5 (by decide +kernel) rfl rfl (by decide +kernel) dX5_findsSpots_82 (fun σ_14 H locs e_14 hR hS => ?_)
        have h := of_nm e_14 h
        refine lv_aload_n hx hb dX5_findsSpots_85 rfl (lv_at hl 0 rfl) ?_
        refine rw_getR X hK hT hR 6 14 7 k0 (by decide) (C := RX5) (T := TX5) (N := 24) rfl (by decide) in_X5_findsSpots_6 (by decide +kernel) rfl dX5_findsSpots_86 (fun kf_15 => ?_)
        refine lv_aload_n hx hb dX5_findsSpots_89 rfl (lv_at hl 0 rfl) ?_
        refine rw_getI X hK hR 6 16 k0 (by decide) (C := RX5) (T := TX5) (N := 24) rfl (by decide) in_X5_findsSpots_6 (by decide +kernel) rfl dX5_findsSpots_90 ?_
        refine lv_aload_n hx hb dX5_findsSpots_93 rfl (lv_at hl 0 rfl) ?_
        refine lv_iload_n hx hb dX5_findsSpots_94 rfl (lv_at hl 1 rfl) ?_
        refine lv_iload_n hx hb dX5_findsSpots_95 rfl (lv_at hl 3 rfl) ?_
        refine lv_iload_n hx hb dX5_findsSpots_96 rfl (lv_at hl 2 rfl) ?_
        obtain ⟨q_16, hq_16, h⟩ := of_bind h
        refine cl_i (rn_V (As := [.int l1, .int s9.1, .int l2]) (rest := [.int (σ_14.1 a0 16), .ref (rfA Λ a0 14)]) X hK hR k0 rfl (by decide) hl.1 (c_X5_spreads l cA D Λ hT σ_14 a0 l1 s9.1 l2 k0 hq_16) (cwV 3 hts gX5_findsSpots_X5_spreads rfl rfl rfl (by decide +kernel) ⟨Nat.le_trans (by decide) hM.1, Nat.le_trans (by decide) hM.2⟩) rfl rfl (Nat.le_of_ble_eq_true rfl) dX5_findsSpots_97) hS (fun H locs hR hS => ?_)
        obtain ⟨hg_17, h⟩ := of_guard h
        refine rw_iast X hK hT hR hS kf_15 hg_17 dX5_findsSpots_100 (fun σ_17 H locs e_17 hR hS => ?_)
        have h := of_nm e_17 h
        exact w_jp_X5_findsSpots_101 X hK hT hM a0 l1 l2 s9.1 k0 h kb kx0 H locs ls hR hS (lv_sub hl [0, 1, 2, 3] rfl)

set_option maxHeartbeats 4000000 in
set_option maxRecDepth 100000 in
theorem w_lp_X5_findsSpots_41 (X : Cx cX5_findsSpots none 4 RX5 wsX5_findsSpots p s m args meth c) (hK : Kn cA D s) (hT : TL Λ) (hM : 4 ≤ R.frames ∧ 99 ≤ R.locals) (a0 : Nat) (l1 : Int32) (l2 : Int32) (k0 : isK Λ a0 6) {e9 : Sto} : ∀ (n9 : Nat) (s9 : (Int32 × Sto)), iter (bd_X5_findsSpots_41 Λ a0 l1 l2) n9 s9 = some e9 → ∀ (kx0 : ∀ (H : Heap) (locs : List Loc) (ls : Array Slot), Rep cA D Λ e9 H → va_S (dm Λ) s.heap H locs → lv_has ls 4 [(0, .ref a0), (1, .int l1), (2, .int l2)] → W p l e R s m args below meth c H locs 0 0 Q (F0 m 107 ls [])), ∀ (H : Heap) (locs : List Loc) (ls : Array Slot), Rep cA D Λ s9.2 H → va_S (dm Λ) s.heap H locs → lv_has ls 4 [(0, .ref a0), (1, .int l1), (2, .int l2), (3, .int s9.1)] → W p l e R s m args below meth c H locs 0 0 Q (F0 m 41 ls []) := by
  intro n9
  induction n9 with
  | zero => intro s9 h; cases h
  | succ n9 ih =>
    intro s9 h kx0 H locs ls hR hS hl
    obtain ⟨r, hr, h⟩ := of_iter h
    refine w_bd_X5_findsSpots_41 X hK hT hM a0 l1 l2 s9 k0 hr (fun z ez H locs ls hR hS hl => ?_) (fun z ez H locs ls hR hS hl => ?_) H locs ls hR hS hl
    · exact ih z (of_itl ez h) kx0 H locs ls hR hS hl
    · have he := of_itr ez h; subst he; exact kx0 H locs ls hR hS hl

set_option maxHeartbeats 4000000 in
set_option maxRecDepth 100000 in
theorem w_bd_X5_findsSpots_29 (X : Cx cX5_findsSpots none 4 RX5 wsX5_findsSpots p s m args meth c) (hK : Kn cA D s) (hT : TL Λ) (hM : 4 ≤ R.frames ∧ 99 ≤ R.locals) (a0 : Nat) (l1 : Int32) (s9 : (Int32 × Sto)) (k0 : isK Λ a0 6) {r : (Int32 × Sto) ⊕ Sto} (h : bd_X5_findsSpots_29 Λ a0 l1 s9 = some r) (kb : ∀ z : (Int32 × Sto), r = .inl z → ∀ (H : Heap) (locs : List Loc) (ls : Array Slot), Rep cA D Λ z.2 H → va_S (dm Λ) s.heap H locs → lv_has ls 4 [(0, .ref a0), (1, .int l1), (2, .int z.1)] → W p l e R s m args below meth c H locs 0 0 Q (F0 m 29 ls [])) (kx0 : ∀ z : Sto, r = .inr z → ∀ (H : Heap) (locs : List Loc) (ls : Array Slot), Rep cA D Λ z H → va_S (dm Λ) s.heap H locs → lv_has ls 4 [] → W p l e R s m args below meth c H locs 0 0 Q (F0 m 113 ls [])) (H : Heap) (locs : List Loc) (ls : Array Slot) (hR : Rep cA D Λ s9.2 H) (hS : va_S (dm Λ) s.heap H locs) (hl : lv_has ls 4 [(0, .ref a0), (1, .int l1), (2, .int s9.1)]) : W p l e R s m args below meth c H locs 0 0 Q (F0 m 29 ls []) := by
  have hx := X.1
  have hb := X.2.1
  have hown := X.2.2.2.2.1
  have hts := X.2.2.2.2.2.1
  unfold bd_X5_findsSpots_29 at h
  refine lv_iload_n hx hb dX5_findsSpots_29 rfl (lv_at hl 2 rfl) ?_
  refine lv_aload_n hx hb dX5_findsSpots_30 rfl (lv_at hl 0 rfl) ?_
  refine rw_getR X hK hT hR 6 3 7 k0 (by decide) (C := RX5) (T := TX5) (N := 24) rfl (by decide) in_X5_findsSpots_6 (by decide +kernel) rfl dX5_findsSpots_31 (fun kf_6 => ?_)
  refine lv_iload_n hx hb dX5_findsSpots_34 rfl (lv_at hl 1 rfl) ?_
  obtain ⟨hg_7, h⟩ := of_guard h
  refine rw_iald X hK hR kf_6 hg_7 dX5_findsSpots_35 ?_
  refine lv_icmp_ge (tgt := 113) hx hb dX5_findsSpots_36 (by decide) (fun hc => ?_) (fun hc => ?_)
  · have h := of_pos hc h
    exact kx0 s9.2 (Option.some.inj h).symm H locs ls hR hS (lv_sub hl [] rfl)
  · have h := of_neg hc h
    refine lv_iconst (v := (0 : Int32)) hx hb dX5_findsSpots_39 (by decide) ?_
    refine lv_istore_n (lv' := [(3, .int (0 : Int32)), (0, .ref a0), (1, .int l1), (2, .int s9.1)]) hx hb dX5_findsSpots_40 rfl hl (by decide) rfl (fun ls hl => ?_)
    obtain ⟨e_18, hq_18, h⟩ := of_bind h
    refine w_lp_X5_findsSpots_41 X hK hT hM a0 l1 s9.1 k0 _ ((0 : Int32), s9.2) hq_18 (fun H locs ls hR hS hl => ?_) H locs ls hR hS (lv_sub hl [1, 2, 3, 0] rfl)
    obtain ⟨v_19, e_v_19⟩ : ∃ y : Int32, y = (s9.1 + (1 : Int32)) := ⟨_, rfl⟩
    have h := of_nm e_v_19 h
    refine lv_iinc (v := v_19) (lv' := [(2, .int v_19), (0, .ref a0), (1, .int l1)]) hx hb dX5_findsSpots_107 hl (k := 2) rfl (by rw [e_v_19]; rfl) (by decide) rfl (fun ls hl => ?_)
    refine lv_goto (tgt := 29) hx hb dX5_findsSpots_110 (by decide) ?_
    exact kb (v_19, e_18) (Option.some.inj h).symm H locs ls hR hS (lv_sub hl [1, 2, 0] rfl)

set_option maxHeartbeats 4000000 in
set_option maxRecDepth 100000 in
theorem w_lp_X5_findsSpots_29 (X : Cx cX5_findsSpots none 4 RX5 wsX5_findsSpots p s m args meth c) (hK : Kn cA D s) (hT : TL Λ) (hM : 4 ≤ R.frames ∧ 99 ≤ R.locals) (a0 : Nat) (l1 : Int32) (k0 : isK Λ a0 6) {e9 : Sto} : ∀ (n9 : Nat) (s9 : (Int32 × Sto)), iter (bd_X5_findsSpots_29 Λ a0 l1) n9 s9 = some e9 → ∀ (kx0 : ∀ (H : Heap) (locs : List Loc) (ls : Array Slot), Rep cA D Λ e9 H → va_S (dm Λ) s.heap H locs → lv_has ls 4 [] → W p l e R s m args below meth c H locs 0 0 Q (F0 m 113 ls [])), ∀ (H : Heap) (locs : List Loc) (ls : Array Slot), Rep cA D Λ s9.2 H → va_S (dm Λ) s.heap H locs → lv_has ls 4 [(0, .ref a0), (1, .int l1), (2, .int s9.1)] → W p l e R s m args below meth c H locs 0 0 Q (F0 m 29 ls []) := by
  intro n9
  induction n9 with
  | zero => intro s9 h; cases h
  | succ n9 ih =>
    intro s9 h kx0 H locs ls hR hS hl
    obtain ⟨r, hr, h⟩ := of_iter h
    refine w_bd_X5_findsSpots_29 X hK hT hM a0 l1 s9 k0 hr (fun z ez H locs ls hR hS hl => ?_) (fun z ez H locs ls hR hS hl => ?_) H locs ls hR hS hl
    · exact ih z (of_itl ez h) kx0 H locs ls hR hS hl
    · have he := of_itr ez h; subst he; exact kx0 H locs ls hR hS hl

set_option maxHeartbeats 4000000 in
set_option maxRecDepth 100000 in
theorem w_X5_findsSpots (X : Cx cX5_findsSpots none 4 RX5 wsX5_findsSpots p s m args meth c) (hK : Kn cA D s) (hT : TL Λ) (hM : 4 ≤ R.frames ∧ 99 ≤ R.locals) (a0 : Nat) (l1 : Int32) (k0 : isK Λ a0 6) {res : Sto} (h : F_X5_findsSpots Λ σ a0 l1 = some res) (H : Heap) (locs : List Loc) (ls : Array Slot) (hR : Rep cA D Λ σ H) (hS : va_S (dm Λ) s.heap H locs) (hl : lv_has ls 4 [(0, .ref a0), (1, .int l1)]) : W p l e R s m args below meth c H locs 0 0 (MQ below (QV cA D Λ res) args s 0 0 (dm Λ)) (F0 m 0 ls []) := by
  have hx := X.1
  have hb := X.2.1
  have hown := X.2.2.2.2.1
  have hts := X.2.2.2.2.2.1
  unfold F_X5_findsSpots at h
  refine lv_aload_n hx hb dX5_findsSpots_0 rfl (lv_at hl 0 rfl) ?_
  refine lv_iconst (v := (0 : Int32)) hx hb dX5_findsSpots_1 (by decide) ?_
  refine rw_putI X hK hT hR hS 6 16 tyX5 k0 (by decide) (C := RX5) (T := TX5) (N := 24) rfl (by decide) in_X5_findsSpots_6 tyX5_ok nmX5 (by decide +kernel) rfl rfl (by decide +kernel) dX5_findsSpots_2 (fun σ_1 H locs e_1 hR hS => ?_)
  have h := of_nm e_1 h
  refine lv_iconst (v := (0 : Int32)) hx hb dX5_findsSpots_5 (by decide) ?_
  refine lv_istore_n (lv' := [(2, .int (0 : Int32)), (0, .ref a0), (1, .int l1)]) hx hb dX5_findsSpots_6 rfl hl (by decide) rfl (fun ls hl => ?_)
  obtain ⟨e_5, hq_5, h⟩ := of_bind h
  refine w_lp_X5_findsSpots_7 X hK hT hM a0 l1 k0 _ ((0 : Int32), σ_1) hq_5 (fun H locs ls hR hS hl => ?_) H locs ls hR hS (lv_sub hl [1, 2, 0] rfl)
  refine lv_iconst (v := (0 : Int32)) hx hb dX5_findsSpots_27 (by decide) ?_
  refine lv_istore_n (lv' := [(2, .int (0 : Int32)), (0, .ref a0), (1, .int l1)]) hx hb dX5_findsSpots_28 rfl hl (by decide) rfl (fun ls hl => ?_)
  obtain ⟨e_20, hq_20, h⟩ := of_bind h
  refine w_lp_X5_findsSpots_29 X hK hT hM a0 l1 k0 _ ((0 : Int32), e_5) hq_20 (fun H locs ls hR hS hl => ?_) H locs ls hR hS (lv_sub hl [1, 2, 0] rfl)
  exact rt_v X hR hS (Option.some.inj h) dX5_findsSpots_113

set_option maxHeartbeats 4000000 in
set_option maxRecDepth 100000 in
theorem c_X5_findsSpots (l : Launch) (cA : Nat → ClassId) (D : va_G) (Λ : Lay) (hT : TL Λ) (σ : Sto) (a0 : Nat) (l1 : Int32) (k0 : isK Λ a0 6) {res : Sto} (h : F_X5_findsSpots Λ σ a0 l1 = some res) : Met l yX5_findsSpots wsX5_findsSpots { frames := 4, cells := 0, slots := 0, locals := 99 } (va_Pc [.ref a0, .int l1] (PW cA D Λ σ)) (QV cA D Λ res) 0 0 (dm Λ) := by
  refine Met.ofW (cc := cX5_findsSpots) (maxL := 4) (ret := none) (by decide) rfl ?_
  intro p e s m args below meth c s₁ B hml hv
  obtain ⟨rfl, hR, hK⟩ := hv
  have X : Cx cX5_findsSpots none 4 RX5 wsX5_findsSpots p s m _ meth c := ⟨B.exec, B.bytes, B.returns, hml, findClass_of_methodNamed B.named, atoms_spec (ws := wsX5_findsSpots) B.pre, B.notSynchronized⟩
  have hS : va_S (dm Λ) s.heap s.heap [] := va_S.rf
  have hl := lv_entry ([.ref a0, .int l1]) (n := 4) (Nat.le_of_ble_eq_true rfl)
  rw [lg_entry_eq]
  generalize (lg_sl ([.ref a0, .int l1]) ++ List.replicate (4 - (lg_sl ([.ref a0, .int l1])).length) Slot.unset).toArray = ls at hl ⊢
  have hl : lv_has ls 4 [(0, .ref a0), (1, .int l1)] := hl
  exact w_X5_findsSpots X hK hT ⟨Nat.le_refl _, Nat.le_refl _⟩ a0 l1 k0 h s.heap [] ls hR hS hl
theorem in_X5_of_6 : ∀ w ∈ u_ws RX5 TX5 24, w ∈ wsX5_of := by decide +kernel
set_option maxHeartbeats 4000000 in
set_option maxRecDepth 100000 in
theorem w_jp_X5_of_76 (X : Cx cX5_of (some .int) 8 RX5 wsX5_of p s m args meth c) (hK : Kn cA D s) (hT : TL Λ) (hM : 5 ≤ R.frames ∧ 122 ≤ R.locals) (a0 : Nat) (l1 : Int32) (l2 : Int32) (l3 : Int32) (l5 : Int32) (l6 : Int32) (ls0 : Int32) (ls1 : Int32) (k0 : isK Λ a0 6) {r : (Int32 × Int32 × Int32) ⊕ (Int32 × Int32)} (h : jp_X5_of_76 Λ σ a0 l1 l2 l3 l5 l6 ls0 ls1 = some r) (kb : ∀ z : (Int32 × Int32 × Int32), r = .inl z → ∀ (H : Heap) (locs : List Loc) (ls : Array Slot), Rep cA D Λ σ H → va_S (dm Λ) s.heap H locs → lv_has ls 8 [(0, .ref a0), (1, .int l1), (2, .int l2), (3, .int z.1), (4, .int z.2.1), (5, .int l5), (6, .int z.2.2)] → W p l e R s m args below meth c H locs 0 0 Q (F0 m 38 ls [])) (kx0 : ∀ z : (Int32 × Int32), r = .inr z → ∀ (H : Heap) (locs : List Loc) (ls : Array Slot), Rep cA D Λ σ H → va_S (dm Λ) s.heap H locs → lv_has ls 8 [(0, .ref a0), (1, .int l1), (2, .int l2), (3, .int z.1), (4, .int z.2), (5, .int l5)] → W p l e R s m args below meth c H locs 0 0 Q (F0 m 85 ls [])) (H : Heap) (locs : List Loc) (ls : Array Slot) (hR : Rep cA D Λ σ H) (hS : va_S (dm Λ) s.heap H locs) (hl : lv_has ls 8 [(0, .ref a0), (1, .int l1), (2, .int l2), (3, .int l3), (5, .int l5), (6, .int l6)]) : W p l e R s m args below meth c H locs 0 0 Q (F0 m 76 ls [.int ls0, .int ls1]) := by
  have hx := X.1
  have hb := X.2.1
  have hown := X.2.2.2.2.1
  have hts := X.2.2.2.2.2.1
  unfold jp_X5_of_76 at h
  refine lv_iadd hx hb dX5_of_76 ?_
  refine lv_topi (fun v_9 e_v_9 => ?_)
  have h := of_nm e_v_9 h
  refine lv_istore (lv' := [(4, .int v_9), (0, .ref a0), (1, .int l1), (2, .int l2), (3, .int l3), (5, .int l5), (6, .int l6)]) hx hb dX5_of_77 hl (by decide) rfl (fun ls hl => ?_)
  obtain ⟨v_10, e_v_10⟩ : ∃ y : Int32, y = (l6 + (1 : Int32)) := ⟨_, rfl⟩
  have h := of_nm e_v_10 h
  refine lv_iinc (v := v_10) (lv' := [(6, .int v_10), (4, .int v_9), (0, .ref a0), (1, .int l1), (2, .int l2), (3, .int l3), (5, .int l5)]) hx hb dX5_of_79 hl (k := 6) rfl (by rw [e_v_10]; rfl) (by decide) rfl (fun ls hl => ?_)
  refine lv_goto (tgt := 38) hx hb dX5_of_82 (by decide) ?_
  exact kb (l3, v_9, v_10) (Option.some.inj h).symm H locs ls hR hS (lv_sub hl [2, 3, 4, 5, 1, 6, 0] rfl)

set_option maxHeartbeats 4000000 in
set_option maxRecDepth 100000 in
theorem w_bd_X5_of_38 (X : Cx cX5_of (some .int) 8 RX5 wsX5_of p s m args meth c) (hK : Kn cA D s) (hT : TL Λ) (hM : 5 ≤ R.frames ∧ 122 ≤ R.locals) (a0 : Nat) (l1 : Int32) (l2 : Int32) (l5 : Int32) (s9 : (Int32 × Int32 × Int32)) (k0 : isK Λ a0 6) {r : (Int32 × Int32 × Int32) ⊕ (Int32 × Int32)} (h : bd_X5_of_38 Λ σ a0 l1 l2 l5 s9 = some r) (kb : ∀ z : (Int32 × Int32 × Int32), r = .inl z → ∀ (H : Heap) (locs : List Loc) (ls : Array Slot), Rep cA D Λ σ H → va_S (dm Λ) s.heap H locs → lv_has ls 8 [(0, .ref a0), (1, .int l1), (2, .int l2), (3, .int z.1), (4, .int z.2.1), (5, .int l5), (6, .int z.2.2)] → W p l e R s m args below meth c H locs 0 0 Q (F0 m 38 ls [])) (kx0 : ∀ z : (Int32 × Int32), r = .inr z → ∀ (H : Heap) (locs : List Loc) (ls : Array Slot), Rep cA D Λ σ H → va_S (dm Λ) s.heap H locs → lv_has ls 8 [(0, .ref a0), (1, .int l1), (2, .int l2), (3, .int z.1), (4, .int z.2), (5, .int l5)] → W p l e R s m args below meth c H locs 0 0 Q (F0 m 85 ls [])) (H : Heap) (locs : List Loc) (ls : Array Slot) (hR : Rep cA D Λ σ H) (hS : va_S (dm Λ) s.heap H locs) (hl : lv_has ls 8 [(0, .ref a0), (1, .int l1), (2, .int l2), (3, .int s9.1), (4, .int s9.2.1), (5, .int l5), (6, .int s9.2.2)]) : W p l e R s m args below meth c H locs 0 0 Q (F0 m 38 ls []) := by
  have hx := X.1
  have hb := X.2.1
  have hown := X.2.2.2.2.1
  have hts := X.2.2.2.2.2.1
  unfold bd_X5_of_38 at h
  refine lv_iload hx hb dX5_of_38 (lv_at hl 6 rfl) ?_
  refine lv_aload_n hx hb dX5_of_40 rfl (lv_at hl 0 rfl) ?_
  refine rw_getR X hK hT hR 6 3 7 k0 (by decide) (C := RX5) (T := TX5) (N := 24) rfl (by decide) in_X5_of_6 (by decide +kernel) rfl dX5_of_41 (fun kf_4 => ?_)
  refine lv_iload_n hx hb dX5_of_44 rfl (lv_at hl 1 rfl) ?_
  obtain ⟨hg_5, h⟩ := of_guard h
  refine rw_iald X hK hR kf_4 hg_5 dX5_of_45 ?_
  refine lv_icmp_ge (tgt := 85) hx hb dX5_of_46 (by decide) (fun hc => ?_) (fun hc => ?_)
  · have h := of_pos hc h
    exact kx0 (s9.1, s9.2.1) (Option.some.inj h).symm H locs ls hR hS (lv_sub hl [0, 1, 2, 3, 4, 5] rfl)
  · have h := of_neg hc h
    refine lv_iload_n hx hb dX5_of_49 rfl (lv_at hl 3 rfl) ?_
    refine lv_aload_n hx hb dX5_of_50 rfl (lv_at hl 0 rfl) ?_
    refine lv_iload_n hx hb dX5_of_51 rfl (lv_at hl 1 rfl) ?_
    refine lv_iload hx hb dX5_of_52 (lv_at hl 6 rfl) ?_
    obtain ⟨q_6, hq_6, h⟩ := of_bind h
    refine cl_i (rn_V (As := [.int l1, .int s9.2.2]) (rest := [.int s9.1]) X hK hR k0 rfl (by decide) hl.1 (c_X5_rowInk l cA D Λ hT σ a0 l1 s9.2.2 k0 hq_6) (cwV 2 hts gX5_of_X5_rowInk rfl rfl rfl (by decide +kernel) ⟨Nat.le_trans (by decide) hM.1, Nat.le_trans (by decide) hM.2⟩) rfl rfl (Nat.le_of_ble_eq_true rfl) dX5_of_54) hS (fun H locs hR hS => ?_)
    refine lv_iadd hx hb dX5_of_57 ?_
    refine lv_topi (fun v_7 e_v_7 => ?_)
    have h := of_nm e_v_7 h
    refine lv_istore_n (lv' := [(3, .int v_7), (0, .ref a0), (1, .int l1), (2, .int l2), (4, .int s9.2.1), (5, .int l5), (6, .int s9.2.2)]) hx hb dX5_of_58 rfl hl (by decide) rfl (fun ls hl => ?_)
    refine lv_iload hx hb dX5_of_59 (lv_at hl 4 rfl) ?_
    refine lv_aload_n hx hb dX5_of_61 rfl (lv_at hl 1 rfl) ?_
    refine lv_iload_n hx hb dX5_of_62 rfl (lv_at hl 2 rfl) ?_
    refine lv_iload hx hb dX5_of_63 (lv_at hl 6 rfl) ?_
    obtain ⟨q_8, hq_8, h⟩ := of_bind h
    refine cl_i (rn_V (As := [.int l1, .int s9.2.2]) (rest := [.int s9.2.1]) X hK hR k0 rfl (by decide) hl.1 (c_X5_rowInk l cA D Λ hT σ a0 l1 s9.2.2 k0 hq_8) (cwV 2 hts gX5_of_X5_rowInk rfl rfl rfl (by decide +kernel) ⟨Nat.le_trans (by decide) hM.1, Nat.le_trans (by decide) hM.2⟩) rfl rfl (Nat.le_of_ble_eq_true rfl) dX5_of_65) hS (fun H locs hR hS => ?_)
    refine lv_if_le (tgt := 75) hx hb dX5_of_68 (by decide) (fun hc => ?_) (fun hc => ?_)
    · have h := of_pos hc h
      refine lv_iconst (v := (0 : Int32)) hx hb dX5_of_75 (by decide) ?_
      exact w_jp_X5_of_76 X hK hT hM a0 l1 l2 v_7 l5 s9.2.2 (0 : Int32) s9.2.1 k0 h kb kx0 H locs ls hR hS (lv_sub hl [1, 2, 3, 0, 5, 6] rfl)
    · have h := of_neg hc h
      refine lv_iconst (v := (1 : Int32)) hx hb dX5_of_71 (by decide) ?_
      refine lv_goto (tgt := 76) hx hb dX5_of_72 (by decide) ?_
      exact w_jp_X5_of_76 X hK hT hM a0 l1 l2 v_7 l5 s9.2.2 (1 : Int32) s9.2.1 k0 h kb kx0 H locs ls hR hS (lv_sub hl [1, 2, 3, 0, 5, 6] rfl)

set_option maxHeartbeats 4000000 in
set_option maxRecDepth 100000 in
theorem w_lp_X5_of_38 (X : Cx cX5_of (some .int) 8 RX5 wsX5_of p s m args meth c) (hK : Kn cA D s) (hT : TL Λ) (hM : 5 ≤ R.frames ∧ 122 ≤ R.locals) (a0 : Nat) (l1 : Int32) (l2 : Int32) (l5 : Int32) (k0 : isK Λ a0 6) {e9 : (Int32 × Int32)} : ∀ (n9 : Nat) (s9 : (Int32 × Int32 × Int32)), iter (bd_X5_of_38 Λ σ a0 l1 l2 l5) n9 s9 = some e9 → ∀ (kx0 : ∀ (H : Heap) (locs : List Loc) (ls : Array Slot), Rep cA D Λ σ H → va_S (dm Λ) s.heap H locs → lv_has ls 8 [(0, .ref a0), (1, .int l1), (2, .int l2), (3, .int e9.1), (4, .int e9.2), (5, .int l5)] → W p l e R s m args below meth c H locs 0 0 Q (F0 m 85 ls [])), ∀ (H : Heap) (locs : List Loc) (ls : Array Slot), Rep cA D Λ σ H → va_S (dm Λ) s.heap H locs → lv_has ls 8 [(0, .ref a0), (1, .int l1), (2, .int l2), (3, .int s9.1), (4, .int s9.2.1), (5, .int l5), (6, .int s9.2.2)] → W p l e R s m args below meth c H locs 0 0 Q (F0 m 38 ls []) := by
  intro n9
  induction n9 with
  | zero => intro s9 h; cases h
  | succ n9 ih =>
    intro s9 h kx0 H locs ls hR hS hl
    obtain ⟨r, hr, h⟩ := of_iter h
    refine w_bd_X5_of_38 X hK hT hM a0 l1 l2 l5 s9 k0 hr (fun z ez H locs ls hR hS hl => ?_) (fun z ez H locs ls hR hS hl => ?_) H locs ls hR hS hl
    · exact ih z (of_itl ez h) kx0 H locs ls hR hS hl
    · have he := of_itr ez h; subst he; exact kx0 H locs ls hR hS hl

set_option maxHeartbeats 4000000 in
set_option maxRecDepth 100000 in
theorem w_jp_X5_of_116 (X : Cx cX5_of (some .int) 8 RX5 wsX5_of p s m args meth c) (hK : Kn cA D s) (hT : TL Λ) (hM : 5 ≤ R.frames ∧ 122 ≤ R.locals) (a0 : Nat) (l1 : Int32) (l2 : Int32) (l3 : Int32) (l4 : Int32) (l6 : Int32) (ls0 : Int32) (ls1 : Int32) (k0 : isK Λ a0 6) {r : (Int32 × Int32) ⊕ Int32} (h : jp_X5_of_116 Λ σ a0 l1 l2 l3 l4 l6 ls0 ls1 = some r) (kb : ∀ z : (Int32 × Int32), r = .inl z → ∀ (H : Heap) (locs : List Loc) (ls : Array Slot), Rep cA D Λ σ H → va_S (dm Λ) s.heap H locs → lv_has ls 8 [(0, .ref a0), (1, .int l1), (2, .int l2), (3, .int l3), (4, .int l4), (5, .int z.1), (6, .int z.2)] → W p l e R s m args below meth c H locs 0 0 Q (F0 m 88 ls [])) (kx0 : ∀ z : Int32, r = .inr z → ∀ (H : Heap) (locs : List Loc) (ls : Array Slot), Rep cA D Λ σ H → va_S (dm Λ) s.heap H locs → lv_has ls 8 [(0, .ref a0), (1, .int l1), (2, .int l2), (3, .int l3), (4, .int l4), (5, .int z)] → W p l e R s m args below meth c H locs 0 0 Q (F0 m 125 ls [])) (H : Heap) (locs : List Loc) (ls : Array Slot) (hR : Rep cA D Λ σ H) (hS : va_S (dm Λ) s.heap H locs) (hl : lv_has ls 8 [(0, .ref a0), (1, .int l1), (2, .int l2), (3, .int l3), (4, .int l4), (6, .int l6)]) : W p l e R s m args below meth c H locs 0 0 Q (F0 m 116 ls [.int ls0, .int ls1]) := by
  have hx := X.1
  have hb := X.2.1
  have hown := X.2.2.2.2.1
  have hts := X.2.2.2.2.2.1
  unfold jp_X5_of_116 at h
  refine lv_iadd hx hb dX5_of_116 ?_
  refine lv_topi (fun v_15 e_v_15 => ?_)
  have h := of_nm e_v_15 h
  refine lv_istore (lv' := [(5, .int v_15), (0, .ref a0), (1, .int l1), (2, .int l2), (3, .int l3), (4, .int l4), (6, .int l6)]) hx hb dX5_of_117 hl (by decide) rfl (fun ls hl => ?_)
  obtain ⟨v_16, e_v_16⟩ : ∃ y : Int32, y = (l6 + (1 : Int32)) := ⟨_, rfl⟩
  have h := of_nm e_v_16 h
  refine lv_iinc (v := v_16) (lv' := [(6, .int v_16), (5, .int v_15), (0, .ref a0), (1, .int l1), (2, .int l2), (3, .int l3), (4, .int l4)]) hx hb dX5_of_119 hl (k := 6) rfl (by rw [e_v_16]; rfl) (by decide) rfl (fun ls hl => ?_)
  refine lv_goto (tgt := 88) hx hb dX5_of_122 (by decide) ?_
  exact kb (v_15, v_16) (Option.some.inj h).symm H locs ls hR hS (lv_sub hl [2, 3, 4, 5, 6, 1, 0] rfl)

set_option maxHeartbeats 4000000 in
set_option maxRecDepth 100000 in
theorem w_bd_X5_of_88 (X : Cx cX5_of (some .int) 8 RX5 wsX5_of p s m args meth c) (hK : Kn cA D s) (hT : TL Λ) (hM : 5 ≤ R.frames ∧ 122 ≤ R.locals) (a0 : Nat) (l1 : Int32) (l2 : Int32) (l3 : Int32) (l4 : Int32) (s9 : (Int32 × Int32)) (k0 : isK Λ a0 6) {r : (Int32 × Int32) ⊕ Int32} (h : bd_X5_of_88 Λ σ a0 l1 l2 l3 l4 s9 = some r) (kb : ∀ z : (Int32 × Int32), r = .inl z → ∀ (H : Heap) (locs : List Loc) (ls : Array Slot), Rep cA D Λ σ H → va_S (dm Λ) s.heap H locs → lv_has ls 8 [(0, .ref a0), (1, .int l1), (2, .int l2), (3, .int l3), (4, .int l4), (5, .int z.1), (6, .int z.2)] → W p l e R s m args below meth c H locs 0 0 Q (F0 m 88 ls [])) (kx0 : ∀ z : Int32, r = .inr z → ∀ (H : Heap) (locs : List Loc) (ls : Array Slot), Rep cA D Λ σ H → va_S (dm Λ) s.heap H locs → lv_has ls 8 [(0, .ref a0), (1, .int l1), (2, .int l2), (3, .int l3), (4, .int l4), (5, .int z)] → W p l e R s m args below meth c H locs 0 0 Q (F0 m 125 ls [])) (H : Heap) (locs : List Loc) (ls : Array Slot) (hR : Rep cA D Λ σ H) (hS : va_S (dm Λ) s.heap H locs) (hl : lv_has ls 8 [(0, .ref a0), (1, .int l1), (2, .int l2), (3, .int l3), (4, .int l4), (5, .int s9.1), (6, .int s9.2)]) : W p l e R s m args below meth c H locs 0 0 Q (F0 m 88 ls []) := by
  have hx := X.1
  have hb := X.2.1
  have hown := X.2.2.2.2.1
  have hts := X.2.2.2.2.2.1
  unfold bd_X5_of_88 at h
  refine lv_iload hx hb dX5_of_88 (lv_at hl 6 rfl) ?_
  refine lv_aload_n hx hb dX5_of_90 rfl (lv_at hl 0 rfl) ?_
  refine rw_getR X hK hT hR 6 2 7 k0 (by decide) (C := RX5) (T := TX5) (N := 24) rfl (by decide) in_X5_of_6 (by decide +kernel) rfl dX5_of_91 (fun kf_12 => ?_)
  refine lv_iload_n hx hb dX5_of_94 rfl (lv_at hl 1 rfl) ?_
  obtain ⟨hg_13, h⟩ := of_guard h
  refine rw_iald X hK hR kf_12 hg_13 dX5_of_95 ?_
  refine lv_icmp_ge (tgt := 125) hx hb dX5_of_96 (by decide) (fun hc => ?_) (fun hc => ?_)
  · have h := of_pos hc h
    exact kx0 s9.1 (Option.some.inj h).symm H locs ls hR hS (lv_sub hl [0, 1, 2, 3, 4, 5] rfl)
  · have h := of_neg hc h
    refine lv_iload hx hb dX5_of_99 (lv_at hl 5 rfl) ?_
    refine lv_aload_n hx hb dX5_of_101 rfl (lv_at hl 0 rfl) ?_
    refine lv_iload_n hx hb dX5_of_102 rfl (lv_at hl 1 rfl) ?_
    refine lv_iload hx hb dX5_of_103 (lv_at hl 6 rfl) ?_
    obtain ⟨q_14, hq_14, h⟩ := of_bind h
    refine cl_i (rn_V (As := [.int l1, .int s9.2]) (rest := [.int s9.1]) X hK hR k0 rfl (by decide) hl.1 (c_X5_columnInk l cA D Λ hT σ a0 l1 s9.2 k0 hq_14) (cwV 2 hts gX5_of_X5_columnInk rfl rfl rfl (by decide +kernel) ⟨Nat.le_trans (by decide) hM.1, Nat.le_trans (by decide) hM.2⟩) rfl rfl (Nat.le_of_ble_eq_true rfl) dX5_of_105) hS (fun H locs hR hS => ?_)
    refine lv_if_le (tgt := 115) hx hb dX5_of_108 (by decide) (fun hc => ?_) (fun hc => ?_)
    · have h := of_pos hc h
      refine lv_iconst (v := (0 : Int32)) hx hb dX5_of_115 (by decide) ?_
      exact w_jp_X5_of_116 X hK hT hM a0 l1 l2 l3 l4 s9.2 (0 : Int32) s9.1 k0 h kb kx0 H locs ls hR hS (lv_sub hl [0, 1, 2, 3, 4, 6] rfl)
    · have h := of_neg hc h
      refine lv_iconst (v := (1 : Int32)) hx hb dX5_of_111 (by decide) ?_
      refine lv_goto (tgt := 116) hx hb dX5_of_112 (by decide) ?_
      exact w_jp_X5_of_116 X hK hT hM a0 l1 l2 l3 l4 s9.2 (1 : Int32) s9.1 k0 h kb kx0 H locs ls hR hS (lv_sub hl [0, 1, 2, 3, 4, 6] rfl)

set_option maxHeartbeats 4000000 in
set_option maxRecDepth 100000 in
theorem w_lp_X5_of_88 (X : Cx cX5_of (some .int) 8 RX5 wsX5_of p s m args meth c) (hK : Kn cA D s) (hT : TL Λ) (hM : 5 ≤ R.frames ∧ 122 ≤ R.locals) (a0 : Nat) (l1 : Int32) (l2 : Int32) (l3 : Int32) (l4 : Int32) (k0 : isK Λ a0 6) {e9 : Int32} : ∀ (n9 : Nat) (s9 : (Int32 × Int32)), iter (bd_X5_of_88 Λ σ a0 l1 l2 l3 l4) n9 s9 = some e9 → ∀ (kx0 : ∀ (H : Heap) (locs : List Loc) (ls : Array Slot), Rep cA D Λ σ H → va_S (dm Λ) s.heap H locs → lv_has ls 8 [(0, .ref a0), (1, .int l1), (2, .int l2), (3, .int l3), (4, .int l4), (5, .int e9)] → W p l e R s m args below meth c H locs 0 0 Q (F0 m 125 ls [])), ∀ (H : Heap) (locs : List Loc) (ls : Array Slot), Rep cA D Λ σ H → va_S (dm Λ) s.heap H locs → lv_has ls 8 [(0, .ref a0), (1, .int l1), (2, .int l2), (3, .int l3), (4, .int l4), (5, .int s9.1), (6, .int s9.2)] → W p l e R s m args below meth c H locs 0 0 Q (F0 m 88 ls []) := by
  intro n9
  induction n9 with
  | zero => intro s9 h; cases h
  | succ n9 ih =>
    intro s9 h kx0 H locs ls hR hS hl
    obtain ⟨r, hr, h⟩ := of_iter h
    refine w_bd_X5_of_88 X hK hT hM a0 l1 l2 l3 l4 s9 k0 hr (fun z ez H locs ls hR hS hl => ?_) (fun z ez H locs ls hR hS hl => ?_) H locs ls hR hS hl
    · exact ih z (of_itl ez h) kx0 H locs ls hR hS hl
    · have he := of_itr ez h; subst he; exact kx0 H locs ls hR hS hl

set_option maxHeartbeats 4000000 in
set_option maxRecDepth 100000 in
theorem w_bd_X5_of_136 (X : Cx cX5_of (some .int) 8 RX5 wsX5_of p s m args meth c) (hK : Kn cA D s) (hT : TL Λ) (hM : 5 ≤ R.frames ∧ 122 ≤ R.locals) (a0 : Nat) (l1 : Int32) (l2 : Int32) (l3 : Int32) (l4 : Int32) (l5 : Int32) (s9 : (Int32 × Int32)) (k0 : isK Λ a0 6) {r : (Int32 × Int32) ⊕ Int32} (h : bd_X5_of_136 Λ σ a0 l1 l2 l3 l4 l5 s9 = some r) (kb : ∀ z : (Int32 × Int32), r = .inl z → ∀ (H : Heap) (locs : List Loc) (ls : Array Slot), Rep cA D Λ σ H → va_S (dm Λ) s.heap H locs → lv_has ls 8 [(0, .ref a0), (1, .int l1), (2, .int l2), (3, .int l3), (4, .int l4), (5, .int l5), (6, .int z.1), (7, .int z.2)] → W p l e R s m args below meth c H locs 0 0 Q (F0 m 136 ls [])) (kx0 : ∀ z : Int32, r = .inr z → ∀ (H : Heap) (locs : List Loc) (ls : Array Slot), Rep cA D Λ σ H → va_S (dm Λ) s.heap H locs → lv_has ls 8 [(0, .ref a0), (1, .int l1), (2, .int l2), (3, .int l3), (4, .int l4), (5, .int l5), (6, .int z)] → W p l e R s m args below meth c H locs 0 0 Q (F0 m 165 ls [])) (H : Heap) (locs : List Loc) (ls : Array Slot) (hR : Rep cA D Λ σ H) (hS : va_S (dm Λ) s.heap H locs) (hl : lv_has ls 8 [(0, .ref a0), (1, .int l1), (2, .int l2), (3, .int l3), (4, .int l4), (5, .int l5), (6, .int s9.1), (7, .int s9.2)]) : W p l e R s m args below meth c H locs 0 0 Q (F0 m 136 ls []) := by
  have hx := X.1
  have hb := X.2.1
  have hown := X.2.2.2.2.1
  have hts := X.2.2.2.2.2.1
  unfold bd_X5_of_136 at h
  refine lv_iload hx hb dX5_of_136 (lv_at hl 7 rfl) ?_
  refine lv_aload_n hx hb dX5_of_138 rfl (lv_at hl 0 rfl) ?_
  refine rw_getI X hK hR 6 16 k0 (by decide) (C := RX5) (T := TX5) (N := 24) rfl (by decide) in_X5_of_6 (by decide +kernel) rfl dX5_of_139 ?_
  refine lv_icmp_gt (tgt := 165) hx hb dX5_of_142 (by decide) (fun hc => ?_) (fun hc => ?_)
  · have h := of_pos hc h
    exact kx0 s9.1 (Option.some.inj h).symm H locs ls hR hS (lv_sub hl [0, 1, 2, 3, 4, 5, 6] rfl)
  · have h := of_neg hc h
    refine lv_iload hx hb dX5_of_145 (lv_at hl 6 rfl) ?_
    refine lv_aload_n hx hb dX5_of_147 rfl (lv_at hl 0 rfl) ?_
    refine rw_getR X hK hT hR 6 14 7 k0 (by decide) (C := RX5) (T := TX5) (N := 24) rfl (by decide) in_X5_of_6 (by decide +kernel) rfl dX5_of_148 (fun kf_19 => ?_)
    refine lv_iload hx hb dX5_of_151 (lv_at hl 7 rfl) ?_
    obtain ⟨hg_20, h⟩ := of_guard h
    refine rw_iald X hK hR kf_19 hg_20 dX5_of_153 ?_
    refine va_mmax hx hb (X.2.2.2.1.trans hl.1.symm) hown (hts (.methodLink RX5 146 Lib.Math.max.name) (by decide +kernel)) (hts (.static Lib.Math.max.name) (by decide +kernel)) (hts (.initialized "java/lang/Math") (by decide +kernel)) (hts (.code Lib.Math.max.name Lib.Math.max.code 2 (some .int)) (by decide +kernel)) (Nat.le_trans (by decide) hM.1) (Nat.le_trans (Nat.le_of_ble_eq_true rfl) hM.2) (Nat.zero_le _) (Nat.zero_le _) dX5_of_154 ?_
    refine lv_topi (fun r_21 e_21 => ?_)
    have h := of_nm e_21 h
    refine lv_istore (lv' := [(6, .int r_21), (0, .ref a0), (1, .int l1), (2, .int l2), (3, .int l3), (4, .int l4), (5, .int l5), (7, .int s9.2)]) hx hb dX5_of_157 hl (by decide) rfl (fun ls hl => ?_)
    obtain ⟨v_22, e_v_22⟩ : ∃ y : Int32, y = (s9.2 + (1 : Int32)) := ⟨_, rfl⟩
    have h := of_nm e_v_22 h
    refine lv_iinc (v := v_22) (lv' := [(7, .int v_22), (6, .int r_21), (0, .ref a0), (1, .int l1), (2, .int l2), (3, .int l3), (4, .int l4), (5, .int l5)]) hx hb dX5_of_159 hl (k := 7) rfl (by rw [e_v_22]; rfl) (by decide) rfl (fun ls hl => ?_)
    refine lv_goto (tgt := 136) hx hb dX5_of_162 (by decide) ?_
    exact kb (r_21, v_22) (Option.some.inj h).symm H locs ls hR hS (lv_sub hl [2, 3, 4, 5, 6, 7, 1, 0] rfl)

set_option maxHeartbeats 4000000 in
set_option maxRecDepth 100000 in
theorem w_lp_X5_of_136 (X : Cx cX5_of (some .int) 8 RX5 wsX5_of p s m args meth c) (hK : Kn cA D s) (hT : TL Λ) (hM : 5 ≤ R.frames ∧ 122 ≤ R.locals) (a0 : Nat) (l1 : Int32) (l2 : Int32) (l3 : Int32) (l4 : Int32) (l5 : Int32) (k0 : isK Λ a0 6) {e9 : Int32} : ∀ (n9 : Nat) (s9 : (Int32 × Int32)), iter (bd_X5_of_136 Λ σ a0 l1 l2 l3 l4 l5) n9 s9 = some e9 → ∀ (kx0 : ∀ (H : Heap) (locs : List Loc) (ls : Array Slot), Rep cA D Λ σ H → va_S (dm Λ) s.heap H locs → lv_has ls 8 [(0, .ref a0), (1, .int l1), (2, .int l2), (3, .int l3), (4, .int l4), (5, .int l5), (6, .int e9)] → W p l e R s m args below meth c H locs 0 0 Q (F0 m 165 ls [])), ∀ (H : Heap) (locs : List Loc) (ls : Array Slot), Rep cA D Λ σ H → va_S (dm Λ) s.heap H locs → lv_has ls 8 [(0, .ref a0), (1, .int l1), (2, .int l2), (3, .int l3), (4, .int l4), (5, .int l5), (6, .int s9.1), (7, .int s9.2)] → W p l e R s m args below meth c H locs 0 0 Q (F0 m 136 ls []) := by
  intro n9
  induction n9 with
  | zero => intro s9 h; cases h
  | succ n9 ih =>
    intro s9 h kx0 H locs ls hR hS hl
    obtain ⟨r, hr, h⟩ := of_iter h
    refine w_bd_X5_of_136 X hK hT hM a0 l1 l2 l3 l4 l5 s9 k0 hr (fun z ez H locs ls hR hS hl => ?_) (fun z ez H locs ls hR hS hl => ?_) H locs ls hR hS hl
    · exact ih z (of_itl ez h) kx0 H locs ls hR hS hl
    · have he := of_itr ez h; subst he; exact kx0 H locs ls hR hS hl

set_option maxHeartbeats 4000000 in
set_option maxRecDepth 100000 in
theorem w_X5_of (X : Cx cX5_of (some .int) 8 RX5 wsX5_of p s m args meth c) (hK : Kn cA D s) (hT : TL Λ) (hM : 5 ≤ R.frames ∧ 122 ≤ R.locals) (a0 : Nat) (l1 : Int32) (l2 : Int32) (k0 : isK Λ a0 6) {res : Int32 × Sto} (h : F_X5_of Λ σ a0 l1 l2 = some res) (H : Heap) (locs : List Loc) (ls : Array Slot) (hR : Rep cA D Λ σ H) (hS : va_S (dm Λ) s.heap H locs) (hl : lv_has ls 8 [(0, .ref a0), (1, .int l1), (2, .int l2)]) : W p l e R s m args below meth c H locs 0 0 (MQ below (QI cA D Λ res) args s 0 0 (dm Λ)) (F0 m 0 ls []) := by
  have hx := X.1
  have hb := X.2.1
  have hown := X.2.2.2.2.1
  have hts := X.2.2.2.2.2.1
  unfold F_X5_of at h
  refine lv_aload_n hx hb dX5_of_0 rfl (lv_at hl 0 rfl) ?_
  refine lv_iconst (v := (0 : Int32)) hx hb dX5_of_1 (by decide) ?_
  refine rw_putI X hK hT hR hS 6 0 tyX5 k0 (by decide) (C := RX5) (T := TX5) (N := 24) rfl (by decide) in_X5_of_6 tyX5_ok nmX5 (by decide +kernel) rfl rfl (by decide +kernel) dX5_of_2 (fun σ_1 H locs e_1 hR hS => ?_)
  have h := of_nm e_1 h
  refine lv_aload_n hx hb dX5_of_5 rfl (lv_at hl 0 rfl) ?_
  refine lv_iload_n hx hb dX5_of_6 rfl (lv_at hl 1 rfl) ?_
  refine cl_z (rn_V (As := [.int l1]) (rest := []) X hK hR k0 rfl (by decide) hl.1 (c_X5_isPage l cA D Λ hT σ_1 a0 l1 k0) (cwV 1 hts gX5_of_X5_isPage rfl rfl rfl (by decide +kernel) ⟨Nat.le_trans (by decide) hM.1, Nat.le_trans (by decide) hM.2⟩) rfl rfl (Nat.le_of_ble_eq_true rfl) dX5_of_7) hS (fun hz_2 H locs hR hS => ?_)
  refine lv_topi (fun r_2 e_2 => ?_)
  have h := of_nm e_2 h
  have hz_2 : r_2 = 0 ∨ r_2 = 1 := by rw [e_2]; exact hz_2
  refine lv_if_eq (tgt := 25) hx hb dX5_of_10 (by decide) (fun hc => ?_) (fun hc => ?_)
  · have h := of_pos hc h
    refine lv_iconst (v := (-1 : Int32)) hx hb dX5_of_25 (by decide) ?_
    exact rt_i X hR hS (Option.some.inj h) dX5_of_26
  · have h := of_neg hc h
    refine lv_iload_n hx hb dX5_of_13 rfl (lv_at hl 2 rfl) ?_
    refine lv_i2l (v := (l2.toInt64)) hx hb dX5_of_14 rfl ?_
    refine lv_lconst (v := (0 : Int64)) hx hb dX5_of_15 (by decide) ?_
    refine lv_ldc2 (v := (6 : Int64)) hx hb hown (hts (.constantLong RX5 138 (6)) (by decide +kernel)) dX5_of_16 ?_
    refine cl_z (rn_S (As := [.long (l2.toInt64), .long (0 : Int64), .long (6 : Int64)]) (rest := []) X hK hR hl.1 (c_X5_in l cA D Λ hT σ_1 (l2.toInt64) (0 : Int64) (6 : Int64)) (va_cwS 3 hts gX5_of_X5_in rfl rfl rfl (by decide +kernel) ⟨Nat.le_trans (by decide) hM.1, Nat.le_trans (by decide) hM.2⟩) rfl rfl (Nat.le_of_ble_eq_true rfl) dX5_of_19) hS (fun hz_3 H locs hR hS => ?_)
    refine lv_topi (fun r_3 e_3 => ?_)
    have h := of_nm e_3 h
    have hz_3 : r_3 = 0 ∨ r_3 = 1 := by rw [e_3]; exact hz_3
    refine lv_if_ne (tgt := 27) hx hb dX5_of_22 (by decide) (fun hc => ?_) (fun hc => ?_)
    · have h := of_neg hc h
      refine lv_iconst (v := (0 : Int32)) hx hb dX5_of_27 (by decide) ?_
      refine lv_istore_n (lv' := [(3, .int (0 : Int32)), (0, .ref a0), (1, .int l1), (2, .int l2)]) hx hb dX5_of_28 rfl hl (by decide) rfl (fun ls hl => ?_)
      refine lv_iconst (v := (0 : Int32)) hx hb dX5_of_29 (by decide) ?_
      refine lv_istore (lv' := [(4, .int (0 : Int32)), (3, .int (0 : Int32)), (0, .ref a0), (1, .int l1), (2, .int l2)]) hx hb dX5_of_30 hl (by decide) rfl (fun ls hl => ?_)
      refine lv_iconst (v := (0 : Int32)) hx hb dX5_of_32 (by decide) ?_
      refine lv_istore (lv' := [(5, .int (0 : Int32)), (4, .int (0 : Int32)), (3, .int (0 : Int32)), (0, .ref a0), (1, .int l1), (2, .int l2)]) hx hb dX5_of_33 hl (by decide) rfl (fun ls hl => ?_)
      refine lv_iconst (v := (0 : Int32)) hx hb dX5_of_35 (by decide) ?_
      refine lv_istore (lv' := [(6, .int (0 : Int32)), (5, .int (0 : Int32)), (4, .int (0 : Int32)), (3, .int (0 : Int32)), (0, .ref a0), (1, .int l1), (2, .int l2)]) hx hb dX5_of_36 hl (by decide) rfl (fun ls hl => ?_)
      obtain ⟨e_11, hq_11, h⟩ := of_bind h
      refine w_lp_X5_of_38 X hK hT hM a0 l1 l2 (0 : Int32) k0 _ ((0 : Int32), (0 : Int32), (0 : Int32)) hq_11 (fun H locs ls hR hS hl => ?_) H locs ls hR hS (lv_sub hl [4, 5, 6, 3, 2, 1, 0] rfl)
      refine lv_iconst (v := (0 : Int32)) hx hb dX5_of_85 (by decide) ?_
      refine lv_istore (lv' := [(6, .int (0 : Int32)), (0, .ref a0), (1, .int l1), (2, .int l2), (3, .int e_11.1), (4, .int e_11.2), (5, .int (0 : Int32))]) hx hb dX5_of_86 hl (by decide) rfl (fun ls hl => ?_)
      obtain ⟨e_17, hq_17, h⟩ := of_bind h
      refine w_lp_X5_of_88 X hK hT hM a0 l1 l2 e_11.1 e_11.2 k0 _ ((0 : Int32), (0 : Int32)) hq_17 (fun H locs ls hR hS hl => ?_) H locs ls hR hS (lv_sub hl [1, 2, 3, 4, 5, 6, 0] rfl)
      refine lv_aload_n hx hb dX5_of_125 rfl (lv_at hl 0 rfl) ?_
      refine lv_iload_n hx hb dX5_of_126 rfl (lv_at hl 1 rfl) ?_
      obtain ⟨q_18, hq_18, h⟩ := of_bind h
      refine cl_v (rn_V (As := [.int l1]) (rest := []) X hK hR k0 rfl (by decide) hl.1 (c_X5_findsSpots l cA D Λ hT σ_1 a0 l1 k0 hq_18) (cwV 1 hts gX5_of_X5_findsSpots rfl rfl rfl (by decide +kernel) ⟨Nat.le_trans (by decide) hM.1, Nat.le_trans (by decide) hM.2⟩) rfl rfl (Nat.le_of_ble_eq_true rfl) dX5_of_127) hS (fun H locs hR hS => ?_)
      refine lv_iconst (v := (0 : Int32)) hx hb dX5_of_130 (by decide) ?_
      refine lv_istore (lv' := [(6, .int (0 : Int32)), (0, .ref a0), (1, .int l1), (2, .int l2), (3, .int e_11.1), (4, .int e_11.2), (5, .int e_17)]) hx hb dX5_of_131 hl (by decide) rfl (fun ls hl => ?_)
      refine lv_iconst (v := (1 : Int32)) hx hb dX5_of_133 (by decide) ?_
      refine lv_istore (lv' := [(7, .int (1 : Int32)), (6, .int (0 : Int32)), (0, .ref a0), (1, .int l1), (2, .int l2), (3, .int e_11.1), (4, .int e_11.2), (5, .int e_17)]) hx hb dX5_of_134 hl (by decide) rfl (fun ls hl => ?_)
      obtain ⟨e_23, hq_23, h⟩ := of_bind h
      refine w_lp_X5_of_136 X hK hT hM a0 l1 l2 e_11.1 e_11.2 e_17 k0 _ ((0 : Int32), (1 : Int32)) hq_23 (fun H locs ls hR hS hl => ?_) H locs ls hR hS (lv_sub hl [2, 3, 4, 5, 6, 7, 1, 0] rfl)
      refine lv_iload_n hx hb dX5_of_165 rfl (lv_at hl 2 rfl) ?_
      by_cases hc : l2 = (0 : Int32)
      · have h := of_pos hc h
        refine sw_in (k := 0) (tgt := 204) hx hb dX5_of_166 hc (by decide) (by decide) rfl (by decide) ?_
        refine lv_aload_n hx hb dX5_of_204 rfl (lv_at hl 0 rfl) ?_
        refine rw_getR X hK hT hR 6 2 7 k0 (by decide) (C := RX5) (T := TX5) (N := 24) rfl (by decide) in_X5_of_6 (by decide +kernel) rfl dX5_of_205 (fun kf_24 => ?_)
        refine lv_iload_n hx hb dX5_of_208 rfl (lv_at hl 1 rfl) ?_
        obtain ⟨hg_25, h⟩ := of_guard h
        refine rw_iald X hK hR kf_24 hg_25 dX5_of_209 ?_
        exact rt_i X hR hS (Option.some.inj h) dX5_of_210
      have h := of_neg hc h
      have hn_0 := hc
      clear hc
      by_cases hc : l2 = (1 : Int32)
      · have h := of_pos hc h
        refine sw_in (k := 1) (tgt := 211) hx hb dX5_of_166 hc (by decide) (by decide) rfl (by decide) ?_
        refine lv_aload_n hx hb dX5_of_211 rfl (lv_at hl 0 rfl) ?_
        refine rw_getR X hK hT hR 6 3 7 k0 (by decide) (C := RX5) (T := TX5) (N := 24) rfl (by decide) in_X5_of_6 (by decide +kernel) rfl dX5_of_212 (fun kf_26 => ?_)
        refine lv_iload_n hx hb dX5_of_215 rfl (lv_at hl 1 rfl) ?_
        obtain ⟨hg_27, h⟩ := of_guard h
        refine rw_iald X hK hR kf_26 hg_27 dX5_of_216 ?_
        exact rt_i X hR hS (Option.some.inj h) dX5_of_217
      have h := of_neg hc h
      have hn_1 := hc
      clear hc
      by_cases hc : l2 = (2 : Int32)
      · have h := of_pos hc h
        refine sw_in (k := 2) (tgt := 218) hx hb dX5_of_166 hc (by decide) (by decide) rfl (by decide) ?_
        refine lv_iload_n hx hb dX5_of_218 rfl (lv_at hl 3 rfl) ?_
        exact rt_i X hR hS (Option.some.inj h) dX5_of_219
      have h := of_neg hc h
      have hn_2 := hc
      clear hc
      by_cases hc : l2 = (3 : Int32)
      · have h := of_pos hc h
        refine sw_in (k := 3) (tgt := 220) hx hb dX5_of_166 hc (by decide) (by decide) rfl (by decide) ?_
        refine lv_iload hx hb dX5_of_220 (lv_at hl 4 rfl) ?_
        exact rt_i X hR hS (Option.some.inj h) dX5_of_222
      have h := of_neg hc h
      have hn_3 := hc
      clear hc
      by_cases hc : l2 = (4 : Int32)
      · have h := of_pos hc h
        refine sw_in (k := 4) (tgt := 223) hx hb dX5_of_166 hc (by decide) (by decide) rfl (by decide) ?_
        refine lv_iload hx hb dX5_of_223 (lv_at hl 5 rfl) ?_
        exact rt_i X hR hS (Option.some.inj h) dX5_of_225
      have h := of_neg hc h
      have hn_4 := hc
      clear hc
      by_cases hc : l2 = (5 : Int32)
      · have h := of_pos hc h
        refine sw_in (k := 5) (tgt := 226) hx hb dX5_of_166 hc (by decide) (by decide) rfl (by decide) ?_
        refine lv_aload_n hx hb dX5_of_226 rfl (lv_at hl 0 rfl) ?_
        refine rw_getI X hK hR 6 16 k0 (by decide) (C := RX5) (T := TX5) (N := 24) rfl (by decide) in_X5_of_6 (by decide +kernel) rfl dX5_of_227 ?_
        exact rt_i X hR hS (Option.some.inj h) dX5_of_230
      have h := of_neg hc h
      have hn_5 := hc
      clear hc
      refine lv_tableOut (tgt := 231) hx hb dX5_of_166 (sw_out 6 (fun k hk => by rcases (show k = 0 ∨ k = 1 ∨ k = 2 ∨ k = 3 ∨ k = 4 ∨ k = 5 by omega) with rfl | rfl | rfl | rfl | rfl | rfl <;> assumption)) (by decide) ?_
      refine lv_iload hx hb dX5_of_231 (lv_at hl 6 rfl) ?_
      exact rt_i X hR hS (Option.some.inj h) dX5_of_233
    · have h := of_pos hc h
      refine lv_iconst (v := (-1 : Int32)) hx hb dX5_of_25 (by decide) ?_
      exact rt_i X hR hS (Option.some.inj h) dX5_of_26

set_option maxHeartbeats 4000000 in
set_option maxRecDepth 100000 in
theorem c_X5_of (l : Launch) (cA : Nat → ClassId) (D : va_G) (Λ : Lay) (hT : TL Λ) (σ : Sto) (a0 : Nat) (l1 : Int32) (l2 : Int32) (k0 : isK Λ a0 6) {res : Int32 × Sto} (h : F_X5_of Λ σ a0 l1 l2 = some res) : Met l yX5_of wsX5_of { frames := 5, cells := 0, slots := 0, locals := 122 } (va_Pc [.ref a0, .int l1, .int l2] (PW cA D Λ σ)) (QI cA D Λ res) 0 0 (dm Λ) := by
  refine Met.ofW (cc := cX5_of) (maxL := 8) (ret := (some .int)) (by decide) rfl ?_
  intro p e s m args below meth c s₁ B hml hv
  obtain ⟨rfl, hR, hK⟩ := hv
  have X : Cx cX5_of (some .int) 8 RX5 wsX5_of p s m _ meth c := ⟨B.exec, B.bytes, B.returns, hml, findClass_of_methodNamed B.named, atoms_spec (ws := wsX5_of) B.pre, B.notSynchronized⟩
  have hS : va_S (dm Λ) s.heap s.heap [] := va_S.rf
  have hl := lv_entry ([.ref a0, .int l1, .int l2]) (n := 8) (Nat.le_of_ble_eq_true rfl)
  rw [lg_entry_eq]
  generalize (lg_sl ([.ref a0, .int l1, .int l2]) ++ List.replicate (8 - (lg_sl ([.ref a0, .int l1, .int l2])).length) Slot.unset).toArray = ls at hl ⊢
  have hl : lv_has ls 8 [(0, .ref a0), (1, .int l1), (2, .int l2)] := hl
  exact w_X5_of X hK hT ⟨Nat.le_refl _, Nat.le_refl _⟩ a0 l1 l2 k0 h s.heap [] ls hR hS hl
theorem in_X5_count_6 : ∀ w ∈ u_ws RX5 TX5 24, w ∈ wsX5_count := by decide +kernel
set_option maxHeartbeats 4000000 in
set_option maxRecDepth 100000 in
theorem w_X5_count (X : Cx cX5_count (some .int) 2 RX5 wsX5_count p s m args meth c) (hK : Kn cA D s) (hT : TL Λ) (hM : 0 ≤ R.frames ∧ 0 ≤ R.locals) (a0 : Nat) (l1 : Int32) (k0 : isK Λ a0 6) {res : Int32 × Sto} (h : F_X5_count Λ σ a0 l1 = some res) (H : Heap) (locs : List Loc) (ls : Array Slot) (hR : Rep cA D Λ σ H) (hS : va_S (dm Λ) s.heap H locs) (hl : lv_has ls 2 [(0, .ref a0), (1, .int l1)]) : W p l e R s m args below meth c H locs 0 0 (MQ below (QI cA D Λ res) args s 0 0 (dm Λ)) (F0 m 0 ls []) := by
  have hx := X.1
  have hb := X.2.1
  have hown := X.2.2.2.2.1
  have hts := X.2.2.2.2.2.1
  unfold F_X5_count at h
  refine lv_aload_n hx hb dX5_count_0 rfl (lv_at hl 0 rfl) ?_
  refine lv_iconst (v := (0 : Int32)) hx hb dX5_count_1 (by decide) ?_
  refine rw_putI X hK hT hR hS 6 0 tyX5 k0 (by decide) (C := RX5) (T := TX5) (N := 24) rfl (by decide) in_X5_count_6 tyX5_ok nmX5 (by decide +kernel) rfl rfl (by decide +kernel) dX5_count_2 (fun σ_1 H locs e_1 hR hS => ?_)
  have h := of_nm e_1 h
  refine lv_iload_n hx hb dX5_count_5 rfl (lv_at hl 1 rfl) ?_
  by_cases hc : l1 = (0 : Int32)
  · have h := of_pos hc h
    refine sw_in (k := 0) (tgt := 36) hx hb dX5_count_6 hc (by decide) (by decide) rfl (by decide) ?_
    refine lv_aload_n hx hb dX5_count_36 rfl (lv_at hl 0 rfl) ?_
    refine rw_getI X hK hR 6 1 k0 (by decide) (C := RX5) (T := TX5) (N := 24) rfl (by decide) in_X5_count_6 (by decide +kernel) rfl dX5_count_37 ?_
    exact rt_i X hR hS (Option.some.inj h) dX5_count_40
  have h := of_neg hc h
  have hn_0 := hc
  clear hc
  by_cases hc : l1 = (1 : Int32)
  · have h := of_pos hc h
    refine sw_in (k := 1) (tgt := 41) hx hb dX5_count_6 hc (by decide) (by decide) rfl (by decide) ?_
    refine lv_aload_n hx hb dX5_count_41 rfl (lv_at hl 0 rfl) ?_
    refine rw_getI X hK hR 6 6 k0 (by decide) (C := RX5) (T := TX5) (N := 24) rfl (by decide) in_X5_count_6 (by decide +kernel) rfl dX5_count_42 ?_
    exact rt_i X hR hS (Option.some.inj h) dX5_count_45
  have h := of_neg hc h
  have hn_1 := hc
  clear hc
  by_cases hc : l1 = (2 : Int32)
  · have h := of_pos hc h
    refine sw_in (k := 2) (tgt := 46) hx hb dX5_count_6 hc (by decide) (by decide) rfl (by decide) ?_
    refine lv_aload_n hx hb dX5_count_46 rfl (lv_at hl 0 rfl) ?_
    refine rw_getI X hK hR 6 19 k0 (by decide) (C := RX5) (T := TX5) (N := 24) rfl (by decide) in_X5_count_6 (by decide +kernel) rfl dX5_count_47 ?_
    exact rt_i X hR hS (Option.some.inj h) dX5_count_50
  have h := of_neg hc h
  have hn_2 := hc
  clear hc
  by_cases hc : l1 = (3 : Int32)
  · have h := of_pos hc h
    refine sw_in (k := 3) (tgt := 51) hx hb dX5_count_6 hc (by decide) (by decide) rfl (by decide) ?_
    refine lv_aload_n hx hb dX5_count_51 rfl (lv_at hl 0 rfl) ?_
    refine rw_getI X hK hR 6 22 k0 (by decide) (C := RX5) (T := TX5) (N := 24) rfl (by decide) in_X5_count_6 (by decide +kernel) rfl dX5_count_52 ?_
    exact rt_i X hR hS (Option.some.inj h) dX5_count_55
  have h := of_neg hc h
  have hn_3 := hc
  clear hc
  refine lv_tableOut (tgt := 56) hx hb dX5_count_6 (sw_out 4 (fun k hk => by rcases (show k = 0 ∨ k = 1 ∨ k = 2 ∨ k = 3 by omega) with rfl | rfl | rfl | rfl <;> assumption)) (by decide) ?_
  refine lv_iconst (v := (-1 : Int32)) hx hb dX5_count_56 (by decide) ?_
  exact rt_i X hR hS (Option.some.inj h) dX5_count_57

set_option maxHeartbeats 4000000 in
set_option maxRecDepth 100000 in
theorem c_X5_count (l : Launch) (cA : Nat → ClassId) (D : va_G) (Λ : Lay) (hT : TL Λ) (σ : Sto) (a0 : Nat) (l1 : Int32) (k0 : isK Λ a0 6) {res : Int32 × Sto} (h : F_X5_count Λ σ a0 l1 = some res) : Met l yX5_count wsX5_count { frames := 0, cells := 0, slots := 0, locals := 0 } (va_Pc [.ref a0, .int l1] (PW cA D Λ σ)) (QI cA D Λ res) 0 0 (dm Λ) := by
  refine Met.ofW (cc := cX5_count) (maxL := 2) (ret := (some .int)) (by decide) rfl ?_
  intro p e s m args below meth c s₁ B hml hv
  obtain ⟨rfl, hR, hK⟩ := hv
  have X : Cx cX5_count (some .int) 2 RX5 wsX5_count p s m _ meth c := ⟨B.exec, B.bytes, B.returns, hml, findClass_of_methodNamed B.named, atoms_spec (ws := wsX5_count) B.pre, B.notSynchronized⟩
  have hS : va_S (dm Λ) s.heap s.heap [] := va_S.rf
  have hl := lv_entry ([.ref a0, .int l1]) (n := 2) (Nat.le_of_ble_eq_true rfl)
  rw [lg_entry_eq]
  generalize (lg_sl ([.ref a0, .int l1]) ++ List.replicate (2 - (lg_sl ([.ref a0, .int l1])).length) Slot.unset).toArray = ls at hl ⊢
  have hl : lv_has ls 2 [(0, .ref a0), (1, .int l1)] := hl
  exact w_X5_count X hK hT ⟨Nat.le_refl _, Nat.le_refl _⟩ a0 l1 k0 h s.heap [] ls hR hS hl
theorem in_X5_unlike_6 : ∀ w ∈ u_ws RX5 TX5 24, w ∈ wsX5_unlike := by decide +kernel
set_option maxHeartbeats 4000000 in
set_option maxRecDepth 100000 in
theorem w_bd_X5_unlike_72 (X : Cx cX5_unlike (some .int) 5 RX5 wsX5_unlike p s m args meth c) (hK : Kn cA D s) (hT : TL Λ) (hM : 2 ≤ R.frames ∧ 46 ≤ R.locals) (a0 : Nat) (l1 : Int32) (l2 : Int32) (l3 : Int32) (s9 : Int32) (k0 : isK Λ a0 6) {r : Int32 ⊕ (Unit ⊕ Unit)} (h : bd_X5_unlike_72 Λ σ a0 l1 l2 l3 s9 = some r) (kb : ∀ z : Int32, r = .inl z → ∀ (H : Heap) (locs : List Loc) (ls : Array Slot), Rep cA D Λ σ H → va_S (dm Λ) s.heap H locs → lv_has ls 5 [(0, .ref a0), (1, .int l1), (2, .int l2), (3, .int l3), (4, .int z)] → W p l e R s m args below meth c H locs 0 0 Q (F0 m 72 ls [])) (kx0 : ∀ z : Unit, r = .inr (.inl z) → ∀ (H : Heap) (locs : List Loc) (ls : Array Slot), Rep cA D Λ σ H → va_S (dm Λ) s.heap H locs → lv_has ls 5 [(3, .int l3)] → W p l e R s m args below meth c H locs 0 0 Q (F0 m 102 ls [])) (kx1 : ∀ z : Unit, r = .inr (.inr z) → ∀ (H : Heap) (locs : List Loc) (ls : Array Slot), Rep cA D Λ σ H → va_S (dm Λ) s.heap H locs → lv_has ls 5 [(0, .ref a0), (1, .int l1), (2, .int l2), (3, .int l3)] → W p l e R s m args below meth c H locs 0 0 Q (F0 m 110 ls [])) (H : Heap) (locs : List Loc) (ls : Array Slot) (hR : Rep cA D Λ σ H) (hS : va_S (dm Λ) s.heap H locs) (hl : lv_has ls 5 [(0, .ref a0), (1, .int l1), (2, .int l2), (3, .int l3), (4, .int s9)]) : W p l e R s m args below meth c H locs 0 0 Q (F0 m 72 ls []) := by
  have hx := X.1
  have hb := X.2.1
  have hown := X.2.2.2.2.1
  have hts := X.2.2.2.2.2.1
  unfold bd_X5_unlike_72 at h
  refine lv_iload hx hb dX5_unlike_72 (lv_at hl 4 rfl) ?_
  refine lv_aload_n hx hb dX5_unlike_74 rfl (lv_at hl 0 rfl) ?_
  refine rw_getR X hK hT hR 6 2 7 k0 (by decide) (C := RX5) (T := TX5) (N := 24) rfl (by decide) in_X5_unlike_6 (by decide +kernel) rfl dX5_unlike_75 (fun kf_14 => ?_)
  refine lv_iload_n hx hb dX5_unlike_78 rfl (lv_at hl 1 rfl) ?_
  obtain ⟨hg_15, h⟩ := of_guard h
  refine rw_iald X hK hR kf_14 hg_15 dX5_unlike_79 ?_
  refine lv_icmp_ge (tgt := 110) hx hb dX5_unlike_80 (by decide) (fun hc => ?_) (fun hc => ?_)
  · have h := of_pos hc h
    exact kx1 () (Option.some.inj h).symm H locs ls hR hS (lv_sub hl [0, 1, 2, 3] rfl)
  · have h := of_neg hc h
    refine lv_aload_n hx hb dX5_unlike_83 rfl (lv_at hl 0 rfl) ?_
    refine lv_iload_n hx hb dX5_unlike_84 rfl (lv_at hl 1 rfl) ?_
    refine lv_iload hx hb dX5_unlike_85 (lv_at hl 4 rfl) ?_
    refine lv_iload_n hx hb dX5_unlike_87 rfl (lv_at hl 3 rfl) ?_
    obtain ⟨q_16, hq_16, h⟩ := of_bind h
    refine cl_z (rn_V (As := [.int l1, .int s9, .int l3]) (rest := []) X hK hR k0 rfl (by decide) hl.1 (c_X5_has l cA D Λ hT σ a0 l1 s9 l3 k0 hq_16) (cwV 3 hts gX5_unlike_X5_has rfl rfl rfl (by decide +kernel) ⟨Nat.le_trans (by decide) hM.1, Nat.le_trans (by decide) hM.2⟩) rfl rfl (Nat.le_of_ble_eq_true rfl) dX5_unlike_88) hS (fun hz_16 H locs hR hS => ?_)
    refine lv_aload_n hx hb dX5_unlike_91 rfl (lv_at hl 0 rfl) ?_
    refine lv_iload_n hx hb dX5_unlike_92 rfl (lv_at hl 2 rfl) ?_
    refine lv_iload hx hb dX5_unlike_93 (lv_at hl 4 rfl) ?_
    refine lv_iload_n hx hb dX5_unlike_95 rfl (lv_at hl 3 rfl) ?_
    obtain ⟨q_17, hq_17, h⟩ := of_bind h
    refine cl_z (rn_V (As := [.int l2, .int s9, .int l3]) (rest := [.int q_16]) X hK hR k0 rfl (by decide) hl.1 (c_X5_has l cA D Λ hT σ a0 l2 s9 l3 k0 hq_17) (cwV 3 hts gX5_unlike_X5_has rfl rfl rfl (by decide +kernel) ⟨Nat.le_trans (by decide) hM.1, Nat.le_trans (by decide) hM.2⟩) rfl rfl (Nat.le_of_ble_eq_true rfl) dX5_unlike_96) hS (fun hz_17 H locs hR hS => ?_)
    refine lv_icmp_eq (tgt := 104) hx hb dX5_unlike_99 (by decide) (fun hc => ?_) (fun hc => ?_)
    · have h := of_pos hc h
      obtain ⟨v_18, e_v_18⟩ : ∃ y : Int32, y = (s9 + (1 : Int32)) := ⟨_, rfl⟩
      have h := of_nm e_v_18 h
      refine lv_iinc (v := v_18) (lv' := [(4, .int v_18), (0, .ref a0), (1, .int l1), (2, .int l2), (3, .int l3)]) hx hb dX5_unlike_104 hl (k := 4) rfl (by rw [e_v_18]; rfl) (by decide) rfl (fun ls hl => ?_)
      refine lv_goto (tgt := 72) hx hb dX5_unlike_107 (by decide) ?_
      exact kb v_18 (Option.some.inj h).symm H locs ls hR hS (lv_sub hl [1, 2, 3, 4, 0] rfl)
    · have h := of_neg hc h
      exact kx0 () (Option.some.inj h).symm H locs ls hR hS (lv_sub hl [3] rfl)

set_option maxHeartbeats 4000000 in
set_option maxRecDepth 100000 in
theorem w_lp_X5_unlike_72 (X : Cx cX5_unlike (some .int) 5 RX5 wsX5_unlike p s m args meth c) (hK : Kn cA D s) (hT : TL Λ) (hM : 2 ≤ R.frames ∧ 46 ≤ R.locals) (a0 : Nat) (l1 : Int32) (l2 : Int32) (l3 : Int32) (k0 : isK Λ a0 6) {e9 : (Unit ⊕ Unit)} : ∀ (n9 : Nat) (s9 : Int32), iter (bd_X5_unlike_72 Λ σ a0 l1 l2 l3) n9 s9 = some e9 → ∀ (kx0 : ∀ z : Unit, e9 = .inl z → ∀ (H : Heap) (locs : List Loc) (ls : Array Slot), Rep cA D Λ σ H → va_S (dm Λ) s.heap H locs → lv_has ls 5 [(3, .int l3)] → W p l e R s m args below meth c H locs 0 0 Q (F0 m 102 ls [])), ∀ (kx1 : ∀ z : Unit, e9 = .inr z → ∀ (H : Heap) (locs : List Loc) (ls : Array Slot), Rep cA D Λ σ H → va_S (dm Λ) s.heap H locs → lv_has ls 5 [(0, .ref a0), (1, .int l1), (2, .int l2), (3, .int l3)] → W p l e R s m args below meth c H locs 0 0 Q (F0 m 110 ls [])), ∀ (H : Heap) (locs : List Loc) (ls : Array Slot), Rep cA D Λ σ H → va_S (dm Λ) s.heap H locs → lv_has ls 5 [(0, .ref a0), (1, .int l1), (2, .int l2), (3, .int l3), (4, .int s9)] → W p l e R s m args below meth c H locs 0 0 Q (F0 m 72 ls []) := by
  intro n9
  induction n9 with
  | zero => intro s9 h; cases h
  | succ n9 ih =>
    intro s9 h kx0 kx1 H locs ls hR hS hl
    obtain ⟨r, hr, h⟩ := of_iter h
    refine w_bd_X5_unlike_72 X hK hT hM a0 l1 l2 l3 s9 k0 hr (fun z ez H locs ls hR hS hl => ?_) (fun z ez H locs ls hR hS hl => ?_) (fun z ez H locs ls hR hS hl => ?_) H locs ls hR hS hl
    · exact ih z (of_itl ez h) kx0 kx1 H locs ls hR hS hl
    · exact kx0 z (of_itr ez h).symm H locs ls hR hS hl
    · exact kx1 z (of_itr ez h).symm H locs ls hR hS hl

set_option maxHeartbeats 4000000 in
set_option maxRecDepth 100000 in
theorem w_bd_X5_unlike_59 (X : Cx cX5_unlike (some .int) 5 RX5 wsX5_unlike p s m args meth c) (hK : Kn cA D s) (hT : TL Λ) (hM : 2 ≤ R.frames ∧ 46 ≤ R.locals) (a0 : Nat) (l1 : Int32) (l2 : Int32) (s9 : Int32) (k0 : isK Λ a0 6) {r : Int32 ⊕ (Int32 ⊕ Unit)} (h : bd_X5_unlike_59 Λ σ a0 l1 l2 s9 = some r) (kb : ∀ z : Int32, r = .inl z → ∀ (H : Heap) (locs : List Loc) (ls : Array Slot), Rep cA D Λ σ H → va_S (dm Λ) s.heap H locs → lv_has ls 5 [(0, .ref a0), (1, .int l1), (2, .int l2), (3, .int z)] → W p l e R s m args below meth c H locs 0 0 Q (F0 m 59 ls [])) (kx0 : ∀ z : Int32, r = .inr (.inl z) → ∀ (H : Heap) (locs : List Loc) (ls : Array Slot), Rep cA D Λ σ H → va_S (dm Λ) s.heap H locs → lv_has ls 5 [(3, .int z)] → W p l e R s m args below meth c H locs 0 0 Q (F0 m 102 ls [])) (kx1 : ∀ z : Unit, r = .inr (.inr z) → ∀ (H : Heap) (locs : List Loc) (ls : Array Slot), Rep cA D Λ σ H → va_S (dm Λ) s.heap H locs → lv_has ls 5 [] → W p l e R s m args below meth c H locs 0 0 Q (F0 m 116 ls [])) (H : Heap) (locs : List Loc) (ls : Array Slot) (hR : Rep cA D Λ σ H) (hS : va_S (dm Λ) s.heap H locs) (hl : lv_has ls 5 [(0, .ref a0), (1, .int l1), (2, .int l2), (3, .int s9)]) : W p l e R s m args below meth c H locs 0 0 Q (F0 m 59 ls []) := by
  have hx := X.1
  have hb := X.2.1
  have hown := X.2.2.2.2.1
  have hts := X.2.2.2.2.2.1
  unfold bd_X5_unlike_59 at h
  refine lv_iload_n hx hb dX5_unlike_59 rfl (lv_at hl 3 rfl) ?_
  refine lv_aload_n hx hb dX5_unlike_60 rfl (lv_at hl 0 rfl) ?_
  refine rw_getR X hK hT hR 6 3 7 k0 (by decide) (C := RX5) (T := TX5) (N := 24) rfl (by decide) in_X5_unlike_6 (by decide +kernel) rfl dX5_unlike_61 (fun kf_12 => ?_)
  refine lv_iload_n hx hb dX5_unlike_64 rfl (lv_at hl 1 rfl) ?_
  obtain ⟨hg_13, h⟩ := of_guard h
  refine rw_iald X hK hR kf_12 hg_13 dX5_unlike_65 ?_
  refine lv_icmp_ge (tgt := 116) hx hb dX5_unlike_66 (by decide) (fun hc => ?_) (fun hc => ?_)
  · have h := of_pos hc h
    exact kx1 () (Option.some.inj h).symm H locs ls hR hS (lv_sub hl [] rfl)
  · have h := of_neg hc h
    refine lv_iconst (v := (0 : Int32)) hx hb dX5_unlike_69 (by decide) ?_
    refine lv_istore (lv' := [(4, .int (0 : Int32)), (0, .ref a0), (1, .int l1), (2, .int l2), (3, .int s9)]) hx hb dX5_unlike_70 hl (by decide) rfl (fun ls hl => ?_)
    obtain ⟨e_19, hq_19, h⟩ := of_bind h
    refine w_lp_X5_unlike_72 X hK hT hM a0 l1 l2 s9 k0 _ (0 : Int32) hq_19 (fun z_19 ez H locs ls hR hS hl => ?_) (fun z_19 ez H locs ls hR hS hl => ?_) H locs ls hR hS (lv_sub hl [1, 2, 3, 4, 0] rfl)
    · have h := of_scl ez h
      exact kx0 s9 (Option.some.inj h).symm H locs ls hR hS (lv_sub hl [0] rfl)
    · have h := of_scr ez h
      obtain ⟨v_20, e_v_20⟩ : ∃ y : Int32, y = (s9 + (1 : Int32)) := ⟨_, rfl⟩
      have h := of_nm e_v_20 h
      refine lv_iinc (v := v_20) (lv' := [(3, .int v_20), (0, .ref a0), (1, .int l1), (2, .int l2)]) hx hb dX5_unlike_110 hl (k := 3) rfl (by rw [e_v_20]; rfl) (by decide) rfl (fun ls hl => ?_)
      refine lv_goto (tgt := 59) hx hb dX5_unlike_113 (by decide) ?_
      exact kb v_20 (Option.some.inj h).symm H locs ls hR hS (lv_sub hl [1, 2, 3, 0] rfl)

set_option maxHeartbeats 4000000 in
set_option maxRecDepth 100000 in
theorem w_lp_X5_unlike_59 (X : Cx cX5_unlike (some .int) 5 RX5 wsX5_unlike p s m args meth c) (hK : Kn cA D s) (hT : TL Λ) (hM : 2 ≤ R.frames ∧ 46 ≤ R.locals) (a0 : Nat) (l1 : Int32) (l2 : Int32) (k0 : isK Λ a0 6) {e9 : (Int32 ⊕ Unit)} : ∀ (n9 : Nat) (s9 : Int32), iter (bd_X5_unlike_59 Λ σ a0 l1 l2) n9 s9 = some e9 → ∀ (kx0 : ∀ z : Int32, e9 = .inl z → ∀ (H : Heap) (locs : List Loc) (ls : Array Slot), Rep cA D Λ σ H → va_S (dm Λ) s.heap H locs → lv_has ls 5 [(3, .int z)] → W p l e R s m args below meth c H locs 0 0 Q (F0 m 102 ls [])), ∀ (kx1 : ∀ z : Unit, e9 = .inr z → ∀ (H : Heap) (locs : List Loc) (ls : Array Slot), Rep cA D Λ σ H → va_S (dm Λ) s.heap H locs → lv_has ls 5 [] → W p l e R s m args below meth c H locs 0 0 Q (F0 m 116 ls [])), ∀ (H : Heap) (locs : List Loc) (ls : Array Slot), Rep cA D Λ σ H → va_S (dm Λ) s.heap H locs → lv_has ls 5 [(0, .ref a0), (1, .int l1), (2, .int l2), (3, .int s9)] → W p l e R s m args below meth c H locs 0 0 Q (F0 m 59 ls []) := by
  intro n9
  induction n9 with
  | zero => intro s9 h; cases h
  | succ n9 ih =>
    intro s9 h kx0 kx1 H locs ls hR hS hl
    obtain ⟨r, hr, h⟩ := of_iter h
    refine w_bd_X5_unlike_59 X hK hT hM a0 l1 l2 s9 k0 hr (fun z ez H locs ls hR hS hl => ?_) (fun z ez H locs ls hR hS hl => ?_) (fun z ez H locs ls hR hS hl => ?_) H locs ls hR hS hl
    · exact ih z (of_itl ez h) kx0 kx1 H locs ls hR hS hl
    · exact kx0 z (of_itr ez h).symm H locs ls hR hS hl
    · exact kx1 z (of_itr ez h).symm H locs ls hR hS hl

set_option maxHeartbeats 4000000 in
set_option maxRecDepth 100000 in
theorem w_X5_unlike (X : Cx cX5_unlike (some .int) 5 RX5 wsX5_unlike p s m args meth c) (hK : Kn cA D s) (hT : TL Λ) (hM : 2 ≤ R.frames ∧ 46 ≤ R.locals) (a0 : Nat) (l1 : Int32) (l2 : Int32) (k0 : isK Λ a0 6) {res : Int32 × Sto} (h : F_X5_unlike Λ σ a0 l1 l2 = some res) (H : Heap) (locs : List Loc) (ls : Array Slot) (hR : Rep cA D Λ σ H) (hS : va_S (dm Λ) s.heap H locs) (hl : lv_has ls 5 [(0, .ref a0), (1, .int l1), (2, .int l2)]) : W p l e R s m args below meth c H locs 0 0 (MQ below (QI cA D Λ res) args s 0 0 (dm Λ)) (F0 m 0 ls []) := by
  have hx := X.1
  have hb := X.2.1
  have hown := X.2.2.2.2.1
  have hts := X.2.2.2.2.2.1
  unfold F_X5_unlike at h
  refine lv_aload_n hx hb dX5_unlike_0 rfl (lv_at hl 0 rfl) ?_
  refine lv_iconst (v := (0 : Int32)) hx hb dX5_unlike_1 (by decide) ?_
  refine rw_putI X hK hT hR hS 6 0 tyX5 k0 (by decide) (C := RX5) (T := TX5) (N := 24) rfl (by decide) in_X5_unlike_6 tyX5_ok nmX5 (by decide +kernel) rfl rfl (by decide +kernel) dX5_unlike_2 (fun σ_1 H locs e_1 hR hS => ?_)
  have h := of_nm e_1 h
  refine lv_aload_n hx hb dX5_unlike_5 rfl (lv_at hl 0 rfl) ?_
  refine lv_iload_n hx hb dX5_unlike_6 rfl (lv_at hl 1 rfl) ?_
  refine cl_z (rn_V (As := [.int l1]) (rest := []) X hK hR k0 rfl (by decide) hl.1 (c_X5_isPage l cA D Λ hT σ_1 a0 l1 k0) (cwV 1 hts gX5_unlike_X5_isPage rfl rfl rfl (by decide +kernel) ⟨Nat.le_trans (by decide) hM.1, Nat.le_trans (by decide) hM.2⟩) rfl rfl (Nat.le_of_ble_eq_true rfl) dX5_unlike_7) hS (fun hz_2 H locs hR hS => ?_)
  refine lv_topi (fun r_2 e_2 => ?_)
  have h := of_nm e_2 h
  have hz_2 : r_2 = 0 ∨ r_2 = 1 := by rw [e_2]; exact hz_2
  refine lv_if_eq (tgt := 21) hx hb dX5_unlike_10 (by decide) (fun hc => ?_) (fun hc => ?_)
  · have h := of_pos hc h
    refine lv_bipush (v := (-2 : Int32)) hx hb dX5_unlike_21 (by decide) ?_
    exact rt_i X hR hS (Option.some.inj h) dX5_unlike_23
  · have h := of_neg hc h
    refine lv_aload_n hx hb dX5_unlike_13 rfl (lv_at hl 0 rfl) ?_
    refine lv_iload_n hx hb dX5_unlike_14 rfl (lv_at hl 2 rfl) ?_
    refine cl_z (rn_V (As := [.int l2]) (rest := []) X hK hR k0 rfl (by decide) hl.1 (c_X5_isPage l cA D Λ hT σ_1 a0 l2 k0) (cwV 1 hts gX5_unlike_X5_isPage rfl rfl rfl (by decide +kernel) ⟨Nat.le_trans (by decide) hM.1, Nat.le_trans (by decide) hM.2⟩) rfl rfl (Nat.le_of_ble_eq_true rfl) dX5_unlike_15) hS (fun hz_3 H locs hR hS => ?_)
    refine lv_topi (fun r_3 e_3 => ?_)
    have h := of_nm e_3 h
    have hz_3 : r_3 = 0 ∨ r_3 = 1 := by rw [e_3]; exact hz_3
    refine lv_if_ne (tgt := 24) hx hb dX5_unlike_18 (by decide) (fun hc => ?_) (fun hc => ?_)
    · have h := of_neg hc h
      refine lv_aload_n hx hb dX5_unlike_24 rfl (lv_at hl 0 rfl) ?_
      refine rw_getR X hK hT hR 6 2 7 k0 (by decide) (C := RX5) (T := TX5) (N := 24) rfl (by decide) in_X5_unlike_6 (by decide +kernel) rfl dX5_unlike_25 (fun kf_4 => ?_)
      refine lv_iload_n hx hb dX5_unlike_28 rfl (lv_at hl 1 rfl) ?_
      obtain ⟨hg_5, h⟩ := of_guard h
      refine rw_iald X hK hR kf_4 hg_5 dX5_unlike_29 ?_
      refine lv_aload_n hx hb dX5_unlike_30 rfl (lv_at hl 0 rfl) ?_
      refine rw_getR X hK hT hR 6 2 7 k0 (by decide) (C := RX5) (T := TX5) (N := 24) rfl (by decide) in_X5_unlike_6 (by decide +kernel) rfl dX5_unlike_31 (fun kf_6 => ?_)
      refine lv_iload_n hx hb dX5_unlike_34 rfl (lv_at hl 2 rfl) ?_
      obtain ⟨hg_7, h⟩ := of_guard h
      refine rw_iald X hK hR kf_6 hg_7 dX5_unlike_35 ?_
      refine lv_icmp_ne (tgt := 54) hx hb dX5_unlike_36 (by decide) (fun hc => ?_) (fun hc => ?_)
      · have h := of_neg hc h
        refine lv_bipush (v := (100 : Int32)) hx hb dX5_unlike_54 (by decide) ?_
        exact rt_i X hR hS (Option.some.inj h) dX5_unlike_56
      · have h := of_pos hc h
        refine lv_aload_n hx hb dX5_unlike_39 rfl (lv_at hl 0 rfl) ?_
        refine rw_getR X hK hT hR 6 3 7 k0 (by decide) (C := RX5) (T := TX5) (N := 24) rfl (by decide) in_X5_unlike_6 (by decide +kernel) rfl dX5_unlike_40 (fun kf_8 => ?_)
        refine lv_iload_n hx hb dX5_unlike_43 rfl (lv_at hl 1 rfl) ?_
        obtain ⟨hg_9, h⟩ := of_guard h
        refine rw_iald X hK hR kf_8 hg_9 dX5_unlike_44 ?_
        refine lv_aload_n hx hb dX5_unlike_45 rfl (lv_at hl 0 rfl) ?_
        refine rw_getR X hK hT hR 6 3 7 k0 (by decide) (C := RX5) (T := TX5) (N := 24) rfl (by decide) in_X5_unlike_6 (by decide +kernel) rfl dX5_unlike_46 (fun kf_10 => ?_)
        refine lv_iload_n hx hb dX5_unlike_49 rfl (lv_at hl 2 rfl) ?_
        obtain ⟨hg_11, h⟩ := of_guard h
        refine rw_iald X hK hR kf_10 hg_11 dX5_unlike_50 ?_
        refine lv_icmp_eq (tgt := 57) hx hb dX5_unlike_51 (by decide) (fun hc => ?_) (fun hc => ?_)
        · have h := of_pos hc h
          refine lv_iconst (v := (0 : Int32)) hx hb dX5_unlike_57 (by decide) ?_
          refine lv_istore_n (lv' := [(3, .int (0 : Int32)), (0, .ref a0), (1, .int l1), (2, .int l2)]) hx hb dX5_unlike_58 rfl hl (by decide) rfl (fun ls hl => ?_)
          obtain ⟨e_21, hq_21, h⟩ := of_bind h
          refine w_lp_X5_unlike_59 X hK hT hM a0 l1 l2 k0 _ (0 : Int32) hq_21 (fun z_21 ez H locs ls hR hS hl => ?_) (fun z_21 ez H locs ls hR hS hl => ?_) H locs ls hR hS (lv_sub hl [1, 2, 3, 0] rfl)
          · have h := of_scl ez h
            refine lv_iload_n hx hb dX5_unlike_102 rfl (lv_at hl 0 rfl) ?_
            exact rt_i X hR hS (Option.some.inj h) dX5_unlike_103
          · have h := of_scr ez h
            refine lv_iconst (v := (-1 : Int32)) hx hb dX5_unlike_116 (by decide) ?_
            exact rt_i X hR hS (Option.some.inj h) dX5_unlike_117
        · have h := of_neg hc h
          refine lv_bipush (v := (100 : Int32)) hx hb dX5_unlike_54 (by decide) ?_
          exact rt_i X hR hS (Option.some.inj h) dX5_unlike_56
    · have h := of_pos hc h
      refine lv_bipush (v := (-2 : Int32)) hx hb dX5_unlike_21 (by decide) ?_
      exact rt_i X hR hS (Option.some.inj h) dX5_unlike_23

set_option maxHeartbeats 4000000 in
set_option maxRecDepth 100000 in
theorem c_X5_unlike (l : Launch) (cA : Nat → ClassId) (D : va_G) (Λ : Lay) (hT : TL Λ) (σ : Sto) (a0 : Nat) (l1 : Int32) (l2 : Int32) (k0 : isK Λ a0 6) {res : Int32 × Sto} (h : F_X5_unlike Λ σ a0 l1 l2 = some res) : Met l yX5_unlike wsX5_unlike { frames := 2, cells := 0, slots := 0, locals := 46 } (va_Pc [.ref a0, .int l1, .int l2] (PW cA D Λ σ)) (QI cA D Λ res) 0 0 (dm Λ) := by
  refine Met.ofW (cc := cX5_unlike) (maxL := 5) (ret := (some .int)) (by decide) rfl ?_
  intro p e s m args below meth c s₁ B hml hv
  obtain ⟨rfl, hR, hK⟩ := hv
  have X : Cx cX5_unlike (some .int) 5 RX5 wsX5_unlike p s m _ meth c := ⟨B.exec, B.bytes, B.returns, hml, findClass_of_methodNamed B.named, atoms_spec (ws := wsX5_unlike) B.pre, B.notSynchronized⟩
  have hS : va_S (dm Λ) s.heap s.heap [] := va_S.rf
  have hl := lv_entry ([.ref a0, .int l1, .int l2]) (n := 5) (Nat.le_of_ble_eq_true rfl)
  rw [lg_entry_eq]
  generalize (lg_sl ([.ref a0, .int l1, .int l2]) ++ List.replicate (5 - (lg_sl ([.ref a0, .int l1, .int l2])).length) Slot.unset).toArray = ls at hl ⊢
  have hl : lv_has ls 5 [(0, .ref a0), (1, .int l1), (2, .int l2)] := hl
  exact w_X5_unlike X hK hT ⟨Nat.le_refl _, Nat.le_refl _⟩ a0 l1 l2 k0 h s.heap [] ls hR hS hl
set_option maxHeartbeats 4000000 in
set_option maxRecDepth 100000 in
theorem w_bd_X5_least_4 (X : Cx cX5_least (some .int) 4 RX5 wsX5_least p s m args meth c) (hK : Kn cA D s) (hT : TL Λ) (hM : 1 ≤ R.frames ∧ 22 ≤ R.locals) (l0 : Int32) (l1 : Int32) (s9 : (Int32 × Int32)) {r : (Int32 × Int32) ⊕ Int32} (h : bd_X5_least_4 l0 l1 s9 = some r) (kb : ∀ z : (Int32 × Int32), r = .inl z → ∀ (H : Heap) (locs : List Loc) (ls : Array Slot), Rep cA D Λ σ H → va_S (dm Λ) s.heap H locs → lv_has ls 4 [(0, .int l0), (1, .int l1), (2, .int z.1), (3, .int z.2)] → W p l e R s m args below meth c H locs 0 0 Q (F0 m 4 ls [])) (kx0 : ∀ z : Int32, r = .inr z → ∀ (H : Heap) (locs : List Loc) (ls : Array Slot), Rep cA D Λ σ H → va_S (dm Λ) s.heap H locs → lv_has ls 4 [(2, .int z)] → W p l e R s m args below meth c H locs 0 0 Q (F0 m 28 ls [])) (H : Heap) (locs : List Loc) (ls : Array Slot) (hR : Rep cA D Λ σ H) (hS : va_S (dm Λ) s.heap H locs) (hl : lv_has ls 4 [(0, .int l0), (1, .int l1), (2, .int s9.1), (3, .int s9.2)]) : W p l e R s m args below meth c H locs 0 0 Q (F0 m 4 ls []) := by
  have hx := X.1
  have hb := X.2.1
  have hown := X.2.2.2.2.1
  have hts := X.2.2.2.2.2.1
  unfold bd_X5_least_4 at h
  refine lv_iload_n hx hb dX5_least_4 rfl (lv_at hl 3 rfl) ?_
  refine lv_iload_n hx hb dX5_least_5 rfl (lv_at hl 1 rfl) ?_
  refine lv_icmp_ge (tgt := 28) hx hb dX5_least_6 (by decide) (fun hc => ?_) (fun hc => ?_)
  · have h := of_pos hc h
    exact kx0 s9.1 (Option.some.inj h).symm H locs ls hR hS (lv_sub hl [2] rfl)
  · have h := of_neg hc h
    refine lv_iload_n hx hb dX5_least_9 rfl (lv_at hl 2 rfl) ?_
    refine lv_iload_n hx hb dX5_least_10 rfl (lv_at hl 0 rfl) ?_
    refine lv_iload_n hx hb dX5_least_11 rfl (lv_at hl 3 rfl) ?_
    refine lv_imul hx hb dX5_least_12 ?_
    refine lv_bipush (v := (16 : Int32)) hx hb dX5_least_13 (by decide) ?_
    refine cl_i (rn_S (As := [.int (l0 * s9.2), .int (16 : Int32)]) (rest := [.int s9.1]) X hK hR hl.1 (c_J9_floorDiv_7cf53 l cA D Λ hT σ (l0 * s9.2) (16 : Int32) (by decide)) (va_cwS 2 hts gX5_least_J9_floorDiv_7cf53 rfl rfl rfl (by decide +kernel) ⟨Nat.le_trans (by decide) hM.1, Nat.le_trans (by decide) hM.2⟩) rfl rfl (Nat.le_of_ble_eq_true rfl) dX5_least_15) hS (fun H locs hR hS => ?_)
    refine lv_topi (fun r_1 e_1 => ?_)
    have h := of_nm e_1 h
    refine va_mmin hx hb (X.2.2.2.1.trans hl.1.symm) hown (hts (.methodLink RX5 91 Lib.Math.min.name) (by decide +kernel)) (hts (.static Lib.Math.min.name) (by decide +kernel)) (hts (.initialized "java/lang/Math") (by decide +kernel)) (hts (.code Lib.Math.min.name Lib.Math.min.code 2 (some .int)) (by decide +kernel)) (Nat.le_trans (by decide) hM.1) (Nat.le_trans (Nat.le_of_ble_eq_true rfl) hM.2) (Nat.zero_le _) (Nat.zero_le _) dX5_least_18 ?_
    refine lv_topi (fun r_2 e_2 => ?_)
    have h := of_nm e_2 h
    refine lv_istore_n (lv' := [(2, .int r_2), (0, .int l0), (1, .int l1), (3, .int s9.2)]) hx hb dX5_least_21 rfl hl (by decide) rfl (fun ls hl => ?_)
    obtain ⟨v_3, e_v_3⟩ : ∃ y : Int32, y = (s9.2 + (1 : Int32)) := ⟨_, rfl⟩
    have h := of_nm e_v_3 h
    refine lv_iinc (v := v_3) (lv' := [(3, .int v_3), (2, .int r_2), (0, .int l0), (1, .int l1)]) hx hb dX5_least_22 hl (k := 3) rfl (by rw [e_v_3]; rfl) (by decide) rfl (fun ls hl => ?_)
    refine lv_goto (tgt := 4) hx hb dX5_least_25 (by decide) ?_
    exact kb (r_2, v_3) (Option.some.inj h).symm H locs ls hR hS (lv_sub hl [2, 3, 1, 0] rfl)

set_option maxHeartbeats 4000000 in
set_option maxRecDepth 100000 in
theorem w_lp_X5_least_4 (X : Cx cX5_least (some .int) 4 RX5 wsX5_least p s m args meth c) (hK : Kn cA D s) (hT : TL Λ) (hM : 1 ≤ R.frames ∧ 22 ≤ R.locals) (l0 : Int32) (l1 : Int32) {e9 : Int32} : ∀ (n9 : Nat) (s9 : (Int32 × Int32)), iter (bd_X5_least_4 l0 l1) n9 s9 = some e9 → ∀ (kx0 : ∀ (H : Heap) (locs : List Loc) (ls : Array Slot), Rep cA D Λ σ H → va_S (dm Λ) s.heap H locs → lv_has ls 4 [(2, .int e9)] → W p l e R s m args below meth c H locs 0 0 Q (F0 m 28 ls [])), ∀ (H : Heap) (locs : List Loc) (ls : Array Slot), Rep cA D Λ σ H → va_S (dm Λ) s.heap H locs → lv_has ls 4 [(0, .int l0), (1, .int l1), (2, .int s9.1), (3, .int s9.2)] → W p l e R s m args below meth c H locs 0 0 Q (F0 m 4 ls []) := by
  intro n9
  induction n9 with
  | zero => intro s9 h; cases h
  | succ n9 ih =>
    intro s9 h kx0 H locs ls hR hS hl
    obtain ⟨r, hr, h⟩ := of_iter h
    refine w_bd_X5_least_4 X hK hT hM l0 l1 s9 hr (fun z ez H locs ls hR hS hl => ?_) (fun z ez H locs ls hR hS hl => ?_) H locs ls hR hS hl
    · exact ih z (of_itl ez h) kx0 H locs ls hR hS hl
    · have he := of_itr ez h; subst he; exact kx0 H locs ls hR hS hl

set_option maxHeartbeats 4000000 in
set_option maxRecDepth 100000 in
theorem w_X5_least (X : Cx cX5_least (some .int) 4 RX5 wsX5_least p s m args meth c) (hK : Kn cA D s) (hT : TL Λ) (hM : 1 ≤ R.frames ∧ 22 ≤ R.locals) (l0 : Int32) (l1 : Int32) {res : Int32} (h : F_X5_least l0 l1 = some res) (H : Heap) (locs : List Loc) (ls : Array Slot) (hR : Rep cA D Λ σ H) (hS : va_S (dm Λ) s.heap H locs) (hl : lv_has ls 4 [(0, .int l0), (1, .int l1)]) : W p l e R s m args below meth c H locs 0 0 (MQ below (QI cA D Λ (res, σ)) args s 0 0 (dm Λ)) (F0 m 0 ls []) := by
  have hx := X.1
  have hb := X.2.1
  have hown := X.2.2.2.2.1
  have hts := X.2.2.2.2.2.1
  unfold F_X5_least at h
  refine lv_iconst (v := (0 : Int32)) hx hb dX5_least_0 (by decide) ?_
  refine lv_istore_n (lv' := [(2, .int (0 : Int32)), (0, .int l0), (1, .int l1)]) hx hb dX5_least_1 rfl hl (by decide) rfl (fun ls hl => ?_)
  refine lv_iconst (v := (0 : Int32)) hx hb dX5_least_2 (by decide) ?_
  refine lv_istore_n (lv' := [(3, .int (0 : Int32)), (2, .int (0 : Int32)), (0, .int l0), (1, .int l1)]) hx hb dX5_least_3 rfl hl (by decide) rfl (fun ls hl => ?_)
  obtain ⟨e_4, hq_4, h⟩ := of_bind h
  refine w_lp_X5_least_4 X hK hT hM l0 l1  _ ((0 : Int32), (0 : Int32)) hq_4 (fun H locs ls hR hS hl => ?_) H locs ls hR hS (lv_sub hl [2, 3, 1, 0] rfl)
  refine lv_iload_n hx hb dX5_least_28 rfl (lv_at hl 0 rfl) ?_
  exact rt_i X hR hS (congrArg (fun z => (z, σ)) (Option.some.inj h)) dX5_least_29

set_option maxHeartbeats 4000000 in
set_option maxRecDepth 100000 in
theorem c_X5_least (l : Launch) (cA : Nat → ClassId) (D : va_G) (Λ : Lay) (hT : TL Λ) (σ : Sto) (l0 : Int32) (l1 : Int32) {res : Int32} (h : F_X5_least l0 l1 = some res) : Met l yX5_least wsX5_least { frames := 1, cells := 0, slots := 0, locals := 22 } (va_Pc [.int l0, .int l1] (PW cA D Λ σ)) (QI cA D Λ (res, σ)) 0 0 (dm Λ) := by
  refine Met.ofW (cc := cX5_least) (maxL := 4) (ret := (some .int)) (by decide) rfl ?_
  intro p e s m args below meth c s₁ B hml hv
  obtain ⟨rfl, hR, hK⟩ := hv
  have X : Cx cX5_least (some .int) 4 RX5 wsX5_least p s m _ meth c := ⟨B.exec, B.bytes, B.returns, hml, findClass_of_methodNamed B.named, atoms_spec (ws := wsX5_least) B.pre, B.notSynchronized⟩
  have hS : va_S (dm Λ) s.heap s.heap [] := va_S.rf
  have hl := lv_entry ([.int l0, .int l1]) (n := 4) (Nat.le_of_ble_eq_true rfl)
  rw [lg_entry_eq]
  generalize (lg_sl ([.int l0, .int l1]) ++ List.replicate (4 - (lg_sl ([.int l0, .int l1])).length) Slot.unset).toArray = ls at hl ⊢
  have hl : lv_has ls 4 [(0, .int l0), (1, .int l1)] := hl
  exact w_X5_least X hK hT ⟨Nat.le_refl _, Nat.le_refl _⟩ l0 l1 h s.heap [] ls hR hS hl
set_option maxHeartbeats 4000000 in
set_option maxRecDepth 100000 in
theorem w_bd_X5_most_4 (X : Cx cX5_most (some .int) 4 RX5 wsX5_most p s m args meth c) (hK : Kn cA D s) (hT : TL Λ) (hM : 2 ≤ R.frames ∧ 45 ≤ R.locals) (l0 : Int32) (l1 : Int32) (s9 : (Int32 × Int32)) {r : (Int32 × Int32) ⊕ Int32} (h : bd_X5_most_4 l0 l1 s9 = some r) (kb : ∀ z : (Int32 × Int32), r = .inl z → ∀ (H : Heap) (locs : List Loc) (ls : Array Slot), Rep cA D Λ σ H → va_S (dm Λ) s.heap H locs → lv_has ls 4 [(0, .int l0), (1, .int l1), (2, .int z.1), (3, .int z.2)] → W p l e R s m args below meth c H locs 0 0 Q (F0 m 4 ls [])) (kx0 : ∀ z : Int32, r = .inr z → ∀ (H : Heap) (locs : List Loc) (ls : Array Slot), Rep cA D Λ σ H → va_S (dm Λ) s.heap H locs → lv_has ls 4 [(2, .int z)] → W p l e R s m args below meth c H locs 0 0 Q (F0 m 34 ls [])) (H : Heap) (locs : List Loc) (ls : Array Slot) (hR : Rep cA D Λ σ H) (hS : va_S (dm Λ) s.heap H locs) (hl : lv_has ls 4 [(0, .int l0), (1, .int l1), (2, .int s9.1), (3, .int s9.2)]) : W p l e R s m args below meth c H locs 0 0 Q (F0 m 4 ls []) := by
  have hx := X.1
  have hb := X.2.1
  have hown := X.2.2.2.2.1
  have hts := X.2.2.2.2.2.1
  unfold bd_X5_most_4 at h
  refine lv_iload_n hx hb dX5_most_4 rfl (lv_at hl 3 rfl) ?_
  refine lv_iload_n hx hb dX5_most_5 rfl (lv_at hl 1 rfl) ?_
  refine lv_icmp_ge (tgt := 34) hx hb dX5_most_6 (by decide) (fun hc => ?_) (fun hc => ?_)
  · have h := of_pos hc h
    exact kx0 s9.1 (Option.some.inj h).symm H locs ls hR hS (lv_sub hl [2] rfl)
  · have h := of_neg hc h
    refine lv_iload_n hx hb dX5_most_9 rfl (lv_at hl 2 rfl) ?_
    refine lv_iload_n hx hb dX5_most_10 rfl (lv_at hl 0 rfl) ?_
    refine lv_iload_n hx hb dX5_most_11 rfl (lv_at hl 3 rfl) ?_
    refine lv_imul hx hb dX5_most_12 ?_
    refine lv_bipush (v := (16 : Int32)) hx hb dX5_most_13 (by decide) ?_
    refine cl_i (rn_S (As := [.int (l0 * s9.2), .int (16 : Int32)]) (rest := [.int s9.1]) X hK hR hl.1 (c_J9_floorDiv_7cf53 l cA D Λ hT σ (l0 * s9.2) (16 : Int32) (by decide)) (va_cwS 2 hts gX5_most_J9_floorDiv_7cf53 rfl rfl rfl (by decide +kernel) ⟨Nat.le_trans (by decide) hM.1, Nat.le_trans (by decide) hM.2⟩) rfl rfl (Nat.le_of_ble_eq_true rfl) dX5_most_15) hS (fun H locs hR hS => ?_)
    refine lv_topi (fun r_1 e_1 => ?_)
    have h := of_nm e_1 h
    refine lv_iload_n hx hb dX5_most_18 rfl (lv_at hl 0 rfl) ?_
    refine lv_iload_n hx hb dX5_most_19 rfl (lv_at hl 1 rfl) ?_
    obtain ⟨q_2, hq_2, h⟩ := of_bind h
    refine cl_i (rn_S (As := [.int l0, .int l1]) (rest := [.int r_1, .int s9.1]) X hK hR hl.1 (c_X5_least l cA D Λ hT σ l0 l1 hq_2) (va_cwS 2 hts gX5_most_X5_least rfl rfl rfl (by decide +kernel) ⟨Nat.le_trans (by decide) hM.1, Nat.le_trans (by decide) hM.2⟩) rfl rfl (Nat.le_of_ble_eq_true rfl) dX5_most_20) hS (fun H locs hR hS => ?_)
    refine lv_isub hx hb dX5_most_23 ?_
    refine va_mmax hx hb (X.2.2.2.1.trans hl.1.symm) hown (hts (.methodLink RX5 146 Lib.Math.max.name) (by decide +kernel)) (hts (.static Lib.Math.max.name) (by decide +kernel)) (hts (.initialized "java/lang/Math") (by decide +kernel)) (hts (.code Lib.Math.max.name Lib.Math.max.code 2 (some .int)) (by decide +kernel)) (Nat.le_trans (by decide) hM.1) (Nat.le_trans (Nat.le_of_ble_eq_true rfl) hM.2) (Nat.zero_le _) (Nat.zero_le _) dX5_most_24 ?_
    refine lv_topi (fun r_3 e_3 => ?_)
    have h := of_nm e_3 h
    refine lv_istore_n (lv' := [(2, .int r_3), (0, .int l0), (1, .int l1), (3, .int s9.2)]) hx hb dX5_most_27 rfl hl (by decide) rfl (fun ls hl => ?_)
    obtain ⟨v_4, e_v_4⟩ : ∃ y : Int32, y = (s9.2 + (1 : Int32)) := ⟨_, rfl⟩
    have h := of_nm e_v_4 h
    refine lv_iinc (v := v_4) (lv' := [(3, .int v_4), (2, .int r_3), (0, .int l0), (1, .int l1)]) hx hb dX5_most_28 hl (k := 3) rfl (by rw [e_v_4]; rfl) (by decide) rfl (fun ls hl => ?_)
    refine lv_goto (tgt := 4) hx hb dX5_most_31 (by decide) ?_
    exact kb (r_3, v_4) (Option.some.inj h).symm H locs ls hR hS (lv_sub hl [2, 3, 1, 0] rfl)

set_option maxHeartbeats 4000000 in
set_option maxRecDepth 100000 in
theorem w_lp_X5_most_4 (X : Cx cX5_most (some .int) 4 RX5 wsX5_most p s m args meth c) (hK : Kn cA D s) (hT : TL Λ) (hM : 2 ≤ R.frames ∧ 45 ≤ R.locals) (l0 : Int32) (l1 : Int32) {e9 : Int32} : ∀ (n9 : Nat) (s9 : (Int32 × Int32)), iter (bd_X5_most_4 l0 l1) n9 s9 = some e9 → ∀ (kx0 : ∀ (H : Heap) (locs : List Loc) (ls : Array Slot), Rep cA D Λ σ H → va_S (dm Λ) s.heap H locs → lv_has ls 4 [(2, .int e9)] → W p l e R s m args below meth c H locs 0 0 Q (F0 m 34 ls [])), ∀ (H : Heap) (locs : List Loc) (ls : Array Slot), Rep cA D Λ σ H → va_S (dm Λ) s.heap H locs → lv_has ls 4 [(0, .int l0), (1, .int l1), (2, .int s9.1), (3, .int s9.2)] → W p l e R s m args below meth c H locs 0 0 Q (F0 m 4 ls []) := by
  intro n9
  induction n9 with
  | zero => intro s9 h; cases h
  | succ n9 ih =>
    intro s9 h kx0 H locs ls hR hS hl
    obtain ⟨r, hr, h⟩ := of_iter h
    refine w_bd_X5_most_4 X hK hT hM l0 l1 s9 hr (fun z ez H locs ls hR hS hl => ?_) (fun z ez H locs ls hR hS hl => ?_) H locs ls hR hS hl
    · exact ih z (of_itl ez h) kx0 H locs ls hR hS hl
    · have he := of_itr ez h; subst he; exact kx0 H locs ls hR hS hl

set_option maxHeartbeats 4000000 in
set_option maxRecDepth 100000 in
theorem w_X5_most (X : Cx cX5_most (some .int) 4 RX5 wsX5_most p s m args meth c) (hK : Kn cA D s) (hT : TL Λ) (hM : 2 ≤ R.frames ∧ 45 ≤ R.locals) (l0 : Int32) (l1 : Int32) {res : Int32} (h : F_X5_most l0 l1 = some res) (H : Heap) (locs : List Loc) (ls : Array Slot) (hR : Rep cA D Λ σ H) (hS : va_S (dm Λ) s.heap H locs) (hl : lv_has ls 4 [(0, .int l0), (1, .int l1)]) : W p l e R s m args below meth c H locs 0 0 (MQ below (QI cA D Λ (res, σ)) args s 0 0 (dm Λ)) (F0 m 0 ls []) := by
  have hx := X.1
  have hb := X.2.1
  have hown := X.2.2.2.2.1
  have hts := X.2.2.2.2.2.1
  unfold F_X5_most at h
  refine lv_iconst (v := (0 : Int32)) hx hb dX5_most_0 (by decide) ?_
  refine lv_istore_n (lv' := [(2, .int (0 : Int32)), (0, .int l0), (1, .int l1)]) hx hb dX5_most_1 rfl hl (by decide) rfl (fun ls hl => ?_)
  refine lv_iconst (v := (0 : Int32)) hx hb dX5_most_2 (by decide) ?_
  refine lv_istore_n (lv' := [(3, .int (0 : Int32)), (2, .int (0 : Int32)), (0, .int l0), (1, .int l1)]) hx hb dX5_most_3 rfl hl (by decide) rfl (fun ls hl => ?_)
  obtain ⟨e_5, hq_5, h⟩ := of_bind h
  refine w_lp_X5_most_4 X hK hT hM l0 l1  _ ((0 : Int32), (0 : Int32)) hq_5 (fun H locs ls hR hS hl => ?_) H locs ls hR hS (lv_sub hl [2, 3, 1, 0] rfl)
  refine lv_iload_n hx hb dX5_most_34 rfl (lv_at hl 0 rfl) ?_
  exact rt_i X hR hS (congrArg (fun z => (z, σ)) (Option.some.inj h)) dX5_most_35

set_option maxHeartbeats 4000000 in
set_option maxRecDepth 100000 in
theorem c_X5_most (l : Launch) (cA : Nat → ClassId) (D : va_G) (Λ : Lay) (hT : TL Λ) (σ : Sto) (l0 : Int32) (l1 : Int32) {res : Int32} (h : F_X5_most l0 l1 = some res) : Met l yX5_most wsX5_most { frames := 2, cells := 0, slots := 0, locals := 45 } (va_Pc [.int l0, .int l1] (PW cA D Λ σ)) (QI cA D Λ (res, σ)) 0 0 (dm Λ) := by
  refine Met.ofW (cc := cX5_most) (maxL := 4) (ret := (some .int)) (by decide) rfl ?_
  intro p e s m args below meth c s₁ B hml hv
  obtain ⟨rfl, hR, hK⟩ := hv
  have X : Cx cX5_most (some .int) 4 RX5 wsX5_most p s m _ meth c := ⟨B.exec, B.bytes, B.returns, hml, findClass_of_methodNamed B.named, atoms_spec (ws := wsX5_most) B.pre, B.notSynchronized⟩
  have hS : va_S (dm Λ) s.heap s.heap [] := va_S.rf
  have hl := lv_entry ([.int l0, .int l1]) (n := 4) (Nat.le_of_ble_eq_true rfl)
  rw [lg_entry_eq]
  generalize (lg_sl ([.int l0, .int l1]) ++ List.replicate (4 - (lg_sl ([.int l0, .int l1])).length) Slot.unset).toArray = ls at hl ⊢
  have hl : lv_has ls 4 [(0, .int l0), (1, .int l1)] := hl
  exact w_X5_most X hK hT ⟨Nat.le_refl _, Nat.le_refl _⟩ l0 l1 h s.heap [] ls hR hS hl
set_option maxHeartbeats 4000000 in
set_option maxRecDepth 100000 in
theorem w_X5_isShear (X : Cx cX5_isShear (some .boolean) 1 RX5 wsX5_isShear p s m args meth c) (hK : Kn cA D s) (hT : TL Λ) (hM : 1 ≤ R.frames ∧ 25 ≤ R.locals) (l0 : Int32) {res : Int32} (h : F_X5_isShear l0 = res) (H : Heap) (locs : List Loc) (ls : Array Slot) (hR : Rep cA D Λ σ H) (hS : va_S (dm Λ) s.heap H locs) (hl : lv_has ls 1 [(0, .int l0)]) : W p l e R s m args below meth c H locs 0 0 (MQ below (QZ cA D Λ (res, σ)) args s 0 0 (dm Λ)) (F0 m 0 ls []) := by
  have hx := X.1
  have hb := X.2.1
  have hown := X.2.2.2.2.1
  have hts := X.2.2.2.2.2.1
  unfold F_X5_isShear at h
  refine lv_iload_n hx hb dX5_isShear_0 rfl (lv_at hl 0 rfl) ?_
  refine lv_i2l (v := (l0.toInt64)) hx hb dX5_isShear_1 rfl ?_
  refine lv_ldc2 (v := (-16 : Int64)) hx hb hown (hts (.constantLong RX5 161 (-16)) (by decide +kernel)) dX5_isShear_2 ?_
  refine lv_ldc2 (v := (16 : Int64)) hx hb hown (hts (.constantLong RX5 163 (16)) (by decide +kernel)) dX5_isShear_5 ?_
  refine cl_z (rn_S (As := [.long (l0.toInt64), .long (-16 : Int64), .long (16 : Int64)]) (rest := []) X hK hR hl.1 (c_X5_in l cA D Λ hT σ (l0.toInt64) (-16 : Int64) (16 : Int64)) (va_cwS 3 hts gX5_isShear_X5_in rfl rfl rfl (by decide +kernel) ⟨Nat.le_trans (by decide) hM.1, Nat.le_trans (by decide) hM.2⟩) rfl rfl (Nat.le_of_ble_eq_true rfl) dX5_isShear_8) hS (fun hz_1 H locs hR hS => ?_)
  refine lv_topi (fun r_1 e_1 => ?_)
  have h := of_nm e_1 h
  have hz_1 : r_1 = 0 ∨ r_1 = 1 := by rw [e_1]; exact hz_1
  exact rt_z X hR hS (congrArg (fun z => (z, σ)) h) hz_1 dX5_isShear_11

set_option maxHeartbeats 4000000 in
set_option maxRecDepth 100000 in
theorem c_X5_isShear (l : Launch) (cA : Nat → ClassId) (D : va_G) (Λ : Lay) (hT : TL Λ) (σ : Sto) (l0 : Int32) : Met l yX5_isShear wsX5_isShear { frames := 1, cells := 0, slots := 0, locals := 25 } (va_Pc [.int l0] (PW cA D Λ σ)) (QZ cA D Λ ((F_X5_isShear l0), σ)) 0 0 (dm Λ) := by
  refine Met.ofW (cc := cX5_isShear) (maxL := 1) (ret := (some .boolean)) (by decide) rfl ?_
  intro p e s m args below meth c s₁ B hml hv
  obtain ⟨rfl, hR, hK⟩ := hv
  have X : Cx cX5_isShear (some .boolean) 1 RX5 wsX5_isShear p s m _ meth c := ⟨B.exec, B.bytes, B.returns, hml, findClass_of_methodNamed B.named, atoms_spec (ws := wsX5_isShear) B.pre, B.notSynchronized⟩
  have hS : va_S (dm Λ) s.heap s.heap [] := va_S.rf
  have hl := lv_entry ([.int l0]) (n := 1) (Nat.le_of_ble_eq_true rfl)
  rw [lg_entry_eq]
  generalize (lg_sl ([.int l0]) ++ List.replicate (1 - (lg_sl ([.int l0])).length) Slot.unset).toArray = ls at hl ⊢
  have hl : lv_has ls 1 [(0, .int l0)] := hl
  exact w_X5_isShear X hK hT ⟨Nat.le_refl _, Nat.le_refl _⟩ l0 rfl s.heap [] ls hR hS hl
theorem in_X5_goesAcross_6 : ∀ w ∈ u_ws RX5 TX5 24, w ∈ wsX5_goesAcross := by decide +kernel
set_option maxHeartbeats 4000000 in
set_option maxRecDepth 100000 in
theorem w_bd_X5_goesAcross_69 (X : Cx cX5_goesAcross (some .boolean) 7 RX5 wsX5_goesAcross p s m args meth c) (hK : Kn cA D s) (hT : TL Λ) (hM : 3 ≤ R.frames ∧ 68 ≤ R.locals) (a0 : Nat) (l1 : Int32) (l2 : Int32) (l3 : Int32) (l4 : Int32) (l5 : Int32) (s9 : (Int32 × Sto)) (k0 : isK Λ a0 6) {r : (Int32 × Sto) ⊕ Sto} (h : bd_X5_goesAcross_69 Λ a0 l1 l2 l3 l4 l5 s9 = some r) (kb : ∀ z : (Int32 × Sto), r = .inl z → ∀ (H : Heap) (locs : List Loc) (ls : Array Slot), Rep cA D Λ z.2 H → va_S (dm Λ) s.heap H locs → lv_has ls 7 [(0, .ref a0), (1, .int l1), (2, .int l2), (3, .int l3), (4, .int l4), (5, .int l5), (6, .int z.1)] → W p l e R s m args below meth c H locs 0 0 Q (F0 m 69 ls [])) (kx0 : ∀ z : Sto, r = .inr z → ∀ (H : Heap) (locs : List Loc) (ls : Array Slot), Rep cA D Λ z H → va_S (dm Λ) s.heap H locs → lv_has ls 7 [(0, .ref a0), (1, .int l1), (2, .int l2), (3, .int l3), (4, .int l4)] → W p l e R s m args below meth c H locs 0 0 Q (F0 m 111 ls [])) (H : Heap) (locs : List Loc) (ls : Array Slot) (hR : Rep cA D Λ s9.2 H) (hS : va_S (dm Λ) s.heap H locs) (hl : lv_has ls 7 [(0, .ref a0), (1, .int l1), (2, .int l2), (3, .int l3), (4, .int l4), (5, .int l5), (6, .int s9.1)]) : W p l e R s m args below meth c H locs 0 0 Q (F0 m 69 ls []) := by
  have hx := X.1
  have hb := X.2.1
  have hown := X.2.2.2.2.1
  have hts := X.2.2.2.2.2.1
  unfold bd_X5_goesAcross_69 at h
  refine lv_iload hx hb dX5_goesAcross_69 (lv_at hl 6 rfl) ?_
  refine lv_aload_n hx hb dX5_goesAcross_71 rfl (lv_at hl 0 rfl) ?_
  refine rw_getR X hK hT hR 6 2 7 k0 (by decide) (C := RX5) (T := TX5) (N := 24) rfl (by decide) in_X5_goesAcross_6 (by decide +kernel) rfl dX5_goesAcross_72 (fun kf_15 => ?_)
  refine lv_iload_n hx hb dX5_goesAcross_75 rfl (lv_at hl 1 rfl) ?_
  obtain ⟨hg_16, h⟩ := of_guard h
  refine rw_iald X hK hR kf_15 hg_16 dX5_goesAcross_76 ?_
  refine lv_icmp_ge (tgt := 111) hx hb dX5_goesAcross_77 (by decide) (fun hc => ?_) (fun hc => ?_)
  · have h := of_pos hc h
    exact kx0 s9.2 (Option.some.inj h).symm H locs ls hR hS (lv_sub hl [0, 1, 2, 3, 4] rfl)
  · have h := of_neg hc h
    refine lv_aload_n hx hb dX5_goesAcross_80 rfl (lv_at hl 0 rfl) ?_
    refine rw_getR X hK hT hR 6 5 9 k0 (by decide) (C := RX5) (T := TX5) (N := 24) rfl (by decide) in_X5_goesAcross_6 (by decide +kernel) rfl dX5_goesAcross_81 (fun kf_17 => ?_)
    refine lv_iload hx hb dX5_goesAcross_84 (lv_at hl 4 rfl) ?_
    refine lv_bipush (v := (64 : Int32)) hx hb dX5_goesAcross_86 (by decide) ?_
    refine lv_imul hx hb dX5_goesAcross_88 ?_
    refine lv_iload hx hb dX5_goesAcross_89 (lv_at hl 6 rfl) ?_
    refine lv_iadd hx hb dX5_goesAcross_91 ?_
    refine lv_iload hx hb dX5_goesAcross_92 (lv_at hl 5 rfl) ?_
    refine lv_iadd hx hb dX5_goesAcross_94 ?_
    refine lv_aload_n hx hb dX5_goesAcross_95 rfl (lv_at hl 0 rfl) ?_
    refine lv_iload_n hx hb dX5_goesAcross_96 rfl (lv_at hl 1 rfl) ?_
    refine lv_iload hx hb dX5_goesAcross_97 (lv_at hl 6 rfl) ?_
    refine lv_iload hx hb dX5_goesAcross_99 (lv_at hl 4 rfl) ?_
    obtain ⟨q_18, hq_18, h⟩ := of_bind h
    refine cl_z (rn_V (As := [.int l1, .int s9.1, .int l4]) (rest := [.int (((l4 * (64 : Int32)) + s9.1) + l5), .ref (rfA Λ a0 5)]) X hK hR k0 rfl (by decide) hl.1 (c_X5_has l cA D Λ hT s9.2 a0 l1 s9.1 l4 k0 hq_18) (cwV 3 hts gX5_goesAcross_X5_has rfl rfl rfl (by decide +kernel) ⟨Nat.le_trans (by decide) hM.1, Nat.le_trans (by decide) hM.2⟩) rfl rfl (Nat.le_of_ble_eq_true rfl) dX5_goesAcross_101) hS (fun hz_18 H locs hR hS => ?_)
    obtain ⟨hg_19, h⟩ := of_guard h
    refine rw_zast X hK hT hR hS kf_17 hg_19 dX5_goesAcross_104 (fun σ_19 H locs e_19 hR hS => ?_)
    have h := of_nm e_19 h
    obtain ⟨v_20, e_v_20⟩ : ∃ y : Int32, y = (s9.1 + (1 : Int32)) := ⟨_, rfl⟩
    have h := of_nm e_v_20 h
    refine lv_iinc (v := v_20) (lv' := [(6, .int v_20), (0, .ref a0), (1, .int l1), (2, .int l2), (3, .int l3), (4, .int l4), (5, .int l5)]) hx hb dX5_goesAcross_105 hl (k := 6) rfl (by rw [e_v_20]; rfl) (by decide) rfl (fun ls hl => ?_)
    refine lv_goto (tgt := 69) hx hb dX5_goesAcross_108 (by decide) ?_
    exact kb (v_20, σ_19) (Option.some.inj h).symm H locs ls hR hS (lv_sub hl [1, 2, 3, 4, 5, 6, 0] rfl)

set_option maxHeartbeats 4000000 in
set_option maxRecDepth 100000 in
theorem w_lp_X5_goesAcross_69 (X : Cx cX5_goesAcross (some .boolean) 7 RX5 wsX5_goesAcross p s m args meth c) (hK : Kn cA D s) (hT : TL Λ) (hM : 3 ≤ R.frames ∧ 68 ≤ R.locals) (a0 : Nat) (l1 : Int32) (l2 : Int32) (l3 : Int32) (l4 : Int32) (l5 : Int32) (k0 : isK Λ a0 6) {e9 : Sto} : ∀ (n9 : Nat) (s9 : (Int32 × Sto)), iter (bd_X5_goesAcross_69 Λ a0 l1 l2 l3 l4 l5) n9 s9 = some e9 → ∀ (kx0 : ∀ (H : Heap) (locs : List Loc) (ls : Array Slot), Rep cA D Λ e9 H → va_S (dm Λ) s.heap H locs → lv_has ls 7 [(0, .ref a0), (1, .int l1), (2, .int l2), (3, .int l3), (4, .int l4)] → W p l e R s m args below meth c H locs 0 0 Q (F0 m 111 ls [])), ∀ (H : Heap) (locs : List Loc) (ls : Array Slot), Rep cA D Λ s9.2 H → va_S (dm Λ) s.heap H locs → lv_has ls 7 [(0, .ref a0), (1, .int l1), (2, .int l2), (3, .int l3), (4, .int l4), (5, .int l5), (6, .int s9.1)] → W p l e R s m args below meth c H locs 0 0 Q (F0 m 69 ls []) := by
  intro n9
  induction n9 with
  | zero => intro s9 h; cases h
  | succ n9 ih =>
    intro s9 h kx0 H locs ls hR hS hl
    obtain ⟨r, hr, h⟩ := of_iter h
    refine w_bd_X5_goesAcross_69 X hK hT hM a0 l1 l2 l3 l4 l5 s9 k0 hr (fun z ez H locs ls hR hS hl => ?_) (fun z ez H locs ls hR hS hl => ?_) H locs ls hR hS hl
    · exact ih z (of_itl ez h) kx0 H locs ls hR hS hl
    · have he := of_itr ez h; subst he; exact kx0 H locs ls hR hS hl

set_option maxHeartbeats 4000000 in
set_option maxRecDepth 100000 in
theorem w_bd_X5_goesAcross_33 (X : Cx cX5_goesAcross (some .boolean) 7 RX5 wsX5_goesAcross p s m args meth c) (hK : Kn cA D s) (hT : TL Λ) (hM : 3 ≤ R.frames ∧ 68 ≤ R.locals) (a0 : Nat) (l1 : Int32) (l2 : Int32) (l3 : Int32) (s9 : (Int32 × Sto)) (k0 : isK Λ a0 6) {r : (Int32 × Sto) ⊕ Sto} (h : bd_X5_goesAcross_33 Λ a0 l1 l2 l3 s9 = some r) (kb : ∀ z : (Int32 × Sto), r = .inl z → ∀ (H : Heap) (locs : List Loc) (ls : Array Slot), Rep cA D Λ z.2 H → va_S (dm Λ) s.heap H locs → lv_has ls 7 [(0, .ref a0), (1, .int l1), (2, .int l2), (3, .int l3), (4, .int z.1)] → W p l e R s m args below meth c H locs 0 0 Q (F0 m 33 ls [])) (kx0 : ∀ z : Sto, r = .inr z → ∀ (H : Heap) (locs : List Loc) (ls : Array Slot), Rep cA D Λ z H → va_S (dm Λ) s.heap H locs → lv_has ls 7 [(0, .ref a0), (1, .int l1), (3, .int l3)] → W p l e R s m args below meth c H locs 0 0 Q (F0 m 117 ls [])) (H : Heap) (locs : List Loc) (ls : Array Slot) (hR : Rep cA D Λ s9.2 H) (hS : va_S (dm Λ) s.heap H locs) (hl : lv_has ls 7 [(0, .ref a0), (1, .int l1), (2, .int l2), (3, .int l3), (4, .int s9.1)]) : W p l e R s m args below meth c H locs 0 0 Q (F0 m 33 ls []) := by
  have hx := X.1
  have hb := X.2.1
  have hown := X.2.2.2.2.1
  have hts := X.2.2.2.2.2.1
  unfold bd_X5_goesAcross_33 at h
  refine lv_iload hx hb dX5_goesAcross_33 (lv_at hl 4 rfl) ?_
  refine lv_aload_n hx hb dX5_goesAcross_35 rfl (lv_at hl 0 rfl) ?_
  refine rw_getR X hK hT hR 6 3 7 k0 (by decide) (C := RX5) (T := TX5) (N := 24) rfl (by decide) in_X5_goesAcross_6 (by decide +kernel) rfl dX5_goesAcross_36 (fun kf_8 => ?_)
  refine lv_iload_n hx hb dX5_goesAcross_39 rfl (lv_at hl 1 rfl) ?_
  obtain ⟨hg_9, h⟩ := of_guard h
  refine rw_iald X hK hR kf_8 hg_9 dX5_goesAcross_40 ?_
  refine lv_icmp_ge (tgt := 117) hx hb dX5_goesAcross_41 (by decide) (fun hc => ?_) (fun hc => ?_)
  · have h := of_pos hc h
    exact kx0 s9.2 (Option.some.inj h).symm H locs ls hR hS (lv_sub hl [0, 1, 3] rfl)
  · have h := of_neg hc h
    refine lv_iload_n hx hb dX5_goesAcross_44 rfl (lv_at hl 2 rfl) ?_
    refine lv_iload hx hb dX5_goesAcross_45 (lv_at hl 4 rfl) ?_
    refine lv_imul hx hb dX5_goesAcross_47 ?_
    refine lv_bipush (v := (16 : Int32)) hx hb dX5_goesAcross_48 (by decide) ?_
    refine cl_i (rn_S (As := [.int (l2 * s9.1), .int (16 : Int32)]) (rest := []) X hK hR hl.1 (c_J9_floorDiv_7cf53 l cA D Λ hT s9.2 (l2 * s9.1) (16 : Int32) (by decide)) (va_cwS 2 hts gX5_goesAcross_J9_floorDiv_7cf53 rfl rfl rfl (by decide +kernel) ⟨Nat.le_trans (by decide) hM.1, Nat.le_trans (by decide) hM.2⟩) rfl rfl (Nat.le_of_ble_eq_true rfl) dX5_goesAcross_50) hS (fun H locs hR hS => ?_)
    refine lv_topi (fun r_10 e_10 => ?_)
    have h := of_nm e_10 h
    refine lv_iload_n hx hb dX5_goesAcross_53 rfl (lv_at hl 2 rfl) ?_
    refine lv_aload_n hx hb dX5_goesAcross_54 rfl (lv_at hl 0 rfl) ?_
    refine rw_getR X hK hT hR 6 3 7 k0 (by decide) (C := RX5) (T := TX5) (N := 24) rfl (by decide) in_X5_goesAcross_6 (by decide +kernel) rfl dX5_goesAcross_55 (fun kf_11 => ?_)
    refine lv_iload_n hx hb dX5_goesAcross_58 rfl (lv_at hl 1 rfl) ?_
    obtain ⟨hg_12, h⟩ := of_guard h
    refine rw_iald X hK hR kf_11 hg_12 dX5_goesAcross_59 ?_
    obtain ⟨q_13, hq_13, h⟩ := of_bind h
    refine cl_i (rn_S (As := [.int l2, .int (s9.2.1 (rfA Λ a0 3) l1.toNatClampNeg)]) (rest := [.int r_10]) X hK hR hl.1 (c_X5_least l cA D Λ hT s9.2 l2 (s9.2.1 (rfA Λ a0 3) l1.toNatClampNeg) hq_13) (va_cwS 2 hts gX5_goesAcross_X5_least rfl rfl rfl (by decide +kernel) ⟨Nat.le_trans (by decide) hM.1, Nat.le_trans (by decide) hM.2⟩) rfl rfl (Nat.le_of_ble_eq_true rfl) dX5_goesAcross_60) hS (fun H locs hR hS => ?_)
    refine lv_isub hx hb dX5_goesAcross_63 ?_
    refine lv_topi (fun v_14 e_v_14 => ?_)
    have h := of_nm e_v_14 h
    refine lv_istore (lv' := [(5, .int v_14), (0, .ref a0), (1, .int l1), (2, .int l2), (3, .int l3), (4, .int s9.1)]) hx hb dX5_goesAcross_64 hl (by decide) rfl (fun ls hl => ?_)
    refine lv_iconst (v := (0 : Int32)) hx hb dX5_goesAcross_66 (by decide) ?_
    refine lv_istore (lv' := [(6, .int (0 : Int32)), (5, .int v_14), (0, .ref a0), (1, .int l1), (2, .int l2), (3, .int l3), (4, .int s9.1)]) hx hb dX5_goesAcross_67 hl (by decide) rfl (fun ls hl => ?_)
    obtain ⟨e_21, hq_21, h⟩ := of_bind h
    refine w_lp_X5_goesAcross_69 X hK hT hM a0 l1 l2 l3 s9.1 v_14 k0 _ ((0 : Int32), s9.2) hq_21 (fun H locs ls hR hS hl => ?_) H locs ls hR hS (lv_sub hl [2, 3, 4, 5, 6, 1, 0] rfl)
    obtain ⟨v_22, e_v_22⟩ : ∃ y : Int32, y = (s9.1 + (1 : Int32)) := ⟨_, rfl⟩
    have h := of_nm e_v_22 h
    refine lv_iinc (v := v_22) (lv' := [(4, .int v_22), (0, .ref a0), (1, .int l1), (2, .int l2), (3, .int l3)]) hx hb dX5_goesAcross_111 hl (k := 4) rfl (by rw [e_v_22]; rfl) (by decide) rfl (fun ls hl => ?_)
    refine lv_goto (tgt := 33) hx hb dX5_goesAcross_114 (by decide) ?_
    exact kb (v_22, e_21) (Option.some.inj h).symm H locs ls hR hS (lv_sub hl [1, 2, 3, 4, 0] rfl)

set_option maxHeartbeats 4000000 in
set_option maxRecDepth 100000 in
theorem w_lp_X5_goesAcross_33 (X : Cx cX5_goesAcross (some .boolean) 7 RX5 wsX5_goesAcross p s m args meth c) (hK : Kn cA D s) (hT : TL Λ) (hM : 3 ≤ R.frames ∧ 68 ≤ R.locals) (a0 : Nat) (l1 : Int32) (l2 : Int32) (l3 : Int32) (k0 : isK Λ a0 6) {e9 : Sto} : ∀ (n9 : Nat) (s9 : (Int32 × Sto)), iter (bd_X5_goesAcross_33 Λ a0 l1 l2 l3) n9 s9 = some e9 → ∀ (kx0 : ∀ (H : Heap) (locs : List Loc) (ls : Array Slot), Rep cA D Λ e9 H → va_S (dm Λ) s.heap H locs → lv_has ls 7 [(0, .ref a0), (1, .int l1), (3, .int l3)] → W p l e R s m args below meth c H locs 0 0 Q (F0 m 117 ls [])), ∀ (H : Heap) (locs : List Loc) (ls : Array Slot), Rep cA D Λ s9.2 H → va_S (dm Λ) s.heap H locs → lv_has ls 7 [(0, .ref a0), (1, .int l1), (2, .int l2), (3, .int l3), (4, .int s9.1)] → W p l e R s m args below meth c H locs 0 0 Q (F0 m 33 ls []) := by
  intro n9
  induction n9 with
  | zero => intro s9 h; cases h
  | succ n9 ih =>
    intro s9 h kx0 H locs ls hR hS hl
    obtain ⟨r, hr, h⟩ := of_iter h
    refine w_bd_X5_goesAcross_33 X hK hT hM a0 l1 l2 l3 s9 k0 hr (fun z ez H locs ls hR hS hl => ?_) (fun z ez H locs ls hR hS hl => ?_) H locs ls hR hS hl
    · exact ih z (of_itl ez h) kx0 H locs ls hR hS hl
    · have he := of_itr ez h; subst he; exact kx0 H locs ls hR hS hl

set_option maxHeartbeats 4000000 in
set_option maxRecDepth 100000 in
theorem w_X5_goesAcross (X : Cx cX5_goesAcross (some .boolean) 7 RX5 wsX5_goesAcross p s m args meth c) (hK : Kn cA D s) (hT : TL Λ) (hM : 3 ≤ R.frames ∧ 68 ≤ R.locals) (a0 : Nat) (l1 : Int32) (l2 : Int32) (k0 : isK Λ a0 6) {res : Int32 × Sto} (h : F_X5_goesAcross Λ σ a0 l1 l2 = some res) (H : Heap) (locs : List Loc) (ls : Array Slot) (hR : Rep cA D Λ σ H) (hS : va_S (dm Λ) s.heap H locs) (hl : lv_has ls 7 [(0, .ref a0), (1, .int l1), (2, .int l2)]) : W p l e R s m args below meth c H locs 0 0 (MQ below (QZ cA D Λ res) args s 0 0 (dm Λ)) (F0 m 0 ls []) := by
  have hx := X.1
  have hb := X.2.1
  have hown := X.2.2.2.2.1
  have hts := X.2.2.2.2.2.1
  unfold F_X5_goesAcross at h
  refine lv_aload_n hx hb dX5_goesAcross_0 rfl (lv_at hl 0 rfl) ?_
  refine rw_getR X hK hT hR 6 2 7 k0 (by decide) (C := RX5) (T := TX5) (N := 24) rfl (by decide) in_X5_goesAcross_6 (by decide +kernel) rfl dX5_goesAcross_1 (fun kf_1 => ?_)
  refine lv_iload_n hx hb dX5_goesAcross_4 rfl (lv_at hl 1 rfl) ?_
  obtain ⟨hg_2, h⟩ := of_guard h
  refine rw_iald X hK hR kf_1 hg_2 dX5_goesAcross_5 ?_
  refine lv_iload_n hx hb dX5_goesAcross_6 rfl (lv_at hl 2 rfl) ?_
  refine lv_aload_n hx hb dX5_goesAcross_7 rfl (lv_at hl 0 rfl) ?_
  refine rw_getR X hK hT hR 6 3 7 k0 (by decide) (C := RX5) (T := TX5) (N := 24) rfl (by decide) in_X5_goesAcross_6 (by decide +kernel) rfl dX5_goesAcross_8 (fun kf_3 => ?_)
  refine lv_iload_n hx hb dX5_goesAcross_11 rfl (lv_at hl 1 rfl) ?_
  obtain ⟨hg_4, h⟩ := of_guard h
  refine rw_iald X hK hR kf_3 hg_4 dX5_goesAcross_12 ?_
  obtain ⟨q_5, hq_5, h⟩ := of_bind h
  refine cl_i (rn_S (As := [.int l2, .int (σ.1 (rfA Λ a0 3) l1.toNatClampNeg)]) (rest := [.int (σ.1 (rfA Λ a0 2) l1.toNatClampNeg)]) X hK hR hl.1 (c_X5_most l cA D Λ hT σ l2 (σ.1 (rfA Λ a0 3) l1.toNatClampNeg) hq_5) (va_cwS 2 hts gX5_goesAcross_X5_most rfl rfl rfl (by decide +kernel) ⟨Nat.le_trans (by decide) hM.1, Nat.le_trans (by decide) hM.2⟩) rfl rfl (Nat.le_of_ble_eq_true rfl) dX5_goesAcross_13) hS (fun H locs hR hS => ?_)
  refine lv_iadd hx hb dX5_goesAcross_16 ?_
  refine lv_topi (fun v_6 e_v_6 => ?_)
  have h := of_nm e_v_6 h
  refine lv_istore_n (lv' := [(3, .int v_6), (0, .ref a0), (1, .int l1), (2, .int l2)]) hx hb dX5_goesAcross_17 rfl hl (by decide) rfl (fun ls hl => ?_)
  refine lv_iload_n hx hb dX5_goesAcross_18 rfl (lv_at hl 0 rfl) ?_
  refine lv_bipush (v := (64 : Int32)) hx hb dX5_goesAcross_19 (by decide) ?_
  refine lv_icmp_le (tgt := 26) hx hb dX5_goesAcross_21 (by decide) (fun hc => ?_) (fun hc => ?_)
  · have h := of_pos hc h
    refine lv_aload_n hx hb dX5_goesAcross_26 rfl (lv_at hl 1 rfl) ?_
    obtain ⟨q_7, hq_7, h⟩ := of_bind h
    refine cl_v (rn_V (As := []) (rest := []) X hK hR k0 rfl (by decide) hl.1 (c_X5_blank l cA D Λ hT σ a0 k0 hq_7) (cwV 0 hts gX5_goesAcross_X5_blank rfl rfl rfl (by decide +kernel) ⟨Nat.le_trans (by decide) hM.1, Nat.le_trans (by decide) hM.2⟩) rfl rfl (Nat.le_of_ble_eq_true rfl) dX5_goesAcross_27) hS (fun H locs hR hS => ?_)
    refine lv_iconst (v := (0 : Int32)) hx hb dX5_goesAcross_30 (by decide) ?_
    refine lv_istore (lv' := [(4, .int (0 : Int32)), (3, .int v_6), (0, .ref a0), (1, .int l1), (2, .int l2)]) hx hb dX5_goesAcross_31 hl (by decide) rfl (fun ls hl => ?_)
    obtain ⟨e_23, hq_23, h⟩ := of_bind h
    refine w_lp_X5_goesAcross_33 X hK hT hM a0 l1 l2 v_6 k0 _ ((0 : Int32), q_7) hq_23 (fun H locs ls hR hS hl => ?_) H locs ls hR hS (lv_sub hl [2, 3, 4, 1, 0] rfl)
    refine lv_aload_n hx hb dX5_goesAcross_117 rfl (lv_at hl 0 rfl) ?_
    refine lv_iload_n hx hb dX5_goesAcross_118 rfl (lv_at hl 1 rfl) ?_
    refine lv_iload_n hx hb dX5_goesAcross_119 rfl (lv_at hl 2 rfl) ?_
    refine lv_aload_n hx hb dX5_goesAcross_120 rfl (lv_at hl 0 rfl) ?_
    refine rw_getR X hK hT hR 6 3 7 k0 (by decide) (C := RX5) (T := TX5) (N := 24) rfl (by decide) in_X5_goesAcross_6 (by decide +kernel) rfl dX5_goesAcross_121 (fun kf_24 => ?_)
    refine lv_iload_n hx hb dX5_goesAcross_124 rfl (lv_at hl 1 rfl) ?_
    obtain ⟨hg_25, h⟩ := of_guard h
    refine rw_iald X hK hR kf_24 hg_25 dX5_goesAcross_125 ?_
    obtain ⟨q_26, hq_26, h⟩ := of_bind h
    refine cl_v (rn_V (As := [.int l1, .int v_6, .int (e_23.1 (rfA Λ a0 3) l1.toNatClampNeg)]) (rest := []) X hK hR k0 rfl (by decide) hl.1 (c_X5_becomes l cA D Λ hT e_23 a0 l1 v_6 (e_23.1 (rfA Λ a0 3) l1.toNatClampNeg) k0 hq_26) (cwV 3 hts gX5_goesAcross_X5_becomes rfl rfl rfl (by decide +kernel) ⟨Nat.le_trans (by decide) hM.1, Nat.le_trans (by decide) hM.2⟩) rfl rfl (Nat.le_of_ble_eq_true rfl) dX5_goesAcross_126) hS (fun H locs hR hS => ?_)
    refine lv_iconst (v := (1 : Int32)) hx hb dX5_goesAcross_129 (by decide) ?_
    exact rt_z X hR hS (Option.some.inj h) (Or.inr rfl) dX5_goesAcross_130
  · have h := of_neg hc h
    refine lv_iconst (v := (0 : Int32)) hx hb dX5_goesAcross_24 (by decide) ?_
    exact rt_z X hR hS (Option.some.inj h) (Or.inl rfl) dX5_goesAcross_25

set_option maxHeartbeats 4000000 in
set_option maxRecDepth 100000 in
theorem c_X5_goesAcross (l : Launch) (cA : Nat → ClassId) (D : va_G) (Λ : Lay) (hT : TL Λ) (σ : Sto) (a0 : Nat) (l1 : Int32) (l2 : Int32) (k0 : isK Λ a0 6) {res : Int32 × Sto} (h : F_X5_goesAcross Λ σ a0 l1 l2 = some res) : Met l yX5_goesAcross wsX5_goesAcross { frames := 3, cells := 0, slots := 0, locals := 68 } (va_Pc [.ref a0, .int l1, .int l2] (PW cA D Λ σ)) (QZ cA D Λ res) 0 0 (dm Λ) := by
  refine Met.ofW (cc := cX5_goesAcross) (maxL := 7) (ret := (some .boolean)) (by decide) rfl ?_
  intro p e s m args below meth c s₁ B hml hv
  obtain ⟨rfl, hR, hK⟩ := hv
  have X : Cx cX5_goesAcross (some .boolean) 7 RX5 wsX5_goesAcross p s m _ meth c := ⟨B.exec, B.bytes, B.returns, hml, findClass_of_methodNamed B.named, atoms_spec (ws := wsX5_goesAcross) B.pre, B.notSynchronized⟩
  have hS : va_S (dm Λ) s.heap s.heap [] := va_S.rf
  have hl := lv_entry ([.ref a0, .int l1, .int l2]) (n := 7) (Nat.le_of_ble_eq_true rfl)
  rw [lg_entry_eq]
  generalize (lg_sl ([.ref a0, .int l1, .int l2]) ++ List.replicate (7 - (lg_sl ([.ref a0, .int l1, .int l2])).length) Slot.unset).toArray = ls at hl ⊢
  have hl : lv_has ls 7 [(0, .ref a0), (1, .int l1), (2, .int l2)] := hl
  exact w_X5_goesAcross X hK hT ⟨Nat.le_refl _, Nat.le_refl _⟩ a0 l1 l2 k0 h s.heap [] ls hR hS hl
theorem in_X5_goesUp_6 : ∀ w ∈ u_ws RX5 TX5 24, w ∈ wsX5_goesUp := by decide +kernel
set_option maxHeartbeats 4000000 in
set_option maxRecDepth 100000 in
theorem w_bd_X5_goesUp_69 (X : Cx cX5_goesUp (some .boolean) 7 RX5 wsX5_goesUp p s m args meth c) (hK : Kn cA D s) (hT : TL Λ) (hM : 3 ≤ R.frames ∧ 68 ≤ R.locals) (a0 : Nat) (l1 : Int32) (l2 : Int32) (l3 : Int32) (l4 : Int32) (l5 : Int32) (s9 : (Int32 × Sto)) (k0 : isK Λ a0 6) {r : (Int32 × Sto) ⊕ Sto} (h : bd_X5_goesUp_69 Λ a0 l1 l2 l3 l4 l5 s9 = some r) (kb : ∀ z : (Int32 × Sto), r = .inl z → ∀ (H : Heap) (locs : List Loc) (ls : Array Slot), Rep cA D Λ z.2 H → va_S (dm Λ) s.heap H locs → lv_has ls 7 [(0, .ref a0), (1, .int l1), (2, .int l2), (3, .int l3), (4, .int l4), (5, .int l5), (6, .int z.1)] → W p l e R s m args below meth c H locs 0 0 Q (F0 m 69 ls [])) (kx0 : ∀ z : Sto, r = .inr z → ∀ (H : Heap) (locs : List Loc) (ls : Array Slot), Rep cA D Λ z H → va_S (dm Λ) s.heap H locs → lv_has ls 7 [(0, .ref a0), (1, .int l1), (2, .int l2), (3, .int l3), (4, .int l4)] → W p l e R s m args below meth c H locs 0 0 Q (F0 m 111 ls [])) (H : Heap) (locs : List Loc) (ls : Array Slot) (hR : Rep cA D Λ s9.2 H) (hS : va_S (dm Λ) s.heap H locs) (hl : lv_has ls 7 [(0, .ref a0), (1, .int l1), (2, .int l2), (3, .int l3), (4, .int l4), (5, .int l5), (6, .int s9.1)]) : W p l e R s m args below meth c H locs 0 0 Q (F0 m 69 ls []) := by
  have hx := X.1
  have hb := X.2.1
  have hown := X.2.2.2.2.1
  have hts := X.2.2.2.2.2.1
  unfold bd_X5_goesUp_69 at h
  refine lv_iload hx hb dX5_goesUp_69 (lv_at hl 6 rfl) ?_
  refine lv_aload_n hx hb dX5_goesUp_71 rfl (lv_at hl 0 rfl) ?_
  refine rw_getR X hK hT hR 6 3 7 k0 (by decide) (C := RX5) (T := TX5) (N := 24) rfl (by decide) in_X5_goesUp_6 (by decide +kernel) rfl dX5_goesUp_72 (fun kf_15 => ?_)
  refine lv_iload_n hx hb dX5_goesUp_75 rfl (lv_at hl 1 rfl) ?_
  obtain ⟨hg_16, h⟩ := of_guard h
  refine rw_iald X hK hR kf_15 hg_16 dX5_goesUp_76 ?_
  refine lv_icmp_ge (tgt := 111) hx hb dX5_goesUp_77 (by decide) (fun hc => ?_) (fun hc => ?_)
  · have h := of_pos hc h
    exact kx0 s9.2 (Option.some.inj h).symm H locs ls hR hS (lv_sub hl [0, 1, 2, 3, 4] rfl)
  · have h := of_neg hc h
    refine lv_aload_n hx hb dX5_goesUp_80 rfl (lv_at hl 0 rfl) ?_
    refine rw_getR X hK hT hR 6 5 9 k0 (by decide) (C := RX5) (T := TX5) (N := 24) rfl (by decide) in_X5_goesUp_6 (by decide +kernel) rfl dX5_goesUp_81 (fun kf_17 => ?_)
    refine lv_iload hx hb dX5_goesUp_84 (lv_at hl 6 rfl) ?_
    refine lv_iload hx hb dX5_goesUp_86 (lv_at hl 5 rfl) ?_
    refine lv_iadd hx hb dX5_goesUp_88 ?_
    refine lv_bipush (v := (64 : Int32)) hx hb dX5_goesUp_89 (by decide) ?_
    refine lv_imul hx hb dX5_goesUp_91 ?_
    refine lv_iload hx hb dX5_goesUp_92 (lv_at hl 4 rfl) ?_
    refine lv_iadd hx hb dX5_goesUp_94 ?_
    refine lv_aload_n hx hb dX5_goesUp_95 rfl (lv_at hl 0 rfl) ?_
    refine lv_iload_n hx hb dX5_goesUp_96 rfl (lv_at hl 1 rfl) ?_
    refine lv_iload hx hb dX5_goesUp_97 (lv_at hl 4 rfl) ?_
    refine lv_iload hx hb dX5_goesUp_99 (lv_at hl 6 rfl) ?_
    obtain ⟨q_18, hq_18, h⟩ := of_bind h
    refine cl_z (rn_V (As := [.int l1, .int l4, .int s9.1]) (rest := [.int (((s9.1 + l5) * (64 : Int32)) + l4), .ref (rfA Λ a0 5)]) X hK hR k0 rfl (by decide) hl.1 (c_X5_has l cA D Λ hT s9.2 a0 l1 l4 s9.1 k0 hq_18) (cwV 3 hts gX5_goesUp_X5_has rfl rfl rfl (by decide +kernel) ⟨Nat.le_trans (by decide) hM.1, Nat.le_trans (by decide) hM.2⟩) rfl rfl (Nat.le_of_ble_eq_true rfl) dX5_goesUp_101) hS (fun hz_18 H locs hR hS => ?_)
    obtain ⟨hg_19, h⟩ := of_guard h
    refine rw_zast X hK hT hR hS kf_17 hg_19 dX5_goesUp_104 (fun σ_19 H locs e_19 hR hS => ?_)
    have h := of_nm e_19 h
    obtain ⟨v_20, e_v_20⟩ : ∃ y : Int32, y = (s9.1 + (1 : Int32)) := ⟨_, rfl⟩
    have h := of_nm e_v_20 h
    refine lv_iinc (v := v_20) (lv' := [(6, .int v_20), (0, .ref a0), (1, .int l1), (2, .int l2), (3, .int l3), (4, .int l4), (5, .int l5)]) hx hb dX5_goesUp_105 hl (k := 6) rfl (by rw [e_v_20]; rfl) (by decide) rfl (fun ls hl => ?_)
    refine lv_goto (tgt := 69) hx hb dX5_goesUp_108 (by decide) ?_
    exact kb (v_20, σ_19) (Option.some.inj h).symm H locs ls hR hS (lv_sub hl [1, 2, 3, 4, 5, 6, 0] rfl)

set_option maxHeartbeats 4000000 in
set_option maxRecDepth 100000 in
theorem w_lp_X5_goesUp_69 (X : Cx cX5_goesUp (some .boolean) 7 RX5 wsX5_goesUp p s m args meth c) (hK : Kn cA D s) (hT : TL Λ) (hM : 3 ≤ R.frames ∧ 68 ≤ R.locals) (a0 : Nat) (l1 : Int32) (l2 : Int32) (l3 : Int32) (l4 : Int32) (l5 : Int32) (k0 : isK Λ a0 6) {e9 : Sto} : ∀ (n9 : Nat) (s9 : (Int32 × Sto)), iter (bd_X5_goesUp_69 Λ a0 l1 l2 l3 l4 l5) n9 s9 = some e9 → ∀ (kx0 : ∀ (H : Heap) (locs : List Loc) (ls : Array Slot), Rep cA D Λ e9 H → va_S (dm Λ) s.heap H locs → lv_has ls 7 [(0, .ref a0), (1, .int l1), (2, .int l2), (3, .int l3), (4, .int l4)] → W p l e R s m args below meth c H locs 0 0 Q (F0 m 111 ls [])), ∀ (H : Heap) (locs : List Loc) (ls : Array Slot), Rep cA D Λ s9.2 H → va_S (dm Λ) s.heap H locs → lv_has ls 7 [(0, .ref a0), (1, .int l1), (2, .int l2), (3, .int l3), (4, .int l4), (5, .int l5), (6, .int s9.1)] → W p l e R s m args below meth c H locs 0 0 Q (F0 m 69 ls []) := by
  intro n9
  induction n9 with
  | zero => intro s9 h; cases h
  | succ n9 ih =>
    intro s9 h kx0 H locs ls hR hS hl
    obtain ⟨r, hr, h⟩ := of_iter h
    refine w_bd_X5_goesUp_69 X hK hT hM a0 l1 l2 l3 l4 l5 s9 k0 hr (fun z ez H locs ls hR hS hl => ?_) (fun z ez H locs ls hR hS hl => ?_) H locs ls hR hS hl
    · exact ih z (of_itl ez h) kx0 H locs ls hR hS hl
    · have he := of_itr ez h; subst he; exact kx0 H locs ls hR hS hl

set_option maxHeartbeats 4000000 in
set_option maxRecDepth 100000 in
theorem w_bd_X5_goesUp_33 (X : Cx cX5_goesUp (some .boolean) 7 RX5 wsX5_goesUp p s m args meth c) (hK : Kn cA D s) (hT : TL Λ) (hM : 3 ≤ R.frames ∧ 68 ≤ R.locals) (a0 : Nat) (l1 : Int32) (l2 : Int32) (l3 : Int32) (s9 : (Int32 × Sto)) (k0 : isK Λ a0 6) {r : (Int32 × Sto) ⊕ Sto} (h : bd_X5_goesUp_33 Λ a0 l1 l2 l3 s9 = some r) (kb : ∀ z : (Int32 × Sto), r = .inl z → ∀ (H : Heap) (locs : List Loc) (ls : Array Slot), Rep cA D Λ z.2 H → va_S (dm Λ) s.heap H locs → lv_has ls 7 [(0, .ref a0), (1, .int l1), (2, .int l2), (3, .int l3), (4, .int z.1)] → W p l e R s m args below meth c H locs 0 0 Q (F0 m 33 ls [])) (kx0 : ∀ z : Sto, r = .inr z → ∀ (H : Heap) (locs : List Loc) (ls : Array Slot), Rep cA D Λ z H → va_S (dm Λ) s.heap H locs → lv_has ls 7 [(0, .ref a0), (1, .int l1), (3, .int l3)] → W p l e R s m args below meth c H locs 0 0 Q (F0 m 117 ls [])) (H : Heap) (locs : List Loc) (ls : Array Slot) (hR : Rep cA D Λ s9.2 H) (hS : va_S (dm Λ) s.heap H locs) (hl : lv_has ls 7 [(0, .ref a0), (1, .int l1), (2, .int l2), (3, .int l3), (4, .int s9.1)]) : W p l e R s m args below meth c H locs 0 0 Q (F0 m 33 ls []) := by
  have hx := X.1
  have hb := X.2.1
  have hown := X.2.2.2.2.1
  have hts := X.2.2.2.2.2.1
  unfold bd_X5_goesUp_33 at h
  refine lv_iload hx hb dX5_goesUp_33 (lv_at hl 4 rfl) ?_
  refine lv_aload_n hx hb dX5_goesUp_35 rfl (lv_at hl 0 rfl) ?_
  refine rw_getR X hK hT hR 6 2 7 k0 (by decide) (C := RX5) (T := TX5) (N := 24) rfl (by decide) in_X5_goesUp_6 (by decide +kernel) rfl dX5_goesUp_36 (fun kf_8 => ?_)
  refine lv_iload_n hx hb dX5_goesUp_39 rfl (lv_at hl 1 rfl) ?_
  obtain ⟨hg_9, h⟩ := of_guard h
  refine rw_iald X hK hR kf_8 hg_9 dX5_goesUp_40 ?_
  refine lv_icmp_ge (tgt := 117) hx hb dX5_goesUp_41 (by decide) (fun hc => ?_) (fun hc => ?_)
  · have h := of_pos hc h
    exact kx0 s9.2 (Option.some.inj h).symm H locs ls hR hS (lv_sub hl [0, 1, 3] rfl)
  · have h := of_neg hc h
    refine lv_iload_n hx hb dX5_goesUp_44 rfl (lv_at hl 2 rfl) ?_
    refine lv_iload hx hb dX5_goesUp_45 (lv_at hl 4 rfl) ?_
    refine lv_imul hx hb dX5_goesUp_47 ?_
    refine lv_bipush (v := (16 : Int32)) hx hb dX5_goesUp_48 (by decide) ?_
    refine cl_i (rn_S (As := [.int (l2 * s9.1), .int (16 : Int32)]) (rest := []) X hK hR hl.1 (c_J9_floorDiv_7cf53 l cA D Λ hT s9.2 (l2 * s9.1) (16 : Int32) (by decide)) (va_cwS 2 hts gX5_goesUp_J9_floorDiv_7cf53 rfl rfl rfl (by decide +kernel) ⟨Nat.le_trans (by decide) hM.1, Nat.le_trans (by decide) hM.2⟩) rfl rfl (Nat.le_of_ble_eq_true rfl) dX5_goesUp_50) hS (fun H locs hR hS => ?_)
    refine lv_topi (fun r_10 e_10 => ?_)
    have h := of_nm e_10 h
    refine lv_iload_n hx hb dX5_goesUp_53 rfl (lv_at hl 2 rfl) ?_
    refine lv_aload_n hx hb dX5_goesUp_54 rfl (lv_at hl 0 rfl) ?_
    refine rw_getR X hK hT hR 6 2 7 k0 (by decide) (C := RX5) (T := TX5) (N := 24) rfl (by decide) in_X5_goesUp_6 (by decide +kernel) rfl dX5_goesUp_55 (fun kf_11 => ?_)
    refine lv_iload_n hx hb dX5_goesUp_58 rfl (lv_at hl 1 rfl) ?_
    obtain ⟨hg_12, h⟩ := of_guard h
    refine rw_iald X hK hR kf_11 hg_12 dX5_goesUp_59 ?_
    obtain ⟨q_13, hq_13, h⟩ := of_bind h
    refine cl_i (rn_S (As := [.int l2, .int (s9.2.1 (rfA Λ a0 2) l1.toNatClampNeg)]) (rest := [.int r_10]) X hK hR hl.1 (c_X5_least l cA D Λ hT s9.2 l2 (s9.2.1 (rfA Λ a0 2) l1.toNatClampNeg) hq_13) (va_cwS 2 hts gX5_goesUp_X5_least rfl rfl rfl (by decide +kernel) ⟨Nat.le_trans (by decide) hM.1, Nat.le_trans (by decide) hM.2⟩) rfl rfl (Nat.le_of_ble_eq_true rfl) dX5_goesUp_60) hS (fun H locs hR hS => ?_)
    refine lv_isub hx hb dX5_goesUp_63 ?_
    refine lv_topi (fun v_14 e_v_14 => ?_)
    have h := of_nm e_v_14 h
    refine lv_istore (lv' := [(5, .int v_14), (0, .ref a0), (1, .int l1), (2, .int l2), (3, .int l3), (4, .int s9.1)]) hx hb dX5_goesUp_64 hl (by decide) rfl (fun ls hl => ?_)
    refine lv_iconst (v := (0 : Int32)) hx hb dX5_goesUp_66 (by decide) ?_
    refine lv_istore (lv' := [(6, .int (0 : Int32)), (5, .int v_14), (0, .ref a0), (1, .int l1), (2, .int l2), (3, .int l3), (4, .int s9.1)]) hx hb dX5_goesUp_67 hl (by decide) rfl (fun ls hl => ?_)
    obtain ⟨e_21, hq_21, h⟩ := of_bind h
    refine w_lp_X5_goesUp_69 X hK hT hM a0 l1 l2 l3 s9.1 v_14 k0 _ ((0 : Int32), s9.2) hq_21 (fun H locs ls hR hS hl => ?_) H locs ls hR hS (lv_sub hl [2, 3, 4, 5, 6, 1, 0] rfl)
    obtain ⟨v_22, e_v_22⟩ : ∃ y : Int32, y = (s9.1 + (1 : Int32)) := ⟨_, rfl⟩
    have h := of_nm e_v_22 h
    refine lv_iinc (v := v_22) (lv' := [(4, .int v_22), (0, .ref a0), (1, .int l1), (2, .int l2), (3, .int l3)]) hx hb dX5_goesUp_111 hl (k := 4) rfl (by rw [e_v_22]; rfl) (by decide) rfl (fun ls hl => ?_)
    refine lv_goto (tgt := 33) hx hb dX5_goesUp_114 (by decide) ?_
    exact kb (v_22, e_21) (Option.some.inj h).symm H locs ls hR hS (lv_sub hl [1, 2, 3, 4, 0] rfl)

set_option maxHeartbeats 4000000 in
set_option maxRecDepth 100000 in
theorem w_lp_X5_goesUp_33 (X : Cx cX5_goesUp (some .boolean) 7 RX5 wsX5_goesUp p s m args meth c) (hK : Kn cA D s) (hT : TL Λ) (hM : 3 ≤ R.frames ∧ 68 ≤ R.locals) (a0 : Nat) (l1 : Int32) (l2 : Int32) (l3 : Int32) (k0 : isK Λ a0 6) {e9 : Sto} : ∀ (n9 : Nat) (s9 : (Int32 × Sto)), iter (bd_X5_goesUp_33 Λ a0 l1 l2 l3) n9 s9 = some e9 → ∀ (kx0 : ∀ (H : Heap) (locs : List Loc) (ls : Array Slot), Rep cA D Λ e9 H → va_S (dm Λ) s.heap H locs → lv_has ls 7 [(0, .ref a0), (1, .int l1), (3, .int l3)] → W p l e R s m args below meth c H locs 0 0 Q (F0 m 117 ls [])), ∀ (H : Heap) (locs : List Loc) (ls : Array Slot), Rep cA D Λ s9.2 H → va_S (dm Λ) s.heap H locs → lv_has ls 7 [(0, .ref a0), (1, .int l1), (2, .int l2), (3, .int l3), (4, .int s9.1)] → W p l e R s m args below meth c H locs 0 0 Q (F0 m 33 ls []) := by
  intro n9
  induction n9 with
  | zero => intro s9 h; cases h
  | succ n9 ih =>
    intro s9 h kx0 H locs ls hR hS hl
    obtain ⟨r, hr, h⟩ := of_iter h
    refine w_bd_X5_goesUp_33 X hK hT hM a0 l1 l2 l3 s9 k0 hr (fun z ez H locs ls hR hS hl => ?_) (fun z ez H locs ls hR hS hl => ?_) H locs ls hR hS hl
    · exact ih z (of_itl ez h) kx0 H locs ls hR hS hl
    · have he := of_itr ez h; subst he; exact kx0 H locs ls hR hS hl

set_option maxHeartbeats 4000000 in
set_option maxRecDepth 100000 in
theorem w_X5_goesUp (X : Cx cX5_goesUp (some .boolean) 7 RX5 wsX5_goesUp p s m args meth c) (hK : Kn cA D s) (hT : TL Λ) (hM : 3 ≤ R.frames ∧ 68 ≤ R.locals) (a0 : Nat) (l1 : Int32) (l2 : Int32) (k0 : isK Λ a0 6) {res : Int32 × Sto} (h : F_X5_goesUp Λ σ a0 l1 l2 = some res) (H : Heap) (locs : List Loc) (ls : Array Slot) (hR : Rep cA D Λ σ H) (hS : va_S (dm Λ) s.heap H locs) (hl : lv_has ls 7 [(0, .ref a0), (1, .int l1), (2, .int l2)]) : W p l e R s m args below meth c H locs 0 0 (MQ below (QZ cA D Λ res) args s 0 0 (dm Λ)) (F0 m 0 ls []) := by
  have hx := X.1
  have hb := X.2.1
  have hown := X.2.2.2.2.1
  have hts := X.2.2.2.2.2.1
  unfold F_X5_goesUp at h
  refine lv_aload_n hx hb dX5_goesUp_0 rfl (lv_at hl 0 rfl) ?_
  refine rw_getR X hK hT hR 6 3 7 k0 (by decide) (C := RX5) (T := TX5) (N := 24) rfl (by decide) in_X5_goesUp_6 (by decide +kernel) rfl dX5_goesUp_1 (fun kf_1 => ?_)
  refine lv_iload_n hx hb dX5_goesUp_4 rfl (lv_at hl 1 rfl) ?_
  obtain ⟨hg_2, h⟩ := of_guard h
  refine rw_iald X hK hR kf_1 hg_2 dX5_goesUp_5 ?_
  refine lv_iload_n hx hb dX5_goesUp_6 rfl (lv_at hl 2 rfl) ?_
  refine lv_aload_n hx hb dX5_goesUp_7 rfl (lv_at hl 0 rfl) ?_
  refine rw_getR X hK hT hR 6 2 7 k0 (by decide) (C := RX5) (T := TX5) (N := 24) rfl (by decide) in_X5_goesUp_6 (by decide +kernel) rfl dX5_goesUp_8 (fun kf_3 => ?_)
  refine lv_iload_n hx hb dX5_goesUp_11 rfl (lv_at hl 1 rfl) ?_
  obtain ⟨hg_4, h⟩ := of_guard h
  refine rw_iald X hK hR kf_3 hg_4 dX5_goesUp_12 ?_
  obtain ⟨q_5, hq_5, h⟩ := of_bind h
  refine cl_i (rn_S (As := [.int l2, .int (σ.1 (rfA Λ a0 2) l1.toNatClampNeg)]) (rest := [.int (σ.1 (rfA Λ a0 3) l1.toNatClampNeg)]) X hK hR hl.1 (c_X5_most l cA D Λ hT σ l2 (σ.1 (rfA Λ a0 2) l1.toNatClampNeg) hq_5) (va_cwS 2 hts gX5_goesUp_X5_most rfl rfl rfl (by decide +kernel) ⟨Nat.le_trans (by decide) hM.1, Nat.le_trans (by decide) hM.2⟩) rfl rfl (Nat.le_of_ble_eq_true rfl) dX5_goesUp_13) hS (fun H locs hR hS => ?_)
  refine lv_iadd hx hb dX5_goesUp_16 ?_
  refine lv_topi (fun v_6 e_v_6 => ?_)
  have h := of_nm e_v_6 h
  refine lv_istore_n (lv' := [(3, .int v_6), (0, .ref a0), (1, .int l1), (2, .int l2)]) hx hb dX5_goesUp_17 rfl hl (by decide) rfl (fun ls hl => ?_)
  refine lv_iload_n hx hb dX5_goesUp_18 rfl (lv_at hl 0 rfl) ?_
  refine lv_bipush (v := (64 : Int32)) hx hb dX5_goesUp_19 (by decide) ?_
  refine lv_icmp_le (tgt := 26) hx hb dX5_goesUp_21 (by decide) (fun hc => ?_) (fun hc => ?_)
  · have h := of_pos hc h
    refine lv_aload_n hx hb dX5_goesUp_26 rfl (lv_at hl 1 rfl) ?_
    obtain ⟨q_7, hq_7, h⟩ := of_bind h
    refine cl_v (rn_V (As := []) (rest := []) X hK hR k0 rfl (by decide) hl.1 (c_X5_blank l cA D Λ hT σ a0 k0 hq_7) (cwV 0 hts gX5_goesUp_X5_blank rfl rfl rfl (by decide +kernel) ⟨Nat.le_trans (by decide) hM.1, Nat.le_trans (by decide) hM.2⟩) rfl rfl (Nat.le_of_ble_eq_true rfl) dX5_goesUp_27) hS (fun H locs hR hS => ?_)
    refine lv_iconst (v := (0 : Int32)) hx hb dX5_goesUp_30 (by decide) ?_
    refine lv_istore (lv' := [(4, .int (0 : Int32)), (3, .int v_6), (0, .ref a0), (1, .int l1), (2, .int l2)]) hx hb dX5_goesUp_31 hl (by decide) rfl (fun ls hl => ?_)
    obtain ⟨e_23, hq_23, h⟩ := of_bind h
    refine w_lp_X5_goesUp_33 X hK hT hM a0 l1 l2 v_6 k0 _ ((0 : Int32), q_7) hq_23 (fun H locs ls hR hS hl => ?_) H locs ls hR hS (lv_sub hl [2, 3, 4, 1, 0] rfl)
    refine lv_aload_n hx hb dX5_goesUp_117 rfl (lv_at hl 0 rfl) ?_
    refine lv_iload_n hx hb dX5_goesUp_118 rfl (lv_at hl 1 rfl) ?_
    refine lv_aload_n hx hb dX5_goesUp_119 rfl (lv_at hl 0 rfl) ?_
    refine rw_getR X hK hT hR 6 2 7 k0 (by decide) (C := RX5) (T := TX5) (N := 24) rfl (by decide) in_X5_goesUp_6 (by decide +kernel) rfl dX5_goesUp_120 (fun kf_24 => ?_)
    refine lv_iload_n hx hb dX5_goesUp_123 rfl (lv_at hl 1 rfl) ?_
    obtain ⟨hg_25, h⟩ := of_guard h
    refine rw_iald X hK hR kf_24 hg_25 dX5_goesUp_124 ?_
    refine lv_iload_n hx hb dX5_goesUp_125 rfl (lv_at hl 2 rfl) ?_
    obtain ⟨q_26, hq_26, h⟩ := of_bind h
    refine cl_v (rn_V (As := [.int l1, .int (e_23.1 (rfA Λ a0 2) l1.toNatClampNeg), .int v_6]) (rest := []) X hK hR k0 rfl (by decide) hl.1 (c_X5_becomes l cA D Λ hT e_23 a0 l1 (e_23.1 (rfA Λ a0 2) l1.toNatClampNeg) v_6 k0 hq_26) (cwV 3 hts gX5_goesUp_X5_becomes rfl rfl rfl (by decide +kernel) ⟨Nat.le_trans (by decide) hM.1, Nat.le_trans (by decide) hM.2⟩) rfl rfl (Nat.le_of_ble_eq_true rfl) dX5_goesUp_126) hS (fun H locs hR hS => ?_)
    refine lv_iconst (v := (1 : Int32)) hx hb dX5_goesUp_129 (by decide) ?_
    exact rt_z X hR hS (Option.some.inj h) (Or.inr rfl) dX5_goesUp_130
  · have h := of_neg hc h
    refine lv_iconst (v := (0 : Int32)) hx hb dX5_goesUp_24 (by decide) ?_
    exact rt_z X hR hS (Option.some.inj h) (Or.inl rfl) dX5_goesUp_25

set_option maxHeartbeats 4000000 in
set_option maxRecDepth 100000 in
theorem c_X5_goesUp (l : Launch) (cA : Nat → ClassId) (D : va_G) (Λ : Lay) (hT : TL Λ) (σ : Sto) (a0 : Nat) (l1 : Int32) (l2 : Int32) (k0 : isK Λ a0 6) {res : Int32 × Sto} (h : F_X5_goesUp Λ σ a0 l1 l2 = some res) : Met l yX5_goesUp wsX5_goesUp { frames := 3, cells := 0, slots := 0, locals := 68 } (va_Pc [.ref a0, .int l1, .int l2] (PW cA D Λ σ)) (QZ cA D Λ res) 0 0 (dm Λ) := by
  refine Met.ofW (cc := cX5_goesUp) (maxL := 7) (ret := (some .boolean)) (by decide) rfl ?_
  intro p e s m args below meth c s₁ B hml hv
  obtain ⟨rfl, hR, hK⟩ := hv
  have X : Cx cX5_goesUp (some .boolean) 7 RX5 wsX5_goesUp p s m _ meth c := ⟨B.exec, B.bytes, B.returns, hml, findClass_of_methodNamed B.named, atoms_spec (ws := wsX5_goesUp) B.pre, B.notSynchronized⟩
  have hS : va_S (dm Λ) s.heap s.heap [] := va_S.rf
  have hl := lv_entry ([.ref a0, .int l1, .int l2]) (n := 7) (Nat.le_of_ble_eq_true rfl)
  rw [lg_entry_eq]
  generalize (lg_sl ([.ref a0, .int l1, .int l2]) ++ List.replicate (7 - (lg_sl ([.ref a0, .int l1, .int l2])).length) Slot.unset).toArray = ls at hl ⊢
  have hl : lv_has ls 7 [(0, .ref a0), (1, .int l1), (2, .int l2)] := hl
  exact w_X5_goesUp X hK hT ⟨Nat.le_refl _, Nat.le_refl _⟩ a0 l1 l2 k0 h s.heap [] ls hR hS hl
theorem in_X5_across_6 : ∀ w ∈ u_ws RX5 TX5 24, w ∈ wsX5_across := by decide +kernel
set_option maxHeartbeats 4000000 in
set_option maxRecDepth 100000 in
theorem w_X5_across (X : Cx cX5_across (some .int) 4 RX5 wsX5_across p s m args meth c) (hK : Kn cA D s) (hT : TL Λ) (hM : 4 ≤ R.frames ∧ 94 ≤ R.locals) (a0 : Nat) (l1 : Int32) (l2 : Int32) (k0 : isK Λ a0 6) {res : Int32 × Sto} (h : F_X5_across Λ σ a0 l1 l2 = some res) (H : Heap) (locs : List Loc) (ls : Array Slot) (hR : Rep cA D Λ σ H) (hS : va_S (dm Λ) s.heap H locs) (hl : lv_has ls 4 [(0, .ref a0), (1, .int l1), (2, .int l2)]) : W p l e R s m args below meth c H locs 0 0 (MQ below (QI cA D Λ res) args s 0 0 (dm Λ)) (F0 m 0 ls []) := by
  have hx := X.1
  have hb := X.2.1
  have hown := X.2.2.2.2.1
  have hts := X.2.2.2.2.2.1
  unfold F_X5_across at h
  refine lv_aload_n hx hb dX5_across_0 rfl (lv_at hl 0 rfl) ?_
  refine lv_iconst (v := (0 : Int32)) hx hb dX5_across_1 (by decide) ?_
  refine rw_putI X hK hT hR hS 6 0 tyX5 k0 (by decide) (C := RX5) (T := TX5) (N := 24) rfl (by decide) in_X5_across_6 tyX5_ok nmX5 (by decide +kernel) rfl rfl (by decide +kernel) dX5_across_2 (fun σ_1 H locs e_1 hR hS => ?_)
  have h := of_nm e_1 h
  refine lv_aload_n hx hb dX5_across_5 rfl (lv_at hl 0 rfl) ?_
  refine lv_iload_n hx hb dX5_across_6 rfl (lv_at hl 1 rfl) ?_
  refine cl_z (rn_V (As := [.int l1]) (rest := []) X hK hR k0 rfl (by decide) hl.1 (c_X5_isPage l cA D Λ hT σ_1 a0 l1 k0) (cwV 1 hts gX5_across_X5_isPage rfl rfl rfl (by decide +kernel) ⟨Nat.le_trans (by decide) hM.1, Nat.le_trans (by decide) hM.2⟩) rfl rfl (Nat.le_of_ble_eq_true rfl) dX5_across_7) hS (fun hz_2 H locs hR hS => ?_)
  refine lv_topi (fun r_2 e_2 => ?_)
  have h := of_nm e_2 h
  have hz_2 : r_2 = 0 ∨ r_2 = 1 := by rw [e_2]; exact hz_2
  refine lv_if_eq (tgt := 42) hx hb dX5_across_10 (by decide) (fun hc => ?_) (fun hc => ?_)
  · have h := of_pos hc h
    refine lv_iconst (v := (-1 : Int32)) hx hb dX5_across_42 (by decide) ?_
    exact rt_i X hR hS (Option.some.inj h) dX5_across_43
  · have h := of_neg hc h
    refine lv_iload_n hx hb dX5_across_13 rfl (lv_at hl 2 rfl) ?_
    refine cl_z (rn_S (As := [.int l2]) (rest := []) X hK hR hl.1 (c_X5_isShear l cA D Λ hT σ_1 l2) (va_cwS 1 hts gX5_across_X5_isShear rfl rfl rfl (by decide +kernel) ⟨Nat.le_trans (by decide) hM.1, Nat.le_trans (by decide) hM.2⟩) rfl rfl (Nat.le_of_ble_eq_true rfl) dX5_across_14) hS (fun hz_3 H locs hR hS => ?_)
    refine lv_topi (fun r_3 e_3 => ?_)
    have h := of_nm e_3 h
    have hz_3 : r_3 = 0 ∨ r_3 = 1 := by rw [e_3]; exact hz_3
    refine lv_if_eq (tgt := 42) hx hb dX5_across_17 (by decide) (fun hc => ?_) (fun hc => ?_)
    · have h := of_pos hc h
      refine lv_iconst (v := (-1 : Int32)) hx hb dX5_across_42 (by decide) ?_
      exact rt_i X hR hS (Option.some.inj h) dX5_across_43
    · have h := of_neg hc h
      refine lv_aload_n hx hb dX5_across_20 rfl (lv_at hl 0 rfl) ?_
      refine rw_getR X hK hT hR 6 2 7 k0 (by decide) (C := RX5) (T := TX5) (N := 24) rfl (by decide) in_X5_across_6 (by decide +kernel) rfl dX5_across_21 (fun kf_4 => ?_)
      refine lv_iload_n hx hb dX5_across_24 rfl (lv_at hl 1 rfl) ?_
      obtain ⟨hg_5, h⟩ := of_guard h
      refine rw_iald X hK hR kf_4 hg_5 dX5_across_25 ?_
      refine lv_iload_n hx hb dX5_across_26 rfl (lv_at hl 2 rfl) ?_
      refine lv_aload_n hx hb dX5_across_27 rfl (lv_at hl 0 rfl) ?_
      refine rw_getR X hK hT hR 6 3 7 k0 (by decide) (C := RX5) (T := TX5) (N := 24) rfl (by decide) in_X5_across_6 (by decide +kernel) rfl dX5_across_28 (fun kf_6 => ?_)
      refine lv_iload_n hx hb dX5_across_31 rfl (lv_at hl 1 rfl) ?_
      obtain ⟨hg_7, h⟩ := of_guard h
      refine rw_iald X hK hR kf_6 hg_7 dX5_across_32 ?_
      obtain ⟨q_8, hq_8, h⟩ := of_bind h
      refine cl_i (rn_S (As := [.int l2, .int (σ_1.1 (rfA Λ a0 3) l1.toNatClampNeg)]) (rest := [.int (σ_1.1 (rfA Λ a0 2) l1.toNatClampNeg)]) X hK hR hl.1 (c_X5_most l cA D Λ hT σ_1 l2 (σ_1.1 (rfA Λ a0 3) l1.toNatClampNeg) hq_8) (va_cwS 2 hts gX5_across_X5_most rfl rfl rfl (by decide +kernel) ⟨Nat.le_trans (by decide) hM.1, Nat.le_trans (by decide) hM.2⟩) rfl rfl (Nat.le_of_ble_eq_true rfl) dX5_across_33) hS (fun H locs hR hS => ?_)
      refine lv_iadd hx hb dX5_across_36 ?_
      refine lv_bipush (v := (64 : Int32)) hx hb dX5_across_37 (by decide) ?_
      refine lv_icmp_le (tgt := 44) hx hb dX5_across_39 (by decide) (fun hc => ?_) (fun hc => ?_)
      · have h := of_pos hc h
        refine lv_aload_n hx hb dX5_across_44 rfl (lv_at hl 0 rfl) ?_
        refine lv_iload_n hx hb dX5_across_45 rfl (lv_at hl 1 rfl) ?_
        obtain ⟨q_9, hq_9, h⟩ := of_bind h
        refine cl_v (rn_V (As := [.int l1]) (rest := []) X hK hR k0 rfl (by decide) hl.1 (c_X5_changing l cA D Λ hT σ_1 a0 l1 k0 hq_9) (cwV 1 hts gX5_across_X5_changing rfl rfl rfl (by decide +kernel) ⟨Nat.le_trans (by decide) hM.1, Nat.le_trans (by decide) hM.2⟩) rfl rfl (Nat.le_of_ble_eq_true rfl) dX5_across_46) hS (fun H locs hR hS => ?_)
        refine lv_aload_n hx hb dX5_across_49 rfl (lv_at hl 0 rfl) ?_
        refine lv_iload_n hx hb dX5_across_50 rfl (lv_at hl 1 rfl) ?_
        refine lv_iload_n hx hb dX5_across_51 rfl (lv_at hl 2 rfl) ?_
        obtain ⟨q_10, hq_10, h⟩ := of_bind h
        refine cl_z (rn_V (As := [.int l1, .int l2]) (rest := []) X hK hR k0 rfl (by decide) hl.1 (c_X5_goesAcross l cA D Λ hT q_9 a0 l1 l2 k0 hq_10) (cwV 2 hts gX5_across_X5_goesAcross rfl rfl rfl (by decide +kernel) ⟨Nat.le_trans (by decide) hM.1, Nat.le_trans (by decide) hM.2⟩) rfl rfl (Nat.le_of_ble_eq_true rfl) dX5_across_52) hS (fun hz_10 H locs hR hS => ?_)
        refine lv_istore_n (lv' := [(3, .int q_10.1), (0, .ref a0), (1, .int l1), (2, .int l2)]) hx hb dX5_across_55 rfl hl (by decide) rfl (fun ls hl => ?_)
        refine lv_aload_n hx hb dX5_across_56 rfl (lv_at hl 1 rfl) ?_
        refine rw_getR X hK hT hR 6 2 7 k0 (by decide) (C := RX5) (T := TX5) (N := 24) rfl (by decide) in_X5_across_6 (by decide +kernel) rfl dX5_across_57 (fun kf_11 => ?_)
        refine lv_iload_n hx hb dX5_across_60 rfl (lv_at hl 2 rfl) ?_
        obtain ⟨hg_12, h⟩ := of_guard h
        refine rw_iald X hK hR kf_11 hg_12 dX5_across_61 ?_
        exact rt_i X hR hS (Option.some.inj h) dX5_across_62
      · have h := of_neg hc h
        refine lv_iconst (v := (-1 : Int32)) hx hb dX5_across_42 (by decide) ?_
        exact rt_i X hR hS (Option.some.inj h) dX5_across_43

set_option maxHeartbeats 4000000 in
set_option maxRecDepth 100000 in
theorem c_X5_across (l : Launch) (cA : Nat → ClassId) (D : va_G) (Λ : Lay) (hT : TL Λ) (σ : Sto) (a0 : Nat) (l1 : Int32) (l2 : Int32) (k0 : isK Λ a0 6) {res : Int32 × Sto} (h : F_X5_across Λ σ a0 l1 l2 = some res) : Met l yX5_across wsX5_across { frames := 4, cells := 0, slots := 0, locals := 94 } (va_Pc [.ref a0, .int l1, .int l2] (PW cA D Λ σ)) (QI cA D Λ res) 0 0 (dm Λ) := by
  refine Met.ofW (cc := cX5_across) (maxL := 4) (ret := (some .int)) (by decide) rfl ?_
  intro p e s m args below meth c s₁ B hml hv
  obtain ⟨rfl, hR, hK⟩ := hv
  have X : Cx cX5_across (some .int) 4 RX5 wsX5_across p s m _ meth c := ⟨B.exec, B.bytes, B.returns, hml, findClass_of_methodNamed B.named, atoms_spec (ws := wsX5_across) B.pre, B.notSynchronized⟩
  have hS : va_S (dm Λ) s.heap s.heap [] := va_S.rf
  have hl := lv_entry ([.ref a0, .int l1, .int l2]) (n := 4) (Nat.le_of_ble_eq_true rfl)
  rw [lg_entry_eq]
  generalize (lg_sl ([.ref a0, .int l1, .int l2]) ++ List.replicate (4 - (lg_sl ([.ref a0, .int l1, .int l2])).length) Slot.unset).toArray = ls at hl ⊢
  have hl : lv_has ls 4 [(0, .ref a0), (1, .int l1), (2, .int l2)] := hl
  exact w_X5_across X hK hT ⟨Nat.le_refl _, Nat.le_refl _⟩ a0 l1 l2 k0 h s.heap [] ls hR hS hl
theorem in_X5_upright_6 : ∀ w ∈ u_ws RX5 TX5 24, w ∈ wsX5_upright := by decide +kernel
set_option maxHeartbeats 4000000 in
set_option maxRecDepth 100000 in
theorem w_X5_upright (X : Cx cX5_upright (some .int) 4 RX5 wsX5_upright p s m args meth c) (hK : Kn cA D s) (hT : TL Λ) (hM : 4 ≤ R.frames ∧ 94 ≤ R.locals) (a0 : Nat) (l1 : Int32) (l2 : Int32) (k0 : isK Λ a0 6) {res : Int32 × Sto} (h : F_X5_upright Λ σ a0 l1 l2 = some res) (H : Heap) (locs : List Loc) (ls : Array Slot) (hR : Rep cA D Λ σ H) (hS : va_S (dm Λ) s.heap H locs) (hl : lv_has ls 4 [(0, .ref a0), (1, .int l1), (2, .int l2)]) : W p l e R s m args below meth c H locs 0 0 (MQ below (QI cA D Λ res) args s 0 0 (dm Λ)) (F0 m 0 ls []) := by
  have hx := X.1
  have hb := X.2.1
  have hown := X.2.2.2.2.1
  have hts := X.2.2.2.2.2.1
  unfold F_X5_upright at h
  refine lv_aload_n hx hb dX5_upright_0 rfl (lv_at hl 0 rfl) ?_
  refine lv_iconst (v := (0 : Int32)) hx hb dX5_upright_1 (by decide) ?_
  refine rw_putI X hK hT hR hS 6 0 tyX5 k0 (by decide) (C := RX5) (T := TX5) (N := 24) rfl (by decide) in_X5_upright_6 tyX5_ok nmX5 (by decide +kernel) rfl rfl (by decide +kernel) dX5_upright_2 (fun σ_1 H locs e_1 hR hS => ?_)
  have h := of_nm e_1 h
  refine lv_aload_n hx hb dX5_upright_5 rfl (lv_at hl 0 rfl) ?_
  refine lv_iload_n hx hb dX5_upright_6 rfl (lv_at hl 1 rfl) ?_
  refine cl_z (rn_V (As := [.int l1]) (rest := []) X hK hR k0 rfl (by decide) hl.1 (c_X5_isPage l cA D Λ hT σ_1 a0 l1 k0) (cwV 1 hts gX5_upright_X5_isPage rfl rfl rfl (by decide +kernel) ⟨Nat.le_trans (by decide) hM.1, Nat.le_trans (by decide) hM.2⟩) rfl rfl (Nat.le_of_ble_eq_true rfl) dX5_upright_7) hS (fun hz_2 H locs hR hS => ?_)
  refine lv_topi (fun r_2 e_2 => ?_)
  have h := of_nm e_2 h
  have hz_2 : r_2 = 0 ∨ r_2 = 1 := by rw [e_2]; exact hz_2
  refine lv_if_eq (tgt := 42) hx hb dX5_upright_10 (by decide) (fun hc => ?_) (fun hc => ?_)
  · have h := of_pos hc h
    refine lv_iconst (v := (-1 : Int32)) hx hb dX5_upright_42 (by decide) ?_
    exact rt_i X hR hS (Option.some.inj h) dX5_upright_43
  · have h := of_neg hc h
    refine lv_iload_n hx hb dX5_upright_13 rfl (lv_at hl 2 rfl) ?_
    refine cl_z (rn_S (As := [.int l2]) (rest := []) X hK hR hl.1 (c_X5_isShear l cA D Λ hT σ_1 l2) (va_cwS 1 hts gX5_upright_X5_isShear rfl rfl rfl (by decide +kernel) ⟨Nat.le_trans (by decide) hM.1, Nat.le_trans (by decide) hM.2⟩) rfl rfl (Nat.le_of_ble_eq_true rfl) dX5_upright_14) hS (fun hz_3 H locs hR hS => ?_)
    refine lv_topi (fun r_3 e_3 => ?_)
    have h := of_nm e_3 h
    have hz_3 : r_3 = 0 ∨ r_3 = 1 := by rw [e_3]; exact hz_3
    refine lv_if_eq (tgt := 42) hx hb dX5_upright_17 (by decide) (fun hc => ?_) (fun hc => ?_)
    · have h := of_pos hc h
      refine lv_iconst (v := (-1 : Int32)) hx hb dX5_upright_42 (by decide) ?_
      exact rt_i X hR hS (Option.some.inj h) dX5_upright_43
    · have h := of_neg hc h
      refine lv_aload_n hx hb dX5_upright_20 rfl (lv_at hl 0 rfl) ?_
      refine rw_getR X hK hT hR 6 3 7 k0 (by decide) (C := RX5) (T := TX5) (N := 24) rfl (by decide) in_X5_upright_6 (by decide +kernel) rfl dX5_upright_21 (fun kf_4 => ?_)
      refine lv_iload_n hx hb dX5_upright_24 rfl (lv_at hl 1 rfl) ?_
      obtain ⟨hg_5, h⟩ := of_guard h
      refine rw_iald X hK hR kf_4 hg_5 dX5_upright_25 ?_
      refine lv_iload_n hx hb dX5_upright_26 rfl (lv_at hl 2 rfl) ?_
      refine lv_aload_n hx hb dX5_upright_27 rfl (lv_at hl 0 rfl) ?_
      refine rw_getR X hK hT hR 6 2 7 k0 (by decide) (C := RX5) (T := TX5) (N := 24) rfl (by decide) in_X5_upright_6 (by decide +kernel) rfl dX5_upright_28 (fun kf_6 => ?_)
      refine lv_iload_n hx hb dX5_upright_31 rfl (lv_at hl 1 rfl) ?_
      obtain ⟨hg_7, h⟩ := of_guard h
      refine rw_iald X hK hR kf_6 hg_7 dX5_upright_32 ?_
      obtain ⟨q_8, hq_8, h⟩ := of_bind h
      refine cl_i (rn_S (As := [.int l2, .int (σ_1.1 (rfA Λ a0 2) l1.toNatClampNeg)]) (rest := [.int (σ_1.1 (rfA Λ a0 3) l1.toNatClampNeg)]) X hK hR hl.1 (c_X5_most l cA D Λ hT σ_1 l2 (σ_1.1 (rfA Λ a0 2) l1.toNatClampNeg) hq_8) (va_cwS 2 hts gX5_upright_X5_most rfl rfl rfl (by decide +kernel) ⟨Nat.le_trans (by decide) hM.1, Nat.le_trans (by decide) hM.2⟩) rfl rfl (Nat.le_of_ble_eq_true rfl) dX5_upright_33) hS (fun H locs hR hS => ?_)
      refine lv_iadd hx hb dX5_upright_36 ?_
      refine lv_bipush (v := (64 : Int32)) hx hb dX5_upright_37 (by decide) ?_
      refine lv_icmp_le (tgt := 44) hx hb dX5_upright_39 (by decide) (fun hc => ?_) (fun hc => ?_)
      · have h := of_pos hc h
        refine lv_aload_n hx hb dX5_upright_44 rfl (lv_at hl 0 rfl) ?_
        refine lv_iload_n hx hb dX5_upright_45 rfl (lv_at hl 1 rfl) ?_
        obtain ⟨q_9, hq_9, h⟩ := of_bind h
        refine cl_v (rn_V (As := [.int l1]) (rest := []) X hK hR k0 rfl (by decide) hl.1 (c_X5_changing l cA D Λ hT σ_1 a0 l1 k0 hq_9) (cwV 1 hts gX5_upright_X5_changing rfl rfl rfl (by decide +kernel) ⟨Nat.le_trans (by decide) hM.1, Nat.le_trans (by decide) hM.2⟩) rfl rfl (Nat.le_of_ble_eq_true rfl) dX5_upright_46) hS (fun H locs hR hS => ?_)
        refine lv_aload_n hx hb dX5_upright_49 rfl (lv_at hl 0 rfl) ?_
        refine lv_iload_n hx hb dX5_upright_50 rfl (lv_at hl 1 rfl) ?_
        refine lv_iload_n hx hb dX5_upright_51 rfl (lv_at hl 2 rfl) ?_
        obtain ⟨q_10, hq_10, h⟩ := of_bind h
        refine cl_z (rn_V (As := [.int l1, .int l2]) (rest := []) X hK hR k0 rfl (by decide) hl.1 (c_X5_goesUp l cA D Λ hT q_9 a0 l1 l2 k0 hq_10) (cwV 2 hts gX5_upright_X5_goesUp rfl rfl rfl (by decide +kernel) ⟨Nat.le_trans (by decide) hM.1, Nat.le_trans (by decide) hM.2⟩) rfl rfl (Nat.le_of_ble_eq_true rfl) dX5_upright_52) hS (fun hz_10 H locs hR hS => ?_)
        refine lv_istore_n (lv' := [(3, .int q_10.1), (0, .ref a0), (1, .int l1), (2, .int l2)]) hx hb dX5_upright_55 rfl hl (by decide) rfl (fun ls hl => ?_)
        refine lv_aload_n hx hb dX5_upright_56 rfl (lv_at hl 1 rfl) ?_
        refine rw_getR X hK hT hR 6 3 7 k0 (by decide) (C := RX5) (T := TX5) (N := 24) rfl (by decide) in_X5_upright_6 (by decide +kernel) rfl dX5_upright_57 (fun kf_11 => ?_)
        refine lv_iload_n hx hb dX5_upright_60 rfl (lv_at hl 2 rfl) ?_
        obtain ⟨hg_12, h⟩ := of_guard h
        refine rw_iald X hK hR kf_11 hg_12 dX5_upright_61 ?_
        exact rt_i X hR hS (Option.some.inj h) dX5_upright_62
      · have h := of_neg hc h
        refine lv_iconst (v := (-1 : Int32)) hx hb dX5_upright_42 (by decide) ?_
        exact rt_i X hR hS (Option.some.inj h) dX5_upright_43

set_option maxHeartbeats 4000000 in
set_option maxRecDepth 100000 in
theorem c_X5_upright (l : Launch) (cA : Nat → ClassId) (D : va_G) (Λ : Lay) (hT : TL Λ) (σ : Sto) (a0 : Nat) (l1 : Int32) (l2 : Int32) (k0 : isK Λ a0 6) {res : Int32 × Sto} (h : F_X5_upright Λ σ a0 l1 l2 = some res) : Met l yX5_upright wsX5_upright { frames := 4, cells := 0, slots := 0, locals := 94 } (va_Pc [.ref a0, .int l1, .int l2] (PW cA D Λ σ)) (QI cA D Λ res) 0 0 (dm Λ) := by
  refine Met.ofW (cc := cX5_upright) (maxL := 4) (ret := (some .int)) (by decide) rfl ?_
  intro p e s m args below meth c s₁ B hml hv
  obtain ⟨rfl, hR, hK⟩ := hv
  have X : Cx cX5_upright (some .int) 4 RX5 wsX5_upright p s m _ meth c := ⟨B.exec, B.bytes, B.returns, hml, findClass_of_methodNamed B.named, atoms_spec (ws := wsX5_upright) B.pre, B.notSynchronized⟩
  have hS : va_S (dm Λ) s.heap s.heap [] := va_S.rf
  have hl := lv_entry ([.ref a0, .int l1, .int l2]) (n := 4) (Nat.le_of_ble_eq_true rfl)
  rw [lg_entry_eq]
  generalize (lg_sl ([.ref a0, .int l1, .int l2]) ++ List.replicate (4 - (lg_sl ([.ref a0, .int l1, .int l2])).length) Slot.unset).toArray = ls at hl ⊢
  have hl : lv_has ls 4 [(0, .ref a0), (1, .int l1), (2, .int l2)] := hl
  exact w_X5_upright X hK hT ⟨Nat.le_refl _, Nat.le_refl _⟩ a0 l1 l2 k0 h s.heap [] ls hR hS hl
theorem in_X5_turn_6 : ∀ w ∈ u_ws RX5 TX5 24, w ∈ wsX5_turn := by decide +kernel
set_option maxHeartbeats 4000000 in
set_option maxRecDepth 100000 in
theorem w_jp_X5_turn_73 (X : Cx cX5_turn (some .boolean) 6 RX5 wsX5_turn p s m args meth c) (hK : Kn cA D s) (hT : TL Λ) (hM : 4 ≤ R.frames ∧ 94 ≤ R.locals) (a0 : Nat) (l1 : Int32) (l2 : Int32) (l3 : Int32) (l4 : Int32) (ls0 : Int32) (k0 : isK Λ a0 6) {res : Int32 × Sto} (h : jp_X5_turn_73 Λ σ a0 l1 l2 l3 l4 ls0 = some res) (H : Heap) (locs : List Loc) (ls : Array Slot) (hR : Rep cA D Λ σ H) (hS : va_S (dm Λ) s.heap H locs) (hl : lv_has ls 6 [(0, .ref a0), (1, .int l1), (2, .int l2), (3, .int l3), (4, .int l4)]) : W p l e R s m args below meth c H locs 0 0 (MQ below (QZ cA D Λ res) args s 0 0 (dm Λ)) (F0 m 73 ls [.int ls0]) := by
  have hx := X.1
  have hb := X.2.1
  have hown := X.2.2.2.2.1
  have hts := X.2.2.2.2.2.1
  unfold jp_X5_turn_73 at h
  refine lv_istore (lv' := [(5, .int ls0), (0, .ref a0), (1, .int l1), (2, .int l2), (3, .int l3), (4, .int l4)]) hx hb dX5_turn_73 hl (by decide) rfl (fun ls hl => ?_)
  refine lv_iload hx hb dX5_turn_75 (lv_at hl 5 rfl) ?_
  refine lv_bipush (v := (64 : Int32)) hx hb dX5_turn_77 (by decide) ?_
  refine lv_icmp_gt (tgt := 103) hx hb dX5_turn_79 (by decide) (fun hc => ?_) (fun hc => ?_)
  · have h := of_pos hc h
    refine lv_iconst (v := (0 : Int32)) hx hb dX5_turn_103 (by decide) ?_
    exact rt_z X hR hS (Option.some.inj h) (Or.inl rfl) dX5_turn_104
  · have h := of_neg hc h
    refine lv_iload hx hb dX5_turn_82 (lv_at hl 0 rfl) ?_
    refine lv_bipush (v := (64 : Int32)) hx hb dX5_turn_84 (by decide) ?_
    refine lv_icmp_gt (tgt := 103) hx hb dX5_turn_86 (by decide) (fun hc => ?_) (fun hc => ?_)
    · have h := of_pos hc h
      refine lv_iconst (v := (0 : Int32)) hx hb dX5_turn_103 (by decide) ?_
      exact rt_z X hR hS (Option.some.inj h) (Or.inl rfl) dX5_turn_104
    · have h := of_neg hc h
      refine lv_iload hx hb dX5_turn_89 (lv_at hl 5 rfl) ?_
      refine lv_iload_n hx hb dX5_turn_91 rfl (lv_at hl 3 rfl) ?_
      refine lv_iload hx hb dX5_turn_92 (lv_at hl 0 rfl) ?_
      obtain ⟨q_14, hq_14, h⟩ := of_bind h
      refine cl_i (rn_S (As := [.int l2, .int ls0]) (rest := [.int l4]) X hK hR hl.1 (c_X5_most l cA D Λ hT σ l2 ls0 hq_14) (va_cwS 2 hts gX5_turn_X5_most rfl rfl rfl (by decide +kernel) ⟨Nat.le_trans (by decide) hM.1, Nat.le_trans (by decide) hM.2⟩) rfl rfl (Nat.le_of_ble_eq_true rfl) dX5_turn_94) hS (fun H locs hR hS => ?_)
      refine lv_iadd hx hb dX5_turn_97 ?_
      refine lv_bipush (v := (64 : Int32)) hx hb dX5_turn_98 (by decide) ?_
      refine lv_icmp_le (tgt := 105) hx hb dX5_turn_100 (by decide) (fun hc => ?_) (fun hc => ?_)
      · have h := of_pos hc h
        refine lv_aload_n hx hb dX5_turn_105 rfl (lv_at hl 1 rfl) ?_
        refine lv_iload_n hx hb dX5_turn_106 rfl (lv_at hl 2 rfl) ?_
        obtain ⟨q_15, hq_15, h⟩ := of_bind h
        refine cl_v (rn_V (As := [.int l1]) (rest := []) X hK hR k0 rfl (by decide) hl.1 (c_X5_changing l cA D Λ hT σ a0 l1 k0 hq_15) (cwV 1 hts gX5_turn_X5_changing rfl rfl rfl (by decide +kernel) ⟨Nat.le_trans (by decide) hM.1, Nat.le_trans (by decide) hM.2⟩) rfl rfl (Nat.le_of_ble_eq_true rfl) dX5_turn_107) hS (fun H locs hR hS => ?_)
        refine lv_aload_n hx hb dX5_turn_110 rfl (lv_at hl 1 rfl) ?_
        refine lv_iload_n hx hb dX5_turn_111 rfl (lv_at hl 2 rfl) ?_
        refine lv_iload_n hx hb dX5_turn_112 rfl (lv_at hl 3 rfl) ?_
        obtain ⟨q_16, hq_16, h⟩ := of_bind h
        refine cl_z (rn_V (As := [.int l1, .int l2]) (rest := []) X hK hR k0 rfl (by decide) hl.1 (c_X5_goesAcross l cA D Λ hT q_15 a0 l1 l2 k0 hq_16) (cwV 2 hts gX5_turn_X5_goesAcross rfl rfl rfl (by decide +kernel) ⟨Nat.le_trans (by decide) hM.1, Nat.le_trans (by decide) hM.2⟩) rfl rfl (Nat.le_of_ble_eq_true rfl) dX5_turn_113) hS (fun hz_16 H locs hR hS => ?_)
        refine lv_if_eq (tgt := 141) hx hb dX5_turn_116 (by decide) (fun hc => ?_) (fun hc => ?_)
        · have h := of_pos hc h
          refine lv_iconst (v := (0 : Int32)) hx hb dX5_turn_141 (by decide) ?_
          exact rt_z X hR hS (Option.some.inj h) (Or.inl rfl) dX5_turn_142
        · have h := of_neg hc h
          refine lv_aload_n hx hb dX5_turn_119 rfl (lv_at hl 1 rfl) ?_
          refine lv_iload_n hx hb dX5_turn_120 rfl (lv_at hl 2 rfl) ?_
          refine lv_iload_n hx hb dX5_turn_121 rfl (lv_at hl 4 rfl) ?_
          obtain ⟨q_17, hq_17, h⟩ := of_bind h
          refine cl_z (rn_V (As := [.int l1, .int l3]) (rest := []) X hK hR k0 rfl (by decide) hl.1 (c_X5_goesUp l cA D Λ hT q_16.2 a0 l1 l3 k0 hq_17) (cwV 2 hts gX5_turn_X5_goesUp rfl rfl rfl (by decide +kernel) ⟨Nat.le_trans (by decide) hM.1, Nat.le_trans (by decide) hM.2⟩) rfl rfl (Nat.le_of_ble_eq_true rfl) dX5_turn_122) hS (fun hz_17 H locs hR hS => ?_)
          refine lv_if_eq (tgt := 141) hx hb dX5_turn_125 (by decide) (fun hc => ?_) (fun hc => ?_)
          · have h := of_pos hc h
            refine lv_iconst (v := (0 : Int32)) hx hb dX5_turn_141 (by decide) ?_
            exact rt_z X hR hS (Option.some.inj h) (Or.inl rfl) dX5_turn_142
          · have h := of_neg hc h
            refine lv_aload_n hx hb dX5_turn_128 rfl (lv_at hl 1 rfl) ?_
            refine lv_iload_n hx hb dX5_turn_129 rfl (lv_at hl 2 rfl) ?_
            refine lv_iload_n hx hb dX5_turn_130 rfl (lv_at hl 3 rfl) ?_
            obtain ⟨q_18, hq_18, h⟩ := of_bind h
            refine cl_z (rn_V (As := [.int l1, .int l2]) (rest := []) X hK hR k0 rfl (by decide) hl.1 (c_X5_goesAcross l cA D Λ hT q_17.2 a0 l1 l2 k0 hq_18) (cwV 2 hts gX5_turn_X5_goesAcross rfl rfl rfl (by decide +kernel) ⟨Nat.le_trans (by decide) hM.1, Nat.le_trans (by decide) hM.2⟩) rfl rfl (Nat.le_of_ble_eq_true rfl) dX5_turn_131) hS (fun hz_18 H locs hR hS => ?_)
            refine lv_if_eq (tgt := 141) hx hb dX5_turn_134 (by decide) (fun hc => ?_) (fun hc => ?_)
            · have h := of_pos hc h
              refine lv_iconst (v := (0 : Int32)) hx hb dX5_turn_141 (by decide) ?_
              exact rt_z X hR hS (Option.some.inj h) (Or.inl rfl) dX5_turn_142
            · have h := of_neg hc h
              refine lv_iconst (v := (1 : Int32)) hx hb dX5_turn_137 (by decide) ?_
              refine lv_goto (tgt := 142) hx hb dX5_turn_138 (by decide) ?_
              exact rt_z X hR hS (Option.some.inj h) (Or.inr rfl) dX5_turn_142
      · have h := of_neg hc h
        refine lv_iconst (v := (0 : Int32)) hx hb dX5_turn_103 (by decide) ?_
        exact rt_z X hR hS (Option.some.inj h) (Or.inl rfl) dX5_turn_104

set_option maxHeartbeats 4000000 in
set_option maxRecDepth 100000 in
theorem w_X5_turn (X : Cx cX5_turn (some .boolean) 6 RX5 wsX5_turn p s m args meth c) (hK : Kn cA D s) (hT : TL Λ) (hM : 4 ≤ R.frames ∧ 94 ≤ R.locals) (a0 : Nat) (l1 : Int32) (l2 : Int32) (l3 : Int32) (k0 : isK Λ a0 6) {res : Int32 × Sto} (h : F_X5_turn Λ σ a0 l1 l2 l3 = some res) (H : Heap) (locs : List Loc) (ls : Array Slot) (hR : Rep cA D Λ σ H) (hS : va_S (dm Λ) s.heap H locs) (hl : lv_has ls 6 [(0, .ref a0), (1, .int l1), (2, .int l2), (3, .int l3)]) : W p l e R s m args below meth c H locs 0 0 (MQ below (QZ cA D Λ res) args s 0 0 (dm Λ)) (F0 m 0 ls []) := by
  have hx := X.1
  have hb := X.2.1
  have hown := X.2.2.2.2.1
  have hts := X.2.2.2.2.2.1
  unfold F_X5_turn at h
  refine lv_aload_n hx hb dX5_turn_0 rfl (lv_at hl 0 rfl) ?_
  refine lv_iconst (v := (0 : Int32)) hx hb dX5_turn_1 (by decide) ?_
  refine rw_putI X hK hT hR hS 6 0 tyX5 k0 (by decide) (C := RX5) (T := TX5) (N := 24) rfl (by decide) in_X5_turn_6 tyX5_ok nmX5 (by decide +kernel) rfl rfl (by decide +kernel) dX5_turn_2 (fun σ_1 H locs e_1 hR hS => ?_)
  have h := of_nm e_1 h
  refine lv_aload_n hx hb dX5_turn_5 rfl (lv_at hl 0 rfl) ?_
  refine lv_iload_n hx hb dX5_turn_6 rfl (lv_at hl 1 rfl) ?_
  refine cl_z (rn_V (As := [.int l1]) (rest := []) X hK hR k0 rfl (by decide) hl.1 (c_X5_isPage l cA D Λ hT σ_1 a0 l1 k0) (cwV 1 hts gX5_turn_X5_isPage rfl rfl rfl (by decide +kernel) ⟨Nat.le_trans (by decide) hM.1, Nat.le_trans (by decide) hM.2⟩) rfl rfl (Nat.le_of_ble_eq_true rfl) dX5_turn_7) hS (fun hz_2 H locs hR hS => ?_)
  refine lv_topi (fun r_2 e_2 => ?_)
  have h := of_nm e_2 h
  have hz_2 : r_2 = 0 ∨ r_2 = 1 := by rw [e_2]; exact hz_2
  refine lv_if_eq (tgt := 27) hx hb dX5_turn_10 (by decide) (fun hc => ?_) (fun hc => ?_)
  · have h := of_pos hc h
    refine lv_iconst (v := (0 : Int32)) hx hb dX5_turn_27 (by decide) ?_
    exact rt_z X hR hS (Option.some.inj h) (Or.inl rfl) dX5_turn_28
  · have h := of_neg hc h
    refine lv_iload_n hx hb dX5_turn_13 rfl (lv_at hl 2 rfl) ?_
    refine cl_z (rn_S (As := [.int l2]) (rest := []) X hK hR hl.1 (c_X5_isShear l cA D Λ hT σ_1 l2) (va_cwS 1 hts gX5_turn_X5_isShear rfl rfl rfl (by decide +kernel) ⟨Nat.le_trans (by decide) hM.1, Nat.le_trans (by decide) hM.2⟩) rfl rfl (Nat.le_of_ble_eq_true rfl) dX5_turn_14) hS (fun hz_3 H locs hR hS => ?_)
    refine lv_topi (fun r_3 e_3 => ?_)
    have h := of_nm e_3 h
    have hz_3 : r_3 = 0 ∨ r_3 = 1 := by rw [e_3]; exact hz_3
    refine lv_if_eq (tgt := 27) hx hb dX5_turn_17 (by decide) (fun hc => ?_) (fun hc => ?_)
    · have h := of_pos hc h
      refine lv_iconst (v := (0 : Int32)) hx hb dX5_turn_27 (by decide) ?_
      exact rt_z X hR hS (Option.some.inj h) (Or.inl rfl) dX5_turn_28
    · have h := of_neg hc h
      refine lv_iload_n hx hb dX5_turn_20 rfl (lv_at hl 3 rfl) ?_
      refine cl_z (rn_S (As := [.int l3]) (rest := []) X hK hR hl.1 (c_X5_isShear l cA D Λ hT σ_1 l3) (va_cwS 1 hts gX5_turn_X5_isShear rfl rfl rfl (by decide +kernel) ⟨Nat.le_trans (by decide) hM.1, Nat.le_trans (by decide) hM.2⟩) rfl rfl (Nat.le_of_ble_eq_true rfl) dX5_turn_21) hS (fun hz_4 H locs hR hS => ?_)
      refine lv_topi (fun r_4 e_4 => ?_)
      have h := of_nm e_4 h
      have hz_4 : r_4 = 0 ∨ r_4 = 1 := by rw [e_4]; exact hz_4
      refine lv_if_ne (tgt := 29) hx hb dX5_turn_24 (by decide) (fun hc => ?_) (fun hc => ?_)
      · have h := of_neg hc h
        refine lv_aload_n hx hb dX5_turn_29 rfl (lv_at hl 0 rfl) ?_
        refine rw_getR X hK hT hR 6 2 7 k0 (by decide) (C := RX5) (T := TX5) (N := 24) rfl (by decide) in_X5_turn_6 (by decide +kernel) rfl dX5_turn_30 (fun kf_5 => ?_)
        refine lv_iload_n hx hb dX5_turn_33 rfl (lv_at hl 1 rfl) ?_
        obtain ⟨hg_6, h⟩ := of_guard h
        refine rw_iald X hK hR kf_5 hg_6 dX5_turn_34 ?_
        refine lv_iload_n hx hb dX5_turn_35 rfl (lv_at hl 2 rfl) ?_
        refine lv_aload_n hx hb dX5_turn_36 rfl (lv_at hl 0 rfl) ?_
        refine rw_getR X hK hT hR 6 3 7 k0 (by decide) (C := RX5) (T := TX5) (N := 24) rfl (by decide) in_X5_turn_6 (by decide +kernel) rfl dX5_turn_37 (fun kf_7 => ?_)
        refine lv_iload_n hx hb dX5_turn_40 rfl (lv_at hl 1 rfl) ?_
        obtain ⟨hg_8, h⟩ := of_guard h
        refine rw_iald X hK hR kf_7 hg_8 dX5_turn_41 ?_
        obtain ⟨q_9, hq_9, h⟩ := of_bind h
        refine cl_i (rn_S (As := [.int l2, .int (σ_1.1 (rfA Λ a0 3) l1.toNatClampNeg)]) (rest := [.int (σ_1.1 (rfA Λ a0 2) l1.toNatClampNeg)]) X hK hR hl.1 (c_X5_most l cA D Λ hT σ_1 l2 (σ_1.1 (rfA Λ a0 3) l1.toNatClampNeg) hq_9) (va_cwS 2 hts gX5_turn_X5_most rfl rfl rfl (by decide +kernel) ⟨Nat.le_trans (by decide) hM.1, Nat.le_trans (by decide) hM.2⟩) rfl rfl (Nat.le_of_ble_eq_true rfl) dX5_turn_42) hS (fun H locs hR hS => ?_)
        refine lv_iadd hx hb dX5_turn_45 ?_
        refine lv_topi (fun v_10 e_v_10 => ?_)
        have h := of_nm e_v_10 h
        refine lv_istore (lv' := [(4, .int v_10), (0, .ref a0), (1, .int l1), (2, .int l2), (3, .int l3)]) hx hb dX5_turn_46 hl (by decide) rfl (fun ls hl => ?_)
        refine lv_iload hx hb dX5_turn_48 (lv_at hl 0 rfl) ?_
        refine lv_bipush (v := (64 : Int32)) hx hb dX5_turn_50 (by decide) ?_
        refine lv_icmp_le (tgt := 60) hx hb dX5_turn_52 (by decide) (fun hc => ?_) (fun hc => ?_)
        · have h := of_pos hc h
          refine lv_aload_n hx hb dX5_turn_60 rfl (lv_at hl 1 rfl) ?_
          refine rw_getR X hK hT hR 6 3 7 k0 (by decide) (C := RX5) (T := TX5) (N := 24) rfl (by decide) in_X5_turn_6 (by decide +kernel) rfl dX5_turn_61 (fun kf_11 => ?_)
          refine lv_iload_n hx hb dX5_turn_64 rfl (lv_at hl 2 rfl) ?_
          obtain ⟨hg_12, h⟩ := of_guard h
          refine rw_iald X hK hR kf_11 hg_12 dX5_turn_65 ?_
          refine lv_iload_n hx hb dX5_turn_66 rfl (lv_at hl 4 rfl) ?_
          refine lv_iload hx hb dX5_turn_67 (lv_at hl 0 rfl) ?_
          obtain ⟨q_13, hq_13, h⟩ := of_bind h
          refine cl_i (rn_S (As := [.int l3, .int v_10]) (rest := [.int (σ_1.1 (rfA Λ a0 3) l1.toNatClampNeg)]) X hK hR hl.1 (c_X5_most l cA D Λ hT σ_1 l3 v_10 hq_13) (va_cwS 2 hts gX5_turn_X5_most rfl rfl rfl (by decide +kernel) ⟨Nat.le_trans (by decide) hM.1, Nat.le_trans (by decide) hM.2⟩) rfl rfl (Nat.le_of_ble_eq_true rfl) dX5_turn_69) hS (fun H locs hR hS => ?_)
          refine lv_iadd hx hb dX5_turn_72 ?_
          exact w_jp_X5_turn_73 X hK hT hM a0 l1 l2 l3 v_10 ((σ_1.1 (rfA Λ a0 3) l1.toNatClampNeg) + q_13) k0 h H locs ls hR hS (lv_sub hl [1, 2, 3, 4, 0] rfl)
        · have h := of_neg hc h
          refine lv_bipush (v := (65 : Int32)) hx hb dX5_turn_55 (by decide) ?_
          refine lv_goto (tgt := 73) hx hb dX5_turn_57 (by decide) ?_
          exact w_jp_X5_turn_73 X hK hT hM a0 l1 l2 l3 v_10 (65 : Int32) k0 h H locs ls hR hS (lv_sub hl [1, 2, 3, 4, 0] rfl)
      · have h := of_pos hc h
        refine lv_iconst (v := (0 : Int32)) hx hb dX5_turn_27 (by decide) ?_
        exact rt_z X hR hS (Option.some.inj h) (Or.inl rfl) dX5_turn_28

set_option maxHeartbeats 4000000 in
set_option maxRecDepth 100000 in
theorem c_X5_turn (l : Launch) (cA : Nat → ClassId) (D : va_G) (Λ : Lay) (hT : TL Λ) (σ : Sto) (a0 : Nat) (l1 : Int32) (l2 : Int32) (l3 : Int32) (k0 : isK Λ a0 6) {res : Int32 × Sto} (h : F_X5_turn Λ σ a0 l1 l2 l3 = some res) : Met l yX5_turn wsX5_turn { frames := 4, cells := 0, slots := 0, locals := 94 } (va_Pc [.ref a0, .int l1, .int l2, .int l3] (PW cA D Λ σ)) (QZ cA D Λ res) 0 0 (dm Λ) := by
  refine Met.ofW (cc := cX5_turn) (maxL := 6) (ret := (some .boolean)) (by decide) rfl ?_
  intro p e s m args below meth c s₁ B hml hv
  obtain ⟨rfl, hR, hK⟩ := hv
  have X : Cx cX5_turn (some .boolean) 6 RX5 wsX5_turn p s m _ meth c := ⟨B.exec, B.bytes, B.returns, hml, findClass_of_methodNamed B.named, atoms_spec (ws := wsX5_turn) B.pre, B.notSynchronized⟩
  have hS : va_S (dm Λ) s.heap s.heap [] := va_S.rf
  have hl := lv_entry ([.ref a0, .int l1, .int l2, .int l3]) (n := 6) (Nat.le_of_ble_eq_true rfl)
  rw [lg_entry_eq]
  generalize (lg_sl ([.ref a0, .int l1, .int l2, .int l3]) ++ List.replicate (6 - (lg_sl ([.ref a0, .int l1, .int l2, .int l3])).length) Slot.unset).toArray = ls at hl ⊢
  have hl : lv_has ls 6 [(0, .ref a0), (1, .int l1), (2, .int l2), (3, .int l3)] := hl
  exact w_X5_turn X hK hT ⟨Nat.le_refl _, Nat.le_refl _⟩ a0 l1 l2 l3 k0 h s.heap [] ls hR hS hl
