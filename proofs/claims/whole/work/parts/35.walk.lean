variable {p : Program} {l : Launch} {e : Env} {R : Room} {s : State} {m : MethodId} {args : Array Value} {below : List Frame} {meth : Method} {c : Code} {Q : State → Prop} {cA : Nat → ClassId} {D : va_G} {Λ : Lay} {σ : Sto}
theorem in_X5_sharpness_6 : ∀ w ∈ u_ws RX5 TX5 24, w ∈ wsX5_sharpness := by decide +kernel
set_option maxHeartbeats 4000000 in
set_option maxRecDepth 100000 in
theorem w_bd_X5_sharpness_2 (X : Cx cX5_sharpness (some .int) 6 RX5 wsX5_sharpness p s m args meth c) (hK : Kn cA D s) (hT : TL Λ) (hM : 2 ≤ R.frames ∧ 45 ≤ R.locals) (a0 : Nat) (l1 : Int32) (l2 : Int32) (s9 : (Int32 × Sto)) (k0 : isK Λ a0 6) {r : (Int32 × Sto) ⊕ Sto} (h : bd_X5_sharpness_2 Λ a0 l1 l2 s9 = some r) (kb : ∀ z : (Int32 × Sto), r = .inl z → ∀ (H : Heap) (locs : List Loc) (ls : Array Slot), Rep cA D Λ z.2 H → va_S (dm Λ) s.heap H locs → lv_has ls 6 [(0, .ref a0), (1, .int l1), (2, .int l2), (3, .int z.1)] → W p l e R s m args below meth c H locs 0 0 Q (F0 m 2 ls [])) (kx0 : ∀ z : Sto, r = .inr z → ∀ (H : Heap) (locs : List Loc) (ls : Array Slot), Rep cA D Λ z H → va_S (dm Λ) s.heap H locs → lv_has ls 6 [(0, .ref a0), (1, .int l1), (2, .int l2)] → W p l e R s m args below meth c H locs 0 0 Q (F0 m 24 ls [])) (H : Heap) (locs : List Loc) (ls : Array Slot) (hR : Rep cA D Λ s9.2 H) (hS : va_S (dm Λ) s.heap H locs) (hl : lv_has ls 6 [(0, .ref a0), (1, .int l1), (2, .int l2), (3, .int s9.1)]) : W p l e R s m args below meth c H locs 0 0 Q (F0 m 2 ls []) := by
  have hx := X.1
  have hb := X.2.1
  have hown := X.2.2.2.2.1
  have hts := X.2.2.2.2.2.1
  unfold bd_X5_sharpness_2 at h
  refine lv_iload_n hx hb dX5_sharpness_2 rfl (lv_at hl 3 rfl) ?_
  refine lv_aload_n hx hb dX5_sharpness_3 rfl (lv_at hl 0 rfl) ?_
  refine rw_getR X hK hT hR 6 17 7 k0 (by decide) (C := RX5) (T := TX5) (N := 24) rfl (by decide) in_X5_sharpness_6 (by decide +kernel) rfl dX5_sharpness_4 (fun kf_1 => ?_)
  refine rw_alen7 X hK hR kf_1 dX5_sharpness_7 ?_
  refine lv_icmp_ge (tgt := 24) hx hb dX5_sharpness_8 (by decide) (fun hc => ?_) (fun hc => ?_)
  · have h := of_pos hc h
    exact kx0 s9.2 (Option.some.inj h).symm H locs ls hR hS (lv_sub hl [0, 1, 2] rfl)
  · have h := of_neg hc h
    refine lv_aload_n hx hb dX5_sharpness_11 rfl (lv_at hl 0 rfl) ?_
    refine rw_getR X hK hT hR 6 17 7 k0 (by decide) (C := RX5) (T := TX5) (N := 24) rfl (by decide) in_X5_sharpness_6 (by decide +kernel) rfl dX5_sharpness_12 (fun kf_2 => ?_)
    refine lv_iload_n hx hb dX5_sharpness_15 rfl (lv_at hl 3 rfl) ?_
    refine lv_iconst (v := (0 : Int32)) hx hb dX5_sharpness_16 (by decide) ?_
    obtain ⟨hg_3, h⟩ := of_guard h
    refine rw_iast X hK hT hR hS kf_2 hg_3 dX5_sharpness_17 (fun σ_3 H locs e_3 hR hS => ?_)
    have h := of_nm e_3 h
    obtain ⟨v_4, e_v_4⟩ : ∃ y : Int32, y = (s9.1 + (1 : Int32)) := ⟨_, rfl⟩
    have h := of_nm e_v_4 h
    refine lv_iinc (v := v_4) (lv' := [(3, .int v_4), (0, .ref a0), (1, .int l1), (2, .int l2)]) hx hb dX5_sharpness_18 hl (k := 3) rfl (by rw [e_v_4]; rfl) (by decide) rfl (fun ls hl => ?_)
    refine lv_goto (tgt := 2) hx hb dX5_sharpness_21 (by decide) ?_
    exact kb (v_4, σ_3) (Option.some.inj h).symm H locs ls hR hS (lv_sub hl [1, 2, 3, 0] rfl)

set_option maxHeartbeats 4000000 in
set_option maxRecDepth 100000 in
theorem w_lp_X5_sharpness_2 (X : Cx cX5_sharpness (some .int) 6 RX5 wsX5_sharpness p s m args meth c) (hK : Kn cA D s) (hT : TL Λ) (hM : 2 ≤ R.frames ∧ 45 ≤ R.locals) (a0 : Nat) (l1 : Int32) (l2 : Int32) (k0 : isK Λ a0 6) {e9 : Sto} : ∀ (n9 : Nat) (s9 : (Int32 × Sto)), iter (bd_X5_sharpness_2 Λ a0 l1 l2) n9 s9 = some e9 → ∀ (kx0 : ∀ (H : Heap) (locs : List Loc) (ls : Array Slot), Rep cA D Λ e9 H → va_S (dm Λ) s.heap H locs → lv_has ls 6 [(0, .ref a0), (1, .int l1), (2, .int l2)] → W p l e R s m args below meth c H locs 0 0 Q (F0 m 24 ls [])), ∀ (H : Heap) (locs : List Loc) (ls : Array Slot), Rep cA D Λ s9.2 H → va_S (dm Λ) s.heap H locs → lv_has ls 6 [(0, .ref a0), (1, .int l1), (2, .int l2), (3, .int s9.1)] → W p l e R s m args below meth c H locs 0 0 Q (F0 m 2 ls []) := by
  intro n9
  induction n9 with
  | zero => intro s9 h; cases h
  | succ n9 ih =>
    intro s9 h kx0 H locs ls hR hS hl
    obtain ⟨r, hr, h⟩ := of_iter h
    refine w_bd_X5_sharpness_2 X hK hT hM a0 l1 l2 s9 k0 hr (fun z ez H locs ls hR hS hl => ?_) (fun z ez H locs ls hR hS hl => ?_) H locs ls hR hS hl
    · exact ih z (of_itl ez h) kx0 H locs ls hR hS hl
    · have he := of_itr ez h; subst he; exact kx0 H locs ls hR hS hl

set_option maxHeartbeats 4000000 in
set_option maxRecDepth 100000 in
theorem w_jp_X5_sharpness_98 (X : Cx cX5_sharpness (some .int) 6 RX5 wsX5_sharpness p s m args meth c) (hK : Kn cA D s) (hT : TL Λ) (hM : 2 ≤ R.frames ∧ 45 ≤ R.locals) (a0 : Nat) (l1 : Int32) (l2 : Int32) (l3 : Int32) (l4 : Int32) (l5 : Int32) (ls0 : Int32) (ls1 : Int32) (ls2 : Int32) (as3 : Nat) (k0 : isK Λ a0 6) (ks3 : isK Λ as3 7) {r : (Int32 × Sto) ⊕ Sto} (h : jp_X5_sharpness_98 Λ σ a0 l1 l2 l3 l4 l5 ls0 ls1 ls2 as3 = some r) (kb : ∀ z : (Int32 × Sto), r = .inl z → ∀ (H : Heap) (locs : List Loc) (ls : Array Slot), Rep cA D Λ z.2 H → va_S (dm Λ) s.heap H locs → lv_has ls 6 [(0, .ref a0), (1, .int l1), (2, .int l2), (3, .int l3), (4, .int l4), (5, .int z.1)] → W p l e R s m args below meth c H locs 0 0 Q (F0 m 60 ls [])) (kx0 : ∀ z : Sto, r = .inr z → ∀ (H : Heap) (locs : List Loc) (ls : Array Slot), Rep cA D Λ z H → va_S (dm Λ) s.heap H locs → lv_has ls 6 [(0, .ref a0), (1, .int l1), (2, .int l2), (3, .int l3)] → W p l e R s m args below meth c H locs 0 0 Q (F0 m 106 ls [])) (H : Heap) (locs : List Loc) (ls : Array Slot) (hR : Rep cA D Λ σ H) (hS : va_S (dm Λ) s.heap H locs) (hl : lv_has ls 6 [(0, .ref a0), (1, .int l1), (2, .int l2), (3, .int l3), (4, .int l4), (5, .int l5)]) : W p l e R s m args below meth c H locs 0 0 Q (F0 m 98 ls [.int ls0, .int ls1, .int ls2, .ref as3]) := by
  have hx := X.1
  have hb := X.2.1
  have hown := X.2.2.2.2.1
  have hts := X.2.2.2.2.2.1
  unfold jp_X5_sharpness_98 at h
  refine lv_iadd hx hb dX5_sharpness_98 ?_
  obtain ⟨hg_18, h⟩ := of_guard h
  refine rw_iast X hK hT hR hS ks3 hg_18 dX5_sharpness_99 (fun σ_18 H locs e_18 hR hS => ?_)
  have h := of_nm e_18 h
  obtain ⟨v_19, e_v_19⟩ : ∃ y : Int32, y = (l5 + (1 : Int32)) := ⟨_, rfl⟩
  have h := of_nm e_v_19 h
  refine lv_iinc (v := v_19) (lv' := [(5, .int v_19), (0, .ref a0), (1, .int l1), (2, .int l2), (3, .int l3), (4, .int l4)]) hx hb dX5_sharpness_100 hl (k := 5) rfl (by rw [e_v_19]; rfl) (by decide) rfl (fun ls hl => ?_)
  refine lv_goto (tgt := 60) hx hb dX5_sharpness_103 (by decide) ?_
  exact kb (v_19, σ_18) (Option.some.inj h).symm H locs ls hR hS (lv_sub hl [1, 2, 3, 4, 5, 0] rfl)

set_option maxHeartbeats 4000000 in
set_option maxRecDepth 100000 in
theorem w_bd_X5_sharpness_60 (X : Cx cX5_sharpness (some .int) 6 RX5 wsX5_sharpness p s m args meth c) (hK : Kn cA D s) (hT : TL Λ) (hM : 2 ≤ R.frames ∧ 45 ≤ R.locals) (a0 : Nat) (l1 : Int32) (l2 : Int32) (l3 : Int32) (l4 : Int32) (s9 : (Int32 × Sto)) (k0 : isK Λ a0 6) {r : (Int32 × Sto) ⊕ Sto} (h : bd_X5_sharpness_60 Λ a0 l1 l2 l3 l4 s9 = some r) (kb : ∀ z : (Int32 × Sto), r = .inl z → ∀ (H : Heap) (locs : List Loc) (ls : Array Slot), Rep cA D Λ z.2 H → va_S (dm Λ) s.heap H locs → lv_has ls 6 [(0, .ref a0), (1, .int l1), (2, .int l2), (3, .int l3), (4, .int l4), (5, .int z.1)] → W p l e R s m args below meth c H locs 0 0 Q (F0 m 60 ls [])) (kx0 : ∀ z : Sto, r = .inr z → ∀ (H : Heap) (locs : List Loc) (ls : Array Slot), Rep cA D Λ z H → va_S (dm Λ) s.heap H locs → lv_has ls 6 [(0, .ref a0), (1, .int l1), (2, .int l2), (3, .int l3)] → W p l e R s m args below meth c H locs 0 0 Q (F0 m 106 ls [])) (H : Heap) (locs : List Loc) (ls : Array Slot) (hR : Rep cA D Λ s9.2 H) (hS : va_S (dm Λ) s.heap H locs) (hl : lv_has ls 6 [(0, .ref a0), (1, .int l1), (2, .int l2), (3, .int l3), (4, .int l4), (5, .int s9.1)]) : W p l e R s m args below meth c H locs 0 0 Q (F0 m 60 ls []) := by
  have hx := X.1
  have hb := X.2.1
  have hown := X.2.2.2.2.1
  have hts := X.2.2.2.2.2.1
  unfold bd_X5_sharpness_60 at h
  refine lv_iload hx hb dX5_sharpness_60 (lv_at hl 5 rfl) ?_
  refine lv_aload_n hx hb dX5_sharpness_62 rfl (lv_at hl 0 rfl) ?_
  refine rw_getR X hK hT hR 6 3 7 k0 (by decide) (C := RX5) (T := TX5) (N := 24) rfl (by decide) in_X5_sharpness_6 (by decide +kernel) rfl dX5_sharpness_63 (fun kf_13 => ?_)
  refine lv_iload_n hx hb dX5_sharpness_66 rfl (lv_at hl 1 rfl) ?_
  obtain ⟨hg_14, h⟩ := of_guard h
  refine rw_iald X hK hR kf_13 hg_14 dX5_sharpness_67 ?_
  refine lv_icmp_ge (tgt := 106) hx hb dX5_sharpness_68 (by decide) (fun hc => ?_) (fun hc => ?_)
  · have h := of_pos hc h
    exact kx0 s9.2 (Option.some.inj h).symm H locs ls hR hS (lv_sub hl [0, 1, 2, 3] rfl)
  · have h := of_neg hc h
    refine lv_aload_n hx hb dX5_sharpness_71 rfl (lv_at hl 0 rfl) ?_
    refine rw_getR X hK hT hR 6 17 7 k0 (by decide) (C := RX5) (T := TX5) (N := 24) rfl (by decide) in_X5_sharpness_6 (by decide +kernel) rfl dX5_sharpness_72 (fun kf_15 => ?_)
    refine lv_iload hx hb dX5_sharpness_75 (lv_at hl 5 rfl) ?_
    refine lv_iload hx hb dX5_sharpness_77 (lv_at hl 4 rfl) ?_
    refine lv_iadd hx hb dX5_sharpness_79 ?_
    refine lv_dup2_11 hx hb dX5_sharpness_80 rfl rfl ?_
    obtain ⟨hg_16, h⟩ := of_guard h
    refine rw_iald X hK hR kf_15 hg_16 dX5_sharpness_81 ?_
    refine lv_aload_n hx hb dX5_sharpness_82 rfl (lv_at hl 0 rfl) ?_
    refine lv_iload_n hx hb dX5_sharpness_83 rfl (lv_at hl 1 rfl) ?_
    refine lv_iload_n hx hb dX5_sharpness_84 rfl (lv_at hl 3 rfl) ?_
    refine lv_iload hx hb dX5_sharpness_85 (lv_at hl 5 rfl) ?_
    obtain ⟨q_17, hq_17, h⟩ := of_bind h
    refine cl_z (rn_V (As := [.int l1, .int l3, .int s9.1]) (rest := [.int (s9.2.1 (rfA Λ a0 17) (s9.1 + l4).toNatClampNeg), .int (s9.1 + l4), .ref (rfA Λ a0 17)]) X hK hR k0 rfl (by decide) hl.1 (c_X5_has l cA D Λ hT s9.2 a0 l1 l3 s9.1 k0 hq_17) (cwV 3 hts gX5_sharpness_X5_has rfl rfl rfl (by decide +kernel) ⟨Nat.le_trans (by decide) hM.1, Nat.le_trans (by decide) hM.2⟩) rfl rfl (Nat.le_of_ble_eq_true rfl) dX5_sharpness_87) hS (fun hz_17 H locs hR hS => ?_)
    refine lv_if_eq (tgt := 97) hx hb dX5_sharpness_90 (by decide) (fun hc => ?_) (fun hc => ?_)
    · have h := of_pos hc h
      refine lv_iconst (v := (0 : Int32)) hx hb dX5_sharpness_97 (by decide) ?_
      exact w_jp_X5_sharpness_98 X hK hT hM a0 l1 l2 l3 l4 s9.1 (0 : Int32) (s9.2.1 (rfA Λ a0 17) (s9.1 + l4).toNatClampNeg) (s9.1 + l4) (rfA Λ a0 17) k0 kf_15 h kb kx0 H locs ls hR hS (lv_sub hl [0, 1, 2, 3, 4, 5] rfl)
    · have h := of_neg hc h
      refine lv_iconst (v := (1 : Int32)) hx hb dX5_sharpness_93 (by decide) ?_
      refine lv_goto (tgt := 98) hx hb dX5_sharpness_94 (by decide) ?_
      exact w_jp_X5_sharpness_98 X hK hT hM a0 l1 l2 l3 l4 s9.1 (1 : Int32) (s9.2.1 (rfA Λ a0 17) (s9.1 + l4).toNatClampNeg) (s9.1 + l4) (rfA Λ a0 17) k0 kf_15 h kb kx0 H locs ls hR hS (lv_sub hl [0, 1, 2, 3, 4, 5] rfl)

set_option maxHeartbeats 4000000 in
set_option maxRecDepth 100000 in
theorem w_lp_X5_sharpness_60 (X : Cx cX5_sharpness (some .int) 6 RX5 wsX5_sharpness p s m args meth c) (hK : Kn cA D s) (hT : TL Λ) (hM : 2 ≤ R.frames ∧ 45 ≤ R.locals) (a0 : Nat) (l1 : Int32) (l2 : Int32) (l3 : Int32) (l4 : Int32) (k0 : isK Λ a0 6) {e9 : Sto} : ∀ (n9 : Nat) (s9 : (Int32 × Sto)), iter (bd_X5_sharpness_60 Λ a0 l1 l2 l3 l4) n9 s9 = some e9 → ∀ (kx0 : ∀ (H : Heap) (locs : List Loc) (ls : Array Slot), Rep cA D Λ e9 H → va_S (dm Λ) s.heap H locs → lv_has ls 6 [(0, .ref a0), (1, .int l1), (2, .int l2), (3, .int l3)] → W p l e R s m args below meth c H locs 0 0 Q (F0 m 106 ls [])), ∀ (H : Heap) (locs : List Loc) (ls : Array Slot), Rep cA D Λ s9.2 H → va_S (dm Λ) s.heap H locs → lv_has ls 6 [(0, .ref a0), (1, .int l1), (2, .int l2), (3, .int l3), (4, .int l4), (5, .int s9.1)] → W p l e R s m args below meth c H locs 0 0 Q (F0 m 60 ls []) := by
  intro n9
  induction n9 with
  | zero => intro s9 h; cases h
  | succ n9 ih =>
    intro s9 h kx0 H locs ls hR hS hl
    obtain ⟨r, hr, h⟩ := of_iter h
    refine w_bd_X5_sharpness_60 X hK hT hM a0 l1 l2 l3 l4 s9 k0 hr (fun z ez H locs ls hR hS hl => ?_) (fun z ez H locs ls hR hS hl => ?_) H locs ls hR hS hl
    · exact ih z (of_itl ez h) kx0 H locs ls hR hS hl
    · have he := of_itr ez h; subst he; exact kx0 H locs ls hR hS hl

set_option maxHeartbeats 4000000 in
set_option maxRecDepth 100000 in
theorem w_bd_X5_sharpness_26 (X : Cx cX5_sharpness (some .int) 6 RX5 wsX5_sharpness p s m args meth c) (hK : Kn cA D s) (hT : TL Λ) (hM : 2 ≤ R.frames ∧ 45 ≤ R.locals) (a0 : Nat) (l1 : Int32) (l2 : Int32) (s9 : (Int32 × Sto)) (k0 : isK Λ a0 6) {r : (Int32 × Sto) ⊕ Sto} (h : bd_X5_sharpness_26 Λ a0 l1 l2 s9 = some r) (kb : ∀ z : (Int32 × Sto), r = .inl z → ∀ (H : Heap) (locs : List Loc) (ls : Array Slot), Rep cA D Λ z.2 H → va_S (dm Λ) s.heap H locs → lv_has ls 6 [(0, .ref a0), (1, .int l1), (2, .int l2), (3, .int z.1)] → W p l e R s m args below meth c H locs 0 0 Q (F0 m 26 ls [])) (kx0 : ∀ z : Sto, r = .inr z → ∀ (H : Heap) (locs : List Loc) (ls : Array Slot), Rep cA D Λ z H → va_S (dm Λ) s.heap H locs → lv_has ls 6 [(0, .ref a0)] → W p l e R s m args below meth c H locs 0 0 Q (F0 m 112 ls [])) (H : Heap) (locs : List Loc) (ls : Array Slot) (hR : Rep cA D Λ s9.2 H) (hS : va_S (dm Λ) s.heap H locs) (hl : lv_has ls 6 [(0, .ref a0), (1, .int l1), (2, .int l2), (3, .int s9.1)]) : W p l e R s m args below meth c H locs 0 0 Q (F0 m 26 ls []) := by
  have hx := X.1
  have hb := X.2.1
  have hown := X.2.2.2.2.1
  have hts := X.2.2.2.2.2.1
  unfold bd_X5_sharpness_26 at h
  refine lv_iload_n hx hb dX5_sharpness_26 rfl (lv_at hl 3 rfl) ?_
  refine lv_aload_n hx hb dX5_sharpness_27 rfl (lv_at hl 0 rfl) ?_
  refine rw_getR X hK hT hR 6 2 7 k0 (by decide) (C := RX5) (T := TX5) (N := 24) rfl (by decide) in_X5_sharpness_6 (by decide +kernel) rfl dX5_sharpness_28 (fun kf_6 => ?_)
  refine lv_iload_n hx hb dX5_sharpness_31 rfl (lv_at hl 1 rfl) ?_
  obtain ⟨hg_7, h⟩ := of_guard h
  refine rw_iald X hK hR kf_6 hg_7 dX5_sharpness_32 ?_
  refine lv_icmp_ge (tgt := 112) hx hb dX5_sharpness_33 (by decide) (fun hc => ?_) (fun hc => ?_)
  · have h := of_pos hc h
    exact kx0 s9.2 (Option.some.inj h).symm H locs ls hR hS (lv_sub hl [0] rfl)
  · have h := of_neg hc h
    refine lv_iload_n hx hb dX5_sharpness_36 rfl (lv_at hl 2 rfl) ?_
    refine lv_iload_n hx hb dX5_sharpness_37 rfl (lv_at hl 3 rfl) ?_
    refine lv_imul hx hb dX5_sharpness_38 ?_
    refine lv_bipush (v := (16 : Int32)) hx hb dX5_sharpness_39 (by decide) ?_
    refine cl_i (rn_S (As := [.int (l2 * s9.1), .int (16 : Int32)]) (rest := []) X hK hR hl.1 (c_J9_floorDiv_7cf53 l cA D Λ hT s9.2 (l2 * s9.1) (16 : Int32) (by decide)) (va_cwS 2 hts gX5_sharpness_J9_floorDiv_7cf53 rfl rfl rfl (by decide +kernel) ⟨Nat.le_trans (by decide) hM.1, Nat.le_trans (by decide) hM.2⟩) rfl rfl (Nat.le_of_ble_eq_true rfl) dX5_sharpness_41) hS (fun H locs hR hS => ?_)
    refine lv_topi (fun r_8 e_8 => ?_)
    have h := of_nm e_8 h
    refine lv_iload_n hx hb dX5_sharpness_44 rfl (lv_at hl 2 rfl) ?_
    refine lv_aload_n hx hb dX5_sharpness_45 rfl (lv_at hl 0 rfl) ?_
    refine rw_getR X hK hT hR 6 2 7 k0 (by decide) (C := RX5) (T := TX5) (N := 24) rfl (by decide) in_X5_sharpness_6 (by decide +kernel) rfl dX5_sharpness_46 (fun kf_9 => ?_)
    refine lv_iload_n hx hb dX5_sharpness_49 rfl (lv_at hl 1 rfl) ?_
    obtain ⟨hg_10, h⟩ := of_guard h
    refine rw_iald X hK hR kf_9 hg_10 dX5_sharpness_50 ?_
    obtain ⟨q_11, hq_11, h⟩ := of_bind h
    refine cl_i (rn_S (As := [.int l2, .int (s9.2.1 (rfA Λ a0 2) l1.toNatClampNeg)]) (rest := [.int r_8]) X hK hR hl.1 (c_X5_least l cA D Λ hT s9.2 l2 (s9.2.1 (rfA Λ a0 2) l1.toNatClampNeg) hq_11) (va_cwS 2 hts gX5_sharpness_X5_least rfl rfl rfl (by decide +kernel) ⟨Nat.le_trans (by decide) hM.1, Nat.le_trans (by decide) hM.2⟩) rfl rfl (Nat.le_of_ble_eq_true rfl) dX5_sharpness_51) hS (fun H locs hR hS => ?_)
    refine lv_isub hx hb dX5_sharpness_54 ?_
    refine lv_topi (fun v_12 e_v_12 => ?_)
    have h := of_nm e_v_12 h
    refine lv_istore (lv' := [(4, .int v_12), (0, .ref a0), (1, .int l1), (2, .int l2), (3, .int s9.1)]) hx hb dX5_sharpness_55 hl (by decide) rfl (fun ls hl => ?_)
    refine lv_iconst (v := (0 : Int32)) hx hb dX5_sharpness_57 (by decide) ?_
    refine lv_istore (lv' := [(5, .int (0 : Int32)), (4, .int v_12), (0, .ref a0), (1, .int l1), (2, .int l2), (3, .int s9.1)]) hx hb dX5_sharpness_58 hl (by decide) rfl (fun ls hl => ?_)
    obtain ⟨e_20, hq_20, h⟩ := of_bind h
    refine w_lp_X5_sharpness_60 X hK hT hM a0 l1 l2 s9.1 v_12 k0 _ ((0 : Int32), s9.2) hq_20 (fun H locs ls hR hS hl => ?_) H locs ls hR hS (lv_sub hl [2, 3, 4, 5, 1, 0] rfl)
    obtain ⟨v_21, e_v_21⟩ : ∃ y : Int32, y = (s9.1 + (1 : Int32)) := ⟨_, rfl⟩
    have h := of_nm e_v_21 h
    refine lv_iinc (v := v_21) (lv' := [(3, .int v_21), (0, .ref a0), (1, .int l1), (2, .int l2)]) hx hb dX5_sharpness_106 hl (k := 3) rfl (by rw [e_v_21]; rfl) (by decide) rfl (fun ls hl => ?_)
    refine lv_goto (tgt := 26) hx hb dX5_sharpness_109 (by decide) ?_
    exact kb (v_21, e_20) (Option.some.inj h).symm H locs ls hR hS (lv_sub hl [1, 2, 3, 0] rfl)

set_option maxHeartbeats 4000000 in
set_option maxRecDepth 100000 in
theorem w_lp_X5_sharpness_26 (X : Cx cX5_sharpness (some .int) 6 RX5 wsX5_sharpness p s m args meth c) (hK : Kn cA D s) (hT : TL Λ) (hM : 2 ≤ R.frames ∧ 45 ≤ R.locals) (a0 : Nat) (l1 : Int32) (l2 : Int32) (k0 : isK Λ a0 6) {e9 : Sto} : ∀ (n9 : Nat) (s9 : (Int32 × Sto)), iter (bd_X5_sharpness_26 Λ a0 l1 l2) n9 s9 = some e9 → ∀ (kx0 : ∀ (H : Heap) (locs : List Loc) (ls : Array Slot), Rep cA D Λ e9 H → va_S (dm Λ) s.heap H locs → lv_has ls 6 [(0, .ref a0)] → W p l e R s m args below meth c H locs 0 0 Q (F0 m 112 ls [])), ∀ (H : Heap) (locs : List Loc) (ls : Array Slot), Rep cA D Λ s9.2 H → va_S (dm Λ) s.heap H locs → lv_has ls 6 [(0, .ref a0), (1, .int l1), (2, .int l2), (3, .int s9.1)] → W p l e R s m args below meth c H locs 0 0 Q (F0 m 26 ls []) := by
  intro n9
  induction n9 with
  | zero => intro s9 h; cases h
  | succ n9 ih =>
    intro s9 h kx0 H locs ls hR hS hl
    obtain ⟨r, hr, h⟩ := of_iter h
    refine w_bd_X5_sharpness_26 X hK hT hM a0 l1 l2 s9 k0 hr (fun z ez H locs ls hR hS hl => ?_) (fun z ez H locs ls hR hS hl => ?_) H locs ls hR hS hl
    · exact ih z (of_itl ez h) kx0 H locs ls hR hS hl
    · have he := of_itr ez h; subst he; exact kx0 H locs ls hR hS hl

set_option maxHeartbeats 4000000 in
set_option maxRecDepth 100000 in
theorem w_bd_X5_sharpness_117 (X : Cx cX5_sharpness (some .int) 6 RX5 wsX5_sharpness p s m args meth c) (hK : Kn cA D s) (hT : TL Λ) (hM : 2 ≤ R.frames ∧ 45 ≤ R.locals) (a0 : Nat) (s9 : (Int32 × Int32)) (k0 : isK Λ a0 6) {r : (Int32 × Int32) ⊕ Int32} (h : bd_X5_sharpness_117 Λ σ a0 s9 = some r) (kb : ∀ z : (Int32 × Int32), r = .inl z → ∀ (H : Heap) (locs : List Loc) (ls : Array Slot), Rep cA D Λ σ H → va_S (dm Λ) s.heap H locs → lv_has ls 6 [(0, .ref a0), (3, .int z.1), (4, .int z.2)] → W p l e R s m args below meth c H locs 0 0 Q (F0 m 117 ls [])) (kx0 : ∀ z : Int32, r = .inr z → ∀ (H : Heap) (locs : List Loc) (ls : Array Slot), Rep cA D Λ σ H → va_S (dm Λ) s.heap H locs → lv_has ls 6 [(3, .int z)] → W p l e R s m args below meth c H locs 0 0 Q (F0 m 151 ls [])) (H : Heap) (locs : List Loc) (ls : Array Slot) (hR : Rep cA D Λ σ H) (hS : va_S (dm Λ) s.heap H locs) (hl : lv_has ls 6 [(0, .ref a0), (3, .int s9.1), (4, .int s9.2)]) : W p l e R s m args below meth c H locs 0 0 Q (F0 m 117 ls []) := by
  have hx := X.1
  have hb := X.2.1
  have hown := X.2.2.2.2.1
  have hts := X.2.2.2.2.2.1
  unfold bd_X5_sharpness_117 at h
  refine lv_iload hx hb dX5_sharpness_117 (lv_at hl 2 rfl) ?_
  refine lv_aload_n hx hb dX5_sharpness_119 rfl (lv_at hl 0 rfl) ?_
  refine rw_getR X hK hT hR 6 17 7 k0 (by decide) (C := RX5) (T := TX5) (N := 24) rfl (by decide) in_X5_sharpness_6 (by decide +kernel) rfl dX5_sharpness_120 (fun kf_23 => ?_)
  refine rw_alen7 X hK hR kf_23 dX5_sharpness_123 ?_
  refine lv_icmp_ge (tgt := 151) hx hb dX5_sharpness_124 (by decide) (fun hc => ?_) (fun hc => ?_)
  · have h := of_pos hc h
    exact kx0 s9.1 (Option.some.inj h).symm H locs ls hR hS (lv_sub hl [1] rfl)
  · have h := of_neg hc h
    refine lv_iload_n hx hb dX5_sharpness_127 rfl (lv_at hl 1 rfl) ?_
    refine lv_aload_n hx hb dX5_sharpness_128 rfl (lv_at hl 0 rfl) ?_
    refine rw_getR X hK hT hR 6 17 7 k0 (by decide) (C := RX5) (T := TX5) (N := 24) rfl (by decide) in_X5_sharpness_6 (by decide +kernel) rfl dX5_sharpness_129 (fun kf_24 => ?_)
    refine lv_iload hx hb dX5_sharpness_132 (lv_at hl 2 rfl) ?_
    obtain ⟨hg_25, h⟩ := of_guard h
    refine rw_iald X hK hR kf_24 hg_25 dX5_sharpness_134 ?_
    refine lv_aload_n hx hb dX5_sharpness_135 rfl (lv_at hl 0 rfl) ?_
    refine rw_getR X hK hT hR 6 17 7 k0 (by decide) (C := RX5) (T := TX5) (N := 24) rfl (by decide) in_X5_sharpness_6 (by decide +kernel) rfl dX5_sharpness_136 (fun kf_26 => ?_)
    refine lv_iload hx hb dX5_sharpness_139 (lv_at hl 2 rfl) ?_
    obtain ⟨hg_27, h⟩ := of_guard h
    refine rw_iald X hK hR kf_26 hg_27 dX5_sharpness_141 ?_
    refine lv_imul hx hb dX5_sharpness_142 ?_
    refine lv_iadd hx hb dX5_sharpness_143 ?_
    refine lv_topi (fun v_28 e_v_28 => ?_)
    have h := of_nm e_v_28 h
    refine lv_istore_n (lv' := [(3, .int v_28), (0, .ref a0), (4, .int s9.2)]) hx hb dX5_sharpness_144 rfl hl (by decide) rfl (fun ls hl => ?_)
    obtain ⟨v_29, e_v_29⟩ : ∃ y : Int32, y = (s9.2 + (1 : Int32)) := ⟨_, rfl⟩
    have h := of_nm e_v_29 h
    refine lv_iinc (v := v_29) (lv' := [(4, .int v_29), (3, .int v_28), (0, .ref a0)]) hx hb dX5_sharpness_145 hl (k := 2) rfl (by rw [e_v_29]; rfl) (by decide) rfl (fun ls hl => ?_)
    refine lv_goto (tgt := 117) hx hb dX5_sharpness_148 (by decide) ?_
    exact kb (v_28, v_29) (Option.some.inj h).symm H locs ls hR hS (lv_sub hl [2, 1, 0] rfl)

set_option maxHeartbeats 4000000 in
set_option maxRecDepth 100000 in
theorem w_lp_X5_sharpness_117 (X : Cx cX5_sharpness (some .int) 6 RX5 wsX5_sharpness p s m args meth c) (hK : Kn cA D s) (hT : TL Λ) (hM : 2 ≤ R.frames ∧ 45 ≤ R.locals) (a0 : Nat) (k0 : isK Λ a0 6) {e9 : Int32} : ∀ (n9 : Nat) (s9 : (Int32 × Int32)), iter (bd_X5_sharpness_117 Λ σ a0) n9 s9 = some e9 → ∀ (kx0 : ∀ (H : Heap) (locs : List Loc) (ls : Array Slot), Rep cA D Λ σ H → va_S (dm Λ) s.heap H locs → lv_has ls 6 [(3, .int e9)] → W p l e R s m args below meth c H locs 0 0 Q (F0 m 151 ls [])), ∀ (H : Heap) (locs : List Loc) (ls : Array Slot), Rep cA D Λ σ H → va_S (dm Λ) s.heap H locs → lv_has ls 6 [(0, .ref a0), (3, .int s9.1), (4, .int s9.2)] → W p l e R s m args below meth c H locs 0 0 Q (F0 m 117 ls []) := by
  intro n9
  induction n9 with
  | zero => intro s9 h; cases h
  | succ n9 ih =>
    intro s9 h kx0 H locs ls hR hS hl
    obtain ⟨r, hr, h⟩ := of_iter h
    refine w_bd_X5_sharpness_117 X hK hT hM a0 s9 k0 hr (fun z ez H locs ls hR hS hl => ?_) (fun z ez H locs ls hR hS hl => ?_) H locs ls hR hS hl
    · exact ih z (of_itl ez h) kx0 H locs ls hR hS hl
    · have he := of_itr ez h; subst he; exact kx0 H locs ls hR hS hl

set_option maxHeartbeats 4000000 in
set_option maxRecDepth 100000 in
theorem w_X5_sharpness (X : Cx cX5_sharpness (some .int) 6 RX5 wsX5_sharpness p s m args meth c) (hK : Kn cA D s) (hT : TL Λ) (hM : 2 ≤ R.frames ∧ 45 ≤ R.locals) (a0 : Nat) (l1 : Int32) (l2 : Int32) (k0 : isK Λ a0 6) {res : Int32 × Sto} (h : F_X5_sharpness Λ σ a0 l1 l2 = some res) (H : Heap) (locs : List Loc) (ls : Array Slot) (hR : Rep cA D Λ σ H) (hS : va_S (dm Λ) s.heap H locs) (hl : lv_has ls 6 [(0, .ref a0), (1, .int l1), (2, .int l2)]) : W p l e R s m args below meth c H locs 0 0 (MQ below (QI cA D Λ res) args s 0 0 (dm Λ)) (F0 m 0 ls []) := by
  have hx := X.1
  have hb := X.2.1
  have hown := X.2.2.2.2.1
  have hts := X.2.2.2.2.2.1
  unfold F_X5_sharpness at h
  refine lv_iconst (v := (0 : Int32)) hx hb dX5_sharpness_0 (by decide) ?_
  refine lv_istore_n (lv' := [(3, .int (0 : Int32)), (0, .ref a0), (1, .int l1), (2, .int l2)]) hx hb dX5_sharpness_1 rfl hl (by decide) rfl (fun ls hl => ?_)
  obtain ⟨e_5, hq_5, h⟩ := of_bind h
  refine w_lp_X5_sharpness_2 X hK hT hM a0 l1 l2 k0 _ ((0 : Int32), σ) hq_5 (fun H locs ls hR hS hl => ?_) H locs ls hR hS (lv_sub hl [1, 2, 3, 0] rfl)
  refine lv_iconst (v := (0 : Int32)) hx hb dX5_sharpness_24 (by decide) ?_
  refine lv_istore_n (lv' := [(3, .int (0 : Int32)), (0, .ref a0), (1, .int l1), (2, .int l2)]) hx hb dX5_sharpness_25 rfl hl (by decide) rfl (fun ls hl => ?_)
  obtain ⟨e_22, hq_22, h⟩ := of_bind h
  refine w_lp_X5_sharpness_26 X hK hT hM a0 l1 l2 k0 _ ((0 : Int32), e_5) hq_22 (fun H locs ls hR hS hl => ?_) H locs ls hR hS (lv_sub hl [1, 2, 3, 0] rfl)
  refine lv_iconst (v := (0 : Int32)) hx hb dX5_sharpness_112 (by decide) ?_
  refine lv_istore_n (lv' := [(3, .int (0 : Int32)), (0, .ref a0)]) hx hb dX5_sharpness_113 rfl hl (by decide) rfl (fun ls hl => ?_)
  refine lv_iconst (v := (0 : Int32)) hx hb dX5_sharpness_114 (by decide) ?_
  refine lv_istore (lv' := [(4, .int (0 : Int32)), (3, .int (0 : Int32)), (0, .ref a0)]) hx hb dX5_sharpness_115 hl (by decide) rfl (fun ls hl => ?_)
  obtain ⟨e_30, hq_30, h⟩ := of_bind h
  refine w_lp_X5_sharpness_117 X hK hT hM a0 k0 _ ((0 : Int32), (0 : Int32)) hq_30 (fun H locs ls hR hS hl => ?_) H locs ls hR hS (lv_sub hl [2, 1, 0] rfl)
  refine lv_iload_n hx hb dX5_sharpness_151 rfl (lv_at hl 0 rfl) ?_
  exact rt_i X hR hS (Option.some.inj h) dX5_sharpness_152

set_option maxHeartbeats 4000000 in
set_option maxRecDepth 100000 in
theorem c_X5_sharpness (l : Launch) (cA : Nat → ClassId) (D : va_G) (Λ : Lay) (hT : TL Λ) (σ : Sto) (a0 : Nat) (l1 : Int32) (l2 : Int32) (k0 : isK Λ a0 6) {res : Int32 × Sto} (h : F_X5_sharpness Λ σ a0 l1 l2 = some res) : Met l yX5_sharpness wsX5_sharpness { frames := 2, cells := 0, slots := 0, locals := 45 } (va_Pc [.ref a0, .int l1, .int l2] (PW cA D Λ σ)) (QI cA D Λ res) 0 0 (dm Λ) := by
  refine Met.ofW (cc := cX5_sharpness) (maxL := 6) (ret := (some .int)) (by decide) rfl ?_
  intro p e s m args below meth c s₁ B hml hv
  obtain ⟨rfl, hR, hK⟩ := hv
  have X : Cx cX5_sharpness (some .int) 6 RX5 wsX5_sharpness p s m _ meth c := ⟨B.exec, B.bytes, B.returns, hml, findClass_of_methodNamed B.named, atoms_spec (ws := wsX5_sharpness) B.pre, B.notSynchronized⟩
  have hS : va_S (dm Λ) s.heap s.heap [] := va_S.rf
  have hl := lv_entry ([.ref a0, .int l1, .int l2]) (n := 6) (Nat.le_of_ble_eq_true rfl)
  rw [lg_entry_eq]
  generalize (lg_sl ([.ref a0, .int l1, .int l2]) ++ List.replicate (6 - (lg_sl ([.ref a0, .int l1, .int l2])).length) Slot.unset).toArray = ls at hl ⊢
  have hl : lv_has ls 6 [(0, .ref a0), (1, .int l1), (2, .int l2)] := hl
  exact w_X5_sharpness X hK hT ⟨Nat.le_refl _, Nat.le_refl _⟩ a0 l1 l2 k0 h s.heap [] ls hR hS hl
theorem in_X5_sharp_6 : ∀ w ∈ u_ws RX5 TX5 24, w ∈ wsX5_sharp := by decide +kernel
set_option maxHeartbeats 4000000 in
set_option maxRecDepth 100000 in
theorem w_X5_sharp (X : Cx cX5_sharp (some .int) 3 RX5 wsX5_sharp p s m args meth c) (hK : Kn cA D s) (hT : TL Λ) (hM : 3 ≤ R.frames ∧ 70 ≤ R.locals) (a0 : Nat) (l1 : Int32) (l2 : Int32) (k0 : isK Λ a0 6) {res : Int32 × Sto} (h : F_X5_sharp Λ σ a0 l1 l2 = some res) (H : Heap) (locs : List Loc) (ls : Array Slot) (hR : Rep cA D Λ σ H) (hS : va_S (dm Λ) s.heap H locs) (hl : lv_has ls 3 [(0, .ref a0), (1, .int l1), (2, .int l2)]) : W p l e R s m args below meth c H locs 0 0 (MQ below (QI cA D Λ res) args s 0 0 (dm Λ)) (F0 m 0 ls []) := by
  have hx := X.1
  have hb := X.2.1
  have hown := X.2.2.2.2.1
  have hts := X.2.2.2.2.2.1
  unfold F_X5_sharp at h
  refine lv_aload_n hx hb dX5_sharp_0 rfl (lv_at hl 0 rfl) ?_
  refine lv_iconst (v := (0 : Int32)) hx hb dX5_sharp_1 (by decide) ?_
  refine rw_putI X hK hT hR hS 6 0 tyX5 k0 (by decide) (C := RX5) (T := TX5) (N := 24) rfl (by decide) in_X5_sharp_6 tyX5_ok nmX5 (by decide +kernel) rfl rfl (by decide +kernel) dX5_sharp_2 (fun σ_1 H locs e_1 hR hS => ?_)
  have h := of_nm e_1 h
  refine lv_aload_n hx hb dX5_sharp_5 rfl (lv_at hl 0 rfl) ?_
  refine lv_iload_n hx hb dX5_sharp_6 rfl (lv_at hl 1 rfl) ?_
  refine cl_z (rn_V (As := [.int l1]) (rest := []) X hK hR k0 rfl (by decide) hl.1 (c_X5_isPage l cA D Λ hT σ_1 a0 l1 k0) (cwV 1 hts gX5_sharp_X5_isPage rfl rfl rfl (by decide +kernel) ⟨Nat.le_trans (by decide) hM.1, Nat.le_trans (by decide) hM.2⟩) rfl rfl (Nat.le_of_ble_eq_true rfl) dX5_sharp_7) hS (fun hz_2 H locs hR hS => ?_)
  refine lv_topi (fun r_2 e_2 => ?_)
  have h := of_nm e_2 h
  have hz_2 : r_2 = 0 ∨ r_2 = 1 := by rw [e_2]; exact hz_2
  refine lv_if_eq (tgt := 36) hx hb dX5_sharp_10 (by decide) (fun hc => ?_) (fun hc => ?_)
  · have h := of_pos hc h
    refine lv_iconst (v := (-1 : Int32)) hx hb dX5_sharp_36 (by decide) ?_
    exact rt_i X hR hS (Option.some.inj h) dX5_sharp_37
  · have h := of_neg hc h
    refine lv_iload_n hx hb dX5_sharp_13 rfl (lv_at hl 2 rfl) ?_
    refine lv_i2l (v := (l2.toInt64)) hx hb dX5_sharp_14 rfl ?_
    refine lv_ldc2 (v := (-12 : Int64)) hx hb hown (hts (.constantLong RX5 184 (-12)) (by decide +kernel)) dX5_sharp_15 ?_
    refine lv_ldc2 (v := (12 : Int64)) hx hb hown (hts (.constantLong RX5 186 (12)) (by decide +kernel)) dX5_sharp_18 ?_
    refine cl_z (rn_S (As := [.long (l2.toInt64), .long (-12 : Int64), .long (12 : Int64)]) (rest := []) X hK hR hl.1 (c_X5_in l cA D Λ hT σ_1 (l2.toInt64) (-12 : Int64) (12 : Int64)) (va_cwS 3 hts gX5_sharp_X5_in rfl rfl rfl (by decide +kernel) ⟨Nat.le_trans (by decide) hM.1, Nat.le_trans (by decide) hM.2⟩) rfl rfl (Nat.le_of_ble_eq_true rfl) dX5_sharp_21) hS (fun hz_3 H locs hR hS => ?_)
    refine lv_topi (fun r_3 e_3 => ?_)
    have h := of_nm e_3 h
    have hz_3 : r_3 = 0 ∨ r_3 = 1 := by rw [e_3]; exact hz_3
    refine lv_if_eq (tgt := 36) hx hb dX5_sharp_24 (by decide) (fun hc => ?_) (fun hc => ?_)
    · have h := of_pos hc h
      refine lv_iconst (v := (-1 : Int32)) hx hb dX5_sharp_36 (by decide) ?_
      exact rt_i X hR hS (Option.some.inj h) dX5_sharp_37
    · have h := of_neg hc h
      refine lv_aload_n hx hb dX5_sharp_27 rfl (lv_at hl 0 rfl) ?_
      refine lv_iload_n hx hb dX5_sharp_28 rfl (lv_at hl 1 rfl) ?_
      refine lv_iload_n hx hb dX5_sharp_29 rfl (lv_at hl 2 rfl) ?_
      obtain ⟨q_4, hq_4, h⟩ := of_bind h
      refine cl_i (rn_V (As := [.int l1, .int l2]) (rest := []) X hK hR k0 rfl (by decide) hl.1 (c_X5_sharpness l cA D Λ hT σ_1 a0 l1 l2 k0 hq_4) (cwV 2 hts gX5_sharp_X5_sharpness rfl rfl rfl (by decide +kernel) ⟨Nat.le_trans (by decide) hM.1, Nat.le_trans (by decide) hM.2⟩) rfl rfl (Nat.le_of_ble_eq_true rfl) dX5_sharp_30) hS (fun H locs hR hS => ?_)
      refine lv_goto (tgt := 37) hx hb dX5_sharp_33 (by decide) ?_
      exact rt_i X hR hS (Option.some.inj h) dX5_sharp_37

set_option maxHeartbeats 4000000 in
set_option maxRecDepth 100000 in
theorem c_X5_sharp (l : Launch) (cA : Nat → ClassId) (D : va_G) (Λ : Lay) (hT : TL Λ) (σ : Sto) (a0 : Nat) (l1 : Int32) (l2 : Int32) (k0 : isK Λ a0 6) {res : Int32 × Sto} (h : F_X5_sharp Λ σ a0 l1 l2 = some res) : Met l yX5_sharp wsX5_sharp { frames := 3, cells := 0, slots := 0, locals := 70 } (va_Pc [.ref a0, .int l1, .int l2] (PW cA D Λ σ)) (QI cA D Λ res) 0 0 (dm Λ) := by
  refine Met.ofW (cc := cX5_sharp) (maxL := 3) (ret := (some .int)) (by decide) rfl ?_
  intro p e s m args below meth c s₁ B hml hv
  obtain ⟨rfl, hR, hK⟩ := hv
  have X : Cx cX5_sharp (some .int) 3 RX5 wsX5_sharp p s m _ meth c := ⟨B.exec, B.bytes, B.returns, hml, findClass_of_methodNamed B.named, atoms_spec (ws := wsX5_sharp) B.pre, B.notSynchronized⟩
  have hS : va_S (dm Λ) s.heap s.heap [] := va_S.rf
  have hl := lv_entry ([.ref a0, .int l1, .int l2]) (n := 3) (Nat.le_of_ble_eq_true rfl)
  rw [lg_entry_eq]
  generalize (lg_sl ([.ref a0, .int l1, .int l2]) ++ List.replicate (3 - (lg_sl ([.ref a0, .int l1, .int l2])).length) Slot.unset).toArray = ls at hl ⊢
  have hl : lv_has ls 3 [(0, .ref a0), (1, .int l1), (2, .int l2)] := hl
  exact w_X5_sharp X hK hT ⟨Nat.le_refl _, Nat.le_refl _⟩ a0 l1 l2 k0 h s.heap [] ls hR hS hl
theorem in_X5_angle_6 : ∀ w ∈ u_ws RX5 TX5 24, w ∈ wsX5_angle := by decide +kernel
set_option maxHeartbeats 4000000 in
set_option maxRecDepth 100000 in
theorem w_jp_X5_angle_44 (X : Cx cX5_angle (some .int) 8 RX5 wsX5_angle p s m args meth c) (hK : Kn cA D s) (hT : TL Λ) (hM : 3 ≤ R.frames ∧ 70 ≤ R.locals) (a0 : Nat) (l1 : Int32) (l3 : Int32) (ls0 : Int32) (ls1 : Int32) (k0 : isK Λ a0 6) {r : (Int32 × Int32) ⊕ Int32} (h : jp_X5_angle_44 Λ σ a0 l1 l3 ls0 ls1 = some r) (kb : ∀ z : (Int32 × Int32), r = .inl z → ∀ (H : Heap) (locs : List Loc) (ls : Array Slot), Rep cA D Λ σ H → va_S (dm Λ) s.heap H locs → lv_has ls 8 [(0, .ref a0), (1, .int l1), (2, .int z.1), (3, .int z.2)] → W p l e R s m args below meth c H locs 0 0 Q (F0 m 19 ls [])) (kx0 : ∀ z : Int32, r = .inr z → ∀ (H : Heap) (locs : List Loc) (ls : Array Slot), Rep cA D Λ σ H → va_S (dm Λ) s.heap H locs → lv_has ls 8 [(0, .ref a0), (1, .int l1), (2, .int z)] → W p l e R s m args below meth c H locs 0 0 Q (F0 m 52 ls [])) (H : Heap) (locs : List Loc) (ls : Array Slot) (hR : Rep cA D Λ σ H) (hS : va_S (dm Λ) s.heap H locs) (hl : lv_has ls 8 [(0, .ref a0), (1, .int l1), (3, .int l3)]) : W p l e R s m args below meth c H locs 0 0 Q (F0 m 44 ls [.int ls0, .int ls1]) := by
  have hx := X.1
  have hb := X.2.1
  have hown := X.2.2.2.2.1
  have hts := X.2.2.2.2.2.1
  unfold jp_X5_angle_44 at h
  refine lv_iadd hx hb dX5_angle_44 ?_
  refine lv_topi (fun v_6 e_v_6 => ?_)
  have h := of_nm e_v_6 h
  refine lv_istore_n (lv' := [(2, .int v_6), (0, .ref a0), (1, .int l1), (3, .int l3)]) hx hb dX5_angle_45 rfl hl (by decide) rfl (fun ls hl => ?_)
  obtain ⟨v_7, e_v_7⟩ : ∃ y : Int32, y = (l3 + (1 : Int32)) := ⟨_, rfl⟩
  have h := of_nm e_v_7 h
  refine lv_iinc (v := v_7) (lv' := [(3, .int v_7), (2, .int v_6), (0, .ref a0), (1, .int l1)]) hx hb dX5_angle_46 hl (k := 3) rfl (by rw [e_v_7]; rfl) (by decide) rfl (fun ls hl => ?_)
  refine lv_goto (tgt := 19) hx hb dX5_angle_49 (by decide) ?_
  exact kb (v_6, v_7) (Option.some.inj h).symm H locs ls hR hS (lv_sub hl [2, 3, 1, 0] rfl)

set_option maxHeartbeats 4000000 in
set_option maxRecDepth 100000 in
theorem w_bd_X5_angle_19 (X : Cx cX5_angle (some .int) 8 RX5 wsX5_angle p s m args meth c) (hK : Kn cA D s) (hT : TL Λ) (hM : 3 ≤ R.frames ∧ 70 ≤ R.locals) (a0 : Nat) (l1 : Int32) (s9 : (Int32 × Int32)) (k0 : isK Λ a0 6) {r : (Int32 × Int32) ⊕ Int32} (h : bd_X5_angle_19 Λ σ a0 l1 s9 = some r) (kb : ∀ z : (Int32 × Int32), r = .inl z → ∀ (H : Heap) (locs : List Loc) (ls : Array Slot), Rep cA D Λ σ H → va_S (dm Λ) s.heap H locs → lv_has ls 8 [(0, .ref a0), (1, .int l1), (2, .int z.1), (3, .int z.2)] → W p l e R s m args below meth c H locs 0 0 Q (F0 m 19 ls [])) (kx0 : ∀ z : Int32, r = .inr z → ∀ (H : Heap) (locs : List Loc) (ls : Array Slot), Rep cA D Λ σ H → va_S (dm Λ) s.heap H locs → lv_has ls 8 [(0, .ref a0), (1, .int l1), (2, .int z)] → W p l e R s m args below meth c H locs 0 0 Q (F0 m 52 ls [])) (H : Heap) (locs : List Loc) (ls : Array Slot) (hR : Rep cA D Λ σ H) (hS : va_S (dm Λ) s.heap H locs) (hl : lv_has ls 8 [(0, .ref a0), (1, .int l1), (2, .int s9.1), (3, .int s9.2)]) : W p l e R s m args below meth c H locs 0 0 Q (F0 m 19 ls []) := by
  have hx := X.1
  have hb := X.2.1
  have hown := X.2.2.2.2.1
  have hts := X.2.2.2.2.2.1
  unfold bd_X5_angle_19 at h
  refine lv_iload_n hx hb dX5_angle_19 rfl (lv_at hl 3 rfl) ?_
  refine lv_aload_n hx hb dX5_angle_20 rfl (lv_at hl 0 rfl) ?_
  refine rw_getR X hK hT hR 6 3 7 k0 (by decide) (C := RX5) (T := TX5) (N := 24) rfl (by decide) in_X5_angle_6 (by decide +kernel) rfl dX5_angle_21 (fun kf_3 => ?_)
  refine lv_iload_n hx hb dX5_angle_24 rfl (lv_at hl 1 rfl) ?_
  obtain ⟨hg_4, h⟩ := of_guard h
  refine rw_iald X hK hR kf_3 hg_4 dX5_angle_25 ?_
  refine lv_icmp_ge (tgt := 52) hx hb dX5_angle_26 (by decide) (fun hc => ?_) (fun hc => ?_)
  · have h := of_pos hc h
    exact kx0 s9.1 (Option.some.inj h).symm H locs ls hR hS (lv_sub hl [0, 1, 2] rfl)
  · have h := of_neg hc h
    refine lv_iload_n hx hb dX5_angle_29 rfl (lv_at hl 2 rfl) ?_
    refine lv_aload_n hx hb dX5_angle_30 rfl (lv_at hl 0 rfl) ?_
    refine lv_iload_n hx hb dX5_angle_31 rfl (lv_at hl 1 rfl) ?_
    refine lv_iload_n hx hb dX5_angle_32 rfl (lv_at hl 3 rfl) ?_
    obtain ⟨q_5, hq_5, h⟩ := of_bind h
    refine cl_i (rn_V (As := [.int l1, .int s9.2]) (rest := [.int s9.1]) X hK hR k0 rfl (by decide) hl.1 (c_X5_rowInk l cA D Λ hT σ a0 l1 s9.2 k0 hq_5) (cwV 2 hts gX5_angle_X5_rowInk rfl rfl rfl (by decide +kernel) ⟨Nat.le_trans (by decide) hM.1, Nat.le_trans (by decide) hM.2⟩) rfl rfl (Nat.le_of_ble_eq_true rfl) dX5_angle_33) hS (fun H locs hR hS => ?_)
    refine lv_if_le (tgt := 43) hx hb dX5_angle_36 (by decide) (fun hc => ?_) (fun hc => ?_)
    · have h := of_pos hc h
      refine lv_iconst (v := (0 : Int32)) hx hb dX5_angle_43 (by decide) ?_
      exact w_jp_X5_angle_44 X hK hT hM a0 l1 s9.2 (0 : Int32) s9.1 k0 h kb kx0 H locs ls hR hS (lv_sub hl [0, 1, 3] rfl)
    · have h := of_neg hc h
      refine lv_iconst (v := (1 : Int32)) hx hb dX5_angle_39 (by decide) ?_
      refine lv_goto (tgt := 44) hx hb dX5_angle_40 (by decide) ?_
      exact w_jp_X5_angle_44 X hK hT hM a0 l1 s9.2 (1 : Int32) s9.1 k0 h kb kx0 H locs ls hR hS (lv_sub hl [0, 1, 3] rfl)

set_option maxHeartbeats 4000000 in
set_option maxRecDepth 100000 in
theorem w_lp_X5_angle_19 (X : Cx cX5_angle (some .int) 8 RX5 wsX5_angle p s m args meth c) (hK : Kn cA D s) (hT : TL Λ) (hM : 3 ≤ R.frames ∧ 70 ≤ R.locals) (a0 : Nat) (l1 : Int32) (k0 : isK Λ a0 6) {e9 : Int32} : ∀ (n9 : Nat) (s9 : (Int32 × Int32)), iter (bd_X5_angle_19 Λ σ a0 l1) n9 s9 = some e9 → ∀ (kx0 : ∀ (H : Heap) (locs : List Loc) (ls : Array Slot), Rep cA D Λ σ H → va_S (dm Λ) s.heap H locs → lv_has ls 8 [(0, .ref a0), (1, .int l1), (2, .int e9)] → W p l e R s m args below meth c H locs 0 0 Q (F0 m 52 ls [])), ∀ (H : Heap) (locs : List Loc) (ls : Array Slot), Rep cA D Λ σ H → va_S (dm Λ) s.heap H locs → lv_has ls 8 [(0, .ref a0), (1, .int l1), (2, .int s9.1), (3, .int s9.2)] → W p l e R s m args below meth c H locs 0 0 Q (F0 m 19 ls []) := by
  intro n9
  induction n9 with
  | zero => intro s9 h; cases h
  | succ n9 ih =>
    intro s9 h kx0 H locs ls hR hS hl
    obtain ⟨r, hr, h⟩ := of_iter h
    refine w_bd_X5_angle_19 X hK hT hM a0 l1 s9 k0 hr (fun z ez H locs ls hR hS hl => ?_) (fun z ez H locs ls hR hS hl => ?_) H locs ls hR hS hl
    · exact ih z (of_itl ez h) kx0 H locs ls hR hS hl
    · have he := of_itr ez h; subst he; exact kx0 H locs ls hR hS hl

set_option maxHeartbeats 4000000 in
set_option maxRecDepth 100000 in
theorem w_jp_X5_angle_118 (X : Cx cX5_angle (some .int) 8 RX5 wsX5_angle p s m args meth c) (hK : Kn cA D s) (hT : TL Λ) (hM : 3 ≤ R.frames ∧ 70 ≤ R.locals) (a0 : Nat) (l1 : Int32) (l3 : Int32) (l4 : Int32) (l5 : Int32) (l6 : Int32)  (k0 : isK Λ a0 6) {r : (Int32 × Int32 × Int32 × Sto) ⊕ (Int32 × Int32 × Sto)} (h : jp_X5_angle_118 Λ σ a0 l1 l3 l4 l5 l6 = some r) (kb : ∀ z : (Int32 × Int32 × Int32 × Sto), r = .inl z → ∀ (H : Heap) (locs : List Loc) (ls : Array Slot), Rep cA D Λ z.2.2.2 H → va_S (dm Λ) s.heap H locs → lv_has ls 8 [(0, .ref a0), (1, .int l1), (3, .int z.1), (4, .int z.2.1), (5, .int l5), (6, .int z.2.2.1)] → W p l e R s m args below meth c H locs 0 0 Q (F0 m 83 ls [])) (kx0 : ∀ z : (Int32 × Int32 × Sto), r = .inr z → ∀ (H : Heap) (locs : List Loc) (ls : Array Slot), Rep cA D Λ z.2.2 H → va_S (dm Λ) s.heap H locs → lv_has ls 8 [(0, .ref a0), (1, .int l1), (3, .int z.1), (4, .int z.2.1), (5, .int l5)] → W p l e R s m args below meth c H locs 0 0 Q (F0 m 124 ls [])) (H : Heap) (locs : List Loc) (ls : Array Slot) (hR : Rep cA D Λ σ H) (hS : va_S (dm Λ) s.heap H locs) (hl : lv_has ls 8 [(0, .ref a0), (1, .int l1), (3, .int l3), (4, .int l4), (5, .int l5), (6, .int l6)]) : W p l e R s m args below meth c H locs 0 0 Q (F0 m 118 ls []) := by
  have hx := X.1
  have hb := X.2.1
  have hown := X.2.2.2.2.1
  have hts := X.2.2.2.2.2.1
  unfold jp_X5_angle_118 at h
  obtain ⟨v_11, e_v_11⟩ : ∃ y : Int32, y = (l6 + (-2 : Int32)) := ⟨_, rfl⟩
  have h := of_nm e_v_11 h
  refine lv_iinc (v := v_11) (lv' := [(6, .int v_11), (0, .ref a0), (1, .int l1), (3, .int l3), (4, .int l4), (5, .int l5)]) hx hb dX5_angle_118 hl (k := 5) rfl (by rw [e_v_11]; rfl) (by decide) rfl (fun ls hl => ?_)
  refine lv_goto (tgt := 83) hx hb dX5_angle_121 (by decide) ?_
  exact kb (l3, l4, v_11, σ) (Option.some.inj h).symm H locs ls hR hS (lv_sub hl [1, 2, 3, 4, 5, 0] rfl)

set_option maxHeartbeats 4000000 in
set_option maxRecDepth 100000 in
theorem w_bd_X5_angle_83 (X : Cx cX5_angle (some .int) 8 RX5 wsX5_angle p s m args meth c) (hK : Kn cA D s) (hT : TL Λ) (hM : 3 ≤ R.frames ∧ 70 ≤ R.locals) (a0 : Nat) (l1 : Int32) (l5 : Int32) (s9 : (Int32 × Int32 × Int32 × Sto)) (k0 : isK Λ a0 6) {r : (Int32 × Int32 × Int32 × Sto) ⊕ (Int32 × Int32 × Sto)} (h : bd_X5_angle_83 Λ a0 l1 l5 s9 = some r) (kb : ∀ z : (Int32 × Int32 × Int32 × Sto), r = .inl z → ∀ (H : Heap) (locs : List Loc) (ls : Array Slot), Rep cA D Λ z.2.2.2 H → va_S (dm Λ) s.heap H locs → lv_has ls 8 [(0, .ref a0), (1, .int l1), (3, .int z.1), (4, .int z.2.1), (5, .int l5), (6, .int z.2.2.1)] → W p l e R s m args below meth c H locs 0 0 Q (F0 m 83 ls [])) (kx0 : ∀ z : (Int32 × Int32 × Sto), r = .inr z → ∀ (H : Heap) (locs : List Loc) (ls : Array Slot), Rep cA D Λ z.2.2 H → va_S (dm Λ) s.heap H locs → lv_has ls 8 [(0, .ref a0), (1, .int l1), (3, .int z.1), (4, .int z.2.1), (5, .int l5)] → W p l e R s m args below meth c H locs 0 0 Q (F0 m 124 ls [])) (H : Heap) (locs : List Loc) (ls : Array Slot) (hR : Rep cA D Λ s9.2.2.2 H) (hS : va_S (dm Λ) s.heap H locs) (hl : lv_has ls 8 [(0, .ref a0), (1, .int l1), (3, .int s9.1), (4, .int s9.2.1), (5, .int l5), (6, .int s9.2.2.1)]) : W p l e R s m args below meth c H locs 0 0 Q (F0 m 83 ls []) := by
  have hx := X.1
  have hb := X.2.1
  have hown := X.2.2.2.2.1
  have hts := X.2.2.2.2.2.1
  unfold bd_X5_angle_83 at h
  refine lv_iload hx hb dX5_angle_83 (lv_at hl 5 rfl) ?_
  refine lv_iconst (v := (-1 : Int32)) hx hb dX5_angle_85 (by decide) ?_
  refine lv_icmp_lt (tgt := 124) hx hb dX5_angle_86 (by decide) (fun hc => ?_) (fun hc => ?_)
  · have h := of_pos hc h
    exact kx0 (s9.1, s9.2.1, s9.2.2.2) (Option.some.inj h).symm H locs ls hR hS (lv_sub hl [0, 1, 2, 3, 4] rfl)
  · have h := of_neg hc h
    refine lv_aload_n hx hb dX5_angle_89 rfl (lv_at hl 0 rfl) ?_
    refine lv_iload_n hx hb dX5_angle_90 rfl (lv_at hl 1 rfl) ?_
    refine lv_iload hx hb dX5_angle_91 (lv_at hl 5 rfl) ?_
    refine lv_iload hx hb dX5_angle_93 (lv_at hl 4 rfl) ?_
    refine lv_imul hx hb dX5_angle_95 ?_
    obtain ⟨q_10, hq_10, h⟩ := of_bind h
    refine cl_i (rn_V (As := [.int l1, .int (s9.2.2.1 * l5)]) (rest := []) X hK hR k0 rfl (by decide) hl.1 (c_X5_sharpness l cA D Λ hT s9.2.2.2 a0 l1 (s9.2.2.1 * l5) k0 hq_10) (cwV 2 hts gX5_angle_X5_sharpness rfl rfl rfl (by decide +kernel) ⟨Nat.le_trans (by decide) hM.1, Nat.le_trans (by decide) hM.2⟩) rfl rfl (Nat.le_of_ble_eq_true rfl) dX5_angle_96) hS (fun H locs hR hS => ?_)
    refine lv_istore (lv' := [(7, .int q_10.1), (0, .ref a0), (1, .int l1), (3, .int s9.1), (4, .int s9.2.1), (5, .int l5), (6, .int s9.2.2.1)]) hx hb dX5_angle_99 hl (by decide) rfl (fun ls hl => ?_)
    refine lv_iload hx hb dX5_angle_101 (lv_at hl 0 rfl) ?_
    refine lv_iload hx hb dX5_angle_103 (lv_at hl 4 rfl) ?_
    refine lv_icmp_le (tgt := 118) hx hb dX5_angle_105 (by decide) (fun hc => ?_) (fun hc => ?_)
    · have h := of_pos hc h
      exact w_jp_X5_angle_118 X hK hT hM a0 l1 s9.1 s9.2.1 l5 s9.2.2.1 k0 h kb kx0 H locs ls hR hS (lv_sub hl [1, 2, 3, 4, 5, 6] rfl)
    · have h := of_neg hc h
      refine lv_iload hx hb dX5_angle_108 (lv_at hl 0 rfl) ?_
      refine lv_istore (lv' := [(4, .int q_10.1), (7, .int q_10.1), (0, .ref a0), (1, .int l1), (3, .int s9.1), (5, .int l5), (6, .int s9.2.2.1)]) hx hb dX5_angle_110 hl (by decide) rfl (fun ls hl => ?_)
      refine lv_iload hx hb dX5_angle_112 (lv_at hl 6 rfl) ?_
      refine lv_iload hx hb dX5_angle_114 (lv_at hl 5 rfl) ?_
      refine lv_imul hx hb dX5_angle_116 ?_
      refine lv_topi (fun v_12 e_v_12 => ?_)
      have h := of_nm e_v_12 h
      refine lv_istore_n (lv' := [(3, .int v_12), (4, .int q_10.1), (7, .int q_10.1), (0, .ref a0), (1, .int l1), (5, .int l5), (6, .int s9.2.2.1)]) hx hb dX5_angle_117 rfl hl (by decide) rfl (fun ls hl => ?_)
      exact w_jp_X5_angle_118 X hK hT hM a0 l1 v_12 q_10.1 l5 s9.2.2.1 k0 h kb kx0 H locs ls hR hS (lv_sub hl [3, 4, 0, 1, 5, 6] rfl)

set_option maxHeartbeats 4000000 in
set_option maxRecDepth 100000 in
theorem w_lp_X5_angle_83 (X : Cx cX5_angle (some .int) 8 RX5 wsX5_angle p s m args meth c) (hK : Kn cA D s) (hT : TL Λ) (hM : 3 ≤ R.frames ∧ 70 ≤ R.locals) (a0 : Nat) (l1 : Int32) (l5 : Int32) (k0 : isK Λ a0 6) {e9 : (Int32 × Int32 × Sto)} : ∀ (n9 : Nat) (s9 : (Int32 × Int32 × Int32 × Sto)), iter (bd_X5_angle_83 Λ a0 l1 l5) n9 s9 = some e9 → ∀ (kx0 : ∀ (H : Heap) (locs : List Loc) (ls : Array Slot), Rep cA D Λ e9.2.2 H → va_S (dm Λ) s.heap H locs → lv_has ls 8 [(0, .ref a0), (1, .int l1), (3, .int e9.1), (4, .int e9.2.1), (5, .int l5)] → W p l e R s m args below meth c H locs 0 0 Q (F0 m 124 ls [])), ∀ (H : Heap) (locs : List Loc) (ls : Array Slot), Rep cA D Λ s9.2.2.2 H → va_S (dm Λ) s.heap H locs → lv_has ls 8 [(0, .ref a0), (1, .int l1), (3, .int s9.1), (4, .int s9.2.1), (5, .int l5), (6, .int s9.2.2.1)] → W p l e R s m args below meth c H locs 0 0 Q (F0 m 83 ls []) := by
  intro n9
  induction n9 with
  | zero => intro s9 h; cases h
  | succ n9 ih =>
    intro s9 h kx0 H locs ls hR hS hl
    obtain ⟨r, hr, h⟩ := of_iter h
    refine w_bd_X5_angle_83 X hK hT hM a0 l1 l5 s9 k0 hr (fun z ez H locs ls hR hS hl => ?_) (fun z ez H locs ls hR hS hl => ?_) H locs ls hR hS hl
    · exact ih z (of_itl ez h) kx0 H locs ls hR hS hl
    · have he := of_itr ez h; subst he; exact kx0 H locs ls hR hS hl

set_option maxHeartbeats 4000000 in
set_option maxRecDepth 100000 in
theorem w_bd_X5_angle_73 (X : Cx cX5_angle (some .int) 8 RX5 wsX5_angle p s m args meth c) (hK : Kn cA D s) (hT : TL Λ) (hM : 3 ≤ R.frames ∧ 70 ≤ R.locals) (a0 : Nat) (l1 : Int32) (s9 : (Int32 × Int32 × Int32 × Sto)) (k0 : isK Λ a0 6) {r : (Int32 × Int32 × Int32 × Sto) ⊕ (Int32 × Sto)} (h : bd_X5_angle_73 Λ a0 l1 s9 = some r) (kb : ∀ z : (Int32 × Int32 × Int32 × Sto), r = .inl z → ∀ (H : Heap) (locs : List Loc) (ls : Array Slot), Rep cA D Λ z.2.2.2 H → va_S (dm Λ) s.heap H locs → lv_has ls 8 [(0, .ref a0), (1, .int l1), (3, .int z.1), (4, .int z.2.1), (5, .int z.2.2.1)] → W p l e R s m args below meth c H locs 0 0 Q (F0 m 73 ls [])) (kx0 : ∀ z : (Int32 × Sto), r = .inr z → ∀ (H : Heap) (locs : List Loc) (ls : Array Slot), Rep cA D Λ z.2 H → va_S (dm Λ) s.heap H locs → lv_has ls 8 [(3, .int z.1)] → W p l e R s m args below meth c H locs 0 0 Q (F0 m 130 ls [])) (H : Heap) (locs : List Loc) (ls : Array Slot) (hR : Rep cA D Λ s9.2.2.2 H) (hS : va_S (dm Λ) s.heap H locs) (hl : lv_has ls 8 [(0, .ref a0), (1, .int l1), (3, .int s9.1), (4, .int s9.2.1), (5, .int s9.2.2.1)]) : W p l e R s m args below meth c H locs 0 0 Q (F0 m 73 ls []) := by
  have hx := X.1
  have hb := X.2.1
  have hown := X.2.2.2.2.1
  have hts := X.2.2.2.2.2.1
  unfold bd_X5_angle_73 at h
  refine lv_iload hx hb dX5_angle_73 (lv_at hl 4 rfl) ?_
  refine lv_bipush (v := (12 : Int32)) hx hb dX5_angle_75 (by decide) ?_
  refine lv_icmp_gt (tgt := 130) hx hb dX5_angle_77 (by decide) (fun hc => ?_) (fun hc => ?_)
  · have h := of_pos hc h
    exact kx0 (s9.1, s9.2.2.2) (Option.some.inj h).symm H locs ls hR hS (lv_sub hl [2] rfl)
  · have h := of_neg hc h
    refine lv_iconst (v := (1 : Int32)) hx hb dX5_angle_80 (by decide) ?_
    refine lv_istore (lv' := [(6, .int (1 : Int32)), (0, .ref a0), (1, .int l1), (3, .int s9.1), (4, .int s9.2.1), (5, .int s9.2.2.1)]) hx hb dX5_angle_81 hl (by decide) rfl (fun ls hl => ?_)
    obtain ⟨e_13, hq_13, h⟩ := of_bind h
    refine w_lp_X5_angle_83 X hK hT hM a0 l1 s9.2.2.1 k0 _ (s9.1, s9.2.1, (1 : Int32), s9.2.2.2) hq_13 (fun H locs ls hR hS hl => ?_) H locs ls hR hS (lv_sub hl [1, 2, 3, 4, 5, 0] rfl)
    obtain ⟨v_14, e_v_14⟩ : ∃ y : Int32, y = (s9.2.2.1 + (1 : Int32)) := ⟨_, rfl⟩
    have h := of_nm e_v_14 h
    refine lv_iinc (v := v_14) (lv' := [(5, .int v_14), (0, .ref a0), (1, .int l1), (3, .int e_13.1), (4, .int e_13.2.1)]) hx hb dX5_angle_124 hl (k := 4) rfl (by rw [e_v_14]; rfl) (by decide) rfl (fun ls hl => ?_)
    refine lv_goto (tgt := 73) hx hb dX5_angle_127 (by decide) ?_
    exact kb (e_13.1, e_13.2.1, v_14, e_13.2.2) (Option.some.inj h).symm H locs ls hR hS (lv_sub hl [1, 2, 3, 4, 0] rfl)

set_option maxHeartbeats 4000000 in
set_option maxRecDepth 100000 in
theorem w_lp_X5_angle_73 (X : Cx cX5_angle (some .int) 8 RX5 wsX5_angle p s m args meth c) (hK : Kn cA D s) (hT : TL Λ) (hM : 3 ≤ R.frames ∧ 70 ≤ R.locals) (a0 : Nat) (l1 : Int32) (k0 : isK Λ a0 6) {e9 : (Int32 × Sto)} : ∀ (n9 : Nat) (s9 : (Int32 × Int32 × Int32 × Sto)), iter (bd_X5_angle_73 Λ a0 l1) n9 s9 = some e9 → ∀ (kx0 : ∀ (H : Heap) (locs : List Loc) (ls : Array Slot), Rep cA D Λ e9.2 H → va_S (dm Λ) s.heap H locs → lv_has ls 8 [(3, .int e9.1)] → W p l e R s m args below meth c H locs 0 0 Q (F0 m 130 ls [])), ∀ (H : Heap) (locs : List Loc) (ls : Array Slot), Rep cA D Λ s9.2.2.2 H → va_S (dm Λ) s.heap H locs → lv_has ls 8 [(0, .ref a0), (1, .int l1), (3, .int s9.1), (4, .int s9.2.1), (5, .int s9.2.2.1)] → W p l e R s m args below meth c H locs 0 0 Q (F0 m 73 ls []) := by
  intro n9
  induction n9 with
  | zero => intro s9 h; cases h
  | succ n9 ih =>
    intro s9 h kx0 H locs ls hR hS hl
    obtain ⟨r, hr, h⟩ := of_iter h
    refine w_bd_X5_angle_73 X hK hT hM a0 l1 s9 k0 hr (fun z ez H locs ls hR hS hl => ?_) (fun z ez H locs ls hR hS hl => ?_) H locs ls hR hS hl
    · exact ih z (of_itl ez h) kx0 H locs ls hR hS hl
    · have he := of_itr ez h; subst he; exact kx0 H locs ls hR hS hl

set_option maxHeartbeats 4000000 in
set_option maxRecDepth 100000 in
theorem w_X5_angle (X : Cx cX5_angle (some .int) 8 RX5 wsX5_angle p s m args meth c) (hK : Kn cA D s) (hT : TL Λ) (hM : 3 ≤ R.frames ∧ 70 ≤ R.locals) (a0 : Nat) (l1 : Int32) (k0 : isK Λ a0 6) {res : Int32 × Sto} (h : F_X5_angle Λ σ a0 l1 = some res) (H : Heap) (locs : List Loc) (ls : Array Slot) (hR : Rep cA D Λ σ H) (hS : va_S (dm Λ) s.heap H locs) (hl : lv_has ls 8 [(0, .ref a0), (1, .int l1)]) : W p l e R s m args below meth c H locs 0 0 (MQ below (QI cA D Λ res) args s 0 0 (dm Λ)) (F0 m 0 ls []) := by
  have hx := X.1
  have hb := X.2.1
  have hown := X.2.2.2.2.1
  have hts := X.2.2.2.2.2.1
  unfold F_X5_angle at h
  refine lv_aload_n hx hb dX5_angle_0 rfl (lv_at hl 0 rfl) ?_
  refine lv_iconst (v := (0 : Int32)) hx hb dX5_angle_1 (by decide) ?_
  refine rw_putI X hK hT hR hS 6 0 tyX5 k0 (by decide) (C := RX5) (T := TX5) (N := 24) rfl (by decide) in_X5_angle_6 tyX5_ok nmX5 (by decide +kernel) rfl rfl (by decide +kernel) dX5_angle_2 (fun σ_1 H locs e_1 hR hS => ?_)
  have h := of_nm e_1 h
  refine lv_aload_n hx hb dX5_angle_5 rfl (lv_at hl 0 rfl) ?_
  refine lv_iload_n hx hb dX5_angle_6 rfl (lv_at hl 1 rfl) ?_
  refine cl_z (rn_V (As := [.int l1]) (rest := []) X hK hR k0 rfl (by decide) hl.1 (c_X5_isPage l cA D Λ hT σ_1 a0 l1 k0) (cwV 1 hts gX5_angle_X5_isPage rfl rfl rfl (by decide +kernel) ⟨Nat.le_trans (by decide) hM.1, Nat.le_trans (by decide) hM.2⟩) rfl rfl (Nat.le_of_ble_eq_true rfl) dX5_angle_7) hS (fun hz_2 H locs hR hS => ?_)
  refine lv_topi (fun r_2 e_2 => ?_)
  have h := of_nm e_2 h
  have hz_2 : r_2 = 0 ∨ r_2 = 1 := by rw [e_2]; exact hz_2
  refine lv_if_ne (tgt := 15) hx hb dX5_angle_10 (by decide) (fun hc => ?_) (fun hc => ?_)
  · have h := of_neg hc h
    refine lv_iconst (v := (0 : Int32)) hx hb dX5_angle_15 (by decide) ?_
    refine lv_istore_n (lv' := [(2, .int (0 : Int32)), (0, .ref a0), (1, .int l1)]) hx hb dX5_angle_16 rfl hl (by decide) rfl (fun ls hl => ?_)
    refine lv_iconst (v := (0 : Int32)) hx hb dX5_angle_17 (by decide) ?_
    refine lv_istore_n (lv' := [(3, .int (0 : Int32)), (2, .int (0 : Int32)), (0, .ref a0), (1, .int l1)]) hx hb dX5_angle_18 rfl hl (by decide) rfl (fun ls hl => ?_)
    obtain ⟨e_8, hq_8, h⟩ := of_bind h
    refine w_lp_X5_angle_19 X hK hT hM a0 l1 k0 _ ((0 : Int32), (0 : Int32)) hq_8 (fun H locs ls hR hS hl => ?_) H locs ls hR hS (lv_sub hl [2, 3, 1, 0] rfl)
    refine lv_iload_n hx hb dX5_angle_52 rfl (lv_at hl 2 rfl) ?_
    refine lv_iconst (v := (2 : Int32)) hx hb dX5_angle_53 (by decide) ?_
    refine lv_icmp_ge (tgt := 60) hx hb dX5_angle_54 (by decide) (fun hc => ?_) (fun hc => ?_)
    · have h := of_pos hc h
      refine lv_iconst (v := (0 : Int32)) hx hb dX5_angle_60 (by decide) ?_
      refine lv_istore_n (lv' := [(3, .int (0 : Int32)), (0, .ref a0), (1, .int l1), (2, .int e_8)]) hx hb dX5_angle_61 rfl hl (by decide) rfl (fun ls hl => ?_)
      refine lv_aload_n hx hb dX5_angle_62 rfl (lv_at hl 1 rfl) ?_
      refine lv_iload_n hx hb dX5_angle_63 rfl (lv_at hl 2 rfl) ?_
      refine lv_iconst (v := (0 : Int32)) hx hb dX5_angle_64 (by decide) ?_
      obtain ⟨q_9, hq_9, h⟩ := of_bind h
      refine cl_i (rn_V (As := [.int l1, .int (0 : Int32)]) (rest := []) X hK hR k0 rfl (by decide) hl.1 (c_X5_sharpness l cA D Λ hT σ_1 a0 l1 (0 : Int32) k0 hq_9) (cwV 2 hts gX5_angle_X5_sharpness rfl rfl rfl (by decide +kernel) ⟨Nat.le_trans (by decide) hM.1, Nat.le_trans (by decide) hM.2⟩) rfl rfl (Nat.le_of_ble_eq_true rfl) dX5_angle_65) hS (fun H locs hR hS => ?_)
      refine lv_istore (lv' := [(4, .int q_9.1), (3, .int (0 : Int32)), (0, .ref a0), (1, .int l1), (2, .int e_8)]) hx hb dX5_angle_68 hl (by decide) rfl (fun ls hl => ?_)
      refine lv_iconst (v := (1 : Int32)) hx hb dX5_angle_70 (by decide) ?_
      refine lv_istore (lv' := [(5, .int (1 : Int32)), (4, .int q_9.1), (3, .int (0 : Int32)), (0, .ref a0), (1, .int l1), (2, .int e_8)]) hx hb dX5_angle_71 hl (by decide) rfl (fun ls hl => ?_)
      obtain ⟨e_15, hq_15, h⟩ := of_bind h
      refine w_lp_X5_angle_73 X hK hT hM a0 l1 k0 _ ((0 : Int32), q_9.1, (1 : Int32), q_9.2) hq_15 (fun H locs ls hR hS hl => ?_) H locs ls hR hS (lv_sub hl [3, 4, 2, 1, 0] rfl)
      refine lv_iload_n hx hb dX5_angle_130 rfl (lv_at hl 0 rfl) ?_
      exact rt_i X hR hS (Option.some.inj h) dX5_angle_131
    · have h := of_neg hc h
      refine lv_bipush (v := (100 : Int32)) hx hb dX5_angle_57 (by decide) ?_
      exact rt_i X hR hS (Option.some.inj h) dX5_angle_59
  · have h := of_pos hc h
    refine lv_iconst (v := (-1 : Int32)) hx hb dX5_angle_13 (by decide) ?_
    exact rt_i X hR hS (Option.some.inj h) dX5_angle_14

set_option maxHeartbeats 4000000 in
set_option maxRecDepth 100000 in
theorem c_X5_angle (l : Launch) (cA : Nat → ClassId) (D : va_G) (Λ : Lay) (hT : TL Λ) (σ : Sto) (a0 : Nat) (l1 : Int32) (k0 : isK Λ a0 6) {res : Int32 × Sto} (h : F_X5_angle Λ σ a0 l1 = some res) : Met l yX5_angle wsX5_angle { frames := 3, cells := 0, slots := 0, locals := 70 } (va_Pc [.ref a0, .int l1] (PW cA D Λ σ)) (QI cA D Λ res) 0 0 (dm Λ) := by
  refine Met.ofW (cc := cX5_angle) (maxL := 8) (ret := (some .int)) (by decide) rfl ?_
  intro p e s m args below meth c s₁ B hml hv
  obtain ⟨rfl, hR, hK⟩ := hv
  have X : Cx cX5_angle (some .int) 8 RX5 wsX5_angle p s m _ meth c := ⟨B.exec, B.bytes, B.returns, hml, findClass_of_methodNamed B.named, atoms_spec (ws := wsX5_angle) B.pre, B.notSynchronized⟩
  have hS : va_S (dm Λ) s.heap s.heap [] := va_S.rf
  have hl := lv_entry ([.ref a0, .int l1]) (n := 8) (Nat.le_of_ble_eq_true rfl)
  rw [lg_entry_eq]
  generalize (lg_sl ([.ref a0, .int l1]) ++ List.replicate (8 - (lg_sl ([.ref a0, .int l1])).length) Slot.unset).toArray = ls at hl ⊢
  have hl : lv_has ls 8 [(0, .ref a0), (1, .int l1)] := hl
  exact w_X5_angle X hK hT ⟨Nat.le_refl _, Nat.le_refl _⟩ a0 l1 k0 h s.heap [] ls hR hS hl
theorem in_X5_steps_6 : ∀ w ∈ u_ws RX5 TX5 24, w ∈ wsX5_steps := by decide +kernel
set_option maxHeartbeats 4000000 in
set_option maxRecDepth 100000 in
theorem w_X5_steps (X : Cx cX5_steps (some .int) 2 RX5 wsX5_steps p s m args meth c) (hK : Kn cA D s) (hT : TL Λ) (hM : 0 ≤ R.frames ∧ 0 ≤ R.locals) (a0 : Nat) (l1 : Int32) (k0 : isK Λ a0 6) {res : Int32} (h : F_X5_steps Λ σ a0 l1 = some res) (H : Heap) (locs : List Loc) (ls : Array Slot) (hR : Rep cA D Λ σ H) (hS : va_S (dm Λ) s.heap H locs) (hl : lv_has ls 2 [(0, .ref a0), (1, .int l1)]) : W p l e R s m args below meth c H locs 0 0 (MQ below (QI cA D Λ (res, σ)) args s 0 0 (dm Λ)) (F0 m 0 ls []) := by
  have hx := X.1
  have hb := X.2.1
  have hown := X.2.2.2.2.1
  have hts := X.2.2.2.2.2.1
  unfold F_X5_steps at h
  refine lv_aload_n hx hb dX5_steps_0 rfl (lv_at hl 0 rfl) ?_
  refine rw_getR X hK hT hR 6 2 7 k0 (by decide) (C := RX5) (T := TX5) (N := 24) rfl (by decide) in_X5_steps_6 (by decide +kernel) rfl dX5_steps_1 (fun kf_1 => ?_)
  refine lv_iload_n hx hb dX5_steps_4 rfl (lv_at hl 1 rfl) ?_
  obtain ⟨hg_2, h⟩ := of_guard h
  refine rw_iald X hK hR kf_1 hg_2 dX5_steps_5 ?_
  refine lv_bipush (v := (7 : Int32)) hx hb dX5_steps_6 (by decide) ?_
  refine lv_iadd hx hb dX5_steps_8 ?_
  refine lv_bipush (v := (8 : Int32)) hx hb dX5_steps_9 (by decide) ?_
  refine lv_idiv hx hb dX5_steps_11 (by decide) ?_
  exact rt_i X hR hS (congrArg (fun z => (z, σ)) (Option.some.inj h)) dX5_steps_12

set_option maxHeartbeats 4000000 in
set_option maxRecDepth 100000 in
theorem c_X5_steps (l : Launch) (cA : Nat → ClassId) (D : va_G) (Λ : Lay) (hT : TL Λ) (σ : Sto) (a0 : Nat) (l1 : Int32) (k0 : isK Λ a0 6) {res : Int32} (h : F_X5_steps Λ σ a0 l1 = some res) : Met l yX5_steps wsX5_steps { frames := 0, cells := 0, slots := 0, locals := 0 } (va_Pc [.ref a0, .int l1] (PW cA D Λ σ)) (QI cA D Λ (res, σ)) 0 0 (dm Λ) := by
  refine Met.ofW (cc := cX5_steps) (maxL := 2) (ret := (some .int)) (by decide) rfl ?_
  intro p e s m args below meth c s₁ B hml hv
  obtain ⟨rfl, hR, hK⟩ := hv
  have X : Cx cX5_steps (some .int) 2 RX5 wsX5_steps p s m _ meth c := ⟨B.exec, B.bytes, B.returns, hml, findClass_of_methodNamed B.named, atoms_spec (ws := wsX5_steps) B.pre, B.notSynchronized⟩
  have hS : va_S (dm Λ) s.heap s.heap [] := va_S.rf
  have hl := lv_entry ([.ref a0, .int l1]) (n := 2) (Nat.le_of_ble_eq_true rfl)
  rw [lg_entry_eq]
  generalize (lg_sl ([.ref a0, .int l1]) ++ List.replicate (2 - (lg_sl ([.ref a0, .int l1])).length) Slot.unset).toArray = ls at hl ⊢
  have hl : lv_has ls 2 [(0, .ref a0), (1, .int l1)] := hl
  exact w_X5_steps X hK hT ⟨Nat.le_refl _, Nat.le_refl _⟩ a0 l1 k0 h s.heap [] ls hR hS hl
theorem in_X5_footOf_6 : ∀ w ∈ u_ws RX5 TX5 24, w ∈ wsX5_footOf := by decide +kernel
set_option maxHeartbeats 4000000 in
set_option maxRecDepth 100000 in
theorem w_bd_X5_footOf_19 (X : Cx cX5_footOf (some .int) 5 RX5 wsX5_footOf p s m args meth c) (hK : Kn cA D s) (hT : TL Λ) (hM : 1 ≤ R.frames ∧ 23 ≤ R.locals) (a0 : Nat) (l1 : Int32) (l2 : Int32) (l3 : Int32) (s9 : Int32) (k0 : isK Λ a0 6) {r : Int32 ⊕ (Unit ⊕ Unit)} (h : bd_X5_footOf_19 Λ σ a0 l1 l2 l3 s9 = some r) (kb : ∀ z : Int32, r = .inl z → ∀ (H : Heap) (locs : List Loc) (ls : Array Slot), Rep cA D Λ σ H → va_S (dm Λ) s.heap H locs → lv_has ls 5 [(0, .ref a0), (1, .int l1), (2, .int l2), (3, .int l3), (4, .int z)] → W p l e R s m args below meth c H locs 0 0 Q (F0 m 19 ls [])) (kx0 : ∀ z : Unit, r = .inr (.inl z) → ∀ (H : Heap) (locs : List Loc) (ls : Array Slot), Rep cA D Λ σ H → va_S (dm Λ) s.heap H locs → lv_has ls 5 [(3, .int l3)] → W p l e R s m args below meth c H locs 0 0 Q (F0 m 53 ls [])) (kx1 : ∀ z : Unit, r = .inr (.inr z) → ∀ (H : Heap) (locs : List Loc) (ls : Array Slot), Rep cA D Λ σ H → va_S (dm Λ) s.heap H locs → lv_has ls 5 [(0, .ref a0), (1, .int l1), (2, .int l2), (3, .int l3)] → W p l e R s m args below meth c H locs 0 0 Q (F0 m 61 ls [])) (H : Heap) (locs : List Loc) (ls : Array Slot) (hR : Rep cA D Λ σ H) (hS : va_S (dm Λ) s.heap H locs) (hl : lv_has ls 5 [(0, .ref a0), (1, .int l1), (2, .int l2), (3, .int l3), (4, .int s9)]) : W p l e R s m args below meth c H locs 0 0 Q (F0 m 19 ls []) := by
  have hx := X.1
  have hb := X.2.1
  have hown := X.2.2.2.2.1
  have hts := X.2.2.2.2.2.1
  unfold bd_X5_footOf_19 at h
  refine lv_iload hx hb dX5_footOf_19 (lv_at hl 4 rfl) ?_
  refine lv_bipush (v := (8 : Int32)) hx hb dX5_footOf_21 (by decide) ?_
  refine lv_iload_n hx hb dX5_footOf_23 rfl (lv_at hl 2 rfl) ?_
  refine lv_imul hx hb dX5_footOf_24 ?_
  refine lv_bipush (v := (8 : Int32)) hx hb dX5_footOf_25 (by decide) ?_
  refine lv_iadd hx hb dX5_footOf_27 ?_
  refine lv_icmp_ge (tgt := 61) hx hb dX5_footOf_28 (by decide) (fun hc => ?_) (fun hc => ?_)
  · have h := of_pos hc h
    exact kx1 () (Option.some.inj h).symm H locs ls hR hS (lv_sub hl [0, 1, 2, 3] rfl)
  · have h := of_neg hc h
    refine lv_iload hx hb dX5_footOf_31 (lv_at hl 4 rfl) ?_
    refine lv_aload_n hx hb dX5_footOf_33 rfl (lv_at hl 0 rfl) ?_
    refine rw_getR X hK hT hR 6 2 7 k0 (by decide) (C := RX5) (T := TX5) (N := 24) rfl (by decide) in_X5_footOf_6 (by decide +kernel) rfl dX5_footOf_34 (fun kf_5 => ?_)
    refine lv_iload_n hx hb dX5_footOf_37 rfl (lv_at hl 1 rfl) ?_
    obtain ⟨hg_6, h⟩ := of_guard h
    refine rw_iald X hK hR kf_5 hg_6 dX5_footOf_38 ?_
    refine lv_icmp_ge (tgt := 61) hx hb dX5_footOf_39 (by decide) (fun hc => ?_) (fun hc => ?_)
    · have h := of_pos hc h
      exact kx1 () (Option.some.inj h).symm H locs ls hR hS (lv_sub hl [0, 1, 2, 3] rfl)
    · have h := of_neg hc h
      refine lv_aload_n hx hb dX5_footOf_42 rfl (lv_at hl 0 rfl) ?_
      refine lv_iload_n hx hb dX5_footOf_43 rfl (lv_at hl 1 rfl) ?_
      refine lv_iload hx hb dX5_footOf_44 (lv_at hl 4 rfl) ?_
      refine lv_iload_n hx hb dX5_footOf_46 rfl (lv_at hl 3 rfl) ?_
      obtain ⟨q_7, hq_7, h⟩ := of_bind h
      refine cl_z (rn_V (As := [.int l1, .int s9, .int l3]) (rest := []) X hK hR k0 rfl (by decide) hl.1 (c_X5_has l cA D Λ hT σ a0 l1 s9 l3 k0 hq_7) (cwV 3 hts gX5_footOf_X5_has rfl rfl rfl (by decide +kernel) ⟨Nat.le_trans (by decide) hM.1, Nat.le_trans (by decide) hM.2⟩) rfl rfl (Nat.le_of_ble_eq_true rfl) dX5_footOf_47) hS (fun hz_7 H locs hR hS => ?_)
      refine lv_if_eq (tgt := 55) hx hb dX5_footOf_50 (by decide) (fun hc => ?_) (fun hc => ?_)
      · have h := of_pos hc h
        obtain ⟨v_8, e_v_8⟩ : ∃ y : Int32, y = (s9 + (1 : Int32)) := ⟨_, rfl⟩
        have h := of_nm e_v_8 h
        refine lv_iinc (v := v_8) (lv' := [(4, .int v_8), (0, .ref a0), (1, .int l1), (2, .int l2), (3, .int l3)]) hx hb dX5_footOf_55 hl (k := 4) rfl (by rw [e_v_8]; rfl) (by decide) rfl (fun ls hl => ?_)
        refine lv_goto (tgt := 19) hx hb dX5_footOf_58 (by decide) ?_
        exact kb v_8 (Option.some.inj h).symm H locs ls hR hS (lv_sub hl [1, 2, 3, 4, 0] rfl)
      · have h := of_neg hc h
        exact kx0 () (Option.some.inj h).symm H locs ls hR hS (lv_sub hl [3] rfl)

set_option maxHeartbeats 4000000 in
set_option maxRecDepth 100000 in
theorem w_lp_X5_footOf_19 (X : Cx cX5_footOf (some .int) 5 RX5 wsX5_footOf p s m args meth c) (hK : Kn cA D s) (hT : TL Λ) (hM : 1 ≤ R.frames ∧ 23 ≤ R.locals) (a0 : Nat) (l1 : Int32) (l2 : Int32) (l3 : Int32) (k0 : isK Λ a0 6) {e9 : (Unit ⊕ Unit)} : ∀ (n9 : Nat) (s9 : Int32), iter (bd_X5_footOf_19 Λ σ a0 l1 l2 l3) n9 s9 = some e9 → ∀ (kx0 : ∀ z : Unit, e9 = .inl z → ∀ (H : Heap) (locs : List Loc) (ls : Array Slot), Rep cA D Λ σ H → va_S (dm Λ) s.heap H locs → lv_has ls 5 [(3, .int l3)] → W p l e R s m args below meth c H locs 0 0 Q (F0 m 53 ls [])), ∀ (kx1 : ∀ z : Unit, e9 = .inr z → ∀ (H : Heap) (locs : List Loc) (ls : Array Slot), Rep cA D Λ σ H → va_S (dm Λ) s.heap H locs → lv_has ls 5 [(0, .ref a0), (1, .int l1), (2, .int l2), (3, .int l3)] → W p l e R s m args below meth c H locs 0 0 Q (F0 m 61 ls [])), ∀ (H : Heap) (locs : List Loc) (ls : Array Slot), Rep cA D Λ σ H → va_S (dm Λ) s.heap H locs → lv_has ls 5 [(0, .ref a0), (1, .int l1), (2, .int l2), (3, .int l3), (4, .int s9)] → W p l e R s m args below meth c H locs 0 0 Q (F0 m 19 ls []) := by
  intro n9
  induction n9 with
  | zero => intro s9 h; cases h
  | succ n9 ih =>
    intro s9 h kx0 kx1 H locs ls hR hS hl
    obtain ⟨r, hr, h⟩ := of_iter h
    refine w_bd_X5_footOf_19 X hK hT hM a0 l1 l2 l3 s9 k0 hr (fun z ez H locs ls hR hS hl => ?_) (fun z ez H locs ls hR hS hl => ?_) (fun z ez H locs ls hR hS hl => ?_) H locs ls hR hS hl
    · exact ih z (of_itl ez h) kx0 kx1 H locs ls hR hS hl
    · exact kx0 z (of_itr ez h).symm H locs ls hR hS hl
    · exact kx1 z (of_itr ez h).symm H locs ls hR hS hl

set_option maxHeartbeats 4000000 in
set_option maxRecDepth 100000 in
theorem w_bd_X5_footOf_9 (X : Cx cX5_footOf (some .int) 5 RX5 wsX5_footOf p s m args meth c) (hK : Kn cA D s) (hT : TL Λ) (hM : 1 ≤ R.frames ∧ 23 ≤ R.locals) (a0 : Nat) (l1 : Int32) (l2 : Int32) (s9 : Int32) (k0 : isK Λ a0 6) {r : Int32 ⊕ (Int32 ⊕ Unit)} (h : bd_X5_footOf_9 Λ σ a0 l1 l2 s9 = some r) (kb : ∀ z : Int32, r = .inl z → ∀ (H : Heap) (locs : List Loc) (ls : Array Slot), Rep cA D Λ σ H → va_S (dm Λ) s.heap H locs → lv_has ls 5 [(0, .ref a0), (1, .int l1), (2, .int l2), (3, .int z)] → W p l e R s m args below meth c H locs 0 0 Q (F0 m 9 ls [])) (kx0 : ∀ z : Int32, r = .inr (.inl z) → ∀ (H : Heap) (locs : List Loc) (ls : Array Slot), Rep cA D Λ σ H → va_S (dm Λ) s.heap H locs → lv_has ls 5 [(3, .int z)] → W p l e R s m args below meth c H locs 0 0 Q (F0 m 53 ls [])) (kx1 : ∀ z : Unit, r = .inr (.inr z) → ∀ (H : Heap) (locs : List Loc) (ls : Array Slot), Rep cA D Λ σ H → va_S (dm Λ) s.heap H locs → lv_has ls 5 [] → W p l e R s m args below meth c H locs 0 0 Q (F0 m 67 ls [])) (H : Heap) (locs : List Loc) (ls : Array Slot) (hR : Rep cA D Λ σ H) (hS : va_S (dm Λ) s.heap H locs) (hl : lv_has ls 5 [(0, .ref a0), (1, .int l1), (2, .int l2), (3, .int s9)]) : W p l e R s m args below meth c H locs 0 0 Q (F0 m 9 ls []) := by
  have hx := X.1
  have hb := X.2.1
  have hown := X.2.2.2.2.1
  have hts := X.2.2.2.2.2.1
  unfold bd_X5_footOf_9 at h
  refine lv_iload_n hx hb dX5_footOf_9 rfl (lv_at hl 3 rfl) ?_
  refine lv_if_lt (tgt := 67) hx hb dX5_footOf_10 (by decide) (fun hc => ?_) (fun hc => ?_)
  · have h := of_pos hc h
    exact kx1 () (Option.some.inj h).symm H locs ls hR hS (lv_sub hl [] rfl)
  · have h := of_neg hc h
    refine lv_bipush (v := (8 : Int32)) hx hb dX5_footOf_13 (by decide) ?_
    refine lv_iload_n hx hb dX5_footOf_15 rfl (lv_at hl 2 rfl) ?_
    refine lv_imul hx hb dX5_footOf_16 ?_
    refine lv_topi (fun v_4 e_v_4 => ?_)
    have h := of_nm e_v_4 h
    refine lv_istore (lv' := [(4, .int v_4), (0, .ref a0), (1, .int l1), (2, .int l2), (3, .int s9)]) hx hb dX5_footOf_17 hl (by decide) rfl (fun ls hl => ?_)
    obtain ⟨e_9, hq_9, h⟩ := of_bind h
    refine w_lp_X5_footOf_19 X hK hT hM a0 l1 l2 s9 k0 _ v_4 hq_9 (fun z_9 ez H locs ls hR hS hl => ?_) (fun z_9 ez H locs ls hR hS hl => ?_) H locs ls hR hS (lv_sub hl [1, 2, 3, 4, 0] rfl)
    · have h := of_scl ez h
      exact kx0 s9 (Option.some.inj h).symm H locs ls hR hS (lv_sub hl [0] rfl)
    · have h := of_scr ez h
      obtain ⟨v_10, e_v_10⟩ : ∃ y : Int32, y = (s9 + (-1 : Int32)) := ⟨_, rfl⟩
      have h := of_nm e_v_10 h
      refine lv_iinc (v := v_10) (lv' := [(3, .int v_10), (0, .ref a0), (1, .int l1), (2, .int l2)]) hx hb dX5_footOf_61 hl (k := 3) rfl (by rw [e_v_10]; rfl) (by decide) rfl (fun ls hl => ?_)
      refine lv_goto (tgt := 9) hx hb dX5_footOf_64 (by decide) ?_
      exact kb v_10 (Option.some.inj h).symm H locs ls hR hS (lv_sub hl [1, 2, 3, 0] rfl)

set_option maxHeartbeats 4000000 in
set_option maxRecDepth 100000 in
theorem w_lp_X5_footOf_9 (X : Cx cX5_footOf (some .int) 5 RX5 wsX5_footOf p s m args meth c) (hK : Kn cA D s) (hT : TL Λ) (hM : 1 ≤ R.frames ∧ 23 ≤ R.locals) (a0 : Nat) (l1 : Int32) (l2 : Int32) (k0 : isK Λ a0 6) {e9 : (Int32 ⊕ Unit)} : ∀ (n9 : Nat) (s9 : Int32), iter (bd_X5_footOf_9 Λ σ a0 l1 l2) n9 s9 = some e9 → ∀ (kx0 : ∀ z : Int32, e9 = .inl z → ∀ (H : Heap) (locs : List Loc) (ls : Array Slot), Rep cA D Λ σ H → va_S (dm Λ) s.heap H locs → lv_has ls 5 [(3, .int z)] → W p l e R s m args below meth c H locs 0 0 Q (F0 m 53 ls [])), ∀ (kx1 : ∀ z : Unit, e9 = .inr z → ∀ (H : Heap) (locs : List Loc) (ls : Array Slot), Rep cA D Λ σ H → va_S (dm Λ) s.heap H locs → lv_has ls 5 [] → W p l e R s m args below meth c H locs 0 0 Q (F0 m 67 ls [])), ∀ (H : Heap) (locs : List Loc) (ls : Array Slot), Rep cA D Λ σ H → va_S (dm Λ) s.heap H locs → lv_has ls 5 [(0, .ref a0), (1, .int l1), (2, .int l2), (3, .int s9)] → W p l e R s m args below meth c H locs 0 0 Q (F0 m 9 ls []) := by
  intro n9
  induction n9 with
  | zero => intro s9 h; cases h
  | succ n9 ih =>
    intro s9 h kx0 kx1 H locs ls hR hS hl
    obtain ⟨r, hr, h⟩ := of_iter h
    refine w_bd_X5_footOf_9 X hK hT hM a0 l1 l2 s9 k0 hr (fun z ez H locs ls hR hS hl => ?_) (fun z ez H locs ls hR hS hl => ?_) (fun z ez H locs ls hR hS hl => ?_) H locs ls hR hS hl
    · exact ih z (of_itl ez h) kx0 kx1 H locs ls hR hS hl
    · exact kx0 z (of_itr ez h).symm H locs ls hR hS hl
    · exact kx1 z (of_itr ez h).symm H locs ls hR hS hl

set_option maxHeartbeats 4000000 in
set_option maxRecDepth 100000 in
theorem w_X5_footOf (X : Cx cX5_footOf (some .int) 5 RX5 wsX5_footOf p s m args meth c) (hK : Kn cA D s) (hT : TL Λ) (hM : 1 ≤ R.frames ∧ 23 ≤ R.locals) (a0 : Nat) (l1 : Int32) (l2 : Int32) (k0 : isK Λ a0 6) {res : Int32} (h : F_X5_footOf Λ σ a0 l1 l2 = some res) (H : Heap) (locs : List Loc) (ls : Array Slot) (hR : Rep cA D Λ σ H) (hS : va_S (dm Λ) s.heap H locs) (hl : lv_has ls 5 [(0, .ref a0), (1, .int l1), (2, .int l2)]) : W p l e R s m args below meth c H locs 0 0 (MQ below (QI cA D Λ (res, σ)) args s 0 0 (dm Λ)) (F0 m 0 ls []) := by
  have hx := X.1
  have hb := X.2.1
  have hown := X.2.2.2.2.1
  have hts := X.2.2.2.2.2.1
  unfold F_X5_footOf at h
  refine lv_aload_n hx hb dX5_footOf_0 rfl (lv_at hl 0 rfl) ?_
  refine rw_getR X hK hT hR 6 3 7 k0 (by decide) (C := RX5) (T := TX5) (N := 24) rfl (by decide) in_X5_footOf_6 (by decide +kernel) rfl dX5_footOf_1 (fun kf_1 => ?_)
  refine lv_iload_n hx hb dX5_footOf_4 rfl (lv_at hl 1 rfl) ?_
  obtain ⟨hg_2, h⟩ := of_guard h
  refine rw_iald X hK hR kf_1 hg_2 dX5_footOf_5 ?_
  refine lv_iconst (v := (1 : Int32)) hx hb dX5_footOf_6 (by decide) ?_
  refine lv_isub hx hb dX5_footOf_7 ?_
  refine lv_topi (fun v_3 e_v_3 => ?_)
  have h := of_nm e_v_3 h
  refine lv_istore_n (lv' := [(3, .int v_3), (0, .ref a0), (1, .int l1), (2, .int l2)]) hx hb dX5_footOf_8 rfl hl (by decide) rfl (fun ls hl => ?_)
  obtain ⟨e_11, hq_11, h⟩ := of_bind h
  refine w_lp_X5_footOf_9 X hK hT hM a0 l1 l2 k0 _ v_3 hq_11 (fun z_11 ez H locs ls hR hS hl => ?_) (fun z_11 ez H locs ls hR hS hl => ?_) H locs ls hR hS (lv_sub hl [1, 2, 3, 0] rfl)
  · have h := of_scl ez h
    refine lv_iload_n hx hb dX5_footOf_53 rfl (lv_at hl 0 rfl) ?_
    exact rt_i X hR hS (congrArg (fun z => (z, σ)) (Option.some.inj h)) dX5_footOf_54
  · have h := of_scr ez h
    refine lv_bipush (v := (100 : Int32)) hx hb dX5_footOf_67 (by decide) ?_
    exact rt_i X hR hS (congrArg (fun z => (z, σ)) (Option.some.inj h)) dX5_footOf_69

set_option maxHeartbeats 4000000 in
set_option maxRecDepth 100000 in
theorem c_X5_footOf (l : Launch) (cA : Nat → ClassId) (D : va_G) (Λ : Lay) (hT : TL Λ) (σ : Sto) (a0 : Nat) (l1 : Int32) (l2 : Int32) (k0 : isK Λ a0 6) {res : Int32} (h : F_X5_footOf Λ σ a0 l1 l2 = some res) : Met l yX5_footOf wsX5_footOf { frames := 1, cells := 0, slots := 0, locals := 23 } (va_Pc [.ref a0, .int l1, .int l2] (PW cA D Λ σ)) (QI cA D Λ (res, σ)) 0 0 (dm Λ) := by
  refine Met.ofW (cc := cX5_footOf) (maxL := 5) (ret := (some .int)) (by decide) rfl ?_
  intro p e s m args below meth c s₁ B hml hv
  obtain ⟨rfl, hR, hK⟩ := hv
  have X : Cx cX5_footOf (some .int) 5 RX5 wsX5_footOf p s m _ meth c := ⟨B.exec, B.bytes, B.returns, hml, findClass_of_methodNamed B.named, atoms_spec (ws := wsX5_footOf) B.pre, B.notSynchronized⟩
  have hS : va_S (dm Λ) s.heap s.heap [] := va_S.rf
  have hl := lv_entry ([.ref a0, .int l1, .int l2]) (n := 5) (Nat.le_of_ble_eq_true rfl)
  rw [lg_entry_eq]
  generalize (lg_sl ([.ref a0, .int l1, .int l2]) ++ List.replicate (5 - (lg_sl ([.ref a0, .int l1, .int l2])).length) Slot.unset).toArray = ls at hl ⊢
  have hl : lv_has ls 5 [(0, .ref a0), (1, .int l1), (2, .int l2)] := hl
  exact w_X5_footOf X hK hT ⟨Nat.le_refl _, Nat.le_refl _⟩ a0 l1 l2 k0 h s.heap [] ls hR hS hl
theorem in_X5_foot_6 : ∀ w ∈ u_ws RX5 TX5 24, w ∈ wsX5_foot := by decide +kernel
set_option maxHeartbeats 4000000 in
set_option maxRecDepth 100000 in
theorem w_X5_foot (X : Cx cX5_foot (some .int) 3 RX5 wsX5_foot p s m args meth c) (hK : Kn cA D s) (hT : TL Λ) (hM : 2 ≤ R.frames ∧ 47 ≤ R.locals) (a0 : Nat) (l1 : Int32) (l2 : Int32) (k0 : isK Λ a0 6) {res : Int32 × Sto} (h : F_X5_foot Λ σ a0 l1 l2 = some res) (H : Heap) (locs : List Loc) (ls : Array Slot) (hR : Rep cA D Λ σ H) (hS : va_S (dm Λ) s.heap H locs) (hl : lv_has ls 3 [(0, .ref a0), (1, .int l1), (2, .int l2)]) : W p l e R s m args below meth c H locs 0 0 (MQ below (QI cA D Λ res) args s 0 0 (dm Λ)) (F0 m 0 ls []) := by
  have hx := X.1
  have hb := X.2.1
  have hown := X.2.2.2.2.1
  have hts := X.2.2.2.2.2.1
  unfold F_X5_foot at h
  refine lv_aload_n hx hb dX5_foot_0 rfl (lv_at hl 0 rfl) ?_
  refine lv_iconst (v := (0 : Int32)) hx hb dX5_foot_1 (by decide) ?_
  refine rw_putI X hK hT hR hS 6 0 tyX5 k0 (by decide) (C := RX5) (T := TX5) (N := 24) rfl (by decide) in_X5_foot_6 tyX5_ok nmX5 (by decide +kernel) rfl rfl (by decide +kernel) dX5_foot_2 (fun σ_1 H locs e_1 hR hS => ?_)
  have h := of_nm e_1 h
  refine lv_aload_n hx hb dX5_foot_5 rfl (lv_at hl 0 rfl) ?_
  refine lv_iload_n hx hb dX5_foot_6 rfl (lv_at hl 1 rfl) ?_
  refine cl_z (rn_V (As := [.int l1]) (rest := []) X hK hR k0 rfl (by decide) hl.1 (c_X5_isPage l cA D Λ hT σ_1 a0 l1 k0) (cwV 1 hts gX5_foot_X5_isPage rfl rfl rfl (by decide +kernel) ⟨Nat.le_trans (by decide) hM.1, Nat.le_trans (by decide) hM.2⟩) rfl rfl (Nat.le_of_ble_eq_true rfl) dX5_foot_7) hS (fun hz_2 H locs hR hS => ?_)
  refine lv_topi (fun r_2 e_2 => ?_)
  have h := of_nm e_2 h
  have hz_2 : r_2 = 0 ∨ r_2 = 1 := by rw [e_2]; exact hz_2
  refine lv_if_eq (tgt := 39) hx hb dX5_foot_10 (by decide) (fun hc => ?_) (fun hc => ?_)
  · have h := of_pos hc h
    refine lv_iconst (v := (-1 : Int32)) hx hb dX5_foot_39 (by decide) ?_
    exact rt_i X hR hS (Option.some.inj h) dX5_foot_40
  · have h := of_neg hc h
    refine lv_iload_n hx hb dX5_foot_13 rfl (lv_at hl 2 rfl) ?_
    refine lv_i2l (v := (l2.toInt64)) hx hb dX5_foot_14 rfl ?_
    refine lv_lconst (v := (0 : Int64)) hx hb dX5_foot_15 (by decide) ?_
    refine lv_aload_n hx hb dX5_foot_16 rfl (lv_at hl 0 rfl) ?_
    refine lv_iload_n hx hb dX5_foot_17 rfl (lv_at hl 1 rfl) ?_
    obtain ⟨q_3, hq_3, h⟩ := of_bind h
    refine cl_i (rn_V (As := [.int l1]) (rest := [.long (0 : Int64), .long (l2.toInt64)]) X hK hR k0 rfl (by decide) hl.1 (c_X5_steps l cA D Λ hT σ_1 a0 l1 k0 hq_3) (cwV 1 hts gX5_foot_X5_steps rfl rfl rfl (by decide +kernel) ⟨Nat.le_trans (by decide) hM.1, Nat.le_trans (by decide) hM.2⟩) rfl rfl (Nat.le_of_ble_eq_true rfl) dX5_foot_18) hS (fun H locs hR hS => ?_)
    refine lv_iconst (v := (1 : Int32)) hx hb dX5_foot_21 (by decide) ?_
    refine lv_isub hx hb dX5_foot_22 ?_
    refine lv_i2l (v := ((q_3 - (1 : Int32)).toInt64)) hx hb dX5_foot_23 rfl ?_
    refine cl_z (rn_S (As := [.long (l2.toInt64), .long (0 : Int64), .long ((q_3 - (1 : Int32)).toInt64)]) (rest := []) X hK hR hl.1 (c_X5_in l cA D Λ hT σ_1 (l2.toInt64) (0 : Int64) ((q_3 - (1 : Int32)).toInt64)) (va_cwS 3 hts gX5_foot_X5_in rfl rfl rfl (by decide +kernel) ⟨Nat.le_trans (by decide) hM.1, Nat.le_trans (by decide) hM.2⟩) rfl rfl (Nat.le_of_ble_eq_true rfl) dX5_foot_24) hS (fun hz_4 H locs hR hS => ?_)
    refine lv_topi (fun r_4 e_4 => ?_)
    have h := of_nm e_4 h
    have hz_4 : r_4 = 0 ∨ r_4 = 1 := by rw [e_4]; exact hz_4
    refine lv_if_eq (tgt := 39) hx hb dX5_foot_27 (by decide) (fun hc => ?_) (fun hc => ?_)
    · have h := of_pos hc h
      refine lv_iconst (v := (-1 : Int32)) hx hb dX5_foot_39 (by decide) ?_
      exact rt_i X hR hS (Option.some.inj h) dX5_foot_40
    · have h := of_neg hc h
      refine lv_aload_n hx hb dX5_foot_30 rfl (lv_at hl 0 rfl) ?_
      refine lv_iload_n hx hb dX5_foot_31 rfl (lv_at hl 1 rfl) ?_
      refine lv_iload_n hx hb dX5_foot_32 rfl (lv_at hl 2 rfl) ?_
      obtain ⟨q_5, hq_5, h⟩ := of_bind h
      refine cl_i (rn_V (As := [.int l1, .int l2]) (rest := []) X hK hR k0 rfl (by decide) hl.1 (c_X5_footOf l cA D Λ hT σ_1 a0 l1 l2 k0 hq_5) (cwV 2 hts gX5_foot_X5_footOf rfl rfl rfl (by decide +kernel) ⟨Nat.le_trans (by decide) hM.1, Nat.le_trans (by decide) hM.2⟩) rfl rfl (Nat.le_of_ble_eq_true rfl) dX5_foot_33) hS (fun H locs hR hS => ?_)
      refine lv_goto (tgt := 40) hx hb dX5_foot_36 (by decide) ?_
      exact rt_i X hR hS (Option.some.inj h) dX5_foot_40

set_option maxHeartbeats 4000000 in
set_option maxRecDepth 100000 in
theorem c_X5_foot (l : Launch) (cA : Nat → ClassId) (D : va_G) (Λ : Lay) (hT : TL Λ) (σ : Sto) (a0 : Nat) (l1 : Int32) (l2 : Int32) (k0 : isK Λ a0 6) {res : Int32 × Sto} (h : F_X5_foot Λ σ a0 l1 l2 = some res) : Met l yX5_foot wsX5_foot { frames := 2, cells := 0, slots := 0, locals := 47 } (va_Pc [.ref a0, .int l1, .int l2] (PW cA D Λ σ)) (QI cA D Λ res) 0 0 (dm Λ) := by
  refine Met.ofW (cc := cX5_foot) (maxL := 3) (ret := (some .int)) (by decide) rfl ?_
  intro p e s m args below meth c s₁ B hml hv
  obtain ⟨rfl, hR, hK⟩ := hv
  have X : Cx cX5_foot (some .int) 3 RX5 wsX5_foot p s m _ meth c := ⟨B.exec, B.bytes, B.returns, hml, findClass_of_methodNamed B.named, atoms_spec (ws := wsX5_foot) B.pre, B.notSynchronized⟩
  have hS : va_S (dm Λ) s.heap s.heap [] := va_S.rf
  have hl := lv_entry ([.ref a0, .int l1, .int l2]) (n := 3) (Nat.le_of_ble_eq_true rfl)
  rw [lg_entry_eq]
  generalize (lg_sl ([.ref a0, .int l1, .int l2]) ++ List.replicate (3 - (lg_sl ([.ref a0, .int l1, .int l2])).length) Slot.unset).toArray = ls at hl ⊢
  have hl : lv_has ls 3 [(0, .ref a0), (1, .int l1), (2, .int l2)] := hl
  exact w_X5_foot X hK hT ⟨Nat.le_refl _, Nat.le_refl _⟩ a0 l1 l2 k0 h s.heap [] ls hR hS hl
theorem in_X5_bend_6 : ∀ w ∈ u_ws RX5 TX5 24, w ∈ wsX5_bend := by decide +kernel
set_option maxHeartbeats 4000000 in
set_option maxRecDepth 100000 in
theorem w_jp_X5_bend_58 (X : Cx cX5_bend (some .int) 8 RX5 wsX5_bend p s m args meth c) (hK : Kn cA D s) (hT : TL Λ) (hM : 2 ≤ R.frames ∧ 47 ≤ R.locals) (a0 : Nat) (l1 : Int32) (l3 : Int32) (ls0 : Int32) (k0 : isK Λ a0 6) {r : (Int32 × Int32) ⊕ Int32} (h : jp_X5_bend_58 Λ σ a0 l1 l3 ls0 = some r) (kb : ∀ z : (Int32 × Int32), r = .inl z → ∀ (H : Heap) (locs : List Loc) (ls : Array Slot), Rep cA D Λ σ H → va_S (dm Λ) s.heap H locs → lv_has ls 8 [(0, .ref a0), (1, .int l1), (2, .int z.1), (3, .int z.2)] → W p l e R s m args below meth c H locs 0 0 Q (F0 m 24 ls [])) (kx0 : ∀ z : Int32, r = .inr z → ∀ (H : Heap) (locs : List Loc) (ls : Array Slot), Rep cA D Λ σ H → va_S (dm Λ) s.heap H locs → lv_has ls 8 [(0, .ref a0), (1, .int l1), (2, .int z)] → W p l e R s m args below meth c H locs 0 0 Q (F0 m 65 ls [])) (H : Heap) (locs : List Loc) (ls : Array Slot) (hR : Rep cA D Λ σ H) (hS : va_S (dm Λ) s.heap H locs) (hl : lv_has ls 8 [(0, .ref a0), (1, .int l1), (3, .int l3)]) : W p l e R s m args below meth c H locs 0 0 Q (F0 m 58 ls [.int ls0]) := by
  have hx := X.1
  have hb := X.2.1
  have hown := X.2.2.2.2.1
  have hts := X.2.2.2.2.2.1
  unfold jp_X5_bend_58 at h
  refine lv_istore_n (lv' := [(2, .int ls0), (0, .ref a0), (1, .int l1), (3, .int l3)]) hx hb dX5_bend_58 rfl hl (by decide) rfl (fun ls hl => ?_)
  obtain ⟨v_7, e_v_7⟩ : ∃ y : Int32, y = (l3 + (1 : Int32)) := ⟨_, rfl⟩
  have h := of_nm e_v_7 h
  refine lv_iinc (v := v_7) (lv' := [(3, .int v_7), (2, .int ls0), (0, .ref a0), (1, .int l1)]) hx hb dX5_bend_59 hl (k := 3) rfl (by rw [e_v_7]; rfl) (by decide) rfl (fun ls hl => ?_)
  refine lv_goto (tgt := 24) hx hb dX5_bend_62 (by decide) ?_
  exact kb (ls0, v_7) (Option.some.inj h).symm H locs ls hR hS (lv_sub hl [2, 3, 1, 0] rfl)

set_option maxHeartbeats 4000000 in
set_option maxRecDepth 100000 in
theorem w_bd_X5_bend_24 (X : Cx cX5_bend (some .int) 8 RX5 wsX5_bend p s m args meth c) (hK : Kn cA D s) (hT : TL Λ) (hM : 2 ≤ R.frames ∧ 47 ≤ R.locals) (a0 : Nat) (l1 : Int32) (s9 : (Int32 × Int32)) (k0 : isK Λ a0 6) {r : (Int32 × Int32) ⊕ Int32} (h : bd_X5_bend_24 Λ σ a0 l1 s9 = some r) (kb : ∀ z : (Int32 × Int32), r = .inl z → ∀ (H : Heap) (locs : List Loc) (ls : Array Slot), Rep cA D Λ σ H → va_S (dm Λ) s.heap H locs → lv_has ls 8 [(0, .ref a0), (1, .int l1), (2, .int z.1), (3, .int z.2)] → W p l e R s m args below meth c H locs 0 0 Q (F0 m 24 ls [])) (kx0 : ∀ z : Int32, r = .inr z → ∀ (H : Heap) (locs : List Loc) (ls : Array Slot), Rep cA D Λ σ H → va_S (dm Λ) s.heap H locs → lv_has ls 8 [(0, .ref a0), (1, .int l1), (2, .int z)] → W p l e R s m args below meth c H locs 0 0 Q (F0 m 65 ls [])) (H : Heap) (locs : List Loc) (ls : Array Slot) (hR : Rep cA D Λ σ H) (hS : va_S (dm Λ) s.heap H locs) (hl : lv_has ls 8 [(0, .ref a0), (1, .int l1), (2, .int s9.1), (3, .int s9.2)]) : W p l e R s m args below meth c H locs 0 0 Q (F0 m 24 ls []) := by
  have hx := X.1
  have hb := X.2.1
  have hown := X.2.2.2.2.1
  have hts := X.2.2.2.2.2.1
  unfold bd_X5_bend_24 at h
  refine lv_iload_n hx hb dX5_bend_24 rfl (lv_at hl 3 rfl) ?_
  refine lv_aload_n hx hb dX5_bend_25 rfl (lv_at hl 0 rfl) ?_
  refine lv_iload_n hx hb dX5_bend_26 rfl (lv_at hl 1 rfl) ?_
  obtain ⟨q_4, hq_4, h⟩ := of_bind h
  refine cl_i (rn_V (As := [.int l1]) (rest := [.int s9.2]) X hK hR k0 rfl (by decide) hl.1 (c_X5_steps l cA D Λ hT σ a0 l1 k0 hq_4) (cwV 1 hts gX5_bend_X5_steps rfl rfl rfl (by decide +kernel) ⟨Nat.le_trans (by decide) hM.1, Nat.le_trans (by decide) hM.2⟩) rfl rfl (Nat.le_of_ble_eq_true rfl) dX5_bend_27) hS (fun H locs hR hS => ?_)
  refine lv_icmp_ge (tgt := 65) hx hb dX5_bend_30 (by decide) (fun hc => ?_) (fun hc => ?_)
  · have h := of_pos hc h
    exact kx0 s9.1 (Option.some.inj h).symm H locs ls hR hS (lv_sub hl [0, 1, 2] rfl)
  · have h := of_neg hc h
    refine lv_aload_n hx hb dX5_bend_33 rfl (lv_at hl 0 rfl) ?_
    refine lv_iload_n hx hb dX5_bend_34 rfl (lv_at hl 1 rfl) ?_
    refine lv_iload_n hx hb dX5_bend_35 rfl (lv_at hl 3 rfl) ?_
    obtain ⟨q_5, hq_5, h⟩ := of_bind h
    refine cl_i (rn_V (As := [.int l1, .int s9.2]) (rest := []) X hK hR k0 rfl (by decide) hl.1 (c_X5_footOf l cA D Λ hT σ a0 l1 s9.2 k0 hq_5) (cwV 2 hts gX5_bend_X5_footOf rfl rfl rfl (by decide +kernel) ⟨Nat.le_trans (by decide) hM.1, Nat.le_trans (by decide) hM.2⟩) rfl rfl (Nat.le_of_ble_eq_true rfl) dX5_bend_36) hS (fun H locs hR hS => ?_)
    refine lv_istore (lv' := [(4, .int q_5), (0, .ref a0), (1, .int l1), (2, .int s9.1), (3, .int s9.2)]) hx hb dX5_bend_39 hl (by decide) rfl (fun ls hl => ?_)
    refine lv_iload hx hb dX5_bend_41 (lv_at hl 0 rfl) ?_
    refine lv_bipush (v := (100 : Int32)) hx hb dX5_bend_43 (by decide) ?_
    refine lv_icmp_ne (tgt := 52) hx hb dX5_bend_45 (by decide) (fun hc => ?_) (fun hc => ?_)
    · have h := of_neg hc h
      refine lv_iload_n hx hb dX5_bend_52 rfl (lv_at hl 3 rfl) ?_
      refine lv_iload hx hb dX5_bend_53 (lv_at hl 0 rfl) ?_
      refine va_mmax hx hb (X.2.2.2.1.trans hl.1.symm) hown (hts (.methodLink RX5 146 Lib.Math.max.name) (by decide +kernel)) (hts (.static Lib.Math.max.name) (by decide +kernel)) (hts (.initialized "java/lang/Math") (by decide +kernel)) (hts (.code Lib.Math.max.name Lib.Math.max.code 2 (some .int)) (by decide +kernel)) (Nat.le_trans (by decide) hM.1) (Nat.le_trans (Nat.le_of_ble_eq_true rfl) hM.2) (Nat.zero_le _) (Nat.zero_le _) dX5_bend_55 ?_
      refine lv_topi (fun r_6 e_6 => ?_)
      have h := of_nm e_6 h
      exact w_jp_X5_bend_58 X hK hT hM a0 l1 s9.2 r_6 k0 h kb kx0 H locs ls hR hS (lv_sub hl [1, 2, 4] rfl)
    · have h := of_pos hc h
      refine lv_iload_n hx hb dX5_bend_48 rfl (lv_at hl 3 rfl) ?_
      refine lv_goto (tgt := 58) hx hb dX5_bend_49 (by decide) ?_
      exact w_jp_X5_bend_58 X hK hT hM a0 l1 s9.2 s9.1 k0 h kb kx0 H locs ls hR hS (lv_sub hl [1, 2, 4] rfl)

set_option maxHeartbeats 4000000 in
set_option maxRecDepth 100000 in
theorem w_lp_X5_bend_24 (X : Cx cX5_bend (some .int) 8 RX5 wsX5_bend p s m args meth c) (hK : Kn cA D s) (hT : TL Λ) (hM : 2 ≤ R.frames ∧ 47 ≤ R.locals) (a0 : Nat) (l1 : Int32) (k0 : isK Λ a0 6) {e9 : Int32} : ∀ (n9 : Nat) (s9 : (Int32 × Int32)), iter (bd_X5_bend_24 Λ σ a0 l1) n9 s9 = some e9 → ∀ (kx0 : ∀ (H : Heap) (locs : List Loc) (ls : Array Slot), Rep cA D Λ σ H → va_S (dm Λ) s.heap H locs → lv_has ls 8 [(0, .ref a0), (1, .int l1), (2, .int e9)] → W p l e R s m args below meth c H locs 0 0 Q (F0 m 65 ls [])), ∀ (H : Heap) (locs : List Loc) (ls : Array Slot), Rep cA D Λ σ H → va_S (dm Λ) s.heap H locs → lv_has ls 8 [(0, .ref a0), (1, .int l1), (2, .int s9.1), (3, .int s9.2)] → W p l e R s m args below meth c H locs 0 0 Q (F0 m 24 ls []) := by
  intro n9
  induction n9 with
  | zero => intro s9 h; cases h
  | succ n9 ih =>
    intro s9 h kx0 H locs ls hR hS hl
    obtain ⟨r, hr, h⟩ := of_iter h
    refine w_bd_X5_bend_24 X hK hT hM a0 l1 s9 k0 hr (fun z ez H locs ls hR hS hl => ?_) (fun z ez H locs ls hR hS hl => ?_) H locs ls hR hS hl
    · exact ih z (of_itl ez h) kx0 H locs ls hR hS hl
    · have he := of_itr ez h; subst he; exact kx0 H locs ls hR hS hl

set_option maxHeartbeats 4000000 in
set_option maxRecDepth 100000 in
theorem w_bd_X5_bend_151 (X : Cx cX5_bend (some .int) 8 RX5 wsX5_bend p s m args meth c) (hK : Kn cA D s) (hT : TL Λ) (hM : 2 ≤ R.frames ∧ 47 ≤ R.locals) (a0 : Nat) (l1 : Int32) (l2 : Int32) (l3 : Int32) (l4 : Int32) (l5 : Int32) (l6 : Int32) (s9 : (Int32 × Sto)) (k0 : isK Λ a0 6) {r : (Int32 × Sto) ⊕ Sto} (h : bd_X5_bend_151 Λ a0 l1 l2 l3 l4 l5 l6 s9 = some r) (kb : ∀ z : (Int32 × Sto), r = .inl z → ∀ (H : Heap) (locs : List Loc) (ls : Array Slot), Rep cA D Λ z.2 H → va_S (dm Λ) s.heap H locs → lv_has ls 8 [(0, .ref a0), (1, .int l1), (2, .int l2), (3, .int l3), (4, .int l4), (5, .int l5), (6, .int l6), (7, .int z.1)] → W p l e R s m args below meth c H locs 0 0 Q (F0 m 151 ls [])) (kx0 : ∀ z : Sto, r = .inr z → ∀ (H : Heap) (locs : List Loc) (ls : Array Slot), Rep cA D Λ z H → va_S (dm Λ) s.heap H locs → lv_has ls 8 [(0, .ref a0), (1, .int l1), (2, .int l2), (3, .int l3), (4, .int l4), (5, .int l5), (6, .int l6)] → W p l e R s m args below meth c H locs 0 0 Q (F0 m 191 ls [])) (H : Heap) (locs : List Loc) (ls : Array Slot) (hR : Rep cA D Λ s9.2 H) (hS : va_S (dm Λ) s.heap H locs) (hl : lv_has ls 8 [(0, .ref a0), (1, .int l1), (2, .int l2), (3, .int l3), (4, .int l4), (5, .int l5), (6, .int l6), (7, .int s9.1)]) : W p l e R s m args below meth c H locs 0 0 Q (F0 m 151 ls []) := by
  have hx := X.1
  have hb := X.2.1
  have hown := X.2.2.2.2.1
  have hts := X.2.2.2.2.2.1
  unfold bd_X5_bend_151 at h
  refine lv_iload hx hb dX5_bend_151 (lv_at hl 7 rfl) ?_
  refine lv_iload hx hb dX5_bend_153 (lv_at hl 5 rfl) ?_
  refine lv_icmp_gt (tgt := 191) hx hb dX5_bend_155 (by decide) (fun hc => ?_) (fun hc => ?_)
  · have h := of_pos hc h
    exact kx0 s9.2 (Option.some.inj h).symm H locs ls hR hS (lv_sub hl [0, 1, 2, 3, 4, 5, 6] rfl)
  · have h := of_neg hc h
    refine lv_aload_n hx hb dX5_bend_158 rfl (lv_at hl 0 rfl) ?_
    refine rw_getR X hK hT hR 6 5 9 k0 (by decide) (C := RX5) (T := TX5) (N := 24) rfl (by decide) in_X5_bend_6 (by decide +kernel) rfl dX5_bend_159 (fun kf_16 => ?_)
    refine lv_iload hx hb dX5_bend_162 (lv_at hl 7 rfl) ?_
    refine lv_iload_n hx hb dX5_bend_164 rfl (lv_at hl 2 rfl) ?_
    refine lv_iadd hx hb dX5_bend_165 ?_
    refine lv_iload hx hb dX5_bend_166 (lv_at hl 5 rfl) ?_
    refine lv_isub hx hb dX5_bend_168 ?_
    refine lv_bipush (v := (64 : Int32)) hx hb dX5_bend_169 (by decide) ?_
    refine lv_imul hx hb dX5_bend_171 ?_
    refine lv_iload hx hb dX5_bend_172 (lv_at hl 6 rfl) ?_
    refine lv_iadd hx hb dX5_bend_174 ?_
    refine lv_aload_n hx hb dX5_bend_175 rfl (lv_at hl 0 rfl) ?_
    refine lv_iload_n hx hb dX5_bend_176 rfl (lv_at hl 1 rfl) ?_
    refine lv_iload hx hb dX5_bend_177 (lv_at hl 6 rfl) ?_
    refine lv_iload hx hb dX5_bend_179 (lv_at hl 7 rfl) ?_
    obtain ⟨q_17, hq_17, h⟩ := of_bind h
    refine cl_z (rn_V (As := [.int l1, .int l6, .int s9.1]) (rest := [.int ((((s9.1 + l2) - l5) * (64 : Int32)) + l6), .ref (rfA Λ a0 5)]) X hK hR k0 rfl (by decide) hl.1 (c_X5_has l cA D Λ hT s9.2 a0 l1 l6 s9.1 k0 hq_17) (cwV 3 hts gX5_bend_X5_has rfl rfl rfl (by decide +kernel) ⟨Nat.le_trans (by decide) hM.1, Nat.le_trans (by decide) hM.2⟩) rfl rfl (Nat.le_of_ble_eq_true rfl) dX5_bend_181) hS (fun hz_17 H locs hR hS => ?_)
    obtain ⟨hg_18, h⟩ := of_guard h
    refine rw_zast X hK hT hR hS kf_16 hg_18 dX5_bend_184 (fun σ_18 H locs e_18 hR hS => ?_)
    have h := of_nm e_18 h
    obtain ⟨v_19, e_v_19⟩ : ∃ y : Int32, y = (s9.1 + (1 : Int32)) := ⟨_, rfl⟩
    have h := of_nm e_v_19 h
    refine lv_iinc (v := v_19) (lv' := [(7, .int v_19), (0, .ref a0), (1, .int l1), (2, .int l2), (3, .int l3), (4, .int l4), (5, .int l5), (6, .int l6)]) hx hb dX5_bend_185 hl (k := 7) rfl (by rw [e_v_19]; rfl) (by decide) rfl (fun ls hl => ?_)
    refine lv_goto (tgt := 151) hx hb dX5_bend_188 (by decide) ?_
    exact kb (v_19, σ_18) (Option.some.inj h).symm H locs ls hR hS (lv_sub hl [1, 2, 3, 4, 5, 6, 7, 0] rfl)

set_option maxHeartbeats 4000000 in
set_option maxRecDepth 100000 in
theorem w_lp_X5_bend_151 (X : Cx cX5_bend (some .int) 8 RX5 wsX5_bend p s m args meth c) (hK : Kn cA D s) (hT : TL Λ) (hM : 2 ≤ R.frames ∧ 47 ≤ R.locals) (a0 : Nat) (l1 : Int32) (l2 : Int32) (l3 : Int32) (l4 : Int32) (l5 : Int32) (l6 : Int32) (k0 : isK Λ a0 6) {e9 : Sto} : ∀ (n9 : Nat) (s9 : (Int32 × Sto)), iter (bd_X5_bend_151 Λ a0 l1 l2 l3 l4 l5 l6) n9 s9 = some e9 → ∀ (kx0 : ∀ (H : Heap) (locs : List Loc) (ls : Array Slot), Rep cA D Λ e9 H → va_S (dm Λ) s.heap H locs → lv_has ls 8 [(0, .ref a0), (1, .int l1), (2, .int l2), (3, .int l3), (4, .int l4), (5, .int l5), (6, .int l6)] → W p l e R s m args below meth c H locs 0 0 Q (F0 m 191 ls [])), ∀ (H : Heap) (locs : List Loc) (ls : Array Slot), Rep cA D Λ s9.2 H → va_S (dm Λ) s.heap H locs → lv_has ls 8 [(0, .ref a0), (1, .int l1), (2, .int l2), (3, .int l3), (4, .int l4), (5, .int l5), (6, .int l6), (7, .int s9.1)] → W p l e R s m args below meth c H locs 0 0 Q (F0 m 151 ls []) := by
  intro n9
  induction n9 with
  | zero => intro s9 h; cases h
  | succ n9 ih =>
    intro s9 h kx0 H locs ls hR hS hl
    obtain ⟨r, hr, h⟩ := of_iter h
    refine w_bd_X5_bend_151 X hK hT hM a0 l1 l2 l3 l4 l5 l6 s9 k0 hr (fun z ez H locs ls hR hS hl => ?_) (fun z ez H locs ls hR hS hl => ?_) H locs ls hR hS hl
    · exact ih z (of_itl ez h) kx0 H locs ls hR hS hl
    · have he := of_itr ez h; subst he; exact kx0 H locs ls hR hS hl

set_option maxHeartbeats 4000000 in
set_option maxRecDepth 100000 in
theorem w_bd_X5_bend_124 (X : Cx cX5_bend (some .int) 8 RX5 wsX5_bend p s m args meth c) (hK : Kn cA D s) (hT : TL Λ) (hM : 2 ≤ R.frames ∧ 47 ≤ R.locals) (a0 : Nat) (l1 : Int32) (l2 : Int32) (l3 : Int32) (l4 : Int32) (l5 : Int32) (s9 : (Int32 × Sto)) (k0 : isK Λ a0 6) {r : (Int32 × Sto) ⊕ Sto} (h : bd_X5_bend_124 Λ a0 l1 l2 l3 l4 l5 s9 = some r) (kb : ∀ z : (Int32 × Sto), r = .inl z → ∀ (H : Heap) (locs : List Loc) (ls : Array Slot), Rep cA D Λ z.2 H → va_S (dm Λ) s.heap H locs → lv_has ls 8 [(0, .ref a0), (1, .int l1), (2, .int l2), (3, .int l3), (4, .int l4), (5, .int l5), (6, .int z.1)] → W p l e R s m args below meth c H locs 0 0 Q (F0 m 124 ls [])) (kx0 : ∀ z : Sto, r = .inr z → ∀ (H : Heap) (locs : List Loc) (ls : Array Slot), Rep cA D Λ z H → va_S (dm Λ) s.heap H locs → lv_has ls 8 [(0, .ref a0), (1, .int l1), (2, .int l2), (3, .int l3), (4, .int l4)] → W p l e R s m args below meth c H locs 0 0 Q (F0 m 197 ls [])) (H : Heap) (locs : List Loc) (ls : Array Slot) (hR : Rep cA D Λ s9.2 H) (hS : va_S (dm Λ) s.heap H locs) (hl : lv_has ls 8 [(0, .ref a0), (1, .int l1), (2, .int l2), (3, .int l3), (4, .int l4), (5, .int l5), (6, .int s9.1)]) : W p l e R s m args below meth c H locs 0 0 Q (F0 m 124 ls []) := by
  have hx := X.1
  have hb := X.2.1
  have hown := X.2.2.2.2.1
  have hts := X.2.2.2.2.2.1
  unfold bd_X5_bend_124 at h
  refine lv_iload hx hb dX5_bend_124 (lv_at hl 6 rfl) ?_
  refine lv_bipush (v := (8 : Int32)) hx hb dX5_bend_126 (by decide) ?_
  refine lv_iload hx hb dX5_bend_128 (lv_at hl 4 rfl) ?_
  refine lv_imul hx hb dX5_bend_130 ?_
  refine lv_bipush (v := (8 : Int32)) hx hb dX5_bend_131 (by decide) ?_
  refine lv_iadd hx hb dX5_bend_133 ?_
  refine lv_icmp_ge (tgt := 197) hx hb dX5_bend_134 (by decide) (fun hc => ?_) (fun hc => ?_)
  · have h := of_pos hc h
    exact kx0 s9.2 (Option.some.inj h).symm H locs ls hR hS (lv_sub hl [0, 1, 2, 3, 4] rfl)
  · have h := of_neg hc h
    refine lv_iload hx hb dX5_bend_137 (lv_at hl 6 rfl) ?_
    refine lv_aload_n hx hb dX5_bend_139 rfl (lv_at hl 0 rfl) ?_
    refine rw_getR X hK hT hR 6 2 7 k0 (by decide) (C := RX5) (T := TX5) (N := 24) rfl (by decide) in_X5_bend_6 (by decide +kernel) rfl dX5_bend_140 (fun kf_14 => ?_)
    refine lv_iload_n hx hb dX5_bend_143 rfl (lv_at hl 1 rfl) ?_
    obtain ⟨hg_15, h⟩ := of_guard h
    refine rw_iald X hK hR kf_14 hg_15 dX5_bend_144 ?_
    refine lv_icmp_ge (tgt := 197) hx hb dX5_bend_145 (by decide) (fun hc => ?_) (fun hc => ?_)
    · have h := of_pos hc h
      exact kx0 s9.2 (Option.some.inj h).symm H locs ls hR hS (lv_sub hl [0, 1, 2, 3, 4] rfl)
    · have h := of_neg hc h
      refine lv_iconst (v := (0 : Int32)) hx hb dX5_bend_148 (by decide) ?_
      refine lv_istore (lv' := [(7, .int (0 : Int32)), (0, .ref a0), (1, .int l1), (2, .int l2), (3, .int l3), (4, .int l4), (5, .int l5), (6, .int s9.1)]) hx hb dX5_bend_149 hl (by decide) rfl (fun ls hl => ?_)
      obtain ⟨e_20, hq_20, h⟩ := of_bind h
      refine w_lp_X5_bend_151 X hK hT hM a0 l1 l2 l3 l4 l5 s9.1 k0 _ ((0 : Int32), s9.2) hq_20 (fun H locs ls hR hS hl => ?_) H locs ls hR hS (lv_sub hl [1, 2, 3, 4, 5, 6, 7, 0] rfl)
      obtain ⟨v_21, e_v_21⟩ : ∃ y : Int32, y = (s9.1 + (1 : Int32)) := ⟨_, rfl⟩
      have h := of_nm e_v_21 h
      refine lv_iinc (v := v_21) (lv' := [(6, .int v_21), (0, .ref a0), (1, .int l1), (2, .int l2), (3, .int l3), (4, .int l4), (5, .int l5)]) hx hb dX5_bend_191 hl (k := 6) rfl (by rw [e_v_21]; rfl) (by decide) rfl (fun ls hl => ?_)
      refine lv_goto (tgt := 124) hx hb dX5_bend_194 (by decide) ?_
      exact kb (v_21, e_20) (Option.some.inj h).symm H locs ls hR hS (lv_sub hl [1, 2, 3, 4, 5, 6, 0] rfl)

set_option maxHeartbeats 4000000 in
set_option maxRecDepth 100000 in
theorem w_lp_X5_bend_124 (X : Cx cX5_bend (some .int) 8 RX5 wsX5_bend p s m args meth c) (hK : Kn cA D s) (hT : TL Λ) (hM : 2 ≤ R.frames ∧ 47 ≤ R.locals) (a0 : Nat) (l1 : Int32) (l2 : Int32) (l3 : Int32) (l4 : Int32) (l5 : Int32) (k0 : isK Λ a0 6) {e9 : Sto} : ∀ (n9 : Nat) (s9 : (Int32 × Sto)), iter (bd_X5_bend_124 Λ a0 l1 l2 l3 l4 l5) n9 s9 = some e9 → ∀ (kx0 : ∀ (H : Heap) (locs : List Loc) (ls : Array Slot), Rep cA D Λ e9 H → va_S (dm Λ) s.heap H locs → lv_has ls 8 [(0, .ref a0), (1, .int l1), (2, .int l2), (3, .int l3), (4, .int l4)] → W p l e R s m args below meth c H locs 0 0 Q (F0 m 197 ls [])), ∀ (H : Heap) (locs : List Loc) (ls : Array Slot), Rep cA D Λ s9.2 H → va_S (dm Λ) s.heap H locs → lv_has ls 8 [(0, .ref a0), (1, .int l1), (2, .int l2), (3, .int l3), (4, .int l4), (5, .int l5), (6, .int s9.1)] → W p l e R s m args below meth c H locs 0 0 Q (F0 m 124 ls []) := by
  intro n9
  induction n9 with
  | zero => intro s9 h; cases h
  | succ n9 ih =>
    intro s9 h kx0 H locs ls hR hS hl
    obtain ⟨r, hr, h⟩ := of_iter h
    refine w_bd_X5_bend_124 X hK hT hM a0 l1 l2 l3 l4 l5 s9 k0 hr (fun z ez H locs ls hR hS hl => ?_) (fun z ez H locs ls hR hS hl => ?_) H locs ls hR hS hl
    · exact ih z (of_itl ez h) kx0 H locs ls hR hS hl
    · have he := of_itr ez h; subst he; exact kx0 H locs ls hR hS hl

set_option maxHeartbeats 4000000 in
set_option maxRecDepth 100000 in
theorem w_jp_X5_bend_197 (X : Cx cX5_bend (some .int) 8 RX5 wsX5_bend p s m args meth c) (hK : Kn cA D s) (hT : TL Λ) (hM : 2 ≤ R.frames ∧ 47 ≤ R.locals) (a0 : Nat) (l1 : Int32) (l2 : Int32) (l3 : Int32) (l4 : Int32)  (k0 : isK Λ a0 6) {r : (Int32 × Int32 × Sto) ⊕ (Int32 × Sto)} (h : jp_X5_bend_197 Λ σ a0 l1 l2 l3 l4 = some r) (kb : ∀ z : (Int32 × Int32 × Sto), r = .inl z → ∀ (H : Heap) (locs : List Loc) (ls : Array Slot), Rep cA D Λ z.2.2 H → va_S (dm Λ) s.heap H locs → lv_has ls 8 [(0, .ref a0), (1, .int l1), (2, .int l2), (3, .int z.1), (4, .int z.2.1)] → W p l e R s m args below meth c H locs 0 0 Q (F0 m 74 ls [])) (kx0 : ∀ z : (Int32 × Sto), r = .inr z → ∀ (H : Heap) (locs : List Loc) (ls : Array Slot), Rep cA D Λ z.2 H → va_S (dm Λ) s.heap H locs → lv_has ls 8 [(0, .ref a0), (1, .int l1), (3, .int z.1)] → W p l e R s m args below meth c H locs 0 0 Q (F0 m 203 ls [])) (H : Heap) (locs : List Loc) (ls : Array Slot) (hR : Rep cA D Λ σ H) (hS : va_S (dm Λ) s.heap H locs) (hl : lv_has ls 8 [(0, .ref a0), (1, .int l1), (2, .int l2), (3, .int l3), (4, .int l4)]) : W p l e R s m args below meth c H locs 0 0 Q (F0 m 197 ls []) := by
  have hx := X.1
  have hb := X.2.1
  have hown := X.2.2.2.2.1
  have hts := X.2.2.2.2.2.1
  unfold jp_X5_bend_197 at h
  obtain ⟨v_23, e_v_23⟩ : ∃ y : Int32, y = (l4 + (1 : Int32)) := ⟨_, rfl⟩
  have h := of_nm e_v_23 h
  refine lv_iinc (v := v_23) (lv' := [(4, .int v_23), (0, .ref a0), (1, .int l1), (2, .int l2), (3, .int l3)]) hx hb dX5_bend_197 hl (k := 4) rfl (by rw [e_v_23]; rfl) (by decide) rfl (fun ls hl => ?_)
  refine lv_goto (tgt := 74) hx hb dX5_bend_200 (by decide) ?_
  exact kb (l3, v_23, σ) (Option.some.inj h).symm H locs ls hR hS (lv_sub hl [1, 2, 3, 4, 0] rfl)

set_option maxHeartbeats 4000000 in
set_option maxRecDepth 100000 in
theorem w_jp_X5_bend_115 (X : Cx cX5_bend (some .int) 8 RX5 wsX5_bend p s m args meth c) (hK : Kn cA D s) (hT : TL Λ) (hM : 2 ≤ R.frames ∧ 47 ≤ R.locals) (a0 : Nat) (l1 : Int32) (l2 : Int32) (l4 : Int32) (l5 : Int32) (ls0 : Int32) (ls1 : Int32) (k0 : isK Λ a0 6) {r : (Int32 × Int32 × Sto) ⊕ (Int32 × Sto)} (h : jp_X5_bend_115 Λ σ a0 l1 l2 l4 l5 ls0 ls1 = some r) (kb : ∀ z : (Int32 × Int32 × Sto), r = .inl z → ∀ (H : Heap) (locs : List Loc) (ls : Array Slot), Rep cA D Λ z.2.2 H → va_S (dm Λ) s.heap H locs → lv_has ls 8 [(0, .ref a0), (1, .int l1), (2, .int l2), (3, .int z.1), (4, .int z.2.1)] → W p l e R s m args below meth c H locs 0 0 Q (F0 m 74 ls [])) (kx0 : ∀ z : (Int32 × Sto), r = .inr z → ∀ (H : Heap) (locs : List Loc) (ls : Array Slot), Rep cA D Λ z.2 H → va_S (dm Λ) s.heap H locs → lv_has ls 8 [(0, .ref a0), (1, .int l1), (3, .int z.1)] → W p l e R s m args below meth c H locs 0 0 Q (F0 m 203 ls [])) (H : Heap) (locs : List Loc) (ls : Array Slot) (hR : Rep cA D Λ σ H) (hS : va_S (dm Λ) s.heap H locs) (hl : lv_has ls 8 [(0, .ref a0), (1, .int l1), (2, .int l2), (4, .int l4), (5, .int l5)]) : W p l e R s m args below meth c H locs 0 0 Q (F0 m 115 ls [.int ls0, .int ls1]) := by
  have hx := X.1
  have hb := X.2.1
  have hown := X.2.2.2.2.1
  have hts := X.2.2.2.2.2.1
  unfold jp_X5_bend_115 at h
  refine lv_iadd hx hb dX5_bend_115 ?_
  refine lv_topi (fun v_12 e_v_12 => ?_)
  have h := of_nm e_v_12 h
  refine lv_istore_n (lv' := [(3, .int v_12), (0, .ref a0), (1, .int l1), (2, .int l2), (4, .int l4), (5, .int l5)]) hx hb dX5_bend_116 rfl hl (by decide) rfl (fun ls hl => ?_)
  refine lv_bipush (v := (8 : Int32)) hx hb dX5_bend_117 (by decide) ?_
  refine lv_iload hx hb dX5_bend_119 (lv_at hl 4 rfl) ?_
  refine lv_imul hx hb dX5_bend_121 ?_
  refine lv_topi (fun v_13 e_v_13 => ?_)
  have h := of_nm e_v_13 h
  refine lv_istore (lv' := [(6, .int v_13), (3, .int v_12), (0, .ref a0), (1, .int l1), (2, .int l2), (4, .int l4), (5, .int l5)]) hx hb dX5_bend_122 hl (by decide) rfl (fun ls hl => ?_)
  obtain ⟨e_22, hq_22, h⟩ := of_bind h
  refine w_lp_X5_bend_124 X hK hT hM a0 l1 l2 v_12 l4 l5 k0 _ (v_13, σ) hq_22 (fun H locs ls hR hS hl => ?_) H locs ls hR hS (lv_sub hl [2, 3, 4, 1, 5, 6, 0] rfl)
  exact w_jp_X5_bend_197 X hK hT hM a0 l1 l2 v_12 l4 k0 h kb kx0 H locs ls hR hS (lv_sub hl [0, 1, 2, 3, 4] rfl)

set_option maxHeartbeats 4000000 in
set_option maxRecDepth 100000 in
theorem w_bd_X5_bend_74 (X : Cx cX5_bend (some .int) 8 RX5 wsX5_bend p s m args meth c) (hK : Kn cA D s) (hT : TL Λ) (hM : 2 ≤ R.frames ∧ 47 ≤ R.locals) (a0 : Nat) (l1 : Int32) (l2 : Int32) (s9 : (Int32 × Int32 × Sto)) (k0 : isK Λ a0 6) {r : (Int32 × Int32 × Sto) ⊕ (Int32 × Sto)} (h : bd_X5_bend_74 Λ a0 l1 l2 s9 = some r) (kb : ∀ z : (Int32 × Int32 × Sto), r = .inl z → ∀ (H : Heap) (locs : List Loc) (ls : Array Slot), Rep cA D Λ z.2.2 H → va_S (dm Λ) s.heap H locs → lv_has ls 8 [(0, .ref a0), (1, .int l1), (2, .int l2), (3, .int z.1), (4, .int z.2.1)] → W p l e R s m args below meth c H locs 0 0 Q (F0 m 74 ls [])) (kx0 : ∀ z : (Int32 × Sto), r = .inr z → ∀ (H : Heap) (locs : List Loc) (ls : Array Slot), Rep cA D Λ z.2 H → va_S (dm Λ) s.heap H locs → lv_has ls 8 [(0, .ref a0), (1, .int l1), (3, .int z.1)] → W p l e R s m args below meth c H locs 0 0 Q (F0 m 203 ls [])) (H : Heap) (locs : List Loc) (ls : Array Slot) (hR : Rep cA D Λ s9.2.2 H) (hS : va_S (dm Λ) s.heap H locs) (hl : lv_has ls 8 [(0, .ref a0), (1, .int l1), (2, .int l2), (3, .int s9.1), (4, .int s9.2.1)]) : W p l e R s m args below meth c H locs 0 0 Q (F0 m 74 ls []) := by
  have hx := X.1
  have hb := X.2.1
  have hown := X.2.2.2.2.1
  have hts := X.2.2.2.2.2.1
  unfold bd_X5_bend_74 at h
  refine lv_iload hx hb dX5_bend_74 (lv_at hl 4 rfl) ?_
  refine lv_aload_n hx hb dX5_bend_76 rfl (lv_at hl 0 rfl) ?_
  refine lv_iload_n hx hb dX5_bend_77 rfl (lv_at hl 1 rfl) ?_
  obtain ⟨q_10, hq_10, h⟩ := of_bind h
  refine cl_i (rn_V (As := [.int l1]) (rest := [.int s9.2.1]) X hK hR k0 rfl (by decide) hl.1 (c_X5_steps l cA D Λ hT s9.2.2 a0 l1 k0 hq_10) (cwV 1 hts gX5_bend_X5_steps rfl rfl rfl (by decide +kernel) ⟨Nat.le_trans (by decide) hM.1, Nat.le_trans (by decide) hM.2⟩) rfl rfl (Nat.le_of_ble_eq_true rfl) dX5_bend_78) hS (fun H locs hR hS => ?_)
  refine lv_icmp_ge (tgt := 203) hx hb dX5_bend_81 (by decide) (fun hc => ?_) (fun hc => ?_)
  · have h := of_pos hc h
    exact kx0 (s9.1, s9.2.2) (Option.some.inj h).symm H locs ls hR hS (lv_sub hl [0, 1, 3] rfl)
  · have h := of_neg hc h
    refine lv_aload_n hx hb dX5_bend_84 rfl (lv_at hl 0 rfl) ?_
    refine lv_iload_n hx hb dX5_bend_85 rfl (lv_at hl 1 rfl) ?_
    refine lv_iload hx hb dX5_bend_86 (lv_at hl 4 rfl) ?_
    obtain ⟨q_11, hq_11, h⟩ := of_bind h
    refine cl_i (rn_V (As := [.int l1, .int s9.2.1]) (rest := []) X hK hR k0 rfl (by decide) hl.1 (c_X5_footOf l cA D Λ hT s9.2.2 a0 l1 s9.2.1 k0 hq_11) (cwV 2 hts gX5_bend_X5_footOf rfl rfl rfl (by decide +kernel) ⟨Nat.le_trans (by decide) hM.1, Nat.le_trans (by decide) hM.2⟩) rfl rfl (Nat.le_of_ble_eq_true rfl) dX5_bend_88) hS (fun H locs hR hS => ?_)
    refine lv_istore (lv' := [(5, .int q_11), (0, .ref a0), (1, .int l1), (2, .int l2), (3, .int s9.1), (4, .int s9.2.1)]) hx hb dX5_bend_91 hl (by decide) rfl (fun ls hl => ?_)
    refine lv_iload hx hb dX5_bend_93 (lv_at hl 0 rfl) ?_
    refine lv_bipush (v := (100 : Int32)) hx hb dX5_bend_95 (by decide) ?_
    refine lv_icmp_ne (tgt := 103) hx hb dX5_bend_97 (by decide) (fun hc => ?_) (fun hc => ?_)
    · have h := of_neg hc h
      refine lv_iload_n hx hb dX5_bend_103 rfl (lv_at hl 4 rfl) ?_
      refine lv_iload_n hx hb dX5_bend_104 rfl (lv_at hl 3 rfl) ?_
      refine lv_iload hx hb dX5_bend_105 (lv_at hl 0 rfl) ?_
      refine lv_icmp_le (tgt := 114) hx hb dX5_bend_107 (by decide) (fun hc => ?_) (fun hc => ?_)
      · have h := of_pos hc h
        refine lv_iconst (v := (0 : Int32)) hx hb dX5_bend_114 (by decide) ?_
        exact w_jp_X5_bend_115 X hK hT hM a0 l1 l2 s9.2.1 q_11 (0 : Int32) s9.1 k0 h kb kx0 H locs ls hR hS (lv_sub hl [1, 2, 3, 5, 0] rfl)
      · have h := of_neg hc h
        refine lv_iconst (v := (1 : Int32)) hx hb dX5_bend_110 (by decide) ?_
        refine lv_goto (tgt := 115) hx hb dX5_bend_111 (by decide) ?_
        exact w_jp_X5_bend_115 X hK hT hM a0 l1 l2 s9.2.1 q_11 (1 : Int32) s9.1 k0 h kb kx0 H locs ls hR hS (lv_sub hl [1, 2, 3, 5, 0] rfl)
    · have h := of_pos hc h
      refine lv_goto (tgt := 197) hx hb dX5_bend_100 (by decide) ?_
      exact w_jp_X5_bend_197 X hK hT hM a0 l1 l2 s9.1 s9.2.1 k0 h kb kx0 H locs ls hR hS (lv_sub hl [1, 2, 3, 4, 5] rfl)

set_option maxHeartbeats 4000000 in
set_option maxRecDepth 100000 in
theorem w_lp_X5_bend_74 (X : Cx cX5_bend (some .int) 8 RX5 wsX5_bend p s m args meth c) (hK : Kn cA D s) (hT : TL Λ) (hM : 2 ≤ R.frames ∧ 47 ≤ R.locals) (a0 : Nat) (l1 : Int32) (l2 : Int32) (k0 : isK Λ a0 6) {e9 : (Int32 × Sto)} : ∀ (n9 : Nat) (s9 : (Int32 × Int32 × Sto)), iter (bd_X5_bend_74 Λ a0 l1 l2) n9 s9 = some e9 → ∀ (kx0 : ∀ (H : Heap) (locs : List Loc) (ls : Array Slot), Rep cA D Λ e9.2 H → va_S (dm Λ) s.heap H locs → lv_has ls 8 [(0, .ref a0), (1, .int l1), (3, .int e9.1)] → W p l e R s m args below meth c H locs 0 0 Q (F0 m 203 ls [])), ∀ (H : Heap) (locs : List Loc) (ls : Array Slot), Rep cA D Λ s9.2.2 H → va_S (dm Λ) s.heap H locs → lv_has ls 8 [(0, .ref a0), (1, .int l1), (2, .int l2), (3, .int s9.1), (4, .int s9.2.1)] → W p l e R s m args below meth c H locs 0 0 Q (F0 m 74 ls []) := by
  intro n9
  induction n9 with
  | zero => intro s9 h; cases h
  | succ n9 ih =>
    intro s9 h kx0 H locs ls hR hS hl
    obtain ⟨r, hr, h⟩ := of_iter h
    refine w_bd_X5_bend_74 X hK hT hM a0 l1 l2 s9 k0 hr (fun z ez H locs ls hR hS hl => ?_) (fun z ez H locs ls hR hS hl => ?_) H locs ls hR hS hl
    · exact ih z (of_itl ez h) kx0 H locs ls hR hS hl
    · have he := of_itr ez h; subst he; exact kx0 H locs ls hR hS hl

set_option maxHeartbeats 4000000 in
set_option maxRecDepth 100000 in
theorem w_X5_bend (X : Cx cX5_bend (some .int) 8 RX5 wsX5_bend p s m args meth c) (hK : Kn cA D s) (hT : TL Λ) (hM : 2 ≤ R.frames ∧ 47 ≤ R.locals) (a0 : Nat) (l1 : Int32) (k0 : isK Λ a0 6) {res : Int32 × Sto} (h : F_X5_bend Λ σ a0 l1 = some res) (H : Heap) (locs : List Loc) (ls : Array Slot) (hR : Rep cA D Λ σ H) (hS : va_S (dm Λ) s.heap H locs) (hl : lv_has ls 8 [(0, .ref a0), (1, .int l1)]) : W p l e R s m args below meth c H locs 0 0 (MQ below (QI cA D Λ res) args s 0 0 (dm Λ)) (F0 m 0 ls []) := by
  have hx := X.1
  have hb := X.2.1
  have hown := X.2.2.2.2.1
  have hts := X.2.2.2.2.2.1
  unfold F_X5_bend at h
  refine lv_aload_n hx hb dX5_bend_0 rfl (lv_at hl 0 rfl) ?_
  refine lv_iconst (v := (0 : Int32)) hx hb dX5_bend_1 (by decide) ?_
  refine rw_putI X hK hT hR hS 6 0 tyX5 k0 (by decide) (C := RX5) (T := TX5) (N := 24) rfl (by decide) in_X5_bend_6 tyX5_ok nmX5 (by decide +kernel) rfl rfl (by decide +kernel) dX5_bend_2 (fun σ_1 H locs e_1 hR hS => ?_)
  have h := of_nm e_1 h
  refine lv_aload_n hx hb dX5_bend_5 rfl (lv_at hl 0 rfl) ?_
  refine lv_iload_n hx hb dX5_bend_6 rfl (lv_at hl 1 rfl) ?_
  refine cl_z (rn_V (As := [.int l1]) (rest := []) X hK hR k0 rfl (by decide) hl.1 (c_X5_isPage l cA D Λ hT σ_1 a0 l1 k0) (cwV 1 hts gX5_bend_X5_isPage rfl rfl rfl (by decide +kernel) ⟨Nat.le_trans (by decide) hM.1, Nat.le_trans (by decide) hM.2⟩) rfl rfl (Nat.le_of_ble_eq_true rfl) dX5_bend_7) hS (fun hz_2 H locs hR hS => ?_)
  refine lv_topi (fun r_2 e_2 => ?_)
  have h := of_nm e_2 h
  have hz_2 : r_2 = 0 ∨ r_2 = 1 := by rw [e_2]; exact hz_2
  refine lv_if_ne (tgt := 15) hx hb dX5_bend_10 (by decide) (fun hc => ?_) (fun hc => ?_)
  · have h := of_neg hc h
    refine lv_aload_n hx hb dX5_bend_15 rfl (lv_at hl 0 rfl) ?_
    refine lv_iload_n hx hb dX5_bend_16 rfl (lv_at hl 1 rfl) ?_
    obtain ⟨q_3, hq_3, h⟩ := of_bind h
    refine cl_v (rn_V (As := [.int l1]) (rest := []) X hK hR k0 rfl (by decide) hl.1 (c_X5_changing l cA D Λ hT σ_1 a0 l1 k0 hq_3) (cwV 1 hts gX5_bend_X5_changing rfl rfl rfl (by decide +kernel) ⟨Nat.le_trans (by decide) hM.1, Nat.le_trans (by decide) hM.2⟩) rfl rfl (Nat.le_of_ble_eq_true rfl) dX5_bend_17) hS (fun H locs hR hS => ?_)
    refine lv_iconst (v := (-1 : Int32)) hx hb dX5_bend_20 (by decide) ?_
    refine lv_istore_n (lv' := [(2, .int (-1 : Int32)), (0, .ref a0), (1, .int l1)]) hx hb dX5_bend_21 rfl hl (by decide) rfl (fun ls hl => ?_)
    refine lv_iconst (v := (0 : Int32)) hx hb dX5_bend_22 (by decide) ?_
    refine lv_istore_n (lv' := [(3, .int (0 : Int32)), (2, .int (-1 : Int32)), (0, .ref a0), (1, .int l1)]) hx hb dX5_bend_23 rfl hl (by decide) rfl (fun ls hl => ?_)
    obtain ⟨e_8, hq_8, h⟩ := of_bind h
    refine w_lp_X5_bend_24 X hK hT hM a0 l1 k0 _ ((-1 : Int32), (0 : Int32)) hq_8 (fun H locs ls hR hS hl => ?_) H locs ls hR hS (lv_sub hl [2, 3, 1, 0] rfl)
    refine lv_aload_n hx hb dX5_bend_65 rfl (lv_at hl 0 rfl) ?_
    obtain ⟨q_9, hq_9, h⟩ := of_bind h
    refine cl_v (rn_V (As := []) (rest := []) X hK hR k0 rfl (by decide) hl.1 (c_X5_blank l cA D Λ hT q_3 a0 k0 hq_9) (cwV 0 hts gX5_bend_X5_blank rfl rfl rfl (by decide +kernel) ⟨Nat.le_trans (by decide) hM.1, Nat.le_trans (by decide) hM.2⟩) rfl rfl (Nat.le_of_ble_eq_true rfl) dX5_bend_66) hS (fun H locs hR hS => ?_)
    refine lv_iconst (v := (0 : Int32)) hx hb dX5_bend_69 (by decide) ?_
    refine lv_istore_n (lv' := [(3, .int (0 : Int32)), (0, .ref a0), (1, .int l1), (2, .int e_8)]) hx hb dX5_bend_70 rfl hl (by decide) rfl (fun ls hl => ?_)
    refine lv_iconst (v := (0 : Int32)) hx hb dX5_bend_71 (by decide) ?_
    refine lv_istore (lv' := [(4, .int (0 : Int32)), (3, .int (0 : Int32)), (0, .ref a0), (1, .int l1), (2, .int e_8)]) hx hb dX5_bend_72 hl (by decide) rfl (fun ls hl => ?_)
    obtain ⟨e_24, hq_24, h⟩ := of_bind h
    refine w_lp_X5_bend_74 X hK hT hM a0 l1 e_8 k0 _ ((0 : Int32), (0 : Int32), q_9) hq_24 (fun H locs ls hR hS hl => ?_) H locs ls hR hS (lv_sub hl [2, 3, 4, 1, 0] rfl)
    refine lv_aload_n hx hb dX5_bend_203 rfl (lv_at hl 0 rfl) ?_
    refine lv_iload_n hx hb dX5_bend_204 rfl (lv_at hl 1 rfl) ?_
    refine lv_aload_n hx hb dX5_bend_205 rfl (lv_at hl 0 rfl) ?_
    refine rw_getR X hK hT hR 6 2 7 k0 (by decide) (C := RX5) (T := TX5) (N := 24) rfl (by decide) in_X5_bend_6 (by decide +kernel) rfl dX5_bend_206 (fun kf_25 => ?_)
    refine lv_iload_n hx hb dX5_bend_209 rfl (lv_at hl 1 rfl) ?_
    obtain ⟨hg_26, h⟩ := of_guard h
    refine rw_iald X hK hR kf_25 hg_26 dX5_bend_210 ?_
    refine lv_aload_n hx hb dX5_bend_211 rfl (lv_at hl 0 rfl) ?_
    refine rw_getR X hK hT hR 6 3 7 k0 (by decide) (C := RX5) (T := TX5) (N := 24) rfl (by decide) in_X5_bend_6 (by decide +kernel) rfl dX5_bend_212 (fun kf_27 => ?_)
    refine lv_iload_n hx hb dX5_bend_215 rfl (lv_at hl 1 rfl) ?_
    obtain ⟨hg_28, h⟩ := of_guard h
    refine rw_iald X hK hR kf_27 hg_28 dX5_bend_216 ?_
    obtain ⟨q_29, hq_29, h⟩ := of_bind h
    refine cl_v (rn_V (As := [.int l1, .int (e_24.2.1 (rfA Λ a0 2) l1.toNatClampNeg), .int (e_24.2.1 (rfA Λ a0 3) l1.toNatClampNeg)]) (rest := []) X hK hR k0 rfl (by decide) hl.1 (c_X5_becomes l cA D Λ hT e_24.2 a0 l1 (e_24.2.1 (rfA Λ a0 2) l1.toNatClampNeg) (e_24.2.1 (rfA Λ a0 3) l1.toNatClampNeg) k0 hq_29) (cwV 3 hts gX5_bend_X5_becomes rfl rfl rfl (by decide +kernel) ⟨Nat.le_trans (by decide) hM.1, Nat.le_trans (by decide) hM.2⟩) rfl rfl (Nat.le_of_ble_eq_true rfl) dX5_bend_217) hS (fun H locs hR hS => ?_)
    refine lv_iload_n hx hb dX5_bend_220 rfl (lv_at hl 2 rfl) ?_
    exact rt_i X hR hS (Option.some.inj h) dX5_bend_221
  · have h := of_pos hc h
    refine lv_iconst (v := (-1 : Int32)) hx hb dX5_bend_13 (by decide) ?_
    exact rt_i X hR hS (Option.some.inj h) dX5_bend_14

set_option maxHeartbeats 4000000 in
set_option maxRecDepth 100000 in
theorem c_X5_bend (l : Launch) (cA : Nat → ClassId) (D : va_G) (Λ : Lay) (hT : TL Λ) (σ : Sto) (a0 : Nat) (l1 : Int32) (k0 : isK Λ a0 6) {res : Int32 × Sto} (h : F_X5_bend Λ σ a0 l1 = some res) : Met l yX5_bend wsX5_bend { frames := 2, cells := 0, slots := 0, locals := 47 } (va_Pc [.ref a0, .int l1] (PW cA D Λ σ)) (QI cA D Λ res) 0 0 (dm Λ) := by
  refine Met.ofW (cc := cX5_bend) (maxL := 8) (ret := (some .int)) (by decide) rfl ?_
  intro p e s m args below meth c s₁ B hml hv
  obtain ⟨rfl, hR, hK⟩ := hv
  have X : Cx cX5_bend (some .int) 8 RX5 wsX5_bend p s m _ meth c := ⟨B.exec, B.bytes, B.returns, hml, findClass_of_methodNamed B.named, atoms_spec (ws := wsX5_bend) B.pre, B.notSynchronized⟩
  have hS : va_S (dm Λ) s.heap s.heap [] := va_S.rf
  have hl := lv_entry ([.ref a0, .int l1]) (n := 8) (Nat.le_of_ble_eq_true rfl)
  rw [lg_entry_eq]
  generalize (lg_sl ([.ref a0, .int l1]) ++ List.replicate (8 - (lg_sl ([.ref a0, .int l1])).length) Slot.unset).toArray = ls at hl ⊢
  have hl : lv_has ls 8 [(0, .ref a0), (1, .int l1)] := hl
  exact w_X5_bend X hK hT ⟨Nat.le_refl _, Nat.le_refl _⟩ a0 l1 k0 h s.heap [] ls hR hS hl
set_option maxHeartbeats 4000000 in
set_option maxRecDepth 100000 in
theorem w_X5_areSpecks (X : Cx cX5_areSpecks (some .boolean) 2 RX5 wsX5_areSpecks p s m args meth c) (hK : Kn cA D s) (hT : TL Λ) (hM : 1 ≤ R.frames ∧ 25 ≤ R.locals) (l0 : Int32) (l1 : Int32) {res : Int32} (h : F_X5_areSpecks l0 l1 = res) (H : Heap) (locs : List Loc) (ls : Array Slot) (hR : Rep cA D Λ σ H) (hS : va_S (dm Λ) s.heap H locs) (hl : lv_has ls 2 [(0, .int l0), (1, .int l1)]) : W p l e R s m args below meth c H locs 0 0 (MQ below (QZ cA D Λ (res, σ)) args s 0 0 (dm Λ)) (F0 m 0 ls []) := by
  have hx := X.1
  have hb := X.2.1
  have hown := X.2.2.2.2.1
  have hts := X.2.2.2.2.2.1
  unfold F_X5_areSpecks at h
  refine lv_iload_n hx hb dX5_areSpecks_0 rfl (lv_at hl 0 rfl) ?_
  refine lv_i2l (v := (l0.toInt64)) hx hb dX5_areSpecks_1 rfl ?_
  refine lv_lconst (v := (1 : Int64)) hx hb dX5_areSpecks_2 (by decide) ?_
  refine lv_ldc2 (v := (100 : Int64)) hx hb hown (hts (.constantLong RX5 198 (100)) (by decide +kernel)) dX5_areSpecks_3 ?_
  refine cl_z (rn_S (As := [.long (l0.toInt64), .long (1 : Int64), .long (100 : Int64)]) (rest := []) X hK hR hl.1 (c_X5_in l cA D Λ hT σ (l0.toInt64) (1 : Int64) (100 : Int64)) (va_cwS 3 hts gX5_areSpecks_X5_in rfl rfl rfl (by decide +kernel) ⟨Nat.le_trans (by decide) hM.1, Nat.le_trans (by decide) hM.2⟩) rfl rfl (Nat.le_of_ble_eq_true rfl) dX5_areSpecks_6) hS (fun hz_1 H locs hR hS => ?_)
  refine lv_topi (fun r_1 e_1 => ?_)
  have h := of_nm e_1 h
  have hz_1 : r_1 = 0 ∨ r_1 = 1 := by rw [e_1]; exact hz_1
  refine lv_if_eq (tgt := 28) hx hb dX5_areSpecks_9 (by decide) (fun hc => ?_) (fun hc => ?_)
  · have h := of_pos hc h
    refine lv_iconst (v := (0 : Int32)) hx hb dX5_areSpecks_28 (by decide) ?_
    exact rt_z X hR hS (congrArg (fun z => (z, σ)) h) (Or.inl rfl) dX5_areSpecks_29
  · have h := of_neg hc h
    refine lv_iload_n hx hb dX5_areSpecks_12 rfl (lv_at hl 1 rfl) ?_
    refine lv_i2l (v := (l1.toInt64)) hx hb dX5_areSpecks_13 rfl ?_
    refine lv_lconst (v := (0 : Int64)) hx hb dX5_areSpecks_14 (by decide) ?_
    refine lv_ldc2 (v := (20 : Int64)) hx hb hown (hts (.constantLong RX5 200 (20)) (by decide +kernel)) dX5_areSpecks_15 ?_
    refine cl_z (rn_S (As := [.long (l1.toInt64), .long (0 : Int64), .long (20 : Int64)]) (rest := []) X hK hR hl.1 (c_X5_in l cA D Λ hT σ (l1.toInt64) (0 : Int64) (20 : Int64)) (va_cwS 3 hts gX5_areSpecks_X5_in rfl rfl rfl (by decide +kernel) ⟨Nat.le_trans (by decide) hM.1, Nat.le_trans (by decide) hM.2⟩) rfl rfl (Nat.le_of_ble_eq_true rfl) dX5_areSpecks_18) hS (fun hz_2 H locs hR hS => ?_)
    refine lv_topi (fun r_2 e_2 => ?_)
    have h := of_nm e_2 h
    have hz_2 : r_2 = 0 ∨ r_2 = 1 := by rw [e_2]; exact hz_2
    refine lv_if_eq (tgt := 28) hx hb dX5_areSpecks_21 (by decide) (fun hc => ?_) (fun hc => ?_)
    · have h := of_pos hc h
      refine lv_iconst (v := (0 : Int32)) hx hb dX5_areSpecks_28 (by decide) ?_
      exact rt_z X hR hS (congrArg (fun z => (z, σ)) h) (Or.inl rfl) dX5_areSpecks_29
    · have h := of_neg hc h
      refine lv_iconst (v := (1 : Int32)) hx hb dX5_areSpecks_24 (by decide) ?_
      refine lv_goto (tgt := 29) hx hb dX5_areSpecks_25 (by decide) ?_
      exact rt_z X hR hS (congrArg (fun z => (z, σ)) h) (Or.inr rfl) dX5_areSpecks_29

set_option maxHeartbeats 4000000 in
set_option maxRecDepth 100000 in
theorem c_X5_areSpecks (l : Launch) (cA : Nat → ClassId) (D : va_G) (Λ : Lay) (hT : TL Λ) (σ : Sto) (l0 : Int32) (l1 : Int32) : Met l yX5_areSpecks wsX5_areSpecks { frames := 1, cells := 0, slots := 0, locals := 25 } (va_Pc [.int l0, .int l1] (PW cA D Λ σ)) (QZ cA D Λ ((F_X5_areSpecks l0 l1), σ)) 0 0 (dm Λ) := by
  refine Met.ofW (cc := cX5_areSpecks) (maxL := 2) (ret := (some .boolean)) (by decide) rfl ?_
  intro p e s m args below meth c s₁ B hml hv
  obtain ⟨rfl, hR, hK⟩ := hv
  have X : Cx cX5_areSpecks (some .boolean) 2 RX5 wsX5_areSpecks p s m _ meth c := ⟨B.exec, B.bytes, B.returns, hml, findClass_of_methodNamed B.named, atoms_spec (ws := wsX5_areSpecks) B.pre, B.notSynchronized⟩
  have hS : va_S (dm Λ) s.heap s.heap [] := va_S.rf
  have hl := lv_entry ([.int l0, .int l1]) (n := 2) (Nat.le_of_ble_eq_true rfl)
  rw [lg_entry_eq]
  generalize (lg_sl ([.int l0, .int l1]) ++ List.replicate (2 - (lg_sl ([.int l0, .int l1])).length) Slot.unset).toArray = ls at hl ⊢
  have hl : lv_has ls 2 [(0, .int l0), (1, .int l1)] := hl
  exact w_X5_areSpecks X hK hT ⟨Nat.le_refl _, Nat.le_refl _⟩ l0 l1 rfl s.heap [] ls hR hS hl
theorem in_X5_isNear_6 : ∀ w ∈ u_ws RX5 TX5 24, w ∈ wsX5_isNear := by decide +kernel
set_option maxHeartbeats 4000000 in
set_option maxRecDepth 100000 in
theorem w_jp_X5_isNear_94 (X : Cx cX5_isNear (some .boolean) 9 RX5 wsX5_isNear p s m args meth c) (hK : Kn cA D s) (hT : TL Λ) (hM : 1 ≤ R.frames ∧ 21 ≤ R.locals) (a0 : Nat) (l1 : Int32) (l2 : Int32) (l3 : Int32) (l4 : Int32) (l5 : Int32) (l6 : Int32) (l7 : Int32)  (k0 : isK Λ a0 6) {r : Int32 ⊕ (Unit ⊕ Unit)} (h : jp_X5_isNear_94 Λ σ a0 l1 l2 l3 l4 l5 l6 l7 = some r) (kb : ∀ z : Int32, r = .inl z → ∀ (H : Heap) (locs : List Loc) (ls : Array Slot), Rep cA D Λ σ H → va_S (dm Λ) s.heap H locs → lv_has ls 9 [(0, .ref a0), (1, .int l1), (2, .int l2), (3, .int l3), (4, .int l4), (5, .int l5), (6, .int l6), (7, .int z)] → W p l e R s m args below meth c H locs 0 0 Q (F0 m 40 ls [])) (kx0 : ∀ z : Unit, r = .inr (.inl z) → ∀ (H : Heap) (locs : List Loc) (ls : Array Slot), Rep cA D Λ σ H → va_S (dm Λ) s.heap H locs → lv_has ls 9 [] → W p l e R s m args below meth c H locs 0 0 Q (F0 m 92 ls [])) (kx1 : ∀ z : Unit, r = .inr (.inr z) → ∀ (H : Heap) (locs : List Loc) (ls : Array Slot), Rep cA D Λ σ H → va_S (dm Λ) s.heap H locs → lv_has ls 9 [(0, .ref a0), (1, .int l1), (2, .int l2), (3, .int l3), (4, .int l4), (5, .int l5), (6, .int l6)] → W p l e R s m args below meth c H locs 0 0 Q (F0 m 100 ls [])) (H : Heap) (locs : List Loc) (ls : Array Slot) (hR : Rep cA D Λ σ H) (hS : va_S (dm Λ) s.heap H locs) (hl : lv_has ls 9 [(0, .ref a0), (1, .int l1), (2, .int l2), (3, .int l3), (4, .int l4), (5, .int l5), (6, .int l6), (7, .int l7)]) : W p l e R s m args below meth c H locs 0 0 Q (F0 m 94 ls []) := by
  have hx := X.1
  have hb := X.2.1
  have hown := X.2.2.2.2.1
  have hts := X.2.2.2.2.2.1
  unfold jp_X5_isNear_94 at h
  obtain ⟨v_12, e_v_12⟩ : ∃ y : Int32, y = (l7 + (1 : Int32)) := ⟨_, rfl⟩
  have h := of_nm e_v_12 h
  refine lv_iinc (v := v_12) (lv' := [(7, .int v_12), (0, .ref a0), (1, .int l1), (2, .int l2), (3, .int l3), (4, .int l4), (5, .int l5), (6, .int l6)]) hx hb dX5_isNear_94 hl (k := 7) rfl (by rw [e_v_12]; rfl) (by decide) rfl (fun ls hl => ?_)
  refine lv_goto (tgt := 40) hx hb dX5_isNear_97 (by decide) ?_
  exact kb v_12 (Option.some.inj h).symm H locs ls hR hS (lv_sub hl [1, 2, 3, 4, 5, 6, 7, 0] rfl)

set_option maxHeartbeats 4000000 in
set_option maxRecDepth 100000 in
theorem w_bd_X5_isNear_40 (X : Cx cX5_isNear (some .boolean) 9 RX5 wsX5_isNear p s m args meth c) (hK : Kn cA D s) (hT : TL Λ) (hM : 1 ≤ R.frames ∧ 21 ≤ R.locals) (a0 : Nat) (l1 : Int32) (l2 : Int32) (l3 : Int32) (l4 : Int32) (l5 : Int32) (l6 : Int32) (s9 : Int32) (k0 : isK Λ a0 6) {r : Int32 ⊕ (Unit ⊕ Unit)} (h : bd_X5_isNear_40 Λ σ a0 l1 l2 l3 l4 l5 l6 s9 = some r) (kb : ∀ z : Int32, r = .inl z → ∀ (H : Heap) (locs : List Loc) (ls : Array Slot), Rep cA D Λ σ H → va_S (dm Λ) s.heap H locs → lv_has ls 9 [(0, .ref a0), (1, .int l1), (2, .int l2), (3, .int l3), (4, .int l4), (5, .int l5), (6, .int l6), (7, .int z)] → W p l e R s m args below meth c H locs 0 0 Q (F0 m 40 ls [])) (kx0 : ∀ z : Unit, r = .inr (.inl z) → ∀ (H : Heap) (locs : List Loc) (ls : Array Slot), Rep cA D Λ σ H → va_S (dm Λ) s.heap H locs → lv_has ls 9 [] → W p l e R s m args below meth c H locs 0 0 Q (F0 m 92 ls [])) (kx1 : ∀ z : Unit, r = .inr (.inr z) → ∀ (H : Heap) (locs : List Loc) (ls : Array Slot), Rep cA D Λ σ H → va_S (dm Λ) s.heap H locs → lv_has ls 9 [(0, .ref a0), (1, .int l1), (2, .int l2), (3, .int l3), (4, .int l4), (5, .int l5), (6, .int l6)] → W p l e R s m args below meth c H locs 0 0 Q (F0 m 100 ls [])) (H : Heap) (locs : List Loc) (ls : Array Slot) (hR : Rep cA D Λ σ H) (hS : va_S (dm Λ) s.heap H locs) (hl : lv_has ls 9 [(0, .ref a0), (1, .int l1), (2, .int l2), (3, .int l3), (4, .int l4), (5, .int l5), (6, .int l6), (7, .int s9)]) : W p l e R s m args below meth c H locs 0 0 Q (F0 m 40 ls []) := by
  have hx := X.1
  have hb := X.2.1
  have hown := X.2.2.2.2.1
  have hts := X.2.2.2.2.2.1
  unfold bd_X5_isNear_40 at h
  refine lv_iload hx hb dX5_isNear_40 (lv_at hl 7 rfl) ?_
  refine lv_aload_n hx hb dX5_isNear_42 rfl (lv_at hl 0 rfl) ?_
  refine rw_getR X hK hT hR 6 2 7 k0 (by decide) (C := RX5) (T := TX5) (N := 24) rfl (by decide) in_X5_isNear_6 (by decide +kernel) rfl dX5_isNear_43 (fun kf_6 => ?_)
  refine lv_iload_n hx hb dX5_isNear_46 rfl (lv_at hl 1 rfl) ?_
  obtain ⟨hg_7, h⟩ := of_guard h
  refine rw_iald X hK hR kf_6 hg_7 dX5_isNear_47 ?_
  refine lv_iconst (v := (1 : Int32)) hx hb dX5_isNear_48 (by decide) ?_
  refine lv_isub hx hb dX5_isNear_49 ?_
  refine lv_iload_n hx hb dX5_isNear_50 rfl (lv_at hl 2 rfl) ?_
  refine lv_iload hx hb dX5_isNear_51 (lv_at hl 5 rfl) ?_
  refine lv_iadd hx hb dX5_isNear_53 ?_
  refine va_mmin hx hb (X.2.2.2.1.trans hl.1.symm) hown (hts (.methodLink RX5 91 Lib.Math.min.name) (by decide +kernel)) (hts (.static Lib.Math.min.name) (by decide +kernel)) (hts (.initialized "java/lang/Math") (by decide +kernel)) (hts (.code Lib.Math.min.name Lib.Math.min.code 2 (some .int)) (by decide +kernel)) (Nat.le_trans (by decide) hM.1) (Nat.le_trans (Nat.le_of_ble_eq_true rfl) hM.2) (Nat.zero_le _) (Nat.zero_le _) dX5_isNear_54 ?_
  refine lv_topi (fun r_8 e_8 => ?_)
  have h := of_nm e_8 h
  refine lv_icmp_gt (tgt := 100) hx hb dX5_isNear_57 (by decide) (fun hc => ?_) (fun hc => ?_)
  · have h := of_pos hc h
    exact kx1 () (Option.some.inj h).symm H locs ls hR hS (lv_sub hl [0, 1, 2, 3, 4, 5, 6] rfl)
  · have h := of_neg hc h
    refine lv_aload_n hx hb dX5_isNear_60 rfl (lv_at hl 0 rfl) ?_
    refine rw_getR X hK hT hR 6 13 7 k0 (by decide) (C := RX5) (T := TX5) (N := 24) rfl (by decide) in_X5_isNear_6 (by decide +kernel) rfl dX5_isNear_61 (fun kf_9 => ?_)
    refine lv_iload hx hb dX5_isNear_64 (lv_at hl 6 rfl) ?_
    refine lv_bipush (v := (64 : Int32)) hx hb dX5_isNear_66 (by decide) ?_
    refine lv_imul hx hb dX5_isNear_68 ?_
    refine lv_iload hx hb dX5_isNear_69 (lv_at hl 7 rfl) ?_
    refine lv_iadd hx hb dX5_isNear_71 ?_
    obtain ⟨hg_10, h⟩ := of_guard h
    refine rw_iald X hK hR kf_9 hg_10 dX5_isNear_72 ?_
    refine lv_topi (fun v_11 e_v_11 => ?_)
    have h := of_nm e_v_11 h
    refine lv_istore (lv' := [(8, .int v_11), (0, .ref a0), (1, .int l1), (2, .int l2), (3, .int l3), (4, .int l4), (5, .int l5), (6, .int l6), (7, .int s9)]) hx hb dX5_isNear_73 hl (by decide) rfl (fun ls hl => ?_)
    refine lv_iload hx hb dX5_isNear_75 (lv_at hl 0 rfl) ?_
    refine lv_if_le (tgt := 94) hx hb dX5_isNear_77 (by decide) (fun hc => ?_) (fun hc => ?_)
    · have h := of_pos hc h
      exact w_jp_X5_isNear_94 X hK hT hM a0 l1 l2 l3 l4 l5 l6 s9 k0 h kb kx0 kx1 H locs ls hR hS (lv_sub hl [1, 2, 3, 4, 5, 6, 7, 8] rfl)
    · have h := of_neg hc h
      refine lv_aload_n hx hb dX5_isNear_80 rfl (lv_at hl 1 rfl) ?_
      refine rw_getR X hK hT hR 6 14 7 k0 (by decide) (C := RX5) (T := TX5) (N := 24) rfl (by decide) in_X5_isNear_6 (by decide +kernel) rfl dX5_isNear_81 (fun kf_13 => ?_)
      refine lv_iload hx hb dX5_isNear_84 (lv_at hl 0 rfl) ?_
      obtain ⟨hg_14, h⟩ := of_guard h
      refine rw_iald X hK hR kf_13 hg_14 dX5_isNear_86 ?_
      refine lv_iload hx hb dX5_isNear_87 (lv_at hl 5 rfl) ?_
      refine lv_icmp_le (tgt := 94) hx hb dX5_isNear_89 (by decide) (fun hc => ?_) (fun hc => ?_)
      · have h := of_pos hc h
        exact w_jp_X5_isNear_94 X hK hT hM a0 l1 l2 l3 l4 l5 l6 s9 k0 h kb kx0 kx1 H locs ls hR hS (lv_sub hl [1, 2, 3, 4, 5, 6, 7, 8] rfl)
      · have h := of_neg hc h
        exact kx0 () (Option.some.inj h).symm H locs ls hR hS (lv_sub hl [] rfl)

set_option maxHeartbeats 4000000 in
set_option maxRecDepth 100000 in
theorem w_lp_X5_isNear_40 (X : Cx cX5_isNear (some .boolean) 9 RX5 wsX5_isNear p s m args meth c) (hK : Kn cA D s) (hT : TL Λ) (hM : 1 ≤ R.frames ∧ 21 ≤ R.locals) (a0 : Nat) (l1 : Int32) (l2 : Int32) (l3 : Int32) (l4 : Int32) (l5 : Int32) (l6 : Int32) (k0 : isK Λ a0 6) {e9 : (Unit ⊕ Unit)} : ∀ (n9 : Nat) (s9 : Int32), iter (bd_X5_isNear_40 Λ σ a0 l1 l2 l3 l4 l5 l6) n9 s9 = some e9 → ∀ (kx0 : ∀ z : Unit, e9 = .inl z → ∀ (H : Heap) (locs : List Loc) (ls : Array Slot), Rep cA D Λ σ H → va_S (dm Λ) s.heap H locs → lv_has ls 9 [] → W p l e R s m args below meth c H locs 0 0 Q (F0 m 92 ls [])), ∀ (kx1 : ∀ z : Unit, e9 = .inr z → ∀ (H : Heap) (locs : List Loc) (ls : Array Slot), Rep cA D Λ σ H → va_S (dm Λ) s.heap H locs → lv_has ls 9 [(0, .ref a0), (1, .int l1), (2, .int l2), (3, .int l3), (4, .int l4), (5, .int l5), (6, .int l6)] → W p l e R s m args below meth c H locs 0 0 Q (F0 m 100 ls [])), ∀ (H : Heap) (locs : List Loc) (ls : Array Slot), Rep cA D Λ σ H → va_S (dm Λ) s.heap H locs → lv_has ls 9 [(0, .ref a0), (1, .int l1), (2, .int l2), (3, .int l3), (4, .int l4), (5, .int l5), (6, .int l6), (7, .int s9)] → W p l e R s m args below meth c H locs 0 0 Q (F0 m 40 ls []) := by
  intro n9
  induction n9 with
  | zero => intro s9 h; cases h
  | succ n9 ih =>
    intro s9 h kx0 kx1 H locs ls hR hS hl
    obtain ⟨r, hr, h⟩ := of_iter h
    refine w_bd_X5_isNear_40 X hK hT hM a0 l1 l2 l3 l4 l5 l6 s9 k0 hr (fun z ez H locs ls hR hS hl => ?_) (fun z ez H locs ls hR hS hl => ?_) (fun z ez H locs ls hR hS hl => ?_) H locs ls hR hS hl
    · exact ih z (of_itl ez h) kx0 kx1 H locs ls hR hS hl
    · exact kx0 z (of_itr ez h).symm H locs ls hR hS hl
    · exact kx1 z (of_itr ez h).symm H locs ls hR hS hl

set_option maxHeartbeats 4000000 in
set_option maxRecDepth 100000 in
theorem w_bd_X5_isNear_10 (X : Cx cX5_isNear (some .boolean) 9 RX5 wsX5_isNear p s m args meth c) (hK : Kn cA D s) (hT : TL Λ) (hM : 1 ≤ R.frames ∧ 21 ≤ R.locals) (a0 : Nat) (l1 : Int32) (l2 : Int32) (l3 : Int32) (l4 : Int32) (l5 : Int32) (s9 : Int32) (k0 : isK Λ a0 6) {r : Int32 ⊕ (Unit ⊕ Unit)} (h : bd_X5_isNear_10 Λ σ a0 l1 l2 l3 l4 l5 s9 = some r) (kb : ∀ z : Int32, r = .inl z → ∀ (H : Heap) (locs : List Loc) (ls : Array Slot), Rep cA D Λ σ H → va_S (dm Λ) s.heap H locs → lv_has ls 9 [(0, .ref a0), (1, .int l1), (2, .int l2), (3, .int l3), (4, .int l4), (5, .int l5), (6, .int z)] → W p l e R s m args below meth c H locs 0 0 Q (F0 m 10 ls [])) (kx0 : ∀ z : Unit, r = .inr (.inl z) → ∀ (H : Heap) (locs : List Loc) (ls : Array Slot), Rep cA D Λ σ H → va_S (dm Λ) s.heap H locs → lv_has ls 9 [] → W p l e R s m args below meth c H locs 0 0 Q (F0 m 92 ls [])) (kx1 : ∀ z : Unit, r = .inr (.inr z) → ∀ (H : Heap) (locs : List Loc) (ls : Array Slot), Rep cA D Λ σ H → va_S (dm Λ) s.heap H locs → lv_has ls 9 [] → W p l e R s m args below meth c H locs 0 0 Q (F0 m 106 ls [])) (H : Heap) (locs : List Loc) (ls : Array Slot) (hR : Rep cA D Λ σ H) (hS : va_S (dm Λ) s.heap H locs) (hl : lv_has ls 9 [(0, .ref a0), (1, .int l1), (2, .int l2), (3, .int l3), (4, .int l4), (5, .int l5), (6, .int s9)]) : W p l e R s m args below meth c H locs 0 0 Q (F0 m 10 ls []) := by
  have hx := X.1
  have hb := X.2.1
  have hown := X.2.2.2.2.1
  have hts := X.2.2.2.2.2.1
  unfold bd_X5_isNear_10 at h
  refine lv_iload hx hb dX5_isNear_10 (lv_at hl 6 rfl) ?_
  refine lv_aload_n hx hb dX5_isNear_12 rfl (lv_at hl 0 rfl) ?_
  refine rw_getR X hK hT hR 6 3 7 k0 (by decide) (C := RX5) (T := TX5) (N := 24) rfl (by decide) in_X5_isNear_6 (by decide +kernel) rfl dX5_isNear_13 (fun kf_2 => ?_)
  refine lv_iload_n hx hb dX5_isNear_16 rfl (lv_at hl 1 rfl) ?_
  obtain ⟨hg_3, h⟩ := of_guard h
  refine rw_iald X hK hR kf_2 hg_3 dX5_isNear_17 ?_
  refine lv_iconst (v := (1 : Int32)) hx hb dX5_isNear_18 (by decide) ?_
  refine lv_isub hx hb dX5_isNear_19 ?_
  refine lv_iload_n hx hb dX5_isNear_20 rfl (lv_at hl 3 rfl) ?_
  refine lv_iload hx hb dX5_isNear_21 (lv_at hl 5 rfl) ?_
  refine lv_iadd hx hb dX5_isNear_23 ?_
  refine va_mmin hx hb (X.2.2.2.1.trans hl.1.symm) hown (hts (.methodLink RX5 91 Lib.Math.min.name) (by decide +kernel)) (hts (.static Lib.Math.min.name) (by decide +kernel)) (hts (.initialized "java/lang/Math") (by decide +kernel)) (hts (.code Lib.Math.min.name Lib.Math.min.code 2 (some .int)) (by decide +kernel)) (Nat.le_trans (by decide) hM.1) (Nat.le_trans (Nat.le_of_ble_eq_true rfl) hM.2) (Nat.zero_le _) (Nat.zero_le _) dX5_isNear_24 ?_
  refine lv_topi (fun r_4 e_4 => ?_)
  have h := of_nm e_4 h
  refine lv_icmp_gt (tgt := 106) hx hb dX5_isNear_27 (by decide) (fun hc => ?_) (fun hc => ?_)
  · have h := of_pos hc h
    exact kx1 () (Option.some.inj h).symm H locs ls hR hS (lv_sub hl [] rfl)
  · have h := of_neg hc h
    refine lv_iconst (v := (0 : Int32)) hx hb dX5_isNear_30 (by decide) ?_
    refine lv_iload_n hx hb dX5_isNear_31 rfl (lv_at hl 2 rfl) ?_
    refine lv_iload hx hb dX5_isNear_32 (lv_at hl 5 rfl) ?_
    refine lv_isub hx hb dX5_isNear_34 ?_
    refine va_mmax hx hb (X.2.2.2.1.trans hl.1.symm) hown (hts (.methodLink RX5 146 Lib.Math.max.name) (by decide +kernel)) (hts (.static Lib.Math.max.name) (by decide +kernel)) (hts (.initialized "java/lang/Math") (by decide +kernel)) (hts (.code Lib.Math.max.name Lib.Math.max.code 2 (some .int)) (by decide +kernel)) (Nat.le_trans (by decide) hM.1) (Nat.le_trans (Nat.le_of_ble_eq_true rfl) hM.2) (Nat.zero_le _) (Nat.zero_le _) dX5_isNear_35 ?_
    refine lv_topi (fun r_5 e_5 => ?_)
    have h := of_nm e_5 h
    refine lv_istore (lv' := [(7, .int r_5), (0, .ref a0), (1, .int l1), (2, .int l2), (3, .int l3), (4, .int l4), (5, .int l5), (6, .int s9)]) hx hb dX5_isNear_38 hl (by decide) rfl (fun ls hl => ?_)
    obtain ⟨e_15, hq_15, h⟩ := of_bind h
    refine w_lp_X5_isNear_40 X hK hT hM a0 l1 l2 l3 l4 l5 s9 k0 _ r_5 hq_15 (fun z_15 ez H locs ls hR hS hl => ?_) (fun z_15 ez H locs ls hR hS hl => ?_) H locs ls hR hS (lv_sub hl [1, 2, 3, 4, 5, 6, 7, 0] rfl)
    · have h := of_scl ez h
      exact kx0 () (Option.some.inj h).symm H locs ls hR hS (lv_sub hl [] rfl)
    · have h := of_scr ez h
      obtain ⟨v_16, e_v_16⟩ : ∃ y : Int32, y = (s9 + (1 : Int32)) := ⟨_, rfl⟩
      have h := of_nm e_v_16 h
      refine lv_iinc (v := v_16) (lv' := [(6, .int v_16), (0, .ref a0), (1, .int l1), (2, .int l2), (3, .int l3), (4, .int l4), (5, .int l5)]) hx hb dX5_isNear_100 hl (k := 6) rfl (by rw [e_v_16]; rfl) (by decide) rfl (fun ls hl => ?_)
      refine lv_goto (tgt := 10) hx hb dX5_isNear_103 (by decide) ?_
      exact kb v_16 (Option.some.inj h).symm H locs ls hR hS (lv_sub hl [1, 2, 3, 4, 5, 6, 0] rfl)

set_option maxHeartbeats 4000000 in
set_option maxRecDepth 100000 in
theorem w_lp_X5_isNear_10 (X : Cx cX5_isNear (some .boolean) 9 RX5 wsX5_isNear p s m args meth c) (hK : Kn cA D s) (hT : TL Λ) (hM : 1 ≤ R.frames ∧ 21 ≤ R.locals) (a0 : Nat) (l1 : Int32) (l2 : Int32) (l3 : Int32) (l4 : Int32) (l5 : Int32) (k0 : isK Λ a0 6) {e9 : (Unit ⊕ Unit)} : ∀ (n9 : Nat) (s9 : Int32), iter (bd_X5_isNear_10 Λ σ a0 l1 l2 l3 l4 l5) n9 s9 = some e9 → ∀ (kx0 : ∀ z : Unit, e9 = .inl z → ∀ (H : Heap) (locs : List Loc) (ls : Array Slot), Rep cA D Λ σ H → va_S (dm Λ) s.heap H locs → lv_has ls 9 [] → W p l e R s m args below meth c H locs 0 0 Q (F0 m 92 ls [])), ∀ (kx1 : ∀ z : Unit, e9 = .inr z → ∀ (H : Heap) (locs : List Loc) (ls : Array Slot), Rep cA D Λ σ H → va_S (dm Λ) s.heap H locs → lv_has ls 9 [] → W p l e R s m args below meth c H locs 0 0 Q (F0 m 106 ls [])), ∀ (H : Heap) (locs : List Loc) (ls : Array Slot), Rep cA D Λ σ H → va_S (dm Λ) s.heap H locs → lv_has ls 9 [(0, .ref a0), (1, .int l1), (2, .int l2), (3, .int l3), (4, .int l4), (5, .int l5), (6, .int s9)] → W p l e R s m args below meth c H locs 0 0 Q (F0 m 10 ls []) := by
  intro n9
  induction n9 with
  | zero => intro s9 h; cases h
  | succ n9 ih =>
    intro s9 h kx0 kx1 H locs ls hR hS hl
    obtain ⟨r, hr, h⟩ := of_iter h
    refine w_bd_X5_isNear_10 X hK hT hM a0 l1 l2 l3 l4 l5 s9 k0 hr (fun z ez H locs ls hR hS hl => ?_) (fun z ez H locs ls hR hS hl => ?_) (fun z ez H locs ls hR hS hl => ?_) H locs ls hR hS hl
    · exact ih z (of_itl ez h) kx0 kx1 H locs ls hR hS hl
    · exact kx0 z (of_itr ez h).symm H locs ls hR hS hl
    · exact kx1 z (of_itr ez h).symm H locs ls hR hS hl

set_option maxHeartbeats 4000000 in
set_option maxRecDepth 100000 in
theorem w_X5_isNear (X : Cx cX5_isNear (some .boolean) 9 RX5 wsX5_isNear p s m args meth c) (hK : Kn cA D s) (hT : TL Λ) (hM : 1 ≤ R.frames ∧ 21 ≤ R.locals) (a0 : Nat) (l1 : Int32) (l2 : Int32) (l3 : Int32) (l4 : Int32) (l5 : Int32) (k0 : isK Λ a0 6) {res : Int32} (h : F_X5_isNear Λ σ a0 l1 l2 l3 l4 l5 = some res) (H : Heap) (locs : List Loc) (ls : Array Slot) (hR : Rep cA D Λ σ H) (hS : va_S (dm Λ) s.heap H locs) (hl : lv_has ls 9 [(0, .ref a0), (1, .int l1), (2, .int l2), (3, .int l3), (4, .int l4), (5, .int l5)]) : W p l e R s m args below meth c H locs 0 0 (MQ below (QZ cA D Λ (res, σ)) args s 0 0 (dm Λ)) (F0 m 0 ls []) := by
  have hx := X.1
  have hb := X.2.1
  have hown := X.2.2.2.2.1
  have hts := X.2.2.2.2.2.1
  unfold F_X5_isNear at h
  refine lv_iconst (v := (0 : Int32)) hx hb dX5_isNear_0 (by decide) ?_
  refine lv_iload_n hx hb dX5_isNear_1 rfl (lv_at hl 3 rfl) ?_
  refine lv_iload hx hb dX5_isNear_2 (lv_at hl 5 rfl) ?_
  refine lv_isub hx hb dX5_isNear_4 ?_
  refine va_mmax hx hb (X.2.2.2.1.trans hl.1.symm) hown (hts (.methodLink RX5 146 Lib.Math.max.name) (by decide +kernel)) (hts (.static Lib.Math.max.name) (by decide +kernel)) (hts (.initialized "java/lang/Math") (by decide +kernel)) (hts (.code Lib.Math.max.name Lib.Math.max.code 2 (some .int)) (by decide +kernel)) (Nat.le_trans (by decide) hM.1) (Nat.le_trans (Nat.le_of_ble_eq_true rfl) hM.2) (Nat.zero_le _) (Nat.zero_le _) dX5_isNear_5 ?_
  refine lv_topi (fun r_1 e_1 => ?_)
  have h := of_nm e_1 h
  refine lv_istore (lv' := [(6, .int r_1), (0, .ref a0), (1, .int l1), (2, .int l2), (3, .int l3), (4, .int l4), (5, .int l5)]) hx hb dX5_isNear_8 hl (by decide) rfl (fun ls hl => ?_)
  obtain ⟨e_17, hq_17, h⟩ := of_bind h
  refine w_lp_X5_isNear_10 X hK hT hM a0 l1 l2 l3 l4 l5 k0 _ r_1 hq_17 (fun z_17 ez H locs ls hR hS hl => ?_) (fun z_17 ez H locs ls hR hS hl => ?_) H locs ls hR hS (lv_sub hl [1, 2, 3, 4, 5, 6, 0] rfl)
  · have h := of_scl ez h
    refine lv_iconst (v := (1 : Int32)) hx hb dX5_isNear_92 (by decide) ?_
    exact rt_z X hR hS (congrArg (fun z => (z, σ)) (Option.some.inj h)) (Or.inr rfl) dX5_isNear_93
  · have h := of_scr ez h
    refine lv_iconst (v := (0 : Int32)) hx hb dX5_isNear_106 (by decide) ?_
    exact rt_z X hR hS (congrArg (fun z => (z, σ)) (Option.some.inj h)) (Or.inl rfl) dX5_isNear_107

set_option maxHeartbeats 4000000 in
set_option maxRecDepth 100000 in
theorem c_X5_isNear (l : Launch) (cA : Nat → ClassId) (D : va_G) (Λ : Lay) (hT : TL Λ) (σ : Sto) (a0 : Nat) (l1 : Int32) (l2 : Int32) (l3 : Int32) (l4 : Int32) (l5 : Int32) (k0 : isK Λ a0 6) {res : Int32} (h : F_X5_isNear Λ σ a0 l1 l2 l3 l4 l5 = some res) : Met l yX5_isNear wsX5_isNear { frames := 1, cells := 0, slots := 0, locals := 21 } (va_Pc [.ref a0, .int l1, .int l2, .int l3, .int l4, .int l5] (PW cA D Λ σ)) (QZ cA D Λ (res, σ)) 0 0 (dm Λ) := by
  refine Met.ofW (cc := cX5_isNear) (maxL := 9) (ret := (some .boolean)) (by decide) rfl ?_
  intro p e s m args below meth c s₁ B hml hv
  obtain ⟨rfl, hR, hK⟩ := hv
  have X : Cx cX5_isNear (some .boolean) 9 RX5 wsX5_isNear p s m _ meth c := ⟨B.exec, B.bytes, B.returns, hml, findClass_of_methodNamed B.named, atoms_spec (ws := wsX5_isNear) B.pre, B.notSynchronized⟩
  have hS : va_S (dm Λ) s.heap s.heap [] := va_S.rf
  have hl := lv_entry ([.ref a0, .int l1, .int l2, .int l3, .int l4, .int l5]) (n := 9) (Nat.le_of_ble_eq_true rfl)
  rw [lg_entry_eq]
  generalize (lg_sl ([.ref a0, .int l1, .int l2, .int l3, .int l4, .int l5]) ++ List.replicate (9 - (lg_sl ([.ref a0, .int l1, .int l2, .int l3, .int l4, .int l5])).length) Slot.unset).toArray = ls at hl ⊢
  have hl : lv_has ls 9 [(0, .ref a0), (1, .int l1), (2, .int l2), (3, .int l3), (4, .int l4), (5, .int l5)] := hl
  exact w_X5_isNear X hK hT ⟨Nat.le_refl _, Nat.le_refl _⟩ a0 l1 l2 l3 l4 l5 k0 h s.heap [] ls hR hS hl
theorem in_X5_findsSpecks_6 : ∀ w ∈ u_ws RX5 TX5 24, w ∈ wsX5_findsSpecks := by decide +kernel
set_option maxHeartbeats 4000000 in
set_option maxRecDepth 100000 in
theorem w_jp_X5_findsSpecks_39 (X : Cx cX5_findsSpecks (some .int) 7 RX5 wsX5_findsSpecks p s m args meth c) (hK : Kn cA D s) (hT : TL Λ) (hM : 5 ≤ R.frames ∧ 122 ≤ R.locals) (a0 : Nat) (l1 : Int32) (l2 : Int32) (l3 : Int32) (l4 : Int32) (ls0 : Int32) (ls1 : Int32) (as2 : Nat) (k0 : isK Λ a0 6) (ks2 : isK Λ as2 9) {r : (Int32 × Sto) ⊕ Sto} (h : jp_X5_findsSpecks_39 Λ σ a0 l1 l2 l3 l4 ls0 ls1 as2 = some r) (kb : ∀ z : (Int32 × Sto), r = .inl z → ∀ (H : Heap) (locs : List Loc) (ls : Array Slot), Rep cA D Λ z.2 H → va_S (dm Λ) s.heap H locs → lv_has ls 7 [(0, .ref a0), (1, .int l1), (2, .int l2), (3, .int l3), (4, .int z.1)] → W p l e R s m args below meth c H locs 0 0 Q (F0 m 8 ls [])) (kx0 : ∀ z : Sto, r = .inr z → ∀ (H : Heap) (locs : List Loc) (ls : Array Slot), Rep cA D Λ z H → va_S (dm Λ) s.heap H locs → lv_has ls 7 [(0, .ref a0), (1, .int l1), (2, .int l2), (3, .int l3)] → W p l e R s m args below meth c H locs 0 0 Q (F0 m 46 ls [])) (H : Heap) (locs : List Loc) (ls : Array Slot) (hR : Rep cA D Λ σ H) (hS : va_S (dm Λ) s.heap H locs) (hl : lv_has ls 7 [(0, .ref a0), (1, .int l1), (2, .int l2), (3, .int l3), (4, .int l4)]) : W p l e R s m args below meth c H locs 0 0 Q (F0 m 39 ls [.int ls0, .int ls1, .ref as2]) := by
  have hx := X.1
  have hb := X.2.1
  have hown := X.2.2.2.2.1
  have hts := X.2.2.2.2.2.1
  unfold jp_X5_findsSpecks_39 at h
  obtain ⟨hg_5, h⟩ := of_guard h
  refine rw_zast X hK hT hR hS ks2 hg_5 dX5_findsSpecks_39 (fun σ_5 H locs e_5 hR hS => ?_)
  have h := of_nm e_5 h
  obtain ⟨v_6, e_v_6⟩ : ∃ y : Int32, y = (l4 + (1 : Int32)) := ⟨_, rfl⟩
  have h := of_nm e_v_6 h
  refine lv_iinc (v := v_6) (lv' := [(4, .int v_6), (0, .ref a0), (1, .int l1), (2, .int l2), (3, .int l3)]) hx hb dX5_findsSpecks_40 hl (k := 4) rfl (by rw [e_v_6]; rfl) (by decide) rfl (fun ls hl => ?_)
  refine lv_goto (tgt := 8) hx hb dX5_findsSpecks_43 (by decide) ?_
  exact kb (v_6, σ_5) (Option.some.inj h).symm H locs ls hR hS (lv_sub hl [1, 2, 3, 4, 0] rfl)

set_option maxHeartbeats 4000000 in
set_option maxRecDepth 100000 in
theorem w_bd_X5_findsSpecks_8 (X : Cx cX5_findsSpecks (some .int) 7 RX5 wsX5_findsSpecks p s m args meth c) (hK : Kn cA D s) (hT : TL Λ) (hM : 5 ≤ R.frames ∧ 122 ≤ R.locals) (a0 : Nat) (l1 : Int32) (l2 : Int32) (l3 : Int32) (s9 : (Int32 × Sto)) (k0 : isK Λ a0 6) {r : (Int32 × Sto) ⊕ Sto} (h : bd_X5_findsSpecks_8 Λ a0 l1 l2 l3 s9 = some r) (kb : ∀ z : (Int32 × Sto), r = .inl z → ∀ (H : Heap) (locs : List Loc) (ls : Array Slot), Rep cA D Λ z.2 H → va_S (dm Λ) s.heap H locs → lv_has ls 7 [(0, .ref a0), (1, .int l1), (2, .int l2), (3, .int l3), (4, .int z.1)] → W p l e R s m args below meth c H locs 0 0 Q (F0 m 8 ls [])) (kx0 : ∀ z : Sto, r = .inr z → ∀ (H : Heap) (locs : List Loc) (ls : Array Slot), Rep cA D Λ z H → va_S (dm Λ) s.heap H locs → lv_has ls 7 [(0, .ref a0), (1, .int l1), (2, .int l2), (3, .int l3)] → W p l e R s m args below meth c H locs 0 0 Q (F0 m 46 ls [])) (H : Heap) (locs : List Loc) (ls : Array Slot) (hR : Rep cA D Λ s9.2 H) (hS : va_S (dm Λ) s.heap H locs) (hl : lv_has ls 7 [(0, .ref a0), (1, .int l1), (2, .int l2), (3, .int l3), (4, .int s9.1)]) : W p l e R s m args below meth c H locs 0 0 Q (F0 m 8 ls []) := by
  have hx := X.1
  have hb := X.2.1
  have hown := X.2.2.2.2.1
  have hts := X.2.2.2.2.2.1
  unfold bd_X5_findsSpecks_8 at h
  refine lv_iload hx hb dX5_findsSpecks_8 (lv_at hl 4 rfl) ?_
  refine lv_aload_n hx hb dX5_findsSpecks_10 rfl (lv_at hl 0 rfl) ?_
  refine rw_getI X hK hR 6 16 k0 (by decide) (C := RX5) (T := TX5) (N := 24) rfl (by decide) in_X5_findsSpecks_6 (by decide +kernel) rfl dX5_findsSpecks_11 ?_
  refine lv_icmp_gt (tgt := 46) hx hb dX5_findsSpecks_14 (by decide) (fun hc => ?_) (fun hc => ?_)
  · have h := of_pos hc h
    exact kx0 s9.2 (Option.some.inj h).symm H locs ls hR hS (lv_sub hl [0, 1, 2, 3] rfl)
  · have h := of_neg hc h
    refine lv_aload_n hx hb dX5_findsSpecks_17 rfl (lv_at hl 0 rfl) ?_
    refine rw_getR X hK hT hR 6 18 9 k0 (by decide) (C := RX5) (T := TX5) (N := 24) rfl (by decide) in_X5_findsSpecks_6 (by decide +kernel) rfl dX5_findsSpecks_18 (fun kf_2 => ?_)
    refine lv_iload hx hb dX5_findsSpecks_21 (lv_at hl 4 rfl) ?_
    refine lv_aload_n hx hb dX5_findsSpecks_23 rfl (lv_at hl 0 rfl) ?_
    refine rw_getR X hK hT hR 6 14 7 k0 (by decide) (C := RX5) (T := TX5) (N := 24) rfl (by decide) in_X5_findsSpecks_6 (by decide +kernel) rfl dX5_findsSpecks_24 (fun kf_3 => ?_)
    refine lv_iload hx hb dX5_findsSpecks_27 (lv_at hl 4 rfl) ?_
    obtain ⟨hg_4, h⟩ := of_guard h
    refine rw_iald X hK hR kf_3 hg_4 dX5_findsSpecks_29 ?_
    refine lv_iload_n hx hb dX5_findsSpecks_30 rfl (lv_at hl 2 rfl) ?_
    refine lv_icmp_gt (tgt := 38) hx hb dX5_findsSpecks_31 (by decide) (fun hc => ?_) (fun hc => ?_)
    · have h := of_pos hc h
      refine lv_iconst (v := (0 : Int32)) hx hb dX5_findsSpecks_38 (by decide) ?_
      exact w_jp_X5_findsSpecks_39 X hK hT hM a0 l1 l2 l3 s9.1 (0 : Int32) s9.1 (rfA Λ a0 18) k0 kf_2 h kb kx0 H locs ls hR hS (lv_sub hl [0, 1, 2, 3, 4] rfl)
    · have h := of_neg hc h
      refine lv_iconst (v := (1 : Int32)) hx hb dX5_findsSpecks_34 (by decide) ?_
      refine lv_goto (tgt := 39) hx hb dX5_findsSpecks_35 (by decide) ?_
      exact w_jp_X5_findsSpecks_39 X hK hT hM a0 l1 l2 l3 s9.1 (1 : Int32) s9.1 (rfA Λ a0 18) k0 kf_2 h kb kx0 H locs ls hR hS (lv_sub hl [0, 1, 2, 3, 4] rfl)

set_option maxHeartbeats 4000000 in
set_option maxRecDepth 100000 in
theorem w_lp_X5_findsSpecks_8 (X : Cx cX5_findsSpecks (some .int) 7 RX5 wsX5_findsSpecks p s m args meth c) (hK : Kn cA D s) (hT : TL Λ) (hM : 5 ≤ R.frames ∧ 122 ≤ R.locals) (a0 : Nat) (l1 : Int32) (l2 : Int32) (l3 : Int32) (k0 : isK Λ a0 6) {e9 : Sto} : ∀ (n9 : Nat) (s9 : (Int32 × Sto)), iter (bd_X5_findsSpecks_8 Λ a0 l1 l2 l3) n9 s9 = some e9 → ∀ (kx0 : ∀ (H : Heap) (locs : List Loc) (ls : Array Slot), Rep cA D Λ e9 H → va_S (dm Λ) s.heap H locs → lv_has ls 7 [(0, .ref a0), (1, .int l1), (2, .int l2), (3, .int l3)] → W p l e R s m args below meth c H locs 0 0 Q (F0 m 46 ls [])), ∀ (H : Heap) (locs : List Loc) (ls : Array Slot), Rep cA D Λ s9.2 H → va_S (dm Λ) s.heap H locs → lv_has ls 7 [(0, .ref a0), (1, .int l1), (2, .int l2), (3, .int l3), (4, .int s9.1)] → W p l e R s m args below meth c H locs 0 0 Q (F0 m 8 ls []) := by
  intro n9
  induction n9 with
  | zero => intro s9 h; cases h
  | succ n9 ih =>
    intro s9 h kx0 H locs ls hR hS hl
    obtain ⟨r, hr, h⟩ := of_iter h
    refine w_bd_X5_findsSpecks_8 X hK hT hM a0 l1 l2 l3 s9 k0 hr (fun z ez H locs ls hR hS hl => ?_) (fun z ez H locs ls hR hS hl => ?_) H locs ls hR hS hl
    · exact ih z (of_itl ez h) kx0 H locs ls hR hS hl
    · have he := of_itr ez h; subst he; exact kx0 H locs ls hR hS hl

set_option maxHeartbeats 4000000 in
set_option maxRecDepth 100000 in
theorem w_jp_X5_findsSpecks_126 (X : Cx cX5_findsSpecks (some .int) 7 RX5 wsX5_findsSpecks p s m args meth c) (hK : Kn cA D s) (hT : TL Λ) (hM : 5 ≤ R.frames ∧ 122 ≤ R.locals) (a0 : Nat) (l1 : Int32) (l2 : Int32) (l3 : Int32) (l4 : Int32) (l5 : Int32)  (k0 : isK Λ a0 6) {r : (Int32 × Sto) ⊕ Sto} (h : jp_X5_findsSpecks_126 Λ σ a0 l1 l2 l3 l4 l5 = some r) (kb : ∀ z : (Int32 × Sto), r = .inl z → ∀ (H : Heap) (locs : List Loc) (ls : Array Slot), Rep cA D Λ z.2 H → va_S (dm Λ) s.heap H locs → lv_has ls 7 [(0, .ref a0), (1, .int l1), (2, .int l2), (3, .int l3), (4, .int l4), (5, .int z.1)] → W p l e R s m args below meth c H locs 0 0 Q (F0 m 63 ls [])) (kx0 : ∀ z : Sto, r = .inr z → ∀ (H : Heap) (locs : List Loc) (ls : Array Slot), Rep cA D Λ z H → va_S (dm Λ) s.heap H locs → lv_has ls 7 [(0, .ref a0), (1, .int l1), (2, .int l2), (3, .int l3), (4, .int l4)] → W p l e R s m args below meth c H locs 0 0 Q (F0 m 132 ls [])) (H : Heap) (locs : List Loc) (ls : Array Slot) (hR : Rep cA D Λ σ H) (hS : va_S (dm Λ) s.heap H locs) (hl : lv_has ls 7 [(0, .ref a0), (1, .int l1), (2, .int l2), (3, .int l3), (4, .int l4), (5, .int l5)]) : W p l e R s m args below meth c H locs 0 0 Q (F0 m 126 ls []) := by
  have hx := X.1
  have hb := X.2.1
  have hown := X.2.2.2.2.1
  have hts := X.2.2.2.2.2.1
  unfold jp_X5_findsSpecks_126 at h
  obtain ⟨v_15, e_v_15⟩ : ∃ y : Int32, y = (l5 + (1 : Int32)) := ⟨_, rfl⟩
  have h := of_nm e_v_15 h
  refine lv_iinc (v := v_15) (lv' := [(5, .int v_15), (0, .ref a0), (1, .int l1), (2, .int l2), (3, .int l3), (4, .int l4)]) hx hb dX5_findsSpecks_126 hl (k := 5) rfl (by rw [e_v_15]; rfl) (by decide) rfl (fun ls hl => ?_)
  refine lv_goto (tgt := 63) hx hb dX5_findsSpecks_129 (by decide) ?_
  exact kb (v_15, σ) (Option.some.inj h).symm H locs ls hR hS (lv_sub hl [1, 2, 3, 4, 5, 0] rfl)

set_option maxHeartbeats 4000000 in
set_option maxRecDepth 100000 in
theorem w_bd_X5_findsSpecks_63 (X : Cx cX5_findsSpecks (some .int) 7 RX5 wsX5_findsSpecks p s m args meth c) (hK : Kn cA D s) (hT : TL Λ) (hM : 5 ≤ R.frames ∧ 122 ≤ R.locals) (a0 : Nat) (l1 : Int32) (l2 : Int32) (l3 : Int32) (l4 : Int32) (s9 : (Int32 × Sto)) (k0 : isK Λ a0 6) {r : (Int32 × Sto) ⊕ Sto} (h : bd_X5_findsSpecks_63 Λ a0 l1 l2 l3 l4 s9 = some r) (kb : ∀ z : (Int32 × Sto), r = .inl z → ∀ (H : Heap) (locs : List Loc) (ls : Array Slot), Rep cA D Λ z.2 H → va_S (dm Λ) s.heap H locs → lv_has ls 7 [(0, .ref a0), (1, .int l1), (2, .int l2), (3, .int l3), (4, .int l4), (5, .int z.1)] → W p l e R s m args below meth c H locs 0 0 Q (F0 m 63 ls [])) (kx0 : ∀ z : Sto, r = .inr z → ∀ (H : Heap) (locs : List Loc) (ls : Array Slot), Rep cA D Λ z H → va_S (dm Λ) s.heap H locs → lv_has ls 7 [(0, .ref a0), (1, .int l1), (2, .int l2), (3, .int l3), (4, .int l4)] → W p l e R s m args below meth c H locs 0 0 Q (F0 m 132 ls [])) (H : Heap) (locs : List Loc) (ls : Array Slot) (hR : Rep cA D Λ s9.2 H) (hS : va_S (dm Λ) s.heap H locs) (hl : lv_has ls 7 [(0, .ref a0), (1, .int l1), (2, .int l2), (3, .int l3), (4, .int l4), (5, .int s9.1)]) : W p l e R s m args below meth c H locs 0 0 Q (F0 m 63 ls []) := by
  have hx := X.1
  have hb := X.2.1
  have hown := X.2.2.2.2.1
  have hts := X.2.2.2.2.2.1
  unfold bd_X5_findsSpecks_63 at h
  refine lv_iload hx hb dX5_findsSpecks_63 (lv_at hl 5 rfl) ?_
  refine lv_aload_n hx hb dX5_findsSpecks_65 rfl (lv_at hl 0 rfl) ?_
  refine rw_getR X hK hT hR 6 2 7 k0 (by decide) (C := RX5) (T := TX5) (N := 24) rfl (by decide) in_X5_findsSpecks_6 (by decide +kernel) rfl dX5_findsSpecks_66 (fun kf_10 => ?_)
  refine lv_iload_n hx hb dX5_findsSpecks_69 rfl (lv_at hl 1 rfl) ?_
  obtain ⟨hg_11, h⟩ := of_guard h
  refine rw_iald X hK hR kf_10 hg_11 dX5_findsSpecks_70 ?_
  refine lv_icmp_ge (tgt := 132) hx hb dX5_findsSpecks_71 (by decide) (fun hc => ?_) (fun hc => ?_)
  · have h := of_pos hc h
    exact kx0 s9.2 (Option.some.inj h).symm H locs ls hR hS (lv_sub hl [0, 1, 2, 3, 4] rfl)
  · have h := of_neg hc h
    refine lv_aload_n hx hb dX5_findsSpecks_74 rfl (lv_at hl 0 rfl) ?_
    refine rw_getR X hK hT hR 6 13 7 k0 (by decide) (C := RX5) (T := TX5) (N := 24) rfl (by decide) in_X5_findsSpecks_6 (by decide +kernel) rfl dX5_findsSpecks_75 (fun kf_12 => ?_)
    refine lv_iload hx hb dX5_findsSpecks_78 (lv_at hl 4 rfl) ?_
    refine lv_bipush (v := (64 : Int32)) hx hb dX5_findsSpecks_80 (by decide) ?_
    refine lv_imul hx hb dX5_findsSpecks_82 ?_
    refine lv_iload hx hb dX5_findsSpecks_83 (lv_at hl 5 rfl) ?_
    refine lv_iadd hx hb dX5_findsSpecks_85 ?_
    obtain ⟨hg_13, h⟩ := of_guard h
    refine rw_iald X hK hR kf_12 hg_13 dX5_findsSpecks_86 ?_
    refine lv_topi (fun v_14 e_v_14 => ?_)
    have h := of_nm e_v_14 h
    refine lv_istore (lv' := [(6, .int v_14), (0, .ref a0), (1, .int l1), (2, .int l2), (3, .int l3), (4, .int l4), (5, .int s9.1)]) hx hb dX5_findsSpecks_87 hl (by decide) rfl (fun ls hl => ?_)
    refine lv_iload hx hb dX5_findsSpecks_89 (lv_at hl 0 rfl) ?_
    refine lv_if_le (tgt := 126) hx hb dX5_findsSpecks_91 (by decide) (fun hc => ?_) (fun hc => ?_)
    · have h := of_pos hc h
      exact w_jp_X5_findsSpecks_126 X hK hT hM a0 l1 l2 l3 l4 s9.1 k0 h kb kx0 H locs ls hR hS (lv_sub hl [1, 2, 3, 4, 5, 6] rfl)
    · have h := of_neg hc h
      refine lv_aload_n hx hb dX5_findsSpecks_94 rfl (lv_at hl 1 rfl) ?_
      refine rw_getR X hK hT hR 6 18 9 k0 (by decide) (C := RX5) (T := TX5) (N := 24) rfl (by decide) in_X5_findsSpecks_6 (by decide +kernel) rfl dX5_findsSpecks_95 (fun kf_16 => ?_)
      refine lv_iload hx hb dX5_findsSpecks_98 (lv_at hl 0 rfl) ?_
      obtain ⟨hg_17, h⟩ := of_guard h
      refine rw_zald X hK hR kf_16 hg_17 dX5_findsSpecks_100 ?_
      refine lv_if_eq (tgt := 126) hx hb dX5_findsSpecks_101 (by decide) (fun hc => ?_) (fun hc => ?_)
      · have h := of_pos hc h
        exact w_jp_X5_findsSpecks_126 X hK hT hM a0 l1 l2 l3 l4 s9.1 k0 h kb kx0 H locs ls hR hS (lv_sub hl [1, 2, 3, 4, 5, 6] rfl)
      · have h := of_neg hc h
        refine lv_aload_n hx hb dX5_findsSpecks_104 rfl (lv_at hl 1 rfl) ?_
        refine lv_iload_n hx hb dX5_findsSpecks_105 rfl (lv_at hl 2 rfl) ?_
        refine lv_iload hx hb dX5_findsSpecks_106 (lv_at hl 6 rfl) ?_
        refine lv_iload hx hb dX5_findsSpecks_108 (lv_at hl 5 rfl) ?_
        refine lv_iload_n hx hb dX5_findsSpecks_110 rfl (lv_at hl 3 rfl) ?_
        refine lv_iload_n hx hb dX5_findsSpecks_111 rfl (lv_at hl 4 rfl) ?_
        obtain ⟨q_18, hq_18, h⟩ := of_bind h
        refine cl_z (rn_V (As := [.int l1, .int s9.1, .int l4, .int l2, .int l3]) (rest := []) X hK hR k0 rfl (by decide) hl.1 (c_X5_isNear l cA D Λ hT s9.2 a0 l1 s9.1 l4 l2 l3 k0 hq_18) (cwV 5 hts gX5_findsSpecks_X5_isNear rfl rfl rfl (by decide +kernel) ⟨Nat.le_trans (by decide) hM.1, Nat.le_trans (by decide) hM.2⟩) rfl rfl (Nat.le_of_ble_eq_true rfl) dX5_findsSpecks_112) hS (fun hz_18 H locs hR hS => ?_)
        refine lv_if_eq (tgt := 126) hx hb dX5_findsSpecks_115 (by decide) (fun hc => ?_) (fun hc => ?_)
        · have h := of_pos hc h
          exact w_jp_X5_findsSpecks_126 X hK hT hM a0 l1 l2 l3 l4 s9.1 k0 h kb kx0 H locs ls hR hS (lv_sub hl [1, 2, 3, 4, 5, 6] rfl)
        · have h := of_neg hc h
          refine lv_aload_n hx hb dX5_findsSpecks_118 rfl (lv_at hl 1 rfl) ?_
          refine rw_getR X hK hT hR 6 18 9 k0 (by decide) (C := RX5) (T := TX5) (N := 24) rfl (by decide) in_X5_findsSpecks_6 (by decide +kernel) rfl dX5_findsSpecks_119 (fun kf_19 => ?_)
          refine lv_iload hx hb dX5_findsSpecks_122 (lv_at hl 0 rfl) ?_
          refine lv_iconst (v := (0 : Int32)) hx hb dX5_findsSpecks_124 (by decide) ?_
          obtain ⟨hg_20, h⟩ := of_guard h
          refine rw_zast X hK hT hR hS kf_19 hg_20 dX5_findsSpecks_125 (fun σ_20 H locs e_20 hR hS => ?_)
          have h := of_nm e_20 h
          exact w_jp_X5_findsSpecks_126 X hK hT hM a0 l1 l2 l3 l4 s9.1 k0 h kb kx0 H locs ls hR hS (lv_sub hl [1, 2, 3, 4, 5, 6] rfl)

set_option maxHeartbeats 4000000 in
set_option maxRecDepth 100000 in
theorem w_lp_X5_findsSpecks_63 (X : Cx cX5_findsSpecks (some .int) 7 RX5 wsX5_findsSpecks p s m args meth c) (hK : Kn cA D s) (hT : TL Λ) (hM : 5 ≤ R.frames ∧ 122 ≤ R.locals) (a0 : Nat) (l1 : Int32) (l2 : Int32) (l3 : Int32) (l4 : Int32) (k0 : isK Λ a0 6) {e9 : Sto} : ∀ (n9 : Nat) (s9 : (Int32 × Sto)), iter (bd_X5_findsSpecks_63 Λ a0 l1 l2 l3 l4) n9 s9 = some e9 → ∀ (kx0 : ∀ (H : Heap) (locs : List Loc) (ls : Array Slot), Rep cA D Λ e9 H → va_S (dm Λ) s.heap H locs → lv_has ls 7 [(0, .ref a0), (1, .int l1), (2, .int l2), (3, .int l3), (4, .int l4)] → W p l e R s m args below meth c H locs 0 0 Q (F0 m 132 ls [])), ∀ (H : Heap) (locs : List Loc) (ls : Array Slot), Rep cA D Λ s9.2 H → va_S (dm Λ) s.heap H locs → lv_has ls 7 [(0, .ref a0), (1, .int l1), (2, .int l2), (3, .int l3), (4, .int l4), (5, .int s9.1)] → W p l e R s m args below meth c H locs 0 0 Q (F0 m 63 ls []) := by
  intro n9
  induction n9 with
  | zero => intro s9 h; cases h
  | succ n9 ih =>
    intro s9 h kx0 H locs ls hR hS hl
    obtain ⟨r, hr, h⟩ := of_iter h
    refine w_bd_X5_findsSpecks_63 X hK hT hM a0 l1 l2 l3 l4 s9 k0 hr (fun z ez H locs ls hR hS hl => ?_) (fun z ez H locs ls hR hS hl => ?_) H locs ls hR hS hl
    · exact ih z (of_itl ez h) kx0 H locs ls hR hS hl
    · have he := of_itr ez h; subst he; exact kx0 H locs ls hR hS hl

set_option maxHeartbeats 4000000 in
set_option maxRecDepth 100000 in
theorem w_bd_X5_findsSpecks_49 (X : Cx cX5_findsSpecks (some .int) 7 RX5 wsX5_findsSpecks p s m args meth c) (hK : Kn cA D s) (hT : TL Λ) (hM : 5 ≤ R.frames ∧ 122 ≤ R.locals) (a0 : Nat) (l1 : Int32) (l2 : Int32) (l3 : Int32) (s9 : (Int32 × Sto)) (k0 : isK Λ a0 6) {r : (Int32 × Sto) ⊕ Sto} (h : bd_X5_findsSpecks_49 Λ a0 l1 l2 l3 s9 = some r) (kb : ∀ z : (Int32 × Sto), r = .inl z → ∀ (H : Heap) (locs : List Loc) (ls : Array Slot), Rep cA D Λ z.2 H → va_S (dm Λ) s.heap H locs → lv_has ls 7 [(0, .ref a0), (1, .int l1), (2, .int l2), (3, .int l3), (4, .int z.1)] → W p l e R s m args below meth c H locs 0 0 Q (F0 m 49 ls [])) (kx0 : ∀ z : Sto, r = .inr z → ∀ (H : Heap) (locs : List Loc) (ls : Array Slot), Rep cA D Λ z H → va_S (dm Λ) s.heap H locs → lv_has ls 7 [(0, .ref a0)] → W p l e R s m args below meth c H locs 0 0 Q (F0 m 138 ls [])) (H : Heap) (locs : List Loc) (ls : Array Slot) (hR : Rep cA D Λ s9.2 H) (hS : va_S (dm Λ) s.heap H locs) (hl : lv_has ls 7 [(0, .ref a0), (1, .int l1), (2, .int l2), (3, .int l3), (4, .int s9.1)]) : W p l e R s m args below meth c H locs 0 0 Q (F0 m 49 ls []) := by
  have hx := X.1
  have hb := X.2.1
  have hown := X.2.2.2.2.1
  have hts := X.2.2.2.2.2.1
  unfold bd_X5_findsSpecks_49 at h
  refine lv_iload hx hb dX5_findsSpecks_49 (lv_at hl 4 rfl) ?_
  refine lv_aload_n hx hb dX5_findsSpecks_51 rfl (lv_at hl 0 rfl) ?_
  refine rw_getR X hK hT hR 6 3 7 k0 (by decide) (C := RX5) (T := TX5) (N := 24) rfl (by decide) in_X5_findsSpecks_6 (by decide +kernel) rfl dX5_findsSpecks_52 (fun kf_8 => ?_)
  refine lv_iload_n hx hb dX5_findsSpecks_55 rfl (lv_at hl 1 rfl) ?_
  obtain ⟨hg_9, h⟩ := of_guard h
  refine rw_iald X hK hR kf_8 hg_9 dX5_findsSpecks_56 ?_
  refine lv_icmp_ge (tgt := 138) hx hb dX5_findsSpecks_57 (by decide) (fun hc => ?_) (fun hc => ?_)
  · have h := of_pos hc h
    exact kx0 s9.2 (Option.some.inj h).symm H locs ls hR hS (lv_sub hl [0] rfl)
  · have h := of_neg hc h
    refine lv_iconst (v := (0 : Int32)) hx hb dX5_findsSpecks_60 (by decide) ?_
    refine lv_istore (lv' := [(5, .int (0 : Int32)), (0, .ref a0), (1, .int l1), (2, .int l2), (3, .int l3), (4, .int s9.1)]) hx hb dX5_findsSpecks_61 hl (by decide) rfl (fun ls hl => ?_)
    obtain ⟨e_21, hq_21, h⟩ := of_bind h
    refine w_lp_X5_findsSpecks_63 X hK hT hM a0 l1 l2 l3 s9.1 k0 _ ((0 : Int32), s9.2) hq_21 (fun H locs ls hR hS hl => ?_) H locs ls hR hS (lv_sub hl [1, 2, 3, 4, 5, 0] rfl)
    obtain ⟨v_22, e_v_22⟩ : ∃ y : Int32, y = (s9.1 + (1 : Int32)) := ⟨_, rfl⟩
    have h := of_nm e_v_22 h
    refine lv_iinc (v := v_22) (lv' := [(4, .int v_22), (0, .ref a0), (1, .int l1), (2, .int l2), (3, .int l3)]) hx hb dX5_findsSpecks_132 hl (k := 4) rfl (by rw [e_v_22]; rfl) (by decide) rfl (fun ls hl => ?_)
    refine lv_goto (tgt := 49) hx hb dX5_findsSpecks_135 (by decide) ?_
    exact kb (v_22, e_21) (Option.some.inj h).symm H locs ls hR hS (lv_sub hl [1, 2, 3, 4, 0] rfl)

set_option maxHeartbeats 4000000 in
set_option maxRecDepth 100000 in
theorem w_lp_X5_findsSpecks_49 (X : Cx cX5_findsSpecks (some .int) 7 RX5 wsX5_findsSpecks p s m args meth c) (hK : Kn cA D s) (hT : TL Λ) (hM : 5 ≤ R.frames ∧ 122 ≤ R.locals) (a0 : Nat) (l1 : Int32) (l2 : Int32) (l3 : Int32) (k0 : isK Λ a0 6) {e9 : Sto} : ∀ (n9 : Nat) (s9 : (Int32 × Sto)), iter (bd_X5_findsSpecks_49 Λ a0 l1 l2 l3) n9 s9 = some e9 → ∀ (kx0 : ∀ (H : Heap) (locs : List Loc) (ls : Array Slot), Rep cA D Λ e9 H → va_S (dm Λ) s.heap H locs → lv_has ls 7 [(0, .ref a0)] → W p l e R s m args below meth c H locs 0 0 Q (F0 m 138 ls [])), ∀ (H : Heap) (locs : List Loc) (ls : Array Slot), Rep cA D Λ s9.2 H → va_S (dm Λ) s.heap H locs → lv_has ls 7 [(0, .ref a0), (1, .int l1), (2, .int l2), (3, .int l3), (4, .int s9.1)] → W p l e R s m args below meth c H locs 0 0 Q (F0 m 49 ls []) := by
  intro n9
  induction n9 with
  | zero => intro s9 h; cases h
  | succ n9 ih =>
    intro s9 h kx0 H locs ls hR hS hl
    obtain ⟨r, hr, h⟩ := of_iter h
    refine w_bd_X5_findsSpecks_49 X hK hT hM a0 l1 l2 l3 s9 k0 hr (fun z ez H locs ls hR hS hl => ?_) (fun z ez H locs ls hR hS hl => ?_) H locs ls hR hS hl
    · exact ih z (of_itl ez h) kx0 H locs ls hR hS hl
    · have he := of_itr ez h; subst he; exact kx0 H locs ls hR hS hl

set_option maxHeartbeats 4000000 in
set_option maxRecDepth 100000 in
theorem w_jp_X5_findsSpecks_170 (X : Cx cX5_findsSpecks (some .int) 7 RX5 wsX5_findsSpecks p s m args meth c) (hK : Kn cA D s) (hT : TL Λ) (hM : 5 ≤ R.frames ∧ 122 ≤ R.locals) (a0 : Nat) (l5 : Int32) (ls0 : Int32) (ls1 : Int32) (k0 : isK Λ a0 6) {r : (Int32 × Int32) ⊕ Int32} (h : jp_X5_findsSpecks_170 Λ σ a0 l5 ls0 ls1 = some r) (kb : ∀ z : (Int32 × Int32), r = .inl z → ∀ (H : Heap) (locs : List Loc) (ls : Array Slot), Rep cA D Λ σ H → va_S (dm Λ) s.heap H locs → lv_has ls 7 [(0, .ref a0), (4, .int z.1), (5, .int z.2)] → W p l e R s m args below meth c H locs 0 0 Q (F0 m 144 ls [])) (kx0 : ∀ z : Int32, r = .inr z → ∀ (H : Heap) (locs : List Loc) (ls : Array Slot), Rep cA D Λ σ H → va_S (dm Λ) s.heap H locs → lv_has ls 7 [(4, .int z)] → W p l e R s m args below meth c H locs 0 0 Q (F0 m 179 ls [])) (H : Heap) (locs : List Loc) (ls : Array Slot) (hR : Rep cA D Λ σ H) (hS : va_S (dm Λ) s.heap H locs) (hl : lv_has ls 7 [(0, .ref a0), (5, .int l5)]) : W p l e R s m args below meth c H locs 0 0 Q (F0 m 170 ls [.int ls0, .int ls1]) := by
  have hx := X.1
  have hb := X.2.1
  have hown := X.2.2.2.2.1
  have hts := X.2.2.2.2.2.1
  unfold jp_X5_findsSpecks_170 at h
  refine lv_iadd hx hb dX5_findsSpecks_170 ?_
  refine lv_topi (fun v_26 e_v_26 => ?_)
  have h := of_nm e_v_26 h
  refine lv_istore (lv' := [(4, .int v_26), (0, .ref a0), (5, .int l5)]) hx hb dX5_findsSpecks_171 hl (by decide) rfl (fun ls hl => ?_)
  obtain ⟨v_27, e_v_27⟩ : ∃ y : Int32, y = (l5 + (1 : Int32)) := ⟨_, rfl⟩
  have h := of_nm e_v_27 h
  refine lv_iinc (v := v_27) (lv' := [(5, .int v_27), (4, .int v_26), (0, .ref a0)]) hx hb dX5_findsSpecks_173 hl (k := 2) rfl (by rw [e_v_27]; rfl) (by decide) rfl (fun ls hl => ?_)
  refine lv_goto (tgt := 144) hx hb dX5_findsSpecks_176 (by decide) ?_
  exact kb (v_26, v_27) (Option.some.inj h).symm H locs ls hR hS (lv_sub hl [2, 1, 0] rfl)

set_option maxHeartbeats 4000000 in
set_option maxRecDepth 100000 in
theorem w_bd_X5_findsSpecks_144 (X : Cx cX5_findsSpecks (some .int) 7 RX5 wsX5_findsSpecks p s m args meth c) (hK : Kn cA D s) (hT : TL Λ) (hM : 5 ≤ R.frames ∧ 122 ≤ R.locals) (a0 : Nat) (s9 : (Int32 × Int32)) (k0 : isK Λ a0 6) {r : (Int32 × Int32) ⊕ Int32} (h : bd_X5_findsSpecks_144 Λ σ a0 s9 = some r) (kb : ∀ z : (Int32 × Int32), r = .inl z → ∀ (H : Heap) (locs : List Loc) (ls : Array Slot), Rep cA D Λ σ H → va_S (dm Λ) s.heap H locs → lv_has ls 7 [(0, .ref a0), (4, .int z.1), (5, .int z.2)] → W p l e R s m args below meth c H locs 0 0 Q (F0 m 144 ls [])) (kx0 : ∀ z : Int32, r = .inr z → ∀ (H : Heap) (locs : List Loc) (ls : Array Slot), Rep cA D Λ σ H → va_S (dm Λ) s.heap H locs → lv_has ls 7 [(4, .int z)] → W p l e R s m args below meth c H locs 0 0 Q (F0 m 179 ls [])) (H : Heap) (locs : List Loc) (ls : Array Slot) (hR : Rep cA D Λ σ H) (hS : va_S (dm Λ) s.heap H locs) (hl : lv_has ls 7 [(0, .ref a0), (4, .int s9.1), (5, .int s9.2)]) : W p l e R s m args below meth c H locs 0 0 Q (F0 m 144 ls []) := by
  have hx := X.1
  have hb := X.2.1
  have hown := X.2.2.2.2.1
  have hts := X.2.2.2.2.2.1
  unfold bd_X5_findsSpecks_144 at h
  refine lv_iload hx hb dX5_findsSpecks_144 (lv_at hl 2 rfl) ?_
  refine lv_aload_n hx hb dX5_findsSpecks_146 rfl (lv_at hl 0 rfl) ?_
  refine rw_getI X hK hR 6 16 k0 (by decide) (C := RX5) (T := TX5) (N := 24) rfl (by decide) in_X5_findsSpecks_6 (by decide +kernel) rfl dX5_findsSpecks_147 ?_
  refine lv_icmp_gt (tgt := 179) hx hb dX5_findsSpecks_150 (by decide) (fun hc => ?_) (fun hc => ?_)
  · have h := of_pos hc h
    exact kx0 s9.1 (Option.some.inj h).symm H locs ls hR hS (lv_sub hl [1] rfl)
  · have h := of_neg hc h
    refine lv_iload hx hb dX5_findsSpecks_153 (lv_at hl 1 rfl) ?_
    refine lv_aload_n hx hb dX5_findsSpecks_155 rfl (lv_at hl 0 rfl) ?_
    refine rw_getR X hK hT hR 6 18 9 k0 (by decide) (C := RX5) (T := TX5) (N := 24) rfl (by decide) in_X5_findsSpecks_6 (by decide +kernel) rfl dX5_findsSpecks_156 (fun kf_24 => ?_)
    refine lv_iload hx hb dX5_findsSpecks_159 (lv_at hl 2 rfl) ?_
    obtain ⟨hg_25, h⟩ := of_guard h
    refine rw_zald X hK hR kf_24 hg_25 dX5_findsSpecks_161 ?_
    refine lv_if_eq (tgt := 169) hx hb dX5_findsSpecks_162 (by decide) (fun hc => ?_) (fun hc => ?_)
    · have h := of_pos hc h
      refine lv_iconst (v := (0 : Int32)) hx hb dX5_findsSpecks_169 (by decide) ?_
      exact w_jp_X5_findsSpecks_170 X hK hT hM a0 s9.2 (0 : Int32) s9.1 k0 h kb kx0 H locs ls hR hS (lv_sub hl [0, 2] rfl)
    · have h := of_neg hc h
      refine lv_iconst (v := (1 : Int32)) hx hb dX5_findsSpecks_165 (by decide) ?_
      refine lv_goto (tgt := 170) hx hb dX5_findsSpecks_166 (by decide) ?_
      exact w_jp_X5_findsSpecks_170 X hK hT hM a0 s9.2 (1 : Int32) s9.1 k0 h kb kx0 H locs ls hR hS (lv_sub hl [0, 2] rfl)

set_option maxHeartbeats 4000000 in
set_option maxRecDepth 100000 in
theorem w_lp_X5_findsSpecks_144 (X : Cx cX5_findsSpecks (some .int) 7 RX5 wsX5_findsSpecks p s m args meth c) (hK : Kn cA D s) (hT : TL Λ) (hM : 5 ≤ R.frames ∧ 122 ≤ R.locals) (a0 : Nat) (k0 : isK Λ a0 6) {e9 : Int32} : ∀ (n9 : Nat) (s9 : (Int32 × Int32)), iter (bd_X5_findsSpecks_144 Λ σ a0) n9 s9 = some e9 → ∀ (kx0 : ∀ (H : Heap) (locs : List Loc) (ls : Array Slot), Rep cA D Λ σ H → va_S (dm Λ) s.heap H locs → lv_has ls 7 [(4, .int e9)] → W p l e R s m args below meth c H locs 0 0 Q (F0 m 179 ls [])), ∀ (H : Heap) (locs : List Loc) (ls : Array Slot), Rep cA D Λ σ H → va_S (dm Λ) s.heap H locs → lv_has ls 7 [(0, .ref a0), (4, .int s9.1), (5, .int s9.2)] → W p l e R s m args below meth c H locs 0 0 Q (F0 m 144 ls []) := by
  intro n9
  induction n9 with
  | zero => intro s9 h; cases h
  | succ n9 ih =>
    intro s9 h kx0 H locs ls hR hS hl
    obtain ⟨r, hr, h⟩ := of_iter h
    refine w_bd_X5_findsSpecks_144 X hK hT hM a0 s9 k0 hr (fun z ez H locs ls hR hS hl => ?_) (fun z ez H locs ls hR hS hl => ?_) H locs ls hR hS hl
    · exact ih z (of_itl ez h) kx0 H locs ls hR hS hl
    · have he := of_itr ez h; subst he; exact kx0 H locs ls hR hS hl

set_option maxHeartbeats 4000000 in
set_option maxRecDepth 100000 in
theorem w_X5_findsSpecks (X : Cx cX5_findsSpecks (some .int) 7 RX5 wsX5_findsSpecks p s m args meth c) (hK : Kn cA D s) (hT : TL Λ) (hM : 5 ≤ R.frames ∧ 122 ≤ R.locals) (a0 : Nat) (l1 : Int32) (l2 : Int32) (l3 : Int32) (k0 : isK Λ a0 6) {res : Int32 × Sto} (h : F_X5_findsSpecks Λ σ a0 l1 l2 l3 = some res) (H : Heap) (locs : List Loc) (ls : Array Slot) (hR : Rep cA D Λ σ H) (hS : va_S (dm Λ) s.heap H locs) (hl : lv_has ls 7 [(0, .ref a0), (1, .int l1), (2, .int l2), (3, .int l3)]) : W p l e R s m args below meth c H locs 0 0 (MQ below (QI cA D Λ res) args s 0 0 (dm Λ)) (F0 m 0 ls []) := by
  have hx := X.1
  have hb := X.2.1
  have hown := X.2.2.2.2.1
  have hts := X.2.2.2.2.2.1
  unfold F_X5_findsSpecks at h
  refine lv_aload_n hx hb dX5_findsSpecks_0 rfl (lv_at hl 0 rfl) ?_
  refine lv_iload_n hx hb dX5_findsSpecks_1 rfl (lv_at hl 1 rfl) ?_
  obtain ⟨q_1, hq_1, h⟩ := of_bind h
  refine cl_v (rn_V (As := [.int l1]) (rest := []) X hK hR k0 rfl (by decide) hl.1 (c_X5_findsSpots l cA D Λ hT σ a0 l1 k0 hq_1) (cwV 1 hts gX5_findsSpecks_X5_findsSpots rfl rfl rfl (by decide +kernel) ⟨Nat.le_trans (by decide) hM.1, Nat.le_trans (by decide) hM.2⟩) rfl rfl (Nat.le_of_ble_eq_true rfl) dX5_findsSpecks_2) hS (fun H locs hR hS => ?_)
  refine lv_iconst (v := (1 : Int32)) hx hb dX5_findsSpecks_5 (by decide) ?_
  refine lv_istore (lv' := [(4, .int (1 : Int32)), (0, .ref a0), (1, .int l1), (2, .int l2), (3, .int l3)]) hx hb dX5_findsSpecks_6 hl (by decide) rfl (fun ls hl => ?_)
  obtain ⟨e_7, hq_7, h⟩ := of_bind h
  refine w_lp_X5_findsSpecks_8 X hK hT hM a0 l1 l2 l3 k0 _ ((1 : Int32), q_1) hq_7 (fun H locs ls hR hS hl => ?_) H locs ls hR hS (lv_sub hl [1, 2, 3, 4, 0] rfl)
  refine lv_iconst (v := (0 : Int32)) hx hb dX5_findsSpecks_46 (by decide) ?_
  refine lv_istore (lv' := [(4, .int (0 : Int32)), (0, .ref a0), (1, .int l1), (2, .int l2), (3, .int l3)]) hx hb dX5_findsSpecks_47 hl (by decide) rfl (fun ls hl => ?_)
  obtain ⟨e_23, hq_23, h⟩ := of_bind h
  refine w_lp_X5_findsSpecks_49 X hK hT hM a0 l1 l2 l3 k0 _ ((0 : Int32), e_7) hq_23 (fun H locs ls hR hS hl => ?_) H locs ls hR hS (lv_sub hl [1, 2, 3, 4, 0] rfl)
  refine lv_iconst (v := (0 : Int32)) hx hb dX5_findsSpecks_138 (by decide) ?_
  refine lv_istore (lv' := [(4, .int (0 : Int32)), (0, .ref a0)]) hx hb dX5_findsSpecks_139 hl (by decide) rfl (fun ls hl => ?_)
  refine lv_iconst (v := (1 : Int32)) hx hb dX5_findsSpecks_141 (by decide) ?_
  refine lv_istore (lv' := [(5, .int (1 : Int32)), (4, .int (0 : Int32)), (0, .ref a0)]) hx hb dX5_findsSpecks_142 hl (by decide) rfl (fun ls hl => ?_)
  obtain ⟨e_28, hq_28, h⟩ := of_bind h
  refine w_lp_X5_findsSpecks_144 X hK hT hM a0 k0 _ ((0 : Int32), (1 : Int32)) hq_28 (fun H locs ls hR hS hl => ?_) H locs ls hR hS (lv_sub hl [2, 1, 0] rfl)
  refine lv_iload hx hb dX5_findsSpecks_179 (lv_at hl 0 rfl) ?_
  exact rt_i X hR hS (Option.some.inj h) dX5_findsSpecks_181

set_option maxHeartbeats 4000000 in
set_option maxRecDepth 100000 in
theorem c_X5_findsSpecks (l : Launch) (cA : Nat → ClassId) (D : va_G) (Λ : Lay) (hT : TL Λ) (σ : Sto) (a0 : Nat) (l1 : Int32) (l2 : Int32) (l3 : Int32) (k0 : isK Λ a0 6) {res : Int32 × Sto} (h : F_X5_findsSpecks Λ σ a0 l1 l2 l3 = some res) : Met l yX5_findsSpecks wsX5_findsSpecks { frames := 5, cells := 0, slots := 0, locals := 122 } (va_Pc [.ref a0, .int l1, .int l2, .int l3] (PW cA D Λ σ)) (QI cA D Λ res) 0 0 (dm Λ) := by
  refine Met.ofW (cc := cX5_findsSpecks) (maxL := 7) (ret := (some .int)) (by decide) rfl ?_
  intro p e s m args below meth c s₁ B hml hv
  obtain ⟨rfl, hR, hK⟩ := hv
  have X : Cx cX5_findsSpecks (some .int) 7 RX5 wsX5_findsSpecks p s m _ meth c := ⟨B.exec, B.bytes, B.returns, hml, findClass_of_methodNamed B.named, atoms_spec (ws := wsX5_findsSpecks) B.pre, B.notSynchronized⟩
  have hS : va_S (dm Λ) s.heap s.heap [] := va_S.rf
  have hl := lv_entry ([.ref a0, .int l1, .int l2, .int l3]) (n := 7) (Nat.le_of_ble_eq_true rfl)
  rw [lg_entry_eq]
  generalize (lg_sl ([.ref a0, .int l1, .int l2, .int l3]) ++ List.replicate (7 - (lg_sl ([.ref a0, .int l1, .int l2, .int l3])).length) Slot.unset).toArray = ls at hl ⊢
  have hl : lv_has ls 7 [(0, .ref a0), (1, .int l1), (2, .int l2), (3, .int l3)] := hl
  exact w_X5_findsSpecks X hK hT ⟨Nat.le_refl _, Nat.le_refl _⟩ a0 l1 l2 l3 k0 h s.heap [] ls hR hS hl
theorem in_X5_specks_6 : ∀ w ∈ u_ws RX5 TX5 24, w ∈ wsX5_specks := by decide +kernel
set_option maxHeartbeats 4000000 in
set_option maxRecDepth 100000 in
theorem w_X5_specks (X : Cx cX5_specks (some .int) 4 RX5 wsX5_specks p s m args meth c) (hK : Kn cA D s) (hT : TL Λ) (hM : 6 ≤ R.frames ∧ 148 ≤ R.locals) (a0 : Nat) (l1 : Int32) (l2 : Int32) (l3 : Int32) (k0 : isK Λ a0 6) {res : Int32 × Sto} (h : F_X5_specks Λ σ a0 l1 l2 l3 = some res) (H : Heap) (locs : List Loc) (ls : Array Slot) (hR : Rep cA D Λ σ H) (hS : va_S (dm Λ) s.heap H locs) (hl : lv_has ls 4 [(0, .ref a0), (1, .int l1), (2, .int l2), (3, .int l3)]) : W p l e R s m args below meth c H locs 0 0 (MQ below (QI cA D Λ res) args s 0 0 (dm Λ)) (F0 m 0 ls []) := by
  have hx := X.1
  have hb := X.2.1
  have hown := X.2.2.2.2.1
  have hts := X.2.2.2.2.2.1
  unfold F_X5_specks at h
  refine lv_aload_n hx hb dX5_specks_0 rfl (lv_at hl 0 rfl) ?_
  refine lv_iconst (v := (0 : Int32)) hx hb dX5_specks_1 (by decide) ?_
  refine rw_putI X hK hT hR hS 6 0 tyX5 k0 (by decide) (C := RX5) (T := TX5) (N := 24) rfl (by decide) in_X5_specks_6 tyX5_ok nmX5 (by decide +kernel) rfl rfl (by decide +kernel) dX5_specks_2 (fun σ_1 H locs e_1 hR hS => ?_)
  have h := of_nm e_1 h
  refine lv_aload_n hx hb dX5_specks_5 rfl (lv_at hl 0 rfl) ?_
  refine lv_iload_n hx hb dX5_specks_6 rfl (lv_at hl 1 rfl) ?_
  refine cl_z (rn_V (As := [.int l1]) (rest := []) X hK hR k0 rfl (by decide) hl.1 (c_X5_isPage l cA D Λ hT σ_1 a0 l1 k0) (cwV 1 hts gX5_specks_X5_isPage rfl rfl rfl (by decide +kernel) ⟨Nat.le_trans (by decide) hM.1, Nat.le_trans (by decide) hM.2⟩) rfl rfl (Nat.le_of_ble_eq_true rfl) dX5_specks_7) hS (fun hz_2 H locs hR hS => ?_)
  refine lv_topi (fun r_2 e_2 => ?_)
  have h := of_nm e_2 h
  have hz_2 : r_2 = 0 ∨ r_2 = 1 := by rw [e_2]; exact hz_2
  refine lv_if_eq (tgt := 31) hx hb dX5_specks_10 (by decide) (fun hc => ?_) (fun hc => ?_)
  · have h := of_pos hc h
    refine lv_iconst (v := (-1 : Int32)) hx hb dX5_specks_31 (by decide) ?_
    exact rt_i X hR hS (Option.some.inj h) dX5_specks_32
  · have h := of_neg hc h
    refine lv_iload_n hx hb dX5_specks_13 rfl (lv_at hl 2 rfl) ?_
    refine lv_iload_n hx hb dX5_specks_14 rfl (lv_at hl 3 rfl) ?_
    refine cl_z (rn_S (As := [.int l2, .int l3]) (rest := []) X hK hR hl.1 (c_X5_areSpecks l cA D Λ hT σ_1 l2 l3) (va_cwS 2 hts gX5_specks_X5_areSpecks rfl rfl rfl (by decide +kernel) ⟨Nat.le_trans (by decide) hM.1, Nat.le_trans (by decide) hM.2⟩) rfl rfl (Nat.le_of_ble_eq_true rfl) dX5_specks_15) hS (fun hz_3 H locs hR hS => ?_)
    refine lv_topi (fun r_3 e_3 => ?_)
    have h := of_nm e_3 h
    have hz_3 : r_3 = 0 ∨ r_3 = 1 := by rw [e_3]; exact hz_3
    refine lv_if_eq (tgt := 31) hx hb dX5_specks_18 (by decide) (fun hc => ?_) (fun hc => ?_)
    · have h := of_pos hc h
      refine lv_iconst (v := (-1 : Int32)) hx hb dX5_specks_31 (by decide) ?_
      exact rt_i X hR hS (Option.some.inj h) dX5_specks_32
    · have h := of_neg hc h
      refine lv_aload_n hx hb dX5_specks_21 rfl (lv_at hl 0 rfl) ?_
      refine lv_iload_n hx hb dX5_specks_22 rfl (lv_at hl 1 rfl) ?_
      refine lv_iload_n hx hb dX5_specks_23 rfl (lv_at hl 2 rfl) ?_
      refine lv_iload_n hx hb dX5_specks_24 rfl (lv_at hl 3 rfl) ?_
      obtain ⟨q_4, hq_4, h⟩ := of_bind h
      refine cl_i (rn_V (As := [.int l1, .int l2, .int l3]) (rest := []) X hK hR k0 rfl (by decide) hl.1 (c_X5_findsSpecks l cA D Λ hT σ_1 a0 l1 l2 l3 k0 hq_4) (cwV 3 hts gX5_specks_X5_findsSpecks rfl rfl rfl (by decide +kernel) ⟨Nat.le_trans (by decide) hM.1, Nat.le_trans (by decide) hM.2⟩) rfl rfl (Nat.le_of_ble_eq_true rfl) dX5_specks_25) hS (fun H locs hR hS => ?_)
      refine lv_goto (tgt := 32) hx hb dX5_specks_28 (by decide) ?_
      exact rt_i X hR hS (Option.some.inj h) dX5_specks_32

set_option maxHeartbeats 4000000 in
set_option maxRecDepth 100000 in
theorem c_X5_specks (l : Launch) (cA : Nat → ClassId) (D : va_G) (Λ : Lay) (hT : TL Λ) (σ : Sto) (a0 : Nat) (l1 : Int32) (l2 : Int32) (l3 : Int32) (k0 : isK Λ a0 6) {res : Int32 × Sto} (h : F_X5_specks Λ σ a0 l1 l2 l3 = some res) : Met l yX5_specks wsX5_specks { frames := 6, cells := 0, slots := 0, locals := 148 } (va_Pc [.ref a0, .int l1, .int l2, .int l3] (PW cA D Λ σ)) (QI cA D Λ res) 0 0 (dm Λ) := by
  refine Met.ofW (cc := cX5_specks) (maxL := 4) (ret := (some .int)) (by decide) rfl ?_
  intro p e s m args below meth c s₁ B hml hv
  obtain ⟨rfl, hR, hK⟩ := hv
  have X : Cx cX5_specks (some .int) 4 RX5 wsX5_specks p s m _ meth c := ⟨B.exec, B.bytes, B.returns, hml, findClass_of_methodNamed B.named, atoms_spec (ws := wsX5_specks) B.pre, B.notSynchronized⟩
  have hS : va_S (dm Λ) s.heap s.heap [] := va_S.rf
  have hl := lv_entry ([.ref a0, .int l1, .int l2, .int l3]) (n := 4) (Nat.le_of_ble_eq_true rfl)
  rw [lg_entry_eq]
  generalize (lg_sl ([.ref a0, .int l1, .int l2, .int l3]) ++ List.replicate (4 - (lg_sl ([.ref a0, .int l1, .int l2, .int l3])).length) Slot.unset).toArray = ls at hl ⊢
  have hl : lv_has ls 4 [(0, .ref a0), (1, .int l1), (2, .int l2), (3, .int l3)] := hl
  exact w_X5_specks X hK hT ⟨Nat.le_refl _, Nat.le_refl _⟩ a0 l1 l2 l3 k0 h s.heap [] ls hR hS hl
theorem in_X5_takes_6 : ∀ w ∈ u_ws RX5 TX5 24, w ∈ wsX5_takes := by decide +kernel
set_option maxHeartbeats 4000000 in
set_option maxRecDepth 100000 in
theorem w_X5_takes (X : Cx cX5_takes none 4 RX5 wsX5_takes p s m args meth c) (hK : Kn cA D s) (hT : TL Λ) (hM : 1 ≤ R.frames ∧ 24 ≤ R.locals) (a0 : Nat) (l1 : Int32) (l2 : Int32) (l3 : Int32) (k0 : isK Λ a0 6) {res : Sto} (h : F_X5_takes Λ σ a0 l1 l2 l3 = some res) (H : Heap) (locs : List Loc) (ls : Array Slot) (hR : Rep cA D Λ σ H) (hS : va_S (dm Λ) s.heap H locs) (hl : lv_has ls 4 [(0, .ref a0), (1, .int l1), (2, .int l2), (3, .int l3)]) : W p l e R s m args below meth c H locs 0 0 (MQ below (QV cA D Λ res) args s 0 0 (dm Λ)) (F0 m 0 ls []) := by
  have hx := X.1
  have hb := X.2.1
  have hown := X.2.2.2.2.1
  have hts := X.2.2.2.2.2.1
  unfold F_X5_takes at h
  refine lv_aload_n hx hb dX5_takes_0 rfl (lv_at hl 0 rfl) ?_
  refine lv_iload_n hx hb dX5_takes_1 rfl (lv_at hl 1 rfl) ?_
  refine lv_iload_n hx hb dX5_takes_2 rfl (lv_at hl 2 rfl) ?_
  refine lv_iload_n hx hb dX5_takes_3 rfl (lv_at hl 3 rfl) ?_
  refine lv_iconst (v := (0 : Int32)) hx hb dX5_takes_4 (by decide) ?_
  obtain ⟨q_1, hq_1, h⟩ := of_bind h
  refine cl_v (rn_V (As := [.int l1, .int l2, .int l3, .int (0 : Int32)]) (rest := []) X hK hR k0 rfl (by decide) hl.1 (c_X5_inks l cA D Λ hT σ a0 l1 l2 l3 (0 : Int32) k0 hq_1) (cwV 4 hts gX5_takes_X5_inks rfl rfl rfl (by decide +kernel) ⟨Nat.le_trans (by decide) hM.1, Nat.le_trans (by decide) hM.2⟩) rfl rfl (Nat.le_of_ble_eq_true rfl) dX5_takes_5) hS (fun H locs hR hS => ?_)
  refine lv_aload_n hx hb dX5_takes_8 rfl (lv_at hl 0 rfl) ?_
  refine rw_getR X hK hT hR 6 20 7 k0 (by decide) (C := RX5) (T := TX5) (N := 24) rfl (by decide) in_X5_takes_6 (by decide +kernel) rfl dX5_takes_9 (fun kf_2 => ?_)
  refine lv_aload_n hx hb dX5_takes_12 rfl (lv_at hl 0 rfl) ?_
  refine rw_getI X hK hR 6 19 k0 (by decide) (C := RX5) (T := TX5) (N := 24) rfl (by decide) in_X5_takes_6 (by decide +kernel) rfl dX5_takes_13 ?_
  refine lv_iload_n hx hb dX5_takes_16 rfl (lv_at hl 2 rfl) ?_
  obtain ⟨hg_3, h⟩ := of_guard h
  refine rw_iast X hK hT hR hS kf_2 hg_3 dX5_takes_17 (fun σ_3 H locs e_3 hR hS => ?_)
  have h := of_nm e_3 h
  refine lv_aload_n hx hb dX5_takes_18 rfl (lv_at hl 0 rfl) ?_
  refine rw_getR X hK hT hR 6 21 7 k0 (by decide) (C := RX5) (T := TX5) (N := 24) rfl (by decide) in_X5_takes_6 (by decide +kernel) rfl dX5_takes_19 (fun kf_4 => ?_)
  refine lv_aload_n hx hb dX5_takes_22 rfl (lv_at hl 0 rfl) ?_
  refine rw_getI X hK hR 6 19 k0 (by decide) (C := RX5) (T := TX5) (N := 24) rfl (by decide) in_X5_takes_6 (by decide +kernel) rfl dX5_takes_23 ?_
  refine lv_iload_n hx hb dX5_takes_26 rfl (lv_at hl 3 rfl) ?_
  obtain ⟨hg_5, h⟩ := of_guard h
  refine rw_iast X hK hT hR hS kf_4 hg_5 dX5_takes_27 (fun σ_5 H locs e_5 hR hS => ?_)
  have h := of_nm e_5 h
  refine lv_aload_n hx hb dX5_takes_28 rfl (lv_at hl 0 rfl) ?_
  refine lv_dup hx hb dX5_takes_29 rfl ?_
  refine rw_getI X hK hR 6 19 k0 (by decide) (C := RX5) (T := TX5) (N := 24) rfl (by decide) in_X5_takes_6 (by decide +kernel) rfl dX5_takes_30 ?_
  refine lv_iconst (v := (1 : Int32)) hx hb dX5_takes_33 (by decide) ?_
  refine lv_iadd hx hb dX5_takes_34 ?_
  refine rw_putI X hK hT hR hS 6 19 tyX5 k0 (by decide) (C := RX5) (T := TX5) (N := 24) rfl (by decide) in_X5_takes_6 tyX5_ok nmX5 (by decide +kernel) rfl rfl (by decide +kernel) dX5_takes_35 (fun σ_6 H locs e_6 hR hS => ?_)
  have h := of_nm e_6 h
  exact rt_v X hR hS (Option.some.inj h) dX5_takes_38

set_option maxHeartbeats 4000000 in
set_option maxRecDepth 100000 in
theorem c_X5_takes (l : Launch) (cA : Nat → ClassId) (D : va_G) (Λ : Lay) (hT : TL Λ) (σ : Sto) (a0 : Nat) (l1 : Int32) (l2 : Int32) (l3 : Int32) (k0 : isK Λ a0 6) {res : Sto} (h : F_X5_takes Λ σ a0 l1 l2 l3 = some res) : Met l yX5_takes wsX5_takes { frames := 1, cells := 0, slots := 0, locals := 24 } (va_Pc [.ref a0, .int l1, .int l2, .int l3] (PW cA D Λ σ)) (QV cA D Λ res) 0 0 (dm Λ) := by
  refine Met.ofW (cc := cX5_takes) (maxL := 4) (ret := none) (by decide) rfl ?_
  intro p e s m args below meth c s₁ B hml hv
  obtain ⟨rfl, hR, hK⟩ := hv
  have X : Cx cX5_takes none 4 RX5 wsX5_takes p s m _ meth c := ⟨B.exec, B.bytes, B.returns, hml, findClass_of_methodNamed B.named, atoms_spec (ws := wsX5_takes) B.pre, B.notSynchronized⟩
  have hS : va_S (dm Λ) s.heap s.heap [] := va_S.rf
  have hl := lv_entry ([.ref a0, .int l1, .int l2, .int l3]) (n := 4) (Nat.le_of_ble_eq_true rfl)
  rw [lg_entry_eq]
  generalize (lg_sl ([.ref a0, .int l1, .int l2, .int l3]) ++ List.replicate (4 - (lg_sl ([.ref a0, .int l1, .int l2, .int l3])).length) Slot.unset).toArray = ls at hl ⊢
  have hl : lv_has ls 4 [(0, .ref a0), (1, .int l1), (2, .int l2), (3, .int l3)] := hl
  exact w_X5_takes X hK hT ⟨Nat.le_refl _, Nat.le_refl _⟩ a0 l1 l2 l3 k0 h s.heap [] ls hR hS hl
theorem in_X5_take_6 : ∀ w ∈ u_ws RX5 TX5 24, w ∈ wsX5_take := by decide +kernel
set_option maxHeartbeats 4000000 in
set_option maxRecDepth 100000 in
theorem w_jp_X5_take_109 (X : Cx cX5_take (some .int) 8 RX5 wsX5_take p s m args meth c) (hK : Kn cA D s) (hT : TL Λ) (hM : 6 ≤ R.frames ∧ 148 ≤ R.locals) (a0 : Nat) (l1 : Int32) (l5 : Int32) (l6 : Int32)  (k0 : isK Λ a0 6) {r : (Int32 × Sto) ⊕ Sto} (h : jp_X5_take_109 Λ σ a0 l1 l5 l6 = some r) (kb : ∀ z : (Int32 × Sto), r = .inl z → ∀ (H : Heap) (locs : List Loc) (ls : Array Slot), Rep cA D Λ z.2 H → va_S (dm Λ) s.heap H locs → lv_has ls 8 [(0, .ref a0), (1, .int l1), (5, .int l5), (6, .int z.1)] → W p l e R s m args below meth c H locs 0 0 Q (F0 m 59 ls [])) (kx0 : ∀ z : Sto, r = .inr z → ∀ (H : Heap) (locs : List Loc) (ls : Array Slot), Rep cA D Λ z H → va_S (dm Λ) s.heap H locs → lv_has ls 8 [(0, .ref a0), (1, .int l1), (5, .int l5)] → W p l e R s m args below meth c H locs 0 0 Q (F0 m 115 ls [])) (H : Heap) (locs : List Loc) (ls : Array Slot) (hR : Rep cA D Λ σ H) (hS : va_S (dm Λ) s.heap H locs) (hl : lv_has ls 8 [(0, .ref a0), (1, .int l1), (5, .int l5), (6, .int l6)]) : W p l e R s m args below meth c H locs 0 0 Q (F0 m 109 ls []) := by
  have hx := X.1
  have hb := X.2.1
  have hown := X.2.2.2.2.1
  have hts := X.2.2.2.2.2.1
  unfold jp_X5_take_109 at h
  obtain ⟨v_14, e_v_14⟩ : ∃ y : Int32, y = (l6 + (1 : Int32)) := ⟨_, rfl⟩
  have h := of_nm e_v_14 h
  refine lv_iinc (v := v_14) (lv' := [(6, .int v_14), (0, .ref a0), (1, .int l1), (5, .int l5)]) hx hb dX5_take_109 hl (k := 3) rfl (by rw [e_v_14]; rfl) (by decide) rfl (fun ls hl => ?_)
  refine lv_goto (tgt := 59) hx hb dX5_take_112 (by decide) ?_
  exact kb (v_14, σ) (Option.some.inj h).symm H locs ls hR hS (lv_sub hl [1, 2, 3, 0] rfl)

set_option maxHeartbeats 4000000 in
set_option maxRecDepth 100000 in
theorem w_bd_X5_take_59 (X : Cx cX5_take (some .int) 8 RX5 wsX5_take p s m args meth c) (hK : Kn cA D s) (hT : TL Λ) (hM : 6 ≤ R.frames ∧ 148 ≤ R.locals) (a0 : Nat) (l1 : Int32) (l5 : Int32) (s9 : (Int32 × Sto)) (k0 : isK Λ a0 6) {r : (Int32 × Sto) ⊕ Sto} (h : bd_X5_take_59 Λ a0 l1 l5 s9 = some r) (kb : ∀ z : (Int32 × Sto), r = .inl z → ∀ (H : Heap) (locs : List Loc) (ls : Array Slot), Rep cA D Λ z.2 H → va_S (dm Λ) s.heap H locs → lv_has ls 8 [(0, .ref a0), (1, .int l1), (5, .int l5), (6, .int z.1)] → W p l e R s m args below meth c H locs 0 0 Q (F0 m 59 ls [])) (kx0 : ∀ z : Sto, r = .inr z → ∀ (H : Heap) (locs : List Loc) (ls : Array Slot), Rep cA D Λ z H → va_S (dm Λ) s.heap H locs → lv_has ls 8 [(0, .ref a0), (1, .int l1), (5, .int l5)] → W p l e R s m args below meth c H locs 0 0 Q (F0 m 115 ls [])) (H : Heap) (locs : List Loc) (ls : Array Slot) (hR : Rep cA D Λ s9.2 H) (hS : va_S (dm Λ) s.heap H locs) (hl : lv_has ls 8 [(0, .ref a0), (1, .int l1), (5, .int l5), (6, .int s9.1)]) : W p l e R s m args below meth c H locs 0 0 Q (F0 m 59 ls []) := by
  have hx := X.1
  have hb := X.2.1
  have hown := X.2.2.2.2.1
  have hts := X.2.2.2.2.2.1
  unfold bd_X5_take_59 at h
  refine lv_iload hx hb dX5_take_59 (lv_at hl 3 rfl) ?_
  refine lv_aload_n hx hb dX5_take_61 rfl (lv_at hl 0 rfl) ?_
  refine rw_getR X hK hT hR 6 2 7 k0 (by decide) (C := RX5) (T := TX5) (N := 24) rfl (by decide) in_X5_take_6 (by decide +kernel) rfl dX5_take_62 (fun kf_9 => ?_)
  refine lv_iload_n hx hb dX5_take_65 rfl (lv_at hl 1 rfl) ?_
  obtain ⟨hg_10, h⟩ := of_guard h
  refine rw_iald X hK hR kf_9 hg_10 dX5_take_66 ?_
  refine lv_icmp_ge (tgt := 115) hx hb dX5_take_67 (by decide) (fun hc => ?_) (fun hc => ?_)
  · have h := of_pos hc h
    exact kx0 s9.2 (Option.some.inj h).symm H locs ls hR hS (lv_sub hl [0, 1, 2] rfl)
  · have h := of_neg hc h
    refine lv_aload_n hx hb dX5_take_70 rfl (lv_at hl 0 rfl) ?_
    refine rw_getR X hK hT hR 6 13 7 k0 (by decide) (C := RX5) (T := TX5) (N := 24) rfl (by decide) in_X5_take_6 (by decide +kernel) rfl dX5_take_71 (fun kf_11 => ?_)
    refine lv_iload hx hb dX5_take_74 (lv_at hl 2 rfl) ?_
    refine lv_bipush (v := (64 : Int32)) hx hb dX5_take_76 (by decide) ?_
    refine lv_imul hx hb dX5_take_78 ?_
    refine lv_iload hx hb dX5_take_79 (lv_at hl 3 rfl) ?_
    refine lv_iadd hx hb dX5_take_81 ?_
    obtain ⟨hg_12, h⟩ := of_guard h
    refine rw_iald X hK hR kf_11 hg_12 dX5_take_82 ?_
    refine lv_topi (fun v_13 e_v_13 => ?_)
    have h := of_nm e_v_13 h
    refine lv_istore (lv' := [(7, .int v_13), (0, .ref a0), (1, .int l1), (5, .int l5), (6, .int s9.1)]) hx hb dX5_take_83 hl (by decide) rfl (fun ls hl => ?_)
    refine lv_iload hx hb dX5_take_85 (lv_at hl 0 rfl) ?_
    refine lv_if_le (tgt := 109) hx hb dX5_take_87 (by decide) (fun hc => ?_) (fun hc => ?_)
    · have h := of_pos hc h
      exact w_jp_X5_take_109 X hK hT hM a0 l1 l5 s9.1 k0 h kb kx0 H locs ls hR hS (lv_sub hl [1, 2, 3, 4] rfl)
    · have h := of_neg hc h
      refine lv_aload_n hx hb dX5_take_90 rfl (lv_at hl 1 rfl) ?_
      refine rw_getR X hK hT hR 6 18 9 k0 (by decide) (C := RX5) (T := TX5) (N := 24) rfl (by decide) in_X5_take_6 (by decide +kernel) rfl dX5_take_91 (fun kf_15 => ?_)
      refine lv_iload hx hb dX5_take_94 (lv_at hl 0 rfl) ?_
      obtain ⟨hg_16, h⟩ := of_guard h
      refine rw_zald X hK hR kf_15 hg_16 dX5_take_96 ?_
      refine lv_if_eq (tgt := 109) hx hb dX5_take_97 (by decide) (fun hc => ?_) (fun hc => ?_)
      · have h := of_pos hc h
        exact w_jp_X5_take_109 X hK hT hM a0 l1 l5 s9.1 k0 h kb kx0 H locs ls hR hS (lv_sub hl [1, 2, 3, 4] rfl)
      · have h := of_neg hc h
        refine lv_aload_n hx hb dX5_take_100 rfl (lv_at hl 1 rfl) ?_
        refine lv_iload_n hx hb dX5_take_101 rfl (lv_at hl 2 rfl) ?_
        refine lv_iload hx hb dX5_take_102 (lv_at hl 4 rfl) ?_
        refine lv_iload hx hb dX5_take_104 (lv_at hl 3 rfl) ?_
        obtain ⟨q_17, hq_17, h⟩ := of_bind h
        refine cl_v (rn_V (As := [.int l1, .int s9.1, .int l5]) (rest := []) X hK hR k0 rfl (by decide) hl.1 (c_X5_takes l cA D Λ hT s9.2 a0 l1 s9.1 l5 k0 hq_17) (cwV 3 hts gX5_take_X5_takes rfl rfl rfl (by decide +kernel) ⟨Nat.le_trans (by decide) hM.1, Nat.le_trans (by decide) hM.2⟩) rfl rfl (Nat.le_of_ble_eq_true rfl) dX5_take_106) hS (fun H locs hR hS => ?_)
        exact w_jp_X5_take_109 X hK hT hM a0 l1 l5 s9.1 k0 h kb kx0 H locs ls hR hS (lv_sub hl [1, 2, 3, 4] rfl)

set_option maxHeartbeats 4000000 in
set_option maxRecDepth 100000 in
theorem w_lp_X5_take_59 (X : Cx cX5_take (some .int) 8 RX5 wsX5_take p s m args meth c) (hK : Kn cA D s) (hT : TL Λ) (hM : 6 ≤ R.frames ∧ 148 ≤ R.locals) (a0 : Nat) (l1 : Int32) (l5 : Int32) (k0 : isK Λ a0 6) {e9 : Sto} : ∀ (n9 : Nat) (s9 : (Int32 × Sto)), iter (bd_X5_take_59 Λ a0 l1 l5) n9 s9 = some e9 → ∀ (kx0 : ∀ (H : Heap) (locs : List Loc) (ls : Array Slot), Rep cA D Λ e9 H → va_S (dm Λ) s.heap H locs → lv_has ls 8 [(0, .ref a0), (1, .int l1), (5, .int l5)] → W p l e R s m args below meth c H locs 0 0 Q (F0 m 115 ls [])), ∀ (H : Heap) (locs : List Loc) (ls : Array Slot), Rep cA D Λ s9.2 H → va_S (dm Λ) s.heap H locs → lv_has ls 8 [(0, .ref a0), (1, .int l1), (5, .int l5), (6, .int s9.1)] → W p l e R s m args below meth c H locs 0 0 Q (F0 m 59 ls []) := by
  intro n9
  induction n9 with
  | zero => intro s9 h; cases h
  | succ n9 ih =>
    intro s9 h kx0 H locs ls hR hS hl
    obtain ⟨r, hr, h⟩ := of_iter h
    refine w_bd_X5_take_59 X hK hT hM a0 l1 l5 s9 k0 hr (fun z ez H locs ls hR hS hl => ?_) (fun z ez H locs ls hR hS hl => ?_) H locs ls hR hS hl
    · exact ih z (of_itl ez h) kx0 H locs ls hR hS hl
    · have he := of_itr ez h; subst he; exact kx0 H locs ls hR hS hl

set_option maxHeartbeats 4000000 in
set_option maxRecDepth 100000 in
theorem w_bd_X5_take_45 (X : Cx cX5_take (some .int) 8 RX5 wsX5_take p s m args meth c) (hK : Kn cA D s) (hT : TL Λ) (hM : 6 ≤ R.frames ∧ 148 ≤ R.locals) (a0 : Nat) (l1 : Int32) (s9 : (Int32 × Sto)) (k0 : isK Λ a0 6) {r : (Int32 × Sto) ⊕ Sto} (h : bd_X5_take_45 Λ a0 l1 s9 = some r) (kb : ∀ z : (Int32 × Sto), r = .inl z → ∀ (H : Heap) (locs : List Loc) (ls : Array Slot), Rep cA D Λ z.2 H → va_S (dm Λ) s.heap H locs → lv_has ls 8 [(0, .ref a0), (1, .int l1), (5, .int z.1)] → W p l e R s m args below meth c H locs 0 0 Q (F0 m 45 ls [])) (kx0 : ∀ z : Sto, r = .inr z → ∀ (H : Heap) (locs : List Loc) (ls : Array Slot), Rep cA D Λ z H → va_S (dm Λ) s.heap H locs → lv_has ls 8 [(0, .ref a0)] → W p l e R s m args below meth c H locs 0 0 Q (F0 m 121 ls [])) (H : Heap) (locs : List Loc) (ls : Array Slot) (hR : Rep cA D Λ s9.2 H) (hS : va_S (dm Λ) s.heap H locs) (hl : lv_has ls 8 [(0, .ref a0), (1, .int l1), (5, .int s9.1)]) : W p l e R s m args below meth c H locs 0 0 Q (F0 m 45 ls []) := by
  have hx := X.1
  have hb := X.2.1
  have hown := X.2.2.2.2.1
  have hts := X.2.2.2.2.2.1
  unfold bd_X5_take_45 at h
  refine lv_iload hx hb dX5_take_45 (lv_at hl 2 rfl) ?_
  refine lv_aload_n hx hb dX5_take_47 rfl (lv_at hl 0 rfl) ?_
  refine rw_getR X hK hT hR 6 3 7 k0 (by decide) (C := RX5) (T := TX5) (N := 24) rfl (by decide) in_X5_take_6 (by decide +kernel) rfl dX5_take_48 (fun kf_7 => ?_)
  refine lv_iload_n hx hb dX5_take_51 rfl (lv_at hl 1 rfl) ?_
  obtain ⟨hg_8, h⟩ := of_guard h
  refine rw_iald X hK hR kf_7 hg_8 dX5_take_52 ?_
  refine lv_icmp_ge (tgt := 121) hx hb dX5_take_53 (by decide) (fun hc => ?_) (fun hc => ?_)
  · have h := of_pos hc h
    exact kx0 s9.2 (Option.some.inj h).symm H locs ls hR hS (lv_sub hl [0] rfl)
  · have h := of_neg hc h
    refine lv_iconst (v := (0 : Int32)) hx hb dX5_take_56 (by decide) ?_
    refine lv_istore (lv' := [(6, .int (0 : Int32)), (0, .ref a0), (1, .int l1), (5, .int s9.1)]) hx hb dX5_take_57 hl (by decide) rfl (fun ls hl => ?_)
    obtain ⟨e_18, hq_18, h⟩ := of_bind h
    refine w_lp_X5_take_59 X hK hT hM a0 l1 s9.1 k0 _ ((0 : Int32), s9.2) hq_18 (fun H locs ls hR hS hl => ?_) H locs ls hR hS (lv_sub hl [1, 2, 3, 0] rfl)
    obtain ⟨v_19, e_v_19⟩ : ∃ y : Int32, y = (s9.1 + (1 : Int32)) := ⟨_, rfl⟩
    have h := of_nm e_v_19 h
    refine lv_iinc (v := v_19) (lv' := [(5, .int v_19), (0, .ref a0), (1, .int l1)]) hx hb dX5_take_115 hl (k := 2) rfl (by rw [e_v_19]; rfl) (by decide) rfl (fun ls hl => ?_)
    refine lv_goto (tgt := 45) hx hb dX5_take_118 (by decide) ?_
    exact kb (v_19, e_18) (Option.some.inj h).symm H locs ls hR hS (lv_sub hl [1, 2, 0] rfl)

set_option maxHeartbeats 4000000 in
set_option maxRecDepth 100000 in
theorem w_lp_X5_take_45 (X : Cx cX5_take (some .int) 8 RX5 wsX5_take p s m args meth c) (hK : Kn cA D s) (hT : TL Λ) (hM : 6 ≤ R.frames ∧ 148 ≤ R.locals) (a0 : Nat) (l1 : Int32) (k0 : isK Λ a0 6) {e9 : Sto} : ∀ (n9 : Nat) (s9 : (Int32 × Sto)), iter (bd_X5_take_45 Λ a0 l1) n9 s9 = some e9 → ∀ (kx0 : ∀ (H : Heap) (locs : List Loc) (ls : Array Slot), Rep cA D Λ e9 H → va_S (dm Λ) s.heap H locs → lv_has ls 8 [(0, .ref a0)] → W p l e R s m args below meth c H locs 0 0 Q (F0 m 121 ls [])), ∀ (H : Heap) (locs : List Loc) (ls : Array Slot), Rep cA D Λ s9.2 H → va_S (dm Λ) s.heap H locs → lv_has ls 8 [(0, .ref a0), (1, .int l1), (5, .int s9.1)] → W p l e R s m args below meth c H locs 0 0 Q (F0 m 45 ls []) := by
  intro n9
  induction n9 with
  | zero => intro s9 h; cases h
  | succ n9 ih =>
    intro s9 h kx0 H locs ls hR hS hl
    obtain ⟨r, hr, h⟩ := of_iter h
    refine w_bd_X5_take_45 X hK hT hM a0 l1 s9 k0 hr (fun z ez H locs ls hR hS hl => ?_) (fun z ez H locs ls hR hS hl => ?_) H locs ls hR hS hl
    · exact ih z (of_itl ez h) kx0 H locs ls hR hS hl
    · have he := of_itr ez h; subst he; exact kx0 H locs ls hR hS hl

set_option maxHeartbeats 4000000 in
set_option maxRecDepth 100000 in
theorem w_X5_take (X : Cx cX5_take (some .int) 8 RX5 wsX5_take p s m args meth c) (hK : Kn cA D s) (hT : TL Λ) (hM : 6 ≤ R.frames ∧ 148 ≤ R.locals) (a0 : Nat) (l1 : Int32) (l2 : Int32) (l3 : Int32) (k0 : isK Λ a0 6) {res : Int32 × Sto} (h : F_X5_take Λ σ a0 l1 l2 l3 = some res) (H : Heap) (locs : List Loc) (ls : Array Slot) (hR : Rep cA D Λ σ H) (hS : va_S (dm Λ) s.heap H locs) (hl : lv_has ls 8 [(0, .ref a0), (1, .int l1), (2, .int l2), (3, .int l3)]) : W p l e R s m args below meth c H locs 0 0 (MQ below (QI cA D Λ res) args s 0 0 (dm Λ)) (F0 m 0 ls []) := by
  have hx := X.1
  have hb := X.2.1
  have hown := X.2.2.2.2.1
  have hts := X.2.2.2.2.2.1
  unfold F_X5_take at h
  refine lv_aload_n hx hb dX5_take_0 rfl (lv_at hl 0 rfl) ?_
  refine lv_iconst (v := (0 : Int32)) hx hb dX5_take_1 (by decide) ?_
  refine rw_putI X hK hT hR hS 6 0 tyX5 k0 (by decide) (C := RX5) (T := TX5) (N := 24) rfl (by decide) in_X5_take_6 tyX5_ok nmX5 (by decide +kernel) rfl rfl (by decide +kernel) dX5_take_2 (fun σ_1 H locs e_1 hR hS => ?_)
  have h := of_nm e_1 h
  refine lv_aload_n hx hb dX5_take_5 rfl (lv_at hl 0 rfl) ?_
  refine lv_iload_n hx hb dX5_take_6 rfl (lv_at hl 1 rfl) ?_
  refine cl_z (rn_V (As := [.int l1]) (rest := []) X hK hR k0 rfl (by decide) hl.1 (c_X5_isPage l cA D Λ hT σ_1 a0 l1 k0) (cwV 1 hts gX5_take_X5_isPage rfl rfl rfl (by decide +kernel) ⟨Nat.le_trans (by decide) hM.1, Nat.le_trans (by decide) hM.2⟩) rfl rfl (Nat.le_of_ble_eq_true rfl) dX5_take_7) hS (fun hz_2 H locs hR hS => ?_)
  refine lv_topi (fun r_2 e_2 => ?_)
  have h := of_nm e_2 h
  have hz_2 : r_2 = 0 ∨ r_2 = 1 := by rw [e_2]; exact hz_2
  refine lv_if_eq (tgt := 21) hx hb dX5_take_10 (by decide) (fun hc => ?_) (fun hc => ?_)
  · have h := of_pos hc h
    refine lv_iconst (v := (-1 : Int32)) hx hb dX5_take_21 (by decide) ?_
    exact rt_i X hR hS (Option.some.inj h) dX5_take_22
  · have h := of_neg hc h
    refine lv_iload_n hx hb dX5_take_13 rfl (lv_at hl 2 rfl) ?_
    refine lv_iload_n hx hb dX5_take_14 rfl (lv_at hl 3 rfl) ?_
    refine cl_z (rn_S (As := [.int l2, .int l3]) (rest := []) X hK hR hl.1 (c_X5_areSpecks l cA D Λ hT σ_1 l2 l3) (va_cwS 2 hts gX5_take_X5_areSpecks rfl rfl rfl (by decide +kernel) ⟨Nat.le_trans (by decide) hM.1, Nat.le_trans (by decide) hM.2⟩) rfl rfl (Nat.le_of_ble_eq_true rfl) dX5_take_15) hS (fun hz_3 H locs hR hS => ?_)
    refine lv_topi (fun r_3 e_3 => ?_)
    have h := of_nm e_3 h
    have hz_3 : r_3 = 0 ∨ r_3 = 1 := by rw [e_3]; exact hz_3
    refine lv_if_ne (tgt := 23) hx hb dX5_take_18 (by decide) (fun hc => ?_) (fun hc => ?_)
    · have h := of_neg hc h
      refine lv_aload_n hx hb dX5_take_23 rfl (lv_at hl 0 rfl) ?_
      refine lv_iload_n hx hb dX5_take_24 rfl (lv_at hl 1 rfl) ?_
      obtain ⟨q_4, hq_4, h⟩ := of_bind h
      refine cl_v (rn_V (As := [.int l1]) (rest := []) X hK hR k0 rfl (by decide) hl.1 (c_X5_changing l cA D Λ hT σ_1 a0 l1 k0 hq_4) (cwV 1 hts gX5_take_X5_changing rfl rfl rfl (by decide +kernel) ⟨Nat.le_trans (by decide) hM.1, Nat.le_trans (by decide) hM.2⟩) rfl rfl (Nat.le_of_ble_eq_true rfl) dX5_take_25) hS (fun H locs hR hS => ?_)
      refine lv_aload_n hx hb dX5_take_28 rfl (lv_at hl 0 rfl) ?_
      refine lv_iload_n hx hb dX5_take_29 rfl (lv_at hl 1 rfl) ?_
      refine lv_iload_n hx hb dX5_take_30 rfl (lv_at hl 2 rfl) ?_
      refine lv_iload_n hx hb dX5_take_31 rfl (lv_at hl 3 rfl) ?_
      obtain ⟨q_5, hq_5, h⟩ := of_bind h
      refine cl_i (rn_V (As := [.int l1, .int l2, .int l3]) (rest := []) X hK hR k0 rfl (by decide) hl.1 (c_X5_findsSpecks l cA D Λ hT q_4 a0 l1 l2 l3 k0 hq_5) (cwV 3 hts gX5_take_X5_findsSpecks rfl rfl rfl (by decide +kernel) ⟨Nat.le_trans (by decide) hM.1, Nat.le_trans (by decide) hM.2⟩) rfl rfl (Nat.le_of_ble_eq_true rfl) dX5_take_32) hS (fun H locs hR hS => ?_)
      refine lv_istore (lv' := [(4, .int q_5.1), (0, .ref a0), (1, .int l1), (2, .int l2), (3, .int l3)]) hx hb dX5_take_35 hl (by decide) rfl (fun ls hl => ?_)
      refine lv_aload_n hx hb dX5_take_37 rfl (lv_at hl 1 rfl) ?_
      refine lv_iconst (v := (0 : Int32)) hx hb dX5_take_38 (by decide) ?_
      refine rw_putI X hK hT hR hS 6 19 tyX5 k0 (by decide) (C := RX5) (T := TX5) (N := 24) rfl (by decide) in_X5_take_6 tyX5_ok nmX5 (by decide +kernel) rfl rfl (by decide +kernel) dX5_take_39 (fun σ_6 H locs e_6 hR hS => ?_)
      have h := of_nm e_6 h
      refine lv_iconst (v := (0 : Int32)) hx hb dX5_take_42 (by decide) ?_
      refine lv_istore (lv' := [(5, .int (0 : Int32)), (4, .int q_5.1), (0, .ref a0), (1, .int l1), (2, .int l2), (3, .int l3)]) hx hb dX5_take_43 hl (by decide) rfl (fun ls hl => ?_)
      obtain ⟨e_20, hq_20, h⟩ := of_bind h
      refine w_lp_X5_take_45 X hK hT hM a0 l1 k0 _ ((0 : Int32), σ_6) hq_20 (fun H locs ls hR hS hl => ?_) H locs ls hR hS (lv_sub hl [2, 3, 0] rfl)
      refine lv_aload_n hx hb dX5_take_121 rfl (lv_at hl 0 rfl) ?_
      refine rw_getI X hK hR 6 19 k0 (by decide) (C := RX5) (T := TX5) (N := 24) rfl (by decide) in_X5_take_6 (by decide +kernel) rfl dX5_take_122 ?_
      exact rt_i X hR hS (Option.some.inj h) dX5_take_125
    · have h := of_pos hc h
      refine lv_iconst (v := (-1 : Int32)) hx hb dX5_take_21 (by decide) ?_
      exact rt_i X hR hS (Option.some.inj h) dX5_take_22

set_option maxHeartbeats 4000000 in
set_option maxRecDepth 100000 in
theorem c_X5_take (l : Launch) (cA : Nat → ClassId) (D : va_G) (Λ : Lay) (hT : TL Λ) (σ : Sto) (a0 : Nat) (l1 : Int32) (l2 : Int32) (l3 : Int32) (k0 : isK Λ a0 6) {res : Int32 × Sto} (h : F_X5_take Λ σ a0 l1 l2 l3 = some res) : Met l yX5_take wsX5_take { frames := 6, cells := 0, slots := 0, locals := 148 } (va_Pc [.ref a0, .int l1, .int l2, .int l3] (PW cA D Λ σ)) (QI cA D Λ res) 0 0 (dm Λ) := by
  refine Met.ofW (cc := cX5_take) (maxL := 8) (ret := (some .int)) (by decide) rfl ?_
  intro p e s m args below meth c s₁ B hml hv
  obtain ⟨rfl, hR, hK⟩ := hv
  have X : Cx cX5_take (some .int) 8 RX5 wsX5_take p s m _ meth c := ⟨B.exec, B.bytes, B.returns, hml, findClass_of_methodNamed B.named, atoms_spec (ws := wsX5_take) B.pre, B.notSynchronized⟩
  have hS : va_S (dm Λ) s.heap s.heap [] := va_S.rf
  have hl := lv_entry ([.ref a0, .int l1, .int l2, .int l3]) (n := 8) (Nat.le_of_ble_eq_true rfl)
  rw [lg_entry_eq]
  generalize (lg_sl ([.ref a0, .int l1, .int l2, .int l3]) ++ List.replicate (8 - (lg_sl ([.ref a0, .int l1, .int l2, .int l3])).length) Slot.unset).toArray = ls at hl ⊢
  have hl : lv_has ls 8 [(0, .ref a0), (1, .int l1), (2, .int l2), (3, .int l3)] := hl
  exact w_X5_take X hK hT ⟨Nat.le_refl _, Nat.le_refl _⟩ a0 l1 l2 l3 k0 h s.heap [] ls hR hS hl
theorem in_X5_isDark_6 : ∀ w ∈ u_ws RX5 TX5 24, w ∈ wsX5_isDark := by decide +kernel
set_option maxHeartbeats 4000000 in
set_option maxRecDepth 100000 in
theorem w_X5_isDark (X : Cx cX5_isDark (some .boolean) 4 RX5 wsX5_isDark p s m args meth c) (hK : Kn cA D s) (hT : TL Λ) (hM : 2 ≤ R.frames ∧ 47 ≤ R.locals) (a0 : Nat) (l1 : Int32) (l2 : Int32) (l3 : Int32) (k0 : isK Λ a0 6) {res : Int32} (h : F_X5_isDark Λ σ a0 l1 l2 l3 = some res) (H : Heap) (locs : List Loc) (ls : Array Slot) (hR : Rep cA D Λ σ H) (hS : va_S (dm Λ) s.heap H locs) (hl : lv_has ls 4 [(0, .ref a0), (1, .int l1), (2, .int l2), (3, .int l3)]) : W p l e R s m args below meth c H locs 0 0 (MQ below (QZ cA D Λ (res, σ)) args s 0 0 (dm Λ)) (F0 m 0 ls []) := by
  have hx := X.1
  have hb := X.2.1
  have hown := X.2.2.2.2.1
  have hts := X.2.2.2.2.2.1
  unfold F_X5_isDark at h
  refine lv_bipush (v := (100 : Int32)) hx hb dX5_isDark_0 (by decide) ?_
  refine lv_aload_n hx hb dX5_isDark_2 rfl (lv_at hl 0 rfl) ?_
  refine lv_iload_n hx hb dX5_isDark_3 rfl (lv_at hl 1 rfl) ?_
  refine lv_iload_n hx hb dX5_isDark_4 rfl (lv_at hl 2 rfl) ?_
  obtain ⟨q_1, hq_1, h⟩ := of_bind h
  refine cl_i (rn_V (As := [.int l1, .int l2]) (rest := [.int (100 : Int32)]) X hK hR k0 rfl (by decide) hl.1 (c_X5_columnInk l cA D Λ hT σ a0 l1 l2 k0 hq_1) (cwV 2 hts gX5_isDark_X5_columnInk rfl rfl rfl (by decide +kernel) ⟨Nat.le_trans (by decide) hM.1, Nat.le_trans (by decide) hM.2⟩) rfl rfl (Nat.le_of_ble_eq_true rfl) dX5_isDark_5) hS (fun H locs hR hS => ?_)
  refine lv_imul hx hb dX5_isDark_8 ?_
  refine lv_iload_n hx hb dX5_isDark_9 rfl (lv_at hl 3 rfl) ?_
  refine lv_aload_n hx hb dX5_isDark_10 rfl (lv_at hl 0 rfl) ?_
  refine rw_getR X hK hT hR 6 3 7 k0 (by decide) (C := RX5) (T := TX5) (N := 24) rfl (by decide) in_X5_isDark_6 (by decide +kernel) rfl dX5_isDark_11 (fun kf_2 => ?_)
  refine lv_iload_n hx hb dX5_isDark_14 rfl (lv_at hl 1 rfl) ?_
  obtain ⟨hg_3, h⟩ := of_guard h
  refine rw_iald X hK hR kf_2 hg_3 dX5_isDark_15 ?_
  refine lv_imul hx hb dX5_isDark_16 ?_
  refine lv_icmp_lt (tgt := 24) hx hb dX5_isDark_17 (by decide) (fun hc => ?_) (fun hc => ?_)
  · have h := of_pos hc h
    refine lv_iconst (v := (0 : Int32)) hx hb dX5_isDark_24 (by decide) ?_
    exact rt_z X hR hS (congrArg (fun z => (z, σ)) (Option.some.inj h)) (Or.inl rfl) dX5_isDark_25
  · have h := of_neg hc h
    refine lv_iconst (v := (1 : Int32)) hx hb dX5_isDark_20 (by decide) ?_
    refine lv_goto (tgt := 25) hx hb dX5_isDark_21 (by decide) ?_
    exact rt_z X hR hS (congrArg (fun z => (z, σ)) (Option.some.inj h)) (Or.inr rfl) dX5_isDark_25

set_option maxHeartbeats 4000000 in
set_option maxRecDepth 100000 in
theorem c_X5_isDark (l : Launch) (cA : Nat → ClassId) (D : va_G) (Λ : Lay) (hT : TL Λ) (σ : Sto) (a0 : Nat) (l1 : Int32) (l2 : Int32) (l3 : Int32) (k0 : isK Λ a0 6) {res : Int32} (h : F_X5_isDark Λ σ a0 l1 l2 l3 = some res) : Met l yX5_isDark wsX5_isDark { frames := 2, cells := 0, slots := 0, locals := 47 } (va_Pc [.ref a0, .int l1, .int l2, .int l3] (PW cA D Λ σ)) (QZ cA D Λ (res, σ)) 0 0 (dm Λ) := by
  refine Met.ofW (cc := cX5_isDark) (maxL := 4) (ret := (some .boolean)) (by decide) rfl ?_
  intro p e s m args below meth c s₁ B hml hv
  obtain ⟨rfl, hR, hK⟩ := hv
  have X : Cx cX5_isDark (some .boolean) 4 RX5 wsX5_isDark p s m _ meth c := ⟨B.exec, B.bytes, B.returns, hml, findClass_of_methodNamed B.named, atoms_spec (ws := wsX5_isDark) B.pre, B.notSynchronized⟩
  have hS : va_S (dm Λ) s.heap s.heap [] := va_S.rf
  have hl := lv_entry ([.ref a0, .int l1, .int l2, .int l3]) (n := 4) (Nat.le_of_ble_eq_true rfl)
  rw [lg_entry_eq]
  generalize (lg_sl ([.ref a0, .int l1, .int l2, .int l3]) ++ List.replicate (4 - (lg_sl ([.ref a0, .int l1, .int l2, .int l3])).length) Slot.unset).toArray = ls at hl ⊢
  have hl : lv_has ls 4 [(0, .ref a0), (1, .int l1), (2, .int l2), (3, .int l3)] := hl
  exact w_X5_isDark X hK hT ⟨Nat.le_refl _, Nat.le_refl _⟩ a0 l1 l2 l3 k0 h s.heap [] ls hR hS hl
