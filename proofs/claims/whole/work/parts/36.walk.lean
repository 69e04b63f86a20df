variable {p : Program} {l : Launch} {e : Env} {R : Room} {s : State} {m : MethodId} {args : Array Value} {below : List Frame} {meth : Method} {c : Code} {Q : State → Prop} {cA : Nat → ClassId} {D : va_G} {Λ : Lay} {σ : Sto}
theorem in_X5_shadow_6 : ∀ w ∈ u_ws RX5 TX5 24, w ∈ wsX5_shadow := by decide +kernel
set_option maxHeartbeats 4000000 in
set_option maxRecDepth 100000 in
theorem w_bd_X5_shadow_42 (X : Cx cX5_shadow (some .int) 8 RX5 wsX5_shadow p s m args meth c) (hK : Kn cA D s) (hT : TL Λ) (hM : 3 ≤ R.frames ∧ 70 ≤ R.locals) (a0 : Nat) (l1 : Int32) (l2 : Int32) (l3 : Int32) (s9 : Int32) (k0 : isK Λ a0 6) {r : Int32 ⊕ Int32} (h : bd_X5_shadow_42 Λ σ a0 l1 l2 l3 s9 = some r) (kb : ∀ z : Int32, r = .inl z → ∀ (H : Heap) (locs : List Loc) (ls : Array Slot), Rep cA D Λ σ H → va_S (dm Λ) s.heap H locs → lv_has ls 8 [(0, .ref a0), (1, .int l1), (2, .int l2), (3, .int l3), (4, .int z)] → W p l e R s m args below meth c H locs 0 0 Q (F0 m 42 ls [])) (kx0 : ∀ z : Int32, r = .inr z → ∀ (H : Heap) (locs : List Loc) (ls : Array Slot), Rep cA D Λ σ H → va_S (dm Λ) s.heap H locs → lv_has ls 8 [(0, .ref a0), (1, .int l1), (2, .int l2), (3, .int l3), (4, .int z)] → W p l e R s m args below meth c H locs 0 0 Q (F0 m 65 ls [])) (H : Heap) (locs : List Loc) (ls : Array Slot) (hR : Rep cA D Λ σ H) (hS : va_S (dm Λ) s.heap H locs) (hl : lv_has ls 8 [(0, .ref a0), (1, .int l1), (2, .int l2), (3, .int l3), (4, .int s9)]) : W p l e R s m args below meth c H locs 0 0 Q (F0 m 42 ls []) := by
  have hx := X.1
  have hb := X.2.1
  have hown := X.2.2.2.2.1
  have hts := X.2.2.2.2.2.1
  unfold bd_X5_shadow_42 at h
  refine lv_iload hx hb dX5_shadow_42 (lv_at hl 4 rfl) ?_
  refine lv_iload_n hx hb dX5_shadow_44 rfl (lv_at hl 3 rfl) ?_
  refine lv_icmp_ge (tgt := 65) hx hb dX5_shadow_45 (by decide) (fun hc => ?_) (fun hc => ?_)
  · have h := of_pos hc h
    exact kx0 s9 (Option.some.inj h).symm H locs ls hR hS (lv_sub hl [0, 1, 2, 3, 4] rfl)
  · have h := of_neg hc h
    refine lv_aload_n hx hb dX5_shadow_48 rfl (lv_at hl 0 rfl) ?_
    refine lv_iload_n hx hb dX5_shadow_49 rfl (lv_at hl 1 rfl) ?_
    refine lv_iload hx hb dX5_shadow_50 (lv_at hl 4 rfl) ?_
    refine lv_iload_n hx hb dX5_shadow_52 rfl (lv_at hl 2 rfl) ?_
    obtain ⟨q_8, hq_8, h⟩ := of_bind h
    refine cl_z (rn_V (As := [.int l1, .int s9, .int l2]) (rest := []) X hK hR k0 rfl (by decide) hl.1 (c_X5_isDark l cA D Λ hT σ a0 l1 s9 l2 k0 hq_8) (cwV 3 hts gX5_shadow_X5_isDark rfl rfl rfl (by decide +kernel) ⟨Nat.le_trans (by decide) hM.1, Nat.le_trans (by decide) hM.2⟩) rfl rfl (Nat.le_of_ble_eq_true rfl) dX5_shadow_53) hS (fun hz_8 H locs hR hS => ?_)
    refine lv_if_eq (tgt := 65) hx hb dX5_shadow_56 (by decide) (fun hc => ?_) (fun hc => ?_)
    · have h := of_pos hc h
      exact kx0 s9 (Option.some.inj h).symm H locs ls hR hS (lv_sub hl [0, 1, 2, 3, 4] rfl)
    · have h := of_neg hc h
      obtain ⟨v_9, e_v_9⟩ : ∃ y : Int32, y = (s9 + (1 : Int32)) := ⟨_, rfl⟩
      have h := of_nm e_v_9 h
      refine lv_iinc (v := v_9) (lv' := [(4, .int v_9), (0, .ref a0), (1, .int l1), (2, .int l2), (3, .int l3)]) hx hb dX5_shadow_59 hl (k := 4) rfl (by rw [e_v_9]; rfl) (by decide) rfl (fun ls hl => ?_)
      refine lv_goto (tgt := 42) hx hb dX5_shadow_62 (by decide) ?_
      exact kb v_9 (Option.some.inj h).symm H locs ls hR hS (lv_sub hl [1, 2, 3, 4, 0] rfl)

set_option maxHeartbeats 4000000 in
set_option maxRecDepth 100000 in
theorem w_lp_X5_shadow_42 (X : Cx cX5_shadow (some .int) 8 RX5 wsX5_shadow p s m args meth c) (hK : Kn cA D s) (hT : TL Λ) (hM : 3 ≤ R.frames ∧ 70 ≤ R.locals) (a0 : Nat) (l1 : Int32) (l2 : Int32) (l3 : Int32) (k0 : isK Λ a0 6) {e9 : Int32} : ∀ (n9 : Nat) (s9 : Int32), iter (bd_X5_shadow_42 Λ σ a0 l1 l2 l3) n9 s9 = some e9 → ∀ (kx0 : ∀ (H : Heap) (locs : List Loc) (ls : Array Slot), Rep cA D Λ σ H → va_S (dm Λ) s.heap H locs → lv_has ls 8 [(0, .ref a0), (1, .int l1), (2, .int l2), (3, .int l3), (4, .int e9)] → W p l e R s m args below meth c H locs 0 0 Q (F0 m 65 ls [])), ∀ (H : Heap) (locs : List Loc) (ls : Array Slot), Rep cA D Λ σ H → va_S (dm Λ) s.heap H locs → lv_has ls 8 [(0, .ref a0), (1, .int l1), (2, .int l2), (3, .int l3), (4, .int s9)] → W p l e R s m args below meth c H locs 0 0 Q (F0 m 42 ls []) := by
  intro n9
  induction n9 with
  | zero => intro s9 h; cases h
  | succ n9 ih =>
    intro s9 h kx0 H locs ls hR hS hl
    obtain ⟨r, hr, h⟩ := of_iter h
    refine w_bd_X5_shadow_42 X hK hT hM a0 l1 l2 l3 s9 k0 hr (fun z ez H locs ls hR hS hl => ?_) (fun z ez H locs ls hR hS hl => ?_) H locs ls hR hS hl
    · exact ih z (of_itl ez h) kx0 H locs ls hR hS hl
    · have he := of_itr ez h; subst he; exact kx0 H locs ls hR hS hl

set_option maxHeartbeats 4000000 in
set_option maxRecDepth 100000 in
theorem w_bd_X5_shadow_68 (X : Cx cX5_shadow (some .int) 8 RX5 wsX5_shadow p s m args meth c) (hK : Kn cA D s) (hT : TL Λ) (hM : 3 ≤ R.frames ∧ 70 ≤ R.locals) (a0 : Nat) (l1 : Int32) (l2 : Int32) (l3 : Int32) (l4 : Int32) (s9 : Int32) (k0 : isK Λ a0 6) {r : Int32 ⊕ Int32} (h : bd_X5_shadow_68 Λ σ a0 l1 l2 l3 l4 s9 = some r) (kb : ∀ z : Int32, r = .inl z → ∀ (H : Heap) (locs : List Loc) (ls : Array Slot), Rep cA D Λ σ H → va_S (dm Λ) s.heap H locs → lv_has ls 8 [(0, .ref a0), (1, .int l1), (2, .int l2), (3, .int l3), (4, .int l4), (5, .int z)] → W p l e R s m args below meth c H locs 0 0 Q (F0 m 68 ls [])) (kx0 : ∀ z : Int32, r = .inr z → ∀ (H : Heap) (locs : List Loc) (ls : Array Slot), Rep cA D Λ σ H → va_S (dm Λ) s.heap H locs → lv_has ls 8 [(0, .ref a0), (1, .int l1), (3, .int l3), (4, .int l4), (5, .int z)] → W p l e R s m args below meth c H locs 0 0 Q (F0 m 95 ls [])) (H : Heap) (locs : List Loc) (ls : Array Slot) (hR : Rep cA D Λ σ H) (hS : va_S (dm Λ) s.heap H locs) (hl : lv_has ls 8 [(0, .ref a0), (1, .int l1), (2, .int l2), (3, .int l3), (4, .int l4), (5, .int s9)]) : W p l e R s m args below meth c H locs 0 0 Q (F0 m 68 ls []) := by
  have hx := X.1
  have hb := X.2.1
  have hown := X.2.2.2.2.1
  have hts := X.2.2.2.2.2.1
  unfold bd_X5_shadow_68 at h
  refine lv_iload hx hb dX5_shadow_68 (lv_at hl 4 rfl) ?_
  refine lv_iload_n hx hb dX5_shadow_70 rfl (lv_at hl 3 rfl) ?_
  refine lv_icmp_ge (tgt := 95) hx hb dX5_shadow_71 (by decide) (fun hc => ?_) (fun hc => ?_)
  · have h := of_pos hc h
    exact kx0 s9 (Option.some.inj h).symm H locs ls hR hS (lv_sub hl [0, 1, 3, 4, 5] rfl)
  · have h := of_neg hc h
    refine lv_aload_n hx hb dX5_shadow_74 rfl (lv_at hl 0 rfl) ?_
    refine lv_iload_n hx hb dX5_shadow_75 rfl (lv_at hl 1 rfl) ?_
    refine lv_iload_n hx hb dX5_shadow_76 rfl (lv_at hl 3 rfl) ?_
    refine lv_iconst (v := (1 : Int32)) hx hb dX5_shadow_77 (by decide) ?_
    refine lv_isub hx hb dX5_shadow_78 ?_
    refine lv_iload hx hb dX5_shadow_79 (lv_at hl 5 rfl) ?_
    refine lv_isub hx hb dX5_shadow_81 ?_
    refine lv_iload_n hx hb dX5_shadow_82 rfl (lv_at hl 2 rfl) ?_
    obtain ⟨q_11, hq_11, h⟩ := of_bind h
    refine cl_z (rn_V (As := [.int l1, .int ((l3 - (1 : Int32)) - s9), .int l2]) (rest := []) X hK hR k0 rfl (by decide) hl.1 (c_X5_isDark l cA D Λ hT σ a0 l1 ((l3 - (1 : Int32)) - s9) l2 k0 hq_11) (cwV 3 hts gX5_shadow_X5_isDark rfl rfl rfl (by decide +kernel) ⟨Nat.le_trans (by decide) hM.1, Nat.le_trans (by decide) hM.2⟩) rfl rfl (Nat.le_of_ble_eq_true rfl) dX5_shadow_83) hS (fun hz_11 H locs hR hS => ?_)
    refine lv_if_eq (tgt := 95) hx hb dX5_shadow_86 (by decide) (fun hc => ?_) (fun hc => ?_)
    · have h := of_pos hc h
      exact kx0 s9 (Option.some.inj h).symm H locs ls hR hS (lv_sub hl [0, 1, 3, 4, 5] rfl)
    · have h := of_neg hc h
      obtain ⟨v_12, e_v_12⟩ : ∃ y : Int32, y = (s9 + (1 : Int32)) := ⟨_, rfl⟩
      have h := of_nm e_v_12 h
      refine lv_iinc (v := v_12) (lv' := [(5, .int v_12), (0, .ref a0), (1, .int l1), (2, .int l2), (3, .int l3), (4, .int l4)]) hx hb dX5_shadow_89 hl (k := 5) rfl (by rw [e_v_12]; rfl) (by decide) rfl (fun ls hl => ?_)
      refine lv_goto (tgt := 68) hx hb dX5_shadow_92 (by decide) ?_
      exact kb v_12 (Option.some.inj h).symm H locs ls hR hS (lv_sub hl [1, 2, 3, 4, 5, 0] rfl)

set_option maxHeartbeats 4000000 in
set_option maxRecDepth 100000 in
theorem w_lp_X5_shadow_68 (X : Cx cX5_shadow (some .int) 8 RX5 wsX5_shadow p s m args meth c) (hK : Kn cA D s) (hT : TL Λ) (hM : 3 ≤ R.frames ∧ 70 ≤ R.locals) (a0 : Nat) (l1 : Int32) (l2 : Int32) (l3 : Int32) (l4 : Int32) (k0 : isK Λ a0 6) {e9 : Int32} : ∀ (n9 : Nat) (s9 : Int32), iter (bd_X5_shadow_68 Λ σ a0 l1 l2 l3 l4) n9 s9 = some e9 → ∀ (kx0 : ∀ (H : Heap) (locs : List Loc) (ls : Array Slot), Rep cA D Λ σ H → va_S (dm Λ) s.heap H locs → lv_has ls 8 [(0, .ref a0), (1, .int l1), (3, .int l3), (4, .int l4), (5, .int e9)] → W p l e R s m args below meth c H locs 0 0 Q (F0 m 95 ls [])), ∀ (H : Heap) (locs : List Loc) (ls : Array Slot), Rep cA D Λ σ H → va_S (dm Λ) s.heap H locs → lv_has ls 8 [(0, .ref a0), (1, .int l1), (2, .int l2), (3, .int l3), (4, .int l4), (5, .int s9)] → W p l e R s m args below meth c H locs 0 0 Q (F0 m 68 ls []) := by
  intro n9
  induction n9 with
  | zero => intro s9 h; cases h
  | succ n9 ih =>
    intro s9 h kx0 H locs ls hR hS hl
    obtain ⟨r, hr, h⟩ := of_iter h
    refine w_bd_X5_shadow_68 X hK hT hM a0 l1 l2 l3 l4 s9 k0 hr (fun z ez H locs ls hR hS hl => ?_) (fun z ez H locs ls hR hS hl => ?_) H locs ls hR hS hl
    · exact ih z (of_itl ez h) kx0 H locs ls hR hS hl
    · have he := of_itr ez h; subst he; exact kx0 H locs ls hR hS hl

set_option maxHeartbeats 4000000 in
set_option maxRecDepth 100000 in
theorem w_jp_X5_shadow_174 (X : Cx cX5_shadow (some .int) 8 RX5 wsX5_shadow p s m args meth c) (hK : Kn cA D s) (hT : TL Λ) (hM : 3 ≤ R.frames ∧ 70 ≤ R.locals) (a0 : Nat) (l1 : Int32) (l3 : Int32) (l4 : Int32) (l5 : Int32) (l6 : Int32) (l7 : Int32)  (k0 : isK Λ a0 6) {r : (Int32 × Sto) ⊕ Sto} (h : jp_X5_shadow_174 Λ σ a0 l1 l3 l4 l5 l6 l7 = some r) (kb : ∀ z : (Int32 × Sto), r = .inl z → ∀ (H : Heap) (locs : List Loc) (ls : Array Slot), Rep cA D Λ z.2 H → va_S (dm Λ) s.heap H locs → lv_has ls 8 [(0, .ref a0), (1, .int l1), (3, .int l3), (4, .int l4), (5, .int l5), (6, .int l6), (7, .int z.1)] → W p l e R s m args below meth c H locs 0 0 Q (F0 m 131 ls [])) (kx0 : ∀ z : Sto, r = .inr z → ∀ (H : Heap) (locs : List Loc) (ls : Array Slot), Rep cA D Λ z H → va_S (dm Λ) s.heap H locs → lv_has ls 8 [(0, .ref a0), (1, .int l1), (3, .int l3), (4, .int l4), (5, .int l5), (6, .int l6)] → W p l e R s m args below meth c H locs 0 0 Q (F0 m 180 ls [])) (H : Heap) (locs : List Loc) (ls : Array Slot) (hR : Rep cA D Λ σ H) (hS : va_S (dm Λ) s.heap H locs) (hl : lv_has ls 8 [(0, .ref a0), (1, .int l1), (3, .int l3), (4, .int l4), (5, .int l5), (6, .int l6), (7, .int l7)]) : W p l e R s m args below meth c H locs 0 0 Q (F0 m 174 ls []) := by
  have hx := X.1
  have hb := X.2.1
  have hown := X.2.2.2.2.1
  have hts := X.2.2.2.2.2.1
  unfold jp_X5_shadow_174 at h
  obtain ⟨v_18, e_v_18⟩ : ∃ y : Int32, y = (l7 + (1 : Int32)) := ⟨_, rfl⟩
  have h := of_nm e_v_18 h
  refine lv_iinc (v := v_18) (lv' := [(7, .int v_18), (0, .ref a0), (1, .int l1), (3, .int l3), (4, .int l4), (5, .int l5), (6, .int l6)]) hx hb dX5_shadow_174 hl (k := 6) rfl (by rw [e_v_18]; rfl) (by decide) rfl (fun ls hl => ?_)
  refine lv_goto (tgt := 131) hx hb dX5_shadow_177 (by decide) ?_
  exact kb (v_18, σ) (Option.some.inj h).symm H locs ls hR hS (lv_sub hl [1, 2, 3, 4, 5, 6, 0] rfl)

set_option maxHeartbeats 4000000 in
set_option maxRecDepth 100000 in
theorem w_jp_X5_shadow_153 (X : Cx cX5_shadow (some .int) 8 RX5 wsX5_shadow p s m args meth c) (hK : Kn cA D s) (hT : TL Λ) (hM : 3 ≤ R.frames ∧ 70 ≤ R.locals) (a0 : Nat) (l1 : Int32) (l3 : Int32) (l4 : Int32) (l5 : Int32) (l6 : Int32) (l7 : Int32)  (k0 : isK Λ a0 6) {r : (Int32 × Sto) ⊕ Sto} (h : jp_X5_shadow_153 Λ σ a0 l1 l3 l4 l5 l6 l7 = some r) (kb : ∀ z : (Int32 × Sto), r = .inl z → ∀ (H : Heap) (locs : List Loc) (ls : Array Slot), Rep cA D Λ z.2 H → va_S (dm Λ) s.heap H locs → lv_has ls 8 [(0, .ref a0), (1, .int l1), (3, .int l3), (4, .int l4), (5, .int l5), (6, .int l6), (7, .int z.1)] → W p l e R s m args below meth c H locs 0 0 Q (F0 m 131 ls [])) (kx0 : ∀ z : Sto, r = .inr z → ∀ (H : Heap) (locs : List Loc) (ls : Array Slot), Rep cA D Λ z H → va_S (dm Λ) s.heap H locs → lv_has ls 8 [(0, .ref a0), (1, .int l1), (3, .int l3), (4, .int l4), (5, .int l5), (6, .int l6)] → W p l e R s m args below meth c H locs 0 0 Q (F0 m 180 ls [])) (H : Heap) (locs : List Loc) (ls : Array Slot) (hR : Rep cA D Λ σ H) (hS : va_S (dm Λ) s.heap H locs) (hl : lv_has ls 8 [(0, .ref a0), (1, .int l1), (3, .int l3), (4, .int l4), (5, .int l5), (6, .int l6), (7, .int l7)]) : W p l e R s m args below meth c H locs 0 0 Q (F0 m 153 ls []) := by
  have hx := X.1
  have hb := X.2.1
  have hown := X.2.2.2.2.1
  have hts := X.2.2.2.2.2.1
  unfold jp_X5_shadow_153 at h
  refine lv_aload_n hx hb dX5_shadow_153 rfl (lv_at hl 0 rfl) ?_
  refine lv_iload_n hx hb dX5_shadow_154 rfl (lv_at hl 1 rfl) ?_
  refine lv_iload hx hb dX5_shadow_155 (lv_at hl 6 rfl) ?_
  refine lv_iload hx hb dX5_shadow_157 (lv_at hl 5 rfl) ?_
  obtain ⟨q_17, hq_17, h⟩ := of_bind h
  refine cl_z (rn_V (As := [.int l1, .int l7, .int l6]) (rest := []) X hK hR k0 rfl (by decide) hl.1 (c_X5_has l cA D Λ hT σ a0 l1 l7 l6 k0 hq_17) (cwV 3 hts gX5_shadow_X5_has rfl rfl rfl (by decide +kernel) ⟨Nat.le_trans (by decide) hM.1, Nat.le_trans (by decide) hM.2⟩) rfl rfl (Nat.le_of_ble_eq_true rfl) dX5_shadow_159) hS (fun hz_17 H locs hR hS => ?_)
  refine lv_if_eq (tgt := 174) hx hb dX5_shadow_162 (by decide) (fun hc => ?_) (fun hc => ?_)
  · have h := of_pos hc h
    exact w_jp_X5_shadow_174 X hK hT hM a0 l1 l3 l4 l5 l6 l7 k0 h kb kx0 H locs ls hR hS (lv_sub hl [0, 1, 2, 3, 4, 5, 6] rfl)
  · have h := of_neg hc h
    refine lv_aload_n hx hb dX5_shadow_165 rfl (lv_at hl 0 rfl) ?_
    refine lv_iload_n hx hb dX5_shadow_166 rfl (lv_at hl 1 rfl) ?_
    refine lv_iload hx hb dX5_shadow_167 (lv_at hl 6 rfl) ?_
    refine lv_iload hx hb dX5_shadow_169 (lv_at hl 5 rfl) ?_
    obtain ⟨q_19, hq_19, h⟩ := of_bind h
    refine cl_v (rn_V (As := [.int l1, .int l7, .int l6]) (rest := []) X hK hR k0 rfl (by decide) hl.1 (c_X5_takes l cA D Λ hT σ a0 l1 l7 l6 k0 hq_19) (cwV 3 hts gX5_shadow_X5_takes rfl rfl rfl (by decide +kernel) ⟨Nat.le_trans (by decide) hM.1, Nat.le_trans (by decide) hM.2⟩) rfl rfl (Nat.le_of_ble_eq_true rfl) dX5_shadow_171) hS (fun H locs hR hS => ?_)
    exact w_jp_X5_shadow_174 X hK hT hM a0 l1 l3 l4 l5 l6 l7 k0 h kb kx0 H locs ls hR hS (lv_sub hl [0, 1, 2, 3, 4, 5, 6] rfl)

set_option maxHeartbeats 4000000 in
set_option maxRecDepth 100000 in
theorem w_bd_X5_shadow_131 (X : Cx cX5_shadow (some .int) 8 RX5 wsX5_shadow p s m args meth c) (hK : Kn cA D s) (hT : TL Λ) (hM : 3 ≤ R.frames ∧ 70 ≤ R.locals) (a0 : Nat) (l1 : Int32) (l3 : Int32) (l4 : Int32) (l5 : Int32) (l6 : Int32) (s9 : (Int32 × Sto)) (k0 : isK Λ a0 6) {r : (Int32 × Sto) ⊕ Sto} (h : bd_X5_shadow_131 Λ a0 l1 l3 l4 l5 l6 s9 = some r) (kb : ∀ z : (Int32 × Sto), r = .inl z → ∀ (H : Heap) (locs : List Loc) (ls : Array Slot), Rep cA D Λ z.2 H → va_S (dm Λ) s.heap H locs → lv_has ls 8 [(0, .ref a0), (1, .int l1), (3, .int l3), (4, .int l4), (5, .int l5), (6, .int l6), (7, .int z.1)] → W p l e R s m args below meth c H locs 0 0 Q (F0 m 131 ls [])) (kx0 : ∀ z : Sto, r = .inr z → ∀ (H : Heap) (locs : List Loc) (ls : Array Slot), Rep cA D Λ z H → va_S (dm Λ) s.heap H locs → lv_has ls 8 [(0, .ref a0), (1, .int l1), (3, .int l3), (4, .int l4), (5, .int l5), (6, .int l6)] → W p l e R s m args below meth c H locs 0 0 Q (F0 m 180 ls [])) (H : Heap) (locs : List Loc) (ls : Array Slot) (hR : Rep cA D Λ s9.2 H) (hS : va_S (dm Λ) s.heap H locs) (hl : lv_has ls 8 [(0, .ref a0), (1, .int l1), (3, .int l3), (4, .int l4), (5, .int l5), (6, .int l6), (7, .int s9.1)]) : W p l e R s m args below meth c H locs 0 0 Q (F0 m 131 ls []) := by
  have hx := X.1
  have hb := X.2.1
  have hown := X.2.2.2.2.1
  have hts := X.2.2.2.2.2.1
  unfold bd_X5_shadow_131 at h
  refine lv_iload hx hb dX5_shadow_131 (lv_at hl 6 rfl) ?_
  refine lv_iload_n hx hb dX5_shadow_133 rfl (lv_at hl 2 rfl) ?_
  refine lv_icmp_ge (tgt := 180) hx hb dX5_shadow_134 (by decide) (fun hc => ?_) (fun hc => ?_)
  · have h := of_pos hc h
    exact kx0 s9.2 (Option.some.inj h).symm H locs ls hR hS (lv_sub hl [0, 1, 2, 3, 4, 5] rfl)
  · have h := of_neg hc h
    refine lv_iload hx hb dX5_shadow_137 (lv_at hl 6 rfl) ?_
    refine lv_iload hx hb dX5_shadow_139 (lv_at hl 3 rfl) ?_
    refine lv_icmp_lt (tgt := 153) hx hb dX5_shadow_141 (by decide) (fun hc => ?_) (fun hc => ?_)
    · have h := of_pos hc h
      exact w_jp_X5_shadow_153 X hK hT hM a0 l1 l3 l4 l5 l6 s9.1 k0 h kb kx0 H locs ls hR hS (lv_sub hl [0, 1, 2, 3, 4, 5, 6] rfl)
    · have h := of_neg hc h
      refine lv_iload hx hb dX5_shadow_144 (lv_at hl 6 rfl) ?_
      refine lv_iload_n hx hb dX5_shadow_146 rfl (lv_at hl 2 rfl) ?_
      refine lv_iload hx hb dX5_shadow_147 (lv_at hl 4 rfl) ?_
      refine lv_isub hx hb dX5_shadow_149 ?_
      refine lv_icmp_lt (tgt := 174) hx hb dX5_shadow_150 (by decide) (fun hc => ?_) (fun hc => ?_)
      · have h := of_pos hc h
        exact w_jp_X5_shadow_174 X hK hT hM a0 l1 l3 l4 l5 l6 s9.1 k0 h kb kx0 H locs ls hR hS (lv_sub hl [0, 1, 2, 3, 4, 5, 6] rfl)
      · have h := of_neg hc h
        exact w_jp_X5_shadow_153 X hK hT hM a0 l1 l3 l4 l5 l6 s9.1 k0 h kb kx0 H locs ls hR hS (lv_sub hl [0, 1, 2, 3, 4, 5, 6] rfl)

set_option maxHeartbeats 4000000 in
set_option maxRecDepth 100000 in
theorem w_lp_X5_shadow_131 (X : Cx cX5_shadow (some .int) 8 RX5 wsX5_shadow p s m args meth c) (hK : Kn cA D s) (hT : TL Λ) (hM : 3 ≤ R.frames ∧ 70 ≤ R.locals) (a0 : Nat) (l1 : Int32) (l3 : Int32) (l4 : Int32) (l5 : Int32) (l6 : Int32) (k0 : isK Λ a0 6) {e9 : Sto} : ∀ (n9 : Nat) (s9 : (Int32 × Sto)), iter (bd_X5_shadow_131 Λ a0 l1 l3 l4 l5 l6) n9 s9 = some e9 → ∀ (kx0 : ∀ (H : Heap) (locs : List Loc) (ls : Array Slot), Rep cA D Λ e9 H → va_S (dm Λ) s.heap H locs → lv_has ls 8 [(0, .ref a0), (1, .int l1), (3, .int l3), (4, .int l4), (5, .int l5), (6, .int l6)] → W p l e R s m args below meth c H locs 0 0 Q (F0 m 180 ls [])), ∀ (H : Heap) (locs : List Loc) (ls : Array Slot), Rep cA D Λ s9.2 H → va_S (dm Λ) s.heap H locs → lv_has ls 8 [(0, .ref a0), (1, .int l1), (3, .int l3), (4, .int l4), (5, .int l5), (6, .int l6), (7, .int s9.1)] → W p l e R s m args below meth c H locs 0 0 Q (F0 m 131 ls []) := by
  intro n9
  induction n9 with
  | zero => intro s9 h; cases h
  | succ n9 ih =>
    intro s9 h kx0 H locs ls hR hS hl
    obtain ⟨r, hr, h⟩ := of_iter h
    refine w_bd_X5_shadow_131 X hK hT hM a0 l1 l3 l4 l5 l6 s9 k0 hr (fun z ez H locs ls hR hS hl => ?_) (fun z ez H locs ls hR hS hl => ?_) H locs ls hR hS hl
    · exact ih z (of_itl ez h) kx0 H locs ls hR hS hl
    · have he := of_itr ez h; subst he; exact kx0 H locs ls hR hS hl

set_option maxHeartbeats 4000000 in
set_option maxRecDepth 100000 in
theorem w_bd_X5_shadow_117 (X : Cx cX5_shadow (some .int) 8 RX5 wsX5_shadow p s m args meth c) (hK : Kn cA D s) (hT : TL Λ) (hM : 3 ≤ R.frames ∧ 70 ≤ R.locals) (a0 : Nat) (l1 : Int32) (l3 : Int32) (l4 : Int32) (l5 : Int32) (s9 : (Int32 × Sto)) (k0 : isK Λ a0 6) {r : (Int32 × Sto) ⊕ Sto} (h : bd_X5_shadow_117 Λ a0 l1 l3 l4 l5 s9 = some r) (kb : ∀ z : (Int32 × Sto), r = .inl z → ∀ (H : Heap) (locs : List Loc) (ls : Array Slot), Rep cA D Λ z.2 H → va_S (dm Λ) s.heap H locs → lv_has ls 8 [(0, .ref a0), (1, .int l1), (3, .int l3), (4, .int l4), (5, .int l5), (6, .int z.1)] → W p l e R s m args below meth c H locs 0 0 Q (F0 m 117 ls [])) (kx0 : ∀ z : Sto, r = .inr z → ∀ (H : Heap) (locs : List Loc) (ls : Array Slot), Rep cA D Λ z H → va_S (dm Λ) s.heap H locs → lv_has ls 8 [(4, .int l4), (5, .int l5)] → W p l e R s m args below meth c H locs 0 0 Q (F0 m 186 ls [])) (H : Heap) (locs : List Loc) (ls : Array Slot) (hR : Rep cA D Λ s9.2 H) (hS : va_S (dm Λ) s.heap H locs) (hl : lv_has ls 8 [(0, .ref a0), (1, .int l1), (3, .int l3), (4, .int l4), (5, .int l5), (6, .int s9.1)]) : W p l e R s m args below meth c H locs 0 0 Q (F0 m 117 ls []) := by
  have hx := X.1
  have hb := X.2.1
  have hown := X.2.2.2.2.1
  have hts := X.2.2.2.2.2.1
  unfold bd_X5_shadow_117 at h
  refine lv_iload hx hb dX5_shadow_117 (lv_at hl 5 rfl) ?_
  refine lv_aload_n hx hb dX5_shadow_119 rfl (lv_at hl 0 rfl) ?_
  refine rw_getR X hK hT hR 6 3 7 k0 (by decide) (C := RX5) (T := TX5) (N := 24) rfl (by decide) in_X5_shadow_6 (by decide +kernel) rfl dX5_shadow_120 (fun kf_15 => ?_)
  refine lv_iload_n hx hb dX5_shadow_123 rfl (lv_at hl 1 rfl) ?_
  obtain ⟨hg_16, h⟩ := of_guard h
  refine rw_iald X hK hR kf_15 hg_16 dX5_shadow_124 ?_
  refine lv_icmp_ge (tgt := 186) hx hb dX5_shadow_125 (by decide) (fun hc => ?_) (fun hc => ?_)
  · have h := of_pos hc h
    exact kx0 s9.2 (Option.some.inj h).symm H locs ls hR hS (lv_sub hl [3, 4] rfl)
  · have h := of_neg hc h
    refine lv_iconst (v := (0 : Int32)) hx hb dX5_shadow_128 (by decide) ?_
    refine lv_istore (lv' := [(7, .int (0 : Int32)), (0, .ref a0), (1, .int l1), (3, .int l3), (4, .int l4), (5, .int l5), (6, .int s9.1)]) hx hb dX5_shadow_129 hl (by decide) rfl (fun ls hl => ?_)
    obtain ⟨e_20, hq_20, h⟩ := of_bind h
    refine w_lp_X5_shadow_131 X hK hT hM a0 l1 l3 l4 l5 s9.1 k0 _ ((0 : Int32), s9.2) hq_20 (fun H locs ls hR hS hl => ?_) H locs ls hR hS (lv_sub hl [1, 2, 3, 4, 5, 6, 0] rfl)
    obtain ⟨v_21, e_v_21⟩ : ∃ y : Int32, y = (s9.1 + (1 : Int32)) := ⟨_, rfl⟩
    have h := of_nm e_v_21 h
    refine lv_iinc (v := v_21) (lv' := [(6, .int v_21), (0, .ref a0), (1, .int l1), (3, .int l3), (4, .int l4), (5, .int l5)]) hx hb dX5_shadow_180 hl (k := 5) rfl (by rw [e_v_21]; rfl) (by decide) rfl (fun ls hl => ?_)
    refine lv_goto (tgt := 117) hx hb dX5_shadow_183 (by decide) ?_
    exact kb (v_21, e_20) (Option.some.inj h).symm H locs ls hR hS (lv_sub hl [1, 2, 3, 4, 5, 0] rfl)

set_option maxHeartbeats 4000000 in
set_option maxRecDepth 100000 in
theorem w_lp_X5_shadow_117 (X : Cx cX5_shadow (some .int) 8 RX5 wsX5_shadow p s m args meth c) (hK : Kn cA D s) (hT : TL Λ) (hM : 3 ≤ R.frames ∧ 70 ≤ R.locals) (a0 : Nat) (l1 : Int32) (l3 : Int32) (l4 : Int32) (l5 : Int32) (k0 : isK Λ a0 6) {e9 : Sto} : ∀ (n9 : Nat) (s9 : (Int32 × Sto)), iter (bd_X5_shadow_117 Λ a0 l1 l3 l4 l5) n9 s9 = some e9 → ∀ (kx0 : ∀ (H : Heap) (locs : List Loc) (ls : Array Slot), Rep cA D Λ e9 H → va_S (dm Λ) s.heap H locs → lv_has ls 8 [(4, .int l4), (5, .int l5)] → W p l e R s m args below meth c H locs 0 0 Q (F0 m 186 ls [])), ∀ (H : Heap) (locs : List Loc) (ls : Array Slot), Rep cA D Λ s9.2 H → va_S (dm Λ) s.heap H locs → lv_has ls 8 [(0, .ref a0), (1, .int l1), (3, .int l3), (4, .int l4), (5, .int l5), (6, .int s9.1)] → W p l e R s m args below meth c H locs 0 0 Q (F0 m 117 ls []) := by
  intro n9
  induction n9 with
  | zero => intro s9 h; cases h
  | succ n9 ih =>
    intro s9 h kx0 H locs ls hR hS hl
    obtain ⟨r, hr, h⟩ := of_iter h
    refine w_bd_X5_shadow_117 X hK hT hM a0 l1 l3 l4 l5 s9 k0 hr (fun z ez H locs ls hR hS hl => ?_) (fun z ez H locs ls hR hS hl => ?_) H locs ls hR hS hl
    · exact ih z (of_itl ez h) kx0 H locs ls hR hS hl
    · have he := of_itr ez h; subst he; exact kx0 H locs ls hR hS hl

set_option maxHeartbeats 4000000 in
set_option maxRecDepth 100000 in
theorem w_jp_X5_shadow_107 (X : Cx cX5_shadow (some .int) 8 RX5 wsX5_shadow p s m args meth c) (hK : Kn cA D s) (hT : TL Λ) (hM : 3 ≤ R.frames ∧ 70 ≤ R.locals) (a0 : Nat) (l1 : Int32) (l3 : Int32) (l5 : Int32) (ls0 : Int32) (k0 : isK Λ a0 6) {res : Int32 × Sto} (h : jp_X5_shadow_107 Λ σ a0 l1 l3 l5 ls0 = some res) (H : Heap) (locs : List Loc) (ls : Array Slot) (hR : Rep cA D Λ σ H) (hS : va_S (dm Λ) s.heap H locs) (hl : lv_has ls 8 [(0, .ref a0), (1, .int l1), (3, .int l3), (5, .int l5)]) : W p l e R s m args below meth c H locs 0 0 (MQ below (QI cA D Λ res) args s 0 0 (dm Λ)) (F0 m 107 ls [.int ls0]) := by
  have hx := X.1
  have hb := X.2.1
  have hown := X.2.2.2.2.1
  have hts := X.2.2.2.2.2.1
  unfold jp_X5_shadow_107 at h
  refine lv_istore (lv' := [(4, .int ls0), (0, .ref a0), (1, .int l1), (3, .int l3), (5, .int l5)]) hx hb dX5_shadow_107 hl (by decide) rfl (fun ls hl => ?_)
  refine lv_aload_n hx hb dX5_shadow_109 rfl (lv_at hl 1 rfl) ?_
  refine lv_iconst (v := (0 : Int32)) hx hb dX5_shadow_110 (by decide) ?_
  refine rw_putI X hK hT hR hS 6 19 tyX5 k0 (by decide) (C := RX5) (T := TX5) (N := 24) rfl (by decide) in_X5_shadow_6 tyX5_ok nmX5 (by decide +kernel) rfl rfl (by decide +kernel) dX5_shadow_111 (fun σ_14 H locs e_14 hR hS => ?_)
  have h := of_nm e_14 h
  refine lv_iconst (v := (0 : Int32)) hx hb dX5_shadow_114 (by decide) ?_
  refine lv_istore (lv' := [(6, .int (0 : Int32)), (4, .int ls0), (0, .ref a0), (1, .int l1), (3, .int l3), (5, .int l5)]) hx hb dX5_shadow_115 hl (by decide) rfl (fun ls hl => ?_)
  obtain ⟨e_22, hq_22, h⟩ := of_bind h
  refine w_lp_X5_shadow_117 X hK hT hM a0 l1 l3 ls0 l5 k0 _ ((0 : Int32), σ_14) hq_22 (fun H locs ls hR hS hl => ?_) H locs ls hR hS (lv_sub hl [2, 3, 4, 1, 5, 0] rfl)
  refine lv_iload hx hb dX5_shadow_186 (lv_at hl 0 rfl) ?_
  refine lv_iload hx hb dX5_shadow_188 (lv_at hl 1 rfl) ?_
  refine lv_iadd hx hb dX5_shadow_190 ?_
  exact rt_i X hR hS (Option.some.inj h) dX5_shadow_191

set_option maxHeartbeats 4000000 in
set_option maxRecDepth 100000 in
theorem w_X5_shadow (X : Cx cX5_shadow (some .int) 8 RX5 wsX5_shadow p s m args meth c) (hK : Kn cA D s) (hT : TL Λ) (hM : 3 ≤ R.frames ∧ 70 ≤ R.locals) (a0 : Nat) (l1 : Int32) (l2 : Int32) (k0 : isK Λ a0 6) {res : Int32 × Sto} (h : F_X5_shadow Λ σ a0 l1 l2 = some res) (H : Heap) (locs : List Loc) (ls : Array Slot) (hR : Rep cA D Λ σ H) (hS : va_S (dm Λ) s.heap H locs) (hl : lv_has ls 8 [(0, .ref a0), (1, .int l1), (2, .int l2)]) : W p l e R s m args below meth c H locs 0 0 (MQ below (QI cA D Λ res) args s 0 0 (dm Λ)) (F0 m 0 ls []) := by
  have hx := X.1
  have hb := X.2.1
  have hown := X.2.2.2.2.1
  have hts := X.2.2.2.2.2.1
  unfold F_X5_shadow at h
  refine lv_aload_n hx hb dX5_shadow_0 rfl (lv_at hl 0 rfl) ?_
  refine lv_iconst (v := (0 : Int32)) hx hb dX5_shadow_1 (by decide) ?_
  refine rw_putI X hK hT hR hS 6 0 tyX5 k0 (by decide) (C := RX5) (T := TX5) (N := 24) rfl (by decide) in_X5_shadow_6 tyX5_ok nmX5 (by decide +kernel) rfl rfl (by decide +kernel) dX5_shadow_2 (fun σ_1 H locs e_1 hR hS => ?_)
  have h := of_nm e_1 h
  refine lv_aload_n hx hb dX5_shadow_5 rfl (lv_at hl 0 rfl) ?_
  refine lv_iload_n hx hb dX5_shadow_6 rfl (lv_at hl 1 rfl) ?_
  refine cl_z (rn_V (As := [.int l1]) (rest := []) X hK hR k0 rfl (by decide) hl.1 (c_X5_isPage l cA D Λ hT σ_1 a0 l1 k0) (cwV 1 hts gX5_shadow_X5_isPage rfl rfl rfl (by decide +kernel) ⟨Nat.le_trans (by decide) hM.1, Nat.le_trans (by decide) hM.2⟩) rfl rfl (Nat.le_of_ble_eq_true rfl) dX5_shadow_7) hS (fun hz_2 H locs hR hS => ?_)
  refine lv_topi (fun r_2 e_2 => ?_)
  have h := of_nm e_2 h
  have hz_2 : r_2 = 0 ∨ r_2 = 1 := by rw [e_2]; exact hz_2
  refine lv_if_eq (tgt := 25) hx hb dX5_shadow_10 (by decide) (fun hc => ?_) (fun hc => ?_)
  · have h := of_pos hc h
    refine lv_iconst (v := (-1 : Int32)) hx hb dX5_shadow_25 (by decide) ?_
    exact rt_i X hR hS (Option.some.inj h) dX5_shadow_26
  · have h := of_neg hc h
    refine lv_iload_n hx hb dX5_shadow_13 rfl (lv_at hl 2 rfl) ?_
    refine lv_i2l (v := (l2.toInt64)) hx hb dX5_shadow_14 rfl ?_
    refine lv_lconst (v := (1 : Int64)) hx hb dX5_shadow_15 (by decide) ?_
    refine lv_ldc2 (v := (100 : Int64)) hx hb hown (hts (.constantLong RX5 198 (100)) (by decide +kernel)) dX5_shadow_16 ?_
    refine cl_z (rn_S (As := [.long (l2.toInt64), .long (1 : Int64), .long (100 : Int64)]) (rest := []) X hK hR hl.1 (c_X5_in l cA D Λ hT σ_1 (l2.toInt64) (1 : Int64) (100 : Int64)) (va_cwS 3 hts gX5_shadow_X5_in rfl rfl rfl (by decide +kernel) ⟨Nat.le_trans (by decide) hM.1, Nat.le_trans (by decide) hM.2⟩) rfl rfl (Nat.le_of_ble_eq_true rfl) dX5_shadow_19) hS (fun hz_3 H locs hR hS => ?_)
    refine lv_topi (fun r_3 e_3 => ?_)
    have h := of_nm e_3 h
    have hz_3 : r_3 = 0 ∨ r_3 = 1 := by rw [e_3]; exact hz_3
    refine lv_if_ne (tgt := 27) hx hb dX5_shadow_22 (by decide) (fun hc => ?_) (fun hc => ?_)
    · have h := of_neg hc h
      refine lv_aload_n hx hb dX5_shadow_27 rfl (lv_at hl 0 rfl) ?_
      refine lv_iload_n hx hb dX5_shadow_28 rfl (lv_at hl 1 rfl) ?_
      obtain ⟨q_4, hq_4, h⟩ := of_bind h
      refine cl_v (rn_V (As := [.int l1]) (rest := []) X hK hR k0 rfl (by decide) hl.1 (c_X5_changing l cA D Λ hT σ_1 a0 l1 k0 hq_4) (cwV 1 hts gX5_shadow_X5_changing rfl rfl rfl (by decide +kernel) ⟨Nat.le_trans (by decide) hM.1, Nat.le_trans (by decide) hM.2⟩) rfl rfl (Nat.le_of_ble_eq_true rfl) dX5_shadow_29) hS (fun H locs hR hS => ?_)
      refine lv_aload_n hx hb dX5_shadow_32 rfl (lv_at hl 0 rfl) ?_
      refine rw_getR X hK hT hR 6 2 7 k0 (by decide) (C := RX5) (T := TX5) (N := 24) rfl (by decide) in_X5_shadow_6 (by decide +kernel) rfl dX5_shadow_33 (fun kf_5 => ?_)
      refine lv_iload_n hx hb dX5_shadow_36 rfl (lv_at hl 1 rfl) ?_
      obtain ⟨hg_6, h⟩ := of_guard h
      refine rw_iald X hK hR kf_5 hg_6 dX5_shadow_37 ?_
      refine lv_topi (fun v_7 e_v_7 => ?_)
      have h := of_nm e_v_7 h
      refine lv_istore_n (lv' := [(3, .int v_7), (0, .ref a0), (1, .int l1), (2, .int l2)]) hx hb dX5_shadow_38 rfl hl (by decide) rfl (fun ls hl => ?_)
      refine lv_iconst (v := (0 : Int32)) hx hb dX5_shadow_39 (by decide) ?_
      refine lv_istore (lv' := [(4, .int (0 : Int32)), (3, .int v_7), (0, .ref a0), (1, .int l1), (2, .int l2)]) hx hb dX5_shadow_40 hl (by decide) rfl (fun ls hl => ?_)
      obtain ⟨e_10, hq_10, h⟩ := of_bind h
      refine w_lp_X5_shadow_42 X hK hT hM a0 l1 l2 v_7 k0 _ (0 : Int32) hq_10 (fun H locs ls hR hS hl => ?_) H locs ls hR hS (lv_sub hl [2, 3, 4, 1, 0] rfl)
      refine lv_iconst (v := (0 : Int32)) hx hb dX5_shadow_65 (by decide) ?_
      refine lv_istore (lv' := [(5, .int (0 : Int32)), (0, .ref a0), (1, .int l1), (2, .int l2), (3, .int v_7), (4, .int e_10)]) hx hb dX5_shadow_66 hl (by decide) rfl (fun ls hl => ?_)
      obtain ⟨e_13, hq_13, h⟩ := of_bind h
      refine w_lp_X5_shadow_68 X hK hT hM a0 l1 l2 v_7 e_10 k0 _ (0 : Int32) hq_13 (fun H locs ls hR hS hl => ?_) H locs ls hR hS (lv_sub hl [1, 2, 3, 4, 5, 0] rfl)
      refine lv_iload hx hb dX5_shadow_95 (lv_at hl 3 rfl) ?_
      refine lv_iload_n hx hb dX5_shadow_97 rfl (lv_at hl 2 rfl) ?_
      refine lv_icmp_ne (tgt := 105) hx hb dX5_shadow_98 (by decide) (fun hc => ?_) (fun hc => ?_)
      · have h := of_neg hc h
        refine lv_iload hx hb dX5_shadow_105 (lv_at hl 3 rfl) ?_
        exact w_jp_X5_shadow_107 X hK hT hM a0 l1 v_7 e_13 e_10 k0 h H locs ls hR hS (lv_sub hl [0, 1, 2, 4] rfl)
      · have h := of_pos hc h
        refine lv_iconst (v := (0 : Int32)) hx hb dX5_shadow_101 (by decide) ?_
        refine lv_goto (tgt := 107) hx hb dX5_shadow_102 (by decide) ?_
        exact w_jp_X5_shadow_107 X hK hT hM a0 l1 v_7 e_13 (0 : Int32) k0 h H locs ls hR hS (lv_sub hl [0, 1, 2, 4] rfl)
    · have h := of_pos hc h
      refine lv_iconst (v := (-1 : Int32)) hx hb dX5_shadow_25 (by decide) ?_
      exact rt_i X hR hS (Option.some.inj h) dX5_shadow_26

set_option maxHeartbeats 4000000 in
set_option maxRecDepth 100000 in
theorem c_X5_shadow (l : Launch) (cA : Nat → ClassId) (D : va_G) (Λ : Lay) (hT : TL Λ) (σ : Sto) (a0 : Nat) (l1 : Int32) (l2 : Int32) (k0 : isK Λ a0 6) {res : Int32 × Sto} (h : F_X5_shadow Λ σ a0 l1 l2 = some res) : Met l yX5_shadow wsX5_shadow { frames := 3, cells := 0, slots := 0, locals := 70 } (va_Pc [.ref a0, .int l1, .int l2] (PW cA D Λ σ)) (QI cA D Λ res) 0 0 (dm Λ) := by
  refine Met.ofW (cc := cX5_shadow) (maxL := 8) (ret := (some .int)) (by decide) rfl ?_
  intro p e s m args below meth c s₁ B hml hv
  obtain ⟨rfl, hR, hK⟩ := hv
  have X : Cx cX5_shadow (some .int) 8 RX5 wsX5_shadow p s m _ meth c := ⟨B.exec, B.bytes, B.returns, hml, findClass_of_methodNamed B.named, atoms_spec (ws := wsX5_shadow) B.pre, B.notSynchronized⟩
  have hS : va_S (dm Λ) s.heap s.heap [] := va_S.rf
  have hl := lv_entry ([.ref a0, .int l1, .int l2]) (n := 8) (Nat.le_of_ble_eq_true rfl)
  rw [lg_entry_eq]
  generalize (lg_sl ([.ref a0, .int l1, .int l2]) ++ List.replicate (8 - (lg_sl ([.ref a0, .int l1, .int l2])).length) Slot.unset).toArray = ls at hl ⊢
  have hl : lv_has ls 8 [(0, .ref a0), (1, .int l1), (2, .int l2)] := hl
  exact w_X5_shadow X hK hT ⟨Nat.le_refl _, Nat.le_refl _⟩ a0 l1 l2 k0 h s.heap [] ls hR hS hl
theorem in_X5_listed_6 : ∀ w ∈ u_ws RX5 TX5 24, w ∈ wsX5_listed := by decide +kernel
set_option maxHeartbeats 4000000 in
set_option maxRecDepth 100000 in
theorem w_jp_X5_listed_31 (X : Cx cX5_listed (some .int) 3 RX5 wsX5_listed p s m args meth c) (hK : Kn cA D s) (hT : TL Λ) (hM : 1 ≤ R.frames ∧ 25 ≤ R.locals) (a0 : Nat)  (k0 : isK Λ a0 6) {res : Int32 × Sto} (h : jp_X5_listed_31 Λ σ a0 = some res) (H : Heap) (locs : List Loc) (ls : Array Slot) (hR : Rep cA D Λ σ H) (hS : va_S (dm Λ) s.heap H locs) (hl : lv_has ls 3 [(0, .ref a0)]) : W p l e R s m args below meth c H locs 0 0 (MQ below (QI cA D Λ res) args s 0 0 (dm Λ)) (F0 m 31 ls []) := by
  have hx := X.1
  have hb := X.2.1
  have hown := X.2.2.2.2.1
  have hts := X.2.2.2.2.2.1
  unfold jp_X5_listed_31 at h
  refine lv_aload_n hx hb dX5_listed_31 rfl (lv_at hl 0 rfl) ?_
  obtain ⟨q_3, hq_3, h⟩ := of_bind h
  refine cl_i (rn_V (As := []) (rest := []) X hK hR k0 rfl (by decide) hl.1 (c_X5_refuse l cA D Λ hT σ a0 k0 hq_3) (cwV 0 hts gX5_listed_X5_refuse rfl rfl rfl (by decide +kernel) ⟨Nat.le_trans (by decide) hM.1, Nat.le_trans (by decide) hM.2⟩) rfl rfl (Nat.le_of_ble_eq_true rfl) dX5_listed_32) hS (fun H locs hR hS => ?_)
  exact rt_i X hR hS (Option.some.inj h) dX5_listed_35

set_option maxHeartbeats 4000000 in
set_option maxRecDepth 100000 in
theorem w_X5_listed (X : Cx cX5_listed (some .int) 3 RX5 wsX5_listed p s m args meth c) (hK : Kn cA D s) (hT : TL Λ) (hM : 1 ≤ R.frames ∧ 25 ≤ R.locals) (a0 : Nat) (l1 : Int32) (l2 : Int32) (k0 : isK Λ a0 6) {res : Int32 × Sto} (h : F_X5_listed Λ σ a0 l1 l2 = some res) (H : Heap) (locs : List Loc) (ls : Array Slot) (hR : Rep cA D Λ σ H) (hS : va_S (dm Λ) s.heap H locs) (hl : lv_has ls 3 [(0, .ref a0), (1, .int l1), (2, .int l2)]) : W p l e R s m args below meth c H locs 0 0 (MQ below (QI cA D Λ res) args s 0 0 (dm Λ)) (F0 m 0 ls []) := by
  have hx := X.1
  have hb := X.2.1
  have hown := X.2.2.2.2.1
  have hts := X.2.2.2.2.2.1
  unfold F_X5_listed at h
  refine lv_aload_n hx hb dX5_listed_0 rfl (lv_at hl 0 rfl) ?_
  refine lv_iconst (v := (0 : Int32)) hx hb dX5_listed_1 (by decide) ?_
  refine rw_putI X hK hT hR hS 6 0 tyX5 k0 (by decide) (C := RX5) (T := TX5) (N := 24) rfl (by decide) in_X5_listed_6 tyX5_ok nmX5 (by decide +kernel) rfl rfl (by decide +kernel) dX5_listed_2 (fun σ_1 H locs e_1 hR hS => ?_)
  have h := of_nm e_1 h
  refine lv_iload_n hx hb dX5_listed_5 rfl (lv_at hl 1 rfl) ?_
  refine lv_i2l (v := (l1.toInt64)) hx hb dX5_listed_6 rfl ?_
  refine lv_lconst (v := (0 : Int64)) hx hb dX5_listed_7 (by decide) ?_
  refine lv_aload_n hx hb dX5_listed_8 rfl (lv_at hl 0 rfl) ?_
  refine rw_getI X hK hR 6 19 k0 (by decide) (C := RX5) (T := TX5) (N := 24) rfl (by decide) in_X5_listed_6 (by decide +kernel) rfl dX5_listed_9 ?_
  refine lv_iconst (v := (1 : Int32)) hx hb dX5_listed_12 (by decide) ?_
  refine lv_isub hx hb dX5_listed_13 ?_
  refine lv_i2l (v := (((σ_1.1 a0 19) - (1 : Int32)).toInt64)) hx hb dX5_listed_14 rfl ?_
  refine cl_z (rn_S (As := [.long (l1.toInt64), .long (0 : Int64), .long (((σ_1.1 a0 19) - (1 : Int32)).toInt64)]) (rest := []) X hK hR hl.1 (c_X5_in l cA D Λ hT σ_1 (l1.toInt64) (0 : Int64) (((σ_1.1 a0 19) - (1 : Int32)).toInt64)) (va_cwS 3 hts gX5_listed_X5_in rfl rfl rfl (by decide +kernel) ⟨Nat.le_trans (by decide) hM.1, Nat.le_trans (by decide) hM.2⟩) rfl rfl (Nat.le_of_ble_eq_true rfl) dX5_listed_15) hS (fun hz_2 H locs hR hS => ?_)
  refine lv_topi (fun r_2 e_2 => ?_)
  have h := of_nm e_2 h
  have hz_2 : r_2 = 0 ∨ r_2 = 1 := by rw [e_2]; exact hz_2
  refine lv_if_eq (tgt := 31) hx hb dX5_listed_18 (by decide) (fun hc => ?_) (fun hc => ?_)
  · have h := of_pos hc h
    exact w_jp_X5_listed_31 X hK hT hM a0 k0 h H locs ls hR hS (lv_sub hl [0] rfl)
  · have h := of_neg hc h
    refine lv_iload_n hx hb dX5_listed_21 rfl (lv_at hl 2 rfl) ?_
    refine lv_i2l (v := (l2.toInt64)) hx hb dX5_listed_22 rfl ?_
    refine lv_lconst (v := (0 : Int64)) hx hb dX5_listed_23 (by decide) ?_
    refine lv_lconst (v := (1 : Int64)) hx hb dX5_listed_24 (by decide) ?_
    refine cl_z (rn_S (As := [.long (l2.toInt64), .long (0 : Int64), .long (1 : Int64)]) (rest := []) X hK hR hl.1 (c_X5_in l cA D Λ hT σ_1 (l2.toInt64) (0 : Int64) (1 : Int64)) (va_cwS 3 hts gX5_listed_X5_in rfl rfl rfl (by decide +kernel) ⟨Nat.le_trans (by decide) hM.1, Nat.le_trans (by decide) hM.2⟩) rfl rfl (Nat.le_of_ble_eq_true rfl) dX5_listed_25) hS (fun hz_4 H locs hR hS => ?_)
    refine lv_topi (fun r_4 e_4 => ?_)
    have h := of_nm e_4 h
    have hz_4 : r_4 = 0 ∨ r_4 = 1 := by rw [e_4]; exact hz_4
    refine lv_if_ne (tgt := 36) hx hb dX5_listed_28 (by decide) (fun hc => ?_) (fun hc => ?_)
    · have h := of_neg hc h
      refine lv_iload_n hx hb dX5_listed_36 rfl (lv_at hl 2 rfl) ?_
      refine lv_if_ne (tgt := 49) hx hb dX5_listed_37 (by decide) (fun hc => ?_) (fun hc => ?_)
      · have h := of_neg hc h
        refine lv_aload_n hx hb dX5_listed_49 rfl (lv_at hl 0 rfl) ?_
        refine rw_getR X hK hT hR 6 21 7 k0 (by decide) (C := RX5) (T := TX5) (N := 24) rfl (by decide) in_X5_listed_6 (by decide +kernel) rfl dX5_listed_50 (fun kf_5 => ?_)
        refine lv_iload_n hx hb dX5_listed_53 rfl (lv_at hl 1 rfl) ?_
        obtain ⟨hg_6, h⟩ := of_guard h
        refine rw_iald X hK hR kf_5 hg_6 dX5_listed_54 ?_
        exact rt_i X hR hS (Option.some.inj h) dX5_listed_55
      · have h := of_pos hc h
        refine lv_aload_n hx hb dX5_listed_40 rfl (lv_at hl 0 rfl) ?_
        refine rw_getR X hK hT hR 6 20 7 k0 (by decide) (C := RX5) (T := TX5) (N := 24) rfl (by decide) in_X5_listed_6 (by decide +kernel) rfl dX5_listed_41 (fun kf_7 => ?_)
        refine lv_iload_n hx hb dX5_listed_44 rfl (lv_at hl 1 rfl) ?_
        obtain ⟨hg_8, h⟩ := of_guard h
        refine rw_iald X hK hR kf_7 hg_8 dX5_listed_45 ?_
        refine lv_goto (tgt := 55) hx hb dX5_listed_46 (by decide) ?_
        exact rt_i X hR hS (Option.some.inj h) dX5_listed_55
    · have h := of_pos hc h
      exact w_jp_X5_listed_31 X hK hT hM a0 k0 h H locs ls hR hS (lv_sub hl [0] rfl)

set_option maxHeartbeats 4000000 in
set_option maxRecDepth 100000 in
theorem c_X5_listed (l : Launch) (cA : Nat → ClassId) (D : va_G) (Λ : Lay) (hT : TL Λ) (σ : Sto) (a0 : Nat) (l1 : Int32) (l2 : Int32) (k0 : isK Λ a0 6) {res : Int32 × Sto} (h : F_X5_listed Λ σ a0 l1 l2 = some res) : Met l yX5_listed wsX5_listed { frames := 1, cells := 0, slots := 0, locals := 25 } (va_Pc [.ref a0, .int l1, .int l2] (PW cA D Λ σ)) (QI cA D Λ res) 0 0 (dm Λ) := by
  refine Met.ofW (cc := cX5_listed) (maxL := 3) (ret := (some .int)) (by decide) rfl ?_
  intro p e s m args below meth c s₁ B hml hv
  obtain ⟨rfl, hR, hK⟩ := hv
  have X : Cx cX5_listed (some .int) 3 RX5 wsX5_listed p s m _ meth c := ⟨B.exec, B.bytes, B.returns, hml, findClass_of_methodNamed B.named, atoms_spec (ws := wsX5_listed) B.pre, B.notSynchronized⟩
  have hS : va_S (dm Λ) s.heap s.heap [] := va_S.rf
  have hl := lv_entry ([.ref a0, .int l1, .int l2]) (n := 3) (Nat.le_of_ble_eq_true rfl)
  rw [lg_entry_eq]
  generalize (lg_sl ([.ref a0, .int l1, .int l2]) ++ List.replicate (3 - (lg_sl ([.ref a0, .int l1, .int l2])).length) Slot.unset).toArray = ls at hl ⊢
  have hl : lv_has ls 3 [(0, .ref a0), (1, .int l1), (2, .int l2)] := hl
  exact w_X5_listed X hK hT ⟨Nat.le_refl _, Nat.le_refl _⟩ a0 l1 l2 k0 h s.heap [] ls hR hS hl
theorem in_X5_firstColumn_6 : ∀ w ∈ u_ws RX5 TX5 24, w ∈ wsX5_firstColumn := by decide +kernel
set_option maxHeartbeats 4000000 in
set_option maxRecDepth 100000 in
theorem w_bd_X5_firstColumn_2 (X : Cx cX5_firstColumn (some .int) 3 RX5 wsX5_firstColumn p s m args meth c) (hK : Kn cA D s) (hT : TL Λ) (hM : 2 ≤ R.frames ∧ 47 ≤ R.locals) (a0 : Nat) (l1 : Int32) (s9 : Int32) (k0 : isK Λ a0 6) {r : Int32 ⊕ Int32} (h : bd_X5_firstColumn_2 Λ σ a0 l1 s9 = some r) (kb : ∀ z : Int32, r = .inl z → ∀ (H : Heap) (locs : List Loc) (ls : Array Slot), Rep cA D Λ σ H → va_S (dm Λ) s.heap H locs → lv_has ls 3 [(0, .ref a0), (1, .int l1), (2, .int z)] → W p l e R s m args below meth c H locs 0 0 Q (F0 m 2 ls [])) (kx0 : ∀ z : Int32, r = .inr z → ∀ (H : Heap) (locs : List Loc) (ls : Array Slot), Rep cA D Λ σ H → va_S (dm Λ) s.heap H locs → lv_has ls 3 [(2, .int z)] → W p l e R s m args below meth c H locs 0 0 Q (F0 m 27 ls [])) (H : Heap) (locs : List Loc) (ls : Array Slot) (hR : Rep cA D Λ σ H) (hS : va_S (dm Λ) s.heap H locs) (hl : lv_has ls 3 [(0, .ref a0), (1, .int l1), (2, .int s9)]) : W p l e R s m args below meth c H locs 0 0 Q (F0 m 2 ls []) := by
  have hx := X.1
  have hb := X.2.1
  have hown := X.2.2.2.2.1
  have hts := X.2.2.2.2.2.1
  unfold bd_X5_firstColumn_2 at h
  refine lv_iload_n hx hb dX5_firstColumn_2 rfl (lv_at hl 2 rfl) ?_
  refine lv_aload_n hx hb dX5_firstColumn_3 rfl (lv_at hl 0 rfl) ?_
  refine rw_getR X hK hT hR 6 2 7 k0 (by decide) (C := RX5) (T := TX5) (N := 24) rfl (by decide) in_X5_firstColumn_6 (by decide +kernel) rfl dX5_firstColumn_4 (fun kf_1 => ?_)
  refine lv_iload_n hx hb dX5_firstColumn_7 rfl (lv_at hl 1 rfl) ?_
  obtain ⟨hg_2, h⟩ := of_guard h
  refine rw_iald X hK hR kf_1 hg_2 dX5_firstColumn_8 ?_
  refine lv_icmp_ge (tgt := 27) hx hb dX5_firstColumn_9 (by decide) (fun hc => ?_) (fun hc => ?_)
  · have h := of_pos hc h
    exact kx0 s9 (Option.some.inj h).symm H locs ls hR hS (lv_sub hl [2] rfl)
  · have h := of_neg hc h
    refine lv_aload_n hx hb dX5_firstColumn_12 rfl (lv_at hl 0 rfl) ?_
    refine lv_iload_n hx hb dX5_firstColumn_13 rfl (lv_at hl 1 rfl) ?_
    refine lv_iload_n hx hb dX5_firstColumn_14 rfl (lv_at hl 2 rfl) ?_
    obtain ⟨q_3, hq_3, h⟩ := of_bind h
    refine cl_i (rn_V (As := [.int l1, .int s9]) (rest := []) X hK hR k0 rfl (by decide) hl.1 (c_X5_columnInk l cA D Λ hT σ a0 l1 s9 k0 hq_3) (cwV 2 hts gX5_firstColumn_X5_columnInk rfl rfl rfl (by decide +kernel) ⟨Nat.le_trans (by decide) hM.1, Nat.le_trans (by decide) hM.2⟩) rfl rfl (Nat.le_of_ble_eq_true rfl) dX5_firstColumn_15) hS (fun H locs hR hS => ?_)
    refine lv_if_ne (tgt := 27) hx hb dX5_firstColumn_18 (by decide) (fun hc => ?_) (fun hc => ?_)
    · have h := of_neg hc h
      exact kx0 s9 (Option.some.inj h).symm H locs ls hR hS (lv_sub hl [2] rfl)
    · have h := of_pos hc h
      obtain ⟨v_4, e_v_4⟩ : ∃ y : Int32, y = (s9 + (1 : Int32)) := ⟨_, rfl⟩
      have h := of_nm e_v_4 h
      refine lv_iinc (v := v_4) (lv' := [(2, .int v_4), (0, .ref a0), (1, .int l1)]) hx hb dX5_firstColumn_21 hl (k := 2) rfl (by rw [e_v_4]; rfl) (by decide) rfl (fun ls hl => ?_)
      refine lv_goto (tgt := 2) hx hb dX5_firstColumn_24 (by decide) ?_
      exact kb v_4 (Option.some.inj h).symm H locs ls hR hS (lv_sub hl [1, 2, 0] rfl)

set_option maxHeartbeats 4000000 in
set_option maxRecDepth 100000 in
theorem w_lp_X5_firstColumn_2 (X : Cx cX5_firstColumn (some .int) 3 RX5 wsX5_firstColumn p s m args meth c) (hK : Kn cA D s) (hT : TL Λ) (hM : 2 ≤ R.frames ∧ 47 ≤ R.locals) (a0 : Nat) (l1 : Int32) (k0 : isK Λ a0 6) {e9 : Int32} : ∀ (n9 : Nat) (s9 : Int32), iter (bd_X5_firstColumn_2 Λ σ a0 l1) n9 s9 = some e9 → ∀ (kx0 : ∀ (H : Heap) (locs : List Loc) (ls : Array Slot), Rep cA D Λ σ H → va_S (dm Λ) s.heap H locs → lv_has ls 3 [(2, .int e9)] → W p l e R s m args below meth c H locs 0 0 Q (F0 m 27 ls [])), ∀ (H : Heap) (locs : List Loc) (ls : Array Slot), Rep cA D Λ σ H → va_S (dm Λ) s.heap H locs → lv_has ls 3 [(0, .ref a0), (1, .int l1), (2, .int s9)] → W p l e R s m args below meth c H locs 0 0 Q (F0 m 2 ls []) := by
  intro n9
  induction n9 with
  | zero => intro s9 h; cases h
  | succ n9 ih =>
    intro s9 h kx0 H locs ls hR hS hl
    obtain ⟨r, hr, h⟩ := of_iter h
    refine w_bd_X5_firstColumn_2 X hK hT hM a0 l1 s9 k0 hr (fun z ez H locs ls hR hS hl => ?_) (fun z ez H locs ls hR hS hl => ?_) H locs ls hR hS hl
    · exact ih z (of_itl ez h) kx0 H locs ls hR hS hl
    · have he := of_itr ez h; subst he; exact kx0 H locs ls hR hS hl

set_option maxHeartbeats 4000000 in
set_option maxRecDepth 100000 in
theorem w_X5_firstColumn (X : Cx cX5_firstColumn (some .int) 3 RX5 wsX5_firstColumn p s m args meth c) (hK : Kn cA D s) (hT : TL Λ) (hM : 2 ≤ R.frames ∧ 47 ≤ R.locals) (a0 : Nat) (l1 : Int32) (k0 : isK Λ a0 6) {res : Int32} (h : F_X5_firstColumn Λ σ a0 l1 = some res) (H : Heap) (locs : List Loc) (ls : Array Slot) (hR : Rep cA D Λ σ H) (hS : va_S (dm Λ) s.heap H locs) (hl : lv_has ls 3 [(0, .ref a0), (1, .int l1)]) : W p l e R s m args below meth c H locs 0 0 (MQ below (QI cA D Λ (res, σ)) args s 0 0 (dm Λ)) (F0 m 0 ls []) := by
  have hx := X.1
  have hb := X.2.1
  have hown := X.2.2.2.2.1
  have hts := X.2.2.2.2.2.1
  unfold F_X5_firstColumn at h
  refine lv_iconst (v := (0 : Int32)) hx hb dX5_firstColumn_0 (by decide) ?_
  refine lv_istore_n (lv' := [(2, .int (0 : Int32)), (0, .ref a0), (1, .int l1)]) hx hb dX5_firstColumn_1 rfl hl (by decide) rfl (fun ls hl => ?_)
  obtain ⟨e_5, hq_5, h⟩ := of_bind h
  refine w_lp_X5_firstColumn_2 X hK hT hM a0 l1 k0 _ (0 : Int32) hq_5 (fun H locs ls hR hS hl => ?_) H locs ls hR hS (lv_sub hl [1, 2, 0] rfl)
  refine lv_iload_n hx hb dX5_firstColumn_27 rfl (lv_at hl 0 rfl) ?_
  exact rt_i X hR hS (congrArg (fun z => (z, σ)) (Option.some.inj h)) dX5_firstColumn_28

set_option maxHeartbeats 4000000 in
set_option maxRecDepth 100000 in
theorem c_X5_firstColumn (l : Launch) (cA : Nat → ClassId) (D : va_G) (Λ : Lay) (hT : TL Λ) (σ : Sto) (a0 : Nat) (l1 : Int32) (k0 : isK Λ a0 6) {res : Int32} (h : F_X5_firstColumn Λ σ a0 l1 = some res) : Met l yX5_firstColumn wsX5_firstColumn { frames := 2, cells := 0, slots := 0, locals := 47 } (va_Pc [.ref a0, .int l1] (PW cA D Λ σ)) (QI cA D Λ (res, σ)) 0 0 (dm Λ) := by
  refine Met.ofW (cc := cX5_firstColumn) (maxL := 3) (ret := (some .int)) (by decide) rfl ?_
  intro p e s m args below meth c s₁ B hml hv
  obtain ⟨rfl, hR, hK⟩ := hv
  have X : Cx cX5_firstColumn (some .int) 3 RX5 wsX5_firstColumn p s m _ meth c := ⟨B.exec, B.bytes, B.returns, hml, findClass_of_methodNamed B.named, atoms_spec (ws := wsX5_firstColumn) B.pre, B.notSynchronized⟩
  have hS : va_S (dm Λ) s.heap s.heap [] := va_S.rf
  have hl := lv_entry ([.ref a0, .int l1]) (n := 3) (Nat.le_of_ble_eq_true rfl)
  rw [lg_entry_eq]
  generalize (lg_sl ([.ref a0, .int l1]) ++ List.replicate (3 - (lg_sl ([.ref a0, .int l1])).length) Slot.unset).toArray = ls at hl ⊢
  have hl : lv_has ls 3 [(0, .ref a0), (1, .int l1)] := hl
  exact w_X5_firstColumn X hK hT ⟨Nat.le_refl _, Nat.le_refl _⟩ a0 l1 k0 h s.heap [] ls hR hS hl
theorem in_X5_firstRow_6 : ∀ w ∈ u_ws RX5 TX5 24, w ∈ wsX5_firstRow := by decide +kernel
set_option maxHeartbeats 4000000 in
set_option maxRecDepth 100000 in
theorem w_bd_X5_firstRow_2 (X : Cx cX5_firstRow (some .int) 3 RX5 wsX5_firstRow p s m args meth c) (hK : Kn cA D s) (hT : TL Λ) (hM : 2 ≤ R.frames ∧ 47 ≤ R.locals) (a0 : Nat) (l1 : Int32) (s9 : Int32) (k0 : isK Λ a0 6) {r : Int32 ⊕ Int32} (h : bd_X5_firstRow_2 Λ σ a0 l1 s9 = some r) (kb : ∀ z : Int32, r = .inl z → ∀ (H : Heap) (locs : List Loc) (ls : Array Slot), Rep cA D Λ σ H → va_S (dm Λ) s.heap H locs → lv_has ls 3 [(0, .ref a0), (1, .int l1), (2, .int z)] → W p l e R s m args below meth c H locs 0 0 Q (F0 m 2 ls [])) (kx0 : ∀ z : Int32, r = .inr z → ∀ (H : Heap) (locs : List Loc) (ls : Array Slot), Rep cA D Λ σ H → va_S (dm Λ) s.heap H locs → lv_has ls 3 [(2, .int z)] → W p l e R s m args below meth c H locs 0 0 Q (F0 m 27 ls [])) (H : Heap) (locs : List Loc) (ls : Array Slot) (hR : Rep cA D Λ σ H) (hS : va_S (dm Λ) s.heap H locs) (hl : lv_has ls 3 [(0, .ref a0), (1, .int l1), (2, .int s9)]) : W p l e R s m args below meth c H locs 0 0 Q (F0 m 2 ls []) := by
  have hx := X.1
  have hb := X.2.1
  have hown := X.2.2.2.2.1
  have hts := X.2.2.2.2.2.1
  unfold bd_X5_firstRow_2 at h
  refine lv_iload_n hx hb dX5_firstRow_2 rfl (lv_at hl 2 rfl) ?_
  refine lv_aload_n hx hb dX5_firstRow_3 rfl (lv_at hl 0 rfl) ?_
  refine rw_getR X hK hT hR 6 3 7 k0 (by decide) (C := RX5) (T := TX5) (N := 24) rfl (by decide) in_X5_firstRow_6 (by decide +kernel) rfl dX5_firstRow_4 (fun kf_1 => ?_)
  refine lv_iload_n hx hb dX5_firstRow_7 rfl (lv_at hl 1 rfl) ?_
  obtain ⟨hg_2, h⟩ := of_guard h
  refine rw_iald X hK hR kf_1 hg_2 dX5_firstRow_8 ?_
  refine lv_icmp_ge (tgt := 27) hx hb dX5_firstRow_9 (by decide) (fun hc => ?_) (fun hc => ?_)
  · have h := of_pos hc h
    exact kx0 s9 (Option.some.inj h).symm H locs ls hR hS (lv_sub hl [2] rfl)
  · have h := of_neg hc h
    refine lv_aload_n hx hb dX5_firstRow_12 rfl (lv_at hl 0 rfl) ?_
    refine lv_iload_n hx hb dX5_firstRow_13 rfl (lv_at hl 1 rfl) ?_
    refine lv_iload_n hx hb dX5_firstRow_14 rfl (lv_at hl 2 rfl) ?_
    obtain ⟨q_3, hq_3, h⟩ := of_bind h
    refine cl_i (rn_V (As := [.int l1, .int s9]) (rest := []) X hK hR k0 rfl (by decide) hl.1 (c_X5_rowInk l cA D Λ hT σ a0 l1 s9 k0 hq_3) (cwV 2 hts gX5_firstRow_X5_rowInk rfl rfl rfl (by decide +kernel) ⟨Nat.le_trans (by decide) hM.1, Nat.le_trans (by decide) hM.2⟩) rfl rfl (Nat.le_of_ble_eq_true rfl) dX5_firstRow_15) hS (fun H locs hR hS => ?_)
    refine lv_if_ne (tgt := 27) hx hb dX5_firstRow_18 (by decide) (fun hc => ?_) (fun hc => ?_)
    · have h := of_neg hc h
      exact kx0 s9 (Option.some.inj h).symm H locs ls hR hS (lv_sub hl [2] rfl)
    · have h := of_pos hc h
      obtain ⟨v_4, e_v_4⟩ : ∃ y : Int32, y = (s9 + (1 : Int32)) := ⟨_, rfl⟩
      have h := of_nm e_v_4 h
      refine lv_iinc (v := v_4) (lv' := [(2, .int v_4), (0, .ref a0), (1, .int l1)]) hx hb dX5_firstRow_21 hl (k := 2) rfl (by rw [e_v_4]; rfl) (by decide) rfl (fun ls hl => ?_)
      refine lv_goto (tgt := 2) hx hb dX5_firstRow_24 (by decide) ?_
      exact kb v_4 (Option.some.inj h).symm H locs ls hR hS (lv_sub hl [1, 2, 0] rfl)

set_option maxHeartbeats 4000000 in
set_option maxRecDepth 100000 in
theorem w_lp_X5_firstRow_2 (X : Cx cX5_firstRow (some .int) 3 RX5 wsX5_firstRow p s m args meth c) (hK : Kn cA D s) (hT : TL Λ) (hM : 2 ≤ R.frames ∧ 47 ≤ R.locals) (a0 : Nat) (l1 : Int32) (k0 : isK Λ a0 6) {e9 : Int32} : ∀ (n9 : Nat) (s9 : Int32), iter (bd_X5_firstRow_2 Λ σ a0 l1) n9 s9 = some e9 → ∀ (kx0 : ∀ (H : Heap) (locs : List Loc) (ls : Array Slot), Rep cA D Λ σ H → va_S (dm Λ) s.heap H locs → lv_has ls 3 [(2, .int e9)] → W p l e R s m args below meth c H locs 0 0 Q (F0 m 27 ls [])), ∀ (H : Heap) (locs : List Loc) (ls : Array Slot), Rep cA D Λ σ H → va_S (dm Λ) s.heap H locs → lv_has ls 3 [(0, .ref a0), (1, .int l1), (2, .int s9)] → W p l e R s m args below meth c H locs 0 0 Q (F0 m 2 ls []) := by
  intro n9
  induction n9 with
  | zero => intro s9 h; cases h
  | succ n9 ih =>
    intro s9 h kx0 H locs ls hR hS hl
    obtain ⟨r, hr, h⟩ := of_iter h
    refine w_bd_X5_firstRow_2 X hK hT hM a0 l1 s9 k0 hr (fun z ez H locs ls hR hS hl => ?_) (fun z ez H locs ls hR hS hl => ?_) H locs ls hR hS hl
    · exact ih z (of_itl ez h) kx0 H locs ls hR hS hl
    · have he := of_itr ez h; subst he; exact kx0 H locs ls hR hS hl

set_option maxHeartbeats 4000000 in
set_option maxRecDepth 100000 in
theorem w_X5_firstRow (X : Cx cX5_firstRow (some .int) 3 RX5 wsX5_firstRow p s m args meth c) (hK : Kn cA D s) (hT : TL Λ) (hM : 2 ≤ R.frames ∧ 47 ≤ R.locals) (a0 : Nat) (l1 : Int32) (k0 : isK Λ a0 6) {res : Int32} (h : F_X5_firstRow Λ σ a0 l1 = some res) (H : Heap) (locs : List Loc) (ls : Array Slot) (hR : Rep cA D Λ σ H) (hS : va_S (dm Λ) s.heap H locs) (hl : lv_has ls 3 [(0, .ref a0), (1, .int l1)]) : W p l e R s m args below meth c H locs 0 0 (MQ below (QI cA D Λ (res, σ)) args s 0 0 (dm Λ)) (F0 m 0 ls []) := by
  have hx := X.1
  have hb := X.2.1
  have hown := X.2.2.2.2.1
  have hts := X.2.2.2.2.2.1
  unfold F_X5_firstRow at h
  refine lv_iconst (v := (0 : Int32)) hx hb dX5_firstRow_0 (by decide) ?_
  refine lv_istore_n (lv' := [(2, .int (0 : Int32)), (0, .ref a0), (1, .int l1)]) hx hb dX5_firstRow_1 rfl hl (by decide) rfl (fun ls hl => ?_)
  obtain ⟨e_5, hq_5, h⟩ := of_bind h
  refine w_lp_X5_firstRow_2 X hK hT hM a0 l1 k0 _ (0 : Int32) hq_5 (fun H locs ls hR hS hl => ?_) H locs ls hR hS (lv_sub hl [1, 2, 0] rfl)
  refine lv_iload_n hx hb dX5_firstRow_27 rfl (lv_at hl 0 rfl) ?_
  exact rt_i X hR hS (congrArg (fun z => (z, σ)) (Option.some.inj h)) dX5_firstRow_28

set_option maxHeartbeats 4000000 in
set_option maxRecDepth 100000 in
theorem c_X5_firstRow (l : Launch) (cA : Nat → ClassId) (D : va_G) (Λ : Lay) (hT : TL Λ) (σ : Sto) (a0 : Nat) (l1 : Int32) (k0 : isK Λ a0 6) {res : Int32} (h : F_X5_firstRow Λ σ a0 l1 = some res) : Met l yX5_firstRow wsX5_firstRow { frames := 2, cells := 0, slots := 0, locals := 47 } (va_Pc [.ref a0, .int l1] (PW cA D Λ σ)) (QI cA D Λ (res, σ)) 0 0 (dm Λ) := by
  refine Met.ofW (cc := cX5_firstRow) (maxL := 3) (ret := (some .int)) (by decide) rfl ?_
  intro p e s m args below meth c s₁ B hml hv
  obtain ⟨rfl, hR, hK⟩ := hv
  have X : Cx cX5_firstRow (some .int) 3 RX5 wsX5_firstRow p s m _ meth c := ⟨B.exec, B.bytes, B.returns, hml, findClass_of_methodNamed B.named, atoms_spec (ws := wsX5_firstRow) B.pre, B.notSynchronized⟩
  have hS : va_S (dm Λ) s.heap s.heap [] := va_S.rf
  have hl := lv_entry ([.ref a0, .int l1]) (n := 3) (Nat.le_of_ble_eq_true rfl)
  rw [lg_entry_eq]
  generalize (lg_sl ([.ref a0, .int l1]) ++ List.replicate (3 - (lg_sl ([.ref a0, .int l1])).length) Slot.unset).toArray = ls at hl ⊢
  have hl : lv_has ls 3 [(0, .ref a0), (1, .int l1)] := hl
  exact w_X5_firstRow X hK hT ⟨Nat.le_refl _, Nat.le_refl _⟩ a0 l1 k0 h s.heap [] ls hR hS hl
theorem in_X5_lastColumn_6 : ∀ w ∈ u_ws RX5 TX5 24, w ∈ wsX5_lastColumn := by decide +kernel
set_option maxHeartbeats 4000000 in
set_option maxRecDepth 100000 in
theorem w_bd_X5_lastColumn_9 (X : Cx cX5_lastColumn (some .int) 3 RX5 wsX5_lastColumn p s m args meth c) (hK : Kn cA D s) (hT : TL Λ) (hM : 2 ≤ R.frames ∧ 47 ≤ R.locals) (a0 : Nat) (l1 : Int32) (s9 : Int32) (k0 : isK Λ a0 6) {r : Int32 ⊕ Int32} (h : bd_X5_lastColumn_9 Λ σ a0 l1 s9 = some r) (kb : ∀ z : Int32, r = .inl z → ∀ (H : Heap) (locs : List Loc) (ls : Array Slot), Rep cA D Λ σ H → va_S (dm Λ) s.heap H locs → lv_has ls 3 [(0, .ref a0), (1, .int l1), (2, .int z)] → W p l e R s m args below meth c H locs 0 0 Q (F0 m 9 ls [])) (kx0 : ∀ z : Int32, r = .inr z → ∀ (H : Heap) (locs : List Loc) (ls : Array Slot), Rep cA D Λ σ H → va_S (dm Λ) s.heap H locs → lv_has ls 3 [(2, .int z)] → W p l e R s m args below meth c H locs 0 0 Q (F0 m 24 ls [])) (H : Heap) (locs : List Loc) (ls : Array Slot) (hR : Rep cA D Λ σ H) (hS : va_S (dm Λ) s.heap H locs) (hl : lv_has ls 3 [(0, .ref a0), (1, .int l1), (2, .int s9)]) : W p l e R s m args below meth c H locs 0 0 Q (F0 m 9 ls []) := by
  have hx := X.1
  have hb := X.2.1
  have hown := X.2.2.2.2.1
  have hts := X.2.2.2.2.2.1
  unfold bd_X5_lastColumn_9 at h
  refine lv_aload_n hx hb dX5_lastColumn_9 rfl (lv_at hl 0 rfl) ?_
  refine lv_iload_n hx hb dX5_lastColumn_10 rfl (lv_at hl 1 rfl) ?_
  refine lv_iload_n hx hb dX5_lastColumn_11 rfl (lv_at hl 2 rfl) ?_
  obtain ⟨q_4, hq_4, h⟩ := of_bind h
  refine cl_i (rn_V (As := [.int l1, .int s9]) (rest := []) X hK hR k0 rfl (by decide) hl.1 (c_X5_columnInk l cA D Λ hT σ a0 l1 s9 k0 hq_4) (cwV 2 hts gX5_lastColumn_X5_columnInk rfl rfl rfl (by decide +kernel) ⟨Nat.le_trans (by decide) hM.1, Nat.le_trans (by decide) hM.2⟩) rfl rfl (Nat.le_of_ble_eq_true rfl) dX5_lastColumn_12) hS (fun H locs hR hS => ?_)
  refine lv_if_ne (tgt := 24) hx hb dX5_lastColumn_15 (by decide) (fun hc => ?_) (fun hc => ?_)
  · have h := of_neg hc h
    exact kx0 s9 (Option.some.inj h).symm H locs ls hR hS (lv_sub hl [2] rfl)
  · have h := of_pos hc h
    obtain ⟨v_5, e_v_5⟩ : ∃ y : Int32, y = (s9 + (-1 : Int32)) := ⟨_, rfl⟩
    have h := of_nm e_v_5 h
    refine lv_iinc (v := v_5) (lv' := [(2, .int v_5), (0, .ref a0), (1, .int l1)]) hx hb dX5_lastColumn_18 hl (k := 2) rfl (by rw [e_v_5]; rfl) (by decide) rfl (fun ls hl => ?_)
    refine lv_goto (tgt := 9) hx hb dX5_lastColumn_21 (by decide) ?_
    exact kb v_5 (Option.some.inj h).symm H locs ls hR hS (lv_sub hl [1, 2, 0] rfl)

set_option maxHeartbeats 4000000 in
set_option maxRecDepth 100000 in
theorem w_lp_X5_lastColumn_9 (X : Cx cX5_lastColumn (some .int) 3 RX5 wsX5_lastColumn p s m args meth c) (hK : Kn cA D s) (hT : TL Λ) (hM : 2 ≤ R.frames ∧ 47 ≤ R.locals) (a0 : Nat) (l1 : Int32) (k0 : isK Λ a0 6) {e9 : Int32} : ∀ (n9 : Nat) (s9 : Int32), iter (bd_X5_lastColumn_9 Λ σ a0 l1) n9 s9 = some e9 → ∀ (kx0 : ∀ (H : Heap) (locs : List Loc) (ls : Array Slot), Rep cA D Λ σ H → va_S (dm Λ) s.heap H locs → lv_has ls 3 [(2, .int e9)] → W p l e R s m args below meth c H locs 0 0 Q (F0 m 24 ls [])), ∀ (H : Heap) (locs : List Loc) (ls : Array Slot), Rep cA D Λ σ H → va_S (dm Λ) s.heap H locs → lv_has ls 3 [(0, .ref a0), (1, .int l1), (2, .int s9)] → W p l e R s m args below meth c H locs 0 0 Q (F0 m 9 ls []) := by
  intro n9
  induction n9 with
  | zero => intro s9 h; cases h
  | succ n9 ih =>
    intro s9 h kx0 H locs ls hR hS hl
    obtain ⟨r, hr, h⟩ := of_iter h
    refine w_bd_X5_lastColumn_9 X hK hT hM a0 l1 s9 k0 hr (fun z ez H locs ls hR hS hl => ?_) (fun z ez H locs ls hR hS hl => ?_) H locs ls hR hS hl
    · exact ih z (of_itl ez h) kx0 H locs ls hR hS hl
    · have he := of_itr ez h; subst he; exact kx0 H locs ls hR hS hl

set_option maxHeartbeats 4000000 in
set_option maxRecDepth 100000 in
theorem w_X5_lastColumn (X : Cx cX5_lastColumn (some .int) 3 RX5 wsX5_lastColumn p s m args meth c) (hK : Kn cA D s) (hT : TL Λ) (hM : 2 ≤ R.frames ∧ 47 ≤ R.locals) (a0 : Nat) (l1 : Int32) (k0 : isK Λ a0 6) {res : Int32} (h : F_X5_lastColumn Λ σ a0 l1 = some res) (H : Heap) (locs : List Loc) (ls : Array Slot) (hR : Rep cA D Λ σ H) (hS : va_S (dm Λ) s.heap H locs) (hl : lv_has ls 3 [(0, .ref a0), (1, .int l1)]) : W p l e R s m args below meth c H locs 0 0 (MQ below (QI cA D Λ (res, σ)) args s 0 0 (dm Λ)) (F0 m 0 ls []) := by
  have hx := X.1
  have hb := X.2.1
  have hown := X.2.2.2.2.1
  have hts := X.2.2.2.2.2.1
  unfold F_X5_lastColumn at h
  refine lv_aload_n hx hb dX5_lastColumn_0 rfl (lv_at hl 0 rfl) ?_
  refine rw_getR X hK hT hR 6 2 7 k0 (by decide) (C := RX5) (T := TX5) (N := 24) rfl (by decide) in_X5_lastColumn_6 (by decide +kernel) rfl dX5_lastColumn_1 (fun kf_1 => ?_)
  refine lv_iload_n hx hb dX5_lastColumn_4 rfl (lv_at hl 1 rfl) ?_
  obtain ⟨hg_2, h⟩ := of_guard h
  refine rw_iald X hK hR kf_1 hg_2 dX5_lastColumn_5 ?_
  refine lv_iconst (v := (1 : Int32)) hx hb dX5_lastColumn_6 (by decide) ?_
  refine lv_isub hx hb dX5_lastColumn_7 ?_
  refine lv_topi (fun v_3 e_v_3 => ?_)
  have h := of_nm e_v_3 h
  refine lv_istore_n (lv' := [(2, .int v_3), (0, .ref a0), (1, .int l1)]) hx hb dX5_lastColumn_8 rfl hl (by decide) rfl (fun ls hl => ?_)
  obtain ⟨e_6, hq_6, h⟩ := of_bind h
  refine w_lp_X5_lastColumn_9 X hK hT hM a0 l1 k0 _ v_3 hq_6 (fun H locs ls hR hS hl => ?_) H locs ls hR hS (lv_sub hl [1, 2, 0] rfl)
  refine lv_iload_n hx hb dX5_lastColumn_24 rfl (lv_at hl 0 rfl) ?_
  exact rt_i X hR hS (congrArg (fun z => (z, σ)) (Option.some.inj h)) dX5_lastColumn_25

set_option maxHeartbeats 4000000 in
set_option maxRecDepth 100000 in
theorem c_X5_lastColumn (l : Launch) (cA : Nat → ClassId) (D : va_G) (Λ : Lay) (hT : TL Λ) (σ : Sto) (a0 : Nat) (l1 : Int32) (k0 : isK Λ a0 6) {res : Int32} (h : F_X5_lastColumn Λ σ a0 l1 = some res) : Met l yX5_lastColumn wsX5_lastColumn { frames := 2, cells := 0, slots := 0, locals := 47 } (va_Pc [.ref a0, .int l1] (PW cA D Λ σ)) (QI cA D Λ (res, σ)) 0 0 (dm Λ) := by
  refine Met.ofW (cc := cX5_lastColumn) (maxL := 3) (ret := (some .int)) (by decide) rfl ?_
  intro p e s m args below meth c s₁ B hml hv
  obtain ⟨rfl, hR, hK⟩ := hv
  have X : Cx cX5_lastColumn (some .int) 3 RX5 wsX5_lastColumn p s m _ meth c := ⟨B.exec, B.bytes, B.returns, hml, findClass_of_methodNamed B.named, atoms_spec (ws := wsX5_lastColumn) B.pre, B.notSynchronized⟩
  have hS : va_S (dm Λ) s.heap s.heap [] := va_S.rf
  have hl := lv_entry ([.ref a0, .int l1]) (n := 3) (Nat.le_of_ble_eq_true rfl)
  rw [lg_entry_eq]
  generalize (lg_sl ([.ref a0, .int l1]) ++ List.replicate (3 - (lg_sl ([.ref a0, .int l1])).length) Slot.unset).toArray = ls at hl ⊢
  have hl : lv_has ls 3 [(0, .ref a0), (1, .int l1)] := hl
  exact w_X5_lastColumn X hK hT ⟨Nat.le_refl _, Nat.le_refl _⟩ a0 l1 k0 h s.heap [] ls hR hS hl
theorem in_X5_lastRow_6 : ∀ w ∈ u_ws RX5 TX5 24, w ∈ wsX5_lastRow := by decide +kernel
set_option maxHeartbeats 4000000 in
set_option maxRecDepth 100000 in
theorem w_bd_X5_lastRow_9 (X : Cx cX5_lastRow (some .int) 3 RX5 wsX5_lastRow p s m args meth c) (hK : Kn cA D s) (hT : TL Λ) (hM : 2 ≤ R.frames ∧ 47 ≤ R.locals) (a0 : Nat) (l1 : Int32) (s9 : Int32) (k0 : isK Λ a0 6) {r : Int32 ⊕ Int32} (h : bd_X5_lastRow_9 Λ σ a0 l1 s9 = some r) (kb : ∀ z : Int32, r = .inl z → ∀ (H : Heap) (locs : List Loc) (ls : Array Slot), Rep cA D Λ σ H → va_S (dm Λ) s.heap H locs → lv_has ls 3 [(0, .ref a0), (1, .int l1), (2, .int z)] → W p l e R s m args below meth c H locs 0 0 Q (F0 m 9 ls [])) (kx0 : ∀ z : Int32, r = .inr z → ∀ (H : Heap) (locs : List Loc) (ls : Array Slot), Rep cA D Λ σ H → va_S (dm Λ) s.heap H locs → lv_has ls 3 [(2, .int z)] → W p l e R s m args below meth c H locs 0 0 Q (F0 m 24 ls [])) (H : Heap) (locs : List Loc) (ls : Array Slot) (hR : Rep cA D Λ σ H) (hS : va_S (dm Λ) s.heap H locs) (hl : lv_has ls 3 [(0, .ref a0), (1, .int l1), (2, .int s9)]) : W p l e R s m args below meth c H locs 0 0 Q (F0 m 9 ls []) := by
  have hx := X.1
  have hb := X.2.1
  have hown := X.2.2.2.2.1
  have hts := X.2.2.2.2.2.1
  unfold bd_X5_lastRow_9 at h
  refine lv_aload_n hx hb dX5_lastRow_9 rfl (lv_at hl 0 rfl) ?_
  refine lv_iload_n hx hb dX5_lastRow_10 rfl (lv_at hl 1 rfl) ?_
  refine lv_iload_n hx hb dX5_lastRow_11 rfl (lv_at hl 2 rfl) ?_
  obtain ⟨q_4, hq_4, h⟩ := of_bind h
  refine cl_i (rn_V (As := [.int l1, .int s9]) (rest := []) X hK hR k0 rfl (by decide) hl.1 (c_X5_rowInk l cA D Λ hT σ a0 l1 s9 k0 hq_4) (cwV 2 hts gX5_lastRow_X5_rowInk rfl rfl rfl (by decide +kernel) ⟨Nat.le_trans (by decide) hM.1, Nat.le_trans (by decide) hM.2⟩) rfl rfl (Nat.le_of_ble_eq_true rfl) dX5_lastRow_12) hS (fun H locs hR hS => ?_)
  refine lv_if_ne (tgt := 24) hx hb dX5_lastRow_15 (by decide) (fun hc => ?_) (fun hc => ?_)
  · have h := of_neg hc h
    exact kx0 s9 (Option.some.inj h).symm H locs ls hR hS (lv_sub hl [2] rfl)
  · have h := of_pos hc h
    obtain ⟨v_5, e_v_5⟩ : ∃ y : Int32, y = (s9 + (-1 : Int32)) := ⟨_, rfl⟩
    have h := of_nm e_v_5 h
    refine lv_iinc (v := v_5) (lv' := [(2, .int v_5), (0, .ref a0), (1, .int l1)]) hx hb dX5_lastRow_18 hl (k := 2) rfl (by rw [e_v_5]; rfl) (by decide) rfl (fun ls hl => ?_)
    refine lv_goto (tgt := 9) hx hb dX5_lastRow_21 (by decide) ?_
    exact kb v_5 (Option.some.inj h).symm H locs ls hR hS (lv_sub hl [1, 2, 0] rfl)

set_option maxHeartbeats 4000000 in
set_option maxRecDepth 100000 in
theorem w_lp_X5_lastRow_9 (X : Cx cX5_lastRow (some .int) 3 RX5 wsX5_lastRow p s m args meth c) (hK : Kn cA D s) (hT : TL Λ) (hM : 2 ≤ R.frames ∧ 47 ≤ R.locals) (a0 : Nat) (l1 : Int32) (k0 : isK Λ a0 6) {e9 : Int32} : ∀ (n9 : Nat) (s9 : Int32), iter (bd_X5_lastRow_9 Λ σ a0 l1) n9 s9 = some e9 → ∀ (kx0 : ∀ (H : Heap) (locs : List Loc) (ls : Array Slot), Rep cA D Λ σ H → va_S (dm Λ) s.heap H locs → lv_has ls 3 [(2, .int e9)] → W p l e R s m args below meth c H locs 0 0 Q (F0 m 24 ls [])), ∀ (H : Heap) (locs : List Loc) (ls : Array Slot), Rep cA D Λ σ H → va_S (dm Λ) s.heap H locs → lv_has ls 3 [(0, .ref a0), (1, .int l1), (2, .int s9)] → W p l e R s m args below meth c H locs 0 0 Q (F0 m 9 ls []) := by
  intro n9
  induction n9 with
  | zero => intro s9 h; cases h
  | succ n9 ih =>
    intro s9 h kx0 H locs ls hR hS hl
    obtain ⟨r, hr, h⟩ := of_iter h
    refine w_bd_X5_lastRow_9 X hK hT hM a0 l1 s9 k0 hr (fun z ez H locs ls hR hS hl => ?_) (fun z ez H locs ls hR hS hl => ?_) H locs ls hR hS hl
    · exact ih z (of_itl ez h) kx0 H locs ls hR hS hl
    · have he := of_itr ez h; subst he; exact kx0 H locs ls hR hS hl

set_option maxHeartbeats 4000000 in
set_option maxRecDepth 100000 in
theorem w_X5_lastRow (X : Cx cX5_lastRow (some .int) 3 RX5 wsX5_lastRow p s m args meth c) (hK : Kn cA D s) (hT : TL Λ) (hM : 2 ≤ R.frames ∧ 47 ≤ R.locals) (a0 : Nat) (l1 : Int32) (k0 : isK Λ a0 6) {res : Int32} (h : F_X5_lastRow Λ σ a0 l1 = some res) (H : Heap) (locs : List Loc) (ls : Array Slot) (hR : Rep cA D Λ σ H) (hS : va_S (dm Λ) s.heap H locs) (hl : lv_has ls 3 [(0, .ref a0), (1, .int l1)]) : W p l e R s m args below meth c H locs 0 0 (MQ below (QI cA D Λ (res, σ)) args s 0 0 (dm Λ)) (F0 m 0 ls []) := by
  have hx := X.1
  have hb := X.2.1
  have hown := X.2.2.2.2.1
  have hts := X.2.2.2.2.2.1
  unfold F_X5_lastRow at h
  refine lv_aload_n hx hb dX5_lastRow_0 rfl (lv_at hl 0 rfl) ?_
  refine rw_getR X hK hT hR 6 3 7 k0 (by decide) (C := RX5) (T := TX5) (N := 24) rfl (by decide) in_X5_lastRow_6 (by decide +kernel) rfl dX5_lastRow_1 (fun kf_1 => ?_)
  refine lv_iload_n hx hb dX5_lastRow_4 rfl (lv_at hl 1 rfl) ?_
  obtain ⟨hg_2, h⟩ := of_guard h
  refine rw_iald X hK hR kf_1 hg_2 dX5_lastRow_5 ?_
  refine lv_iconst (v := (1 : Int32)) hx hb dX5_lastRow_6 (by decide) ?_
  refine lv_isub hx hb dX5_lastRow_7 ?_
  refine lv_topi (fun v_3 e_v_3 => ?_)
  have h := of_nm e_v_3 h
  refine lv_istore_n (lv' := [(2, .int v_3), (0, .ref a0), (1, .int l1)]) hx hb dX5_lastRow_8 rfl hl (by decide) rfl (fun ls hl => ?_)
  obtain ⟨e_6, hq_6, h⟩ := of_bind h
  refine w_lp_X5_lastRow_9 X hK hT hM a0 l1 k0 _ v_3 hq_6 (fun H locs ls hR hS hl => ?_) H locs ls hR hS (lv_sub hl [1, 2, 0] rfl)
  refine lv_iload_n hx hb dX5_lastRow_24 rfl (lv_at hl 0 rfl) ?_
  exact rt_i X hR hS (congrArg (fun z => (z, σ)) (Option.some.inj h)) dX5_lastRow_25

set_option maxHeartbeats 4000000 in
set_option maxRecDepth 100000 in
theorem c_X5_lastRow (l : Launch) (cA : Nat → ClassId) (D : va_G) (Λ : Lay) (hT : TL Λ) (σ : Sto) (a0 : Nat) (l1 : Int32) (k0 : isK Λ a0 6) {res : Int32} (h : F_X5_lastRow Λ σ a0 l1 = some res) : Met l yX5_lastRow wsX5_lastRow { frames := 2, cells := 0, slots := 0, locals := 47 } (va_Pc [.ref a0, .int l1] (PW cA D Λ σ)) (QI cA D Λ (res, σ)) 0 0 (dm Λ) := by
  refine Met.ofW (cc := cX5_lastRow) (maxL := 3) (ret := (some .int)) (by decide) rfl ?_
  intro p e s m args below meth c s₁ B hml hv
  obtain ⟨rfl, hR, hK⟩ := hv
  have X : Cx cX5_lastRow (some .int) 3 RX5 wsX5_lastRow p s m _ meth c := ⟨B.exec, B.bytes, B.returns, hml, findClass_of_methodNamed B.named, atoms_spec (ws := wsX5_lastRow) B.pre, B.notSynchronized⟩
  have hS : va_S (dm Λ) s.heap s.heap [] := va_S.rf
  have hl := lv_entry ([.ref a0, .int l1]) (n := 3) (Nat.le_of_ble_eq_true rfl)
  rw [lg_entry_eq]
  generalize (lg_sl ([.ref a0, .int l1]) ++ List.replicate (3 - (lg_sl ([.ref a0, .int l1])).length) Slot.unset).toArray = ls at hl ⊢
  have hl : lv_has ls 3 [(0, .ref a0), (1, .int l1)] := hl
  exact w_X5_lastRow X hK hT ⟨Nat.le_refl _, Nat.le_refl _⟩ a0 l1 k0 h s.heap [] ls hR hS hl
theorem in_X5_hasInk_6 : ∀ w ∈ u_ws RX5 TX5 24, w ∈ wsX5_hasInk := by decide +kernel
set_option maxHeartbeats 4000000 in
set_option maxRecDepth 100000 in
theorem w_X5_hasInk (X : Cx cX5_hasInk (some .boolean) 2 RX5 wsX5_hasInk p s m args meth c) (hK : Kn cA D s) (hT : TL Λ) (hM : 3 ≤ R.frames ∧ 69 ≤ R.locals) (a0 : Nat) (l1 : Int32) (k0 : isK Λ a0 6) {res : Int32} (h : F_X5_hasInk Λ σ a0 l1 = some res) (H : Heap) (locs : List Loc) (ls : Array Slot) (hR : Rep cA D Λ σ H) (hS : va_S (dm Λ) s.heap H locs) (hl : lv_has ls 2 [(0, .ref a0), (1, .int l1)]) : W p l e R s m args below meth c H locs 0 0 (MQ below (QZ cA D Λ (res, σ)) args s 0 0 (dm Λ)) (F0 m 0 ls []) := by
  have hx := X.1
  have hb := X.2.1
  have hown := X.2.2.2.2.1
  have hts := X.2.2.2.2.2.1
  unfold F_X5_hasInk at h
  refine lv_aload_n hx hb dX5_hasInk_0 rfl (lv_at hl 0 rfl) ?_
  refine lv_iload_n hx hb dX5_hasInk_1 rfl (lv_at hl 1 rfl) ?_
  obtain ⟨q_1, hq_1, h⟩ := of_bind h
  refine cl_i (rn_V (As := [.int l1]) (rest := []) X hK hR k0 rfl (by decide) hl.1 (c_X5_firstRow l cA D Λ hT σ a0 l1 k0 hq_1) (cwV 1 hts gX5_hasInk_X5_firstRow rfl rfl rfl (by decide +kernel) ⟨Nat.le_trans (by decide) hM.1, Nat.le_trans (by decide) hM.2⟩) rfl rfl (Nat.le_of_ble_eq_true rfl) dX5_hasInk_2) hS (fun H locs hR hS => ?_)
  refine lv_aload_n hx hb dX5_hasInk_5 rfl (lv_at hl 0 rfl) ?_
  refine rw_getR X hK hT hR 6 3 7 k0 (by decide) (C := RX5) (T := TX5) (N := 24) rfl (by decide) in_X5_hasInk_6 (by decide +kernel) rfl dX5_hasInk_6 (fun kf_2 => ?_)
  refine lv_iload_n hx hb dX5_hasInk_9 rfl (lv_at hl 1 rfl) ?_
  obtain ⟨hg_3, h⟩ := of_guard h
  refine rw_iald X hK hR kf_2 hg_3 dX5_hasInk_10 ?_
  refine lv_icmp_ge (tgt := 18) hx hb dX5_hasInk_11 (by decide) (fun hc => ?_) (fun hc => ?_)
  · have h := of_pos hc h
    refine lv_iconst (v := (0 : Int32)) hx hb dX5_hasInk_18 (by decide) ?_
    exact rt_z X hR hS (congrArg (fun z => (z, σ)) (Option.some.inj h)) (Or.inl rfl) dX5_hasInk_19
  · have h := of_neg hc h
    refine lv_iconst (v := (1 : Int32)) hx hb dX5_hasInk_14 (by decide) ?_
    refine lv_goto (tgt := 19) hx hb dX5_hasInk_15 (by decide) ?_
    exact rt_z X hR hS (congrArg (fun z => (z, σ)) (Option.some.inj h)) (Or.inr rfl) dX5_hasInk_19

set_option maxHeartbeats 4000000 in
set_option maxRecDepth 100000 in
theorem c_X5_hasInk (l : Launch) (cA : Nat → ClassId) (D : va_G) (Λ : Lay) (hT : TL Λ) (σ : Sto) (a0 : Nat) (l1 : Int32) (k0 : isK Λ a0 6) {res : Int32} (h : F_X5_hasInk Λ σ a0 l1 = some res) : Met l yX5_hasInk wsX5_hasInk { frames := 3, cells := 0, slots := 0, locals := 69 } (va_Pc [.ref a0, .int l1] (PW cA D Λ σ)) (QZ cA D Λ (res, σ)) 0 0 (dm Λ) := by
  refine Met.ofW (cc := cX5_hasInk) (maxL := 2) (ret := (some .boolean)) (by decide) rfl ?_
  intro p e s m args below meth c s₁ B hml hv
  obtain ⟨rfl, hR, hK⟩ := hv
  have X : Cx cX5_hasInk (some .boolean) 2 RX5 wsX5_hasInk p s m _ meth c := ⟨B.exec, B.bytes, B.returns, hml, findClass_of_methodNamed B.named, atoms_spec (ws := wsX5_hasInk) B.pre, B.notSynchronized⟩
  have hS : va_S (dm Λ) s.heap s.heap [] := va_S.rf
  have hl := lv_entry ([.ref a0, .int l1]) (n := 2) (Nat.le_of_ble_eq_true rfl)
  rw [lg_entry_eq]
  generalize (lg_sl ([.ref a0, .int l1]) ++ List.replicate (2 - (lg_sl ([.ref a0, .int l1])).length) Slot.unset).toArray = ls at hl ⊢
  have hl : lv_has ls 2 [(0, .ref a0), (1, .int l1)] := hl
  exact w_X5_hasInk X hK hT ⟨Nat.le_refl _, Nat.le_refl _⟩ a0 l1 k0 h s.heap [] ls hR hS hl
theorem in_X5_box_6 : ∀ w ∈ u_ws RX5 TX5 24, w ∈ wsX5_box := by decide +kernel
set_option maxHeartbeats 4000000 in
set_option maxRecDepth 100000 in
theorem w_X5_box (X : Cx cX5_box (some .int) 3 RX5 wsX5_box p s m args meth c) (hK : Kn cA D s) (hT : TL Λ) (hM : 4 ≤ R.frames ∧ 90 ≤ R.locals) (a0 : Nat) (l1 : Int32) (l2 : Int32) (k0 : isK Λ a0 6) {res : Int32 × Sto} (h : F_X5_box Λ σ a0 l1 l2 = some res) (H : Heap) (locs : List Loc) (ls : Array Slot) (hR : Rep cA D Λ σ H) (hS : va_S (dm Λ) s.heap H locs) (hl : lv_has ls 3 [(0, .ref a0), (1, .int l1), (2, .int l2)]) : W p l e R s m args below meth c H locs 0 0 (MQ below (QI cA D Λ res) args s 0 0 (dm Λ)) (F0 m 0 ls []) := by
  have hx := X.1
  have hb := X.2.1
  have hown := X.2.2.2.2.1
  have hts := X.2.2.2.2.2.1
  unfold F_X5_box at h
  refine lv_aload_n hx hb dX5_box_0 rfl (lv_at hl 0 rfl) ?_
  refine lv_iconst (v := (0 : Int32)) hx hb dX5_box_1 (by decide) ?_
  refine rw_putI X hK hT hR hS 6 0 tyX5 k0 (by decide) (C := RX5) (T := TX5) (N := 24) rfl (by decide) in_X5_box_6 tyX5_ok nmX5 (by decide +kernel) rfl rfl (by decide +kernel) dX5_box_2 (fun σ_1 H locs e_1 hR hS => ?_)
  have h := of_nm e_1 h
  refine lv_aload_n hx hb dX5_box_5 rfl (lv_at hl 0 rfl) ?_
  refine lv_iload_n hx hb dX5_box_6 rfl (lv_at hl 1 rfl) ?_
  refine cl_z (rn_V (As := [.int l1]) (rest := []) X hK hR k0 rfl (by decide) hl.1 (c_X5_isPage l cA D Λ hT σ_1 a0 l1 k0) (cwV 1 hts gX5_box_X5_isPage rfl rfl rfl (by decide +kernel) ⟨Nat.le_trans (by decide) hM.1, Nat.le_trans (by decide) hM.2⟩) rfl rfl (Nat.le_of_ble_eq_true rfl) dX5_box_7) hS (fun hz_2 H locs hR hS => ?_)
  refine lv_topi (fun r_2 e_2 => ?_)
  have h := of_nm e_2 h
  have hz_2 : r_2 = 0 ∨ r_2 = 1 := by rw [e_2]; exact hz_2
  refine lv_if_eq (tgt := 33) hx hb dX5_box_10 (by decide) (fun hc => ?_) (fun hc => ?_)
  · have h := of_pos hc h
    refine lv_iconst (v := (-1 : Int32)) hx hb dX5_box_33 (by decide) ?_
    exact rt_i X hR hS (Option.some.inj h) dX5_box_34
  · have h := of_neg hc h
    refine lv_aload_n hx hb dX5_box_13 rfl (lv_at hl 0 rfl) ?_
    refine lv_iload_n hx hb dX5_box_14 rfl (lv_at hl 1 rfl) ?_
    obtain ⟨q_3, hq_3, h⟩ := of_bind h
    refine cl_z (rn_V (As := [.int l1]) (rest := []) X hK hR k0 rfl (by decide) hl.1 (c_X5_hasInk l cA D Λ hT σ_1 a0 l1 k0 hq_3) (cwV 1 hts gX5_box_X5_hasInk rfl rfl rfl (by decide +kernel) ⟨Nat.le_trans (by decide) hM.1, Nat.le_trans (by decide) hM.2⟩) rfl rfl (Nat.le_of_ble_eq_true rfl) dX5_box_15) hS (fun hz_3 H locs hR hS => ?_)
    refine lv_if_eq (tgt := 33) hx hb dX5_box_18 (by decide) (fun hc => ?_) (fun hc => ?_)
    · have h := of_pos hc h
      refine lv_iconst (v := (-1 : Int32)) hx hb dX5_box_33 (by decide) ?_
      exact rt_i X hR hS (Option.some.inj h) dX5_box_34
    · have h := of_neg hc h
      refine lv_iload_n hx hb dX5_box_21 rfl (lv_at hl 2 rfl) ?_
      refine lv_i2l (v := (l2.toInt64)) hx hb dX5_box_22 rfl ?_
      refine lv_lconst (v := (0 : Int64)) hx hb dX5_box_23 (by decide) ?_
      refine lv_ldc2 (v := (3 : Int64)) hx hb hown (hts (.constantLong RX5 224 (3)) (by decide +kernel)) dX5_box_24 ?_
      refine cl_z (rn_S (As := [.long (l2.toInt64), .long (0 : Int64), .long (3 : Int64)]) (rest := []) X hK hR hl.1 (c_X5_in l cA D Λ hT σ_1 (l2.toInt64) (0 : Int64) (3 : Int64)) (va_cwS 3 hts gX5_box_X5_in rfl rfl rfl (by decide +kernel) ⟨Nat.le_trans (by decide) hM.1, Nat.le_trans (by decide) hM.2⟩) rfl rfl (Nat.le_of_ble_eq_true rfl) dX5_box_27) hS (fun hz_4 H locs hR hS => ?_)
      refine lv_topi (fun r_4 e_4 => ?_)
      have h := of_nm e_4 h
      have hz_4 : r_4 = 0 ∨ r_4 = 1 := by rw [e_4]; exact hz_4
      refine lv_if_ne (tgt := 35) hx hb dX5_box_30 (by decide) (fun hc => ?_) (fun hc => ?_)
      · have h := of_neg hc h
        refine lv_iload_n hx hb dX5_box_35 rfl (lv_at hl 2 rfl) ?_
        refine lv_if_ne (tgt := 47) hx hb dX5_box_36 (by decide) (fun hc => ?_) (fun hc => ?_)
        · have h := of_neg hc h
          refine lv_iload_n hx hb dX5_box_47 rfl (lv_at hl 2 rfl) ?_
          refine lv_iconst (v := (1 : Int32)) hx hb dX5_box_48 (by decide) ?_
          refine lv_icmp_ne (tgt := 60) hx hb dX5_box_49 (by decide) (fun hc => ?_) (fun hc => ?_)
          · have h := of_neg hc h
            refine lv_iload_n hx hb dX5_box_60 rfl (lv_at hl 2 rfl) ?_
            refine lv_iconst (v := (2 : Int32)) hx hb dX5_box_61 (by decide) ?_
            refine lv_icmp_ne (tgt := 73) hx hb dX5_box_62 (by decide) (fun hc => ?_) (fun hc => ?_)
            · have h := of_neg hc h
              refine lv_aload_n hx hb dX5_box_73 rfl (lv_at hl 0 rfl) ?_
              refine lv_iload_n hx hb dX5_box_74 rfl (lv_at hl 1 rfl) ?_
              obtain ⟨q_5, hq_5, h⟩ := of_bind h
              refine cl_i (rn_V (As := [.int l1]) (rest := []) X hK hR k0 rfl (by decide) hl.1 (c_X5_lastRow l cA D Λ hT σ_1 a0 l1 k0 hq_5) (cwV 1 hts gX5_box_X5_lastRow rfl rfl rfl (by decide +kernel) ⟨Nat.le_trans (by decide) hM.1, Nat.le_trans (by decide) hM.2⟩) rfl rfl (Nat.le_of_ble_eq_true rfl) dX5_box_75) hS (fun H locs hR hS => ?_)
              exact rt_i X hR hS (Option.some.inj h) dX5_box_78
            · have h := of_pos hc h
              refine lv_aload_n hx hb dX5_box_65 rfl (lv_at hl 0 rfl) ?_
              refine lv_iload_n hx hb dX5_box_66 rfl (lv_at hl 1 rfl) ?_
              obtain ⟨q_6, hq_6, h⟩ := of_bind h
              refine cl_i (rn_V (As := [.int l1]) (rest := []) X hK hR k0 rfl (by decide) hl.1 (c_X5_lastColumn l cA D Λ hT σ_1 a0 l1 k0 hq_6) (cwV 1 hts gX5_box_X5_lastColumn rfl rfl rfl (by decide +kernel) ⟨Nat.le_trans (by decide) hM.1, Nat.le_trans (by decide) hM.2⟩) rfl rfl (Nat.le_of_ble_eq_true rfl) dX5_box_67) hS (fun H locs hR hS => ?_)
              refine lv_goto (tgt := 78) hx hb dX5_box_70 (by decide) ?_
              exact rt_i X hR hS (Option.some.inj h) dX5_box_78
          · have h := of_pos hc h
            refine lv_aload_n hx hb dX5_box_52 rfl (lv_at hl 0 rfl) ?_
            refine lv_iload_n hx hb dX5_box_53 rfl (lv_at hl 1 rfl) ?_
            obtain ⟨q_7, hq_7, h⟩ := of_bind h
            refine cl_i (rn_V (As := [.int l1]) (rest := []) X hK hR k0 rfl (by decide) hl.1 (c_X5_firstRow l cA D Λ hT σ_1 a0 l1 k0 hq_7) (cwV 1 hts gX5_box_X5_firstRow rfl rfl rfl (by decide +kernel) ⟨Nat.le_trans (by decide) hM.1, Nat.le_trans (by decide) hM.2⟩) rfl rfl (Nat.le_of_ble_eq_true rfl) dX5_box_54) hS (fun H locs hR hS => ?_)
            refine lv_goto (tgt := 78) hx hb dX5_box_57 (by decide) ?_
            exact rt_i X hR hS (Option.some.inj h) dX5_box_78
        · have h := of_pos hc h
          refine lv_aload_n hx hb dX5_box_39 rfl (lv_at hl 0 rfl) ?_
          refine lv_iload_n hx hb dX5_box_40 rfl (lv_at hl 1 rfl) ?_
          obtain ⟨q_8, hq_8, h⟩ := of_bind h
          refine cl_i (rn_V (As := [.int l1]) (rest := []) X hK hR k0 rfl (by decide) hl.1 (c_X5_firstColumn l cA D Λ hT σ_1 a0 l1 k0 hq_8) (cwV 1 hts gX5_box_X5_firstColumn rfl rfl rfl (by decide +kernel) ⟨Nat.le_trans (by decide) hM.1, Nat.le_trans (by decide) hM.2⟩) rfl rfl (Nat.le_of_ble_eq_true rfl) dX5_box_41) hS (fun H locs hR hS => ?_)
          refine lv_goto (tgt := 78) hx hb dX5_box_44 (by decide) ?_
          exact rt_i X hR hS (Option.some.inj h) dX5_box_78
      · have h := of_pos hc h
        refine lv_iconst (v := (-1 : Int32)) hx hb dX5_box_33 (by decide) ?_
        exact rt_i X hR hS (Option.some.inj h) dX5_box_34

set_option maxHeartbeats 4000000 in
set_option maxRecDepth 100000 in
theorem c_X5_box (l : Launch) (cA : Nat → ClassId) (D : va_G) (Λ : Lay) (hT : TL Λ) (σ : Sto) (a0 : Nat) (l1 : Int32) (l2 : Int32) (k0 : isK Λ a0 6) {res : Int32 × Sto} (h : F_X5_box Λ σ a0 l1 l2 = some res) : Met l yX5_box wsX5_box { frames := 4, cells := 0, slots := 0, locals := 90 } (va_Pc [.ref a0, .int l1, .int l2] (PW cA D Λ σ)) (QI cA D Λ res) 0 0 (dm Λ) := by
  refine Met.ofW (cc := cX5_box) (maxL := 3) (ret := (some .int)) (by decide) rfl ?_
  intro p e s m args below meth c s₁ B hml hv
  obtain ⟨rfl, hR, hK⟩ := hv
  have X : Cx cX5_box (some .int) 3 RX5 wsX5_box p s m _ meth c := ⟨B.exec, B.bytes, B.returns, hml, findClass_of_methodNamed B.named, atoms_spec (ws := wsX5_box) B.pre, B.notSynchronized⟩
  have hS : va_S (dm Λ) s.heap s.heap [] := va_S.rf
  have hl := lv_entry ([.ref a0, .int l1, .int l2]) (n := 3) (Nat.le_of_ble_eq_true rfl)
  rw [lg_entry_eq]
  generalize (lg_sl ([.ref a0, .int l1, .int l2]) ++ List.replicate (3 - (lg_sl ([.ref a0, .int l1, .int l2])).length) Slot.unset).toArray = ls at hl ⊢
  have hl : lv_has ls 3 [(0, .ref a0), (1, .int l1), (2, .int l2)] := hl
  exact w_X5_box X hK hT ⟨Nat.le_refl _, Nat.le_refl _⟩ a0 l1 l2 k0 h s.heap [] ls hR hS hl
theorem in_X5_cut_6 : ∀ w ∈ u_ws RX5 TX5 24, w ∈ wsX5_cut := by decide +kernel
set_option maxHeartbeats 4000000 in
set_option maxRecDepth 100000 in
theorem w_bd_X5_cut_121 (X : Cx cX5_cut (some .boolean) 9 RX5 wsX5_cut p s m args meth c) (hK : Kn cA D s) (hT : TL Λ) (hM : 4 ≤ R.frames ∧ 90 ≤ R.locals) (a0 : Nat) (l1 : Int32) (l2 : Int32) (l3 : Int32) (l4 : Int32) (l5 : Int32) (l6 : Int32) (l7 : Int32) (s9 : (Int32 × Sto)) (k0 : isK Λ a0 6) {r : (Int32 × Sto) ⊕ Sto} (h : bd_X5_cut_121 Λ a0 l1 l2 l3 l4 l5 l6 l7 s9 = some r) (kb : ∀ z : (Int32 × Sto), r = .inl z → ∀ (H : Heap) (locs : List Loc) (ls : Array Slot), Rep cA D Λ z.2 H → va_S (dm Λ) s.heap H locs → lv_has ls 9 [(0, .ref a0), (1, .int l1), (2, .int l2), (3, .int l3), (4, .int l4), (5, .int l5), (6, .int l6), (7, .int l7), (8, .int z.1)] → W p l e R s m args below meth c H locs 0 0 Q (F0 m 121 ls [])) (kx0 : ∀ z : Sto, r = .inr z → ∀ (H : Heap) (locs : List Loc) (ls : Array Slot), Rep cA D Λ z H → va_S (dm Λ) s.heap H locs → lv_has ls 9 [(0, .ref a0), (1, .int l1), (2, .int l2), (3, .int l3), (4, .int l4), (5, .int l5), (6, .int l6), (7, .int l7)] → W p l e R s m args below meth c H locs 0 0 Q (F0 m 169 ls [])) (H : Heap) (locs : List Loc) (ls : Array Slot) (hR : Rep cA D Λ s9.2 H) (hS : va_S (dm Λ) s.heap H locs) (hl : lv_has ls 9 [(0, .ref a0), (1, .int l1), (2, .int l2), (3, .int l3), (4, .int l4), (5, .int l5), (6, .int l6), (7, .int l7), (8, .int s9.1)]) : W p l e R s m args below meth c H locs 0 0 Q (F0 m 121 ls []) := by
  have hx := X.1
  have hb := X.2.1
  have hown := X.2.2.2.2.1
  have hts := X.2.2.2.2.2.1
  unfold bd_X5_cut_121 at h
  refine lv_iload hx hb dX5_cut_121 (lv_at hl 8 rfl) ?_
  refine lv_iload hx hb dX5_cut_123 (lv_at hl 5 rfl) ?_
  refine lv_iconst (v := (2 : Int32)) hx hb dX5_cut_125 (by decide) ?_
  refine lv_iload_n hx hb dX5_cut_126 rfl (lv_at hl 2 rfl) ?_
  refine lv_imul hx hb dX5_cut_127 ?_
  refine lv_isub hx hb dX5_cut_128 ?_
  refine lv_icmp_ge (tgt := 169) hx hb dX5_cut_129 (by decide) (fun hc => ?_) (fun hc => ?_)
  · have h := of_pos hc h
    exact kx0 s9.2 (Option.some.inj h).symm H locs ls hR hS (lv_sub hl [0, 1, 2, 3, 4, 5, 6, 7] rfl)
  · have h := of_neg hc h
    refine lv_aload_n hx hb dX5_cut_132 rfl (lv_at hl 0 rfl) ?_
    refine rw_getR X hK hT hR 6 5 9 k0 (by decide) (C := RX5) (T := TX5) (N := 24) rfl (by decide) in_X5_cut_6 (by decide +kernel) rfl dX5_cut_133 (fun kf_13 => ?_)
    refine lv_iload hx hb dX5_cut_136 (lv_at hl 7 rfl) ?_
    refine lv_iload_n hx hb dX5_cut_138 rfl (lv_at hl 2 rfl) ?_
    refine lv_iadd hx hb dX5_cut_139 ?_
    refine lv_bipush (v := (64 : Int32)) hx hb dX5_cut_140 (by decide) ?_
    refine lv_imul hx hb dX5_cut_142 ?_
    refine lv_iload hx hb dX5_cut_143 (lv_at hl 8 rfl) ?_
    refine lv_iadd hx hb dX5_cut_145 ?_
    refine lv_iload_n hx hb dX5_cut_146 rfl (lv_at hl 2 rfl) ?_
    refine lv_iadd hx hb dX5_cut_147 ?_
    refine lv_aload_n hx hb dX5_cut_148 rfl (lv_at hl 0 rfl) ?_
    refine lv_iload_n hx hb dX5_cut_149 rfl (lv_at hl 1 rfl) ?_
    refine lv_iload_n hx hb dX5_cut_150 rfl (lv_at hl 3 rfl) ?_
    refine lv_iload hx hb dX5_cut_151 (lv_at hl 8 rfl) ?_
    refine lv_iadd hx hb dX5_cut_153 ?_
    refine lv_iload hx hb dX5_cut_154 (lv_at hl 4 rfl) ?_
    refine lv_iload hx hb dX5_cut_156 (lv_at hl 7 rfl) ?_
    refine lv_iadd hx hb dX5_cut_158 ?_
    obtain ⟨q_14, hq_14, h⟩ := of_bind h
    refine cl_z (rn_V (As := [.int l1, .int (l3 + s9.1), .int (l4 + l7)]) (rest := [.int ((((l7 + l2) * (64 : Int32)) + s9.1) + l2), .ref (rfA Λ a0 5)]) X hK hR k0 rfl (by decide) hl.1 (c_X5_has l cA D Λ hT s9.2 a0 l1 (l3 + s9.1) (l4 + l7) k0 hq_14) (cwV 3 hts gX5_cut_X5_has rfl rfl rfl (by decide +kernel) ⟨Nat.le_trans (by decide) hM.1, Nat.le_trans (by decide) hM.2⟩) rfl rfl (Nat.le_of_ble_eq_true rfl) dX5_cut_159) hS (fun hz_14 H locs hR hS => ?_)
    obtain ⟨hg_15, h⟩ := of_guard h
    refine rw_zast X hK hT hR hS kf_13 hg_15 dX5_cut_162 (fun σ_15 H locs e_15 hR hS => ?_)
    have h := of_nm e_15 h
    obtain ⟨v_16, e_v_16⟩ : ∃ y : Int32, y = (s9.1 + (1 : Int32)) := ⟨_, rfl⟩
    have h := of_nm e_v_16 h
    refine lv_iinc (v := v_16) (lv' := [(8, .int v_16), (0, .ref a0), (1, .int l1), (2, .int l2), (3, .int l3), (4, .int l4), (5, .int l5), (6, .int l6), (7, .int l7)]) hx hb dX5_cut_163 hl (k := 8) rfl (by rw [e_v_16]; rfl) (by decide) rfl (fun ls hl => ?_)
    refine lv_goto (tgt := 121) hx hb dX5_cut_166 (by decide) ?_
    exact kb (v_16, σ_15) (Option.some.inj h).symm H locs ls hR hS (lv_sub hl [1, 2, 3, 4, 5, 6, 7, 8, 0] rfl)

set_option maxHeartbeats 4000000 in
set_option maxRecDepth 100000 in
theorem w_lp_X5_cut_121 (X : Cx cX5_cut (some .boolean) 9 RX5 wsX5_cut p s m args meth c) (hK : Kn cA D s) (hT : TL Λ) (hM : 4 ≤ R.frames ∧ 90 ≤ R.locals) (a0 : Nat) (l1 : Int32) (l2 : Int32) (l3 : Int32) (l4 : Int32) (l5 : Int32) (l6 : Int32) (l7 : Int32) (k0 : isK Λ a0 6) {e9 : Sto} : ∀ (n9 : Nat) (s9 : (Int32 × Sto)), iter (bd_X5_cut_121 Λ a0 l1 l2 l3 l4 l5 l6 l7) n9 s9 = some e9 → ∀ (kx0 : ∀ (H : Heap) (locs : List Loc) (ls : Array Slot), Rep cA D Λ e9 H → va_S (dm Λ) s.heap H locs → lv_has ls 9 [(0, .ref a0), (1, .int l1), (2, .int l2), (3, .int l3), (4, .int l4), (5, .int l5), (6, .int l6), (7, .int l7)] → W p l e R s m args below meth c H locs 0 0 Q (F0 m 169 ls [])), ∀ (H : Heap) (locs : List Loc) (ls : Array Slot), Rep cA D Λ s9.2 H → va_S (dm Λ) s.heap H locs → lv_has ls 9 [(0, .ref a0), (1, .int l1), (2, .int l2), (3, .int l3), (4, .int l4), (5, .int l5), (6, .int l6), (7, .int l7), (8, .int s9.1)] → W p l e R s m args below meth c H locs 0 0 Q (F0 m 121 ls []) := by
  intro n9
  induction n9 with
  | zero => intro s9 h; cases h
  | succ n9 ih =>
    intro s9 h kx0 H locs ls hR hS hl
    obtain ⟨r, hr, h⟩ := of_iter h
    refine w_bd_X5_cut_121 X hK hT hM a0 l1 l2 l3 l4 l5 l6 l7 s9 k0 hr (fun z ez H locs ls hR hS hl => ?_) (fun z ez H locs ls hR hS hl => ?_) H locs ls hR hS hl
    · exact ih z (of_itl ez h) kx0 H locs ls hR hS hl
    · have he := of_itr ez h; subst he; exact kx0 H locs ls hR hS hl

set_option maxHeartbeats 4000000 in
set_option maxRecDepth 100000 in
theorem w_bd_X5_cut_107 (X : Cx cX5_cut (some .boolean) 9 RX5 wsX5_cut p s m args meth c) (hK : Kn cA D s) (hT : TL Λ) (hM : 4 ≤ R.frames ∧ 90 ≤ R.locals) (a0 : Nat) (l1 : Int32) (l2 : Int32) (l3 : Int32) (l4 : Int32) (l5 : Int32) (l6 : Int32) (s9 : (Int32 × Sto)) (k0 : isK Λ a0 6) {r : (Int32 × Sto) ⊕ Sto} (h : bd_X5_cut_107 Λ a0 l1 l2 l3 l4 l5 l6 s9 = some r) (kb : ∀ z : (Int32 × Sto), r = .inl z → ∀ (H : Heap) (locs : List Loc) (ls : Array Slot), Rep cA D Λ z.2 H → va_S (dm Λ) s.heap H locs → lv_has ls 9 [(0, .ref a0), (1, .int l1), (2, .int l2), (3, .int l3), (4, .int l4), (5, .int l5), (6, .int l6), (7, .int z.1)] → W p l e R s m args below meth c H locs 0 0 Q (F0 m 107 ls [])) (kx0 : ∀ z : Sto, r = .inr z → ∀ (H : Heap) (locs : List Loc) (ls : Array Slot), Rep cA D Λ z H → va_S (dm Λ) s.heap H locs → lv_has ls 9 [(0, .ref a0), (1, .int l1), (5, .int l5), (6, .int l6)] → W p l e R s m args below meth c H locs 0 0 Q (F0 m 175 ls [])) (H : Heap) (locs : List Loc) (ls : Array Slot) (hR : Rep cA D Λ s9.2 H) (hS : va_S (dm Λ) s.heap H locs) (hl : lv_has ls 9 [(0, .ref a0), (1, .int l1), (2, .int l2), (3, .int l3), (4, .int l4), (5, .int l5), (6, .int l6), (7, .int s9.1)]) : W p l e R s m args below meth c H locs 0 0 Q (F0 m 107 ls []) := by
  have hx := X.1
  have hb := X.2.1
  have hown := X.2.2.2.2.1
  have hts := X.2.2.2.2.2.1
  unfold bd_X5_cut_107 at h
  refine lv_iload hx hb dX5_cut_107 (lv_at hl 7 rfl) ?_
  refine lv_iload hx hb dX5_cut_109 (lv_at hl 6 rfl) ?_
  refine lv_iconst (v := (2 : Int32)) hx hb dX5_cut_111 (by decide) ?_
  refine lv_iload_n hx hb dX5_cut_112 rfl (lv_at hl 2 rfl) ?_
  refine lv_imul hx hb dX5_cut_113 ?_
  refine lv_isub hx hb dX5_cut_114 ?_
  refine lv_icmp_ge (tgt := 175) hx hb dX5_cut_115 (by decide) (fun hc => ?_) (fun hc => ?_)
  · have h := of_pos hc h
    exact kx0 s9.2 (Option.some.inj h).symm H locs ls hR hS (lv_sub hl [0, 1, 5, 6] rfl)
  · have h := of_neg hc h
    refine lv_iconst (v := (0 : Int32)) hx hb dX5_cut_118 (by decide) ?_
    refine lv_istore (lv' := [(8, .int (0 : Int32)), (0, .ref a0), (1, .int l1), (2, .int l2), (3, .int l3), (4, .int l4), (5, .int l5), (6, .int l6), (7, .int s9.1)]) hx hb dX5_cut_119 hl (by decide) rfl (fun ls hl => ?_)
    obtain ⟨e_17, hq_17, h⟩ := of_bind h
    refine w_lp_X5_cut_121 X hK hT hM a0 l1 l2 l3 l4 l5 l6 s9.1 k0 _ ((0 : Int32), s9.2) hq_17 (fun H locs ls hR hS hl => ?_) H locs ls hR hS (lv_sub hl [1, 2, 3, 4, 5, 6, 7, 8, 0] rfl)
    obtain ⟨v_18, e_v_18⟩ : ∃ y : Int32, y = (s9.1 + (1 : Int32)) := ⟨_, rfl⟩
    have h := of_nm e_v_18 h
    refine lv_iinc (v := v_18) (lv' := [(7, .int v_18), (0, .ref a0), (1, .int l1), (2, .int l2), (3, .int l3), (4, .int l4), (5, .int l5), (6, .int l6)]) hx hb dX5_cut_169 hl (k := 7) rfl (by rw [e_v_18]; rfl) (by decide) rfl (fun ls hl => ?_)
    refine lv_goto (tgt := 107) hx hb dX5_cut_172 (by decide) ?_
    exact kb (v_18, e_17) (Option.some.inj h).symm H locs ls hR hS (lv_sub hl [1, 2, 3, 4, 5, 6, 7, 0] rfl)

set_option maxHeartbeats 4000000 in
set_option maxRecDepth 100000 in
theorem w_lp_X5_cut_107 (X : Cx cX5_cut (some .boolean) 9 RX5 wsX5_cut p s m args meth c) (hK : Kn cA D s) (hT : TL Λ) (hM : 4 ≤ R.frames ∧ 90 ≤ R.locals) (a0 : Nat) (l1 : Int32) (l2 : Int32) (l3 : Int32) (l4 : Int32) (l5 : Int32) (l6 : Int32) (k0 : isK Λ a0 6) {e9 : Sto} : ∀ (n9 : Nat) (s9 : (Int32 × Sto)), iter (bd_X5_cut_107 Λ a0 l1 l2 l3 l4 l5 l6) n9 s9 = some e9 → ∀ (kx0 : ∀ (H : Heap) (locs : List Loc) (ls : Array Slot), Rep cA D Λ e9 H → va_S (dm Λ) s.heap H locs → lv_has ls 9 [(0, .ref a0), (1, .int l1), (5, .int l5), (6, .int l6)] → W p l e R s m args below meth c H locs 0 0 Q (F0 m 175 ls [])), ∀ (H : Heap) (locs : List Loc) (ls : Array Slot), Rep cA D Λ s9.2 H → va_S (dm Λ) s.heap H locs → lv_has ls 9 [(0, .ref a0), (1, .int l1), (2, .int l2), (3, .int l3), (4, .int l4), (5, .int l5), (6, .int l6), (7, .int s9.1)] → W p l e R s m args below meth c H locs 0 0 Q (F0 m 107 ls []) := by
  intro n9
  induction n9 with
  | zero => intro s9 h; cases h
  | succ n9 ih =>
    intro s9 h kx0 H locs ls hR hS hl
    obtain ⟨r, hr, h⟩ := of_iter h
    refine w_bd_X5_cut_107 X hK hT hM a0 l1 l2 l3 l4 l5 l6 s9 k0 hr (fun z ez H locs ls hR hS hl => ?_) (fun z ez H locs ls hR hS hl => ?_) H locs ls hR hS hl
    · exact ih z (of_itl ez h) kx0 H locs ls hR hS hl
    · have he := of_itr ez h; subst he; exact kx0 H locs ls hR hS hl

set_option maxHeartbeats 4000000 in
set_option maxRecDepth 100000 in
theorem w_X5_cut (X : Cx cX5_cut (some .boolean) 9 RX5 wsX5_cut p s m args meth c) (hK : Kn cA D s) (hT : TL Λ) (hM : 4 ≤ R.frames ∧ 90 ≤ R.locals) (a0 : Nat) (l1 : Int32) (l2 : Int32) (k0 : isK Λ a0 6) {res : Int32 × Sto} (h : F_X5_cut Λ σ a0 l1 l2 = some res) (H : Heap) (locs : List Loc) (ls : Array Slot) (hR : Rep cA D Λ σ H) (hS : va_S (dm Λ) s.heap H locs) (hl : lv_has ls 9 [(0, .ref a0), (1, .int l1), (2, .int l2)]) : W p l e R s m args below meth c H locs 0 0 (MQ below (QZ cA D Λ res) args s 0 0 (dm Λ)) (F0 m 0 ls []) := by
  have hx := X.1
  have hb := X.2.1
  have hown := X.2.2.2.2.1
  have hts := X.2.2.2.2.2.1
  unfold F_X5_cut at h
  refine lv_aload_n hx hb dX5_cut_0 rfl (lv_at hl 0 rfl) ?_
  refine lv_iconst (v := (0 : Int32)) hx hb dX5_cut_1 (by decide) ?_
  refine rw_putI X hK hT hR hS 6 0 tyX5 k0 (by decide) (C := RX5) (T := TX5) (N := 24) rfl (by decide) in_X5_cut_6 tyX5_ok nmX5 (by decide +kernel) rfl rfl (by decide +kernel) dX5_cut_2 (fun σ_1 H locs e_1 hR hS => ?_)
  have h := of_nm e_1 h
  refine lv_aload_n hx hb dX5_cut_5 rfl (lv_at hl 0 rfl) ?_
  refine lv_iload_n hx hb dX5_cut_6 rfl (lv_at hl 1 rfl) ?_
  refine cl_z (rn_V (As := [.int l1]) (rest := []) X hK hR k0 rfl (by decide) hl.1 (c_X5_isPage l cA D Λ hT σ_1 a0 l1 k0) (cwV 1 hts gX5_cut_X5_isPage rfl rfl rfl (by decide +kernel) ⟨Nat.le_trans (by decide) hM.1, Nat.le_trans (by decide) hM.2⟩) rfl rfl (Nat.le_of_ble_eq_true rfl) dX5_cut_7) hS (fun hz_2 H locs hR hS => ?_)
  refine lv_topi (fun r_2 e_2 => ?_)
  have h := of_nm e_2 h
  have hz_2 : r_2 = 0 ∨ r_2 = 1 := by rw [e_2]; exact hz_2
  refine lv_if_eq (tgt := 33) hx hb dX5_cut_10 (by decide) (fun hc => ?_) (fun hc => ?_)
  · have h := of_pos hc h
    refine lv_iconst (v := (0 : Int32)) hx hb dX5_cut_33 (by decide) ?_
    exact rt_z X hR hS (Option.some.inj h) (Or.inl rfl) dX5_cut_34
  · have h := of_neg hc h
    refine lv_aload_n hx hb dX5_cut_13 rfl (lv_at hl 0 rfl) ?_
    refine lv_iload_n hx hb dX5_cut_14 rfl (lv_at hl 1 rfl) ?_
    obtain ⟨q_3, hq_3, h⟩ := of_bind h
    refine cl_z (rn_V (As := [.int l1]) (rest := []) X hK hR k0 rfl (by decide) hl.1 (c_X5_hasInk l cA D Λ hT σ_1 a0 l1 k0 hq_3) (cwV 1 hts gX5_cut_X5_hasInk rfl rfl rfl (by decide +kernel) ⟨Nat.le_trans (by decide) hM.1, Nat.le_trans (by decide) hM.2⟩) rfl rfl (Nat.le_of_ble_eq_true rfl) dX5_cut_15) hS (fun hz_3 H locs hR hS => ?_)
    refine lv_if_eq (tgt := 33) hx hb dX5_cut_18 (by decide) (fun hc => ?_) (fun hc => ?_)
    · have h := of_pos hc h
      refine lv_iconst (v := (0 : Int32)) hx hb dX5_cut_33 (by decide) ?_
      exact rt_z X hR hS (Option.some.inj h) (Or.inl rfl) dX5_cut_34
    · have h := of_neg hc h
      refine lv_iload_n hx hb dX5_cut_21 rfl (lv_at hl 2 rfl) ?_
      refine lv_i2l (v := (l2.toInt64)) hx hb dX5_cut_22 rfl ?_
      refine lv_lconst (v := (0 : Int64)) hx hb dX5_cut_23 (by decide) ?_
      refine lv_ldc2 (v := (20 : Int64)) hx hb hown (hts (.constantLong RX5 200 (20)) (by decide +kernel)) dX5_cut_24 ?_
      refine cl_z (rn_S (As := [.long (l2.toInt64), .long (0 : Int64), .long (20 : Int64)]) (rest := []) X hK hR hl.1 (c_X5_in l cA D Λ hT σ_1 (l2.toInt64) (0 : Int64) (20 : Int64)) (va_cwS 3 hts gX5_cut_X5_in rfl rfl rfl (by decide +kernel) ⟨Nat.le_trans (by decide) hM.1, Nat.le_trans (by decide) hM.2⟩) rfl rfl (Nat.le_of_ble_eq_true rfl) dX5_cut_27) hS (fun hz_4 H locs hR hS => ?_)
      refine lv_topi (fun r_4 e_4 => ?_)
      have h := of_nm e_4 h
      have hz_4 : r_4 = 0 ∨ r_4 = 1 := by rw [e_4]; exact hz_4
      refine lv_if_ne (tgt := 35) hx hb dX5_cut_30 (by decide) (fun hc => ?_) (fun hc => ?_)
      · have h := of_neg hc h
        refine lv_aload_n hx hb dX5_cut_35 rfl (lv_at hl 0 rfl) ?_
        refine lv_iload_n hx hb dX5_cut_36 rfl (lv_at hl 1 rfl) ?_
        obtain ⟨q_5, hq_5, h⟩ := of_bind h
        refine cl_i (rn_V (As := [.int l1]) (rest := []) X hK hR k0 rfl (by decide) hl.1 (c_X5_firstColumn l cA D Λ hT σ_1 a0 l1 k0 hq_5) (cwV 1 hts gX5_cut_X5_firstColumn rfl rfl rfl (by decide +kernel) ⟨Nat.le_trans (by decide) hM.1, Nat.le_trans (by decide) hM.2⟩) rfl rfl (Nat.le_of_ble_eq_true rfl) dX5_cut_37) hS (fun H locs hR hS => ?_)
        refine lv_istore_n (lv' := [(3, .int q_5), (0, .ref a0), (1, .int l1), (2, .int l2)]) hx hb dX5_cut_40 rfl hl (by decide) rfl (fun ls hl => ?_)
        refine lv_aload_n hx hb dX5_cut_41 rfl (lv_at hl 1 rfl) ?_
        refine lv_iload_n hx hb dX5_cut_42 rfl (lv_at hl 2 rfl) ?_
        obtain ⟨q_6, hq_6, h⟩ := of_bind h
        refine cl_i (rn_V (As := [.int l1]) (rest := []) X hK hR k0 rfl (by decide) hl.1 (c_X5_firstRow l cA D Λ hT σ_1 a0 l1 k0 hq_6) (cwV 1 hts gX5_cut_X5_firstRow rfl rfl rfl (by decide +kernel) ⟨Nat.le_trans (by decide) hM.1, Nat.le_trans (by decide) hM.2⟩) rfl rfl (Nat.le_of_ble_eq_true rfl) dX5_cut_43) hS (fun H locs hR hS => ?_)
        refine lv_istore (lv' := [(4, .int q_6), (3, .int q_5), (0, .ref a0), (1, .int l1), (2, .int l2)]) hx hb dX5_cut_46 hl (by decide) rfl (fun ls hl => ?_)
        refine lv_aload_n hx hb dX5_cut_48 rfl (lv_at hl 2 rfl) ?_
        refine lv_iload_n hx hb dX5_cut_49 rfl (lv_at hl 3 rfl) ?_
        obtain ⟨q_7, hq_7, h⟩ := of_bind h
        refine cl_i (rn_V (As := [.int l1]) (rest := []) X hK hR k0 rfl (by decide) hl.1 (c_X5_lastColumn l cA D Λ hT σ_1 a0 l1 k0 hq_7) (cwV 1 hts gX5_cut_X5_lastColumn rfl rfl rfl (by decide +kernel) ⟨Nat.le_trans (by decide) hM.1, Nat.le_trans (by decide) hM.2⟩) rfl rfl (Nat.le_of_ble_eq_true rfl) dX5_cut_50) hS (fun H locs hR hS => ?_)
        refine lv_iload_n hx hb dX5_cut_53 rfl (lv_at hl 1 rfl) ?_
        refine lv_isub hx hb dX5_cut_54 ?_
        refine lv_iconst (v := (1 : Int32)) hx hb dX5_cut_55 (by decide) ?_
        refine lv_iadd hx hb dX5_cut_56 ?_
        refine lv_iconst (v := (2 : Int32)) hx hb dX5_cut_57 (by decide) ?_
        refine lv_iload_n hx hb dX5_cut_58 rfl (lv_at hl 4 rfl) ?_
        refine lv_imul hx hb dX5_cut_59 ?_
        refine lv_iadd hx hb dX5_cut_60 ?_
        refine lv_topi (fun v_8 e_v_8 => ?_)
        have h := of_nm e_v_8 h
        refine lv_istore (lv' := [(5, .int v_8), (4, .int q_6), (3, .int q_5), (0, .ref a0), (1, .int l1), (2, .int l2)]) hx hb dX5_cut_61 hl (by decide) rfl (fun ls hl => ?_)
        refine lv_aload_n hx hb dX5_cut_63 rfl (lv_at hl 3 rfl) ?_
        refine lv_iload_n hx hb dX5_cut_64 rfl (lv_at hl 4 rfl) ?_
        obtain ⟨q_9, hq_9, h⟩ := of_bind h
        refine cl_i (rn_V (As := [.int l1]) (rest := []) X hK hR k0 rfl (by decide) hl.1 (c_X5_lastRow l cA D Λ hT σ_1 a0 l1 k0 hq_9) (cwV 1 hts gX5_cut_X5_lastRow rfl rfl rfl (by decide +kernel) ⟨Nat.le_trans (by decide) hM.1, Nat.le_trans (by decide) hM.2⟩) rfl rfl (Nat.le_of_ble_eq_true rfl) dX5_cut_65) hS (fun H locs hR hS => ?_)
        refine lv_iload hx hb dX5_cut_68 (lv_at hl 1 rfl) ?_
        refine lv_isub hx hb dX5_cut_70 ?_
        refine lv_iconst (v := (1 : Int32)) hx hb dX5_cut_71 (by decide) ?_
        refine lv_iadd hx hb dX5_cut_72 ?_
        refine lv_iconst (v := (2 : Int32)) hx hb dX5_cut_73 (by decide) ?_
        refine lv_iload_n hx hb dX5_cut_74 rfl (lv_at hl 5 rfl) ?_
        refine lv_imul hx hb dX5_cut_75 ?_
        refine lv_iadd hx hb dX5_cut_76 ?_
        refine lv_topi (fun v_10 e_v_10 => ?_)
        have h := of_nm e_v_10 h
        refine lv_istore (lv' := [(6, .int v_10), (5, .int v_8), (4, .int q_6), (3, .int q_5), (0, .ref a0), (1, .int l1), (2, .int l2)]) hx hb dX5_cut_77 hl (by decide) rfl (fun ls hl => ?_)
        refine lv_iload hx hb dX5_cut_79 (lv_at hl 1 rfl) ?_
        refine lv_bipush (v := (64 : Int32)) hx hb dX5_cut_81 (by decide) ?_
        refine lv_icmp_gt (tgt := 93) hx hb dX5_cut_83 (by decide) (fun hc => ?_) (fun hc => ?_)
        · have h := of_pos hc h
          refine lv_iconst (v := (0 : Int32)) hx hb dX5_cut_93 (by decide) ?_
          exact rt_z X hR hS (Option.some.inj h) (Or.inl rfl) dX5_cut_94
        · have h := of_neg hc h
          refine lv_iload hx hb dX5_cut_86 (lv_at hl 0 rfl) ?_
          refine lv_bipush (v := (64 : Int32)) hx hb dX5_cut_88 (by decide) ?_
          refine lv_icmp_le (tgt := 95) hx hb dX5_cut_90 (by decide) (fun hc => ?_) (fun hc => ?_)
          · have h := of_pos hc h
            refine lv_aload_n hx hb dX5_cut_95 rfl (lv_at hl 4 rfl) ?_
            refine lv_iload_n hx hb dX5_cut_96 rfl (lv_at hl 5 rfl) ?_
            obtain ⟨q_11, hq_11, h⟩ := of_bind h
            refine cl_v (rn_V (As := [.int l1]) (rest := []) X hK hR k0 rfl (by decide) hl.1 (c_X5_changing l cA D Λ hT σ_1 a0 l1 k0 hq_11) (cwV 1 hts gX5_cut_X5_changing rfl rfl rfl (by decide +kernel) ⟨Nat.le_trans (by decide) hM.1, Nat.le_trans (by decide) hM.2⟩) rfl rfl (Nat.le_of_ble_eq_true rfl) dX5_cut_97) hS (fun H locs hR hS => ?_)
            refine lv_aload_n hx hb dX5_cut_100 rfl (lv_at hl 4 rfl) ?_
            obtain ⟨q_12, hq_12, h⟩ := of_bind h
            refine cl_v (rn_V (As := []) (rest := []) X hK hR k0 rfl (by decide) hl.1 (c_X5_blank l cA D Λ hT q_11 a0 k0 hq_12) (cwV 0 hts gX5_cut_X5_blank rfl rfl rfl (by decide +kernel) ⟨Nat.le_trans (by decide) hM.1, Nat.le_trans (by decide) hM.2⟩) rfl rfl (Nat.le_of_ble_eq_true rfl) dX5_cut_101) hS (fun H locs hR hS => ?_)
            refine lv_iconst (v := (0 : Int32)) hx hb dX5_cut_104 (by decide) ?_
            refine lv_istore (lv' := [(7, .int (0 : Int32)), (6, .int v_10), (5, .int v_8), (4, .int q_6), (3, .int q_5), (0, .ref a0), (1, .int l1), (2, .int l2)]) hx hb dX5_cut_105 hl (by decide) rfl (fun ls hl => ?_)
            obtain ⟨e_19, hq_19, h⟩ := of_bind h
            refine w_lp_X5_cut_107 X hK hT hM a0 l1 l2 q_5 q_6 v_8 v_10 k0 _ ((0 : Int32), q_12) hq_19 (fun H locs ls hR hS hl => ?_) H locs ls hR hS (lv_sub hl [5, 6, 7, 4, 3, 2, 1, 0] rfl)
            refine lv_aload_n hx hb dX5_cut_175 rfl (lv_at hl 0 rfl) ?_
            refine lv_iload_n hx hb dX5_cut_176 rfl (lv_at hl 1 rfl) ?_
            refine lv_iload hx hb dX5_cut_177 (lv_at hl 2 rfl) ?_
            refine lv_iload hx hb dX5_cut_179 (lv_at hl 3 rfl) ?_
            obtain ⟨q_20, hq_20, h⟩ := of_bind h
            refine cl_v (rn_V (As := [.int l1, .int v_8, .int v_10]) (rest := []) X hK hR k0 rfl (by decide) hl.1 (c_X5_becomes l cA D Λ hT e_19 a0 l1 v_8 v_10 k0 hq_20) (cwV 3 hts gX5_cut_X5_becomes rfl rfl rfl (by decide +kernel) ⟨Nat.le_trans (by decide) hM.1, Nat.le_trans (by decide) hM.2⟩) rfl rfl (Nat.le_of_ble_eq_true rfl) dX5_cut_181) hS (fun H locs hR hS => ?_)
            refine lv_iconst (v := (1 : Int32)) hx hb dX5_cut_184 (by decide) ?_
            exact rt_z X hR hS (Option.some.inj h) (Or.inr rfl) dX5_cut_185
          · have h := of_neg hc h
            refine lv_iconst (v := (0 : Int32)) hx hb dX5_cut_93 (by decide) ?_
            exact rt_z X hR hS (Option.some.inj h) (Or.inl rfl) dX5_cut_94
      · have h := of_pos hc h
        refine lv_iconst (v := (0 : Int32)) hx hb dX5_cut_33 (by decide) ?_
        exact rt_z X hR hS (Option.some.inj h) (Or.inl rfl) dX5_cut_34

set_option maxHeartbeats 4000000 in
set_option maxRecDepth 100000 in
theorem c_X5_cut (l : Launch) (cA : Nat → ClassId) (D : va_G) (Λ : Lay) (hT : TL Λ) (σ : Sto) (a0 : Nat) (l1 : Int32) (l2 : Int32) (k0 : isK Λ a0 6) {res : Int32 × Sto} (h : F_X5_cut Λ σ a0 l1 l2 = some res) : Met l yX5_cut wsX5_cut { frames := 4, cells := 0, slots := 0, locals := 90 } (va_Pc [.ref a0, .int l1, .int l2] (PW cA D Λ σ)) (QZ cA D Λ res) 0 0 (dm Λ) := by
  refine Met.ofW (cc := cX5_cut) (maxL := 9) (ret := (some .boolean)) (by decide) rfl ?_
  intro p e s m args below meth c s₁ B hml hv
  obtain ⟨rfl, hR, hK⟩ := hv
  have X : Cx cX5_cut (some .boolean) 9 RX5 wsX5_cut p s m _ meth c := ⟨B.exec, B.bytes, B.returns, hml, findClass_of_methodNamed B.named, atoms_spec (ws := wsX5_cut) B.pre, B.notSynchronized⟩
  have hS : va_S (dm Λ) s.heap s.heap [] := va_S.rf
  have hl := lv_entry ([.ref a0, .int l1, .int l2]) (n := 9) (Nat.le_of_ble_eq_true rfl)
  rw [lg_entry_eq]
  generalize (lg_sl ([.ref a0, .int l1, .int l2]) ++ List.replicate (9 - (lg_sl ([.ref a0, .int l1, .int l2])).length) Slot.unset).toArray = ls at hl ⊢
  have hl : lv_has ls 9 [(0, .ref a0), (1, .int l1), (2, .int l2)] := hl
  exact w_X5_cut X hK hT ⟨Nat.le_refl _, Nat.le_refl _⟩ a0 l1 l2 k0 h s.heap [] ls hR hS hl
theorem in_X5_spans_6 : ∀ w ∈ u_ws RX5 TX5 24, w ∈ wsX5_spans := by decide +kernel
set_option maxHeartbeats 4000000 in
set_option maxRecDepth 100000 in
theorem w_jp_X5_spans_165 (X : Cx cX5_spans (some .int) 7 RX5 wsX5_spans p s m args meth c) (hK : Kn cA D s) (hT : TL Λ) (hM : 2 ≤ R.frames ∧ 47 ≤ R.locals) (a0 : Nat) (l1 : Int32) (l2 : Int32) (l3 : Int32) (l4 : Int32) (l5 : Int32)  (k0 : isK Λ a0 6) {r : (Int32 × Sto) ⊕ Sto} (h : jp_X5_spans_165 Λ σ a0 l1 l2 l3 l4 l5 = some r) (kb : ∀ z : (Int32 × Sto), r = .inl z → ∀ (H : Heap) (locs : List Loc) (ls : Array Slot), Rep cA D Λ z.2 H → va_S (dm Λ) s.heap H locs → lv_has ls 7 [(0, .ref a0), (1, .int l1), (2, .int l2), (3, .int l3), (4, .int l4), (5, .int z.1)] → W p l e R s m args below meth c H locs 0 0 Q (F0 m 66 ls [])) (kx0 : ∀ z : Sto, r = .inr z → ∀ (H : Heap) (locs : List Loc) (ls : Array Slot), Rep cA D Λ z H → va_S (dm Λ) s.heap H locs → lv_has ls 7 [(0, .ref a0)] → W p l e R s m args below meth c H locs 0 0 Q (F0 m 171 ls [])) (H : Heap) (locs : List Loc) (ls : Array Slot) (hR : Rep cA D Λ σ H) (hS : va_S (dm Λ) s.heap H locs) (hl : lv_has ls 7 [(0, .ref a0), (1, .int l1), (2, .int l2), (3, .int l3), (4, .int l4), (5, .int l5)]) : W p l e R s m args below meth c H locs 0 0 Q (F0 m 165 ls []) := by
  have hx := X.1
  have hb := X.2.1
  have hown := X.2.2.2.2.1
  have hts := X.2.2.2.2.2.1
  unfold jp_X5_spans_165 at h
  obtain ⟨v_14, e_v_14⟩ : ∃ y : Int32, y = (l5 + (1 : Int32)) := ⟨_, rfl⟩
  have h := of_nm e_v_14 h
  refine lv_iinc (v := v_14) (lv' := [(5, .int v_14), (0, .ref a0), (1, .int l1), (2, .int l2), (3, .int l3), (4, .int l4)]) hx hb dX5_spans_165 hl (k := 5) rfl (by rw [e_v_14]; rfl) (by decide) rfl (fun ls hl => ?_)
  refine lv_goto (tgt := 66) hx hb dX5_spans_168 (by decide) ?_
  exact kb (v_14, σ) (Option.some.inj h).symm H locs ls hR hS (lv_sub hl [1, 2, 3, 4, 5, 0] rfl)

set_option maxHeartbeats 4000000 in
set_option maxRecDepth 100000 in
theorem w_jp_X5_spans_152 (X : Cx cX5_spans (some .int) 7 RX5 wsX5_spans p s m args meth c) (hK : Kn cA D s) (hT : TL Λ) (hM : 2 ≤ R.frames ∧ 47 ≤ R.locals) (a0 : Nat) (l1 : Int32) (l2 : Int32) (l3 : Int32) (l4 : Int32) (l5 : Int32)  (k0 : isK Λ a0 6) {r : (Int32 × Sto) ⊕ Sto} (h : jp_X5_spans_152 Λ σ a0 l1 l2 l3 l4 l5 = some r) (kb : ∀ z : (Int32 × Sto), r = .inl z → ∀ (H : Heap) (locs : List Loc) (ls : Array Slot), Rep cA D Λ z.2 H → va_S (dm Λ) s.heap H locs → lv_has ls 7 [(0, .ref a0), (1, .int l1), (2, .int l2), (3, .int l3), (4, .int l4), (5, .int z.1)] → W p l e R s m args below meth c H locs 0 0 Q (F0 m 66 ls [])) (kx0 : ∀ z : Sto, r = .inr z → ∀ (H : Heap) (locs : List Loc) (ls : Array Slot), Rep cA D Λ z H → va_S (dm Λ) s.heap H locs → lv_has ls 7 [(0, .ref a0)] → W p l e R s m args below meth c H locs 0 0 Q (F0 m 171 ls [])) (H : Heap) (locs : List Loc) (ls : Array Slot) (hR : Rep cA D Λ σ H) (hS : va_S (dm Λ) s.heap H locs) (hl : lv_has ls 7 [(0, .ref a0), (1, .int l1), (2, .int l2), (3, .int l3), (4, .int l4), (5, .int l5)]) : W p l e R s m args below meth c H locs 0 0 Q (F0 m 152 ls []) := by
  have hx := X.1
  have hb := X.2.1
  have hown := X.2.2.2.2.1
  have hts := X.2.2.2.2.2.1
  unfold jp_X5_spans_152 at h
  refine lv_aload_n hx hb dX5_spans_152 rfl (lv_at hl 0 rfl) ?_
  refine rw_getR X hK hT hR 6 23 7 k0 (by decide) (C := RX5) (T := TX5) (N := 24) rfl (by decide) in_X5_spans_6 (by decide +kernel) rfl dX5_spans_153 (fun kf_12 => ?_)
  refine lv_aload_n hx hb dX5_spans_156 rfl (lv_at hl 0 rfl) ?_
  refine rw_getI X hK hR 6 22 k0 (by decide) (C := RX5) (T := TX5) (N := 24) rfl (by decide) in_X5_spans_6 (by decide +kernel) rfl dX5_spans_157 ?_
  refine lv_iconst (v := (1 : Int32)) hx hb dX5_spans_160 (by decide) ?_
  refine lv_isub hx hb dX5_spans_161 ?_
  refine lv_iload hx hb dX5_spans_162 (lv_at hl 5 rfl) ?_
  obtain ⟨hg_13, h⟩ := of_guard h
  refine rw_iast X hK hT hR hS kf_12 hg_13 dX5_spans_164 (fun σ_13 H locs e_13 hR hS => ?_)
  have h := of_nm e_13 h
  exact w_jp_X5_spans_165 X hK hT hM a0 l1 l2 l3 l4 l5 k0 h kb kx0 H locs ls hR hS (lv_sub hl [0, 1, 2, 3, 4, 5] rfl)

set_option maxHeartbeats 4000000 in
set_option maxRecDepth 100000 in
theorem w_jp_X5_spans_131 (X : Cx cX5_spans (some .int) 7 RX5 wsX5_spans p s m args meth c) (hK : Kn cA D s) (hT : TL Λ) (hM : 2 ≤ R.frames ∧ 47 ≤ R.locals) (a0 : Nat) (l1 : Int32) (l2 : Int32) (l3 : Int32) (l4 : Int32) (l5 : Int32)  (k0 : isK Λ a0 6) {r : (Int32 × Sto) ⊕ Sto} (h : jp_X5_spans_131 Λ σ a0 l1 l2 l3 l4 l5 = some r) (kb : ∀ z : (Int32 × Sto), r = .inl z → ∀ (H : Heap) (locs : List Loc) (ls : Array Slot), Rep cA D Λ z.2 H → va_S (dm Λ) s.heap H locs → lv_has ls 7 [(0, .ref a0), (1, .int l1), (2, .int l2), (3, .int l3), (4, .int l4), (5, .int z.1)] → W p l e R s m args below meth c H locs 0 0 Q (F0 m 66 ls [])) (kx0 : ∀ z : Sto, r = .inr z → ∀ (H : Heap) (locs : List Loc) (ls : Array Slot), Rep cA D Λ z H → va_S (dm Λ) s.heap H locs → lv_has ls 7 [(0, .ref a0)] → W p l e R s m args below meth c H locs 0 0 Q (F0 m 171 ls [])) (H : Heap) (locs : List Loc) (ls : Array Slot) (hR : Rep cA D Λ σ H) (hS : va_S (dm Λ) s.heap H locs) (hl : lv_has ls 7 [(0, .ref a0), (1, .int l1), (2, .int l2), (3, .int l3), (4, .int l4), (5, .int l5)]) : W p l e R s m args below meth c H locs 0 0 Q (F0 m 131 ls []) := by
  have hx := X.1
  have hb := X.2.1
  have hown := X.2.2.2.2.1
  have hts := X.2.2.2.2.2.1
  unfold jp_X5_spans_131 at h
  refine lv_aload_n hx hb dX5_spans_131 rfl (lv_at hl 0 rfl) ?_
  refine rw_getR X hK hT hR 6 23 7 k0 (by decide) (C := RX5) (T := TX5) (N := 24) rfl (by decide) in_X5_spans_6 (by decide +kernel) rfl dX5_spans_132 (fun kf_9 => ?_)
  refine lv_aload_n hx hb dX5_spans_135 rfl (lv_at hl 0 rfl) ?_
  refine rw_getI X hK hR 6 22 k0 (by decide) (C := RX5) (T := TX5) (N := 24) rfl (by decide) in_X5_spans_6 (by decide +kernel) rfl dX5_spans_136 ?_
  refine lv_iload hx hb dX5_spans_139 (lv_at hl 5 rfl) ?_
  obtain ⟨hg_10, h⟩ := of_guard h
  refine rw_iast X hK hT hR hS kf_9 hg_10 dX5_spans_141 (fun σ_10 H locs e_10 hR hS => ?_)
  have h := of_nm e_10 h
  refine lv_aload_n hx hb dX5_spans_142 rfl (lv_at hl 0 rfl) ?_
  refine lv_dup hx hb dX5_spans_143 rfl ?_
  refine rw_getI X hK hR 6 22 k0 (by decide) (C := RX5) (T := TX5) (N := 24) rfl (by decide) in_X5_spans_6 (by decide +kernel) rfl dX5_spans_144 ?_
  refine lv_iconst (v := (2 : Int32)) hx hb dX5_spans_147 (by decide) ?_
  refine lv_iadd hx hb dX5_spans_148 ?_
  refine rw_putI X hK hT hR hS 6 22 tyX5 k0 (by decide) (C := RX5) (T := TX5) (N := 24) rfl (by decide) in_X5_spans_6 tyX5_ok nmX5 (by decide +kernel) rfl rfl (by decide +kernel) dX5_spans_149 (fun σ_11 H locs e_11 hR hS => ?_)
  have h := of_nm e_11 h
  exact w_jp_X5_spans_152 X hK hT hM a0 l1 l2 l3 l4 l5 k0 h kb kx0 H locs ls hR hS (lv_sub hl [0, 1, 2, 3, 4, 5] rfl)

set_option maxHeartbeats 4000000 in
set_option maxRecDepth 100000 in
theorem w_jp_X5_spans_94 (X : Cx cX5_spans (some .int) 7 RX5 wsX5_spans p s m args meth c) (hK : Kn cA D s) (hT : TL Λ) (hM : 2 ≤ R.frames ∧ 47 ≤ R.locals) (a0 : Nat) (l1 : Int32) (l2 : Int32) (l3 : Int32) (l4 : Int32) (l5 : Int32) (ls0 : Int32) (k0 : isK Λ a0 6) {r : (Int32 × Sto) ⊕ Sto} (h : jp_X5_spans_94 Λ σ a0 l1 l2 l3 l4 l5 ls0 = some r) (kb : ∀ z : (Int32 × Sto), r = .inl z → ∀ (H : Heap) (locs : List Loc) (ls : Array Slot), Rep cA D Λ z.2 H → va_S (dm Λ) s.heap H locs → lv_has ls 7 [(0, .ref a0), (1, .int l1), (2, .int l2), (3, .int l3), (4, .int l4), (5, .int z.1)] → W p l e R s m args below meth c H locs 0 0 Q (F0 m 66 ls [])) (kx0 : ∀ z : Sto, r = .inr z → ∀ (H : Heap) (locs : List Loc) (ls : Array Slot), Rep cA D Λ z H → va_S (dm Λ) s.heap H locs → lv_has ls 7 [(0, .ref a0)] → W p l e R s m args below meth c H locs 0 0 Q (F0 m 171 ls [])) (H : Heap) (locs : List Loc) (ls : Array Slot) (hR : Rep cA D Λ σ H) (hS : va_S (dm Λ) s.heap H locs) (hl : lv_has ls 7 [(0, .ref a0), (1, .int l1), (2, .int l2), (3, .int l3), (4, .int l4), (5, .int l5)]) : W p l e R s m args below meth c H locs 0 0 Q (F0 m 94 ls [.int ls0]) := by
  have hx := X.1
  have hb := X.2.1
  have hown := X.2.2.2.2.1
  have hts := X.2.2.2.2.2.1
  unfold jp_X5_spans_94 at h
  refine lv_istore (lv' := [(6, .int ls0), (0, .ref a0), (1, .int l1), (2, .int l2), (3, .int l3), (4, .int l4), (5, .int l5)]) hx hb dX5_spans_94 hl (by decide) rfl (fun ls hl => ?_)
  refine lv_iload hx hb dX5_spans_96 (lv_at hl 0 rfl) ?_
  refine lv_if_ne (tgt := 104) hx hb dX5_spans_98 (by decide) (fun hc => ?_) (fun hc => ?_)
  · have h := of_neg hc h
    refine lv_aload_n hx hb dX5_spans_104 rfl (lv_at hl 1 rfl) ?_
    refine rw_getI X hK hR 6 22 k0 (by decide) (C := RX5) (T := TX5) (N := 24) rfl (by decide) in_X5_spans_6 (by decide +kernel) rfl dX5_spans_105 ?_
    refine lv_if_eq (tgt := 131) hx hb dX5_spans_108 (by decide) (fun hc => ?_) (fun hc => ?_)
    · have h := of_pos hc h
      exact w_jp_X5_spans_131 X hK hT hM a0 l1 l2 l3 l4 l5 k0 h kb kx0 H locs ls hR hS (lv_sub hl [1, 2, 3, 4, 5, 6] rfl)
    · have h := of_neg hc h
      refine lv_iload hx hb dX5_spans_111 (lv_at hl 6 rfl) ?_
      refine lv_aload_n hx hb dX5_spans_113 rfl (lv_at hl 1 rfl) ?_
      refine rw_getR X hK hT hR 6 23 7 k0 (by decide) (C := RX5) (T := TX5) (N := 24) rfl (by decide) in_X5_spans_6 (by decide +kernel) rfl dX5_spans_114 (fun kf_15 => ?_)
      refine lv_aload_n hx hb dX5_spans_117 rfl (lv_at hl 1 rfl) ?_
      refine rw_getI X hK hR 6 22 k0 (by decide) (C := RX5) (T := TX5) (N := 24) rfl (by decide) in_X5_spans_6 (by decide +kernel) rfl dX5_spans_118 ?_
      refine lv_iconst (v := (1 : Int32)) hx hb dX5_spans_121 (by decide) ?_
      refine lv_isub hx hb dX5_spans_122 ?_
      obtain ⟨hg_16, h⟩ := of_guard h
      refine rw_iald X hK hR kf_15 hg_16 dX5_spans_123 ?_
      refine lv_isub hx hb dX5_spans_124 ?_
      refine lv_iconst (v := (1 : Int32)) hx hb dX5_spans_125 (by decide) ?_
      refine lv_isub hx hb dX5_spans_126 ?_
      refine lv_iload_n hx hb dX5_spans_127 rfl (lv_at hl 4 rfl) ?_
      refine lv_icmp_lt (tgt := 152) hx hb dX5_spans_128 (by decide) (fun hc => ?_) (fun hc => ?_)
      · have h := of_pos hc h
        exact w_jp_X5_spans_152 X hK hT hM a0 l1 l2 l3 l4 l5 k0 h kb kx0 H locs ls hR hS (lv_sub hl [1, 2, 3, 4, 5, 6] rfl)
      · have h := of_neg hc h
        exact w_jp_X5_spans_131 X hK hT hM a0 l1 l2 l3 l4 l5 k0 h kb kx0 H locs ls hR hS (lv_sub hl [1, 2, 3, 4, 5, 6] rfl)
  · have h := of_pos hc h
    refine lv_goto (tgt := 165) hx hb dX5_spans_101 (by decide) ?_
    exact w_jp_X5_spans_165 X hK hT hM a0 l1 l2 l3 l4 l5 k0 h kb kx0 H locs ls hR hS (lv_sub hl [1, 2, 3, 4, 5, 6] rfl)

set_option maxHeartbeats 4000000 in
set_option maxRecDepth 100000 in
theorem w_bd_X5_spans_66 (X : Cx cX5_spans (some .int) 7 RX5 wsX5_spans p s m args meth c) (hK : Kn cA D s) (hT : TL Λ) (hM : 2 ≤ R.frames ∧ 47 ≤ R.locals) (a0 : Nat) (l1 : Int32) (l2 : Int32) (l3 : Int32) (l4 : Int32) (s9 : (Int32 × Sto)) (k0 : isK Λ a0 6) {r : (Int32 × Sto) ⊕ Sto} (h : bd_X5_spans_66 Λ a0 l1 l2 l3 l4 s9 = some r) (kb : ∀ z : (Int32 × Sto), r = .inl z → ∀ (H : Heap) (locs : List Loc) (ls : Array Slot), Rep cA D Λ z.2 H → va_S (dm Λ) s.heap H locs → lv_has ls 7 [(0, .ref a0), (1, .int l1), (2, .int l2), (3, .int l3), (4, .int l4), (5, .int z.1)] → W p l e R s m args below meth c H locs 0 0 Q (F0 m 66 ls [])) (kx0 : ∀ z : Sto, r = .inr z → ∀ (H : Heap) (locs : List Loc) (ls : Array Slot), Rep cA D Λ z H → va_S (dm Λ) s.heap H locs → lv_has ls 7 [(0, .ref a0)] → W p l e R s m args below meth c H locs 0 0 Q (F0 m 171 ls [])) (H : Heap) (locs : List Loc) (ls : Array Slot) (hR : Rep cA D Λ s9.2 H) (hS : va_S (dm Λ) s.heap H locs) (hl : lv_has ls 7 [(0, .ref a0), (1, .int l1), (2, .int l2), (3, .int l3), (4, .int l4), (5, .int s9.1)]) : W p l e R s m args below meth c H locs 0 0 Q (F0 m 66 ls []) := by
  have hx := X.1
  have hb := X.2.1
  have hown := X.2.2.2.2.1
  have hts := X.2.2.2.2.2.1
  unfold bd_X5_spans_66 at h
  refine lv_iload hx hb dX5_spans_66 (lv_at hl 5 rfl) ?_
  refine lv_iload hx hb dX5_spans_68 (lv_at hl 4 rfl) ?_
  refine lv_icmp_ge (tgt := 171) hx hb dX5_spans_70 (by decide) (fun hc => ?_) (fun hc => ?_)
  · have h := of_pos hc h
    exact kx0 s9.2 (Option.some.inj h).symm H locs ls hR hS (lv_sub hl [0] rfl)
  · have h := of_neg hc h
    refine lv_iload_n hx hb dX5_spans_73 rfl (lv_at hl 2 rfl) ?_
    refine lv_if_ne (tgt := 87) hx hb dX5_spans_74 (by decide) (fun hc => ?_) (fun hc => ?_)
    · have h := of_neg hc h
      refine lv_aload_n hx hb dX5_spans_87 rfl (lv_at hl 0 rfl) ?_
      refine lv_iload_n hx hb dX5_spans_88 rfl (lv_at hl 1 rfl) ?_
      refine lv_iload hx hb dX5_spans_89 (lv_at hl 5 rfl) ?_
      obtain ⟨q_8, hq_8, h⟩ := of_bind h
      refine cl_i (rn_V (As := [.int l1, .int s9.1]) (rest := []) X hK hR k0 rfl (by decide) hl.1 (c_X5_rowInk l cA D Λ hT s9.2 a0 l1 s9.1 k0 hq_8) (cwV 2 hts gX5_spans_X5_rowInk rfl rfl rfl (by decide +kernel) ⟨Nat.le_trans (by decide) hM.1, Nat.le_trans (by decide) hM.2⟩) rfl rfl (Nat.le_of_ble_eq_true rfl) dX5_spans_91) hS (fun H locs hR hS => ?_)
      exact w_jp_X5_spans_94 X hK hT hM a0 l1 l2 l3 l4 s9.1 q_8 k0 h kb kx0 H locs ls hR hS (lv_sub hl [0, 1, 2, 3, 4, 5] rfl)
    · have h := of_pos hc h
      refine lv_aload_n hx hb dX5_spans_77 rfl (lv_at hl 0 rfl) ?_
      refine lv_iload_n hx hb dX5_spans_78 rfl (lv_at hl 1 rfl) ?_
      refine lv_iload hx hb dX5_spans_79 (lv_at hl 5 rfl) ?_
      obtain ⟨q_17, hq_17, h⟩ := of_bind h
      refine cl_i (rn_V (As := [.int l1, .int s9.1]) (rest := []) X hK hR k0 rfl (by decide) hl.1 (c_X5_columnInk l cA D Λ hT s9.2 a0 l1 s9.1 k0 hq_17) (cwV 2 hts gX5_spans_X5_columnInk rfl rfl rfl (by decide +kernel) ⟨Nat.le_trans (by decide) hM.1, Nat.le_trans (by decide) hM.2⟩) rfl rfl (Nat.le_of_ble_eq_true rfl) dX5_spans_81) hS (fun H locs hR hS => ?_)
      refine lv_goto (tgt := 94) hx hb dX5_spans_84 (by decide) ?_
      exact w_jp_X5_spans_94 X hK hT hM a0 l1 l2 l3 l4 s9.1 q_17 k0 h kb kx0 H locs ls hR hS (lv_sub hl [0, 1, 2, 3, 4, 5] rfl)

set_option maxHeartbeats 4000000 in
set_option maxRecDepth 100000 in
theorem w_lp_X5_spans_66 (X : Cx cX5_spans (some .int) 7 RX5 wsX5_spans p s m args meth c) (hK : Kn cA D s) (hT : TL Λ) (hM : 2 ≤ R.frames ∧ 47 ≤ R.locals) (a0 : Nat) (l1 : Int32) (l2 : Int32) (l3 : Int32) (l4 : Int32) (k0 : isK Λ a0 6) {e9 : Sto} : ∀ (n9 : Nat) (s9 : (Int32 × Sto)), iter (bd_X5_spans_66 Λ a0 l1 l2 l3 l4) n9 s9 = some e9 → ∀ (kx0 : ∀ (H : Heap) (locs : List Loc) (ls : Array Slot), Rep cA D Λ e9 H → va_S (dm Λ) s.heap H locs → lv_has ls 7 [(0, .ref a0)] → W p l e R s m args below meth c H locs 0 0 Q (F0 m 171 ls [])), ∀ (H : Heap) (locs : List Loc) (ls : Array Slot), Rep cA D Λ s9.2 H → va_S (dm Λ) s.heap H locs → lv_has ls 7 [(0, .ref a0), (1, .int l1), (2, .int l2), (3, .int l3), (4, .int l4), (5, .int s9.1)] → W p l e R s m args below meth c H locs 0 0 Q (F0 m 66 ls []) := by
  intro n9
  induction n9 with
  | zero => intro s9 h; cases h
  | succ n9 ih =>
    intro s9 h kx0 H locs ls hR hS hl
    obtain ⟨r, hr, h⟩ := of_iter h
    refine w_bd_X5_spans_66 X hK hT hM a0 l1 l2 l3 l4 s9 k0 hr (fun z ez H locs ls hR hS hl => ?_) (fun z ez H locs ls hR hS hl => ?_) H locs ls hR hS hl
    · exact ih z (of_itl ez h) kx0 H locs ls hR hS hl
    · have he := of_itr ez h; subst he; exact kx0 H locs ls hR hS hl

set_option maxHeartbeats 4000000 in
set_option maxRecDepth 100000 in
theorem w_jp_X5_spans_61 (X : Cx cX5_spans (some .int) 7 RX5 wsX5_spans p s m args meth c) (hK : Kn cA D s) (hT : TL Λ) (hM : 2 ≤ R.frames ∧ 47 ≤ R.locals) (a0 : Nat) (l1 : Int32) (l2 : Int32) (l3 : Int32) (ls0 : Int32) (k0 : isK Λ a0 6) {res : Int32 × Sto} (h : jp_X5_spans_61 Λ σ a0 l1 l2 l3 ls0 = some res) (H : Heap) (locs : List Loc) (ls : Array Slot) (hR : Rep cA D Λ σ H) (hS : va_S (dm Λ) s.heap H locs) (hl : lv_has ls 7 [(0, .ref a0), (1, .int l1), (2, .int l2), (3, .int l3)]) : W p l e R s m args below meth c H locs 0 0 (MQ below (QI cA D Λ res) args s 0 0 (dm Λ)) (F0 m 61 ls [.int ls0]) := by
  have hx := X.1
  have hb := X.2.1
  have hown := X.2.2.2.2.1
  have hts := X.2.2.2.2.2.1
  unfold jp_X5_spans_61 at h
  refine lv_istore (lv' := [(4, .int ls0), (0, .ref a0), (1, .int l1), (2, .int l2), (3, .int l3)]) hx hb dX5_spans_61 hl (by decide) rfl (fun ls hl => ?_)
  refine lv_iconst (v := (0 : Int32)) hx hb dX5_spans_63 (by decide) ?_
  refine lv_istore (lv' := [(5, .int (0 : Int32)), (4, .int ls0), (0, .ref a0), (1, .int l1), (2, .int l2), (3, .int l3)]) hx hb dX5_spans_64 hl (by decide) rfl (fun ls hl => ?_)
  obtain ⟨e_18, hq_18, h⟩ := of_bind h
  refine w_lp_X5_spans_66 X hK hT hM a0 l1 l2 l3 ls0 k0 _ ((0 : Int32), σ) hq_18 (fun H locs ls hR hS hl => ?_) H locs ls hR hS (lv_sub hl [2, 3, 4, 5, 1, 0] rfl)
  refine lv_aload_n hx hb dX5_spans_171 rfl (lv_at hl 0 rfl) ?_
  refine rw_getI X hK hR 6 22 k0 (by decide) (C := RX5) (T := TX5) (N := 24) rfl (by decide) in_X5_spans_6 (by decide +kernel) rfl dX5_spans_172 ?_
  refine lv_iconst (v := (2 : Int32)) hx hb dX5_spans_175 (by decide) ?_
  refine lv_idiv hx hb dX5_spans_176 (by decide) ?_
  exact rt_i X hR hS (Option.some.inj h) dX5_spans_177

set_option maxHeartbeats 4000000 in
set_option maxRecDepth 100000 in
theorem w_X5_spans (X : Cx cX5_spans (some .int) 7 RX5 wsX5_spans p s m args meth c) (hK : Kn cA D s) (hT : TL Λ) (hM : 2 ≤ R.frames ∧ 47 ≤ R.locals) (a0 : Nat) (l1 : Int32) (l2 : Int32) (l3 : Int32) (k0 : isK Λ a0 6) {res : Int32 × Sto} (h : F_X5_spans Λ σ a0 l1 l2 l3 = some res) (H : Heap) (locs : List Loc) (ls : Array Slot) (hR : Rep cA D Λ σ H) (hS : va_S (dm Λ) s.heap H locs) (hl : lv_has ls 7 [(0, .ref a0), (1, .int l1), (2, .int l2), (3, .int l3)]) : W p l e R s m args below meth c H locs 0 0 (MQ below (QI cA D Λ res) args s 0 0 (dm Λ)) (F0 m 0 ls []) := by
  have hx := X.1
  have hb := X.2.1
  have hown := X.2.2.2.2.1
  have hts := X.2.2.2.2.2.1
  unfold F_X5_spans at h
  refine lv_aload_n hx hb dX5_spans_0 rfl (lv_at hl 0 rfl) ?_
  refine lv_iconst (v := (0 : Int32)) hx hb dX5_spans_1 (by decide) ?_
  refine rw_putI X hK hT hR hS 6 0 tyX5 k0 (by decide) (C := RX5) (T := TX5) (N := 24) rfl (by decide) in_X5_spans_6 tyX5_ok nmX5 (by decide +kernel) rfl rfl (by decide +kernel) dX5_spans_2 (fun σ_1 H locs e_1 hR hS => ?_)
  have h := of_nm e_1 h
  refine lv_aload_n hx hb dX5_spans_5 rfl (lv_at hl 0 rfl) ?_
  refine lv_iload_n hx hb dX5_spans_6 rfl (lv_at hl 1 rfl) ?_
  refine cl_z (rn_V (As := [.int l1]) (rest := []) X hK hR k0 rfl (by decide) hl.1 (c_X5_isPage l cA D Λ hT σ_1 a0 l1 k0) (cwV 1 hts gX5_spans_X5_isPage rfl rfl rfl (by decide +kernel) ⟨Nat.le_trans (by decide) hM.1, Nat.le_trans (by decide) hM.2⟩) rfl rfl (Nat.le_of_ble_eq_true rfl) dX5_spans_7) hS (fun hz_2 H locs hR hS => ?_)
  refine lv_topi (fun r_2 e_2 => ?_)
  have h := of_nm e_2 h
  have hz_2 : r_2 = 0 ∨ r_2 = 1 := by rw [e_2]; exact hz_2
  refine lv_if_eq (tgt := 35) hx hb dX5_spans_10 (by decide) (fun hc => ?_) (fun hc => ?_)
  · have h := of_pos hc h
    refine lv_iconst (v := (-1 : Int32)) hx hb dX5_spans_35 (by decide) ?_
    exact rt_i X hR hS (Option.some.inj h) dX5_spans_36
  · have h := of_neg hc h
    refine lv_iload_n hx hb dX5_spans_13 rfl (lv_at hl 2 rfl) ?_
    refine lv_i2l (v := (l2.toInt64)) hx hb dX5_spans_14 rfl ?_
    refine lv_lconst (v := (0 : Int64)) hx hb dX5_spans_15 (by decide) ?_
    refine lv_lconst (v := (1 : Int64)) hx hb dX5_spans_16 (by decide) ?_
    refine cl_z (rn_S (As := [.long (l2.toInt64), .long (0 : Int64), .long (1 : Int64)]) (rest := []) X hK hR hl.1 (c_X5_in l cA D Λ hT σ_1 (l2.toInt64) (0 : Int64) (1 : Int64)) (va_cwS 3 hts gX5_spans_X5_in rfl rfl rfl (by decide +kernel) ⟨Nat.le_trans (by decide) hM.1, Nat.le_trans (by decide) hM.2⟩) rfl rfl (Nat.le_of_ble_eq_true rfl) dX5_spans_17) hS (fun hz_3 H locs hR hS => ?_)
    refine lv_topi (fun r_3 e_3 => ?_)
    have h := of_nm e_3 h
    have hz_3 : r_3 = 0 ∨ r_3 = 1 := by rw [e_3]; exact hz_3
    refine lv_if_eq (tgt := 35) hx hb dX5_spans_20 (by decide) (fun hc => ?_) (fun hc => ?_)
    · have h := of_pos hc h
      refine lv_iconst (v := (-1 : Int32)) hx hb dX5_spans_35 (by decide) ?_
      exact rt_i X hR hS (Option.some.inj h) dX5_spans_36
    · have h := of_neg hc h
      refine lv_iload_n hx hb dX5_spans_23 rfl (lv_at hl 3 rfl) ?_
      refine lv_i2l (v := (l3.toInt64)) hx hb dX5_spans_24 rfl ?_
      refine lv_lconst (v := (1 : Int64)) hx hb dX5_spans_25 (by decide) ?_
      refine lv_ldc2 (v := (64 : Int64)) hx hb hown (hts (.constantLong RX5 75 (64)) (by decide +kernel)) dX5_spans_26 ?_
      refine cl_z (rn_S (As := [.long (l3.toInt64), .long (1 : Int64), .long (64 : Int64)]) (rest := []) X hK hR hl.1 (c_X5_in l cA D Λ hT σ_1 (l3.toInt64) (1 : Int64) (64 : Int64)) (va_cwS 3 hts gX5_spans_X5_in rfl rfl rfl (by decide +kernel) ⟨Nat.le_trans (by decide) hM.1, Nat.le_trans (by decide) hM.2⟩) rfl rfl (Nat.le_of_ble_eq_true rfl) dX5_spans_29) hS (fun hz_4 H locs hR hS => ?_)
      refine lv_topi (fun r_4 e_4 => ?_)
      have h := of_nm e_4 h
      have hz_4 : r_4 = 0 ∨ r_4 = 1 := by rw [e_4]; exact hz_4
      refine lv_if_ne (tgt := 37) hx hb dX5_spans_32 (by decide) (fun hc => ?_) (fun hc => ?_)
      · have h := of_neg hc h
        refine lv_aload_n hx hb dX5_spans_37 rfl (lv_at hl 0 rfl) ?_
        refine lv_iconst (v := (0 : Int32)) hx hb dX5_spans_38 (by decide) ?_
        refine rw_putI X hK hT hR hS 6 22 tyX5 k0 (by decide) (C := RX5) (T := TX5) (N := 24) rfl (by decide) in_X5_spans_6 tyX5_ok nmX5 (by decide +kernel) rfl rfl (by decide +kernel) dX5_spans_39 (fun σ_5 H locs e_5 hR hS => ?_)
        have h := of_nm e_5 h
        refine lv_iload_n hx hb dX5_spans_42 rfl (lv_at hl 2 rfl) ?_
        refine lv_if_ne (tgt := 55) hx hb dX5_spans_43 (by decide) (fun hc => ?_) (fun hc => ?_)
        · have h := of_neg hc h
          refine lv_aload_n hx hb dX5_spans_55 rfl (lv_at hl 0 rfl) ?_
          refine rw_getR X hK hT hR 6 3 7 k0 (by decide) (C := RX5) (T := TX5) (N := 24) rfl (by decide) in_X5_spans_6 (by decide +kernel) rfl dX5_spans_56 (fun kf_6 => ?_)
          refine lv_iload_n hx hb dX5_spans_59 rfl (lv_at hl 1 rfl) ?_
          obtain ⟨hg_7, h⟩ := of_guard h
          refine rw_iald X hK hR kf_6 hg_7 dX5_spans_60 ?_
          exact w_jp_X5_spans_61 X hK hT hM a0 l1 l2 l3 (σ_5.1 (rfA Λ a0 3) l1.toNatClampNeg) k0 h H locs ls hR hS (lv_sub hl [0, 1, 2, 3] rfl)
        · have h := of_pos hc h
          refine lv_aload_n hx hb dX5_spans_46 rfl (lv_at hl 0 rfl) ?_
          refine rw_getR X hK hT hR 6 2 7 k0 (by decide) (C := RX5) (T := TX5) (N := 24) rfl (by decide) in_X5_spans_6 (by decide +kernel) rfl dX5_spans_47 (fun kf_19 => ?_)
          refine lv_iload_n hx hb dX5_spans_50 rfl (lv_at hl 1 rfl) ?_
          obtain ⟨hg_20, h⟩ := of_guard h
          refine rw_iald X hK hR kf_19 hg_20 dX5_spans_51 ?_
          refine lv_goto (tgt := 61) hx hb dX5_spans_52 (by decide) ?_
          exact w_jp_X5_spans_61 X hK hT hM a0 l1 l2 l3 (σ_5.1 (rfA Λ a0 2) l1.toNatClampNeg) k0 h H locs ls hR hS (lv_sub hl [0, 1, 2, 3] rfl)
      · have h := of_pos hc h
        refine lv_iconst (v := (-1 : Int32)) hx hb dX5_spans_35 (by decide) ?_
        exact rt_i X hR hS (Option.some.inj h) dX5_spans_36

set_option maxHeartbeats 4000000 in
set_option maxRecDepth 100000 in
theorem c_X5_spans (l : Launch) (cA : Nat → ClassId) (D : va_G) (Λ : Lay) (hT : TL Λ) (σ : Sto) (a0 : Nat) (l1 : Int32) (l2 : Int32) (l3 : Int32) (k0 : isK Λ a0 6) {res : Int32 × Sto} (h : F_X5_spans Λ σ a0 l1 l2 l3 = some res) : Met l yX5_spans wsX5_spans { frames := 2, cells := 0, slots := 0, locals := 47 } (va_Pc [.ref a0, .int l1, .int l2, .int l3] (PW cA D Λ σ)) (QI cA D Λ res) 0 0 (dm Λ) := by
  refine Met.ofW (cc := cX5_spans) (maxL := 7) (ret := (some .int)) (by decide) rfl ?_
  intro p e s m args below meth c s₁ B hml hv
  obtain ⟨rfl, hR, hK⟩ := hv
  have X : Cx cX5_spans (some .int) 7 RX5 wsX5_spans p s m _ meth c := ⟨B.exec, B.bytes, B.returns, hml, findClass_of_methodNamed B.named, atoms_spec (ws := wsX5_spans) B.pre, B.notSynchronized⟩
  have hS : va_S (dm Λ) s.heap s.heap [] := va_S.rf
  have hl := lv_entry ([.ref a0, .int l1, .int l2, .int l3]) (n := 7) (Nat.le_of_ble_eq_true rfl)
  rw [lg_entry_eq]
  generalize (lg_sl ([.ref a0, .int l1, .int l2, .int l3]) ++ List.replicate (7 - (lg_sl ([.ref a0, .int l1, .int l2, .int l3])).length) Slot.unset).toArray = ls at hl ⊢
  have hl : lv_has ls 7 [(0, .ref a0), (1, .int l1), (2, .int l2), (3, .int l3)] := hl
  exact w_X5_spans X hK hT ⟨Nat.le_refl _, Nat.le_refl _⟩ a0 l1 l2 l3 k0 h s.heap [] ls hR hS hl
theorem in_X5_told_6 : ∀ w ∈ u_ws RX5 TX5 24, w ∈ wsX5_told := by decide +kernel
set_option maxHeartbeats 4000000 in
set_option maxRecDepth 100000 in
theorem w_X5_told (X : Cx cX5_told (some .int) 2 RX5 wsX5_told p s m args meth c) (hK : Kn cA D s) (hT : TL Λ) (hM : 1 ≤ R.frames ∧ 25 ≤ R.locals) (a0 : Nat) (l1 : Int32) (k0 : isK Λ a0 6) {res : Int32 × Sto} (h : F_X5_told Λ σ a0 l1 = some res) (H : Heap) (locs : List Loc) (ls : Array Slot) (hR : Rep cA D Λ σ H) (hS : va_S (dm Λ) s.heap H locs) (hl : lv_has ls 2 [(0, .ref a0), (1, .int l1)]) : W p l e R s m args below meth c H locs 0 0 (MQ below (QI cA D Λ res) args s 0 0 (dm Λ)) (F0 m 0 ls []) := by
  have hx := X.1
  have hb := X.2.1
  have hown := X.2.2.2.2.1
  have hts := X.2.2.2.2.2.1
  unfold F_X5_told at h
  refine lv_aload_n hx hb dX5_told_0 rfl (lv_at hl 0 rfl) ?_
  refine lv_iconst (v := (0 : Int32)) hx hb dX5_told_1 (by decide) ?_
  refine rw_putI X hK hT hR hS 6 0 tyX5 k0 (by decide) (C := RX5) (T := TX5) (N := 24) rfl (by decide) in_X5_told_6 tyX5_ok nmX5 (by decide +kernel) rfl rfl (by decide +kernel) dX5_told_2 (fun σ_1 H locs e_1 hR hS => ?_)
  have h := of_nm e_1 h
  refine lv_iload_n hx hb dX5_told_5 rfl (lv_at hl 1 rfl) ?_
  refine lv_i2l (v := (l1.toInt64)) hx hb dX5_told_6 rfl ?_
  refine lv_lconst (v := (0 : Int64)) hx hb dX5_told_7 (by decide) ?_
  refine lv_aload_n hx hb dX5_told_8 rfl (lv_at hl 0 rfl) ?_
  refine rw_getI X hK hR 6 22 k0 (by decide) (C := RX5) (T := TX5) (N := 24) rfl (by decide) in_X5_told_6 (by decide +kernel) rfl dX5_told_9 ?_
  refine lv_iconst (v := (1 : Int32)) hx hb dX5_told_12 (by decide) ?_
  refine lv_isub hx hb dX5_told_13 ?_
  refine lv_i2l (v := (((σ_1.1 a0 22) - (1 : Int32)).toInt64)) hx hb dX5_told_14 rfl ?_
  refine cl_z (rn_S (As := [.long (l1.toInt64), .long (0 : Int64), .long (((σ_1.1 a0 22) - (1 : Int32)).toInt64)]) (rest := []) X hK hR hl.1 (c_X5_in l cA D Λ hT σ_1 (l1.toInt64) (0 : Int64) (((σ_1.1 a0 22) - (1 : Int32)).toInt64)) (va_cwS 3 hts gX5_told_X5_in rfl rfl rfl (by decide +kernel) ⟨Nat.le_trans (by decide) hM.1, Nat.le_trans (by decide) hM.2⟩) rfl rfl (Nat.le_of_ble_eq_true rfl) dX5_told_15) hS (fun hz_2 H locs hR hS => ?_)
  refine lv_topi (fun r_2 e_2 => ?_)
  have h := of_nm e_2 h
  have hz_2 : r_2 = 0 ∨ r_2 = 1 := by rw [e_2]; exact hz_2
  refine lv_if_eq (tgt := 30) hx hb dX5_told_18 (by decide) (fun hc => ?_) (fun hc => ?_)
  · have h := of_pos hc h
    refine lv_aload_n hx hb dX5_told_30 rfl (lv_at hl 0 rfl) ?_
    obtain ⟨q_3, hq_3, h⟩ := of_bind h
    refine cl_i (rn_V (As := []) (rest := []) X hK hR k0 rfl (by decide) hl.1 (c_X5_refuse l cA D Λ hT σ_1 a0 k0 hq_3) (cwV 0 hts gX5_told_X5_refuse rfl rfl rfl (by decide +kernel) ⟨Nat.le_trans (by decide) hM.1, Nat.le_trans (by decide) hM.2⟩) rfl rfl (Nat.le_of_ble_eq_true rfl) dX5_told_31) hS (fun H locs hR hS => ?_)
    exact rt_i X hR hS (Option.some.inj h) dX5_told_34
  · have h := of_neg hc h
    refine lv_aload_n hx hb dX5_told_21 rfl (lv_at hl 0 rfl) ?_
    refine rw_getR X hK hT hR 6 23 7 k0 (by decide) (C := RX5) (T := TX5) (N := 24) rfl (by decide) in_X5_told_6 (by decide +kernel) rfl dX5_told_22 (fun kf_4 => ?_)
    refine lv_iload_n hx hb dX5_told_25 rfl (lv_at hl 1 rfl) ?_
    obtain ⟨hg_5, h⟩ := of_guard h
    refine rw_iald X hK hR kf_4 hg_5 dX5_told_26 ?_
    refine lv_goto (tgt := 34) hx hb dX5_told_27 (by decide) ?_
    exact rt_i X hR hS (Option.some.inj h) dX5_told_34

set_option maxHeartbeats 4000000 in
set_option maxRecDepth 100000 in
theorem c_X5_told (l : Launch) (cA : Nat → ClassId) (D : va_G) (Λ : Lay) (hT : TL Λ) (σ : Sto) (a0 : Nat) (l1 : Int32) (k0 : isK Λ a0 6) {res : Int32 × Sto} (h : F_X5_told Λ σ a0 l1 = some res) : Met l yX5_told wsX5_told { frames := 1, cells := 0, slots := 0, locals := 25 } (va_Pc [.ref a0, .int l1] (PW cA D Λ σ)) (QI cA D Λ res) 0 0 (dm Λ) := by
  refine Met.ofW (cc := cX5_told) (maxL := 2) (ret := (some .int)) (by decide) rfl ?_
  intro p e s m args below meth c s₁ B hml hv
  obtain ⟨rfl, hR, hK⟩ := hv
  have X : Cx cX5_told (some .int) 2 RX5 wsX5_told p s m _ meth c := ⟨B.exec, B.bytes, B.returns, hml, findClass_of_methodNamed B.named, atoms_spec (ws := wsX5_told) B.pre, B.notSynchronized⟩
  have hS : va_S (dm Λ) s.heap s.heap [] := va_S.rf
  have hl := lv_entry ([.ref a0, .int l1]) (n := 2) (Nat.le_of_ble_eq_true rfl)
  rw [lg_entry_eq]
  generalize (lg_sl ([.ref a0, .int l1]) ++ List.replicate (2 - (lg_sl ([.ref a0, .int l1])).length) Slot.unset).toArray = ls at hl ⊢
  have hl : lv_has ls 2 [(0, .ref a0), (1, .int l1)] := hl
  exact w_X5_told X hK hT ⟨Nat.le_refl _, Nat.le_refl _⟩ a0 l1 k0 h s.heap [] ls hR hS hl
theorem in_X5_part_6 : ∀ w ∈ u_ws RX5 TX5 24, w ∈ wsX5_part := by decide +kernel
set_option maxHeartbeats 4000000 in
set_option maxRecDepth 100000 in
theorem w_jp_X5_part_120 (X : Cx cX5_part (some .int) 9 RX5 wsX5_part p s m args meth c) (hK : Kn cA D s) (hT : TL Λ) (hM : 2 ≤ R.frames ∧ 47 ≤ R.locals) (a0 : Nat) (l1 : Int32) (l2 : Int32) (l3 : Int32) (l4 : Int32) (l5 : Int32) (l6 : Int32)  (k0 : isK Λ a0 6) {r : (Int32 × Int32) ⊕ Int32} (h : jp_X5_part_120 Λ σ a0 l1 l2 l3 l4 l5 l6 = some r) (kb : ∀ z : (Int32 × Int32), r = .inl z → ∀ (H : Heap) (locs : List Loc) (ls : Array Slot), Rep cA D Λ σ H → va_S (dm Λ) s.heap H locs → lv_has ls 9 [(0, .ref a0), (1, .int l1), (2, .int l2), (3, .int l3), (4, .int l4), (5, .int z.1), (6, .int z.2)] → W p l e R s m args below meth c H locs 0 0 Q (F0 m 58 ls [])) (kx0 : ∀ z : Int32, r = .inr z → ∀ (H : Heap) (locs : List Loc) (ls : Array Slot), Rep cA D Λ σ H → va_S (dm Λ) s.heap H locs → lv_has ls 9 [(0, .ref a0), (1, .int l1), (4, .int l4), (5, .int z)] → W p l e R s m args below meth c H locs 0 0 Q (F0 m 126 ls [])) (H : Heap) (locs : List Loc) (ls : Array Slot) (hR : Rep cA D Λ σ H) (hS : va_S (dm Λ) s.heap H locs) (hl : lv_has ls 9 [(0, .ref a0), (1, .int l1), (2, .int l2), (3, .int l3), (4, .int l4), (5, .int l5), (6, .int l6)]) : W p l e R s m args below meth c H locs 0 0 Q (F0 m 120 ls []) := by
  have hx := X.1
  have hb := X.2.1
  have hown := X.2.2.2.2.1
  have hts := X.2.2.2.2.2.1
  unfold jp_X5_part_120 at h
  obtain ⟨v_10, e_v_10⟩ : ∃ y : Int32, y = (l6 + (1 : Int32)) := ⟨_, rfl⟩
  have h := of_nm e_v_10 h
  refine lv_iinc (v := v_10) (lv' := [(6, .int v_10), (0, .ref a0), (1, .int l1), (2, .int l2), (3, .int l3), (4, .int l4), (5, .int l5)]) hx hb dX5_part_120 hl (k := 6) rfl (by rw [e_v_10]; rfl) (by decide) rfl (fun ls hl => ?_)
  refine lv_goto (tgt := 58) hx hb dX5_part_123 (by decide) ?_
  exact kb (l5, v_10) (Option.some.inj h).symm H locs ls hR hS (lv_sub hl [1, 2, 3, 4, 5, 6, 0] rfl)

set_option maxHeartbeats 4000000 in
set_option maxRecDepth 100000 in
theorem w_jp_X5_part_116 (X : Cx cX5_part (some .int) 9 RX5 wsX5_part p s m args meth c) (hK : Kn cA D s) (hT : TL Λ) (hM : 2 ≤ R.frames ∧ 47 ≤ R.locals) (a0 : Nat) (l1 : Int32) (l2 : Int32) (l3 : Int32) (l4 : Int32) (l6 : Int32)  (k0 : isK Λ a0 6) {r : (Int32 × Int32) ⊕ Int32} (h : jp_X5_part_116 Λ σ a0 l1 l2 l3 l4 l6 = some r) (kb : ∀ z : (Int32 × Int32), r = .inl z → ∀ (H : Heap) (locs : List Loc) (ls : Array Slot), Rep cA D Λ σ H → va_S (dm Λ) s.heap H locs → lv_has ls 9 [(0, .ref a0), (1, .int l1), (2, .int l2), (3, .int l3), (4, .int l4), (5, .int z.1), (6, .int z.2)] → W p l e R s m args below meth c H locs 0 0 Q (F0 m 58 ls [])) (kx0 : ∀ z : Int32, r = .inr z → ∀ (H : Heap) (locs : List Loc) (ls : Array Slot), Rep cA D Λ σ H → va_S (dm Λ) s.heap H locs → lv_has ls 9 [(0, .ref a0), (1, .int l1), (4, .int l4), (5, .int z)] → W p l e R s m args below meth c H locs 0 0 Q (F0 m 126 ls [])) (H : Heap) (locs : List Loc) (ls : Array Slot) (hR : Rep cA D Λ σ H) (hS : va_S (dm Λ) s.heap H locs) (hl : lv_has ls 9 [(0, .ref a0), (1, .int l1), (2, .int l2), (3, .int l3), (4, .int l4), (6, .int l6)]) : W p l e R s m args below meth c H locs 0 0 Q (F0 m 116 ls []) := by
  have hx := X.1
  have hb := X.2.1
  have hown := X.2.2.2.2.1
  have hts := X.2.2.2.2.2.1
  unfold jp_X5_part_116 at h
  refine lv_iload hx hb dX5_part_116 (lv_at hl 5 rfl) ?_
  refine lv_istore (lv' := [(5, .int l6), (0, .ref a0), (1, .int l1), (2, .int l2), (3, .int l3), (4, .int l4), (6, .int l6)]) hx hb dX5_part_118 hl (by decide) rfl (fun ls hl => ?_)
  exact w_jp_X5_part_120 X hK hT hM a0 l1 l2 l3 l4 l6 l6 k0 h kb kx0 H locs ls hR hS (lv_sub hl [1, 2, 3, 4, 5, 0, 6] rfl)

set_option maxHeartbeats 4000000 in
set_option maxRecDepth 100000 in
theorem w_bd_X5_part_58 (X : Cx cX5_part (some .int) 9 RX5 wsX5_part p s m args meth c) (hK : Kn cA D s) (hT : TL Λ) (hM : 2 ≤ R.frames ∧ 47 ≤ R.locals) (a0 : Nat) (l1 : Int32) (l2 : Int32) (l3 : Int32) (l4 : Int32) (s9 : (Int32 × Int32)) (k0 : isK Λ a0 6) {r : (Int32 × Int32) ⊕ Int32} (h : bd_X5_part_58 Λ σ a0 l1 l2 l3 l4 s9 = some r) (kb : ∀ z : (Int32 × Int32), r = .inl z → ∀ (H : Heap) (locs : List Loc) (ls : Array Slot), Rep cA D Λ σ H → va_S (dm Λ) s.heap H locs → lv_has ls 9 [(0, .ref a0), (1, .int l1), (2, .int l2), (3, .int l3), (4, .int l4), (5, .int z.1), (6, .int z.2)] → W p l e R s m args below meth c H locs 0 0 Q (F0 m 58 ls [])) (kx0 : ∀ z : Int32, r = .inr z → ∀ (H : Heap) (locs : List Loc) (ls : Array Slot), Rep cA D Λ σ H → va_S (dm Λ) s.heap H locs → lv_has ls 9 [(0, .ref a0), (1, .int l1), (4, .int l4), (5, .int z)] → W p l e R s m args below meth c H locs 0 0 Q (F0 m 126 ls [])) (H : Heap) (locs : List Loc) (ls : Array Slot) (hR : Rep cA D Λ σ H) (hS : va_S (dm Λ) s.heap H locs) (hl : lv_has ls 9 [(0, .ref a0), (1, .int l1), (2, .int l2), (3, .int l3), (4, .int l4), (5, .int s9.1), (6, .int s9.2)]) : W p l e R s m args below meth c H locs 0 0 Q (F0 m 58 ls []) := by
  have hx := X.1
  have hb := X.2.1
  have hown := X.2.2.2.2.1
  have hts := X.2.2.2.2.2.1
  unfold bd_X5_part_58 at h
  refine lv_iload hx hb dX5_part_58 (lv_at hl 6 rfl) ?_
  refine lv_iload_n hx hb dX5_part_60 rfl (lv_at hl 3 rfl) ?_
  refine lv_icmp_gt (tgt := 126) hx hb dX5_part_61 (by decide) (fun hc => ?_) (fun hc => ?_)
  · have h := of_pos hc h
    exact kx0 s9.1 (Option.some.inj h).symm H locs ls hR hS (lv_sub hl [0, 1, 4, 5] rfl)
  · have h := of_neg hc h
    refine lv_aload_n hx hb dX5_part_64 rfl (lv_at hl 0 rfl) ?_
    refine lv_iload_n hx hb dX5_part_65 rfl (lv_at hl 1 rfl) ?_
    refine lv_iload hx hb dX5_part_66 (lv_at hl 6 rfl) ?_
    obtain ⟨q_7, hq_7, h⟩ := of_bind h
    refine cl_i (rn_V (As := [.int l1, .int s9.2]) (rest := []) X hK hR k0 rfl (by decide) hl.1 (c_X5_columnInk l cA D Λ hT σ a0 l1 s9.2 k0 hq_7) (cwV 2 hts gX5_part_X5_columnInk rfl rfl rfl (by decide +kernel) ⟨Nat.le_trans (by decide) hM.1, Nat.le_trans (by decide) hM.2⟩) rfl rfl (Nat.le_of_ble_eq_true rfl) dX5_part_68) hS (fun H locs hR hS => ?_)
    refine lv_aload_n hx hb dX5_part_71 rfl (lv_at hl 0 rfl) ?_
    refine lv_iload_n hx hb dX5_part_72 rfl (lv_at hl 1 rfl) ?_
    refine lv_iload hx hb dX5_part_73 (lv_at hl 5 rfl) ?_
    obtain ⟨q_8, hq_8, h⟩ := of_bind h
    refine cl_i (rn_V (As := [.int l1, .int s9.1]) (rest := [.int q_7]) X hK hR k0 rfl (by decide) hl.1 (c_X5_columnInk l cA D Λ hT σ a0 l1 s9.1 k0 hq_8) (cwV 2 hts gX5_part_X5_columnInk rfl rfl rfl (by decide +kernel) ⟨Nat.le_trans (by decide) hM.1, Nat.le_trans (by decide) hM.2⟩) rfl rfl (Nat.le_of_ble_eq_true rfl) dX5_part_75) hS (fun H locs hR hS => ?_)
    refine lv_isub hx hb dX5_part_78 ?_
    refine lv_topi (fun v_9 e_v_9 => ?_)
    have h := of_nm e_v_9 h
    refine lv_istore (lv' := [(7, .int v_9), (0, .ref a0), (1, .int l1), (2, .int l2), (3, .int l3), (4, .int l4), (5, .int s9.1), (6, .int s9.2)]) hx hb dX5_part_79 hl (by decide) rfl (fun ls hl => ?_)
    refine lv_iload hx hb dX5_part_81 (lv_at hl 0 rfl) ?_
    refine lv_if_lt (tgt := 116) hx hb dX5_part_83 (by decide) (fun hc => ?_) (fun hc => ?_)
    · have h := of_pos hc h
      exact w_jp_X5_part_116 X hK hT hM a0 l1 l2 l3 l4 s9.2 k0 h kb kx0 H locs ls hR hS (lv_sub hl [1, 2, 3, 4, 5, 7] rfl)
    · have h := of_neg hc h
      refine lv_iload hx hb dX5_part_86 (lv_at hl 0 rfl) ?_
      refine lv_if_ne (tgt := 120) hx hb dX5_part_88 (by decide) (fun hc => ?_) (fun hc => ?_)
      · have h := of_neg hc h
        exact w_jp_X5_part_120 X hK hT hM a0 l1 l2 l3 l4 s9.1 s9.2 k0 h kb kx0 H locs ls hR hS (lv_sub hl [1, 2, 3, 4, 5, 6, 7] rfl)
      · have h := of_pos hc h
        refine lv_iconst (v := (2 : Int32)) hx hb dX5_part_91 (by decide) ?_
        refine lv_iload hx hb dX5_part_92 (lv_at hl 7 rfl) ?_
        refine lv_imul hx hb dX5_part_94 ?_
        refine lv_iload_n hx hb dX5_part_95 rfl (lv_at hl 3 rfl) ?_
        refine lv_isub hx hb dX5_part_96 ?_
        refine lv_iload_n hx hb dX5_part_97 rfl (lv_at hl 4 rfl) ?_
        refine lv_isub hx hb dX5_part_98 ?_
        refine va_mabs hx hb (X.2.2.2.1.trans hl.1.symm) hown (hts (.methodLink RX5 235 Lib.Math.abs.name) (by decide +kernel)) (hts (.static Lib.Math.abs.name) (by decide +kernel)) (hts (.initialized "java/lang/Math") (by decide +kernel)) (hts (.code Lib.Math.abs.name Lib.Math.abs.code 1 (some .int)) (by decide +kernel)) (Nat.le_trans (by decide) hM.1) (Nat.le_trans (Nat.le_of_ble_eq_true rfl) hM.2) (Nat.zero_le _) (Nat.zero_le _) dX5_part_99 ?_
        refine lv_topi (fun r_11 e_11 => ?_)
        have h := of_nm e_11 h
        refine lv_iconst (v := (2 : Int32)) hx hb dX5_part_102 (by decide) ?_
        refine lv_iload hx hb dX5_part_103 (lv_at hl 6 rfl) ?_
        refine lv_imul hx hb dX5_part_105 ?_
        refine lv_iload_n hx hb dX5_part_106 rfl (lv_at hl 3 rfl) ?_
        refine lv_isub hx hb dX5_part_107 ?_
        refine lv_iload_n hx hb dX5_part_108 rfl (lv_at hl 4 rfl) ?_
        refine lv_isub hx hb dX5_part_109 ?_
        refine va_mabs hx hb (X.2.2.2.1.trans hl.1.symm) hown (hts (.methodLink RX5 235 Lib.Math.abs.name) (by decide +kernel)) (hts (.static Lib.Math.abs.name) (by decide +kernel)) (hts (.initialized "java/lang/Math") (by decide +kernel)) (hts (.code Lib.Math.abs.name Lib.Math.abs.code 1 (some .int)) (by decide +kernel)) (Nat.le_trans (by decide) hM.1) (Nat.le_trans (Nat.le_of_ble_eq_true rfl) hM.2) (Nat.zero_le _) (Nat.zero_le _) dX5_part_110 ?_
        refine lv_topi (fun r_12 e_12 => ?_)
        have h := of_nm e_12 h
        refine lv_icmp_ge (tgt := 120) hx hb dX5_part_113 (by decide) (fun hc => ?_) (fun hc => ?_)
        · have h := of_pos hc h
          exact w_jp_X5_part_120 X hK hT hM a0 l1 l2 l3 l4 s9.1 s9.2 k0 h kb kx0 H locs ls hR hS (lv_sub hl [1, 2, 3, 4, 5, 6, 7] rfl)
        · have h := of_neg hc h
          exact w_jp_X5_part_116 X hK hT hM a0 l1 l2 l3 l4 s9.2 k0 h kb kx0 H locs ls hR hS (lv_sub hl [1, 2, 3, 4, 5, 7] rfl)

set_option maxHeartbeats 4000000 in
set_option maxRecDepth 100000 in
theorem w_lp_X5_part_58 (X : Cx cX5_part (some .int) 9 RX5 wsX5_part p s m args meth c) (hK : Kn cA D s) (hT : TL Λ) (hM : 2 ≤ R.frames ∧ 47 ≤ R.locals) (a0 : Nat) (l1 : Int32) (l2 : Int32) (l3 : Int32) (l4 : Int32) (k0 : isK Λ a0 6) {e9 : Int32} : ∀ (n9 : Nat) (s9 : (Int32 × Int32)), iter (bd_X5_part_58 Λ σ a0 l1 l2 l3 l4) n9 s9 = some e9 → ∀ (kx0 : ∀ (H : Heap) (locs : List Loc) (ls : Array Slot), Rep cA D Λ σ H → va_S (dm Λ) s.heap H locs → lv_has ls 9 [(0, .ref a0), (1, .int l1), (4, .int l4), (5, .int e9)] → W p l e R s m args below meth c H locs 0 0 Q (F0 m 126 ls [])), ∀ (H : Heap) (locs : List Loc) (ls : Array Slot), Rep cA D Λ σ H → va_S (dm Λ) s.heap H locs → lv_has ls 9 [(0, .ref a0), (1, .int l1), (2, .int l2), (3, .int l3), (4, .int l4), (5, .int s9.1), (6, .int s9.2)] → W p l e R s m args below meth c H locs 0 0 Q (F0 m 58 ls []) := by
  intro n9
  induction n9 with
  | zero => intro s9 h; cases h
  | succ n9 ih =>
    intro s9 h kx0 H locs ls hR hS hl
    obtain ⟨r, hr, h⟩ := of_iter h
    refine w_bd_X5_part_58 X hK hT hM a0 l1 l2 l3 l4 s9 k0 hr (fun z ez H locs ls hR hS hl => ?_) (fun z ez H locs ls hR hS hl => ?_) H locs ls hR hS hl
    · exact ih z (of_itl ez h) kx0 H locs ls hR hS hl
    · have he := of_itr ez h; subst he; exact kx0 H locs ls hR hS hl

set_option maxHeartbeats 4000000 in
set_option maxRecDepth 100000 in
theorem w_bd_X5_part_203 (X : Cx cX5_part (some .int) 9 RX5 wsX5_part p s m args meth c) (hK : Kn cA D s) (hT : TL Λ) (hM : 2 ≤ R.frames ∧ 47 ≤ R.locals) (a0 : Nat) (l1 : Int32) (l5 : Int32) (l6 : Int32) (l7 : Int32) (s9 : (Int32 × Sto)) (k0 : isK Λ a0 6) {r : (Int32 × Sto) ⊕ Sto} (h : bd_X5_part_203 Λ a0 l1 l5 l6 l7 s9 = some r) (kb : ∀ z : (Int32 × Sto), r = .inl z → ∀ (H : Heap) (locs : List Loc) (ls : Array Slot), Rep cA D Λ z.2 H → va_S (dm Λ) s.heap H locs → lv_has ls 9 [(0, .ref a0), (1, .int l1), (5, .int l5), (6, .int l6), (7, .int l7), (8, .int z.1)] → W p l e R s m args below meth c H locs 0 0 Q (F0 m 203 ls [])) (kx0 : ∀ z : Sto, r = .inr z → ∀ (H : Heap) (locs : List Loc) (ls : Array Slot), Rep cA D Λ z H → va_S (dm Λ) s.heap H locs → lv_has ls 9 [(0, .ref a0), (1, .int l1), (5, .int l5), (6, .int l6), (7, .int l7)] → W p l e R s m args below meth c H locs 0 0 Q (F0 m 250 ls [])) (H : Heap) (locs : List Loc) (ls : Array Slot) (hR : Rep cA D Λ s9.2 H) (hS : va_S (dm Λ) s.heap H locs) (hl : lv_has ls 9 [(0, .ref a0), (1, .int l1), (5, .int l5), (6, .int l6), (7, .int l7), (8, .int s9.1)]) : W p l e R s m args below meth c H locs 0 0 Q (F0 m 203 ls []) := by
  have hx := X.1
  have hb := X.2.1
  have hown := X.2.2.2.2.1
  have hts := X.2.2.2.2.2.1
  unfold bd_X5_part_203 at h
  refine lv_iload hx hb dX5_part_203 (lv_at hl 5 rfl) ?_
  refine lv_iload hx hb dX5_part_205 (lv_at hl 3 rfl) ?_
  refine lv_icmp_ge (tgt := 250) hx hb dX5_part_207 (by decide) (fun hc => ?_) (fun hc => ?_)
  · have h := of_pos hc h
    exact kx0 s9.2 (Option.some.inj h).symm H locs ls hR hS (lv_sub hl [0, 1, 2, 3, 4] rfl)
  · have h := of_neg hc h
    refine lv_aload_n hx hb dX5_part_210 rfl (lv_at hl 0 rfl) ?_
    refine lv_aload_n hx hb dX5_part_211 rfl (lv_at hl 0 rfl) ?_
    refine rw_getI X hK hR 6 1 k0 (by decide) (C := RX5) (T := TX5) (N := 24) rfl (by decide) in_X5_part_6 (by decide +kernel) rfl dX5_part_212 ?_
    refine lv_iload hx hb dX5_part_215 (lv_at hl 5 rfl) ?_
    refine lv_iload hx hb dX5_part_217 (lv_at hl 2 rfl) ?_
    refine lv_isub hx hb dX5_part_219 ?_
    refine lv_iload hx hb dX5_part_220 (lv_at hl 4 rfl) ?_
    refine lv_aload_n hx hb dX5_part_222 rfl (lv_at hl 0 rfl) ?_
    refine lv_iload_n hx hb dX5_part_223 rfl (lv_at hl 1 rfl) ?_
    refine lv_iload hx hb dX5_part_224 (lv_at hl 5 rfl) ?_
    refine lv_iload hx hb dX5_part_226 (lv_at hl 4 rfl) ?_
    obtain ⟨q_26, hq_26, h⟩ := of_bind h
    refine cl_z (rn_V (As := [.int l1, .int s9.1, .int l7]) (rest := [.int l7, .int (s9.1 - l5), .int (s9.2.1 a0 1), .ref a0]) X hK hR k0 rfl (by decide) hl.1 (c_X5_has l cA D Λ hT s9.2 a0 l1 s9.1 l7 k0 hq_26) (cwV 3 hts gX5_part_X5_has rfl rfl rfl (by decide +kernel) ⟨Nat.le_trans (by decide) hM.1, Nat.le_trans (by decide) hM.2⟩) rfl rfl (Nat.le_of_ble_eq_true rfl) dX5_part_228) hS (fun hz_26 H locs hR hS => ?_)
    obtain ⟨q_27, hq_27, h⟩ := of_bind h
    refine cl_v (rn_V (As := [.int (s9.2.1 a0 1), .int (s9.1 - l5), .int l7, .int q_26]) (rest := []) X hK hR k0 rfl (by decide) hl.1 (c_X5_inks l cA D Λ hT s9.2 a0 (s9.2.1 a0 1) (s9.1 - l5) l7 q_26 k0 hq_27) (cwV 4 hts gX5_part_X5_inks rfl rfl rfl (by decide +kernel) ⟨Nat.le_trans (by decide) hM.1, Nat.le_trans (by decide) hM.2⟩) rfl rfl (Nat.le_of_ble_eq_true rfl) dX5_part_231) hS (fun H locs hR hS => ?_)
    refine lv_aload_n hx hb dX5_part_234 rfl (lv_at hl 0 rfl) ?_
    refine lv_iload_n hx hb dX5_part_235 rfl (lv_at hl 1 rfl) ?_
    refine lv_iload hx hb dX5_part_236 (lv_at hl 5 rfl) ?_
    refine lv_iload hx hb dX5_part_238 (lv_at hl 4 rfl) ?_
    refine lv_iconst (v := (0 : Int32)) hx hb dX5_part_240 (by decide) ?_
    obtain ⟨q_28, hq_28, h⟩ := of_bind h
    refine cl_v (rn_V (As := [.int l1, .int s9.1, .int l7, .int (0 : Int32)]) (rest := []) X hK hR k0 rfl (by decide) hl.1 (c_X5_inks l cA D Λ hT q_27 a0 l1 s9.1 l7 (0 : Int32) k0 hq_28) (cwV 4 hts gX5_part_X5_inks rfl rfl rfl (by decide +kernel) ⟨Nat.le_trans (by decide) hM.1, Nat.le_trans (by decide) hM.2⟩) rfl rfl (Nat.le_of_ble_eq_true rfl) dX5_part_241) hS (fun H locs hR hS => ?_)
    obtain ⟨v_29, e_v_29⟩ : ∃ y : Int32, y = (s9.1 + (1 : Int32)) := ⟨_, rfl⟩
    have h := of_nm e_v_29 h
    refine lv_iinc (v := v_29) (lv' := [(8, .int v_29), (0, .ref a0), (1, .int l1), (5, .int l5), (6, .int l6), (7, .int l7)]) hx hb dX5_part_244 hl (k := 5) rfl (by rw [e_v_29]; rfl) (by decide) rfl (fun ls hl => ?_)
    refine lv_goto (tgt := 203) hx hb dX5_part_247 (by decide) ?_
    exact kb (v_29, q_28) (Option.some.inj h).symm H locs ls hR hS (lv_sub hl [1, 2, 3, 4, 5, 0] rfl)

set_option maxHeartbeats 4000000 in
set_option maxRecDepth 100000 in
theorem w_lp_X5_part_203 (X : Cx cX5_part (some .int) 9 RX5 wsX5_part p s m args meth c) (hK : Kn cA D s) (hT : TL Λ) (hM : 2 ≤ R.frames ∧ 47 ≤ R.locals) (a0 : Nat) (l1 : Int32) (l5 : Int32) (l6 : Int32) (l7 : Int32) (k0 : isK Λ a0 6) {e9 : Sto} : ∀ (n9 : Nat) (s9 : (Int32 × Sto)), iter (bd_X5_part_203 Λ a0 l1 l5 l6 l7) n9 s9 = some e9 → ∀ (kx0 : ∀ (H : Heap) (locs : List Loc) (ls : Array Slot), Rep cA D Λ e9 H → va_S (dm Λ) s.heap H locs → lv_has ls 9 [(0, .ref a0), (1, .int l1), (5, .int l5), (6, .int l6), (7, .int l7)] → W p l e R s m args below meth c H locs 0 0 Q (F0 m 250 ls [])), ∀ (H : Heap) (locs : List Loc) (ls : Array Slot), Rep cA D Λ s9.2 H → va_S (dm Λ) s.heap H locs → lv_has ls 9 [(0, .ref a0), (1, .int l1), (5, .int l5), (6, .int l6), (7, .int l7), (8, .int s9.1)] → W p l e R s m args below meth c H locs 0 0 Q (F0 m 203 ls []) := by
  intro n9
  induction n9 with
  | zero => intro s9 h; cases h
  | succ n9 ih =>
    intro s9 h kx0 H locs ls hR hS hl
    obtain ⟨r, hr, h⟩ := of_iter h
    refine w_bd_X5_part_203 X hK hT hM a0 l1 l5 l6 l7 s9 k0 hr (fun z ez H locs ls hR hS hl => ?_) (fun z ez H locs ls hR hS hl => ?_) H locs ls hR hS hl
    · exact ih z (of_itl ez h) kx0 H locs ls hR hS hl
    · have he := of_itr ez h; subst he; exact kx0 H locs ls hR hS hl

set_option maxHeartbeats 4000000 in
set_option maxRecDepth 100000 in
theorem w_bd_X5_part_188 (X : Cx cX5_part (some .int) 9 RX5 wsX5_part p s m args meth c) (hK : Kn cA D s) (hT : TL Λ) (hM : 2 ≤ R.frames ∧ 47 ≤ R.locals) (a0 : Nat) (l1 : Int32) (l5 : Int32) (l6 : Int32) (s9 : (Int32 × Sto)) (k0 : isK Λ a0 6) {r : (Int32 × Sto) ⊕ Sto} (h : bd_X5_part_188 Λ a0 l1 l5 l6 s9 = some r) (kb : ∀ z : (Int32 × Sto), r = .inl z → ∀ (H : Heap) (locs : List Loc) (ls : Array Slot), Rep cA D Λ z.2 H → va_S (dm Λ) s.heap H locs → lv_has ls 9 [(0, .ref a0), (1, .int l1), (5, .int l5), (6, .int l6), (7, .int z.1)] → W p l e R s m args below meth c H locs 0 0 Q (F0 m 188 ls [])) (kx0 : ∀ z : Sto, r = .inr z → ∀ (H : Heap) (locs : List Loc) (ls : Array Slot), Rep cA D Λ z H → va_S (dm Λ) s.heap H locs → lv_has ls 9 [(0, .ref a0), (1, .int l1), (5, .int l5)] → W p l e R s m args below meth c H locs 0 0 Q (F0 m 256 ls [])) (H : Heap) (locs : List Loc) (ls : Array Slot) (hR : Rep cA D Λ s9.2 H) (hS : va_S (dm Λ) s.heap H locs) (hl : lv_has ls 9 [(0, .ref a0), (1, .int l1), (5, .int l5), (6, .int l6), (7, .int s9.1)]) : W p l e R s m args below meth c H locs 0 0 Q (F0 m 188 ls []) := by
  have hx := X.1
  have hb := X.2.1
  have hown := X.2.2.2.2.1
  have hts := X.2.2.2.2.2.1
  unfold bd_X5_part_188 at h
  refine lv_iload hx hb dX5_part_188 (lv_at hl 4 rfl) ?_
  refine lv_aload_n hx hb dX5_part_190 rfl (lv_at hl 0 rfl) ?_
  refine rw_getR X hK hT hR 6 3 7 k0 (by decide) (C := RX5) (T := TX5) (N := 24) rfl (by decide) in_X5_part_6 (by decide +kernel) rfl dX5_part_191 (fun kf_24 => ?_)
  refine lv_iload_n hx hb dX5_part_194 rfl (lv_at hl 1 rfl) ?_
  obtain ⟨hg_25, h⟩ := of_guard h
  refine rw_iald X hK hR kf_24 hg_25 dX5_part_195 ?_
  refine lv_icmp_ge (tgt := 256) hx hb dX5_part_196 (by decide) (fun hc => ?_) (fun hc => ?_)
  · have h := of_pos hc h
    exact kx0 s9.2 (Option.some.inj h).symm H locs ls hR hS (lv_sub hl [0, 1, 2] rfl)
  · have h := of_neg hc h
    refine lv_iload hx hb dX5_part_199 (lv_at hl 2 rfl) ?_
    refine lv_istore (lv' := [(8, .int l5), (0, .ref a0), (1, .int l1), (5, .int l5), (6, .int l6), (7, .int s9.1)]) hx hb dX5_part_201 hl (by decide) rfl (fun ls hl => ?_)
    obtain ⟨e_30, hq_30, h⟩ := of_bind h
    refine w_lp_X5_part_203 X hK hT hM a0 l1 l5 l6 s9.1 k0 _ (l5, s9.2) hq_30 (fun H locs ls hR hS hl => ?_) H locs ls hR hS (lv_sub hl [1, 2, 3, 4, 5, 0] rfl)
    obtain ⟨v_31, e_v_31⟩ : ∃ y : Int32, y = (s9.1 + (1 : Int32)) := ⟨_, rfl⟩
    have h := of_nm e_v_31 h
    refine lv_iinc (v := v_31) (lv' := [(7, .int v_31), (0, .ref a0), (1, .int l1), (5, .int l5), (6, .int l6)]) hx hb dX5_part_250 hl (k := 4) rfl (by rw [e_v_31]; rfl) (by decide) rfl (fun ls hl => ?_)
    refine lv_goto (tgt := 188) hx hb dX5_part_253 (by decide) ?_
    exact kb (v_31, e_30) (Option.some.inj h).symm H locs ls hR hS (lv_sub hl [1, 2, 3, 4, 0] rfl)

set_option maxHeartbeats 4000000 in
set_option maxRecDepth 100000 in
theorem w_lp_X5_part_188 (X : Cx cX5_part (some .int) 9 RX5 wsX5_part p s m args meth c) (hK : Kn cA D s) (hT : TL Λ) (hM : 2 ≤ R.frames ∧ 47 ≤ R.locals) (a0 : Nat) (l1 : Int32) (l5 : Int32) (l6 : Int32) (k0 : isK Λ a0 6) {e9 : Sto} : ∀ (n9 : Nat) (s9 : (Int32 × Sto)), iter (bd_X5_part_188 Λ a0 l1 l5 l6) n9 s9 = some e9 → ∀ (kx0 : ∀ (H : Heap) (locs : List Loc) (ls : Array Slot), Rep cA D Λ e9 H → va_S (dm Λ) s.heap H locs → lv_has ls 9 [(0, .ref a0), (1, .int l1), (5, .int l5)] → W p l e R s m args below meth c H locs 0 0 Q (F0 m 256 ls [])), ∀ (H : Heap) (locs : List Loc) (ls : Array Slot), Rep cA D Λ s9.2 H → va_S (dm Λ) s.heap H locs → lv_has ls 9 [(0, .ref a0), (1, .int l1), (5, .int l5), (6, .int l6), (7, .int s9.1)] → W p l e R s m args below meth c H locs 0 0 Q (F0 m 188 ls []) := by
  intro n9
  induction n9 with
  | zero => intro s9 h; cases h
  | succ n9 ih =>
    intro s9 h kx0 H locs ls hR hS hl
    obtain ⟨r, hr, h⟩ := of_iter h
    refine w_bd_X5_part_188 X hK hT hM a0 l1 l5 l6 s9 k0 hr (fun z ez H locs ls hR hS hl => ?_) (fun z ez H locs ls hR hS hl => ?_) H locs ls hR hS hl
    · exact ih z (of_itl ez h) kx0 H locs ls hR hS hl
    · have he := of_itr ez h; subst he; exact kx0 H locs ls hR hS hl

set_option maxHeartbeats 4000000 in
set_option maxRecDepth 100000 in
theorem w_X5_part (X : Cx cX5_part (some .int) 9 RX5 wsX5_part p s m args meth c) (hK : Kn cA D s) (hT : TL Λ) (hM : 2 ≤ R.frames ∧ 47 ≤ R.locals) (a0 : Nat) (l1 : Int32) (l2 : Int32) (l3 : Int32) (l4 : Int32) (k0 : isK Λ a0 6) {res : Int32 × Sto} (h : F_X5_part Λ σ a0 l1 l2 l3 l4 = some res) (H : Heap) (locs : List Loc) (ls : Array Slot) (hR : Rep cA D Λ σ H) (hS : va_S (dm Λ) s.heap H locs) (hl : lv_has ls 9 [(0, .ref a0), (1, .int l1), (2, .int l2), (3, .int l3), (4, .int l4)]) : W p l e R s m args below meth c H locs 0 0 (MQ below (QI cA D Λ res) args s 0 0 (dm Λ)) (F0 m 0 ls []) := by
  have hx := X.1
  have hb := X.2.1
  have hown := X.2.2.2.2.1
  have hts := X.2.2.2.2.2.1
  unfold F_X5_part at h
  refine lv_aload_n hx hb dX5_part_0 rfl (lv_at hl 0 rfl) ?_
  refine lv_iconst (v := (0 : Int32)) hx hb dX5_part_1 (by decide) ?_
  refine rw_putI X hK hT hR hS 6 0 tyX5 k0 (by decide) (C := RX5) (T := TX5) (N := 24) rfl (by decide) in_X5_part_6 tyX5_ok nmX5 (by decide +kernel) rfl rfl (by decide +kernel) dX5_part_2 (fun σ_1 H locs e_1 hR hS => ?_)
  have h := of_nm e_1 h
  refine lv_aload_n hx hb dX5_part_5 rfl (lv_at hl 0 rfl) ?_
  refine lv_iload_n hx hb dX5_part_6 rfl (lv_at hl 1 rfl) ?_
  refine cl_z (rn_V (As := [.int l1]) (rest := []) X hK hR k0 rfl (by decide) hl.1 (c_X5_isPage l cA D Λ hT σ_1 a0 l1 k0) (cwV 1 hts gX5_part_X5_isPage rfl rfl rfl (by decide +kernel) ⟨Nat.le_trans (by decide) hM.1, Nat.le_trans (by decide) hM.2⟩) rfl rfl (Nat.le_of_ble_eq_true rfl) dX5_part_7) hS (fun hz_2 H locs hR hS => ?_)
  refine lv_topi (fun r_2 e_2 => ?_)
  have h := of_nm e_2 h
  have hz_2 : r_2 = 0 ∨ r_2 = 1 := by rw [e_2]; exact hz_2
  refine lv_if_eq (tgt := 48) hx hb dX5_part_10 (by decide) (fun hc => ?_) (fun hc => ?_)
  · have h := of_pos hc h
    refine lv_iconst (v := (-1 : Int32)) hx hb dX5_part_48 (by decide) ?_
    exact rt_i X hR hS (Option.some.inj h) dX5_part_49
  · have h := of_neg hc h
    refine lv_iload_n hx hb dX5_part_13 rfl (lv_at hl 2 rfl) ?_
    refine lv_i2l (v := (l2.toInt64)) hx hb dX5_part_14 rfl ?_
    refine lv_lconst (v := (1 : Int64)) hx hb dX5_part_15 (by decide) ?_
    refine lv_iload_n hx hb dX5_part_16 rfl (lv_at hl 3 rfl) ?_
    refine lv_i2l (v := (l3.toInt64)) hx hb dX5_part_17 rfl ?_
    refine cl_z (rn_S (As := [.long (l2.toInt64), .long (1 : Int64), .long (l3.toInt64)]) (rest := []) X hK hR hl.1 (c_X5_in l cA D Λ hT σ_1 (l2.toInt64) (1 : Int64) (l3.toInt64)) (va_cwS 3 hts gX5_part_X5_in rfl rfl rfl (by decide +kernel) ⟨Nat.le_trans (by decide) hM.1, Nat.le_trans (by decide) hM.2⟩) rfl rfl (Nat.le_of_ble_eq_true rfl) dX5_part_18) hS (fun hz_3 H locs hR hS => ?_)
    refine lv_topi (fun r_3 e_3 => ?_)
    have h := of_nm e_3 h
    have hz_3 : r_3 = 0 ∨ r_3 = 1 := by rw [e_3]; exact hz_3
    refine lv_if_eq (tgt := 48) hx hb dX5_part_21 (by decide) (fun hc => ?_) (fun hc => ?_)
    · have h := of_pos hc h
      refine lv_iconst (v := (-1 : Int32)) hx hb dX5_part_48 (by decide) ?_
      exact rt_i X hR hS (Option.some.inj h) dX5_part_49
    · have h := of_neg hc h
      refine lv_iload_n hx hb dX5_part_24 rfl (lv_at hl 3 rfl) ?_
      refine lv_aload_n hx hb dX5_part_25 rfl (lv_at hl 0 rfl) ?_
      refine rw_getR X hK hT hR 6 2 7 k0 (by decide) (C := RX5) (T := TX5) (N := 24) rfl (by decide) in_X5_part_6 (by decide +kernel) rfl dX5_part_26 (fun kf_4 => ?_)
      refine lv_iload_n hx hb dX5_part_29 rfl (lv_at hl 1 rfl) ?_
      obtain ⟨hg_5, h⟩ := of_guard h
      refine rw_iald X hK hR kf_4 hg_5 dX5_part_30 ?_
      refine lv_icmp_ge (tgt := 48) hx hb dX5_part_31 (by decide) (fun hc => ?_) (fun hc => ?_)
      · have h := of_pos hc h
        refine lv_iconst (v := (-1 : Int32)) hx hb dX5_part_48 (by decide) ?_
        exact rt_i X hR hS (Option.some.inj h) dX5_part_49
      · have h := of_neg hc h
        refine lv_iload hx hb dX5_part_34 (lv_at hl 4 rfl) ?_
        refine lv_if_lt (tgt := 48) hx hb dX5_part_36 (by decide) (fun hc => ?_) (fun hc => ?_)
        · have h := of_pos hc h
          refine lv_iconst (v := (-1 : Int32)) hx hb dX5_part_48 (by decide) ?_
          exact rt_i X hR hS (Option.some.inj h) dX5_part_49
        · have h := of_neg hc h
          refine lv_aload_n hx hb dX5_part_39 rfl (lv_at hl 0 rfl) ?_
          refine rw_getI X hK hR 6 1 k0 (by decide) (C := RX5) (T := TX5) (N := 24) rfl (by decide) in_X5_part_6 (by decide +kernel) rfl dX5_part_40 ?_
          refine lv_bipush (v := (8 : Int32)) hx hb dX5_part_43 (by decide) ?_
          refine lv_icmp_ne (tgt := 50) hx hb dX5_part_45 (by decide) (fun hc => ?_) (fun hc => ?_)
          · have h := of_neg hc h
            refine lv_iload_n hx hb dX5_part_50 rfl (lv_at hl 2 rfl) ?_
            refine lv_istore (lv' := [(5, .int l2), (0, .ref a0), (1, .int l1), (2, .int l2), (3, .int l3), (4, .int l4)]) hx hb dX5_part_51 hl (by decide) rfl (fun ls hl => ?_)
            refine lv_iload_n hx hb dX5_part_53 rfl (lv_at hl 3 rfl) ?_
            refine lv_iconst (v := (1 : Int32)) hx hb dX5_part_54 (by decide) ?_
            refine lv_iadd hx hb dX5_part_55 ?_
            refine lv_topi (fun v_6 e_v_6 => ?_)
            have h := of_nm e_v_6 h
            refine lv_istore (lv' := [(6, .int v_6), (5, .int l2), (0, .ref a0), (1, .int l1), (2, .int l2), (3, .int l3), (4, .int l4)]) hx hb dX5_part_56 hl (by decide) rfl (fun ls hl => ?_)
            obtain ⟨e_13, hq_13, h⟩ := of_bind h
            refine w_lp_X5_part_58 X hK hT hM a0 l1 l2 l3 l4 k0 _ (l2, v_6) hq_13 (fun H locs ls hR hS hl => ?_) H locs ls hR hS (lv_sub hl [2, 3, 4, 5, 6, 1, 0] rfl)
            refine lv_aload_n hx hb dX5_part_126 rfl (lv_at hl 0 rfl) ?_
            refine lv_iload_n hx hb dX5_part_127 rfl (lv_at hl 1 rfl) ?_
            refine lv_iload hx hb dX5_part_128 (lv_at hl 3 rfl) ?_
            obtain ⟨q_14, hq_14, h⟩ := of_bind h
            refine cl_i (rn_V (As := [.int l1, .int e_13]) (rest := []) X hK hR k0 rfl (by decide) hl.1 (c_X5_columnInk l cA D Λ hT σ_1 a0 l1 e_13 k0 hq_14) (cwV 2 hts gX5_part_X5_columnInk rfl rfl rfl (by decide +kernel) ⟨Nat.le_trans (by decide) hM.1, Nat.le_trans (by decide) hM.2⟩) rfl rfl (Nat.le_of_ble_eq_true rfl) dX5_part_130) hS (fun H locs hR hS => ?_)
            refine lv_iload hx hb dX5_part_133 (lv_at hl 2 rfl) ?_
            refine lv_icmp_le (tgt := 140) hx hb dX5_part_135 (by decide) (fun hc => ?_) (fun hc => ?_)
            · have h := of_pos hc h
              refine lv_aload_n hx hb dX5_part_140 rfl (lv_at hl 0 rfl) ?_
              refine lv_iload_n hx hb dX5_part_141 rfl (lv_at hl 1 rfl) ?_
              obtain ⟨q_15, hq_15, h⟩ := of_bind h
              refine cl_v (rn_V (As := [.int l1]) (rest := []) X hK hR k0 rfl (by decide) hl.1 (c_X5_changing l cA D Λ hT σ_1 a0 l1 k0 hq_15) (cwV 1 hts gX5_part_X5_changing rfl rfl rfl (by decide +kernel) ⟨Nat.le_trans (by decide) hM.1, Nat.le_trans (by decide) hM.2⟩) rfl rfl (Nat.le_of_ble_eq_true rfl) dX5_part_142) hS (fun H locs hR hS => ?_)
              refine lv_aload_n hx hb dX5_part_145 rfl (lv_at hl 0 rfl) ?_
              refine rw_getR X hK hT hR 6 11 7 k0 (by decide) (C := RX5) (T := TX5) (N := 24) rfl (by decide) in_X5_part_6 (by decide +kernel) rfl dX5_part_146 (fun kf_16 => ?_)
              refine lv_aload_n hx hb dX5_part_149 rfl (lv_at hl 0 rfl) ?_
              refine rw_getI X hK hR 6 7 k0 (by decide) (C := RX5) (T := TX5) (N := 24) rfl (by decide) in_X5_part_6 (by decide +kernel) rfl dX5_part_150 ?_
              refine lv_aload_n hx hb dX5_part_153 rfl (lv_at hl 0 rfl) ?_
              refine rw_getI X hK hR 6 1 k0 (by decide) (C := RX5) (T := TX5) (N := 24) rfl (by decide) in_X5_part_6 (by decide +kernel) rfl dX5_part_154 ?_
              obtain ⟨hg_17, h⟩ := of_guard h
              refine rw_iast X hK hT hR hS kf_16 hg_17 dX5_part_157 (fun σ_17 H locs e_17 hR hS => ?_)
              have h := of_nm e_17 h
              refine lv_aload_n hx hb dX5_part_158 rfl (lv_at hl 0 rfl) ?_
              refine rw_getR X hK hT hR 6 2 7 k0 (by decide) (C := RX5) (T := TX5) (N := 24) rfl (by decide) in_X5_part_6 (by decide +kernel) rfl dX5_part_159 (fun kf_18 => ?_)
              refine lv_iload_n hx hb dX5_part_162 rfl (lv_at hl 1 rfl) ?_
              obtain ⟨hg_19, h⟩ := of_guard h
              refine rw_iald X hK hR kf_18 hg_19 dX5_part_163 ?_
              refine lv_topi (fun v_20 e_v_20 => ?_)
              have h := of_nm e_v_20 h
              refine lv_istore (lv' := [(6, .int v_20), (0, .ref a0), (1, .int l1), (4, .int l4), (5, .int e_13)]) hx hb dX5_part_164 hl (by decide) rfl (fun ls hl => ?_)
              refine lv_aload_n hx hb dX5_part_166 rfl (lv_at hl 1 rfl) ?_
              refine lv_aload_n hx hb dX5_part_167 rfl (lv_at hl 1 rfl) ?_
              refine rw_getI X hK hR 6 1 k0 (by decide) (C := RX5) (T := TX5) (N := 24) rfl (by decide) in_X5_part_6 (by decide +kernel) rfl dX5_part_168 ?_
              refine lv_iload hx hb dX5_part_171 (lv_at hl 0 rfl) ?_
              refine lv_iload hx hb dX5_part_173 (lv_at hl 4 rfl) ?_
              refine lv_isub hx hb dX5_part_175 ?_
              refine lv_aload_n hx hb dX5_part_176 rfl (lv_at hl 1 rfl) ?_
              refine rw_getR X hK hT hR 6 3 7 k0 (by decide) (C := RX5) (T := TX5) (N := 24) rfl (by decide) in_X5_part_6 (by decide +kernel) rfl dX5_part_177 (fun kf_21 => ?_)
              refine lv_iload_n hx hb dX5_part_180 rfl (lv_at hl 2 rfl) ?_
              obtain ⟨hg_22, h⟩ := of_guard h
              refine rw_iald X hK hR kf_21 hg_22 dX5_part_181 ?_
              obtain ⟨q_23, hq_23, h⟩ := of_bind h
              refine cl_v (rn_V (As := [.int (σ_17.1 a0 1), .int (v_20 - e_13), .int (σ_17.1 (rfA Λ a0 3) l1.toNatClampNeg)]) (rest := []) X hK hR k0 rfl (by decide) hl.1 (c_X5_clears l cA D Λ hT σ_17 a0 (σ_17.1 a0 1) (v_20 - e_13) (σ_17.1 (rfA Λ a0 3) l1.toNatClampNeg) k0 hq_23) (cwV 3 hts gX5_part_X5_clears rfl rfl rfl (by decide +kernel) ⟨Nat.le_trans (by decide) hM.1, Nat.le_trans (by decide) hM.2⟩) rfl rfl (Nat.le_of_ble_eq_true rfl) dX5_part_182) hS (fun H locs hR hS => ?_)
              refine lv_iconst (v := (0 : Int32)) hx hb dX5_part_185 (by decide) ?_
              refine lv_istore (lv' := [(7, .int (0 : Int32)), (6, .int v_20), (0, .ref a0), (1, .int l1), (4, .int l4), (5, .int e_13)]) hx hb dX5_part_186 hl (by decide) rfl (fun ls hl => ?_)
              obtain ⟨e_32, hq_32, h⟩ := of_bind h
              refine w_lp_X5_part_188 X hK hT hM a0 l1 e_13 v_20 k0 _ ((0 : Int32), q_23) hq_32 (fun H locs ls hR hS hl => ?_) H locs ls hR hS (lv_sub hl [2, 3, 5, 1, 0] rfl)
              refine lv_aload_n hx hb dX5_part_256 rfl (lv_at hl 0 rfl) ?_
              refine rw_getR X hK hT hR 6 2 7 k0 (by decide) (C := RX5) (T := TX5) (N := 24) rfl (by decide) in_X5_part_6 (by decide +kernel) rfl dX5_part_257 (fun kf_33 => ?_)
              refine lv_iload_n hx hb dX5_part_260 rfl (lv_at hl 1 rfl) ?_
              refine lv_iload hx hb dX5_part_261 (lv_at hl 2 rfl) ?_
              obtain ⟨hg_34, h⟩ := of_guard h
              refine rw_iast X hK hT hR hS kf_33 hg_34 dX5_part_263 (fun σ_34 H locs e_34 hR hS => ?_)
              have h := of_nm e_34 h
              refine lv_aload_n hx hb dX5_part_264 rfl (lv_at hl 0 rfl) ?_
              refine lv_dup hx hb dX5_part_265 rfl ?_
              refine rw_getI X hK hR 6 1 k0 (by decide) (C := RX5) (T := TX5) (N := 24) rfl (by decide) in_X5_part_6 (by decide +kernel) rfl dX5_part_266 ?_
              refine lv_iconst (v := (1 : Int32)) hx hb dX5_part_269 (by decide) ?_
              refine lv_iadd hx hb dX5_part_270 ?_
              refine rw_putI X hK hT hR hS 6 1 tyX5 k0 (by decide) (C := RX5) (T := TX5) (N := 24) rfl (by decide) in_X5_part_6 tyX5_ok nmX5 (by decide +kernel) rfl rfl (by decide +kernel) dX5_part_271 (fun σ_35 H locs e_35 hR hS => ?_)
              have h := of_nm e_35 h
              refine lv_aload_n hx hb dX5_part_274 rfl (lv_at hl 0 rfl) ?_
              refine rw_getI X hK hR 6 1 k0 (by decide) (C := RX5) (T := TX5) (N := 24) rfl (by decide) in_X5_part_6 (by decide +kernel) rfl dX5_part_275 ?_
              refine lv_iconst (v := (1 : Int32)) hx hb dX5_part_278 (by decide) ?_
              refine lv_isub hx hb dX5_part_279 ?_
              exact rt_i X hR hS (Option.some.inj h) dX5_part_280
            · have h := of_neg hc h
              refine lv_iconst (v := (-1 : Int32)) hx hb dX5_part_138 (by decide) ?_
              exact rt_i X hR hS (Option.some.inj h) dX5_part_139
          · have h := of_pos hc h
            refine lv_iconst (v := (-1 : Int32)) hx hb dX5_part_48 (by decide) ?_
            exact rt_i X hR hS (Option.some.inj h) dX5_part_49

set_option maxHeartbeats 4000000 in
set_option maxRecDepth 100000 in
theorem c_X5_part (l : Launch) (cA : Nat → ClassId) (D : va_G) (Λ : Lay) (hT : TL Λ) (σ : Sto) (a0 : Nat) (l1 : Int32) (l2 : Int32) (l3 : Int32) (l4 : Int32) (k0 : isK Λ a0 6) {res : Int32 × Sto} (h : F_X5_part Λ σ a0 l1 l2 l3 l4 = some res) : Met l yX5_part wsX5_part { frames := 2, cells := 0, slots := 0, locals := 47 } (va_Pc [.ref a0, .int l1, .int l2, .int l3, .int l4] (PW cA D Λ σ)) (QI cA D Λ res) 0 0 (dm Λ) := by
  refine Met.ofW (cc := cX5_part) (maxL := 9) (ret := (some .int)) (by decide) rfl ?_
  intro p e s m args below meth c s₁ B hml hv
  obtain ⟨rfl, hR, hK⟩ := hv
  have X : Cx cX5_part (some .int) 9 RX5 wsX5_part p s m _ meth c := ⟨B.exec, B.bytes, B.returns, hml, findClass_of_methodNamed B.named, atoms_spec (ws := wsX5_part) B.pre, B.notSynchronized⟩
  have hS : va_S (dm Λ) s.heap s.heap [] := va_S.rf
  have hl := lv_entry ([.ref a0, .int l1, .int l2, .int l3, .int l4]) (n := 9) (Nat.le_of_ble_eq_true rfl)
  rw [lg_entry_eq]
  generalize (lg_sl ([.ref a0, .int l1, .int l2, .int l3, .int l4]) ++ List.replicate (9 - (lg_sl ([.ref a0, .int l1, .int l2, .int l3, .int l4])).length) Slot.unset).toArray = ls at hl ⊢
  have hl : lv_has ls 9 [(0, .ref a0), (1, .int l1), (2, .int l2), (3, .int l3), (4, .int l4)] := hl
  exact w_X5_part X hK hT ⟨Nat.le_refl _, Nat.le_refl _⟩ a0 l1 l2 l3 l4 k0 h s.heap [] ls hR hS hl
