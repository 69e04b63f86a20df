variable {p : Program} {l : Launch} {e : Env} {R : Room} {s : State} {m : MethodId} {args : Array Value} {below : List Frame} {meth : Method} {c : Code} {Q : State → Prop} {cA : Nat → ClassId} {D : va_G} {Λ : Lay} {σ : Sto}
set_option maxHeartbeats 4000000 in
set_option maxRecDepth 100000 in
theorem w_bd_J7_fill_d0a16_6 (X : Cx cJ7_fill_d0a16 none 5 RJ7 wsJ7_fill_d0a16 p s m args meth c) (hK : Kn cA D s) (hT : TL Λ) (hM : 0 ≤ R.frames ∧ 0 ≤ R.locals) (a0 : Nat) (l1 : Int64) (l4 : Int32) (s9 : (Int32 × Sto)) (k0 : isK Λ a0 8) {r : (Int32 × Sto) ⊕ Sto} (h : bd_J7_fill_d0a16_6 Λ a0 l1 l4 s9 = some r) (kb : ∀ z : (Int32 × Sto), r = .inl z → ∀ (H : Heap) (locs : List Loc) (ls : Array Slot), Rep cA D Λ z.2 H → va_S (dm Λ) s.heap H locs → lv_has ls 5 [(0, .ref a0), (1, .long l1), (3, .int z.1), (4, .int l4)] → W p l e R s m args below meth c H locs 0 0 Q (F0 m 6 ls [])) (kx0 : ∀ z : Sto, r = .inr z → ∀ (H : Heap) (locs : List Loc) (ls : Array Slot), Rep cA D Λ z H → va_S (dm Λ) s.heap H locs → lv_has ls 5 [] → W p l e R s m args below meth c H locs 0 0 Q (F0 m 22 ls [])) (H : Heap) (locs : List Loc) (ls : Array Slot) (hR : Rep cA D Λ s9.2 H) (hS : va_S (dm Λ) s.heap H locs) (hl : lv_has ls 5 [(0, .ref a0), (1, .long l1), (3, .int s9.1), (4, .int l4)]) : W p l e R s m args below meth c H locs 0 0 Q (F0 m 6 ls []) := by
  have hx := X.1
  have hb := X.2.1
  have hown := X.2.2.2.2.1
  have hts := X.2.2.2.2.2.1
  unfold bd_J7_fill_d0a16_6 at h
  refine lv_iload_n hx hb dJ7_fill_d0a16_6 rfl (lv_at hl 2 rfl) ?_
  refine lv_iload hx hb dJ7_fill_d0a16_7 (lv_at hl 3 rfl) ?_
  refine lv_icmp_ge (tgt := 22) hx hb dJ7_fill_d0a16_9 (by decide) (fun hc => ?_) (fun hc => ?_)
  · have h := of_pos hc h
    exact kx0 s9.2 (Option.some.inj h).symm H locs ls hR hS (lv_sub hl [] rfl)
  · have h := of_neg hc h
    refine lv_aload_n hx hb dJ7_fill_d0a16_12 rfl (lv_at hl 0 rfl) ?_
    refine lv_iload_n hx hb dJ7_fill_d0a16_13 rfl (lv_at hl 2 rfl) ?_
    refine lv_lload_n hx hb dJ7_fill_d0a16_14 rfl (lv_at hl 1 rfl) ?_
    obtain ⟨hg_2, h⟩ := of_guard h
    refine rw_last X hK hT hR hS k0 hg_2 dJ7_fill_d0a16_15 (fun σ_2 H locs e_2 hR hS => ?_)
    have h := of_nm e_2 h
    obtain ⟨v_3, e_v_3⟩ : ∃ y : Int32, y = (s9.1 + (1 : Int32)) := ⟨_, rfl⟩
    have h := of_nm e_v_3 h
    refine lv_iinc (v := v_3) (lv' := [(3, .int v_3), (0, .ref a0), (1, .long l1), (4, .int l4)]) hx hb dJ7_fill_d0a16_16 hl (k := 2) rfl (by rw [e_v_3]; rfl) (by decide) rfl (fun ls hl => ?_)
    refine lv_goto (tgt := 6) hx hb dJ7_fill_d0a16_19 (by decide) ?_
    exact kb (v_3, σ_2) (Option.some.inj h).symm H locs ls hR hS (lv_sub hl [1, 2, 0, 3] rfl)

set_option maxHeartbeats 4000000 in
set_option maxRecDepth 100000 in
theorem w_lp_J7_fill_d0a16_6 (X : Cx cJ7_fill_d0a16 none 5 RJ7 wsJ7_fill_d0a16 p s m args meth c) (hK : Kn cA D s) (hT : TL Λ) (hM : 0 ≤ R.frames ∧ 0 ≤ R.locals) (a0 : Nat) (l1 : Int64) (l4 : Int32) (k0 : isK Λ a0 8) {e9 : Sto} : ∀ (n9 : Nat) (s9 : (Int32 × Sto)), iter (bd_J7_fill_d0a16_6 Λ a0 l1 l4) n9 s9 = some e9 → ∀ (kx0 : ∀ (H : Heap) (locs : List Loc) (ls : Array Slot), Rep cA D Λ e9 H → va_S (dm Λ) s.heap H locs → lv_has ls 5 [] → W p l e R s m args below meth c H locs 0 0 Q (F0 m 22 ls [])), ∀ (H : Heap) (locs : List Loc) (ls : Array Slot), Rep cA D Λ s9.2 H → va_S (dm Λ) s.heap H locs → lv_has ls 5 [(0, .ref a0), (1, .long l1), (3, .int s9.1), (4, .int l4)] → W p l e R s m args below meth c H locs 0 0 Q (F0 m 6 ls []) := by
  intro n9
  induction n9 with
  | zero => intro s9 h; cases h
  | succ n9 ih =>
    intro s9 h kx0 H locs ls hR hS hl
    obtain ⟨r, hr, h⟩ := of_iter h
    refine w_bd_J7_fill_d0a16_6 X hK hT hM a0 l1 l4 s9 k0 hr (fun z ez H locs ls hR hS hl => ?_) (fun z ez H locs ls hR hS hl => ?_) H locs ls hR hS hl
    · exact ih z (of_itl ez h) kx0 H locs ls hR hS hl
    · have he := of_itr ez h; subst he; exact kx0 H locs ls hR hS hl

set_option maxHeartbeats 4000000 in
set_option maxRecDepth 100000 in
theorem w_J7_fill_d0a16 (X : Cx cJ7_fill_d0a16 none 5 RJ7 wsJ7_fill_d0a16 p s m args meth c) (hK : Kn cA D s) (hT : TL Λ) (hM : 0 ≤ R.frames ∧ 0 ≤ R.locals) (a0 : Nat) (l1 : Int64) (k0 : isK Λ a0 8) {res : Sto} (h : F_J7_fill_d0a16 Λ σ a0 l1 = some res) (H : Heap) (locs : List Loc) (ls : Array Slot) (hR : Rep cA D Λ σ H) (hS : va_S (dm Λ) s.heap H locs) (hl : lv_has ls 5 [(0, .ref a0), (1, .long l1)]) : W p l e R s m args below meth c H locs 0 0 (MQ below (QV cA D Λ res) args s 0 0 (dm Λ)) (F0 m 0 ls []) := by
  have hx := X.1
  have hb := X.2.1
  have hown := X.2.2.2.2.1
  have hts := X.2.2.2.2.2.1
  unfold F_J7_fill_d0a16 at h
  refine lv_iconst (v := (0 : Int32)) hx hb dJ7_fill_d0a16_0 (by decide) ?_
  refine lv_istore_n (lv' := [(3, .int (0 : Int32)), (0, .ref a0), (1, .long l1)]) hx hb dJ7_fill_d0a16_1 rfl hl (by decide) rfl (fun ls hl => ?_)
  refine lv_aload_n hx hb dJ7_fill_d0a16_2 rfl (lv_at hl 1 rfl) ?_
  refine rw_alen8 X hK hR k0 dJ7_fill_d0a16_3 ?_
  refine lv_topi (fun v_1 e_v_1 => ?_)
  have h := of_nm e_v_1 h
  refine lv_istore (lv' := [(4, .int v_1), (3, .int (0 : Int32)), (0, .ref a0), (1, .long l1)]) hx hb dJ7_fill_d0a16_4 hl (by decide) rfl (fun ls hl => ?_)
  obtain ⟨e_4, hq_4, h⟩ := of_bind h
  refine w_lp_J7_fill_d0a16_6 X hK hT hM a0 l1 v_1 k0 _ ((0 : Int32), σ) hq_4 (fun H locs ls hR hS hl => ?_) H locs ls hR hS (lv_sub hl [2, 3, 1, 0] rfl)
  exact rt_v X hR hS (Option.some.inj h) dJ7_fill_d0a16_22

set_option maxHeartbeats 4000000 in
set_option maxRecDepth 100000 in
theorem c_J7_fill_d0a16 (l : Launch) (cA : Nat → ClassId) (D : va_G) (Λ : Lay) (hT : TL Λ) (σ : Sto) (a0 : Nat) (l1 : Int64) (k0 : isK Λ a0 8) {res : Sto} (h : F_J7_fill_d0a16 Λ σ a0 l1 = some res) : Met l yJ7_fill_d0a16 wsJ7_fill_d0a16 { frames := 0, cells := 0, slots := 0, locals := 0 } (va_Pc [.ref a0, .long l1] (PW cA D Λ σ)) (QV cA D Λ res) 0 0 (dm Λ) := by
  refine Met.ofW (cc := cJ7_fill_d0a16) (maxL := 5) (ret := none) (by decide) rfl ?_
  intro p e s m args below meth c s₁ B hml hv
  obtain ⟨rfl, hR, hK⟩ := hv
  have X : Cx cJ7_fill_d0a16 none 5 RJ7 wsJ7_fill_d0a16 p s m _ meth c := ⟨B.exec, B.bytes, B.returns, hml, findClass_of_methodNamed B.named, atoms_spec (ws := wsJ7_fill_d0a16) B.pre, B.notSynchronized⟩
  have hS : va_S (dm Λ) s.heap s.heap [] := va_S.rf
  have hl := lv_entry ([.ref a0, .long l1]) (n := 5) (Nat.le_of_ble_eq_true rfl)
  rw [lg_entry_eq]
  generalize (lg_sl ([.ref a0, .long l1]) ++ List.replicate (5 - (lg_sl ([.ref a0, .long l1])).length) Slot.unset).toArray = ls at hl ⊢
  have hl : lv_has ls 5 [(0, .ref a0), (1, .long l1)] := hl
  exact w_J7_fill_d0a16 X hK hT ⟨Nat.le_refl _, Nat.le_refl _⟩ a0 l1 k0 h s.heap [] ls hR hS hl
theorem in_X2_empty_3 : ∀ w ∈ u_ws RX2 TX2 3, w ∈ wsX2_empty := by decide +kernel
set_option maxHeartbeats 4000000 in
set_option maxRecDepth 100000 in
theorem w_X2_empty (X : Cx cX2_empty none 3 RX2 wsX2_empty p s m args meth c) (hK : Kn cA D s) (hT : TL Λ) (hM : 1 ≤ R.frames ∧ 24 ≤ R.locals) (a0 : Nat) (l1 : Int32) (l2 : Int32) (k0 : isK Λ a0 3) {res : Sto} (h : F_X2_empty Λ σ a0 l1 l2 = some res) (H : Heap) (locs : List Loc) (ls : Array Slot) (hR : Rep cA D Λ σ H) (hS : va_S (dm Λ) s.heap H locs) (hl : lv_has ls 3 [(0, .ref a0), (1, .int l1), (2, .int l2)]) : W p l e R s m args below meth c H locs 0 0 (MQ below (QV cA D Λ res) args s 0 0 (dm Λ)) (F0 m 0 ls []) := by
  have hx := X.1
  have hb := X.2.1
  have hown := X.2.2.2.2.1
  have hts := X.2.2.2.2.2.1
  unfold F_X2_empty at h
  refine lv_aload_n hx hb dX2_empty_0 rfl (lv_at hl 0 rfl) ?_
  refine lv_iload_n hx hb dX2_empty_1 rfl (lv_at hl 1 rfl) ?_
  refine rw_putI X hK hT hR hS 3 0 tyX2 k0 (by decide) (C := RX2) (T := TX2) (N := 3) rfl (by decide) in_X2_empty_3 tyX2_ok nmX2 (by decide +kernel) rfl rfl (by decide +kernel) dX2_empty_2 (fun σ_1 H locs e_1 hR hS => ?_)
  have h := of_nm e_1 h
  refine lv_aload_n hx hb dX2_empty_5 rfl (lv_at hl 0 rfl) ?_
  refine lv_iload_n hx hb dX2_empty_6 rfl (lv_at hl 2 rfl) ?_
  refine rw_putI X hK hT hR hS 3 1 tyX2 k0 (by decide) (C := RX2) (T := TX2) (N := 3) rfl (by decide) in_X2_empty_3 tyX2_ok nmX2 (by decide +kernel) rfl rfl (by decide +kernel) dX2_empty_7 (fun σ_2 H locs e_2 hR hS => ?_)
  have h := of_nm e_2 h
  refine lv_aload_n hx hb dX2_empty_10 rfl (lv_at hl 0 rfl) ?_
  refine rw_getR X hK hT hR 3 2 8 k0 (by decide) (C := RX2) (T := TX2) (N := 3) rfl (by decide) in_X2_empty_3 (by decide +kernel) rfl dX2_empty_11 (fun kf_3 => ?_)
  refine lv_lconst (v := (0 : Int64)) hx hb dX2_empty_14 (by decide) ?_
  obtain ⟨q_4, hq_4, h⟩ := of_bind h
  refine cl_v (rn_S (As := [.ref (rfA Λ a0 2), .long (0 : Int64)]) (rest := []) X hK hR hl.1 (c_J7_fill_d0a16 l cA D Λ hT σ_2 (rfA Λ a0 2) (0 : Int64) kf_3 hq_4) (va_cwS 2 hts gX2_empty_J7_fill_d0a16 rfl rfl rfl (by decide +kernel) ⟨Nat.le_trans (by decide) hM.1, Nat.le_trans (by decide) hM.2⟩) rfl rfl (Nat.le_of_ble_eq_true rfl) dX2_empty_15) hS (fun H locs hR hS => ?_)
  exact rt_v X hR hS (Option.some.inj h) dX2_empty_18

set_option maxHeartbeats 4000000 in
set_option maxRecDepth 100000 in
theorem c_X2_empty (l : Launch) (cA : Nat → ClassId) (D : va_G) (Λ : Lay) (hT : TL Λ) (σ : Sto) (a0 : Nat) (l1 : Int32) (l2 : Int32) (k0 : isK Λ a0 3) {res : Sto} (h : F_X2_empty Λ σ a0 l1 l2 = some res) : Met l yX2_empty wsX2_empty { frames := 1, cells := 0, slots := 0, locals := 24 } (va_Pc [.ref a0, .int l1, .int l2] (PW cA D Λ σ)) (QV cA D Λ res) 0 0 (dm Λ) := by
  refine Met.ofW (cc := cX2_empty) (maxL := 3) (ret := none) (by decide) rfl ?_
  intro p e s m args below meth c s₁ B hml hv
  obtain ⟨rfl, hR, hK⟩ := hv
  have X : Cx cX2_empty none 3 RX2 wsX2_empty p s m _ meth c := ⟨B.exec, B.bytes, B.returns, hml, findClass_of_methodNamed B.named, atoms_spec (ws := wsX2_empty) B.pre, B.notSynchronized⟩
  have hS : va_S (dm Λ) s.heap s.heap [] := va_S.rf
  have hl := lv_entry ([.ref a0, .int l1, .int l2]) (n := 3) (Nat.le_of_ble_eq_true rfl)
  rw [lg_entry_eq]
  generalize (lg_sl ([.ref a0, .int l1, .int l2]) ++ List.replicate (3 - (lg_sl ([.ref a0, .int l1, .int l2])).length) Slot.unset).toArray = ls at hl ⊢
  have hl : lv_has ls 3 [(0, .ref a0), (1, .int l1), (2, .int l2)] := hl
  exact w_X2_empty X hK hT ⟨Nat.le_refl _, Nat.le_refl _⟩ a0 l1 l2 k0 h s.heap [] ls hR hS hl
theorem in_X2_become_3 : ∀ w ∈ u_ws RX2 TX2 3, w ∈ wsX2_become := by decide +kernel
set_option maxHeartbeats 4000000 in
set_option maxRecDepth 100000 in
theorem w_X2_become (X : Cx cX2_become none 2 RX2 wsX2_become p s m args meth c) (hK : Kn cA D s) (hT : TL Λ) (hM : 2 ≤ R.frames ∧ 46 ≤ R.locals) (a0 : Nat) (a1 : Nat) (k0 : isK Λ a0 3) (k1 : isK Λ a1 3) {res : Sto} (h : F_X2_become Λ σ a0 a1 = some res) (H : Heap) (locs : List Loc) (ls : Array Slot) (hR : Rep cA D Λ σ H) (hS : va_S (dm Λ) s.heap H locs) (hl : lv_has ls 2 [(0, .ref a0), (1, .ref a1)]) : W p l e R s m args below meth c H locs 0 0 (MQ below (QV cA D Λ res) args s 0 0 (dm Λ)) (F0 m 0 ls []) := by
  have hx := X.1
  have hb := X.2.1
  have hown := X.2.2.2.2.1
  have hts := X.2.2.2.2.2.1
  unfold F_X2_become at h
  refine lv_aload_n hx hb dX2_become_0 rfl (lv_at hl 0 rfl) ?_
  refine lv_aload_n hx hb dX2_become_1 rfl (lv_at hl 1 rfl) ?_
  refine rw_getI X hK hR 3 0 k1 (by decide) (C := RX2) (T := TX2) (N := 3) rfl (by decide) in_X2_become_3 (by decide +kernel) rfl dX2_become_2 ?_
  refine lv_aload_n hx hb dX2_become_5 rfl (lv_at hl 1 rfl) ?_
  refine rw_getI X hK hR 3 1 k1 (by decide) (C := RX2) (T := TX2) (N := 3) rfl (by decide) in_X2_become_3 (by decide +kernel) rfl dX2_become_6 ?_
  obtain ⟨q_1, hq_1, h⟩ := of_bind h
  refine cl_v (rn_V (As := [.int (σ.1 a1 0), .int (σ.1 a1 1)]) (rest := []) X hK hR k0 rfl (by decide) hl.1 (c_X2_empty l cA D Λ hT σ a0 (σ.1 a1 0) (σ.1 a1 1) k0 hq_1) (cwV 2 hts gX2_become_X2_empty rfl rfl rfl (by decide +kernel) ⟨Nat.le_trans (by decide) hM.1, Nat.le_trans (by decide) hM.2⟩) rfl rfl (Nat.le_of_ble_eq_true rfl) dX2_become_9) hS (fun H locs hR hS => ?_)
  refine lv_aload_n hx hb dX2_become_12 rfl (lv_at hl 1 rfl) ?_
  refine rw_getR X hK hT hR 3 2 8 k1 (by decide) (C := RX2) (T := TX2) (N := 3) rfl (by decide) in_X2_become_3 (by decide +kernel) rfl dX2_become_13 (fun kf_2 => ?_)
  refine lv_iconst (v := (0 : Int32)) hx hb dX2_become_16 (by decide) ?_
  refine lv_aload_n hx hb dX2_become_17 rfl (lv_at hl 0 rfl) ?_
  refine rw_getR X hK hT hR 3 2 8 k0 (by decide) (C := RX2) (T := TX2) (N := 3) rfl (by decide) in_X2_become_3 (by decide +kernel) rfl dX2_become_18 (fun kf_3 => ?_)
  refine lv_iconst (v := (0 : Int32)) hx hb dX2_become_21 (by decide) ?_
  refine lv_aload_n hx hb dX2_become_22 rfl (lv_at hl 1 rfl) ?_
  refine rw_getI X hK hR 3 1 k1 (by decide) (C := RX2) (T := TX2) (N := 3) rfl (by decide) in_X2_become_3 (by decide +kernel) rfl dX2_become_23 ?_
  obtain ⟨hg_4, h⟩ := of_guard h
  refine rw_copyl X hK hT hR hS hl.1 kf_2 kf_3 hg_4 (by decide +kernel) (by decide +kernel) (by decide +kernel) (by decide +kernel) (Nat.le_trans (by decide) hM.1) (Nat.le_trans (Nat.le_of_ble_eq_true rfl) hM.2) dX2_become_26 (fun σ_4 H locs e_4 hR hS => ?_)
  have h := of_nm e_4 h
  exact rt_v X hR hS (Option.some.inj h) dX2_become_29

set_option maxHeartbeats 4000000 in
set_option maxRecDepth 100000 in
theorem c_X2_become (l : Launch) (cA : Nat → ClassId) (D : va_G) (Λ : Lay) (hT : TL Λ) (σ : Sto) (a0 : Nat) (a1 : Nat) (k0 : isK Λ a0 3) (k1 : isK Λ a1 3) {res : Sto} (h : F_X2_become Λ σ a0 a1 = some res) : Met l yX2_become wsX2_become { frames := 2, cells := 0, slots := 0, locals := 46 } (va_Pc [.ref a0, .ref a1] (PW cA D Λ σ)) (QV cA D Λ res) 0 0 (dm Λ) := by
  refine Met.ofW (cc := cX2_become) (maxL := 2) (ret := none) (by decide) rfl ?_
  intro p e s m args below meth c s₁ B hml hv
  obtain ⟨rfl, hR, hK⟩ := hv
  have X : Cx cX2_become none 2 RX2 wsX2_become p s m _ meth c := ⟨B.exec, B.bytes, B.returns, hml, findClass_of_methodNamed B.named, atoms_spec (ws := wsX2_become) B.pre, B.notSynchronized⟩
  have hS : va_S (dm Λ) s.heap s.heap [] := va_S.rf
  have hl := lv_entry ([.ref a0, .ref a1]) (n := 2) (Nat.le_of_ble_eq_true rfl)
  rw [lg_entry_eq]
  generalize (lg_sl ([.ref a0, .ref a1]) ++ List.replicate (2 - (lg_sl ([.ref a0, .ref a1])).length) Slot.unset).toArray = ls at hl ⊢
  have hl : lv_has ls 2 [(0, .ref a0), (1, .ref a1)] := hl
  exact w_X2_become X hK hT ⟨Nat.le_refl _, Nat.le_refl _⟩ a0 a1 k0 k1 h s.heap [] ls hR hS hl
theorem in_X1_remember_1 : ∀ w ∈ u_ws RX0 TX0 3, w ∈ wsX1_remember := by decide +kernel
theorem in_X1_remember_2 : ∀ w ∈ u_ws RX1 TX1 3, w ∈ wsX1_remember := by decide +kernel
set_option maxHeartbeats 4000000 in
set_option maxRecDepth 100000 in
theorem w_jp_X1_remember_54 (X : Cx cX1_remember none 5 RX1 wsX1_remember p s m args meth c) (hK : Kn cA D s) (hT : TL Λ) (hM : 3 ≤ R.frames ∧ 67 ≤ R.locals) (a0 : Nat) (ls0 : Int32) (as1 : Nat) (k0 : isK Λ a0 2) (ks1 : isK Λ as1 2) {res : Sto} (h : jp_X1_remember_54 Λ σ a0 ls0 as1 = some res) (H : Heap) (locs : List Loc) (ls : Array Slot) (hR : Rep cA D Λ σ H) (hS : va_S (dm Λ) s.heap H locs) (hl : lv_has ls 5 [(0, .ref a0)]) : W p l e R s m args below meth c H locs 0 0 (MQ below (QV cA D Λ res) args s 0 0 (dm Λ)) (F0 m 54 ls [.int ls0, .ref as1]) := by
  have hx := X.1
  have hb := X.2.1
  have hown := X.2.2.2.2.1
  have hts := X.2.2.2.2.2.1
  unfold jp_X1_remember_54 at h
  refine rw_putI X hK hT hR hS 2 1 tyX1 ks1 (by decide) (C := RX1) (T := TX1) (N := 3) rfl (by decide) in_X1_remember_2 tyX1_ok nmX1 (by decide +kernel) rfl rfl (by decide +kernel) dX1_remember_54 (fun σ_7 H locs e_7 hR hS => ?_)
  have h := of_nm e_7 h
  refine lv_aload_n hx hb dX1_remember_57 rfl (lv_at hl 0 rfl) ?_
  refine lv_aload_n hx hb dX1_remember_58 rfl (lv_at hl 0 rfl) ?_
  refine rw_getI X hK hR 2 2 k0 (by decide) (C := RX1) (T := TX1) (N := 3) rfl (by decide) in_X1_remember_2 (by decide +kernel) rfl dX1_remember_59 ?_
  refine lv_iconst (v := (1 : Int32)) hx hb dX1_remember_62 (by decide) ?_
  refine lv_iadd hx hb dX1_remember_63 ?_
  refine lv_bipush (v := (10 : Int32)) hx hb dX1_remember_64 (by decide) ?_
  refine va_mmin hx hb (X.2.2.2.1.trans hl.1.symm) hown (hts (.methodLink RX1 41 Lib.Math.min.name) (by decide +kernel)) (hts (.static Lib.Math.min.name) (by decide +kernel)) (hts (.initialized "java/lang/Math") (by decide +kernel)) (hts (.code Lib.Math.min.name Lib.Math.min.code 2 (some .int)) (by decide +kernel)) (Nat.le_trans (by decide) hM.1) (Nat.le_trans (Nat.le_of_ble_eq_true rfl) hM.2) (Nat.zero_le _) (Nat.zero_le _) dX1_remember_66 ?_
  refine lv_topi (fun r_8 e_8 => ?_)
  have h := of_nm e_8 h
  refine rw_putI X hK hT hR hS 2 2 tyX1 k0 (by decide) (C := RX1) (T := TX1) (N := 3) rfl (by decide) in_X1_remember_2 tyX1_ok nmX1 (by decide +kernel) rfl rfl (by decide +kernel) dX1_remember_69 (fun σ_9 H locs e_9 hR hS => ?_)
  have h := of_nm e_9 h
  exact rt_v X hR hS (Option.some.inj h) dX1_remember_72

set_option maxHeartbeats 4000000 in
set_option maxRecDepth 100000 in
theorem w_X1_remember (X : Cx cX1_remember none 5 RX1 wsX1_remember p s m args meth c) (hK : Kn cA D s) (hT : TL Λ) (hM : 3 ≤ R.frames ∧ 67 ≤ R.locals) (a0 : Nat) (l1 : Int32) (a2 : Nat) (l3 : Int32) (k0 : isK Λ a0 2) (k2 : isK Λ a2 3) {res : Sto} (h : F_X1_remember Λ σ a0 l1 a2 l3 = some res) (H : Heap) (locs : List Loc) (ls : Array Slot) (hR : Rep cA D Λ σ H) (hS : va_S (dm Λ) s.heap H locs) (hl : lv_has ls 5 [(0, .ref a0), (1, .int l1), (2, .ref a2), (3, .int l3)]) : W p l e R s m args below meth c H locs 0 0 (MQ below (QV cA D Λ res) args s 0 0 (dm Λ)) (F0 m 0 ls []) := by
  have hx := X.1
  have hb := X.2.1
  have hown := X.2.2.2.2.1
  have hts := X.2.2.2.2.2.1
  unfold F_X1_remember at h
  refine lv_aload_n hx hb dX1_remember_0 rfl (lv_at hl 0 rfl) ?_
  refine rw_getR X hK hT hR 2 0 10 k0 (by decide) (C := RX1) (T := TX1) (N := 3) rfl (by decide) in_X1_remember_2 (by decide +kernel) rfl dX1_remember_1 (fun kf_1 => ?_)
  refine lv_aload_n hx hb dX1_remember_4 rfl (lv_at hl 0 rfl) ?_
  refine rw_getI X hK hR 2 1 k0 (by decide) (C := RX1) (T := TX1) (N := 3) rfl (by decide) in_X1_remember_2 (by decide +kernel) rfl dX1_remember_5 ?_
  obtain ⟨hg_2, h⟩ := of_guard h
  refine rw_aald10 X hK hT hR kf_1 hg_2 dX1_remember_8 (fun kf_2 => ?_)
  refine lv_astore (lv' := [(4, .ref (rfA Λ (rfA Λ a0 0) (σ.1 a0 1).toNatClampNeg)), (0, .ref a0), (1, .int l1), (2, .ref a2), (3, .int l3)]) hx hb dX1_remember_9 hl (by decide) rfl (fun ls hl => ?_)
  refine lv_aload hx hb dX1_remember_11 (lv_at hl 0 rfl) ?_
  refine lv_iload_n hx hb dX1_remember_13 rfl (lv_at hl 2 rfl) ?_
  refine rw_putI X hK hT hR hS 1 0 tyX0 kf_2 (by decide) (C := RX0) (T := TX0) (N := 3) rfl (by decide) in_X1_remember_1 tyX0_ok nmX0 (by decide +kernel) rfl rfl (by decide +kernel) dX1_remember_14 (fun σ_3 H locs e_3 hR hS => ?_)
  have h := of_nm e_3 h
  refine lv_aload hx hb dX1_remember_17 (lv_at hl 0 rfl) ?_
  refine lv_iload_n hx hb dX1_remember_19 rfl (lv_at hl 4 rfl) ?_
  refine rw_putI X hK hT hR hS 1 1 tyX0 kf_2 (by decide) (C := RX0) (T := TX0) (N := 3) rfl (by decide) in_X1_remember_1 tyX0_ok nmX0 (by decide +kernel) rfl rfl (by decide +kernel) dX1_remember_20 (fun σ_4 H locs e_4 hR hS => ?_)
  have h := of_nm e_4 h
  refine lv_aload hx hb dX1_remember_23 (lv_at hl 0 rfl) ?_
  refine rw_getR X hK hT hR 1 2 3 kf_2 (by decide) (C := RX0) (T := TX0) (N := 3) rfl (by decide) in_X1_remember_1 (by decide +kernel) rfl dX1_remember_25 (fun kf_5 => ?_)
  refine lv_aload_n hx hb dX1_remember_28 rfl (lv_at hl 3 rfl) ?_
  obtain ⟨q_6, hq_6, h⟩ := of_bind h
  refine cl_v (rn_V (As := [.ref a2]) (rest := []) X hK hR kf_5 rfl (by decide) hl.1 (c_X2_become l cA D Λ hT σ_4 (rfA Λ (rfA Λ (rfA Λ a0 0) (σ.1 a0 1).toNatClampNeg) 2) a2 kf_5 k2 hq_6) (cwV 1 hts gX1_remember_X2_become rfl rfl rfl (by decide +kernel) ⟨Nat.le_trans (by decide) hM.1, Nat.le_trans (by decide) hM.2⟩) rfl rfl (Nat.le_of_ble_eq_true rfl) dX1_remember_29) hS (fun H locs hR hS => ?_)
  refine lv_aload_n hx hb dX1_remember_32 rfl (lv_at hl 1 rfl) ?_
  refine lv_aload_n hx hb dX1_remember_33 rfl (lv_at hl 1 rfl) ?_
  refine rw_getI X hK hR 2 1 k0 (by decide) (C := RX1) (T := TX1) (N := 3) rfl (by decide) in_X1_remember_2 (by decide +kernel) rfl dX1_remember_34 ?_
  refine lv_iconst (v := (1 : Int32)) hx hb dX1_remember_37 (by decide) ?_
  refine lv_iadd hx hb dX1_remember_38 ?_
  refine lv_bipush (v := (10 : Int32)) hx hb dX1_remember_39 (by decide) ?_
  refine lv_icmp_ge (tgt := 53) hx hb dX1_remember_41 (by decide) (fun hc => ?_) (fun hc => ?_)
  · have h := of_pos hc h
    refine lv_iconst (v := (0 : Int32)) hx hb dX1_remember_53 (by decide) ?_
    exact w_jp_X1_remember_54 X hK hT hM a0 (0 : Int32) a0 k0 k0 h H locs ls hR hS (lv_sub hl [1] rfl)
  · have h := of_neg hc h
    refine lv_aload_n hx hb dX1_remember_44 rfl (lv_at hl 1 rfl) ?_
    refine rw_getI X hK hR 2 1 k0 (by decide) (C := RX1) (T := TX1) (N := 3) rfl (by decide) in_X1_remember_2 (by decide +kernel) rfl dX1_remember_45 ?_
    refine lv_iconst (v := (1 : Int32)) hx hb dX1_remember_48 (by decide) ?_
    refine lv_iadd hx hb dX1_remember_49 ?_
    refine lv_goto (tgt := 54) hx hb dX1_remember_50 (by decide) ?_
    exact w_jp_X1_remember_54 X hK hT hM a0 ((q_6.1 a0 1) + (1 : Int32)) a0 k0 k0 h H locs ls hR hS (lv_sub hl [1] rfl)

set_option maxHeartbeats 4000000 in
set_option maxRecDepth 100000 in
theorem c_X1_remember (l : Launch) (cA : Nat → ClassId) (D : va_G) (Λ : Lay) (hT : TL Λ) (σ : Sto) (a0 : Nat) (l1 : Int32) (a2 : Nat) (l3 : Int32) (k0 : isK Λ a0 2) (k2 : isK Λ a2 3) {res : Sto} (h : F_X1_remember Λ σ a0 l1 a2 l3 = some res) : Met l yX1_remember wsX1_remember { frames := 3, cells := 0, slots := 0, locals := 67 } (va_Pc [.ref a0, .int l1, .ref a2, .int l3] (PW cA D Λ σ)) (QV cA D Λ res) 0 0 (dm Λ) := by
  refine Met.ofW (cc := cX1_remember) (maxL := 5) (ret := none) (by decide) rfl ?_
  intro p e s m args below meth c s₁ B hml hv
  obtain ⟨rfl, hR, hK⟩ := hv
  have X : Cx cX1_remember none 5 RX1 wsX1_remember p s m _ meth c := ⟨B.exec, B.bytes, B.returns, hml, findClass_of_methodNamed B.named, atoms_spec (ws := wsX1_remember) B.pre, B.notSynchronized⟩
  have hS : va_S (dm Λ) s.heap s.heap [] := va_S.rf
  have hl := lv_entry ([.ref a0, .int l1, .ref a2, .int l3]) (n := 5) (Nat.le_of_ble_eq_true rfl)
  rw [lg_entry_eq]
  generalize (lg_sl ([.ref a0, .int l1, .ref a2, .int l3]) ++ List.replicate (5 - (lg_sl ([.ref a0, .int l1, .ref a2, .int l3])).length) Slot.unset).toArray = ls at hl ⊢
  have hl : lv_has ls 5 [(0, .ref a0), (1, .int l1), (2, .ref a2), (3, .int l3)] := hl
  exact w_X1_remember X hK hT ⟨Nat.le_refl _, Nat.le_refl _⟩ a0 l1 a2 l3 k0 k2 h s.heap [] ls hR hS hl
theorem in_X1_takeLatest_2 : ∀ w ∈ u_ws RX1 TX1 3, w ∈ wsX1_takeLatest := by decide +kernel
set_option maxHeartbeats 4000000 in
set_option maxRecDepth 100000 in
theorem w_jp_X1_takeLatest_38 (X : Cx cX1_takeLatest (some (.object "StraightPages$Change")) 1 RX1 wsX1_takeLatest p s m args meth c) (hK : Kn cA D s) (hT : TL Λ) (hM : 0 ≤ R.frames ∧ 0 ≤ R.locals) (a0 : Nat) (ls0 : Int32) (as1 : Nat) (k0 : isK Λ a0 2) (ks1 : isK Λ as1 2) {res : Option Nat × Sto} (h : jp_X1_takeLatest_38 Λ σ a0 ls0 as1 = some res) (H : Heap) (locs : List Loc) (ls : Array Slot) (hR : Rep cA D Λ σ H) (hS : va_S (dm Λ) s.heap H locs) (hl : lv_has ls 1 [(0, .ref a0)]) : W p l e R s m args below meth c H locs 0 0 (MQ below (QQ 1 cA D Λ res) args s 0 0 (dm Λ)) (F0 m 38 ls [.int ls0, .ref as1]) := by
  have hx := X.1
  have hb := X.2.1
  have hown := X.2.2.2.2.1
  have hts := X.2.2.2.2.2.1
  unfold jp_X1_takeLatest_38 at h
  refine rw_putI X hK hT hR hS 2 1 tyX1 ks1 (by decide) (C := RX1) (T := TX1) (N := 3) rfl (by decide) in_X1_takeLatest_2 tyX1_ok nmX1 (by decide +kernel) rfl rfl (by decide +kernel) dX1_takeLatest_38 (fun σ_2 H locs e_2 hR hS => ?_)
  have h := of_nm e_2 h
  refine lv_aload_n hx hb dX1_takeLatest_41 rfl (lv_at hl 0 rfl) ?_
  refine rw_getR X hK hT hR 2 0 10 k0 (by decide) (C := RX1) (T := TX1) (N := 3) rfl (by decide) in_X1_takeLatest_2 (by decide +kernel) rfl dX1_takeLatest_42 (fun kf_3 => ?_)
  refine lv_aload_n hx hb dX1_takeLatest_45 rfl (lv_at hl 0 rfl) ?_
  refine rw_getI X hK hR 2 1 k0 (by decide) (C := RX1) (T := TX1) (N := 3) rfl (by decide) in_X1_takeLatest_2 (by decide +kernel) rfl dX1_takeLatest_46 ?_
  obtain ⟨hg_4, h⟩ := of_guard h
  refine rw_aald10 X hK hT hR kf_3 hg_4 dX1_takeLatest_49 (fun kf_4 => ?_)
  exact rt_q (v := (some (rfA Λ (rfA Λ a0 0) (σ_2.1 a0 1).toNatClampNeg))) X hR hS (Option.some.inj h) (fun _ q => by cases q; exact kf_4) dX1_takeLatest_50

set_option maxHeartbeats 4000000 in
set_option maxRecDepth 100000 in
theorem w_X1_takeLatest (X : Cx cX1_takeLatest (some (.object "StraightPages$Change")) 1 RX1 wsX1_takeLatest p s m args meth c) (hK : Kn cA D s) (hT : TL Λ) (hM : 0 ≤ R.frames ∧ 0 ≤ R.locals) (a0 : Nat) (k0 : isK Λ a0 2) {res : Option Nat × Sto} (h : F_X1_takeLatest Λ σ a0 = some res) (H : Heap) (locs : List Loc) (ls : Array Slot) (hR : Rep cA D Λ σ H) (hS : va_S (dm Λ) s.heap H locs) (hl : lv_has ls 1 [(0, .ref a0)]) : W p l e R s m args below meth c H locs 0 0 (MQ below (QQ 1 cA D Λ res) args s 0 0 (dm Λ)) (F0 m 0 ls []) := by
  have hx := X.1
  have hb := X.2.1
  have hown := X.2.2.2.2.1
  have hts := X.2.2.2.2.2.1
  unfold F_X1_takeLatest at h
  refine lv_aload_n hx hb dX1_takeLatest_0 rfl (lv_at hl 0 rfl) ?_
  refine rw_getI X hK hR 2 2 k0 (by decide) (C := RX1) (T := TX1) (N := 3) rfl (by decide) in_X1_takeLatest_2 (by decide +kernel) rfl dX1_takeLatest_1 ?_
  refine lv_if_ne (tgt := 9) hx hb dX1_takeLatest_4 (by decide) (fun hc => ?_) (fun hc => ?_)
  · have h := of_neg hc h
    refine lv_aload_n hx hb dX1_takeLatest_9 rfl (lv_at hl 0 rfl) ?_
    refine lv_dup hx hb dX1_takeLatest_10 rfl ?_
    refine rw_getI X hK hR 2 2 k0 (by decide) (C := RX1) (T := TX1) (N := 3) rfl (by decide) in_X1_takeLatest_2 (by decide +kernel) rfl dX1_takeLatest_11 ?_
    refine lv_iconst (v := (1 : Int32)) hx hb dX1_takeLatest_14 (by decide) ?_
    refine lv_isub hx hb dX1_takeLatest_15 ?_
    refine rw_putI X hK hT hR hS 2 2 tyX1 k0 (by decide) (C := RX1) (T := TX1) (N := 3) rfl (by decide) in_X1_takeLatest_2 tyX1_ok nmX1 (by decide +kernel) rfl rfl (by decide +kernel) dX1_takeLatest_16 (fun σ_1 H locs e_1 hR hS => ?_)
    have h := of_nm e_1 h
    refine lv_aload_n hx hb dX1_takeLatest_19 rfl (lv_at hl 0 rfl) ?_
    refine lv_aload_n hx hb dX1_takeLatest_20 rfl (lv_at hl 0 rfl) ?_
    refine rw_getI X hK hR 2 1 k0 (by decide) (C := RX1) (T := TX1) (N := 3) rfl (by decide) in_X1_takeLatest_2 (by decide +kernel) rfl dX1_takeLatest_21 ?_
    refine lv_if_le (tgt := 36) hx hb dX1_takeLatest_24 (by decide) (fun hc => ?_) (fun hc => ?_)
    · have h := of_pos hc h
      refine lv_bipush (v := (9 : Int32)) hx hb dX1_takeLatest_36 (by decide) ?_
      exact w_jp_X1_takeLatest_38 X hK hT hM a0 (9 : Int32) a0 k0 k0 h H locs ls hR hS (lv_sub hl [0] rfl)
    · have h := of_neg hc h
      refine lv_aload_n hx hb dX1_takeLatest_27 rfl (lv_at hl 0 rfl) ?_
      refine rw_getI X hK hR 2 1 k0 (by decide) (C := RX1) (T := TX1) (N := 3) rfl (by decide) in_X1_takeLatest_2 (by decide +kernel) rfl dX1_takeLatest_28 ?_
      refine lv_iconst (v := (1 : Int32)) hx hb dX1_takeLatest_31 (by decide) ?_
      refine lv_isub hx hb dX1_takeLatest_32 ?_
      refine lv_goto (tgt := 38) hx hb dX1_takeLatest_33 (by decide) ?_
      exact w_jp_X1_takeLatest_38 X hK hT hM a0 ((σ_1.1 a0 1) - (1 : Int32)) a0 k0 k0 h H locs ls hR hS (lv_sub hl [0] rfl)
  · have h := of_pos hc h
    refine lv_null hx hb dX1_takeLatest_7 ?_
    exact rt_q (v := none) X hR hS (Option.some.inj h) (fun _ q => by cases q) dX1_takeLatest_8

set_option maxHeartbeats 4000000 in
set_option maxRecDepth 100000 in
theorem c_X1_takeLatest (l : Launch) (cA : Nat → ClassId) (D : va_G) (Λ : Lay) (hT : TL Λ) (σ : Sto) (a0 : Nat) (k0 : isK Λ a0 2) {res : Option Nat × Sto} (h : F_X1_takeLatest Λ σ a0 = some res) : Met l yX1_takeLatest wsX1_takeLatest { frames := 0, cells := 0, slots := 0, locals := 0 } (va_Pc [.ref a0] (PW cA D Λ σ)) (QQ 1 cA D Λ res) 0 0 (dm Λ) := by
  refine Met.ofW (cc := cX1_takeLatest) (maxL := 1) (ret := (some (.object "StraightPages$Change"))) (by decide) rfl ?_
  intro p e s m args below meth c s₁ B hml hv
  obtain ⟨rfl, hR, hK⟩ := hv
  have X : Cx cX1_takeLatest (some (.object "StraightPages$Change")) 1 RX1 wsX1_takeLatest p s m _ meth c := ⟨B.exec, B.bytes, B.returns, hml, findClass_of_methodNamed B.named, atoms_spec (ws := wsX1_takeLatest) B.pre, B.notSynchronized⟩
  have hS : va_S (dm Λ) s.heap s.heap [] := va_S.rf
  have hl := lv_entry ([.ref a0]) (n := 1) (Nat.le_of_ble_eq_true rfl)
  rw [lg_entry_eq]
  generalize (lg_sl ([.ref a0]) ++ List.replicate (1 - (lg_sl ([.ref a0])).length) Slot.unset).toArray = ls at hl ⊢
  have hl : lv_has ls 1 [(0, .ref a0)] := hl
  exact w_X1_takeLatest X hK hT ⟨Nat.le_refl _, Nat.le_refl _⟩ a0 k0 h s.heap [] ls hR hS hl
theorem in_X1_forget_2 : ∀ w ∈ u_ws RX1 TX1 3, w ∈ wsX1_forget := by decide +kernel
set_option maxHeartbeats 4000000 in
set_option maxRecDepth 100000 in
theorem w_X1_forget (X : Cx cX1_forget none 1 RX1 wsX1_forget p s m args meth c) (hK : Kn cA D s) (hT : TL Λ) (hM : 0 ≤ R.frames ∧ 0 ≤ R.locals) (a0 : Nat) (k0 : isK Λ a0 2) {res : Sto} (h : F_X1_forget Λ σ a0 = res) (H : Heap) (locs : List Loc) (ls : Array Slot) (hR : Rep cA D Λ σ H) (hS : va_S (dm Λ) s.heap H locs) (hl : lv_has ls 1 [(0, .ref a0)]) : W p l e R s m args below meth c H locs 0 0 (MQ below (QV cA D Λ res) args s 0 0 (dm Λ)) (F0 m 0 ls []) := by
  have hx := X.1
  have hb := X.2.1
  have hown := X.2.2.2.2.1
  have hts := X.2.2.2.2.2.1
  unfold F_X1_forget at h
  refine lv_aload_n hx hb dX1_forget_0 rfl (lv_at hl 0 rfl) ?_
  refine lv_iconst (v := (0 : Int32)) hx hb dX1_forget_1 (by decide) ?_
  refine rw_putI X hK hT hR hS 2 2 tyX1 k0 (by decide) (C := RX1) (T := TX1) (N := 3) rfl (by decide) in_X1_forget_2 tyX1_ok nmX1 (by decide +kernel) rfl rfl (by decide +kernel) dX1_forget_2 (fun σ_1 H locs e_1 hR hS => ?_)
  have h := of_nm e_1 h
  exact rt_v X hR hS h dX1_forget_5

set_option maxHeartbeats 4000000 in
set_option maxRecDepth 100000 in
theorem c_X1_forget (l : Launch) (cA : Nat → ClassId) (D : va_G) (Λ : Lay) (hT : TL Λ) (σ : Sto) (a0 : Nat) (k0 : isK Λ a0 2) : Met l yX1_forget wsX1_forget { frames := 0, cells := 0, slots := 0, locals := 0 } (va_Pc [.ref a0] (PW cA D Λ σ)) (QV cA D Λ (F_X1_forget Λ σ a0)) 0 0 (dm Λ) := by
  refine Met.ofW (cc := cX1_forget) (maxL := 1) (ret := none) (by decide) rfl ?_
  intro p e s m args below meth c s₁ B hml hv
  obtain ⟨rfl, hR, hK⟩ := hv
  have X : Cx cX1_forget none 1 RX1 wsX1_forget p s m _ meth c := ⟨B.exec, B.bytes, B.returns, hml, findClass_of_methodNamed B.named, atoms_spec (ws := wsX1_forget) B.pre, B.notSynchronized⟩
  have hS : va_S (dm Λ) s.heap s.heap [] := va_S.rf
  have hl := lv_entry ([.ref a0]) (n := 1) (Nat.le_of_ble_eq_true rfl)
  rw [lg_entry_eq]
  generalize (lg_sl ([.ref a0]) ++ List.replicate (1 - (lg_sl ([.ref a0])).length) Slot.unset).toArray = ls at hl ⊢
  have hl : lv_has ls 1 [(0, .ref a0)] := hl
  exact w_X1_forget X hK hT ⟨Nat.le_refl _, Nat.le_refl _⟩ a0 k0 rfl s.heap [] ls hR hS hl
theorem in_X2_hasRow_3 : ∀ w ∈ u_ws RX2 TX2 3, w ∈ wsX2_hasRow := by decide +kernel
set_option maxHeartbeats 4000000 in
set_option maxRecDepth 100000 in
theorem w_X2_hasRow (X : Cx cX2_hasRow (some .boolean) 2 RX2 wsX2_hasRow p s m args meth c) (hK : Kn cA D s) (hT : TL Λ) (hM : 0 ≤ R.frames ∧ 0 ≤ R.locals) (a0 : Nat) (l1 : Int32) (k0 : isK Λ a0 3) {res : Int32} (h : F_X2_hasRow Λ σ a0 l1 = res) (H : Heap) (locs : List Loc) (ls : Array Slot) (hR : Rep cA D Λ σ H) (hS : va_S (dm Λ) s.heap H locs) (hl : lv_has ls 2 [(0, .ref a0), (1, .int l1)]) : W p l e R s m args below meth c H locs 0 0 (MQ below (QZ cA D Λ (res, σ)) args s 0 0 (dm Λ)) (F0 m 0 ls []) := by
  have hx := X.1
  have hb := X.2.1
  have hown := X.2.2.2.2.1
  have hts := X.2.2.2.2.2.1
  unfold F_X2_hasRow at h
  refine lv_iload_n hx hb dX2_hasRow_0 rfl (lv_at hl 1 rfl) ?_
  refine lv_if_lt (tgt := 16) hx hb dX2_hasRow_1 (by decide) (fun hc => ?_) (fun hc => ?_)
  · have h := of_pos hc h
    refine lv_iconst (v := (0 : Int32)) hx hb dX2_hasRow_16 (by decide) ?_
    exact rt_z X hR hS (congrArg (fun z => (z, σ)) h) (Or.inl rfl) dX2_hasRow_17
  · have h := of_neg hc h
    refine lv_iload_n hx hb dX2_hasRow_4 rfl (lv_at hl 1 rfl) ?_
    refine lv_aload_n hx hb dX2_hasRow_5 rfl (lv_at hl 0 rfl) ?_
    refine rw_getI X hK hR 3 1 k0 (by decide) (C := RX2) (T := TX2) (N := 3) rfl (by decide) in_X2_hasRow_3 (by decide +kernel) rfl dX2_hasRow_6 ?_
    refine lv_icmp_ge (tgt := 16) hx hb dX2_hasRow_9 (by decide) (fun hc => ?_) (fun hc => ?_)
    · have h := of_pos hc h
      refine lv_iconst (v := (0 : Int32)) hx hb dX2_hasRow_16 (by decide) ?_
      exact rt_z X hR hS (congrArg (fun z => (z, σ)) h) (Or.inl rfl) dX2_hasRow_17
    · have h := of_neg hc h
      refine lv_iconst (v := (1 : Int32)) hx hb dX2_hasRow_12 (by decide) ?_
      refine lv_goto (tgt := 17) hx hb dX2_hasRow_13 (by decide) ?_
      exact rt_z X hR hS (congrArg (fun z => (z, σ)) h) (Or.inr rfl) dX2_hasRow_17

set_option maxHeartbeats 4000000 in
set_option maxRecDepth 100000 in
theorem c_X2_hasRow (l : Launch) (cA : Nat → ClassId) (D : va_G) (Λ : Lay) (hT : TL Λ) (σ : Sto) (a0 : Nat) (l1 : Int32) (k0 : isK Λ a0 3) : Met l yX2_hasRow wsX2_hasRow { frames := 0, cells := 0, slots := 0, locals := 0 } (va_Pc [.ref a0, .int l1] (PW cA D Λ σ)) (QZ cA D Λ ((F_X2_hasRow Λ σ a0 l1), σ)) 0 0 (dm Λ) := by
  refine Met.ofW (cc := cX2_hasRow) (maxL := 2) (ret := (some .boolean)) (by decide) rfl ?_
  intro p e s m args below meth c s₁ B hml hv
  obtain ⟨rfl, hR, hK⟩ := hv
  have X : Cx cX2_hasRow (some .boolean) 2 RX2 wsX2_hasRow p s m _ meth c := ⟨B.exec, B.bytes, B.returns, hml, findClass_of_methodNamed B.named, atoms_spec (ws := wsX2_hasRow) B.pre, B.notSynchronized⟩
  have hS : va_S (dm Λ) s.heap s.heap [] := va_S.rf
  have hl := lv_entry ([.ref a0, .int l1]) (n := 2) (Nat.le_of_ble_eq_true rfl)
  rw [lg_entry_eq]
  generalize (lg_sl ([.ref a0, .int l1]) ++ List.replicate (2 - (lg_sl ([.ref a0, .int l1])).length) Slot.unset).toArray = ls at hl ⊢
  have hl : lv_has ls 2 [(0, .ref a0), (1, .int l1)] := hl
  exact w_X2_hasRow X hK hT ⟨Nat.le_refl _, Nat.le_refl _⟩ a0 l1 k0 rfl s.heap [] ls hR hS hl
set_option maxHeartbeats 4000000 in
set_option maxRecDepth 100000 in
theorem w_X4_within (X : Cx cX4_within (some .boolean) 3 RX4 wsX4_within p s m args meth c) (hK : Kn cA D s) (hT : TL Λ) (hM : 0 ≤ R.frames ∧ 0 ≤ R.locals) (l0 : Int32) (l1 : Int32) (l2 : Int32) {res : Int32} (h : F_X4_within l0 l1 l2 = res) (H : Heap) (locs : List Loc) (ls : Array Slot) (hR : Rep cA D Λ σ H) (hS : va_S (dm Λ) s.heap H locs) (hl : lv_has ls 3 [(0, .int l0), (1, .int l1), (2, .int l2)]) : W p l e R s m args below meth c H locs 0 0 (MQ below (QZ cA D Λ (res, σ)) args s 0 0 (dm Λ)) (F0 m 0 ls []) := by
  have hx := X.1
  have hb := X.2.1
  have hown := X.2.2.2.2.1
  have hts := X.2.2.2.2.2.1
  unfold F_X4_within at h
  refine lv_iload_n hx hb dX4_within_0 rfl (lv_at hl 0 rfl) ?_
  refine lv_iload_n hx hb dX4_within_1 rfl (lv_at hl 1 rfl) ?_
  refine lv_icmp_lt (tgt := 14) hx hb dX4_within_2 (by decide) (fun hc => ?_) (fun hc => ?_)
  · have h := of_pos hc h
    refine lv_iconst (v := (0 : Int32)) hx hb dX4_within_14 (by decide) ?_
    exact rt_z X hR hS (congrArg (fun z => (z, σ)) h) (Or.inl rfl) dX4_within_15
  · have h := of_neg hc h
    refine lv_iload_n hx hb dX4_within_5 rfl (lv_at hl 0 rfl) ?_
    refine lv_iload_n hx hb dX4_within_6 rfl (lv_at hl 2 rfl) ?_
    refine lv_icmp_gt (tgt := 14) hx hb dX4_within_7 (by decide) (fun hc => ?_) (fun hc => ?_)
    · have h := of_pos hc h
      refine lv_iconst (v := (0 : Int32)) hx hb dX4_within_14 (by decide) ?_
      exact rt_z X hR hS (congrArg (fun z => (z, σ)) h) (Or.inl rfl) dX4_within_15
    · have h := of_neg hc h
      refine lv_iconst (v := (1 : Int32)) hx hb dX4_within_10 (by decide) ?_
      refine lv_goto (tgt := 15) hx hb dX4_within_11 (by decide) ?_
      exact rt_z X hR hS (congrArg (fun z => (z, σ)) h) (Or.inr rfl) dX4_within_15

set_option maxHeartbeats 4000000 in
set_option maxRecDepth 100000 in
theorem c_X4_within (l : Launch) (cA : Nat → ClassId) (D : va_G) (Λ : Lay) (hT : TL Λ) (σ : Sto) (l0 : Int32) (l1 : Int32) (l2 : Int32) : Met l yX4_within wsX4_within { frames := 0, cells := 0, slots := 0, locals := 0 } (va_Pc [.int l0, .int l1, .int l2] (PW cA D Λ σ)) (QZ cA D Λ ((F_X4_within l0 l1 l2), σ)) 0 0 (dm Λ) := by
  refine Met.ofW (cc := cX4_within) (maxL := 3) (ret := (some .boolean)) (by decide) rfl ?_
  intro p e s m args below meth c s₁ B hml hv
  obtain ⟨rfl, hR, hK⟩ := hv
  have X : Cx cX4_within (some .boolean) 3 RX4 wsX4_within p s m _ meth c := ⟨B.exec, B.bytes, B.returns, hml, findClass_of_methodNamed B.named, atoms_spec (ws := wsX4_within) B.pre, B.notSynchronized⟩
  have hS : va_S (dm Λ) s.heap s.heap [] := va_S.rf
  have hl := lv_entry ([.int l0, .int l1, .int l2]) (n := 3) (Nat.le_of_ble_eq_true rfl)
  rw [lg_entry_eq]
  generalize (lg_sl ([.int l0, .int l1, .int l2]) ++ List.replicate (3 - (lg_sl ([.int l0, .int l1, .int l2])).length) Slot.unset).toArray = ls at hl ⊢
  have hl : lv_has ls 3 [(0, .int l0), (1, .int l1), (2, .int l2)] := hl
  exact w_X4_within X hK hT ⟨Nat.le_refl _, Nat.le_refl _⟩ l0 l1 l2 rfl s.heap [] ls hR hS hl
theorem in_X2_hasPoint_3 : ∀ w ∈ u_ws RX2 TX2 3, w ∈ wsX2_hasPoint := by decide +kernel
set_option maxHeartbeats 4000000 in
set_option maxRecDepth 100000 in
theorem w_X2_hasPoint (X : Cx cX2_hasPoint (some .boolean) 3 RX2 wsX2_hasPoint p s m args meth c) (hK : Kn cA D s) (hT : TL Λ) (hM : 1 ≤ R.frames ∧ 22 ≤ R.locals) (a0 : Nat) (l1 : Int32) (l2 : Int32) (k0 : isK Λ a0 3) {res : Int32} (h : F_X2_hasPoint Λ σ a0 l1 l2 = res) (H : Heap) (locs : List Loc) (ls : Array Slot) (hR : Rep cA D Λ σ H) (hS : va_S (dm Λ) s.heap H locs) (hl : lv_has ls 3 [(0, .ref a0), (1, .int l1), (2, .int l2)]) : W p l e R s m args below meth c H locs 0 0 (MQ below (QZ cA D Λ (res, σ)) args s 0 0 (dm Λ)) (F0 m 0 ls []) := by
  have hx := X.1
  have hb := X.2.1
  have hown := X.2.2.2.2.1
  have hts := X.2.2.2.2.2.1
  unfold F_X2_hasPoint at h
  refine lv_iload_n hx hb dX2_hasPoint_0 rfl (lv_at hl 1 rfl) ?_
  refine lv_iconst (v := (0 : Int32)) hx hb dX2_hasPoint_1 (by decide) ?_
  refine lv_aload_n hx hb dX2_hasPoint_2 rfl (lv_at hl 0 rfl) ?_
  refine rw_getI X hK hR 3 0 k0 (by decide) (C := RX2) (T := TX2) (N := 3) rfl (by decide) in_X2_hasPoint_3 (by decide +kernel) rfl dX2_hasPoint_3 ?_
  refine lv_iconst (v := (1 : Int32)) hx hb dX2_hasPoint_6 (by decide) ?_
  refine lv_isub hx hb dX2_hasPoint_7 ?_
  refine cl_z (rn_SN (As := [.int l1, .int (0 : Int32), .int ((σ.1 a0 0) - (1 : Int32))]) (rest := []) X hK hR hl.1 (c_X4_within l cA D Λ hT σ l1 (0 : Int32) ((σ.1 a0 0) - (1 : Int32))) ⟨va_cnB 3 hts gX2_hasPoint_X4_within_n38 rfl rfl rfl (hK.2 (.methodLinkNest RX2 38 yX4_within RX4) (by decide +kernel)) (hts (.initialized RX4) (by decide +kernel)) (by decide +kernel) ⟨Nat.le_trans (by decide) hM.1, Nat.le_trans (by decide) hM.2⟩, hts (.static yX4_within) (by decide +kernel), trivial⟩ rfl rfl (Nat.le_of_ble_eq_true rfl) dX2_hasPoint_8) hS (fun hz_1 H locs hR hS => ?_)
  refine lv_topi (fun r_1 e_1 => ?_)
  have h := of_nm e_1 h
  have hz_1 : r_1 = 0 ∨ r_1 = 1 := by rw [e_1]; exact hz_1
  refine lv_if_eq (tgt := 26) hx hb dX2_hasPoint_11 (by decide) (fun hc => ?_) (fun hc => ?_)
  · have h := of_pos hc h
    refine lv_iconst (v := (0 : Int32)) hx hb dX2_hasPoint_26 (by decide) ?_
    exact rt_z X hR hS (congrArg (fun z => (z, σ)) h) (Or.inl rfl) dX2_hasPoint_27
  · have h := of_neg hc h
    refine lv_aload_n hx hb dX2_hasPoint_14 rfl (lv_at hl 0 rfl) ?_
    refine lv_iload_n hx hb dX2_hasPoint_15 rfl (lv_at hl 2 rfl) ?_
    refine cl_z (rn_V (As := [.int l2]) (rest := []) X hK hR k0 rfl (by decide) hl.1 (c_X2_hasRow l cA D Λ hT σ a0 l2 k0) (cwV 1 hts gX2_hasPoint_X2_hasRow rfl rfl rfl (by decide +kernel) ⟨Nat.le_trans (by decide) hM.1, Nat.le_trans (by decide) hM.2⟩) rfl rfl (Nat.le_of_ble_eq_true rfl) dX2_hasPoint_16) hS (fun hz_2 H locs hR hS => ?_)
    refine lv_topi (fun r_2 e_2 => ?_)
    have h := of_nm e_2 h
    have hz_2 : r_2 = 0 ∨ r_2 = 1 := by rw [e_2]; exact hz_2
    refine lv_if_eq (tgt := 26) hx hb dX2_hasPoint_19 (by decide) (fun hc => ?_) (fun hc => ?_)
    · have h := of_pos hc h
      refine lv_iconst (v := (0 : Int32)) hx hb dX2_hasPoint_26 (by decide) ?_
      exact rt_z X hR hS (congrArg (fun z => (z, σ)) h) (Or.inl rfl) dX2_hasPoint_27
    · have h := of_neg hc h
      refine lv_iconst (v := (1 : Int32)) hx hb dX2_hasPoint_22 (by decide) ?_
      refine lv_goto (tgt := 27) hx hb dX2_hasPoint_23 (by decide) ?_
      exact rt_z X hR hS (congrArg (fun z => (z, σ)) h) (Or.inr rfl) dX2_hasPoint_27

set_option maxHeartbeats 4000000 in
set_option maxRecDepth 100000 in
theorem c_X2_hasPoint (l : Launch) (cA : Nat → ClassId) (D : va_G) (Λ : Lay) (hT : TL Λ) (σ : Sto) (a0 : Nat) (l1 : Int32) (l2 : Int32) (k0 : isK Λ a0 3) : Met l yX2_hasPoint wsX2_hasPoint { frames := 1, cells := 0, slots := 0, locals := 22 } (va_Pc [.ref a0, .int l1, .int l2] (PW cA D Λ σ)) (QZ cA D Λ ((F_X2_hasPoint Λ σ a0 l1 l2), σ)) 0 0 (dm Λ) := by
  refine Met.ofW (cc := cX2_hasPoint) (maxL := 3) (ret := (some .boolean)) (by decide) rfl ?_
  intro p e s m args below meth c s₁ B hml hv
  obtain ⟨rfl, hR, hK⟩ := hv
  have X : Cx cX2_hasPoint (some .boolean) 3 RX2 wsX2_hasPoint p s m _ meth c := ⟨B.exec, B.bytes, B.returns, hml, findClass_of_methodNamed B.named, atoms_spec (ws := wsX2_hasPoint) B.pre, B.notSynchronized⟩
  have hS : va_S (dm Λ) s.heap s.heap [] := va_S.rf
  have hl := lv_entry ([.ref a0, .int l1, .int l2]) (n := 3) (Nat.le_of_ble_eq_true rfl)
  rw [lg_entry_eq]
  generalize (lg_sl ([.ref a0, .int l1, .int l2]) ++ List.replicate (3 - (lg_sl ([.ref a0, .int l1, .int l2])).length) Slot.unset).toArray = ls at hl ⊢
  have hl : lv_has ls 3 [(0, .ref a0), (1, .int l1), (2, .int l2)] := hl
  exact w_X2_hasPoint X hK hT ⟨Nat.le_refl _, Nat.le_refl _⟩ a0 l1 l2 k0 rfl s.heap [] ls hR hS hl
theorem in_X2_allColumns_3 : ∀ w ∈ u_ws RX2 TX2 3, w ∈ wsX2_allColumns := by decide +kernel
set_option maxHeartbeats 4000000 in
set_option maxRecDepth 100000 in
theorem w_X2_allColumns (X : Cx cX2_allColumns (some .long) 1 RX2 wsX2_allColumns p s m args meth c) (hK : Kn cA D s) (hT : TL Λ) (hM : 0 ≤ R.frames ∧ 0 ≤ R.locals) (a0 : Nat) (k0 : isK Λ a0 3) {res : Int64} (h : F_X2_allColumns Λ σ a0 = res) (H : Heap) (locs : List Loc) (ls : Array Slot) (hR : Rep cA D Λ σ H) (hS : va_S (dm Λ) s.heap H locs) (hl : lv_has ls 1 [(0, .ref a0)]) : W p l e R s m args below meth c H locs 0 0 (MQ below (QL cA D Λ (res, σ)) args s 0 0 (dm Λ)) (F0 m 0 ls []) := by
  have hx := X.1
  have hb := X.2.1
  have hown := X.2.2.2.2.1
  have hts := X.2.2.2.2.2.1
  unfold F_X2_allColumns at h
  refine lv_aload_n hx hb dX2_allColumns_0 rfl (lv_at hl 0 rfl) ?_
  refine rw_getI X hK hR 3 0 k0 (by decide) (C := RX2) (T := TX2) (N := 3) rfl (by decide) in_X2_allColumns_3 (by decide +kernel) rfl dX2_allColumns_1 ?_
  refine lv_bipush (v := (64 : Int32)) hx hb dX2_allColumns_4 (by decide) ?_
  refine lv_icmp_lt (tgt := 15) hx hb dX2_allColumns_6 (by decide) (fun hc => ?_) (fun hc => ?_)
  · have h := of_pos hc h
    refine lv_lconst (v := (1 : Int64)) hx hb dX2_allColumns_15 (by decide) ?_
    refine lv_aload_n hx hb dX2_allColumns_16 rfl (lv_at hl 0 rfl) ?_
    refine rw_getI X hK hR 3 0 k0 (by decide) (C := RX2) (T := TX2) (N := 3) rfl (by decide) in_X2_allColumns_3 (by decide +kernel) rfl dX2_allColumns_17 ?_
    refine lv_lshl (v := (shlL (1 : Int64) (σ.1 a0 0))) hx hb dX2_allColumns_20 rfl ?_
    refine lv_lconst (v := (1 : Int64)) hx hb dX2_allColumns_21 (by decide) ?_
    refine lv_lsub hx hb dX2_allColumns_22 ?_
    exact rt_l X hR hS (congrArg (fun z => (z, σ)) h) dX2_allColumns_23
  · have h := of_neg hc h
    refine lv_ldc2 (v := (-1 : Int64)) hx hb hown (hts (.constantLong RX2 46 (-1)) (by decide +kernel)) dX2_allColumns_9 ?_
    refine lv_goto (tgt := 23) hx hb dX2_allColumns_12 (by decide) ?_
    exact rt_l X hR hS (congrArg (fun z => (z, σ)) h) dX2_allColumns_23

set_option maxHeartbeats 4000000 in
set_option maxRecDepth 100000 in
theorem c_X2_allColumns (l : Launch) (cA : Nat → ClassId) (D : va_G) (Λ : Lay) (hT : TL Λ) (σ : Sto) (a0 : Nat) (k0 : isK Λ a0 3) : Met l yX2_allColumns wsX2_allColumns { frames := 0, cells := 0, slots := 0, locals := 0 } (va_Pc [.ref a0] (PW cA D Λ σ)) (QL cA D Λ ((F_X2_allColumns Λ σ a0), σ)) 0 0 (dm Λ) := by
  refine Met.ofW (cc := cX2_allColumns) (maxL := 1) (ret := (some .long)) (by decide) rfl ?_
  intro p e s m args below meth c s₁ B hml hv
  obtain ⟨rfl, hR, hK⟩ := hv
  have X : Cx cX2_allColumns (some .long) 1 RX2 wsX2_allColumns p s m _ meth c := ⟨B.exec, B.bytes, B.returns, hml, findClass_of_methodNamed B.named, atoms_spec (ws := wsX2_allColumns) B.pre, B.notSynchronized⟩
  have hS : va_S (dm Λ) s.heap s.heap [] := va_S.rf
  have hl := lv_entry ([.ref a0]) (n := 1) (Nat.le_of_ble_eq_true rfl)
  rw [lg_entry_eq]
  generalize (lg_sl ([.ref a0]) ++ List.replicate (1 - (lg_sl ([.ref a0])).length) Slot.unset).toArray = ls at hl ⊢
  have hl : lv_has ls 1 [(0, .ref a0)] := hl
  exact w_X2_allColumns X hK hT ⟨Nat.le_refl _, Nat.le_refl _⟩ a0 k0 rfl s.heap [] ls hR hS hl
set_option maxHeartbeats 4000000 in
set_option maxRecDepth 100000 in
theorem w_J13_bitCount_95d88 (X : Cx cJ13_bitCount_95d88 (some .int) 2 RJ13 wsJ13_bitCount_95d88 p s m args meth c) (hK : Kn cA D s) (hT : TL Λ) (hM : 0 ≤ R.frames ∧ 0 ≤ R.locals) (l0 : Int64) {res : Int32} (h : F_J13_bitCount_95d88 l0 = res) (H : Heap) (locs : List Loc) (ls : Array Slot) (hR : Rep cA D Λ σ H) (hS : va_S (dm Λ) s.heap H locs) (hl : lv_has ls 2 [(0, .long l0)]) : W p l e R s m args below meth c H locs 0 0 (MQ below (QI cA D Λ (res, σ)) args s 0 0 (dm Λ)) (F0 m 0 ls []) := by
  have hx := X.1
  have hb := X.2.1
  have hown := X.2.2.2.2.1
  have hts := X.2.2.2.2.2.1
  unfold F_J13_bitCount_95d88 at h
  refine lv_lload_n hx hb dJ13_bitCount_95d88_0 rfl (lv_at hl 0 rfl) ?_
  refine lv_lload_n hx hb dJ13_bitCount_95d88_1 rfl (lv_at hl 0 rfl) ?_
  refine lv_iconst (v := (1 : Int32)) hx hb dJ13_bitCount_95d88_2 (by decide) ?_
  refine lv_lushr (v := (ushrL l0 (1 : Int32))) hx hb dJ13_bitCount_95d88_3 rfl ?_
  refine lv_ldc2 (v := (6148914691236517205 : Int64)) hx hb hown (hts (.constantLong RJ13 314 (6148914691236517205)) (by decide +kernel)) dJ13_bitCount_95d88_4 ?_
  refine lv_land hx hb dJ13_bitCount_95d88_7 ?_
  refine lv_lsub hx hb dJ13_bitCount_95d88_8 ?_
  refine lv_topl (fun v_1 e_v_1 => ?_)
  have h := of_nm e_v_1 h
  refine lv_lstore_n (lv' := [(0, .long v_1)]) hx hb dJ13_bitCount_95d88_9 rfl hl (by decide) rfl (fun ls hl => ?_)
  refine lv_lload_n hx hb dJ13_bitCount_95d88_10 rfl (lv_at hl 0 rfl) ?_
  refine lv_ldc2 (v := (3689348814741910323 : Int64)) hx hb hown (hts (.constantLong RJ13 316 (3689348814741910323)) (by decide +kernel)) dJ13_bitCount_95d88_11 ?_
  refine lv_land hx hb dJ13_bitCount_95d88_14 ?_
  refine lv_lload_n hx hb dJ13_bitCount_95d88_15 rfl (lv_at hl 0 rfl) ?_
  refine lv_iconst (v := (2 : Int32)) hx hb dJ13_bitCount_95d88_16 (by decide) ?_
  refine lv_lushr (v := (ushrL v_1 (2 : Int32))) hx hb dJ13_bitCount_95d88_17 rfl ?_
  refine lv_ldc2 (v := (3689348814741910323 : Int64)) hx hb hown (hts (.constantLong RJ13 316 (3689348814741910323)) (by decide +kernel)) dJ13_bitCount_95d88_18 ?_
  refine lv_land hx hb dJ13_bitCount_95d88_21 ?_
  refine lv_ladd hx hb dJ13_bitCount_95d88_22 ?_
  refine lv_topl (fun v_2 e_v_2 => ?_)
  have h := of_nm e_v_2 h
  refine lv_lstore_n (lv' := [(0, .long v_2)]) hx hb dJ13_bitCount_95d88_23 rfl hl (by decide) rfl (fun ls hl => ?_)
  refine lv_lload_n hx hb dJ13_bitCount_95d88_24 rfl (lv_at hl 0 rfl) ?_
  refine lv_lload_n hx hb dJ13_bitCount_95d88_25 rfl (lv_at hl 0 rfl) ?_
  refine lv_iconst (v := (4 : Int32)) hx hb dJ13_bitCount_95d88_26 (by decide) ?_
  refine lv_lushr (v := (ushrL v_2 (4 : Int32))) hx hb dJ13_bitCount_95d88_27 rfl ?_
  refine lv_ladd hx hb dJ13_bitCount_95d88_28 ?_
  refine lv_ldc2 (v := (1085102592571150095 : Int64)) hx hb hown (hts (.constantLong RJ13 318 (1085102592571150095)) (by decide +kernel)) dJ13_bitCount_95d88_29 ?_
  refine lv_land hx hb dJ13_bitCount_95d88_32 ?_
  refine lv_topl (fun v_3 e_v_3 => ?_)
  have h := of_nm e_v_3 h
  refine lv_lstore_n (lv' := [(0, .long v_3)]) hx hb dJ13_bitCount_95d88_33 rfl hl (by decide) rfl (fun ls hl => ?_)
  refine lv_lload_n hx hb dJ13_bitCount_95d88_34 rfl (lv_at hl 0 rfl) ?_
  refine lv_lload_n hx hb dJ13_bitCount_95d88_35 rfl (lv_at hl 0 rfl) ?_
  refine lv_bipush (v := (8 : Int32)) hx hb dJ13_bitCount_95d88_36 (by decide) ?_
  refine lv_lushr (v := (ushrL v_3 (8 : Int32))) hx hb dJ13_bitCount_95d88_38 rfl ?_
  refine lv_ladd hx hb dJ13_bitCount_95d88_39 ?_
  refine lv_topl (fun v_4 e_v_4 => ?_)
  have h := of_nm e_v_4 h
  refine lv_lstore_n (lv' := [(0, .long v_4)]) hx hb dJ13_bitCount_95d88_40 rfl hl (by decide) rfl (fun ls hl => ?_)
  refine lv_lload_n hx hb dJ13_bitCount_95d88_41 rfl (lv_at hl 0 rfl) ?_
  refine lv_lload_n hx hb dJ13_bitCount_95d88_42 rfl (lv_at hl 0 rfl) ?_
  refine lv_bipush (v := (16 : Int32)) hx hb dJ13_bitCount_95d88_43 (by decide) ?_
  refine lv_lushr (v := (ushrL v_4 (16 : Int32))) hx hb dJ13_bitCount_95d88_45 rfl ?_
  refine lv_ladd hx hb dJ13_bitCount_95d88_46 ?_
  refine lv_topl (fun v_5 e_v_5 => ?_)
  have h := of_nm e_v_5 h
  refine lv_lstore_n (lv' := [(0, .long v_5)]) hx hb dJ13_bitCount_95d88_47 rfl hl (by decide) rfl (fun ls hl => ?_)
  refine lv_lload_n hx hb dJ13_bitCount_95d88_48 rfl (lv_at hl 0 rfl) ?_
  refine lv_lload_n hx hb dJ13_bitCount_95d88_49 rfl (lv_at hl 0 rfl) ?_
  refine lv_bipush (v := (32 : Int32)) hx hb dJ13_bitCount_95d88_50 (by decide) ?_
  refine lv_lushr (v := (ushrL v_5 (32 : Int32))) hx hb dJ13_bitCount_95d88_52 rfl ?_
  refine lv_ladd hx hb dJ13_bitCount_95d88_53 ?_
  refine lv_topl (fun v_6 e_v_6 => ?_)
  have h := of_nm e_v_6 h
  refine lv_lstore_n (lv' := [(0, .long v_6)]) hx hb dJ13_bitCount_95d88_54 rfl hl (by decide) rfl (fun ls hl => ?_)
  refine lv_lload_n hx hb dJ13_bitCount_95d88_55 rfl (lv_at hl 0 rfl) ?_
  refine lv_l2i (v := (v_6.toInt32)) hx hb dJ13_bitCount_95d88_56 rfl ?_
  refine lv_bipush (v := (127 : Int32)) hx hb dJ13_bitCount_95d88_57 (by decide) ?_
  refine lv_iand hx hb dJ13_bitCount_95d88_59 ?_
  exact rt_i X hR hS (congrArg (fun z => (z, σ)) h) dJ13_bitCount_95d88_60

set_option maxHeartbeats 4000000 in
set_option maxRecDepth 100000 in
theorem c_J13_bitCount_95d88 (l : Launch) (cA : Nat → ClassId) (D : va_G) (Λ : Lay) (hT : TL Λ) (σ : Sto) (l0 : Int64) : Met l yJ13_bitCount_95d88 wsJ13_bitCount_95d88 { frames := 0, cells := 0, slots := 0, locals := 0 } (va_Pc [.long l0] (PW cA D Λ σ)) (QI cA D Λ ((F_J13_bitCount_95d88 l0), σ)) 0 0 (dm Λ) := by
  refine Met.ofW (cc := cJ13_bitCount_95d88) (maxL := 2) (ret := (some .int)) (by decide) rfl ?_
  intro p e s m args below meth c s₁ B hml hv
  obtain ⟨rfl, hR, hK⟩ := hv
  have X : Cx cJ13_bitCount_95d88 (some .int) 2 RJ13 wsJ13_bitCount_95d88 p s m _ meth c := ⟨B.exec, B.bytes, B.returns, hml, findClass_of_methodNamed B.named, atoms_spec (ws := wsJ13_bitCount_95d88) B.pre, B.notSynchronized⟩
  have hS : va_S (dm Λ) s.heap s.heap [] := va_S.rf
  have hl := lv_entry ([.long l0]) (n := 2) (Nat.le_of_ble_eq_true rfl)
  rw [lg_entry_eq]
  generalize (lg_sl ([.long l0]) ++ List.replicate (2 - (lg_sl ([.long l0])).length) Slot.unset).toArray = ls at hl ⊢
  have hl : lv_has ls 2 [(0, .long l0)] := hl
  exact w_J13_bitCount_95d88 X hK hT ⟨Nat.le_refl _, Nat.le_refl _⟩ l0 rfl s.heap [] ls hR hS hl
theorem in_X2_ink_3 : ∀ w ∈ u_ws RX2 TX2 3, w ∈ wsX2_ink := by decide +kernel
set_option maxHeartbeats 4000000 in
set_option maxRecDepth 100000 in
theorem w_bd_X2_ink_4 (X : Cx cX2_ink (some .int) 3 RX2 wsX2_ink p s m args meth c) (hK : Kn cA D s) (hT : TL Λ) (hM : 1 ≤ R.frames ∧ 21 ≤ R.locals) (a0 : Nat) (s9 : (Int32 × Int32)) (k0 : isK Λ a0 3) {r : (Int32 × Int32) ⊕ Int32} (h : bd_X2_ink_4 Λ σ a0 s9 = some r) (kb : ∀ z : (Int32 × Int32), r = .inl z → ∀ (H : Heap) (locs : List Loc) (ls : Array Slot), Rep cA D Λ σ H → va_S (dm Λ) s.heap H locs → lv_has ls 3 [(0, .ref a0), (1, .int z.1), (2, .int z.2)] → W p l e R s m args below meth c H locs 0 0 Q (F0 m 4 ls [])) (kx0 : ∀ z : Int32, r = .inr z → ∀ (H : Heap) (locs : List Loc) (ls : Array Slot), Rep cA D Λ σ H → va_S (dm Λ) s.heap H locs → lv_has ls 3 [(1, .int z)] → W p l e R s m args below meth c H locs 0 0 Q (F0 m 30 ls [])) (H : Heap) (locs : List Loc) (ls : Array Slot) (hR : Rep cA D Λ σ H) (hS : va_S (dm Λ) s.heap H locs) (hl : lv_has ls 3 [(0, .ref a0), (1, .int s9.1), (2, .int s9.2)]) : W p l e R s m args below meth c H locs 0 0 Q (F0 m 4 ls []) := by
  have hx := X.1
  have hb := X.2.1
  have hown := X.2.2.2.2.1
  have hts := X.2.2.2.2.2.1
  unfold bd_X2_ink_4 at h
  refine lv_iload_n hx hb dX2_ink_4 rfl (lv_at hl 2 rfl) ?_
  refine lv_aload_n hx hb dX2_ink_5 rfl (lv_at hl 0 rfl) ?_
  refine rw_getI X hK hR 3 1 k0 (by decide) (C := RX2) (T := TX2) (N := 3) rfl (by decide) in_X2_ink_3 (by decide +kernel) rfl dX2_ink_6 ?_
  refine lv_icmp_ge (tgt := 30) hx hb dX2_ink_9 (by decide) (fun hc => ?_) (fun hc => ?_)
  · have h := of_pos hc h
    exact kx0 s9.1 (Option.some.inj h).symm H locs ls hR hS (lv_sub hl [1] rfl)
  · have h := of_neg hc h
    refine lv_iload_n hx hb dX2_ink_12 rfl (lv_at hl 1 rfl) ?_
    refine lv_aload_n hx hb dX2_ink_13 rfl (lv_at hl 0 rfl) ?_
    refine rw_getR X hK hT hR 3 2 8 k0 (by decide) (C := RX2) (T := TX2) (N := 3) rfl (by decide) in_X2_ink_3 (by decide +kernel) rfl dX2_ink_14 (fun kf_1 => ?_)
    refine lv_iload_n hx hb dX2_ink_17 rfl (lv_at hl 2 rfl) ?_
    obtain ⟨hg_2, h⟩ := of_guard h
    refine rw_lald X hK hR kf_1 hg_2 dX2_ink_18 ?_
    refine cl_i (rn_S (As := [.long (σ.2 (rfA Λ a0 2) s9.2.toNatClampNeg)]) (rest := [.int s9.1]) X hK hR hl.1 (c_J13_bitCount_95d88 l cA D Λ hT σ (σ.2 (rfA Λ a0 2) s9.2.toNatClampNeg)) (va_cwS 1 hts gX2_ink_J13_bitCount_95d88 rfl rfl rfl (by decide +kernel) ⟨Nat.le_trans (by decide) hM.1, Nat.le_trans (by decide) hM.2⟩) rfl rfl (Nat.le_of_ble_eq_true rfl) dX2_ink_19) hS (fun H locs hR hS => ?_)
    refine lv_topi (fun r_3 e_3 => ?_)
    have h := of_nm e_3 h
    refine lv_iadd hx hb dX2_ink_22 ?_
    refine lv_topi (fun v_4 e_v_4 => ?_)
    have h := of_nm e_v_4 h
    refine lv_istore_n (lv' := [(1, .int v_4), (0, .ref a0), (2, .int s9.2)]) hx hb dX2_ink_23 rfl hl (by decide) rfl (fun ls hl => ?_)
    obtain ⟨v_5, e_v_5⟩ : ∃ y : Int32, y = (s9.2 + (1 : Int32)) := ⟨_, rfl⟩
    have h := of_nm e_v_5 h
    refine lv_iinc (v := v_5) (lv' := [(2, .int v_5), (1, .int v_4), (0, .ref a0)]) hx hb dX2_ink_24 hl (k := 2) rfl (by rw [e_v_5]; rfl) (by decide) rfl (fun ls hl => ?_)
    refine lv_goto (tgt := 4) hx hb dX2_ink_27 (by decide) ?_
    exact kb (v_4, v_5) (Option.some.inj h).symm H locs ls hR hS (lv_sub hl [2, 1, 0] rfl)

set_option maxHeartbeats 4000000 in
set_option maxRecDepth 100000 in
theorem w_lp_X2_ink_4 (X : Cx cX2_ink (some .int) 3 RX2 wsX2_ink p s m args meth c) (hK : Kn cA D s) (hT : TL Λ) (hM : 1 ≤ R.frames ∧ 21 ≤ R.locals) (a0 : Nat) (k0 : isK Λ a0 3) {e9 : Int32} : ∀ (n9 : Nat) (s9 : (Int32 × Int32)), iter (bd_X2_ink_4 Λ σ a0) n9 s9 = some e9 → ∀ (kx0 : ∀ (H : Heap) (locs : List Loc) (ls : Array Slot), Rep cA D Λ σ H → va_S (dm Λ) s.heap H locs → lv_has ls 3 [(1, .int e9)] → W p l e R s m args below meth c H locs 0 0 Q (F0 m 30 ls [])), ∀ (H : Heap) (locs : List Loc) (ls : Array Slot), Rep cA D Λ σ H → va_S (dm Λ) s.heap H locs → lv_has ls 3 [(0, .ref a0), (1, .int s9.1), (2, .int s9.2)] → W p l e R s m args below meth c H locs 0 0 Q (F0 m 4 ls []) := by
  intro n9
  induction n9 with
  | zero => intro s9 h; cases h
  | succ n9 ih =>
    intro s9 h kx0 H locs ls hR hS hl
    obtain ⟨r, hr, h⟩ := of_iter h
    refine w_bd_X2_ink_4 X hK hT hM a0 s9 k0 hr (fun z ez H locs ls hR hS hl => ?_) (fun z ez H locs ls hR hS hl => ?_) H locs ls hR hS hl
    · exact ih z (of_itl ez h) kx0 H locs ls hR hS hl
    · have he := of_itr ez h; subst he; exact kx0 H locs ls hR hS hl

set_option maxHeartbeats 4000000 in
set_option maxRecDepth 100000 in
theorem w_X2_ink (X : Cx cX2_ink (some .int) 3 RX2 wsX2_ink p s m args meth c) (hK : Kn cA D s) (hT : TL Λ) (hM : 1 ≤ R.frames ∧ 21 ≤ R.locals) (a0 : Nat) (k0 : isK Λ a0 3) {res : Int32} (h : F_X2_ink Λ σ a0 = some res) (H : Heap) (locs : List Loc) (ls : Array Slot) (hR : Rep cA D Λ σ H) (hS : va_S (dm Λ) s.heap H locs) (hl : lv_has ls 3 [(0, .ref a0)]) : W p l e R s m args below meth c H locs 0 0 (MQ below (QI cA D Λ (res, σ)) args s 0 0 (dm Λ)) (F0 m 0 ls []) := by
  have hx := X.1
  have hb := X.2.1
  have hown := X.2.2.2.2.1
  have hts := X.2.2.2.2.2.1
  unfold F_X2_ink at h
  refine lv_iconst (v := (0 : Int32)) hx hb dX2_ink_0 (by decide) ?_
  refine lv_istore_n (lv' := [(1, .int (0 : Int32)), (0, .ref a0)]) hx hb dX2_ink_1 rfl hl (by decide) rfl (fun ls hl => ?_)
  refine lv_iconst (v := (0 : Int32)) hx hb dX2_ink_2 (by decide) ?_
  refine lv_istore_n (lv' := [(2, .int (0 : Int32)), (1, .int (0 : Int32)), (0, .ref a0)]) hx hb dX2_ink_3 rfl hl (by decide) rfl (fun ls hl => ?_)
  obtain ⟨e_6, hq_6, h⟩ := of_bind h
  refine w_lp_X2_ink_4 X hK hT hM a0 k0 _ ((0 : Int32), (0 : Int32)) hq_6 (fun H locs ls hR hS hl => ?_) H locs ls hR hS (lv_sub hl [2, 1, 0] rfl)
  refine lv_iload_n hx hb dX2_ink_30 rfl (lv_at hl 0 rfl) ?_
  exact rt_i X hR hS (congrArg (fun z => (z, σ)) (Option.some.inj h)) dX2_ink_31

set_option maxHeartbeats 4000000 in
set_option maxRecDepth 100000 in
theorem c_X2_ink (l : Launch) (cA : Nat → ClassId) (D : va_G) (Λ : Lay) (hT : TL Λ) (σ : Sto) (a0 : Nat) (k0 : isK Λ a0 3) {res : Int32} (h : F_X2_ink Λ σ a0 = some res) : Met l yX2_ink wsX2_ink { frames := 1, cells := 0, slots := 0, locals := 21 } (va_Pc [.ref a0] (PW cA D Λ σ)) (QI cA D Λ (res, σ)) 0 0 (dm Λ) := by
  refine Met.ofW (cc := cX2_ink) (maxL := 3) (ret := (some .int)) (by decide) rfl ?_
  intro p e s m args below meth c s₁ B hml hv
  obtain ⟨rfl, hR, hK⟩ := hv
  have X : Cx cX2_ink (some .int) 3 RX2 wsX2_ink p s m _ meth c := ⟨B.exec, B.bytes, B.returns, hml, findClass_of_methodNamed B.named, atoms_spec (ws := wsX2_ink) B.pre, B.notSynchronized⟩
  have hS : va_S (dm Λ) s.heap s.heap [] := va_S.rf
  have hl := lv_entry ([.ref a0]) (n := 3) (Nat.le_of_ble_eq_true rfl)
  rw [lg_entry_eq]
  generalize (lg_sl ([.ref a0]) ++ List.replicate (3 - (lg_sl ([.ref a0])).length) Slot.unset).toArray = ls at hl ⊢
  have hl : lv_has ls 3 [(0, .ref a0)] := hl
  exact w_X2_ink X hK hT ⟨Nat.le_refl _, Nat.le_refl _⟩ a0 k0 h s.heap [] ls hR hS hl
theorem in_X2_columnInk_3 : ∀ w ∈ u_ws RX2 TX2 3, w ∈ wsX2_columnInk := by decide +kernel
set_option maxHeartbeats 4000000 in
set_option maxRecDepth 100000 in
theorem w_jp_X2_columnInk_33 (X : Cx cX2_columnInk (some .int) 4 RX2 wsX2_columnInk p s m args meth c) (hK : Kn cA D s) (hT : TL Λ) (hM : 0 ≤ R.frames ∧ 0 ≤ R.locals) (a0 : Nat) (l1 : Int32) (l3 : Int32) (ls0 : Int32) (ls1 : Int32) (k0 : isK Λ a0 3) {r : (Int32 × Int32) ⊕ Int32} (h : jp_X2_columnInk_33 Λ σ a0 l1 l3 ls0 ls1 = some r) (kb : ∀ z : (Int32 × Int32), r = .inl z → ∀ (H : Heap) (locs : List Loc) (ls : Array Slot), Rep cA D Λ σ H → va_S (dm Λ) s.heap H locs → lv_has ls 4 [(0, .ref a0), (1, .int l1), (2, .int z.1), (3, .int z.2)] → W p l e R s m args below meth c H locs 0 0 Q (F0 m 4 ls [])) (kx0 : ∀ z : Int32, r = .inr z → ∀ (H : Heap) (locs : List Loc) (ls : Array Slot), Rep cA D Λ σ H → va_S (dm Λ) s.heap H locs → lv_has ls 4 [(2, .int z)] → W p l e R s m args below meth c H locs 0 0 Q (F0 m 41 ls [])) (H : Heap) (locs : List Loc) (ls : Array Slot) (hR : Rep cA D Λ σ H) (hS : va_S (dm Λ) s.heap H locs) (hl : lv_has ls 4 [(0, .ref a0), (1, .int l1), (3, .int l3)]) : W p l e R s m args below meth c H locs 0 0 Q (F0 m 33 ls [.int ls0, .int ls1]) := by
  have hx := X.1
  have hb := X.2.1
  have hown := X.2.2.2.2.1
  have hts := X.2.2.2.2.2.1
  unfold jp_X2_columnInk_33 at h
  refine lv_iadd hx hb dX2_columnInk_33 ?_
  refine lv_topi (fun v_3 e_v_3 => ?_)
  have h := of_nm e_v_3 h
  refine lv_istore_n (lv' := [(2, .int v_3), (0, .ref a0), (1, .int l1), (3, .int l3)]) hx hb dX2_columnInk_34 rfl hl (by decide) rfl (fun ls hl => ?_)
  obtain ⟨v_4, e_v_4⟩ : ∃ y : Int32, y = (l3 + (1 : Int32)) := ⟨_, rfl⟩
  have h := of_nm e_v_4 h
  refine lv_iinc (v := v_4) (lv' := [(3, .int v_4), (2, .int v_3), (0, .ref a0), (1, .int l1)]) hx hb dX2_columnInk_35 hl (k := 3) rfl (by rw [e_v_4]; rfl) (by decide) rfl (fun ls hl => ?_)
  refine lv_goto (tgt := 4) hx hb dX2_columnInk_38 (by decide) ?_
  exact kb (v_3, v_4) (Option.some.inj h).symm H locs ls hR hS (lv_sub hl [2, 3, 1, 0] rfl)

set_option maxHeartbeats 4000000 in
set_option maxRecDepth 100000 in
theorem w_bd_X2_columnInk_4 (X : Cx cX2_columnInk (some .int) 4 RX2 wsX2_columnInk p s m args meth c) (hK : Kn cA D s) (hT : TL Λ) (hM : 0 ≤ R.frames ∧ 0 ≤ R.locals) (a0 : Nat) (l1 : Int32) (s9 : (Int32 × Int32)) (k0 : isK Λ a0 3) {r : (Int32 × Int32) ⊕ Int32} (h : bd_X2_columnInk_4 Λ σ a0 l1 s9 = some r) (kb : ∀ z : (Int32 × Int32), r = .inl z → ∀ (H : Heap) (locs : List Loc) (ls : Array Slot), Rep cA D Λ σ H → va_S (dm Λ) s.heap H locs → lv_has ls 4 [(0, .ref a0), (1, .int l1), (2, .int z.1), (3, .int z.2)] → W p l e R s m args below meth c H locs 0 0 Q (F0 m 4 ls [])) (kx0 : ∀ z : Int32, r = .inr z → ∀ (H : Heap) (locs : List Loc) (ls : Array Slot), Rep cA D Λ σ H → va_S (dm Λ) s.heap H locs → lv_has ls 4 [(2, .int z)] → W p l e R s m args below meth c H locs 0 0 Q (F0 m 41 ls [])) (H : Heap) (locs : List Loc) (ls : Array Slot) (hR : Rep cA D Λ σ H) (hS : va_S (dm Λ) s.heap H locs) (hl : lv_has ls 4 [(0, .ref a0), (1, .int l1), (2, .int s9.1), (3, .int s9.2)]) : W p l e R s m args below meth c H locs 0 0 Q (F0 m 4 ls []) := by
  have hx := X.1
  have hb := X.2.1
  have hown := X.2.2.2.2.1
  have hts := X.2.2.2.2.2.1
  unfold bd_X2_columnInk_4 at h
  refine lv_iload_n hx hb dX2_columnInk_4 rfl (lv_at hl 3 rfl) ?_
  refine lv_aload_n hx hb dX2_columnInk_5 rfl (lv_at hl 0 rfl) ?_
  refine rw_getI X hK hR 3 1 k0 (by decide) (C := RX2) (T := TX2) (N := 3) rfl (by decide) in_X2_columnInk_3 (by decide +kernel) rfl dX2_columnInk_6 ?_
  refine lv_icmp_ge (tgt := 41) hx hb dX2_columnInk_9 (by decide) (fun hc => ?_) (fun hc => ?_)
  · have h := of_pos hc h
    exact kx0 s9.1 (Option.some.inj h).symm H locs ls hR hS (lv_sub hl [2] rfl)
  · have h := of_neg hc h
    refine lv_iload_n hx hb dX2_columnInk_12 rfl (lv_at hl 2 rfl) ?_
    refine lv_aload_n hx hb dX2_columnInk_13 rfl (lv_at hl 0 rfl) ?_
    refine rw_getR X hK hT hR 3 2 8 k0 (by decide) (C := RX2) (T := TX2) (N := 3) rfl (by decide) in_X2_columnInk_3 (by decide +kernel) rfl dX2_columnInk_14 (fun kf_1 => ?_)
    refine lv_iload_n hx hb dX2_columnInk_17 rfl (lv_at hl 3 rfl) ?_
    obtain ⟨hg_2, h⟩ := of_guard h
    refine rw_lald X hK hR kf_1 hg_2 dX2_columnInk_18 ?_
    refine lv_iload_n hx hb dX2_columnInk_19 rfl (lv_at hl 1 rfl) ?_
    refine lv_lushr (v := (ushrL (σ.2 (rfA Λ a0 2) s9.2.toNatClampNeg) l1)) hx hb dX2_columnInk_20 rfl ?_
    refine lv_lconst (v := (1 : Int64)) hx hb dX2_columnInk_21 (by decide) ?_
    refine lv_land hx hb dX2_columnInk_22 ?_
    refine lv_lconst (v := (1 : Int64)) hx hb dX2_columnInk_23 (by decide) ?_
    refine W.lcmp hx hb dX2_columnInk_24 ?_
    refine lv_if_ne (tgt := 32) hx hb dX2_columnInk_25 (by decide) (fun hc => ?_) (fun hc => ?_)
    · have h := of_neg hc h
      refine lv_iconst (v := (0 : Int32)) hx hb dX2_columnInk_32 (by decide) ?_
      exact w_jp_X2_columnInk_33 X hK hT hM a0 l1 s9.2 (0 : Int32) s9.1 k0 h kb kx0 H locs ls hR hS (lv_sub hl [0, 1, 3] rfl)
    · have h := of_pos hc h
      refine lv_iconst (v := (1 : Int32)) hx hb dX2_columnInk_28 (by decide) ?_
      refine lv_goto (tgt := 33) hx hb dX2_columnInk_29 (by decide) ?_
      exact w_jp_X2_columnInk_33 X hK hT hM a0 l1 s9.2 (1 : Int32) s9.1 k0 h kb kx0 H locs ls hR hS (lv_sub hl [0, 1, 3] rfl)

set_option maxHeartbeats 4000000 in
set_option maxRecDepth 100000 in
theorem w_lp_X2_columnInk_4 (X : Cx cX2_columnInk (some .int) 4 RX2 wsX2_columnInk p s m args meth c) (hK : Kn cA D s) (hT : TL Λ) (hM : 0 ≤ R.frames ∧ 0 ≤ R.locals) (a0 : Nat) (l1 : Int32) (k0 : isK Λ a0 3) {e9 : Int32} : ∀ (n9 : Nat) (s9 : (Int32 × Int32)), iter (bd_X2_columnInk_4 Λ σ a0 l1) n9 s9 = some e9 → ∀ (kx0 : ∀ (H : Heap) (locs : List Loc) (ls : Array Slot), Rep cA D Λ σ H → va_S (dm Λ) s.heap H locs → lv_has ls 4 [(2, .int e9)] → W p l e R s m args below meth c H locs 0 0 Q (F0 m 41 ls [])), ∀ (H : Heap) (locs : List Loc) (ls : Array Slot), Rep cA D Λ σ H → va_S (dm Λ) s.heap H locs → lv_has ls 4 [(0, .ref a0), (1, .int l1), (2, .int s9.1), (3, .int s9.2)] → W p l e R s m args below meth c H locs 0 0 Q (F0 m 4 ls []) := by
  intro n9
  induction n9 with
  | zero => intro s9 h; cases h
  | succ n9 ih =>
    intro s9 h kx0 H locs ls hR hS hl
    obtain ⟨r, hr, h⟩ := of_iter h
    refine w_bd_X2_columnInk_4 X hK hT hM a0 l1 s9 k0 hr (fun z ez H locs ls hR hS hl => ?_) (fun z ez H locs ls hR hS hl => ?_) H locs ls hR hS hl
    · exact ih z (of_itl ez h) kx0 H locs ls hR hS hl
    · have he := of_itr ez h; subst he; exact kx0 H locs ls hR hS hl

set_option maxHeartbeats 4000000 in
set_option maxRecDepth 100000 in
theorem w_X2_columnInk (X : Cx cX2_columnInk (some .int) 4 RX2 wsX2_columnInk p s m args meth c) (hK : Kn cA D s) (hT : TL Λ) (hM : 0 ≤ R.frames ∧ 0 ≤ R.locals) (a0 : Nat) (l1 : Int32) (k0 : isK Λ a0 3) {res : Int32} (h : F_X2_columnInk Λ σ a0 l1 = some res) (H : Heap) (locs : List Loc) (ls : Array Slot) (hR : Rep cA D Λ σ H) (hS : va_S (dm Λ) s.heap H locs) (hl : lv_has ls 4 [(0, .ref a0), (1, .int l1)]) : W p l e R s m args below meth c H locs 0 0 (MQ below (QI cA D Λ (res, σ)) args s 0 0 (dm Λ)) (F0 m 0 ls []) := by
  have hx := X.1
  have hb := X.2.1
  have hown := X.2.2.2.2.1
  have hts := X.2.2.2.2.2.1
  unfold F_X2_columnInk at h
  refine lv_iconst (v := (0 : Int32)) hx hb dX2_columnInk_0 (by decide) ?_
  refine lv_istore_n (lv' := [(2, .int (0 : Int32)), (0, .ref a0), (1, .int l1)]) hx hb dX2_columnInk_1 rfl hl (by decide) rfl (fun ls hl => ?_)
  refine lv_iconst (v := (0 : Int32)) hx hb dX2_columnInk_2 (by decide) ?_
  refine lv_istore_n (lv' := [(3, .int (0 : Int32)), (2, .int (0 : Int32)), (0, .ref a0), (1, .int l1)]) hx hb dX2_columnInk_3 rfl hl (by decide) rfl (fun ls hl => ?_)
  obtain ⟨e_5, hq_5, h⟩ := of_bind h
  refine w_lp_X2_columnInk_4 X hK hT hM a0 l1 k0 _ ((0 : Int32), (0 : Int32)) hq_5 (fun H locs ls hR hS hl => ?_) H locs ls hR hS (lv_sub hl [2, 3, 1, 0] rfl)
  refine lv_iload_n hx hb dX2_columnInk_41 rfl (lv_at hl 0 rfl) ?_
  exact rt_i X hR hS (congrArg (fun z => (z, σ)) (Option.some.inj h)) dX2_columnInk_42

set_option maxHeartbeats 4000000 in
set_option maxRecDepth 100000 in
theorem c_X2_columnInk (l : Launch) (cA : Nat → ClassId) (D : va_G) (Λ : Lay) (hT : TL Λ) (σ : Sto) (a0 : Nat) (l1 : Int32) (k0 : isK Λ a0 3) {res : Int32} (h : F_X2_columnInk Λ σ a0 l1 = some res) : Met l yX2_columnInk wsX2_columnInk { frames := 0, cells := 0, slots := 0, locals := 0 } (va_Pc [.ref a0, .int l1] (PW cA D Λ σ)) (QI cA D Λ (res, σ)) 0 0 (dm Λ) := by
  refine Met.ofW (cc := cX2_columnInk) (maxL := 4) (ret := (some .int)) (by decide) rfl ?_
  intro p e s m args below meth c s₁ B hml hv
  obtain ⟨rfl, hR, hK⟩ := hv
  have X : Cx cX2_columnInk (some .int) 4 RX2 wsX2_columnInk p s m _ meth c := ⟨B.exec, B.bytes, B.returns, hml, findClass_of_methodNamed B.named, atoms_spec (ws := wsX2_columnInk) B.pre, B.notSynchronized⟩
  have hS : va_S (dm Λ) s.heap s.heap [] := va_S.rf
  have hl := lv_entry ([.ref a0, .int l1]) (n := 4) (Nat.le_of_ble_eq_true rfl)
  rw [lg_entry_eq]
  generalize (lg_sl ([.ref a0, .int l1]) ++ List.replicate (4 - (lg_sl ([.ref a0, .int l1])).length) Slot.unset).toArray = ls at hl ⊢
  have hl : lv_has ls 4 [(0, .ref a0), (1, .int l1)] := hl
  exact w_X2_columnInk X hK hT ⟨Nat.le_refl _, Nat.le_refl _⟩ a0 l1 k0 h s.heap [] ls hR hS hl
theorem in_X2_inkedColumns_3 : ∀ w ∈ u_ws RX2 TX2 3, w ∈ wsX2_inkedColumns := by decide +kernel
set_option maxHeartbeats 4000000 in
set_option maxRecDepth 100000 in
theorem w_bd_X2_inkedColumns_4 (X : Cx cX2_inkedColumns (some .long) 4 RX2 wsX2_inkedColumns p s m args meth c) (hK : Kn cA D s) (hT : TL Λ) (hM : 0 ≤ R.frames ∧ 0 ≤ R.locals) (a0 : Nat) (s9 : (Int64 × Int32)) (k0 : isK Λ a0 3) {r : (Int64 × Int32) ⊕ Int64} (h : bd_X2_inkedColumns_4 Λ σ a0 s9 = some r) (kb : ∀ z : (Int64 × Int32), r = .inl z → ∀ (H : Heap) (locs : List Loc) (ls : Array Slot), Rep cA D Λ σ H → va_S (dm Λ) s.heap H locs → lv_has ls 4 [(0, .ref a0), (1, .long z.1), (3, .int z.2)] → W p l e R s m args below meth c H locs 0 0 Q (F0 m 4 ls [])) (kx0 : ∀ z : Int64, r = .inr z → ∀ (H : Heap) (locs : List Loc) (ls : Array Slot), Rep cA D Λ σ H → va_S (dm Λ) s.heap H locs → lv_has ls 4 [(1, .long z)] → W p l e R s m args below meth c H locs 0 0 Q (F0 m 27 ls [])) (H : Heap) (locs : List Loc) (ls : Array Slot) (hR : Rep cA D Λ σ H) (hS : va_S (dm Λ) s.heap H locs) (hl : lv_has ls 4 [(0, .ref a0), (1, .long s9.1), (3, .int s9.2)]) : W p l e R s m args below meth c H locs 0 0 Q (F0 m 4 ls []) := by
  have hx := X.1
  have hb := X.2.1
  have hown := X.2.2.2.2.1
  have hts := X.2.2.2.2.2.1
  unfold bd_X2_inkedColumns_4 at h
  refine lv_iload_n hx hb dX2_inkedColumns_4 rfl (lv_at hl 2 rfl) ?_
  refine lv_aload_n hx hb dX2_inkedColumns_5 rfl (lv_at hl 0 rfl) ?_
  refine rw_getI X hK hR 3 1 k0 (by decide) (C := RX2) (T := TX2) (N := 3) rfl (by decide) in_X2_inkedColumns_3 (by decide +kernel) rfl dX2_inkedColumns_6 ?_
  refine lv_icmp_ge (tgt := 27) hx hb dX2_inkedColumns_9 (by decide) (fun hc => ?_) (fun hc => ?_)
  · have h := of_pos hc h
    exact kx0 s9.1 (Option.some.inj h).symm H locs ls hR hS (lv_sub hl [1] rfl)
  · have h := of_neg hc h
    refine lv_lload_n hx hb dX2_inkedColumns_12 rfl (lv_at hl 1 rfl) ?_
    refine lv_aload_n hx hb dX2_inkedColumns_13 rfl (lv_at hl 0 rfl) ?_
    refine rw_getR X hK hT hR 3 2 8 k0 (by decide) (C := RX2) (T := TX2) (N := 3) rfl (by decide) in_X2_inkedColumns_3 (by decide +kernel) rfl dX2_inkedColumns_14 (fun kf_1 => ?_)
    refine lv_iload_n hx hb dX2_inkedColumns_17 rfl (lv_at hl 2 rfl) ?_
    obtain ⟨hg_2, h⟩ := of_guard h
    refine rw_lald X hK hR kf_1 hg_2 dX2_inkedColumns_18 ?_
    refine lv_lor hx hb dX2_inkedColumns_19 ?_
    refine lv_topl (fun v_3 e_v_3 => ?_)
    have h := of_nm e_v_3 h
    refine lv_lstore_n (lv' := [(1, .long v_3), (0, .ref a0), (3, .int s9.2)]) hx hb dX2_inkedColumns_20 rfl hl (by decide) rfl (fun ls hl => ?_)
    obtain ⟨v_4, e_v_4⟩ : ∃ y : Int32, y = (s9.2 + (1 : Int32)) := ⟨_, rfl⟩
    have h := of_nm e_v_4 h
    refine lv_iinc (v := v_4) (lv' := [(3, .int v_4), (1, .long v_3), (0, .ref a0)]) hx hb dX2_inkedColumns_21 hl (k := 2) rfl (by rw [e_v_4]; rfl) (by decide) rfl (fun ls hl => ?_)
    refine lv_goto (tgt := 4) hx hb dX2_inkedColumns_24 (by decide) ?_
    exact kb (v_3, v_4) (Option.some.inj h).symm H locs ls hR hS (lv_sub hl [2, 1, 0] rfl)

set_option maxHeartbeats 4000000 in
set_option maxRecDepth 100000 in
theorem w_lp_X2_inkedColumns_4 (X : Cx cX2_inkedColumns (some .long) 4 RX2 wsX2_inkedColumns p s m args meth c) (hK : Kn cA D s) (hT : TL Λ) (hM : 0 ≤ R.frames ∧ 0 ≤ R.locals) (a0 : Nat) (k0 : isK Λ a0 3) {e9 : Int64} : ∀ (n9 : Nat) (s9 : (Int64 × Int32)), iter (bd_X2_inkedColumns_4 Λ σ a0) n9 s9 = some e9 → ∀ (kx0 : ∀ (H : Heap) (locs : List Loc) (ls : Array Slot), Rep cA D Λ σ H → va_S (dm Λ) s.heap H locs → lv_has ls 4 [(1, .long e9)] → W p l e R s m args below meth c H locs 0 0 Q (F0 m 27 ls [])), ∀ (H : Heap) (locs : List Loc) (ls : Array Slot), Rep cA D Λ σ H → va_S (dm Λ) s.heap H locs → lv_has ls 4 [(0, .ref a0), (1, .long s9.1), (3, .int s9.2)] → W p l e R s m args below meth c H locs 0 0 Q (F0 m 4 ls []) := by
  intro n9
  induction n9 with
  | zero => intro s9 h; cases h
  | succ n9 ih =>
    intro s9 h kx0 H locs ls hR hS hl
    obtain ⟨r, hr, h⟩ := of_iter h
    refine w_bd_X2_inkedColumns_4 X hK hT hM a0 s9 k0 hr (fun z ez H locs ls hR hS hl => ?_) (fun z ez H locs ls hR hS hl => ?_) H locs ls hR hS hl
    · exact ih z (of_itl ez h) kx0 H locs ls hR hS hl
    · have he := of_itr ez h; subst he; exact kx0 H locs ls hR hS hl

set_option maxHeartbeats 4000000 in
set_option maxRecDepth 100000 in
theorem w_X2_inkedColumns (X : Cx cX2_inkedColumns (some .long) 4 RX2 wsX2_inkedColumns p s m args meth c) (hK : Kn cA D s) (hT : TL Λ) (hM : 0 ≤ R.frames ∧ 0 ≤ R.locals) (a0 : Nat) (k0 : isK Λ a0 3) {res : Int64} (h : F_X2_inkedColumns Λ σ a0 = some res) (H : Heap) (locs : List Loc) (ls : Array Slot) (hR : Rep cA D Λ σ H) (hS : va_S (dm Λ) s.heap H locs) (hl : lv_has ls 4 [(0, .ref a0)]) : W p l e R s m args below meth c H locs 0 0 (MQ below (QL cA D Λ (res, σ)) args s 0 0 (dm Λ)) (F0 m 0 ls []) := by
  have hx := X.1
  have hb := X.2.1
  have hown := X.2.2.2.2.1
  have hts := X.2.2.2.2.2.1
  unfold F_X2_inkedColumns at h
  refine lv_lconst (v := (0 : Int64)) hx hb dX2_inkedColumns_0 (by decide) ?_
  refine lv_lstore_n (lv' := [(1, .long (0 : Int64)), (0, .ref a0)]) hx hb dX2_inkedColumns_1 rfl hl (by decide) rfl (fun ls hl => ?_)
  refine lv_iconst (v := (0 : Int32)) hx hb dX2_inkedColumns_2 (by decide) ?_
  refine lv_istore_n (lv' := [(3, .int (0 : Int32)), (1, .long (0 : Int64)), (0, .ref a0)]) hx hb dX2_inkedColumns_3 rfl hl (by decide) rfl (fun ls hl => ?_)
  obtain ⟨e_5, hq_5, h⟩ := of_bind h
  refine w_lp_X2_inkedColumns_4 X hK hT hM a0 k0 _ ((0 : Int64), (0 : Int32)) hq_5 (fun H locs ls hR hS hl => ?_) H locs ls hR hS (lv_sub hl [2, 1, 0] rfl)
  refine lv_lload_n hx hb dX2_inkedColumns_27 rfl (lv_at hl 0 rfl) ?_
  exact rt_l X hR hS (congrArg (fun z => (z, σ)) (Option.some.inj h)) dX2_inkedColumns_28

set_option maxHeartbeats 4000000 in
set_option maxRecDepth 100000 in
theorem c_X2_inkedColumns (l : Launch) (cA : Nat → ClassId) (D : va_G) (Λ : Lay) (hT : TL Λ) (σ : Sto) (a0 : Nat) (k0 : isK Λ a0 3) {res : Int64} (h : F_X2_inkedColumns Λ σ a0 = some res) : Met l yX2_inkedColumns wsX2_inkedColumns { frames := 0, cells := 0, slots := 0, locals := 0 } (va_Pc [.ref a0] (PW cA D Λ σ)) (QL cA D Λ (res, σ)) 0 0 (dm Λ) := by
  refine Met.ofW (cc := cX2_inkedColumns) (maxL := 4) (ret := (some .long)) (by decide) rfl ?_
  intro p e s m args below meth c s₁ B hml hv
  obtain ⟨rfl, hR, hK⟩ := hv
  have X : Cx cX2_inkedColumns (some .long) 4 RX2 wsX2_inkedColumns p s m _ meth c := ⟨B.exec, B.bytes, B.returns, hml, findClass_of_methodNamed B.named, atoms_spec (ws := wsX2_inkedColumns) B.pre, B.notSynchronized⟩
  have hS : va_S (dm Λ) s.heap s.heap [] := va_S.rf
  have hl := lv_entry ([.ref a0]) (n := 4) (Nat.le_of_ble_eq_true rfl)
  rw [lg_entry_eq]
  generalize (lg_sl ([.ref a0]) ++ List.replicate (4 - (lg_sl ([.ref a0])).length) Slot.unset).toArray = ls at hl ⊢
  have hl : lv_has ls 4 [(0, .ref a0)] := hl
  exact w_X2_inkedColumns X hK hT ⟨Nat.le_refl _, Nat.le_refl _⟩ a0 k0 h s.heap [] ls hR hS hl
theorem in_X2_inkedRows_3 : ∀ w ∈ u_ws RX2 TX2 3, w ∈ wsX2_inkedRows := by decide +kernel
set_option maxHeartbeats 4000000 in
set_option maxRecDepth 100000 in
theorem w_jp_X2_inkedRows_29 (X : Cx cX2_inkedRows (some .long) 4 RX2 wsX2_inkedRows p s m args meth c) (hK : Kn cA D s) (hT : TL Λ) (hM : 0 ≤ R.frames ∧ 0 ≤ R.locals) (a0 : Nat) (l1 : Int64) (l3 : Int32)  (k0 : isK Λ a0 3) {r : (Int64 × Int32) ⊕ Int64} (h : jp_X2_inkedRows_29 Λ σ a0 l1 l3 = some r) (kb : ∀ z : (Int64 × Int32), r = .inl z → ∀ (H : Heap) (locs : List Loc) (ls : Array Slot), Rep cA D Λ σ H → va_S (dm Λ) s.heap H locs → lv_has ls 4 [(0, .ref a0), (1, .long z.1), (3, .int z.2)] → W p l e R s m args below meth c H locs 0 0 Q (F0 m 4 ls [])) (kx0 : ∀ z : Int64, r = .inr z → ∀ (H : Heap) (locs : List Loc) (ls : Array Slot), Rep cA D Λ σ H → va_S (dm Λ) s.heap H locs → lv_has ls 4 [(1, .long z)] → W p l e R s m args below meth c H locs 0 0 Q (F0 m 35 ls [])) (H : Heap) (locs : List Loc) (ls : Array Slot) (hR : Rep cA D Λ σ H) (hS : va_S (dm Λ) s.heap H locs) (hl : lv_has ls 4 [(0, .ref a0), (1, .long l1), (3, .int l3)]) : W p l e R s m args below meth c H locs 0 0 Q (F0 m 29 ls []) := by
  have hx := X.1
  have hb := X.2.1
  have hown := X.2.2.2.2.1
  have hts := X.2.2.2.2.2.1
  unfold jp_X2_inkedRows_29 at h
  obtain ⟨v_3, e_v_3⟩ : ∃ y : Int32, y = (l3 + (1 : Int32)) := ⟨_, rfl⟩
  have h := of_nm e_v_3 h
  refine lv_iinc (v := v_3) (lv' := [(3, .int v_3), (0, .ref a0), (1, .long l1)]) hx hb dX2_inkedRows_29 hl (k := 2) rfl (by rw [e_v_3]; rfl) (by decide) rfl (fun ls hl => ?_)
  refine lv_goto (tgt := 4) hx hb dX2_inkedRows_32 (by decide) ?_
  exact kb (l1, v_3) (Option.some.inj h).symm H locs ls hR hS (lv_sub hl [1, 2, 0] rfl)

set_option maxHeartbeats 4000000 in
set_option maxRecDepth 100000 in
theorem w_bd_X2_inkedRows_4 (X : Cx cX2_inkedRows (some .long) 4 RX2 wsX2_inkedRows p s m args meth c) (hK : Kn cA D s) (hT : TL Λ) (hM : 0 ≤ R.frames ∧ 0 ≤ R.locals) (a0 : Nat) (s9 : (Int64 × Int32)) (k0 : isK Λ a0 3) {r : (Int64 × Int32) ⊕ Int64} (h : bd_X2_inkedRows_4 Λ σ a0 s9 = some r) (kb : ∀ z : (Int64 × Int32), r = .inl z → ∀ (H : Heap) (locs : List Loc) (ls : Array Slot), Rep cA D Λ σ H → va_S (dm Λ) s.heap H locs → lv_has ls 4 [(0, .ref a0), (1, .long z.1), (3, .int z.2)] → W p l e R s m args below meth c H locs 0 0 Q (F0 m 4 ls [])) (kx0 : ∀ z : Int64, r = .inr z → ∀ (H : Heap) (locs : List Loc) (ls : Array Slot), Rep cA D Λ σ H → va_S (dm Λ) s.heap H locs → lv_has ls 4 [(1, .long z)] → W p l e R s m args below meth c H locs 0 0 Q (F0 m 35 ls [])) (H : Heap) (locs : List Loc) (ls : Array Slot) (hR : Rep cA D Λ σ H) (hS : va_S (dm Λ) s.heap H locs) (hl : lv_has ls 4 [(0, .ref a0), (1, .long s9.1), (3, .int s9.2)]) : W p l e R s m args below meth c H locs 0 0 Q (F0 m 4 ls []) := by
  have hx := X.1
  have hb := X.2.1
  have hown := X.2.2.2.2.1
  have hts := X.2.2.2.2.2.1
  unfold bd_X2_inkedRows_4 at h
  refine lv_iload_n hx hb dX2_inkedRows_4 rfl (lv_at hl 2 rfl) ?_
  refine lv_aload_n hx hb dX2_inkedRows_5 rfl (lv_at hl 0 rfl) ?_
  refine rw_getI X hK hR 3 1 k0 (by decide) (C := RX2) (T := TX2) (N := 3) rfl (by decide) in_X2_inkedRows_3 (by decide +kernel) rfl dX2_inkedRows_6 ?_
  refine lv_icmp_ge (tgt := 35) hx hb dX2_inkedRows_9 (by decide) (fun hc => ?_) (fun hc => ?_)
  · have h := of_pos hc h
    exact kx0 s9.1 (Option.some.inj h).symm H locs ls hR hS (lv_sub hl [1] rfl)
  · have h := of_neg hc h
    refine lv_aload_n hx hb dX2_inkedRows_12 rfl (lv_at hl 0 rfl) ?_
    refine rw_getR X hK hT hR 3 2 8 k0 (by decide) (C := RX2) (T := TX2) (N := 3) rfl (by decide) in_X2_inkedRows_3 (by decide +kernel) rfl dX2_inkedRows_13 (fun kf_1 => ?_)
    refine lv_iload_n hx hb dX2_inkedRows_16 rfl (lv_at hl 2 rfl) ?_
    obtain ⟨hg_2, h⟩ := of_guard h
    refine rw_lald X hK hR kf_1 hg_2 dX2_inkedRows_17 ?_
    refine lv_lconst (v := (0 : Int64)) hx hb dX2_inkedRows_18 (by decide) ?_
    refine W.lcmp hx hb dX2_inkedRows_19 ?_
    refine lv_if_eq (tgt := 29) hx hb dX2_inkedRows_20 (by decide) (fun hc => ?_) (fun hc => ?_)
    · have h := of_pos hc h
      exact w_jp_X2_inkedRows_29 X hK hT hM a0 s9.1 s9.2 k0 h kb kx0 H locs ls hR hS (lv_sub hl [0, 1, 2] rfl)
    · have h := of_neg hc h
      refine lv_lload_n hx hb dX2_inkedRows_23 rfl (lv_at hl 1 rfl) ?_
      refine lv_lconst (v := (1 : Int64)) hx hb dX2_inkedRows_24 (by decide) ?_
      refine lv_iload_n hx hb dX2_inkedRows_25 rfl (lv_at hl 2 rfl) ?_
      refine lv_lshl (v := (shlL (1 : Int64) s9.2)) hx hb dX2_inkedRows_26 rfl ?_
      refine lv_lor hx hb dX2_inkedRows_27 ?_
      refine lv_topl (fun v_4 e_v_4 => ?_)
      have h := of_nm e_v_4 h
      refine lv_lstore_n (lv' := [(1, .long v_4), (0, .ref a0), (3, .int s9.2)]) hx hb dX2_inkedRows_28 rfl hl (by decide) rfl (fun ls hl => ?_)
      exact w_jp_X2_inkedRows_29 X hK hT hM a0 v_4 s9.2 k0 h kb kx0 H locs ls hR hS (lv_sub hl [1, 0, 2] rfl)

set_option maxHeartbeats 4000000 in
set_option maxRecDepth 100000 in
theorem w_lp_X2_inkedRows_4 (X : Cx cX2_inkedRows (some .long) 4 RX2 wsX2_inkedRows p s m args meth c) (hK : Kn cA D s) (hT : TL Λ) (hM : 0 ≤ R.frames ∧ 0 ≤ R.locals) (a0 : Nat) (k0 : isK Λ a0 3) {e9 : Int64} : ∀ (n9 : Nat) (s9 : (Int64 × Int32)), iter (bd_X2_inkedRows_4 Λ σ a0) n9 s9 = some e9 → ∀ (kx0 : ∀ (H : Heap) (locs : List Loc) (ls : Array Slot), Rep cA D Λ σ H → va_S (dm Λ) s.heap H locs → lv_has ls 4 [(1, .long e9)] → W p l e R s m args below meth c H locs 0 0 Q (F0 m 35 ls [])), ∀ (H : Heap) (locs : List Loc) (ls : Array Slot), Rep cA D Λ σ H → va_S (dm Λ) s.heap H locs → lv_has ls 4 [(0, .ref a0), (1, .long s9.1), (3, .int s9.2)] → W p l e R s m args below meth c H locs 0 0 Q (F0 m 4 ls []) := by
  intro n9
  induction n9 with
  | zero => intro s9 h; cases h
  | succ n9 ih =>
    intro s9 h kx0 H locs ls hR hS hl
    obtain ⟨r, hr, h⟩ := of_iter h
    refine w_bd_X2_inkedRows_4 X hK hT hM a0 s9 k0 hr (fun z ez H locs ls hR hS hl => ?_) (fun z ez H locs ls hR hS hl => ?_) H locs ls hR hS hl
    · exact ih z (of_itl ez h) kx0 H locs ls hR hS hl
    · have he := of_itr ez h; subst he; exact kx0 H locs ls hR hS hl

set_option maxHeartbeats 4000000 in
set_option maxRecDepth 100000 in
theorem w_X2_inkedRows (X : Cx cX2_inkedRows (some .long) 4 RX2 wsX2_inkedRows p s m args meth c) (hK : Kn cA D s) (hT : TL Λ) (hM : 0 ≤ R.frames ∧ 0 ≤ R.locals) (a0 : Nat) (k0 : isK Λ a0 3) {res : Int64} (h : F_X2_inkedRows Λ σ a0 = some res) (H : Heap) (locs : List Loc) (ls : Array Slot) (hR : Rep cA D Λ σ H) (hS : va_S (dm Λ) s.heap H locs) (hl : lv_has ls 4 [(0, .ref a0)]) : W p l e R s m args below meth c H locs 0 0 (MQ below (QL cA D Λ (res, σ)) args s 0 0 (dm Λ)) (F0 m 0 ls []) := by
  have hx := X.1
  have hb := X.2.1
  have hown := X.2.2.2.2.1
  have hts := X.2.2.2.2.2.1
  unfold F_X2_inkedRows at h
  refine lv_lconst (v := (0 : Int64)) hx hb dX2_inkedRows_0 (by decide) ?_
  refine lv_lstore_n (lv' := [(1, .long (0 : Int64)), (0, .ref a0)]) hx hb dX2_inkedRows_1 rfl hl (by decide) rfl (fun ls hl => ?_)
  refine lv_iconst (v := (0 : Int32)) hx hb dX2_inkedRows_2 (by decide) ?_
  refine lv_istore_n (lv' := [(3, .int (0 : Int32)), (1, .long (0 : Int64)), (0, .ref a0)]) hx hb dX2_inkedRows_3 rfl hl (by decide) rfl (fun ls hl => ?_)
  obtain ⟨e_5, hq_5, h⟩ := of_bind h
  refine w_lp_X2_inkedRows_4 X hK hT hM a0 k0 _ ((0 : Int64), (0 : Int32)) hq_5 (fun H locs ls hR hS hl => ?_) H locs ls hR hS (lv_sub hl [2, 1, 0] rfl)
  refine lv_lload_n hx hb dX2_inkedRows_35 rfl (lv_at hl 0 rfl) ?_
  exact rt_l X hR hS (congrArg (fun z => (z, σ)) (Option.some.inj h)) dX2_inkedRows_36

set_option maxHeartbeats 4000000 in
set_option maxRecDepth 100000 in
theorem c_X2_inkedRows (l : Launch) (cA : Nat → ClassId) (D : va_G) (Λ : Lay) (hT : TL Λ) (σ : Sto) (a0 : Nat) (k0 : isK Λ a0 3) {res : Int64} (h : F_X2_inkedRows Λ σ a0 = some res) : Met l yX2_inkedRows wsX2_inkedRows { frames := 0, cells := 0, slots := 0, locals := 0 } (va_Pc [.ref a0] (PW cA D Λ σ)) (QL cA D Λ (res, σ)) 0 0 (dm Λ) := by
  refine Met.ofW (cc := cX2_inkedRows) (maxL := 4) (ret := (some .long)) (by decide) rfl ?_
  intro p e s m args below meth c s₁ B hml hv
  obtain ⟨rfl, hR, hK⟩ := hv
  have X : Cx cX2_inkedRows (some .long) 4 RX2 wsX2_inkedRows p s m _ meth c := ⟨B.exec, B.bytes, B.returns, hml, findClass_of_methodNamed B.named, atoms_spec (ws := wsX2_inkedRows) B.pre, B.notSynchronized⟩
  have hS : va_S (dm Λ) s.heap s.heap [] := va_S.rf
  have hl := lv_entry ([.ref a0]) (n := 4) (Nat.le_of_ble_eq_true rfl)
  rw [lg_entry_eq]
  generalize (lg_sl ([.ref a0]) ++ List.replicate (4 - (lg_sl ([.ref a0])).length) Slot.unset).toArray = ls at hl ⊢
  have hl : lv_has ls 4 [(0, .ref a0)] := hl
  exact w_X2_inkedRows X hK hT ⟨Nat.le_refl _, Nat.le_refl _⟩ a0 k0 h s.heap [] ls hR hS hl
set_option maxHeartbeats 4000000 in
set_option maxRecDepth 100000 in
theorem w_X2_hasInk (X : Cx cX2_hasInk (some .boolean) 1 RX2 wsX2_hasInk p s m args meth c) (hK : Kn cA D s) (hT : TL Λ) (hM : 1 ≤ R.frames ∧ 23 ≤ R.locals) (a0 : Nat) (k0 : isK Λ a0 3) {res : Int32} (h : F_X2_hasInk Λ σ a0 = some res) (H : Heap) (locs : List Loc) (ls : Array Slot) (hR : Rep cA D Λ σ H) (hS : va_S (dm Λ) s.heap H locs) (hl : lv_has ls 1 [(0, .ref a0)]) : W p l e R s m args below meth c H locs 0 0 (MQ below (QZ cA D Λ (res, σ)) args s 0 0 (dm Λ)) (F0 m 0 ls []) := by
  have hx := X.1
  have hb := X.2.1
  have hown := X.2.2.2.2.1
  have hts := X.2.2.2.2.2.1
  unfold F_X2_hasInk at h
  refine lv_aload_n hx hb dX2_hasInk_0 rfl (lv_at hl 0 rfl) ?_
  obtain ⟨q_1, hq_1, h⟩ := of_bind h
  refine cl_l (rn_V (As := []) (rest := []) X hK hR k0 rfl (by decide) hl.1 (c_X2_inkedColumns l cA D Λ hT σ a0 k0 hq_1) (cwV 0 hts gX2_hasInk_X2_inkedColumns rfl rfl rfl (by decide +kernel) ⟨Nat.le_trans (by decide) hM.1, Nat.le_trans (by decide) hM.2⟩) rfl rfl (Nat.le_of_ble_eq_true rfl) dX2_hasInk_1) hS (fun H locs hR hS => ?_)
  refine lv_lconst (v := (0 : Int64)) hx hb dX2_hasInk_4 (by decide) ?_
  refine W.lcmp hx hb dX2_hasInk_5 ?_
  refine lv_if_eq (tgt := 13) hx hb dX2_hasInk_6 (by decide) (fun hc => ?_) (fun hc => ?_)
  · have h := of_pos hc h
    refine lv_iconst (v := (0 : Int32)) hx hb dX2_hasInk_13 (by decide) ?_
    exact rt_z X hR hS (congrArg (fun z => (z, σ)) (Option.some.inj h)) (Or.inl rfl) dX2_hasInk_14
  · have h := of_neg hc h
    refine lv_iconst (v := (1 : Int32)) hx hb dX2_hasInk_9 (by decide) ?_
    refine lv_goto (tgt := 14) hx hb dX2_hasInk_10 (by decide) ?_
    exact rt_z X hR hS (congrArg (fun z => (z, σ)) (Option.some.inj h)) (Or.inr rfl) dX2_hasInk_14

set_option maxHeartbeats 4000000 in
set_option maxRecDepth 100000 in
theorem c_X2_hasInk (l : Launch) (cA : Nat → ClassId) (D : va_G) (Λ : Lay) (hT : TL Λ) (σ : Sto) (a0 : Nat) (k0 : isK Λ a0 3) {res : Int32} (h : F_X2_hasInk Λ σ a0 = some res) : Met l yX2_hasInk wsX2_hasInk { frames := 1, cells := 0, slots := 0, locals := 23 } (va_Pc [.ref a0] (PW cA D Λ σ)) (QZ cA D Λ (res, σ)) 0 0 (dm Λ) := by
  refine Met.ofW (cc := cX2_hasInk) (maxL := 1) (ret := (some .boolean)) (by decide) rfl ?_
  intro p e s m args below meth c s₁ B hml hv
  obtain ⟨rfl, hR, hK⟩ := hv
  have X : Cx cX2_hasInk (some .boolean) 1 RX2 wsX2_hasInk p s m _ meth c := ⟨B.exec, B.bytes, B.returns, hml, findClass_of_methodNamed B.named, atoms_spec (ws := wsX2_hasInk) B.pre, B.notSynchronized⟩
  have hS : va_S (dm Λ) s.heap s.heap [] := va_S.rf
  have hl := lv_entry ([.ref a0]) (n := 1) (Nat.le_of_ble_eq_true rfl)
  rw [lg_entry_eq]
  generalize (lg_sl ([.ref a0]) ++ List.replicate (1 - (lg_sl ([.ref a0])).length) Slot.unset).toArray = ls at hl ⊢
  have hl : lv_has ls 1 [(0, .ref a0)] := hl
  exact w_X2_hasInk X hK hT ⟨Nat.le_refl _, Nat.le_refl _⟩ a0 k0 h s.heap [] ls hR hS hl
theorem in_X2_steps_3 : ∀ w ∈ u_ws RX2 TX2 3, w ∈ wsX2_steps := by decide +kernel
set_option maxHeartbeats 4000000 in
set_option maxRecDepth 100000 in
theorem w_X2_steps (X : Cx cX2_steps (some .int) 1 RX2 wsX2_steps p s m args meth c) (hK : Kn cA D s) (hT : TL Λ) (hM : 0 ≤ R.frames ∧ 0 ≤ R.locals) (a0 : Nat) (k0 : isK Λ a0 3) {res : Int32} (h : F_X2_steps Λ σ a0 = res) (H : Heap) (locs : List Loc) (ls : Array Slot) (hR : Rep cA D Λ σ H) (hS : va_S (dm Λ) s.heap H locs) (hl : lv_has ls 1 [(0, .ref a0)]) : W p l e R s m args below meth c H locs 0 0 (MQ below (QI cA D Λ (res, σ)) args s 0 0 (dm Λ)) (F0 m 0 ls []) := by
  have hx := X.1
  have hb := X.2.1
  have hown := X.2.2.2.2.1
  have hts := X.2.2.2.2.2.1
  unfold F_X2_steps at h
  refine lv_aload_n hx hb dX2_steps_0 rfl (lv_at hl 0 rfl) ?_
  refine rw_getI X hK hR 3 0 k0 (by decide) (C := RX2) (T := TX2) (N := 3) rfl (by decide) in_X2_steps_3 (by decide +kernel) rfl dX2_steps_1 ?_
  refine lv_bipush (v := (7 : Int32)) hx hb dX2_steps_4 (by decide) ?_
  refine lv_iadd hx hb dX2_steps_6 ?_
  refine lv_bipush (v := (8 : Int32)) hx hb dX2_steps_7 (by decide) ?_
  refine lv_idiv hx hb dX2_steps_9 (by decide) ?_
  exact rt_i X hR hS (congrArg (fun z => (z, σ)) h) dX2_steps_10

set_option maxHeartbeats 4000000 in
set_option maxRecDepth 100000 in
theorem c_X2_steps (l : Launch) (cA : Nat → ClassId) (D : va_G) (Λ : Lay) (hT : TL Λ) (σ : Sto) (a0 : Nat) (k0 : isK Λ a0 3) : Met l yX2_steps wsX2_steps { frames := 0, cells := 0, slots := 0, locals := 0 } (va_Pc [.ref a0] (PW cA D Λ σ)) (QI cA D Λ ((F_X2_steps Λ σ a0), σ)) 0 0 (dm Λ) := by
  refine Met.ofW (cc := cX2_steps) (maxL := 1) (ret := (some .int)) (by decide) rfl ?_
  intro p e s m args below meth c s₁ B hml hv
  obtain ⟨rfl, hR, hK⟩ := hv
  have X : Cx cX2_steps (some .int) 1 RX2 wsX2_steps p s m _ meth c := ⟨B.exec, B.bytes, B.returns, hml, findClass_of_methodNamed B.named, atoms_spec (ws := wsX2_steps) B.pre, B.notSynchronized⟩
  have hS : va_S (dm Λ) s.heap s.heap [] := va_S.rf
  have hl := lv_entry ([.ref a0]) (n := 1) (Nat.le_of_ble_eq_true rfl)
  rw [lg_entry_eq]
  generalize (lg_sl ([.ref a0]) ++ List.replicate (1 - (lg_sl ([.ref a0])).length) Slot.unset).toArray = ls at hl ⊢
  have hl : lv_has ls 1 [(0, .ref a0)] := hl
  exact w_X2_steps X hK hT ⟨Nat.le_refl _, Nat.le_refl _⟩ a0 k0 rfl s.heap [] ls hR hS hl
set_option maxHeartbeats 4000000 in
set_option maxRecDepth 100000 in
theorem w_X4_stepColumns (X : Cx cX4_stepColumns (some .long) 1 RX4 wsX4_stepColumns p s m args meth c) (hK : Kn cA D s) (hT : TL Λ) (hM : 0 ≤ R.frames ∧ 0 ≤ R.locals) (l0 : Int32) {res : Int64} (h : F_X4_stepColumns l0 = res) (H : Heap) (locs : List Loc) (ls : Array Slot) (hR : Rep cA D Λ σ H) (hS : va_S (dm Λ) s.heap H locs) (hl : lv_has ls 1 [(0, .int l0)]) : W p l e R s m args below meth c H locs 0 0 (MQ below (QL cA D Λ (res, σ)) args s 0 0 (dm Λ)) (F0 m 0 ls []) := by
  have hx := X.1
  have hb := X.2.1
  have hown := X.2.2.2.2.1
  have hts := X.2.2.2.2.2.1
  unfold F_X4_stepColumns at h
  refine lv_ldc2 (v := (255 : Int64)) hx hb hown (hts (.constantLong RX4 238 (255)) (by decide +kernel)) dX4_stepColumns_0 ?_
  refine lv_bipush (v := (8 : Int32)) hx hb dX4_stepColumns_3 (by decide) ?_
  refine lv_iload_n hx hb dX4_stepColumns_5 rfl (lv_at hl 0 rfl) ?_
  refine lv_imul hx hb dX4_stepColumns_6 ?_
  refine lv_lshl (v := (shlL (255 : Int64) ((8 : Int32) * l0))) hx hb dX4_stepColumns_7 rfl ?_
  exact rt_l X hR hS (congrArg (fun z => (z, σ)) h) dX4_stepColumns_8

set_option maxHeartbeats 4000000 in
set_option maxRecDepth 100000 in
theorem c_X4_stepColumns (l : Launch) (cA : Nat → ClassId) (D : va_G) (Λ : Lay) (hT : TL Λ) (σ : Sto) (l0 : Int32) : Met l yX4_stepColumns wsX4_stepColumns { frames := 0, cells := 0, slots := 0, locals := 0 } (va_Pc [.int l0] (PW cA D Λ σ)) (QL cA D Λ ((F_X4_stepColumns l0), σ)) 0 0 (dm Λ) := by
  refine Met.ofW (cc := cX4_stepColumns) (maxL := 1) (ret := (some .long)) (by decide) rfl ?_
  intro p e s m args below meth c s₁ B hml hv
  obtain ⟨rfl, hR, hK⟩ := hv
  have X : Cx cX4_stepColumns (some .long) 1 RX4 wsX4_stepColumns p s m _ meth c := ⟨B.exec, B.bytes, B.returns, hml, findClass_of_methodNamed B.named, atoms_spec (ws := wsX4_stepColumns) B.pre, B.notSynchronized⟩
  have hS : va_S (dm Λ) s.heap s.heap [] := va_S.rf
  have hl := lv_entry ([.int l0]) (n := 1) (Nat.le_of_ble_eq_true rfl)
  rw [lg_entry_eq]
  generalize (lg_sl ([.int l0]) ++ List.replicate (1 - (lg_sl ([.int l0])).length) Slot.unset).toArray = ls at hl ⊢
  have hl : lv_has ls 1 [(0, .int l0)] := hl
  exact w_X4_stepColumns X hK hT ⟨Nat.le_refl _, Nat.le_refl _⟩ l0 rfl s.heap [] ls hR hS hl
theorem in_X2_footOf_3 : ∀ w ∈ u_ws RX2 TX2 3, w ∈ wsX2_footOf := by decide +kernel
set_option maxHeartbeats 4000000 in
set_option maxRecDepth 100000 in
theorem w_bd_X2_footOf_7 (X : Cx cX2_footOf (some .int) 3 RX2 wsX2_footOf p s m args meth c) (hK : Kn cA D s) (hT : TL Λ) (hM : 1 ≤ R.frames ∧ 20 ≤ R.locals) (a0 : Nat) (l1 : Int32) (s9 : Int32) (k0 : isK Λ a0 3) {r : Int32 ⊕ Int32} (h : bd_X2_footOf_7 Λ σ a0 l1 s9 = some r) (kb : ∀ z : Int32, r = .inl z → ∀ (H : Heap) (locs : List Loc) (ls : Array Slot), Rep cA D Λ σ H → va_S (dm Λ) s.heap H locs → lv_has ls 3 [(0, .ref a0), (1, .int l1), (2, .int z)] → W p l e R s m args below meth c H locs 0 0 Q (F0 m 7 ls [])) (kx0 : ∀ z : Int32, r = .inr z → ∀ (H : Heap) (locs : List Loc) (ls : Array Slot), Rep cA D Λ σ H → va_S (dm Λ) s.heap H locs → lv_has ls 3 [(2, .int z)] → W p l e R s m args below meth c H locs 0 0 Q (F0 m 33 ls [])) (H : Heap) (locs : List Loc) (ls : Array Slot) (hR : Rep cA D Λ σ H) (hS : va_S (dm Λ) s.heap H locs) (hl : lv_has ls 3 [(0, .ref a0), (1, .int l1), (2, .int s9)]) : W p l e R s m args below meth c H locs 0 0 Q (F0 m 7 ls []) := by
  have hx := X.1
  have hb := X.2.1
  have hown := X.2.2.2.2.1
  have hts := X.2.2.2.2.2.1
  unfold bd_X2_footOf_7 at h
  refine lv_iload_n hx hb dX2_footOf_7 rfl (lv_at hl 2 rfl) ?_
  refine lv_if_lt (tgt := 33) hx hb dX2_footOf_8 (by decide) (fun hc => ?_) (fun hc => ?_)
  · have h := of_pos hc h
    exact kx0 s9 (Option.some.inj h).symm H locs ls hR hS (lv_sub hl [2] rfl)
  · have h := of_neg hc h
    refine lv_aload_n hx hb dX2_footOf_11 rfl (lv_at hl 0 rfl) ?_
    refine rw_getR X hK hT hR 3 2 8 k0 (by decide) (C := RX2) (T := TX2) (N := 3) rfl (by decide) in_X2_footOf_3 (by decide +kernel) rfl dX2_footOf_12 (fun kf_2 => ?_)
    refine lv_iload_n hx hb dX2_footOf_15 rfl (lv_at hl 2 rfl) ?_
    obtain ⟨hg_3, h⟩ := of_guard h
    refine rw_lald X hK hR kf_2 hg_3 dX2_footOf_16 ?_
    refine lv_iload_n hx hb dX2_footOf_17 rfl (lv_at hl 1 rfl) ?_
    refine cl_l (rn_SN (As := [.int l1]) (rest := [.long (σ.2 (rfA Λ a0 2) s9.toNatClampNeg)]) X hK hR hl.1 (c_X4_stepColumns l cA D Λ hT σ l1) ⟨va_cnB 1 hts gX2_footOf_X4_stepColumns_n58 rfl rfl rfl (hK.2 (.methodLinkNest RX2 58 yX4_stepColumns RX4) (by decide +kernel)) (hts (.initialized RX4) (by decide +kernel)) (by decide +kernel) ⟨Nat.le_trans (by decide) hM.1, Nat.le_trans (by decide) hM.2⟩, hts (.static yX4_stepColumns) (by decide +kernel), trivial⟩ rfl rfl (Nat.le_of_ble_eq_true rfl) dX2_footOf_18) hS (fun H locs hR hS => ?_)
    refine lv_topl (fun r_4 e_4 => ?_)
    have h := of_nm e_4 h
    refine lv_land hx hb dX2_footOf_21 ?_
    refine lv_lconst (v := (0 : Int64)) hx hb dX2_footOf_22 (by decide) ?_
    refine W.lcmp hx hb dX2_footOf_23 ?_
    refine lv_if_ne (tgt := 33) hx hb dX2_footOf_24 (by decide) (fun hc => ?_) (fun hc => ?_)
    · have h := of_neg hc h
      exact kx0 s9 (Option.some.inj h).symm H locs ls hR hS (lv_sub hl [2] rfl)
    · have h := of_pos hc h
      obtain ⟨v_5, e_v_5⟩ : ∃ y : Int32, y = (s9 + (-1 : Int32)) := ⟨_, rfl⟩
      have h := of_nm e_v_5 h
      refine lv_iinc (v := v_5) (lv' := [(2, .int v_5), (0, .ref a0), (1, .int l1)]) hx hb dX2_footOf_27 hl (k := 2) rfl (by rw [e_v_5]; rfl) (by decide) rfl (fun ls hl => ?_)
      refine lv_goto (tgt := 7) hx hb dX2_footOf_30 (by decide) ?_
      exact kb v_5 (Option.some.inj h).symm H locs ls hR hS (lv_sub hl [1, 2, 0] rfl)

set_option maxHeartbeats 4000000 in
set_option maxRecDepth 100000 in
theorem w_lp_X2_footOf_7 (X : Cx cX2_footOf (some .int) 3 RX2 wsX2_footOf p s m args meth c) (hK : Kn cA D s) (hT : TL Λ) (hM : 1 ≤ R.frames ∧ 20 ≤ R.locals) (a0 : Nat) (l1 : Int32) (k0 : isK Λ a0 3) {e9 : Int32} : ∀ (n9 : Nat) (s9 : Int32), iter (bd_X2_footOf_7 Λ σ a0 l1) n9 s9 = some e9 → ∀ (kx0 : ∀ (H : Heap) (locs : List Loc) (ls : Array Slot), Rep cA D Λ σ H → va_S (dm Λ) s.heap H locs → lv_has ls 3 [(2, .int e9)] → W p l e R s m args below meth c H locs 0 0 Q (F0 m 33 ls [])), ∀ (H : Heap) (locs : List Loc) (ls : Array Slot), Rep cA D Λ σ H → va_S (dm Λ) s.heap H locs → lv_has ls 3 [(0, .ref a0), (1, .int l1), (2, .int s9)] → W p l e R s m args below meth c H locs 0 0 Q (F0 m 7 ls []) := by
  intro n9
  induction n9 with
  | zero => intro s9 h; cases h
  | succ n9 ih =>
    intro s9 h kx0 H locs ls hR hS hl
    obtain ⟨r, hr, h⟩ := of_iter h
    refine w_bd_X2_footOf_7 X hK hT hM a0 l1 s9 k0 hr (fun z ez H locs ls hR hS hl => ?_) (fun z ez H locs ls hR hS hl => ?_) H locs ls hR hS hl
    · exact ih z (of_itl ez h) kx0 H locs ls hR hS hl
    · have he := of_itr ez h; subst he; exact kx0 H locs ls hR hS hl

set_option maxHeartbeats 4000000 in
set_option maxRecDepth 100000 in
theorem w_X2_footOf (X : Cx cX2_footOf (some .int) 3 RX2 wsX2_footOf p s m args meth c) (hK : Kn cA D s) (hT : TL Λ) (hM : 1 ≤ R.frames ∧ 20 ≤ R.locals) (a0 : Nat) (l1 : Int32) (k0 : isK Λ a0 3) {res : Int32} (h : F_X2_footOf Λ σ a0 l1 = some res) (H : Heap) (locs : List Loc) (ls : Array Slot) (hR : Rep cA D Λ σ H) (hS : va_S (dm Λ) s.heap H locs) (hl : lv_has ls 3 [(0, .ref a0), (1, .int l1)]) : W p l e R s m args below meth c H locs 0 0 (MQ below (QI cA D Λ (res, σ)) args s 0 0 (dm Λ)) (F0 m 0 ls []) := by
  have hx := X.1
  have hb := X.2.1
  have hown := X.2.2.2.2.1
  have hts := X.2.2.2.2.2.1
  unfold F_X2_footOf at h
  refine lv_aload_n hx hb dX2_footOf_0 rfl (lv_at hl 0 rfl) ?_
  refine rw_getI X hK hR 3 1 k0 (by decide) (C := RX2) (T := TX2) (N := 3) rfl (by decide) in_X2_footOf_3 (by decide +kernel) rfl dX2_footOf_1 ?_
  refine lv_iconst (v := (1 : Int32)) hx hb dX2_footOf_4 (by decide) ?_
  refine lv_isub hx hb dX2_footOf_5 ?_
  refine lv_topi (fun v_1 e_v_1 => ?_)
  have h := of_nm e_v_1 h
  refine lv_istore_n (lv' := [(2, .int v_1), (0, .ref a0), (1, .int l1)]) hx hb dX2_footOf_6 rfl hl (by decide) rfl (fun ls hl => ?_)
  obtain ⟨e_6, hq_6, h⟩ := of_bind h
  refine w_lp_X2_footOf_7 X hK hT hM a0 l1 k0 _ v_1 hq_6 (fun H locs ls hR hS hl => ?_) H locs ls hR hS (lv_sub hl [1, 2, 0] rfl)
  refine lv_iload_n hx hb dX2_footOf_33 rfl (lv_at hl 0 rfl) ?_
  exact rt_i X hR hS (congrArg (fun z => (z, σ)) (Option.some.inj h)) dX2_footOf_34

set_option maxHeartbeats 4000000 in
set_option maxRecDepth 100000 in
theorem c_X2_footOf (l : Launch) (cA : Nat → ClassId) (D : va_G) (Λ : Lay) (hT : TL Λ) (σ : Sto) (a0 : Nat) (l1 : Int32) (k0 : isK Λ a0 3) {res : Int32} (h : F_X2_footOf Λ σ a0 l1 = some res) : Met l yX2_footOf wsX2_footOf { frames := 1, cells := 0, slots := 0, locals := 20 } (va_Pc [.ref a0, .int l1] (PW cA D Λ σ)) (QI cA D Λ (res, σ)) 0 0 (dm Λ) := by
  refine Met.ofW (cc := cX2_footOf) (maxL := 3) (ret := (some .int)) (by decide) rfl ?_
  intro p e s m args below meth c s₁ B hml hv
  obtain ⟨rfl, hR, hK⟩ := hv
  have X : Cx cX2_footOf (some .int) 3 RX2 wsX2_footOf p s m _ meth c := ⟨B.exec, B.bytes, B.returns, hml, findClass_of_methodNamed B.named, atoms_spec (ws := wsX2_footOf) B.pre, B.notSynchronized⟩
  have hS : va_S (dm Λ) s.heap s.heap [] := va_S.rf
  have hl := lv_entry ([.ref a0, .int l1]) (n := 3) (Nat.le_of_ble_eq_true rfl)
  rw [lg_entry_eq]
  generalize (lg_sl ([.ref a0, .int l1]) ++ List.replicate (3 - (lg_sl ([.ref a0, .int l1])).length) Slot.unset).toArray = ls at hl ⊢
  have hl : lv_has ls 3 [(0, .ref a0), (1, .int l1)] := hl
  exact w_X2_footOf X hK hT ⟨Nat.le_refl _, Nat.le_refl _⟩ a0 l1 k0 h s.heap [] ls hR hS hl
set_option maxHeartbeats 4000000 in
set_option maxRecDepth 100000 in
theorem w_J9_floorDiv_7cf53 (X : Cx cJ9_floorDiv_7cf53 (some .int) 3 RJ9 wsJ9_floorDiv_7cf53 p s m args meth c) (hK : Kn cA D s) (hT : TL Λ) (hM : 0 ≤ R.frames ∧ 0 ≤ R.locals) (l0 : Int32) (l1 : Int32) (hnz : ¬ l1 = 0) {res : Int32} (h : F_J9_floorDiv_7cf53 l0 l1 = res) (H : Heap) (locs : List Loc) (ls : Array Slot) (hR : Rep cA D Λ σ H) (hS : va_S (dm Λ) s.heap H locs) (hl : lv_has ls 3 [(0, .int l0), (1, .int l1)]) : W p l e R s m args below meth c H locs 0 0 (MQ below (QI cA D Λ (res, σ)) args s 0 0 (dm Λ)) (F0 m 0 ls []) := by
  have hx := X.1
  have hb := X.2.1
  have hown := X.2.2.2.2.1
  have hts := X.2.2.2.2.2.1
  unfold F_J9_floorDiv_7cf53 at h
  refine lv_iload_n hx hb dJ9_floorDiv_7cf53_0 rfl (lv_at hl 0 rfl) ?_
  refine lv_iload_n hx hb dJ9_floorDiv_7cf53_1 rfl (lv_at hl 1 rfl) ?_
  refine lv_idiv hx hb dJ9_floorDiv_7cf53_2 hnz ?_
  refine lv_topi (fun v_1 e_v_1 => ?_)
  have h := of_nm e_v_1 h
  refine lv_istore_n (lv' := [(2, .int v_1), (0, .int l0), (1, .int l1)]) hx hb dJ9_floorDiv_7cf53_3 rfl hl (by decide) rfl (fun ls hl => ?_)
  refine lv_iload_n hx hb dJ9_floorDiv_7cf53_4 rfl (lv_at hl 1 rfl) ?_
  refine lv_iload_n hx hb dJ9_floorDiv_7cf53_5 rfl (lv_at hl 2 rfl) ?_
  refine lv_ixor hx hb dJ9_floorDiv_7cf53_6 ?_
  refine lv_if_ge (tgt := 21) hx hb dJ9_floorDiv_7cf53_7 (by decide) (fun hc => ?_) (fun hc => ?_)
  · have h := of_pos hc h
    refine lv_iload_n hx hb dJ9_floorDiv_7cf53_21 rfl (lv_at hl 0 rfl) ?_
    exact rt_i X hR hS (congrArg (fun z => (z, σ)) h) dJ9_floorDiv_7cf53_22
  · have h := of_neg hc h
    refine lv_iload_n hx hb dJ9_floorDiv_7cf53_10 rfl (lv_at hl 0 rfl) ?_
    refine lv_iload_n hx hb dJ9_floorDiv_7cf53_11 rfl (lv_at hl 2 rfl) ?_
    refine lv_imul hx hb dJ9_floorDiv_7cf53_12 ?_
    refine lv_iload_n hx hb dJ9_floorDiv_7cf53_13 rfl (lv_at hl 1 rfl) ?_
    refine lv_icmp_eq (tgt := 21) hx hb dJ9_floorDiv_7cf53_14 (by decide) (fun hc => ?_) (fun hc => ?_)
    · have h := of_pos hc h
      refine lv_iload_n hx hb dJ9_floorDiv_7cf53_21 rfl (lv_at hl 0 rfl) ?_
      exact rt_i X hR hS (congrArg (fun z => (z, σ)) h) dJ9_floorDiv_7cf53_22
    · have h := of_neg hc h
      refine lv_iload_n hx hb dJ9_floorDiv_7cf53_17 rfl (lv_at hl 0 rfl) ?_
      refine lv_iconst (v := (1 : Int32)) hx hb dJ9_floorDiv_7cf53_18 (by decide) ?_
      refine lv_isub hx hb dJ9_floorDiv_7cf53_19 ?_
      exact rt_i X hR hS (congrArg (fun z => (z, σ)) h) dJ9_floorDiv_7cf53_20

set_option maxHeartbeats 4000000 in
set_option maxRecDepth 100000 in
theorem c_J9_floorDiv_7cf53 (l : Launch) (cA : Nat → ClassId) (D : va_G) (Λ : Lay) (hT : TL Λ) (σ : Sto) (l0 : Int32) (l1 : Int32) (hnz : ¬ l1 = 0) : Met l yJ9_floorDiv_7cf53 wsJ9_floorDiv_7cf53 { frames := 0, cells := 0, slots := 0, locals := 0 } (va_Pc [.int l0, .int l1] (PW cA D Λ σ)) (QI cA D Λ ((F_J9_floorDiv_7cf53 l0 l1), σ)) 0 0 (dm Λ) := by
  refine ofWF (cc := cJ9_floorDiv_7cf53) (maxL := 3) (ret := (some .int)) (by decide +kernel) rfl ?_
  intro p e s m args below meth c s₁ B hml hv
  obtain ⟨rfl, hR, hK⟩ := hv
  have X : Cx cJ9_floorDiv_7cf53 (some .int) 3 RJ9 wsJ9_floorDiv_7cf53 p s m _ meth c := ⟨B.exec, B.bytes, B.returns, hml, findClass_of_methodNamed B.named, atoms_spec (ws := wsJ9_floorDiv_7cf53) B.pre, B.notSynchronized⟩
  have hS : va_S (dm Λ) s.heap s.heap [] := va_S.rf
  have hl := lv_entry ([.int l0, .int l1]) (n := 3) (Nat.le_of_ble_eq_true rfl)
  rw [lg_entry_eq]
  generalize (lg_sl ([.int l0, .int l1]) ++ List.replicate (3 - (lg_sl ([.int l0, .int l1])).length) Slot.unset).toArray = ls at hl ⊢
  have hl : lv_has ls 3 [(0, .int l0), (1, .int l1)] := hl
  exact w_J9_floorDiv_7cf53 X hK hT ⟨Nat.le_refl _, Nat.le_refl _⟩ l0 l1 hnz rfl s.heap [] ls hR hS hl
set_option maxHeartbeats 4000000 in
set_option maxRecDepth 100000 in
theorem w_X4_slide (X : Cx cX4_slide (some .int) 2 RX4 wsX4_slide p s m args meth c) (hK : Kn cA D s) (hT : TL Λ) (hM : 1 ≤ R.frames ∧ 22 ≤ R.locals) (l0 : Int32) (l1 : Int32) {res : Int32} (h : F_X4_slide l0 l1 = res) (H : Heap) (locs : List Loc) (ls : Array Slot) (hR : Rep cA D Λ σ H) (hS : va_S (dm Λ) s.heap H locs) (hl : lv_has ls 2 [(0, .int l0), (1, .int l1)]) : W p l e R s m args below meth c H locs 0 0 (MQ below (QI cA D Λ (res, σ)) args s 0 0 (dm Λ)) (F0 m 0 ls []) := by
  have hx := X.1
  have hb := X.2.1
  have hown := X.2.2.2.2.1
  have hts := X.2.2.2.2.2.1
  unfold F_X4_slide at h
  refine lv_iload_n hx hb dX4_slide_0 rfl (lv_at hl 0 rfl) ?_
  refine lv_iload_n hx hb dX4_slide_1 rfl (lv_at hl 1 rfl) ?_
  refine lv_imul hx hb dX4_slide_2 ?_
  refine lv_bipush (v := (16 : Int32)) hx hb dX4_slide_3 (by decide) ?_
  refine cl_i (rn_S (As := [.int (l0 * l1), .int (16 : Int32)]) (rest := []) X hK hR hl.1 (c_J9_floorDiv_7cf53 l cA D Λ hT σ (l0 * l1) (16 : Int32) (by decide)) (va_cwS 2 hts gX4_slide_J9_floorDiv_7cf53 rfl rfl rfl (by decide +kernel) ⟨Nat.le_trans (by decide) hM.1, Nat.le_trans (by decide) hM.2⟩) rfl rfl (Nat.le_of_ble_eq_true rfl) dX4_slide_5) hS (fun H locs hR hS => ?_)
  refine lv_topi (fun r_1 e_1 => ?_)
  have h := of_nm e_1 h
  exact rt_i X hR hS (congrArg (fun z => (z, σ)) h) dX4_slide_8

set_option maxHeartbeats 4000000 in
set_option maxRecDepth 100000 in
theorem c_X4_slide (l : Launch) (cA : Nat → ClassId) (D : va_G) (Λ : Lay) (hT : TL Λ) (σ : Sto) (l0 : Int32) (l1 : Int32) : Met l yX4_slide wsX4_slide { frames := 1, cells := 0, slots := 0, locals := 22 } (va_Pc [.int l0, .int l1] (PW cA D Λ σ)) (QI cA D Λ ((F_X4_slide l0 l1), σ)) 0 0 (dm Λ) := by
  refine Met.ofW (cc := cX4_slide) (maxL := 2) (ret := (some .int)) (by decide) rfl ?_
  intro p e s m args below meth c s₁ B hml hv
  obtain ⟨rfl, hR, hK⟩ := hv
  have X : Cx cX4_slide (some .int) 2 RX4 wsX4_slide p s m _ meth c := ⟨B.exec, B.bytes, B.returns, hml, findClass_of_methodNamed B.named, atoms_spec (ws := wsX4_slide) B.pre, B.notSynchronized⟩
  have hS : va_S (dm Λ) s.heap s.heap [] := va_S.rf
  have hl := lv_entry ([.int l0, .int l1]) (n := 2) (Nat.le_of_ble_eq_true rfl)
  rw [lg_entry_eq]
  generalize (lg_sl ([.int l0, .int l1]) ++ List.replicate (2 - (lg_sl ([.int l0, .int l1])).length) Slot.unset).toArray = ls at hl ⊢
  have hl : lv_has ls 2 [(0, .int l0), (1, .int l1)] := hl
  exact w_X4_slide X hK hT ⟨Nat.le_refl _, Nat.le_refl _⟩ l0 l1 rfl s.heap [] ls hR hS hl
set_option maxHeartbeats 4000000 in
set_option maxRecDepth 100000 in
theorem w_X4_leastSlide (X : Cx cX4_leastSlide (some .int) 2 RX4 wsX4_leastSlide p s m args meth c) (hK : Kn cA D s) (hT : TL Λ) (hM : 2 ≤ R.frames ∧ 43 ≤ R.locals) (l0 : Int32) (l1 : Int32) {res : Int32} (h : F_X4_leastSlide l0 l1 = res) (H : Heap) (locs : List Loc) (ls : Array Slot) (hR : Rep cA D Λ σ H) (hS : va_S (dm Λ) s.heap H locs) (hl : lv_has ls 2 [(0, .int l0), (1, .int l1)]) : W p l e R s m args below meth c H locs 0 0 (MQ below (QI cA D Λ (res, σ)) args s 0 0 (dm Λ)) (F0 m 0 ls []) := by
  have hx := X.1
  have hb := X.2.1
  have hown := X.2.2.2.2.1
  have hts := X.2.2.2.2.2.1
  unfold F_X4_leastSlide at h
  refine lv_iconst (v := (0 : Int32)) hx hb dX4_leastSlide_0 (by decide) ?_
  refine lv_iload_n hx hb dX4_leastSlide_1 rfl (lv_at hl 0 rfl) ?_
  refine lv_iload_n hx hb dX4_leastSlide_2 rfl (lv_at hl 1 rfl) ?_
  refine lv_iconst (v := (1 : Int32)) hx hb dX4_leastSlide_3 (by decide) ?_
  refine lv_isub hx hb dX4_leastSlide_4 ?_
  refine cl_i (rn_S (As := [.int l0, .int (l1 - (1 : Int32))]) (rest := [.int (0 : Int32)]) X hK hR hl.1 (c_X4_slide l cA D Λ hT σ l0 (l1 - (1 : Int32))) (va_cwS 2 hts gX4_leastSlide_X4_slide rfl rfl rfl (by decide +kernel) ⟨Nat.le_trans (by decide) hM.1, Nat.le_trans (by decide) hM.2⟩) rfl rfl (Nat.le_of_ble_eq_true rfl) dX4_leastSlide_5) hS (fun H locs hR hS => ?_)
  refine lv_topi (fun r_1 e_1 => ?_)
  have h := of_nm e_1 h
  refine va_mmin hx hb (X.2.2.2.1.trans hl.1.symm) hown (hts (.methodLink RX4 100 Lib.Math.min.name) (by decide +kernel)) (hts (.static Lib.Math.min.name) (by decide +kernel)) (hts (.initialized "java/lang/Math") (by decide +kernel)) (hts (.code Lib.Math.min.name Lib.Math.min.code 2 (some .int)) (by decide +kernel)) (Nat.le_trans (by decide) hM.1) (Nat.le_trans (Nat.le_of_ble_eq_true rfl) hM.2) (Nat.zero_le _) (Nat.zero_le _) dX4_leastSlide_8 ?_
  refine lv_topi (fun r_2 e_2 => ?_)
  have h := of_nm e_2 h
  exact rt_i X hR hS (congrArg (fun z => (z, σ)) h) dX4_leastSlide_11

set_option maxHeartbeats 4000000 in
set_option maxRecDepth 100000 in
theorem c_X4_leastSlide (l : Launch) (cA : Nat → ClassId) (D : va_G) (Λ : Lay) (hT : TL Λ) (σ : Sto) (l0 : Int32) (l1 : Int32) : Met l yX4_leastSlide wsX4_leastSlide { frames := 2, cells := 0, slots := 0, locals := 43 } (va_Pc [.int l0, .int l1] (PW cA D Λ σ)) (QI cA D Λ ((F_X4_leastSlide l0 l1), σ)) 0 0 (dm Λ) := by
  refine Met.ofW (cc := cX4_leastSlide) (maxL := 2) (ret := (some .int)) (by decide) rfl ?_
  intro p e s m args below meth c s₁ B hml hv
  obtain ⟨rfl, hR, hK⟩ := hv
  have X : Cx cX4_leastSlide (some .int) 2 RX4 wsX4_leastSlide p s m _ meth c := ⟨B.exec, B.bytes, B.returns, hml, findClass_of_methodNamed B.named, atoms_spec (ws := wsX4_leastSlide) B.pre, B.notSynchronized⟩
  have hS : va_S (dm Λ) s.heap s.heap [] := va_S.rf
  have hl := lv_entry ([.int l0, .int l1]) (n := 2) (Nat.le_of_ble_eq_true rfl)
  rw [lg_entry_eq]
  generalize (lg_sl ([.int l0, .int l1]) ++ List.replicate (2 - (lg_sl ([.int l0, .int l1])).length) Slot.unset).toArray = ls at hl ⊢
  have hl : lv_has ls 2 [(0, .int l0), (1, .int l1)] := hl
  exact w_X4_leastSlide X hK hT ⟨Nat.le_refl _, Nat.le_refl _⟩ l0 l1 rfl s.heap [] ls hR hS hl
set_option maxHeartbeats 4000000 in
set_option maxRecDepth 100000 in
theorem w_X4_spread (X : Cx cX4_spread (some .int) 2 RX4 wsX4_spread p s m args meth c) (hK : Kn cA D s) (hT : TL Λ) (hM : 2 ≤ R.frames ∧ 43 ≤ R.locals) (l0 : Int32) (l1 : Int32) {res : Int32} (h : F_X4_spread l0 l1 = res) (H : Heap) (locs : List Loc) (ls : Array Slot) (hR : Rep cA D Λ σ H) (hS : va_S (dm Λ) s.heap H locs) (hl : lv_has ls 2 [(0, .int l0), (1, .int l1)]) : W p l e R s m args below meth c H locs 0 0 (MQ below (QI cA D Λ (res, σ)) args s 0 0 (dm Λ)) (F0 m 0 ls []) := by
  have hx := X.1
  have hb := X.2.1
  have hown := X.2.2.2.2.1
  have hts := X.2.2.2.2.2.1
  unfold F_X4_spread at h
  refine lv_iload_n hx hb dX4_spread_0 rfl (lv_at hl 0 rfl) ?_
  refine lv_iload_n hx hb dX4_spread_1 rfl (lv_at hl 1 rfl) ?_
  refine lv_iconst (v := (1 : Int32)) hx hb dX4_spread_2 (by decide) ?_
  refine lv_isub hx hb dX4_spread_3 ?_
  refine cl_i (rn_S (As := [.int l0, .int (l1 - (1 : Int32))]) (rest := []) X hK hR hl.1 (c_X4_slide l cA D Λ hT σ l0 (l1 - (1 : Int32))) (va_cwS 2 hts gX4_spread_X4_slide rfl rfl rfl (by decide +kernel) ⟨Nat.le_trans (by decide) hM.1, Nat.le_trans (by decide) hM.2⟩) rfl rfl (Nat.le_of_ble_eq_true rfl) dX4_spread_4) hS (fun H locs hR hS => ?_)
  refine lv_topi (fun r_1 e_1 => ?_)
  have h := of_nm e_1 h
  refine va_mabs hx hb (X.2.2.2.1.trans hl.1.symm) hown (hts (.methodLink RX4 253 Lib.Math.abs.name) (by decide +kernel)) (hts (.static Lib.Math.abs.name) (by decide +kernel)) (hts (.initialized "java/lang/Math") (by decide +kernel)) (hts (.code Lib.Math.abs.name Lib.Math.abs.code 1 (some .int)) (by decide +kernel)) (Nat.le_trans (by decide) hM.1) (Nat.le_trans (Nat.le_of_ble_eq_true rfl) hM.2) (Nat.zero_le _) (Nat.zero_le _) dX4_spread_7 ?_
  refine lv_topi (fun r_2 e_2 => ?_)
  have h := of_nm e_2 h
  exact rt_i X hR hS (congrArg (fun z => (z, σ)) h) dX4_spread_10

set_option maxHeartbeats 4000000 in
set_option maxRecDepth 100000 in
theorem c_X4_spread (l : Launch) (cA : Nat → ClassId) (D : va_G) (Λ : Lay) (hT : TL Λ) (σ : Sto) (l0 : Int32) (l1 : Int32) : Met l yX4_spread wsX4_spread { frames := 2, cells := 0, slots := 0, locals := 43 } (va_Pc [.int l0, .int l1] (PW cA D Λ σ)) (QI cA D Λ ((F_X4_spread l0 l1), σ)) 0 0 (dm Λ) := by
  refine Met.ofW (cc := cX4_spread) (maxL := 2) (ret := (some .int)) (by decide) rfl ?_
  intro p e s m args below meth c s₁ B hml hv
  obtain ⟨rfl, hR, hK⟩ := hv
  have X : Cx cX4_spread (some .int) 2 RX4 wsX4_spread p s m _ meth c := ⟨B.exec, B.bytes, B.returns, hml, findClass_of_methodNamed B.named, atoms_spec (ws := wsX4_spread) B.pre, B.notSynchronized⟩
  have hS : va_S (dm Λ) s.heap s.heap [] := va_S.rf
  have hl := lv_entry ([.int l0, .int l1]) (n := 2) (Nat.le_of_ble_eq_true rfl)
  rw [lg_entry_eq]
  generalize (lg_sl ([.int l0, .int l1]) ++ List.replicate (2 - (lg_sl ([.int l0, .int l1])).length) Slot.unset).toArray = ls at hl ⊢
  have hl : lv_has ls 2 [(0, .int l0), (1, .int l1)] := hl
  exact w_X4_spread X hK hT ⟨Nat.le_refl _, Nat.le_refl _⟩ l0 l1 rfl s.heap [] ls hR hS hl
theorem in_X2_shearAcross_3 : ∀ w ∈ u_ws RX2 TX2 3, w ∈ wsX2_shearAcross := by decide +kernel
set_option maxHeartbeats 4000000 in
set_option maxRecDepth 100000 in
theorem w_bd_X2_shearAcross_11 (X : Cx cX2_shearAcross none 4 RX2 wsX2_shearAcross p s m args meth c) (hK : Kn cA D s) (hT : TL Λ) (hM : 3 ≤ R.frames ∧ 64 ≤ R.locals) (a0 : Nat) (l1 : Int32) (l2 : Int32) (s9 : (Int32 × Sto)) (k0 : isK Λ a0 3) {r : (Int32 × Sto) ⊕ Sto} (h : bd_X2_shearAcross_11 Λ a0 l1 l2 s9 = some r) (kb : ∀ z : (Int32 × Sto), r = .inl z → ∀ (H : Heap) (locs : List Loc) (ls : Array Slot), Rep cA D Λ z.2 H → va_S (dm Λ) s.heap H locs → lv_has ls 4 [(0, .ref a0), (1, .int l1), (2, .int l2), (3, .int z.1)] → W p l e R s m args below meth c H locs 0 0 Q (F0 m 11 ls [])) (kx0 : ∀ z : Sto, r = .inr z → ∀ (H : Heap) (locs : List Loc) (ls : Array Slot), Rep cA D Λ z H → va_S (dm Λ) s.heap H locs → lv_has ls 4 [(0, .ref a0), (1, .int l1)] → W p l e R s m args below meth c H locs 0 0 Q (F0 m 41 ls [])) (H : Heap) (locs : List Loc) (ls : Array Slot) (hR : Rep cA D Λ s9.2 H) (hS : va_S (dm Λ) s.heap H locs) (hl : lv_has ls 4 [(0, .ref a0), (1, .int l1), (2, .int l2), (3, .int s9.1)]) : W p l e R s m args below meth c H locs 0 0 Q (F0 m 11 ls []) := by
  have hx := X.1
  have hb := X.2.1
  have hown := X.2.2.2.2.1
  have hts := X.2.2.2.2.2.1
  unfold bd_X2_shearAcross_11 at h
  refine lv_iload_n hx hb dX2_shearAcross_11 rfl (lv_at hl 3 rfl) ?_
  refine lv_aload_n hx hb dX2_shearAcross_12 rfl (lv_at hl 0 rfl) ?_
  refine rw_getI X hK hR 3 1 k0 (by decide) (C := RX2) (T := TX2) (N := 3) rfl (by decide) in_X2_shearAcross_3 (by decide +kernel) rfl dX2_shearAcross_13 ?_
  refine lv_icmp_ge (tgt := 41) hx hb dX2_shearAcross_16 (by decide) (fun hc => ?_) (fun hc => ?_)
  · have h := of_pos hc h
    exact kx0 s9.2 (Option.some.inj h).symm H locs ls hR hS (lv_sub hl [0, 1] rfl)
  · have h := of_neg hc h
    refine lv_aload_n hx hb dX2_shearAcross_19 rfl (lv_at hl 0 rfl) ?_
    refine rw_getR X hK hT hR 3 2 8 k0 (by decide) (C := RX2) (T := TX2) (N := 3) rfl (by decide) in_X2_shearAcross_3 (by decide +kernel) rfl dX2_shearAcross_20 (fun kf_2 => ?_)
    refine lv_iload_n hx hb dX2_shearAcross_23 rfl (lv_at hl 3 rfl) ?_
    refine lv_dup2_11 hx hb dX2_shearAcross_24 rfl rfl ?_
    obtain ⟨hg_3, h⟩ := of_guard h
    refine rw_lald X hK hR kf_2 hg_3 dX2_shearAcross_25 ?_
    refine lv_iload_n hx hb dX2_shearAcross_26 rfl (lv_at hl 1 rfl) ?_
    refine lv_iload_n hx hb dX2_shearAcross_27 rfl (lv_at hl 3 rfl) ?_
    refine cl_i (rn_SN (As := [.int l1, .int s9.1]) (rest := [.long (s9.2.2 (rfA Λ a0 2) s9.1.toNatClampNeg), .int s9.1, .ref (rfA Λ a0 2)]) X hK hR hl.1 (c_X4_slide l cA D Λ hT s9.2 l1 s9.1) ⟨va_cnB 2 hts gX2_shearAcross_X4_slide_n66 rfl rfl rfl (hK.2 (.methodLinkNest RX2 66 yX4_slide RX4) (by decide +kernel)) (hts (.initialized RX4) (by decide +kernel)) (by decide +kernel) ⟨Nat.le_trans (by decide) hM.1, Nat.le_trans (by decide) hM.2⟩, hts (.static yX4_slide) (by decide +kernel), trivial⟩ rfl rfl (Nat.le_of_ble_eq_true rfl) dX2_shearAcross_28) hS (fun H locs hR hS => ?_)
    refine lv_topi (fun r_4 e_4 => ?_)
    have h := of_nm e_4 h
    refine lv_iload_n hx hb dX2_shearAcross_31 rfl (lv_at hl 2 rfl) ?_
    refine lv_isub hx hb dX2_shearAcross_32 ?_
    refine lv_lshl (v := (shlL (s9.2.2 (rfA Λ a0 2) s9.1.toNatClampNeg) (r_4 - l2))) hx hb dX2_shearAcross_33 rfl ?_
    obtain ⟨hg_5, h⟩ := of_guard h
    refine rw_last X hK hT hR hS kf_2 hg_5 dX2_shearAcross_34 (fun σ_5 H locs e_5 hR hS => ?_)
    have h := of_nm e_5 h
    obtain ⟨v_6, e_v_6⟩ : ∃ y : Int32, y = (s9.1 + (1 : Int32)) := ⟨_, rfl⟩
    have h := of_nm e_v_6 h
    refine lv_iinc (v := v_6) (lv' := [(3, .int v_6), (0, .ref a0), (1, .int l1), (2, .int l2)]) hx hb dX2_shearAcross_35 hl (k := 3) rfl (by rw [e_v_6]; rfl) (by decide) rfl (fun ls hl => ?_)
    refine lv_goto (tgt := 11) hx hb dX2_shearAcross_38 (by decide) ?_
    exact kb (v_6, σ_5) (Option.some.inj h).symm H locs ls hR hS (lv_sub hl [1, 2, 3, 0] rfl)

set_option maxHeartbeats 4000000 in
set_option maxRecDepth 100000 in
theorem w_lp_X2_shearAcross_11 (X : Cx cX2_shearAcross none 4 RX2 wsX2_shearAcross p s m args meth c) (hK : Kn cA D s) (hT : TL Λ) (hM : 3 ≤ R.frames ∧ 64 ≤ R.locals) (a0 : Nat) (l1 : Int32) (l2 : Int32) (k0 : isK Λ a0 3) {e9 : Sto} : ∀ (n9 : Nat) (s9 : (Int32 × Sto)), iter (bd_X2_shearAcross_11 Λ a0 l1 l2) n9 s9 = some e9 → ∀ (kx0 : ∀ (H : Heap) (locs : List Loc) (ls : Array Slot), Rep cA D Λ e9 H → va_S (dm Λ) s.heap H locs → lv_has ls 4 [(0, .ref a0), (1, .int l1)] → W p l e R s m args below meth c H locs 0 0 Q (F0 m 41 ls [])), ∀ (H : Heap) (locs : List Loc) (ls : Array Slot), Rep cA D Λ s9.2 H → va_S (dm Λ) s.heap H locs → lv_has ls 4 [(0, .ref a0), (1, .int l1), (2, .int l2), (3, .int s9.1)] → W p l e R s m args below meth c H locs 0 0 Q (F0 m 11 ls []) := by
  intro n9
  induction n9 with
  | zero => intro s9 h; cases h
  | succ n9 ih =>
    intro s9 h kx0 H locs ls hR hS hl
    obtain ⟨r, hr, h⟩ := of_iter h
    refine w_bd_X2_shearAcross_11 X hK hT hM a0 l1 l2 s9 k0 hr (fun z ez H locs ls hR hS hl => ?_) (fun z ez H locs ls hR hS hl => ?_) H locs ls hR hS hl
    · exact ih z (of_itl ez h) kx0 H locs ls hR hS hl
    · have he := of_itr ez h; subst he; exact kx0 H locs ls hR hS hl

set_option maxHeartbeats 4000000 in
set_option maxRecDepth 100000 in
theorem w_X2_shearAcross (X : Cx cX2_shearAcross none 4 RX2 wsX2_shearAcross p s m args meth c) (hK : Kn cA D s) (hT : TL Λ) (hM : 3 ≤ R.frames ∧ 64 ≤ R.locals) (a0 : Nat) (l1 : Int32) (k0 : isK Λ a0 3) {res : Sto} (h : F_X2_shearAcross Λ σ a0 l1 = some res) (H : Heap) (locs : List Loc) (ls : Array Slot) (hR : Rep cA D Λ σ H) (hS : va_S (dm Λ) s.heap H locs) (hl : lv_has ls 4 [(0, .ref a0), (1, .int l1)]) : W p l e R s m args below meth c H locs 0 0 (MQ below (QV cA D Λ res) args s 0 0 (dm Λ)) (F0 m 0 ls []) := by
  have hx := X.1
  have hb := X.2.1
  have hown := X.2.2.2.2.1
  have hts := X.2.2.2.2.2.1
  unfold F_X2_shearAcross at h
  refine lv_iload_n hx hb dX2_shearAcross_0 rfl (lv_at hl 1 rfl) ?_
  refine lv_aload_n hx hb dX2_shearAcross_1 rfl (lv_at hl 0 rfl) ?_
  refine rw_getI X hK hR 3 1 k0 (by decide) (C := RX2) (T := TX2) (N := 3) rfl (by decide) in_X2_shearAcross_3 (by decide +kernel) rfl dX2_shearAcross_2 ?_
  refine cl_i (rn_SN (As := [.int l1, .int (σ.1 a0 1)]) (rest := []) X hK hR hl.1 (c_X4_leastSlide l cA D Λ hT σ l1 (σ.1 a0 1)) ⟨va_cnB 2 hts gX2_shearAcross_X4_leastSlide_n62 rfl rfl rfl (hK.2 (.methodLinkNest RX2 62 yX4_leastSlide RX4) (by decide +kernel)) (hts (.initialized RX4) (by decide +kernel)) (by decide +kernel) ⟨Nat.le_trans (by decide) hM.1, Nat.le_trans (by decide) hM.2⟩, hts (.static yX4_leastSlide) (by decide +kernel), trivial⟩ rfl rfl (Nat.le_of_ble_eq_true rfl) dX2_shearAcross_5) hS (fun H locs hR hS => ?_)
  refine lv_topi (fun r_1 e_1 => ?_)
  have h := of_nm e_1 h
  refine lv_istore_n (lv' := [(2, .int r_1), (0, .ref a0), (1, .int l1)]) hx hb dX2_shearAcross_8 rfl hl (by decide) rfl (fun ls hl => ?_)
  refine lv_iconst (v := (0 : Int32)) hx hb dX2_shearAcross_9 (by decide) ?_
  refine lv_istore_n (lv' := [(3, .int (0 : Int32)), (2, .int r_1), (0, .ref a0), (1, .int l1)]) hx hb dX2_shearAcross_10 rfl hl (by decide) rfl (fun ls hl => ?_)
  obtain ⟨e_7, hq_7, h⟩ := of_bind h
  refine w_lp_X2_shearAcross_11 X hK hT hM a0 l1 r_1 k0 _ ((0 : Int32), σ) hq_7 (fun H locs ls hR hS hl => ?_) H locs ls hR hS (lv_sub hl [2, 3, 1, 0] rfl)
  refine lv_aload_n hx hb dX2_shearAcross_41 rfl (lv_at hl 0 rfl) ?_
  refine lv_dup hx hb dX2_shearAcross_42 rfl ?_
  refine rw_getI X hK hR 3 0 k0 (by decide) (C := RX2) (T := TX2) (N := 3) rfl (by decide) in_X2_shearAcross_3 (by decide +kernel) rfl dX2_shearAcross_43 ?_
  refine lv_iload_n hx hb dX2_shearAcross_46 rfl (lv_at hl 1 rfl) ?_
  refine lv_aload_n hx hb dX2_shearAcross_47 rfl (lv_at hl 0 rfl) ?_
  refine rw_getI X hK hR 3 1 k0 (by decide) (C := RX2) (T := TX2) (N := 3) rfl (by decide) in_X2_shearAcross_3 (by decide +kernel) rfl dX2_shearAcross_48 ?_
  refine cl_i (rn_SN (As := [.int l1, .int (e_7.1 a0 1)]) (rest := [.int (e_7.1 a0 0), .ref a0]) X hK hR hl.1 (c_X4_spread l cA D Λ hT e_7 l1 (e_7.1 a0 1)) ⟨va_cnB 2 hts gX2_shearAcross_X4_spread_n69 rfl rfl rfl (hK.2 (.methodLinkNest RX2 69 yX4_spread RX4) (by decide +kernel)) (hts (.initialized RX4) (by decide +kernel)) (by decide +kernel) ⟨Nat.le_trans (by decide) hM.1, Nat.le_trans (by decide) hM.2⟩, hts (.static yX4_spread) (by decide +kernel), trivial⟩ rfl rfl (Nat.le_of_ble_eq_true rfl) dX2_shearAcross_51) hS (fun H locs hR hS => ?_)
  refine lv_topi (fun r_8 e_8 => ?_)
  have h := of_nm e_8 h
  refine lv_iadd hx hb dX2_shearAcross_54 ?_
  refine rw_putI X hK hT hR hS 3 0 tyX2 k0 (by decide) (C := RX2) (T := TX2) (N := 3) rfl (by decide) in_X2_shearAcross_3 tyX2_ok nmX2 (by decide +kernel) rfl rfl (by decide +kernel) dX2_shearAcross_55 (fun σ_9 H locs e_9 hR hS => ?_)
  have h := of_nm e_9 h
  exact rt_v X hR hS (Option.some.inj h) dX2_shearAcross_58

set_option maxHeartbeats 4000000 in
set_option maxRecDepth 100000 in
theorem c_X2_shearAcross (l : Launch) (cA : Nat → ClassId) (D : va_G) (Λ : Lay) (hT : TL Λ) (σ : Sto) (a0 : Nat) (l1 : Int32) (k0 : isK Λ a0 3) {res : Sto} (h : F_X2_shearAcross Λ σ a0 l1 = some res) : Met l yX2_shearAcross wsX2_shearAcross { frames := 3, cells := 0, slots := 0, locals := 64 } (va_Pc [.ref a0, .int l1] (PW cA D Λ σ)) (QV cA D Λ res) 0 0 (dm Λ) := by
  refine Met.ofW (cc := cX2_shearAcross) (maxL := 4) (ret := none) (by decide) rfl ?_
  intro p e s m args below meth c s₁ B hml hv
  obtain ⟨rfl, hR, hK⟩ := hv
  have X : Cx cX2_shearAcross none 4 RX2 wsX2_shearAcross p s m _ meth c := ⟨B.exec, B.bytes, B.returns, hml, findClass_of_methodNamed B.named, atoms_spec (ws := wsX2_shearAcross) B.pre, B.notSynchronized⟩
  have hS : va_S (dm Λ) s.heap s.heap [] := va_S.rf
  have hl := lv_entry ([.ref a0, .int l1]) (n := 4) (Nat.le_of_ble_eq_true rfl)
  rw [lg_entry_eq]
  generalize (lg_sl ([.ref a0, .int l1]) ++ List.replicate (4 - (lg_sl ([.ref a0, .int l1])).length) Slot.unset).toArray = ls at hl ⊢
  have hl : lv_has ls 4 [(0, .ref a0), (1, .int l1)] := hl
  exact w_X2_shearAcross X hK hT ⟨Nat.le_refl _, Nat.le_refl _⟩ a0 l1 k0 h s.heap [] ls hR hS hl
theorem in_X2_addDropped_3 : ∀ w ∈ u_ws RX2 TX2 3, w ∈ wsX2_addDropped := by decide +kernel
set_option maxHeartbeats 4000000 in
set_option maxRecDepth 100000 in
theorem w_bd_X2_addDropped_3 (X : Cx cX2_addDropped none 6 RX2 wsX2_addDropped p s m args meth c) (hK : Kn cA D s) (hT : TL Λ) (hM : 0 ≤ R.frames ∧ 0 ≤ R.locals) (a0 : Nat) (a1 : Nat) (l2 : Int64) (l4 : Int32) (s9 : (Int32 × Sto)) (k0 : isK Λ a0 3) (k1 : isK Λ a1 3) {r : (Int32 × Sto) ⊕ Sto} (h : bd_X2_addDropped_3 Λ a0 a1 l2 l4 s9 = some r) (kb : ∀ z : (Int32 × Sto), r = .inl z → ∀ (H : Heap) (locs : List Loc) (ls : Array Slot), Rep cA D Λ z.2 H → va_S (dm Λ) s.heap H locs → lv_has ls 6 [(0, .ref a0), (1, .ref a1), (2, .long l2), (4, .int l4), (5, .int z.1)] → W p l e R s m args below meth c H locs 0 0 Q (F0 m 3 ls [])) (kx0 : ∀ z : Sto, r = .inr z → ∀ (H : Heap) (locs : List Loc) (ls : Array Slot), Rep cA D Λ z H → va_S (dm Λ) s.heap H locs → lv_has ls 6 [] → W p l e R s m args below meth c H locs 0 0 Q (F0 m 52 ls [])) (H : Heap) (locs : List Loc) (ls : Array Slot) (hR : Rep cA D Λ s9.2 H) (hS : va_S (dm Λ) s.heap H locs) (hl : lv_has ls 6 [(0, .ref a0), (1, .ref a1), (2, .long l2), (4, .int l4), (5, .int s9.1)]) : W p l e R s m args below meth c H locs 0 0 Q (F0 m 3 ls []) := by
  have hx := X.1
  have hb := X.2.1
  have hown := X.2.2.2.2.1
  have hts := X.2.2.2.2.2.1
  unfold bd_X2_addDropped_3 at h
  refine lv_iload hx hb dX2_addDropped_3 (lv_at hl 4 rfl) ?_
  refine lv_aload_n hx hb dX2_addDropped_5 rfl (lv_at hl 1 rfl) ?_
  refine rw_getI X hK hR 3 1 k1 (by decide) (C := RX2) (T := TX2) (N := 3) rfl (by decide) in_X2_addDropped_3 (by decide +kernel) rfl dX2_addDropped_6 ?_
  refine lv_icmp_ge (tgt := 52) hx hb dX2_addDropped_9 (by decide) (fun hc => ?_) (fun hc => ?_)
  · have h := of_pos hc h
    exact kx0 s9.2 (Option.some.inj h).symm H locs ls hR hS (lv_sub hl [] rfl)
  · have h := of_neg hc h
    refine lv_iload hx hb dX2_addDropped_12 (lv_at hl 4 rfl) ?_
    refine lv_iload hx hb dX2_addDropped_14 (lv_at hl 3 rfl) ?_
    refine lv_iadd hx hb dX2_addDropped_16 ?_
    refine lv_aload_n hx hb dX2_addDropped_17 rfl (lv_at hl 0 rfl) ?_
    refine rw_getI X hK hR 3 1 k0 (by decide) (C := RX2) (T := TX2) (N := 3) rfl (by decide) in_X2_addDropped_3 (by decide +kernel) rfl dX2_addDropped_18 ?_
    refine lv_icmp_ge (tgt := 52) hx hb dX2_addDropped_21 (by decide) (fun hc => ?_) (fun hc => ?_)
    · have h := of_pos hc h
      exact kx0 s9.2 (Option.some.inj h).symm H locs ls hR hS (lv_sub hl [] rfl)
    · have h := of_neg hc h
      refine lv_aload_n hx hb dX2_addDropped_24 rfl (lv_at hl 0 rfl) ?_
      refine rw_getR X hK hT hR 3 2 8 k0 (by decide) (C := RX2) (T := TX2) (N := 3) rfl (by decide) in_X2_addDropped_3 (by decide +kernel) rfl dX2_addDropped_25 (fun kf_1 => ?_)
      refine lv_iload hx hb dX2_addDropped_28 (lv_at hl 4 rfl) ?_
      refine lv_iload hx hb dX2_addDropped_30 (lv_at hl 3 rfl) ?_
      refine lv_iadd hx hb dX2_addDropped_32 ?_
      refine lv_dup2_11 hx hb dX2_addDropped_33 rfl rfl ?_
      obtain ⟨hg_2, h⟩ := of_guard h
      refine rw_lald X hK hR kf_1 hg_2 dX2_addDropped_34 ?_
      refine lv_aload_n hx hb dX2_addDropped_35 rfl (lv_at hl 1 rfl) ?_
      refine rw_getR X hK hT hR 3 2 8 k1 (by decide) (C := RX2) (T := TX2) (N := 3) rfl (by decide) in_X2_addDropped_3 (by decide +kernel) rfl dX2_addDropped_36 (fun kf_3 => ?_)
      refine lv_iload hx hb dX2_addDropped_39 (lv_at hl 4 rfl) ?_
      obtain ⟨hg_4, h⟩ := of_guard h
      refine rw_lald X hK hR kf_3 hg_4 dX2_addDropped_41 ?_
      refine lv_lload_n hx hb dX2_addDropped_42 rfl (lv_at hl 2 rfl) ?_
      refine lv_land hx hb dX2_addDropped_43 ?_
      refine lv_lor hx hb dX2_addDropped_44 ?_
      obtain ⟨hg_5, h⟩ := of_guard h
      refine rw_last X hK hT hR hS kf_1 hg_5 dX2_addDropped_45 (fun σ_5 H locs e_5 hR hS => ?_)
      have h := of_nm e_5 h
      obtain ⟨v_6, e_v_6⟩ : ∃ y : Int32, y = (s9.1 + (1 : Int32)) := ⟨_, rfl⟩
      have h := of_nm e_v_6 h
      refine lv_iinc (v := v_6) (lv' := [(5, .int v_6), (0, .ref a0), (1, .ref a1), (2, .long l2), (4, .int l4)]) hx hb dX2_addDropped_46 hl (k := 4) rfl (by rw [e_v_6]; rfl) (by decide) rfl (fun ls hl => ?_)
      refine lv_goto (tgt := 3) hx hb dX2_addDropped_49 (by decide) ?_
      exact kb (v_6, σ_5) (Option.some.inj h).symm H locs ls hR hS (lv_sub hl [1, 2, 3, 4, 0] rfl)

set_option maxHeartbeats 4000000 in
set_option maxRecDepth 100000 in
theorem w_lp_X2_addDropped_3 (X : Cx cX2_addDropped none 6 RX2 wsX2_addDropped p s m args meth c) (hK : Kn cA D s) (hT : TL Λ) (hM : 0 ≤ R.frames ∧ 0 ≤ R.locals) (a0 : Nat) (a1 : Nat) (l2 : Int64) (l4 : Int32) (k0 : isK Λ a0 3) (k1 : isK Λ a1 3) {e9 : Sto} : ∀ (n9 : Nat) (s9 : (Int32 × Sto)), iter (bd_X2_addDropped_3 Λ a0 a1 l2 l4) n9 s9 = some e9 → ∀ (kx0 : ∀ (H : Heap) (locs : List Loc) (ls : Array Slot), Rep cA D Λ e9 H → va_S (dm Λ) s.heap H locs → lv_has ls 6 [] → W p l e R s m args below meth c H locs 0 0 Q (F0 m 52 ls [])), ∀ (H : Heap) (locs : List Loc) (ls : Array Slot), Rep cA D Λ s9.2 H → va_S (dm Λ) s.heap H locs → lv_has ls 6 [(0, .ref a0), (1, .ref a1), (2, .long l2), (4, .int l4), (5, .int s9.1)] → W p l e R s m args below meth c H locs 0 0 Q (F0 m 3 ls []) := by
  intro n9
  induction n9 with
  | zero => intro s9 h; cases h
  | succ n9 ih =>
    intro s9 h kx0 H locs ls hR hS hl
    obtain ⟨r, hr, h⟩ := of_iter h
    refine w_bd_X2_addDropped_3 X hK hT hM a0 a1 l2 l4 s9 k0 k1 hr (fun z ez H locs ls hR hS hl => ?_) (fun z ez H locs ls hR hS hl => ?_) H locs ls hR hS hl
    · exact ih z (of_itl ez h) kx0 H locs ls hR hS hl
    · have he := of_itr ez h; subst he; exact kx0 H locs ls hR hS hl

set_option maxHeartbeats 4000000 in
set_option maxRecDepth 100000 in
theorem w_X2_addDropped (X : Cx cX2_addDropped none 6 RX2 wsX2_addDropped p s m args meth c) (hK : Kn cA D s) (hT : TL Λ) (hM : 0 ≤ R.frames ∧ 0 ≤ R.locals) (a0 : Nat) (a1 : Nat) (l2 : Int64) (l4 : Int32) (k0 : isK Λ a0 3) (k1 : isK Λ a1 3) {res : Sto} (h : F_X2_addDropped Λ σ a0 a1 l2 l4 = some res) (H : Heap) (locs : List Loc) (ls : Array Slot) (hR : Rep cA D Λ σ H) (hS : va_S (dm Λ) s.heap H locs) (hl : lv_has ls 6 [(0, .ref a0), (1, .ref a1), (2, .long l2), (4, .int l4)]) : W p l e R s m args below meth c H locs 0 0 (MQ below (QV cA D Λ res) args s 0 0 (dm Λ)) (F0 m 0 ls []) := by
  have hx := X.1
  have hb := X.2.1
  have hown := X.2.2.2.2.1
  have hts := X.2.2.2.2.2.1
  unfold F_X2_addDropped at h
  refine lv_iconst (v := (0 : Int32)) hx hb dX2_addDropped_0 (by decide) ?_
  refine lv_istore (lv' := [(5, .int (0 : Int32)), (0, .ref a0), (1, .ref a1), (2, .long l2), (4, .int l4)]) hx hb dX2_addDropped_1 hl (by decide) rfl (fun ls hl => ?_)
  obtain ⟨e_7, hq_7, h⟩ := of_bind h
  refine w_lp_X2_addDropped_3 X hK hT hM a0 a1 l2 l4 k0 k1 _ ((0 : Int32), σ) hq_7 (fun H locs ls hR hS hl => ?_) H locs ls hR hS (lv_sub hl [1, 2, 3, 4, 0] rfl)
  exact rt_v X hR hS (Option.some.inj h) dX2_addDropped_52

set_option maxHeartbeats 4000000 in
set_option maxRecDepth 100000 in
theorem c_X2_addDropped (l : Launch) (cA : Nat → ClassId) (D : va_G) (Λ : Lay) (hT : TL Λ) (σ : Sto) (a0 : Nat) (a1 : Nat) (l2 : Int64) (l4 : Int32) (k0 : isK Λ a0 3) (k1 : isK Λ a1 3) {res : Sto} (h : F_X2_addDropped Λ σ a0 a1 l2 l4 = some res) : Met l yX2_addDropped wsX2_addDropped { frames := 0, cells := 0, slots := 0, locals := 0 } (va_Pc [.ref a0, .ref a1, .long l2, .int l4] (PW cA D Λ σ)) (QV cA D Λ res) 0 0 (dm Λ) := by
  refine Met.ofW (cc := cX2_addDropped) (maxL := 6) (ret := none) (by decide) rfl ?_
  intro p e s m args below meth c s₁ B hml hv
  obtain ⟨rfl, hR, hK⟩ := hv
  have X : Cx cX2_addDropped none 6 RX2 wsX2_addDropped p s m _ meth c := ⟨B.exec, B.bytes, B.returns, hml, findClass_of_methodNamed B.named, atoms_spec (ws := wsX2_addDropped) B.pre, B.notSynchronized⟩
  have hS : va_S (dm Λ) s.heap s.heap [] := va_S.rf
  have hl := lv_entry ([.ref a0, .ref a1, .long l2, .int l4]) (n := 6) (Nat.le_of_ble_eq_true rfl)
  rw [lg_entry_eq]
  generalize (lg_sl ([.ref a0, .ref a1, .long l2, .int l4]) ++ List.replicate (6 - (lg_sl ([.ref a0, .ref a1, .long l2, .int l4])).length) Slot.unset).toArray = ls at hl ⊢
  have hl : lv_has ls 6 [(0, .ref a0), (1, .ref a1), (2, .long l2), (4, .int l4)] := hl
  exact w_X2_addDropped X hK hT ⟨Nat.le_refl _, Nat.le_refl _⟩ a0 a1 l2 l4 k0 k1 h s.heap [] ls hR hS hl
theorem in_X2_becomeShearedUp_3 : ∀ w ∈ u_ws RX2 TX2 3, w ∈ wsX2_becomeShearedUp := by decide +kernel
set_option maxHeartbeats 4000000 in
set_option maxRecDepth 100000 in
theorem w_jp_X2_becomeShearedUp_100 (X : Cx cX2_becomeShearedUp none 7 RX2 wsX2_becomeShearedUp p s m args meth c) (hK : Kn cA D s) (hT : TL Λ) (hM : 3 ≤ R.frames ∧ 64 ≤ R.locals) (a0 : Nat) (a1 : Nat) (l2 : Int32) (l3 : Int32) (l4 : Int64) (l6 : Int32)  (k0 : isK Λ a0 3) (k1 : isK Λ a1 3) {r : (Int64 × Int32 × Sto) ⊕ Sto} (h : jp_X2_becomeShearedUp_100 Λ σ a0 a1 l2 l3 l4 l6 = some r) (kb : ∀ z : (Int64 × Int32 × Sto), r = .inl z → ∀ (H : Heap) (locs : List Loc) (ls : Array Slot), Rep cA D Λ z.2.2 H → va_S (dm Λ) s.heap H locs → lv_has ls 7 [(0, .ref a0), (1, .ref a1), (2, .int l2), (3, .int l3), (4, .long z.1), (6, .int z.2.1)] → W p l e R s m args below meth c H locs 0 0 Q (F0 m 36 ls [])) (kx0 : ∀ z : Sto, r = .inr z → ∀ (H : Heap) (locs : List Loc) (ls : Array Slot), Rep cA D Λ z H → va_S (dm Λ) s.heap H locs → lv_has ls 7 [] → W p l e R s m args below meth c H locs 0 0 Q (F0 m 106 ls [])) (H : Heap) (locs : List Loc) (ls : Array Slot) (hR : Rep cA D Λ σ H) (hS : va_S (dm Λ) s.heap H locs) (hl : lv_has ls 7 [(0, .ref a0), (1, .ref a1), (2, .int l2), (3, .int l3), (4, .long l4), (6, .int l6)]) : W p l e R s m args below meth c H locs 0 0 Q (F0 m 100 ls []) := by
  have hx := X.1
  have hb := X.2.1
  have hown := X.2.2.2.2.1
  have hts := X.2.2.2.2.2.1
  unfold jp_X2_becomeShearedUp_100 at h
  obtain ⟨v_7, e_v_7⟩ : ∃ y : Int32, y = (l6 + (1 : Int32)) := ⟨_, rfl⟩
  have h := of_nm e_v_7 h
  refine lv_iinc (v := v_7) (lv' := [(6, .int v_7), (0, .ref a0), (1, .ref a1), (2, .int l2), (3, .int l3), (4, .long l4)]) hx hb dX2_becomeShearedUp_100 hl (k := 5) rfl (by rw [e_v_7]; rfl) (by decide) rfl (fun ls hl => ?_)
  refine lv_goto (tgt := 36) hx hb dX2_becomeShearedUp_103 (by decide) ?_
  exact kb (l4, v_7, σ) (Option.some.inj h).symm H locs ls hR hS (lv_sub hl [1, 2, 3, 4, 5, 0] rfl)

set_option maxHeartbeats 4000000 in
set_option maxRecDepth 100000 in
theorem w_jp_X2_becomeShearedUp_82 (X : Cx cX2_becomeShearedUp none 7 RX2 wsX2_becomeShearedUp p s m args meth c) (hK : Kn cA D s) (hT : TL Λ) (hM : 3 ≤ R.frames ∧ 64 ≤ R.locals) (a0 : Nat) (a1 : Nat) (l2 : Int32) (l3 : Int32) (l4 : Int64) (l6 : Int32)  (k0 : isK Λ a0 3) (k1 : isK Λ a1 3) {r : (Int64 × Int32 × Sto) ⊕ Sto} (h : jp_X2_becomeShearedUp_82 Λ σ a0 a1 l2 l3 l4 l6 = some r) (kb : ∀ z : (Int64 × Int32 × Sto), r = .inl z → ∀ (H : Heap) (locs : List Loc) (ls : Array Slot), Rep cA D Λ z.2.2 H → va_S (dm Λ) s.heap H locs → lv_has ls 7 [(0, .ref a0), (1, .ref a1), (2, .int l2), (3, .int l3), (4, .long z.1), (6, .int z.2.1)] → W p l e R s m args below meth c H locs 0 0 Q (F0 m 36 ls [])) (kx0 : ∀ z : Sto, r = .inr z → ∀ (H : Heap) (locs : List Loc) (ls : Array Slot), Rep cA D Λ z H → va_S (dm Λ) s.heap H locs → lv_has ls 7 [] → W p l e R s m args below meth c H locs 0 0 Q (F0 m 106 ls [])) (H : Heap) (locs : List Loc) (ls : Array Slot) (hR : Rep cA D Λ σ H) (hS : va_S (dm Λ) s.heap H locs) (hl : lv_has ls 7 [(0, .ref a0), (1, .ref a1), (2, .int l2), (3, .int l3), (4, .long l4), (6, .int l6)]) : W p l e R s m args below meth c H locs 0 0 Q (F0 m 82 ls []) := by
  have hx := X.1
  have hb := X.2.1
  have hown := X.2.2.2.2.1
  have hts := X.2.2.2.2.2.1
  unfold jp_X2_becomeShearedUp_82 at h
  refine lv_aload_n hx hb dX2_becomeShearedUp_82 rfl (lv_at hl 0 rfl) ?_
  refine lv_aload_n hx hb dX2_becomeShearedUp_83 rfl (lv_at hl 1 rfl) ?_
  refine lv_lload hx hb dX2_becomeShearedUp_84 (lv_at hl 4 rfl) ?_
  refine lv_iload_n hx hb dX2_becomeShearedUp_86 rfl (lv_at hl 2 rfl) ?_
  refine lv_iload hx hb dX2_becomeShearedUp_87 (lv_at hl 5 rfl) ?_
  refine cl_i (rn_SN (As := [.int l2, .int l6]) (rest := [.long l4, .ref a1, .ref a0]) X hK hR hl.1 (c_X4_slide l cA D Λ hT σ l2 l6) ⟨va_cnB 2 hts gX2_becomeShearedUp_X4_slide_n66 rfl rfl rfl (hK.2 (.methodLinkNest RX2 66 yX4_slide RX4) (by decide +kernel)) (hts (.initialized RX4) (by decide +kernel)) (by decide +kernel) ⟨Nat.le_trans (by decide) hM.1, Nat.le_trans (by decide) hM.2⟩, hts (.static yX4_slide) (by decide +kernel), trivial⟩ rfl rfl (Nat.le_of_ble_eq_true rfl) dX2_becomeShearedUp_89) hS (fun H locs hR hS => ?_)
  refine lv_topi (fun r_5 e_5 => ?_)
  have h := of_nm e_5 h
  refine lv_iload_n hx hb dX2_becomeShearedUp_92 rfl (lv_at hl 3 rfl) ?_
  refine lv_isub hx hb dX2_becomeShearedUp_93 ?_
  obtain ⟨q_6, hq_6, h⟩ := of_bind h
  refine cl_v (rn_V (As := [.ref a1, .long l4, .int (r_5 - l3)]) (rest := []) X hK hR k0 rfl (by decide) hl.1 (c_X2_addDropped l cA D Λ hT σ a0 a1 l4 (r_5 - l3) k0 k1 hq_6) (cwV 3 hts gX2_becomeShearedUp_X2_addDropped rfl rfl rfl (by decide +kernel) ⟨Nat.le_trans (by decide) hM.1, Nat.le_trans (by decide) hM.2⟩) rfl rfl (Nat.le_of_ble_eq_true rfl) dX2_becomeShearedUp_94) hS (fun H locs hR hS => ?_)
  refine lv_lconst (v := (0 : Int64)) hx hb dX2_becomeShearedUp_97 (by decide) ?_
  refine lv_lstore (lv' := [(4, .long (0 : Int64)), (0, .ref a0), (1, .ref a1), (2, .int l2), (3, .int l3), (6, .int l6)]) hx hb dX2_becomeShearedUp_98 hl (by decide) rfl (fun ls hl => ?_)
  exact w_jp_X2_becomeShearedUp_100 X hK hT hM a0 a1 l2 l3 (0 : Int64) l6 k0 k1 h kb kx0 H locs ls hR hS (lv_sub hl [1, 2, 3, 4, 0, 5] rfl)

set_option maxHeartbeats 4000000 in
set_option maxRecDepth 100000 in
theorem w_bd_X2_becomeShearedUp_36 (X : Cx cX2_becomeShearedUp none 7 RX2 wsX2_becomeShearedUp p s m args meth c) (hK : Kn cA D s) (hT : TL Λ) (hM : 3 ≤ R.frames ∧ 64 ≤ R.locals) (a0 : Nat) (a1 : Nat) (l2 : Int32) (l3 : Int32) (s9 : (Int64 × Int32 × Sto)) (k0 : isK Λ a0 3) (k1 : isK Λ a1 3) {r : (Int64 × Int32 × Sto) ⊕ Sto} (h : bd_X2_becomeShearedUp_36 Λ a0 a1 l2 l3 s9 = some r) (kb : ∀ z : (Int64 × Int32 × Sto), r = .inl z → ∀ (H : Heap) (locs : List Loc) (ls : Array Slot), Rep cA D Λ z.2.2 H → va_S (dm Λ) s.heap H locs → lv_has ls 7 [(0, .ref a0), (1, .ref a1), (2, .int l2), (3, .int l3), (4, .long z.1), (6, .int z.2.1)] → W p l e R s m args below meth c H locs 0 0 Q (F0 m 36 ls [])) (kx0 : ∀ z : Sto, r = .inr z → ∀ (H : Heap) (locs : List Loc) (ls : Array Slot), Rep cA D Λ z H → va_S (dm Λ) s.heap H locs → lv_has ls 7 [] → W p l e R s m args below meth c H locs 0 0 Q (F0 m 106 ls [])) (H : Heap) (locs : List Loc) (ls : Array Slot) (hR : Rep cA D Λ s9.2.2 H) (hS : va_S (dm Λ) s.heap H locs) (hl : lv_has ls 7 [(0, .ref a0), (1, .ref a1), (2, .int l2), (3, .int l3), (4, .long s9.1), (6, .int s9.2.1)]) : W p l e R s m args below meth c H locs 0 0 Q (F0 m 36 ls []) := by
  have hx := X.1
  have hb := X.2.1
  have hown := X.2.2.2.2.1
  have hts := X.2.2.2.2.2.1
  unfold bd_X2_becomeShearedUp_36 at h
  refine lv_iload hx hb dX2_becomeShearedUp_36 (lv_at hl 5 rfl) ?_
  refine lv_aload_n hx hb dX2_becomeShearedUp_38 rfl (lv_at hl 0 rfl) ?_
  refine rw_getI X hK hR 3 0 k0 (by decide) (C := RX2) (T := TX2) (N := 3) rfl (by decide) in_X2_becomeShearedUp_3 (by decide +kernel) rfl dX2_becomeShearedUp_39 ?_
  refine lv_icmp_ge (tgt := 106) hx hb dX2_becomeShearedUp_42 (by decide) (fun hc => ?_) (fun hc => ?_)
  · have h := of_pos hc h
    exact kx0 s9.2.2 (Option.some.inj h).symm H locs ls hR hS (lv_sub hl [] rfl)
  · have h := of_neg hc h
    refine lv_lload hx hb dX2_becomeShearedUp_45 (lv_at hl 4 rfl) ?_
    refine lv_lconst (v := (1 : Int64)) hx hb dX2_becomeShearedUp_47 (by decide) ?_
    refine lv_iload hx hb dX2_becomeShearedUp_48 (lv_at hl 5 rfl) ?_
    refine lv_lshl (v := (shlL (1 : Int64) s9.2.1)) hx hb dX2_becomeShearedUp_50 rfl ?_
    refine lv_lor hx hb dX2_becomeShearedUp_51 ?_
    refine lv_topl (fun v_4 e_v_4 => ?_)
    have h := of_nm e_v_4 h
    refine lv_lstore (lv' := [(4, .long v_4), (0, .ref a0), (1, .ref a1), (2, .int l2), (3, .int l3), (6, .int s9.2.1)]) hx hb dX2_becomeShearedUp_52 hl (by decide) rfl (fun ls hl => ?_)
    refine lv_iload hx hb dX2_becomeShearedUp_54 (lv_at hl 5 rfl) ?_
    refine lv_aload_n hx hb dX2_becomeShearedUp_56 rfl (lv_at hl 1 rfl) ?_
    refine rw_getI X hK hR 3 0 k0 (by decide) (C := RX2) (T := TX2) (N := 3) rfl (by decide) in_X2_becomeShearedUp_3 (by decide +kernel) rfl dX2_becomeShearedUp_57 ?_
    refine lv_iconst (v := (1 : Int32)) hx hb dX2_becomeShearedUp_60 (by decide) ?_
    refine lv_isub hx hb dX2_becomeShearedUp_61 ?_
    refine lv_icmp_eq (tgt := 82) hx hb dX2_becomeShearedUp_62 (by decide) (fun hc => ?_) (fun hc => ?_)
    · have h := of_pos hc h
      exact w_jp_X2_becomeShearedUp_82 X hK hT hM a0 a1 l2 l3 v_4 s9.2.1 k0 k1 h kb kx0 H locs ls hR hS (lv_sub hl [1, 2, 3, 4, 0, 5] rfl)
    · have h := of_neg hc h
      refine lv_iload_n hx hb dX2_becomeShearedUp_65 rfl (lv_at hl 3 rfl) ?_
      refine lv_iload hx hb dX2_becomeShearedUp_66 (lv_at hl 5 rfl) ?_
      refine lv_iconst (v := (1 : Int32)) hx hb dX2_becomeShearedUp_68 (by decide) ?_
      refine lv_iadd hx hb dX2_becomeShearedUp_69 ?_
      refine cl_i (rn_SN (As := [.int l2, .int (s9.2.1 + (1 : Int32))]) (rest := []) X hK hR hl.1 (c_X4_slide l cA D Λ hT s9.2.2 l2 (s9.2.1 + (1 : Int32))) ⟨va_cnB 2 hts gX2_becomeShearedUp_X4_slide_n66 rfl rfl rfl (hK.2 (.methodLinkNest RX2 66 yX4_slide RX4) (by decide +kernel)) (hts (.initialized RX4) (by decide +kernel)) (by decide +kernel) ⟨Nat.le_trans (by decide) hM.1, Nat.le_trans (by decide) hM.2⟩, hts (.static yX4_slide) (by decide +kernel), trivial⟩ rfl rfl (Nat.le_of_ble_eq_true rfl) dX2_becomeShearedUp_70) hS (fun H locs hR hS => ?_)
      refine lv_topi (fun r_8 e_8 => ?_)
      have h := of_nm e_8 h
      refine lv_iload_n hx hb dX2_becomeShearedUp_73 rfl (lv_at hl 3 rfl) ?_
      refine lv_iload hx hb dX2_becomeShearedUp_74 (lv_at hl 5 rfl) ?_
      refine cl_i (rn_SN (As := [.int l2, .int s9.2.1]) (rest := [.int r_8]) X hK hR hl.1 (c_X4_slide l cA D Λ hT s9.2.2 l2 s9.2.1) ⟨va_cnB 2 hts gX2_becomeShearedUp_X4_slide_n66 rfl rfl rfl (hK.2 (.methodLinkNest RX2 66 yX4_slide RX4) (by decide +kernel)) (hts (.initialized RX4) (by decide +kernel)) (by decide +kernel) ⟨Nat.le_trans (by decide) hM.1, Nat.le_trans (by decide) hM.2⟩, hts (.static yX4_slide) (by decide +kernel), trivial⟩ rfl rfl (Nat.le_of_ble_eq_true rfl) dX2_becomeShearedUp_76) hS (fun H locs hR hS => ?_)
      refine lv_topi (fun r_9 e_9 => ?_)
      have h := of_nm e_9 h
      refine lv_icmp_eq (tgt := 100) hx hb dX2_becomeShearedUp_79 (by decide) (fun hc => ?_) (fun hc => ?_)
      · have h := of_pos hc h
        exact w_jp_X2_becomeShearedUp_100 X hK hT hM a0 a1 l2 l3 v_4 s9.2.1 k0 k1 h kb kx0 H locs ls hR hS (lv_sub hl [1, 2, 3, 4, 0, 5] rfl)
      · have h := of_neg hc h
        exact w_jp_X2_becomeShearedUp_82 X hK hT hM a0 a1 l2 l3 v_4 s9.2.1 k0 k1 h kb kx0 H locs ls hR hS (lv_sub hl [1, 2, 3, 4, 0, 5] rfl)

set_option maxHeartbeats 4000000 in
set_option maxRecDepth 100000 in
theorem w_lp_X2_becomeShearedUp_36 (X : Cx cX2_becomeShearedUp none 7 RX2 wsX2_becomeShearedUp p s m args meth c) (hK : Kn cA D s) (hT : TL Λ) (hM : 3 ≤ R.frames ∧ 64 ≤ R.locals) (a0 : Nat) (a1 : Nat) (l2 : Int32) (l3 : Int32) (k0 : isK Λ a0 3) (k1 : isK Λ a1 3) {e9 : Sto} : ∀ (n9 : Nat) (s9 : (Int64 × Int32 × Sto)), iter (bd_X2_becomeShearedUp_36 Λ a0 a1 l2 l3) n9 s9 = some e9 → ∀ (kx0 : ∀ (H : Heap) (locs : List Loc) (ls : Array Slot), Rep cA D Λ e9 H → va_S (dm Λ) s.heap H locs → lv_has ls 7 [] → W p l e R s m args below meth c H locs 0 0 Q (F0 m 106 ls [])), ∀ (H : Heap) (locs : List Loc) (ls : Array Slot), Rep cA D Λ s9.2.2 H → va_S (dm Λ) s.heap H locs → lv_has ls 7 [(0, .ref a0), (1, .ref a1), (2, .int l2), (3, .int l3), (4, .long s9.1), (6, .int s9.2.1)] → W p l e R s m args below meth c H locs 0 0 Q (F0 m 36 ls []) := by
  intro n9
  induction n9 with
  | zero => intro s9 h; cases h
  | succ n9 ih =>
    intro s9 h kx0 H locs ls hR hS hl
    obtain ⟨r, hr, h⟩ := of_iter h
    refine w_bd_X2_becomeShearedUp_36 X hK hT hM a0 a1 l2 l3 s9 k0 k1 hr (fun z ez H locs ls hR hS hl => ?_) (fun z ez H locs ls hR hS hl => ?_) H locs ls hR hS hl
    · exact ih z (of_itl ez h) kx0 H locs ls hR hS hl
    · have he := of_itr ez h; subst he; exact kx0 H locs ls hR hS hl

set_option maxHeartbeats 4000000 in
set_option maxRecDepth 100000 in
theorem w_X2_becomeShearedUp (X : Cx cX2_becomeShearedUp none 7 RX2 wsX2_becomeShearedUp p s m args meth c) (hK : Kn cA D s) (hT : TL Λ) (hM : 3 ≤ R.frames ∧ 64 ≤ R.locals) (a0 : Nat) (a1 : Nat) (l2 : Int32) (k0 : isK Λ a0 3) (k1 : isK Λ a1 3) {res : Sto} (h : F_X2_becomeShearedUp Λ σ a0 a1 l2 = some res) (H : Heap) (locs : List Loc) (ls : Array Slot) (hR : Rep cA D Λ σ H) (hS : va_S (dm Λ) s.heap H locs) (hl : lv_has ls 7 [(0, .ref a0), (1, .ref a1), (2, .int l2)]) : W p l e R s m args below meth c H locs 0 0 (MQ below (QV cA D Λ res) args s 0 0 (dm Λ)) (F0 m 0 ls []) := by
  have hx := X.1
  have hb := X.2.1
  have hown := X.2.2.2.2.1
  have hts := X.2.2.2.2.2.1
  unfold F_X2_becomeShearedUp at h
  refine lv_aload_n hx hb dX2_becomeShearedUp_0 rfl (lv_at hl 0 rfl) ?_
  refine lv_aload_n hx hb dX2_becomeShearedUp_1 rfl (lv_at hl 1 rfl) ?_
  refine rw_getI X hK hR 3 0 k1 (by decide) (C := RX2) (T := TX2) (N := 3) rfl (by decide) in_X2_becomeShearedUp_3 (by decide +kernel) rfl dX2_becomeShearedUp_2 ?_
  refine lv_aload_n hx hb dX2_becomeShearedUp_5 rfl (lv_at hl 1 rfl) ?_
  refine rw_getI X hK hR 3 1 k1 (by decide) (C := RX2) (T := TX2) (N := 3) rfl (by decide) in_X2_becomeShearedUp_3 (by decide +kernel) rfl dX2_becomeShearedUp_6 ?_
  refine lv_iload_n hx hb dX2_becomeShearedUp_9 rfl (lv_at hl 2 rfl) ?_
  refine lv_aload_n hx hb dX2_becomeShearedUp_10 rfl (lv_at hl 1 rfl) ?_
  refine rw_getI X hK hR 3 0 k1 (by decide) (C := RX2) (T := TX2) (N := 3) rfl (by decide) in_X2_becomeShearedUp_3 (by decide +kernel) rfl dX2_becomeShearedUp_11 ?_
  refine cl_i (rn_SN (As := [.int l2, .int (σ.1 a1 0)]) (rest := [.int (σ.1 a1 1), .int (σ.1 a1 0), .ref a0]) X hK hR hl.1 (c_X4_spread l cA D Λ hT σ l2 (σ.1 a1 0)) ⟨va_cnB 2 hts gX2_becomeShearedUp_X4_spread_n69 rfl rfl rfl (hK.2 (.methodLinkNest RX2 69 yX4_spread RX4) (by decide +kernel)) (hts (.initialized RX4) (by decide +kernel)) (by decide +kernel) ⟨Nat.le_trans (by decide) hM.1, Nat.le_trans (by decide) hM.2⟩, hts (.static yX4_spread) (by decide +kernel), trivial⟩ rfl rfl (Nat.le_of_ble_eq_true rfl) dX2_becomeShearedUp_14) hS (fun H locs hR hS => ?_)
  refine lv_topi (fun r_1 e_1 => ?_)
  have h := of_nm e_1 h
  refine lv_iadd hx hb dX2_becomeShearedUp_17 ?_
  obtain ⟨q_2, hq_2, h⟩ := of_bind h
  refine cl_v (rn_V (As := [.int (σ.1 a1 0), .int ((σ.1 a1 1) + r_1)]) (rest := []) X hK hR k0 rfl (by decide) hl.1 (c_X2_empty l cA D Λ hT σ a0 (σ.1 a1 0) ((σ.1 a1 1) + r_1) k0 hq_2) (cwV 2 hts gX2_becomeShearedUp_X2_empty rfl rfl rfl (by decide +kernel) ⟨Nat.le_trans (by decide) hM.1, Nat.le_trans (by decide) hM.2⟩) rfl rfl (Nat.le_of_ble_eq_true rfl) dX2_becomeShearedUp_18) hS (fun H locs hR hS => ?_)
  refine lv_iload_n hx hb dX2_becomeShearedUp_21 rfl (lv_at hl 2 rfl) ?_
  refine lv_aload_n hx hb dX2_becomeShearedUp_22 rfl (lv_at hl 0 rfl) ?_
  refine rw_getI X hK hR 3 0 k0 (by decide) (C := RX2) (T := TX2) (N := 3) rfl (by decide) in_X2_becomeShearedUp_3 (by decide +kernel) rfl dX2_becomeShearedUp_23 ?_
  refine cl_i (rn_SN (As := [.int l2, .int (q_2.1 a0 0)]) (rest := []) X hK hR hl.1 (c_X4_leastSlide l cA D Λ hT q_2 l2 (q_2.1 a0 0)) ⟨va_cnB 2 hts gX2_becomeShearedUp_X4_leastSlide_n62 rfl rfl rfl (hK.2 (.methodLinkNest RX2 62 yX4_leastSlide RX4) (by decide +kernel)) (hts (.initialized RX4) (by decide +kernel)) (by decide +kernel) ⟨Nat.le_trans (by decide) hM.1, Nat.le_trans (by decide) hM.2⟩, hts (.static yX4_leastSlide) (by decide +kernel), trivial⟩ rfl rfl (Nat.le_of_ble_eq_true rfl) dX2_becomeShearedUp_26) hS (fun H locs hR hS => ?_)
  refine lv_topi (fun r_3 e_3 => ?_)
  have h := of_nm e_3 h
  refine lv_istore_n (lv' := [(3, .int r_3), (0, .ref a0), (1, .ref a1), (2, .int l2)]) hx hb dX2_becomeShearedUp_29 rfl hl (by decide) rfl (fun ls hl => ?_)
  refine lv_lconst (v := (0 : Int64)) hx hb dX2_becomeShearedUp_30 (by decide) ?_
  refine lv_lstore (lv' := [(4, .long (0 : Int64)), (3, .int r_3), (0, .ref a0), (1, .ref a1), (2, .int l2)]) hx hb dX2_becomeShearedUp_31 hl (by decide) rfl (fun ls hl => ?_)
  refine lv_iconst (v := (0 : Int32)) hx hb dX2_becomeShearedUp_33 (by decide) ?_
  refine lv_istore (lv' := [(6, .int (0 : Int32)), (4, .long (0 : Int64)), (3, .int r_3), (0, .ref a0), (1, .ref a1), (2, .int l2)]) hx hb dX2_becomeShearedUp_34 hl (by decide) rfl (fun ls hl => ?_)
  obtain ⟨e_10, hq_10, h⟩ := of_bind h
  refine w_lp_X2_becomeShearedUp_36 X hK hT hM a0 a1 l2 r_3 k0 k1 _ ((0 : Int64), (0 : Int32), q_2) hq_10 (fun H locs ls hR hS hl => ?_) H locs ls hR hS (lv_sub hl [3, 4, 5, 2, 1, 0] rfl)
  exact rt_v X hR hS (Option.some.inj h) dX2_becomeShearedUp_106

set_option maxHeartbeats 4000000 in
set_option maxRecDepth 100000 in
theorem c_X2_becomeShearedUp (l : Launch) (cA : Nat → ClassId) (D : va_G) (Λ : Lay) (hT : TL Λ) (σ : Sto) (a0 : Nat) (a1 : Nat) (l2 : Int32) (k0 : isK Λ a0 3) (k1 : isK Λ a1 3) {res : Sto} (h : F_X2_becomeShearedUp Λ σ a0 a1 l2 = some res) : Met l yX2_becomeShearedUp wsX2_becomeShearedUp { frames := 3, cells := 0, slots := 0, locals := 64 } (va_Pc [.ref a0, .ref a1, .int l2] (PW cA D Λ σ)) (QV cA D Λ res) 0 0 (dm Λ) := by
  refine Met.ofW (cc := cX2_becomeShearedUp) (maxL := 7) (ret := none) (by decide) rfl ?_
  intro p e s m args below meth c s₁ B hml hv
  obtain ⟨rfl, hR, hK⟩ := hv
  have X : Cx cX2_becomeShearedUp none 7 RX2 wsX2_becomeShearedUp p s m _ meth c := ⟨B.exec, B.bytes, B.returns, hml, findClass_of_methodNamed B.named, atoms_spec (ws := wsX2_becomeShearedUp) B.pre, B.notSynchronized⟩
  have hS : va_S (dm Λ) s.heap s.heap [] := va_S.rf
  have hl := lv_entry ([.ref a0, .ref a1, .int l2]) (n := 7) (Nat.le_of_ble_eq_true rfl)
  rw [lg_entry_eq]
  generalize (lg_sl ([.ref a0, .ref a1, .int l2]) ++ List.replicate (7 - (lg_sl ([.ref a0, .ref a1, .int l2])).length) Slot.unset).toArray = ls at hl ⊢
  have hl : lv_has ls 7 [(0, .ref a0), (1, .ref a1), (2, .int l2)] := hl
  exact w_X2_becomeShearedUp X hK hT ⟨Nat.le_refl _, Nat.le_refl _⟩ a0 a1 l2 k0 k1 h s.heap [] ls hR hS hl
theorem in_X2_isDark_3 : ∀ w ∈ u_ws RX2 TX2 3, w ∈ wsX2_isDark := by decide +kernel
set_option maxHeartbeats 4000000 in
set_option maxRecDepth 100000 in
theorem w_X2_isDark (X : Cx cX2_isDark (some .boolean) 3 RX2 wsX2_isDark p s m args meth c) (hK : Kn cA D s) (hT : TL Λ) (hM : 1 ≤ R.frames ∧ 23 ≤ R.locals) (a0 : Nat) (l1 : Int32) (l2 : Int32) (k0 : isK Λ a0 3) {res : Int32} (h : F_X2_isDark Λ σ a0 l1 l2 = some res) (H : Heap) (locs : List Loc) (ls : Array Slot) (hR : Rep cA D Λ σ H) (hS : va_S (dm Λ) s.heap H locs) (hl : lv_has ls 3 [(0, .ref a0), (1, .int l1), (2, .int l2)]) : W p l e R s m args below meth c H locs 0 0 (MQ below (QZ cA D Λ (res, σ)) args s 0 0 (dm Λ)) (F0 m 0 ls []) := by
  have hx := X.1
  have hb := X.2.1
  have hown := X.2.2.2.2.1
  have hts := X.2.2.2.2.2.1
  unfold F_X2_isDark at h
  refine lv_aload_n hx hb dX2_isDark_0 rfl (lv_at hl 0 rfl) ?_
  refine lv_iload_n hx hb dX2_isDark_1 rfl (lv_at hl 1 rfl) ?_
  obtain ⟨q_1, hq_1, h⟩ := of_bind h
  refine cl_i (rn_V (As := [.int l1]) (rest := []) X hK hR k0 rfl (by decide) hl.1 (c_X2_columnInk l cA D Λ hT σ a0 l1 k0 hq_1) (cwV 1 hts gX2_isDark_X2_columnInk rfl rfl rfl (by decide +kernel) ⟨Nat.le_trans (by decide) hM.1, Nat.le_trans (by decide) hM.2⟩) rfl rfl (Nat.le_of_ble_eq_true rfl) dX2_isDark_2) hS (fun H locs hR hS => ?_)
  refine lv_bipush (v := (100 : Int32)) hx hb dX2_isDark_5 (by decide) ?_
  refine lv_imul hx hb dX2_isDark_7 ?_
  refine lv_iload_n hx hb dX2_isDark_8 rfl (lv_at hl 2 rfl) ?_
  refine lv_aload_n hx hb dX2_isDark_9 rfl (lv_at hl 0 rfl) ?_
  refine rw_getI X hK hR 3 1 k0 (by decide) (C := RX2) (T := TX2) (N := 3) rfl (by decide) in_X2_isDark_3 (by decide +kernel) rfl dX2_isDark_10 ?_
  refine lv_imul hx hb dX2_isDark_13 ?_
  refine lv_icmp_lt (tgt := 21) hx hb dX2_isDark_14 (by decide) (fun hc => ?_) (fun hc => ?_)
  · have h := of_pos hc h
    refine lv_iconst (v := (0 : Int32)) hx hb dX2_isDark_21 (by decide) ?_
    exact rt_z X hR hS (congrArg (fun z => (z, σ)) (Option.some.inj h)) (Or.inl rfl) dX2_isDark_22
  · have h := of_neg hc h
    refine lv_iconst (v := (1 : Int32)) hx hb dX2_isDark_17 (by decide) ?_
    refine lv_goto (tgt := 22) hx hb dX2_isDark_18 (by decide) ?_
    exact rt_z X hR hS (congrArg (fun z => (z, σ)) (Option.some.inj h)) (Or.inr rfl) dX2_isDark_22

set_option maxHeartbeats 4000000 in
set_option maxRecDepth 100000 in
theorem c_X2_isDark (l : Launch) (cA : Nat → ClassId) (D : va_G) (Λ : Lay) (hT : TL Λ) (σ : Sto) (a0 : Nat) (l1 : Int32) (l2 : Int32) (k0 : isK Λ a0 3) {res : Int32} (h : F_X2_isDark Λ σ a0 l1 l2 = some res) : Met l yX2_isDark wsX2_isDark { frames := 1, cells := 0, slots := 0, locals := 23 } (va_Pc [.ref a0, .int l1, .int l2] (PW cA D Λ σ)) (QZ cA D Λ (res, σ)) 0 0 (dm Λ) := by
  refine Met.ofW (cc := cX2_isDark) (maxL := 3) (ret := (some .boolean)) (by decide) rfl ?_
  intro p e s m args below meth c s₁ B hml hv
  obtain ⟨rfl, hR, hK⟩ := hv
  have X : Cx cX2_isDark (some .boolean) 3 RX2 wsX2_isDark p s m _ meth c := ⟨B.exec, B.bytes, B.returns, hml, findClass_of_methodNamed B.named, atoms_spec (ws := wsX2_isDark) B.pre, B.notSynchronized⟩
  have hS : va_S (dm Λ) s.heap s.heap [] := va_S.rf
  have hl := lv_entry ([.ref a0, .int l1, .int l2]) (n := 3) (Nat.le_of_ble_eq_true rfl)
  rw [lg_entry_eq]
  generalize (lg_sl ([.ref a0, .int l1, .int l2]) ++ List.replicate (3 - (lg_sl ([.ref a0, .int l1, .int l2])).length) Slot.unset).toArray = ls at hl ⊢
  have hl : lv_has ls 3 [(0, .ref a0), (1, .int l1), (2, .int l2)] := hl
  exact w_X2_isDark X hK hT ⟨Nat.le_refl _, Nat.le_refl _⟩ a0 l1 l2 k0 h s.heap [] ls hR hS hl
theorem in_X2_shadowColumns_3 : ∀ w ∈ u_ws RX2 TX2 3, w ∈ wsX2_shadowColumns := by decide +kernel
set_option maxHeartbeats 4000000 in
set_option maxRecDepth 100000 in
theorem w_bd_X2_shadowColumns_5 (X : Cx cX2_shadowColumns (some .long) 5 RX2 wsX2_shadowColumns p s m args meth c) (hK : Kn cA D s) (hT : TL Λ) (hM : 2 ≤ R.frames ∧ 45 ≤ R.locals) (a0 : Nat) (l1 : Int32) (s9 : (Int64 × Int32)) (k0 : isK Λ a0 3) {r : (Int64 × Int32) ⊕ Int64} (h : bd_X2_shadowColumns_5 Λ σ a0 l1 s9 = some r) (kb : ∀ z : (Int64 × Int32), r = .inl z → ∀ (H : Heap) (locs : List Loc) (ls : Array Slot), Rep cA D Λ σ H → va_S (dm Λ) s.heap H locs → lv_has ls 5 [(0, .ref a0), (1, .int l1), (2, .long z.1), (4, .int z.2)] → W p l e R s m args below meth c H locs 0 0 Q (F0 m 5 ls [])) (kx0 : ∀ z : Int64, r = .inr z → ∀ (H : Heap) (locs : List Loc) (ls : Array Slot), Rep cA D Λ σ H → va_S (dm Λ) s.heap H locs → lv_has ls 5 [(0, .ref a0), (1, .int l1), (2, .long z)] → W p l e R s m args below meth c H locs 0 0 Q (F0 m 37 ls [])) (H : Heap) (locs : List Loc) (ls : Array Slot) (hR : Rep cA D Λ σ H) (hS : va_S (dm Λ) s.heap H locs) (hl : lv_has ls 5 [(0, .ref a0), (1, .int l1), (2, .long s9.1), (4, .int s9.2)]) : W p l e R s m args below meth c H locs 0 0 Q (F0 m 5 ls []) := by
  have hx := X.1
  have hb := X.2.1
  have hown := X.2.2.2.2.1
  have hts := X.2.2.2.2.2.1
  unfold bd_X2_shadowColumns_5 at h
  refine lv_iload hx hb dX2_shadowColumns_5 (lv_at hl 3 rfl) ?_
  refine lv_aload_n hx hb dX2_shadowColumns_7 rfl (lv_at hl 0 rfl) ?_
  refine rw_getI X hK hR 3 0 k0 (by decide) (C := RX2) (T := TX2) (N := 3) rfl (by decide) in_X2_shadowColumns_3 (by decide +kernel) rfl dX2_shadowColumns_8 ?_
  refine lv_icmp_ge (tgt := 37) hx hb dX2_shadowColumns_11 (by decide) (fun hc => ?_) (fun hc => ?_)
  · have h := of_pos hc h
    exact kx0 s9.1 (Option.some.inj h).symm H locs ls hR hS (lv_sub hl [0, 1, 2] rfl)
  · have h := of_neg hc h
    refine lv_aload_n hx hb dX2_shadowColumns_14 rfl (lv_at hl 0 rfl) ?_
    refine lv_iload hx hb dX2_shadowColumns_15 (lv_at hl 3 rfl) ?_
    refine lv_iload_n hx hb dX2_shadowColumns_17 rfl (lv_at hl 1 rfl) ?_
    obtain ⟨q_1, hq_1, h⟩ := of_bind h
    refine cl_z (rn_V (As := [.int s9.2, .int l1]) (rest := []) X hK hR k0 rfl (by decide) hl.1 (c_X2_isDark l cA D Λ hT σ a0 s9.2 l1 k0 hq_1) (cwV 2 hts gX2_shadowColumns_X2_isDark rfl rfl rfl (by decide +kernel) ⟨Nat.le_trans (by decide) hM.1, Nat.le_trans (by decide) hM.2⟩) rfl rfl (Nat.le_of_ble_eq_true rfl) dX2_shadowColumns_18) hS (fun hz_1 H locs hR hS => ?_)
    refine lv_if_eq (tgt := 37) hx hb dX2_shadowColumns_21 (by decide) (fun hc => ?_) (fun hc => ?_)
    · have h := of_pos hc h
      exact kx0 s9.1 (Option.some.inj h).symm H locs ls hR hS (lv_sub hl [0, 1, 2] rfl)
    · have h := of_neg hc h
      refine lv_lload_n hx hb dX2_shadowColumns_24 rfl (lv_at hl 2 rfl) ?_
      refine lv_lconst (v := (1 : Int64)) hx hb dX2_shadowColumns_25 (by decide) ?_
      refine lv_iload hx hb dX2_shadowColumns_26 (lv_at hl 3 rfl) ?_
      refine lv_lshl (v := (shlL (1 : Int64) s9.2)) hx hb dX2_shadowColumns_28 rfl ?_
      refine lv_lor hx hb dX2_shadowColumns_29 ?_
      refine lv_topl (fun v_2 e_v_2 => ?_)
      have h := of_nm e_v_2 h
      refine lv_lstore_n (lv' := [(2, .long v_2), (0, .ref a0), (1, .int l1), (4, .int s9.2)]) hx hb dX2_shadowColumns_30 rfl hl (by decide) rfl (fun ls hl => ?_)
      obtain ⟨v_3, e_v_3⟩ : ∃ y : Int32, y = (s9.2 + (1 : Int32)) := ⟨_, rfl⟩
      have h := of_nm e_v_3 h
      refine lv_iinc (v := v_3) (lv' := [(4, .int v_3), (2, .long v_2), (0, .ref a0), (1, .int l1)]) hx hb dX2_shadowColumns_31 hl (k := 3) rfl (by rw [e_v_3]; rfl) (by decide) rfl (fun ls hl => ?_)
      refine lv_goto (tgt := 5) hx hb dX2_shadowColumns_34 (by decide) ?_
      exact kb (v_2, v_3) (Option.some.inj h).symm H locs ls hR hS (lv_sub hl [2, 3, 1, 0] rfl)

set_option maxHeartbeats 4000000 in
set_option maxRecDepth 100000 in
theorem w_lp_X2_shadowColumns_5 (X : Cx cX2_shadowColumns (some .long) 5 RX2 wsX2_shadowColumns p s m args meth c) (hK : Kn cA D s) (hT : TL Λ) (hM : 2 ≤ R.frames ∧ 45 ≤ R.locals) (a0 : Nat) (l1 : Int32) (k0 : isK Λ a0 3) {e9 : Int64} : ∀ (n9 : Nat) (s9 : (Int64 × Int32)), iter (bd_X2_shadowColumns_5 Λ σ a0 l1) n9 s9 = some e9 → ∀ (kx0 : ∀ (H : Heap) (locs : List Loc) (ls : Array Slot), Rep cA D Λ σ H → va_S (dm Λ) s.heap H locs → lv_has ls 5 [(0, .ref a0), (1, .int l1), (2, .long e9)] → W p l e R s m args below meth c H locs 0 0 Q (F0 m 37 ls [])), ∀ (H : Heap) (locs : List Loc) (ls : Array Slot), Rep cA D Λ σ H → va_S (dm Λ) s.heap H locs → lv_has ls 5 [(0, .ref a0), (1, .int l1), (2, .long s9.1), (4, .int s9.2)] → W p l e R s m args below meth c H locs 0 0 Q (F0 m 5 ls []) := by
  intro n9
  induction n9 with
  | zero => intro s9 h; cases h
  | succ n9 ih =>
    intro s9 h kx0 H locs ls hR hS hl
    obtain ⟨r, hr, h⟩ := of_iter h
    refine w_bd_X2_shadowColumns_5 X hK hT hM a0 l1 s9 k0 hr (fun z ez H locs ls hR hS hl => ?_) (fun z ez H locs ls hR hS hl => ?_) H locs ls hR hS hl
    · exact ih z (of_itl ez h) kx0 H locs ls hR hS hl
    · have he := of_itr ez h; subst he; exact kx0 H locs ls hR hS hl

set_option maxHeartbeats 4000000 in
set_option maxRecDepth 100000 in
theorem w_bd_X2_shadowColumns_56 (X : Cx cX2_shadowColumns (some .long) 5 RX2 wsX2_shadowColumns p s m args meth c) (hK : Kn cA D s) (hT : TL Λ) (hM : 2 ≤ R.frames ∧ 45 ≤ R.locals) (a0 : Nat) (l1 : Int32) (s9 : (Int64 × Int32)) (k0 : isK Λ a0 3) {r : (Int64 × Int32) ⊕ Int64} (h : bd_X2_shadowColumns_56 Λ σ a0 l1 s9 = some r) (kb : ∀ z : (Int64 × Int32), r = .inl z → ∀ (H : Heap) (locs : List Loc) (ls : Array Slot), Rep cA D Λ σ H → va_S (dm Λ) s.heap H locs → lv_has ls 5 [(0, .ref a0), (1, .int l1), (2, .long z.1), (4, .int z.2)] → W p l e R s m args below meth c H locs 0 0 Q (F0 m 56 ls [])) (kx0 : ∀ z : Int64, r = .inr z → ∀ (H : Heap) (locs : List Loc) (ls : Array Slot), Rep cA D Λ σ H → va_S (dm Λ) s.heap H locs → lv_has ls 5 [(2, .long z)] → W p l e R s m args below meth c H locs 0 0 Q (F0 m 84 ls [])) (H : Heap) (locs : List Loc) (ls : Array Slot) (hR : Rep cA D Λ σ H) (hS : va_S (dm Λ) s.heap H locs) (hl : lv_has ls 5 [(0, .ref a0), (1, .int l1), (2, .long s9.1), (4, .int s9.2)]) : W p l e R s m args below meth c H locs 0 0 Q (F0 m 56 ls []) := by
  have hx := X.1
  have hb := X.2.1
  have hown := X.2.2.2.2.1
  have hts := X.2.2.2.2.2.1
  unfold bd_X2_shadowColumns_56 at h
  refine lv_iload hx hb dX2_shadowColumns_56 (lv_at hl 3 rfl) ?_
  refine lv_if_lt (tgt := 84) hx hb dX2_shadowColumns_58 (by decide) (fun hc => ?_) (fun hc => ?_)
  · have h := of_pos hc h
    exact kx0 s9.1 (Option.some.inj h).symm H locs ls hR hS (lv_sub hl [2] rfl)
  · have h := of_neg hc h
    refine lv_aload_n hx hb dX2_shadowColumns_61 rfl (lv_at hl 0 rfl) ?_
    refine lv_iload hx hb dX2_shadowColumns_62 (lv_at hl 3 rfl) ?_
    refine lv_iload_n hx hb dX2_shadowColumns_64 rfl (lv_at hl 1 rfl) ?_
    obtain ⟨q_7, hq_7, h⟩ := of_bind h
    refine cl_z (rn_V (As := [.int s9.2, .int l1]) (rest := []) X hK hR k0 rfl (by decide) hl.1 (c_X2_isDark l cA D Λ hT σ a0 s9.2 l1 k0 hq_7) (cwV 2 hts gX2_shadowColumns_X2_isDark rfl rfl rfl (by decide +kernel) ⟨Nat.le_trans (by decide) hM.1, Nat.le_trans (by decide) hM.2⟩) rfl rfl (Nat.le_of_ble_eq_true rfl) dX2_shadowColumns_65) hS (fun hz_7 H locs hR hS => ?_)
    refine lv_if_eq (tgt := 84) hx hb dX2_shadowColumns_68 (by decide) (fun hc => ?_) (fun hc => ?_)
    · have h := of_pos hc h
      exact kx0 s9.1 (Option.some.inj h).symm H locs ls hR hS (lv_sub hl [2] rfl)
    · have h := of_neg hc h
      refine lv_lload_n hx hb dX2_shadowColumns_71 rfl (lv_at hl 2 rfl) ?_
      refine lv_lconst (v := (1 : Int64)) hx hb dX2_shadowColumns_72 (by decide) ?_
      refine lv_iload hx hb dX2_shadowColumns_73 (lv_at hl 3 rfl) ?_
      refine lv_lshl (v := (shlL (1 : Int64) s9.2)) hx hb dX2_shadowColumns_75 rfl ?_
      refine lv_lor hx hb dX2_shadowColumns_76 ?_
      refine lv_topl (fun v_8 e_v_8 => ?_)
      have h := of_nm e_v_8 h
      refine lv_lstore_n (lv' := [(2, .long v_8), (0, .ref a0), (1, .int l1), (4, .int s9.2)]) hx hb dX2_shadowColumns_77 rfl hl (by decide) rfl (fun ls hl => ?_)
      obtain ⟨v_9, e_v_9⟩ : ∃ y : Int32, y = (s9.2 + (-1 : Int32)) := ⟨_, rfl⟩
      have h := of_nm e_v_9 h
      refine lv_iinc (v := v_9) (lv' := [(4, .int v_9), (2, .long v_8), (0, .ref a0), (1, .int l1)]) hx hb dX2_shadowColumns_78 hl (k := 3) rfl (by rw [e_v_9]; rfl) (by decide) rfl (fun ls hl => ?_)
      refine lv_goto (tgt := 56) hx hb dX2_shadowColumns_81 (by decide) ?_
      exact kb (v_8, v_9) (Option.some.inj h).symm H locs ls hR hS (lv_sub hl [2, 3, 1, 0] rfl)

set_option maxHeartbeats 4000000 in
set_option maxRecDepth 100000 in
theorem w_lp_X2_shadowColumns_56 (X : Cx cX2_shadowColumns (some .long) 5 RX2 wsX2_shadowColumns p s m args meth c) (hK : Kn cA D s) (hT : TL Λ) (hM : 2 ≤ R.frames ∧ 45 ≤ R.locals) (a0 : Nat) (l1 : Int32) (k0 : isK Λ a0 3) {e9 : Int64} : ∀ (n9 : Nat) (s9 : (Int64 × Int32)), iter (bd_X2_shadowColumns_56 Λ σ a0 l1) n9 s9 = some e9 → ∀ (kx0 : ∀ (H : Heap) (locs : List Loc) (ls : Array Slot), Rep cA D Λ σ H → va_S (dm Λ) s.heap H locs → lv_has ls 5 [(2, .long e9)] → W p l e R s m args below meth c H locs 0 0 Q (F0 m 84 ls [])), ∀ (H : Heap) (locs : List Loc) (ls : Array Slot), Rep cA D Λ σ H → va_S (dm Λ) s.heap H locs → lv_has ls 5 [(0, .ref a0), (1, .int l1), (2, .long s9.1), (4, .int s9.2)] → W p l e R s m args below meth c H locs 0 0 Q (F0 m 56 ls []) := by
  intro n9
  induction n9 with
  | zero => intro s9 h; cases h
  | succ n9 ih =>
    intro s9 h kx0 H locs ls hR hS hl
    obtain ⟨r, hr, h⟩ := of_iter h
    refine w_bd_X2_shadowColumns_56 X hK hT hM a0 l1 s9 k0 hr (fun z ez H locs ls hR hS hl => ?_) (fun z ez H locs ls hR hS hl => ?_) H locs ls hR hS hl
    · exact ih z (of_itl ez h) kx0 H locs ls hR hS hl
    · have he := of_itr ez h; subst he; exact kx0 H locs ls hR hS hl

set_option maxHeartbeats 4000000 in
set_option maxRecDepth 100000 in
theorem w_X2_shadowColumns (X : Cx cX2_shadowColumns (some .long) 5 RX2 wsX2_shadowColumns p s m args meth c) (hK : Kn cA D s) (hT : TL Λ) (hM : 2 ≤ R.frames ∧ 45 ≤ R.locals) (a0 : Nat) (l1 : Int32) (k0 : isK Λ a0 3) {res : Int64} (h : F_X2_shadowColumns Λ σ a0 l1 = some res) (H : Heap) (locs : List Loc) (ls : Array Slot) (hR : Rep cA D Λ σ H) (hS : va_S (dm Λ) s.heap H locs) (hl : lv_has ls 5 [(0, .ref a0), (1, .int l1)]) : W p l e R s m args below meth c H locs 0 0 (MQ below (QL cA D Λ (res, σ)) args s 0 0 (dm Λ)) (F0 m 0 ls []) := by
  have hx := X.1
  have hb := X.2.1
  have hown := X.2.2.2.2.1
  have hts := X.2.2.2.2.2.1
  unfold F_X2_shadowColumns at h
  refine lv_lconst (v := (0 : Int64)) hx hb dX2_shadowColumns_0 (by decide) ?_
  refine lv_lstore_n (lv' := [(2, .long (0 : Int64)), (0, .ref a0), (1, .int l1)]) hx hb dX2_shadowColumns_1 rfl hl (by decide) rfl (fun ls hl => ?_)
  refine lv_iconst (v := (0 : Int32)) hx hb dX2_shadowColumns_2 (by decide) ?_
  refine lv_istore (lv' := [(4, .int (0 : Int32)), (2, .long (0 : Int64)), (0, .ref a0), (1, .int l1)]) hx hb dX2_shadowColumns_3 hl (by decide) rfl (fun ls hl => ?_)
  obtain ⟨e_4, hq_4, h⟩ := of_bind h
  refine w_lp_X2_shadowColumns_5 X hK hT hM a0 l1 k0 _ ((0 : Int64), (0 : Int32)) hq_4 (fun H locs ls hR hS hl => ?_) H locs ls hR hS (lv_sub hl [2, 3, 1, 0] rfl)
  refine lv_lload_n hx hb dX2_shadowColumns_37 rfl (lv_at hl 2 rfl) ?_
  refine lv_aload_n hx hb dX2_shadowColumns_38 rfl (lv_at hl 0 rfl) ?_
  refine cl_l (rn_V (As := []) (rest := [.long e_4]) X hK hR k0 rfl (by decide) hl.1 (c_X2_allColumns l cA D Λ hT σ a0 k0) (cwV 0 hts gX2_shadowColumns_X2_allColumns rfl rfl rfl (by decide +kernel) ⟨Nat.le_trans (by decide) hM.1, Nat.le_trans (by decide) hM.2⟩) rfl rfl (Nat.le_of_ble_eq_true rfl) dX2_shadowColumns_39) hS (fun H locs hR hS => ?_)
  refine lv_topl (fun r_5 e_5 => ?_)
  have h := of_nm e_5 h
  refine W.lcmp hx hb dX2_shadowColumns_42 ?_
  refine lv_if_ne (tgt := 48) hx hb dX2_shadowColumns_43 (by decide) (fun hc => ?_) (fun hc => ?_)
  · have h := of_neg hc h
    refine lv_aload_n hx hb dX2_shadowColumns_48 rfl (lv_at hl 0 rfl) ?_
    refine rw_getI X hK hR 3 0 k0 (by decide) (C := RX2) (T := TX2) (N := 3) rfl (by decide) in_X2_shadowColumns_3 (by decide +kernel) rfl dX2_shadowColumns_49 ?_
    refine lv_iconst (v := (1 : Int32)) hx hb dX2_shadowColumns_52 (by decide) ?_
    refine lv_isub hx hb dX2_shadowColumns_53 ?_
    refine lv_topi (fun v_6 e_v_6 => ?_)
    have h := of_nm e_v_6 h
    refine lv_istore (lv' := [(4, .int v_6), (0, .ref a0), (1, .int l1), (2, .long e_4)]) hx hb dX2_shadowColumns_54 hl (by decide) rfl (fun ls hl => ?_)
    obtain ⟨e_10, hq_10, h⟩ := of_bind h
    refine w_lp_X2_shadowColumns_56 X hK hT hM a0 l1 k0 _ (e_4, v_6) hq_10 (fun H locs ls hR hS hl => ?_) H locs ls hR hS (lv_sub hl [1, 2, 3, 0] rfl)
    refine lv_lload_n hx hb dX2_shadowColumns_84 rfl (lv_at hl 0 rfl) ?_
    exact rt_l X hR hS (congrArg (fun z => (z, σ)) (Option.some.inj h)) dX2_shadowColumns_85
  · have h := of_pos hc h
    refine lv_lconst (v := (0 : Int64)) hx hb dX2_shadowColumns_46 (by decide) ?_
    exact rt_l X hR hS (congrArg (fun z => (z, σ)) (Option.some.inj h)) dX2_shadowColumns_47

set_option maxHeartbeats 4000000 in
set_option maxRecDepth 100000 in
theorem c_X2_shadowColumns (l : Launch) (cA : Nat → ClassId) (D : va_G) (Λ : Lay) (hT : TL Λ) (σ : Sto) (a0 : Nat) (l1 : Int32) (k0 : isK Λ a0 3) {res : Int64} (h : F_X2_shadowColumns Λ σ a0 l1 = some res) : Met l yX2_shadowColumns wsX2_shadowColumns { frames := 2, cells := 0, slots := 0, locals := 45 } (va_Pc [.ref a0, .int l1] (PW cA D Λ σ)) (QL cA D Λ (res, σ)) 0 0 (dm Λ) := by
  refine Met.ofW (cc := cX2_shadowColumns) (maxL := 5) (ret := (some .long)) (by decide) rfl ?_
  intro p e s m args below meth c s₁ B hml hv
  obtain ⟨rfl, hR, hK⟩ := hv
  have X : Cx cX2_shadowColumns (some .long) 5 RX2 wsX2_shadowColumns p s m _ meth c := ⟨B.exec, B.bytes, B.returns, hml, findClass_of_methodNamed B.named, atoms_spec (ws := wsX2_shadowColumns) B.pre, B.notSynchronized⟩
  have hS : va_S (dm Λ) s.heap s.heap [] := va_S.rf
  have hl := lv_entry ([.ref a0, .int l1]) (n := 5) (Nat.le_of_ble_eq_true rfl)
  rw [lg_entry_eq]
  generalize (lg_sl ([.ref a0, .int l1]) ++ List.replicate (5 - (lg_sl ([.ref a0, .int l1])).length) Slot.unset).toArray = ls at hl ⊢
  have hl : lv_has ls 5 [(0, .ref a0), (1, .int l1)] := hl
  exact w_X2_shadowColumns X hK hT ⟨Nat.le_refl _, Nat.le_refl _⟩ a0 l1 k0 h s.heap [] ls hR hS hl
set_option maxHeartbeats 4000000 in
set_option maxRecDepth 100000 in
theorem w_jp_X2_faintestColumn_85 (X : Cx cX2_faintestColumn (some .int) 8 RX2 wsX2_faintestColumn p s m args meth c) (hK : Kn cA D s) (hT : TL Λ) (hM : 1 ≤ R.frames ∧ 23 ≤ R.locals) (a0 : Nat) (l1 : Int32) (l2 : Int32) (l3 : Int32) (l4 : Int32) (l5 : Int32)  (k0 : isK Λ a0 3) {r : (Int32 × Int32 × Int32) ⊕ Int32} (h : jp_X2_faintestColumn_85 Λ σ a0 l1 l2 l3 l4 l5 = some r) (kb : ∀ z : (Int32 × Int32 × Int32), r = .inl z → ∀ (H : Heap) (locs : List Loc) (ls : Array Slot), Rep cA D Λ σ H → va_S (dm Λ) s.heap H locs → lv_has ls 8 [(0, .ref a0), (1, .int l1), (2, .int l2), (3, .int z.1), (4, .int z.2.1), (5, .int z.2.2)] → W p l e R s m args below meth c H locs 0 0 Q (F0 m 14 ls [])) (kx0 : ∀ z : Int32, r = .inr z → ∀ (H : Heap) (locs : List Loc) (ls : Array Slot), Rep cA D Λ σ H → va_S (dm Λ) s.heap H locs → lv_has ls 8 [(3, .int z)] → W p l e R s m args below meth c H locs 0 0 Q (F0 m 91 ls [])) (H : Heap) (locs : List Loc) (ls : Array Slot) (hR : Rep cA D Λ σ H) (hS : va_S (dm Λ) s.heap H locs) (hl : lv_has ls 8 [(0, .ref a0), (1, .int l1), (2, .int l2), (3, .int l3), (4, .int l4), (5, .int l5)]) : W p l e R s m args below meth c H locs 0 0 Q (F0 m 85 ls []) := by
  have hx := X.1
  have hb := X.2.1
  have hown := X.2.2.2.2.1
  have hts := X.2.2.2.2.2.1
  unfold jp_X2_faintestColumn_85 at h
  obtain ⟨v_6, e_v_6⟩ : ∃ y : Int32, y = (l5 + (1 : Int32)) := ⟨_, rfl⟩
  have h := of_nm e_v_6 h
  refine lv_iinc (v := v_6) (lv' := [(5, .int v_6), (0, .ref a0), (1, .int l1), (2, .int l2), (3, .int l3), (4, .int l4)]) hx hb dX2_faintestColumn_85 hl (k := 5) rfl (by rw [e_v_6]; rfl) (by decide) rfl (fun ls hl => ?_)
  refine lv_goto (tgt := 14) hx hb dX2_faintestColumn_88 (by decide) ?_
  exact kb (l3, l4, v_6) (Option.some.inj h).symm H locs ls hR hS (lv_sub hl [1, 2, 3, 4, 5, 0] rfl)

set_option maxHeartbeats 4000000 in
set_option maxRecDepth 100000 in
theorem w_jp_X2_faintestColumn_78 (X : Cx cX2_faintestColumn (some .int) 8 RX2 wsX2_faintestColumn p s m args meth c) (hK : Kn cA D s) (hT : TL Λ) (hM : 1 ≤ R.frames ∧ 23 ≤ R.locals) (a0 : Nat) (l1 : Int32) (l2 : Int32) (l5 : Int32) (l6 : Int32)  (k0 : isK Λ a0 3) {r : (Int32 × Int32 × Int32) ⊕ Int32} (h : jp_X2_faintestColumn_78 Λ σ a0 l1 l2 l5 l6 = some r) (kb : ∀ z : (Int32 × Int32 × Int32), r = .inl z → ∀ (H : Heap) (locs : List Loc) (ls : Array Slot), Rep cA D Λ σ H → va_S (dm Λ) s.heap H locs → lv_has ls 8 [(0, .ref a0), (1, .int l1), (2, .int l2), (3, .int z.1), (4, .int z.2.1), (5, .int z.2.2)] → W p l e R s m args below meth c H locs 0 0 Q (F0 m 14 ls [])) (kx0 : ∀ z : Int32, r = .inr z → ∀ (H : Heap) (locs : List Loc) (ls : Array Slot), Rep cA D Λ σ H → va_S (dm Λ) s.heap H locs → lv_has ls 8 [(3, .int z)] → W p l e R s m args below meth c H locs 0 0 Q (F0 m 91 ls [])) (H : Heap) (locs : List Loc) (ls : Array Slot) (hR : Rep cA D Λ σ H) (hS : va_S (dm Λ) s.heap H locs) (hl : lv_has ls 8 [(0, .ref a0), (1, .int l1), (2, .int l2), (5, .int l5), (6, .int l6)]) : W p l e R s m args below meth c H locs 0 0 Q (F0 m 78 ls []) := by
  have hx := X.1
  have hb := X.2.1
  have hown := X.2.2.2.2.1
  have hts := X.2.2.2.2.2.1
  unfold jp_X2_faintestColumn_78 at h
  refine lv_iload hx hb dX2_faintestColumn_78 (lv_at hl 4 rfl) ?_
  refine lv_istore (lv' := [(4, .int l6), (0, .ref a0), (1, .int l1), (2, .int l2), (5, .int l5), (6, .int l6)]) hx hb dX2_faintestColumn_80 hl (by decide) rfl (fun ls hl => ?_)
  refine lv_iload hx hb dX2_faintestColumn_82 (lv_at hl 4 rfl) ?_
  refine lv_istore_n (lv' := [(3, .int l5), (4, .int l6), (0, .ref a0), (1, .int l1), (2, .int l2), (5, .int l5), (6, .int l6)]) hx hb dX2_faintestColumn_84 rfl hl (by decide) rfl (fun ls hl => ?_)
  exact w_jp_X2_faintestColumn_85 X hK hT hM a0 l1 l2 l5 l6 l5 k0 h kb kx0 H locs ls hR hS (lv_sub hl [2, 3, 4, 0, 1, 5] rfl)

set_option maxHeartbeats 4000000 in
set_option maxRecDepth 100000 in
theorem w_jp_X2_faintestColumn_57 (X : Cx cX2_faintestColumn (some .int) 8 RX2 wsX2_faintestColumn p s m args meth c) (hK : Kn cA D s) (hT : TL Λ) (hM : 1 ≤ R.frames ∧ 23 ≤ R.locals) (a0 : Nat) (l1 : Int32) (l2 : Int32) (l3 : Int32) (l4 : Int32) (l5 : Int32) (l6 : Int32) (ls0 : Int32) (k0 : isK Λ a0 3) {r : (Int32 × Int32 × Int32) ⊕ Int32} (h : jp_X2_faintestColumn_57 Λ σ a0 l1 l2 l3 l4 l5 l6 ls0 = some r) (kb : ∀ z : (Int32 × Int32 × Int32), r = .inl z → ∀ (H : Heap) (locs : List Loc) (ls : Array Slot), Rep cA D Λ σ H → va_S (dm Λ) s.heap H locs → lv_has ls 8 [(0, .ref a0), (1, .int l1), (2, .int l2), (3, .int z.1), (4, .int z.2.1), (5, .int z.2.2)] → W p l e R s m args below meth c H locs 0 0 Q (F0 m 14 ls [])) (kx0 : ∀ z : Int32, r = .inr z → ∀ (H : Heap) (locs : List Loc) (ls : Array Slot), Rep cA D Λ σ H → va_S (dm Λ) s.heap H locs → lv_has ls 8 [(3, .int z)] → W p l e R s m args below meth c H locs 0 0 Q (F0 m 91 ls [])) (H : Heap) (locs : List Loc) (ls : Array Slot) (hR : Rep cA D Λ σ H) (hS : va_S (dm Λ) s.heap H locs) (hl : lv_has ls 8 [(0, .ref a0), (1, .int l1), (2, .int l2), (3, .int l3), (4, .int l4), (5, .int l5), (6, .int l6)]) : W p l e R s m args below meth c H locs 0 0 Q (F0 m 57 ls [.int ls0]) := by
  have hx := X.1
  have hb := X.2.1
  have hown := X.2.2.2.2.1
  have hts := X.2.2.2.2.2.1
  unfold jp_X2_faintestColumn_57 at h
  refine lv_istore (lv' := [(7, .int ls0), (0, .ref a0), (1, .int l1), (2, .int l2), (3, .int l3), (4, .int l4), (5, .int l5), (6, .int l6)]) hx hb dX2_faintestColumn_57 hl (by decide) rfl (fun ls hl => ?_)
  refine lv_iload hx hb dX2_faintestColumn_59 (lv_at hl 7 rfl) ?_
  refine lv_iload hx hb dX2_faintestColumn_61 (lv_at hl 5 rfl) ?_
  refine lv_icmp_lt (tgt := 78) hx hb dX2_faintestColumn_63 (by decide) (fun hc => ?_) (fun hc => ?_)
  · have h := of_pos hc h
    exact w_jp_X2_faintestColumn_78 X hK hT hM a0 l1 l2 l5 l6 k0 h kb kx0 H locs ls hR hS (lv_sub hl [1, 2, 3, 6, 7] rfl)
  · have h := of_neg hc h
    refine lv_iload hx hb dX2_faintestColumn_66 (lv_at hl 7 rfl) ?_
    refine lv_iload hx hb dX2_faintestColumn_68 (lv_at hl 5 rfl) ?_
    refine lv_icmp_ne (tgt := 85) hx hb dX2_faintestColumn_70 (by decide) (fun hc => ?_) (fun hc => ?_)
    · have h := of_neg hc h
      exact w_jp_X2_faintestColumn_85 X hK hT hM a0 l1 l2 l3 l4 l5 k0 h kb kx0 H locs ls hR hS (lv_sub hl [1, 2, 3, 4, 5, 6] rfl)
    · have h := of_pos hc h
      refine lv_iload hx hb dX2_faintestColumn_73 (lv_at hl 0 rfl) ?_
      refine lv_if_eq (tgt := 85) hx hb dX2_faintestColumn_75 (by decide) (fun hc => ?_) (fun hc => ?_)
      · have h := of_pos hc h
        exact w_jp_X2_faintestColumn_85 X hK hT hM a0 l1 l2 l3 l4 l5 k0 h kb kx0 H locs ls hR hS (lv_sub hl [1, 2, 3, 4, 5, 6] rfl)
      · have h := of_neg hc h
        exact w_jp_X2_faintestColumn_78 X hK hT hM a0 l1 l2 l5 l6 k0 h kb kx0 H locs ls hR hS (lv_sub hl [1, 2, 3, 6, 7] rfl)

set_option maxHeartbeats 4000000 in
set_option maxRecDepth 100000 in
theorem w_bd_X2_faintestColumn_14 (X : Cx cX2_faintestColumn (some .int) 8 RX2 wsX2_faintestColumn p s m args meth c) (hK : Kn cA D s) (hT : TL Λ) (hM : 1 ≤ R.frames ∧ 23 ≤ R.locals) (a0 : Nat) (l1 : Int32) (l2 : Int32) (s9 : (Int32 × Int32 × Int32)) (k0 : isK Λ a0 3) {r : (Int32 × Int32 × Int32) ⊕ Int32} (h : bd_X2_faintestColumn_14 Λ σ a0 l1 l2 s9 = some r) (kb : ∀ z : (Int32 × Int32 × Int32), r = .inl z → ∀ (H : Heap) (locs : List Loc) (ls : Array Slot), Rep cA D Λ σ H → va_S (dm Λ) s.heap H locs → lv_has ls 8 [(0, .ref a0), (1, .int l1), (2, .int l2), (3, .int z.1), (4, .int z.2.1), (5, .int z.2.2)] → W p l e R s m args below meth c H locs 0 0 Q (F0 m 14 ls [])) (kx0 : ∀ z : Int32, r = .inr z → ∀ (H : Heap) (locs : List Loc) (ls : Array Slot), Rep cA D Λ σ H → va_S (dm Λ) s.heap H locs → lv_has ls 8 [(3, .int z)] → W p l e R s m args below meth c H locs 0 0 Q (F0 m 91 ls [])) (H : Heap) (locs : List Loc) (ls : Array Slot) (hR : Rep cA D Λ σ H) (hS : va_S (dm Λ) s.heap H locs) (hl : lv_has ls 8 [(0, .ref a0), (1, .int l1), (2, .int l2), (3, .int s9.1), (4, .int s9.2.1), (5, .int s9.2.2)]) : W p l e R s m args below meth c H locs 0 0 Q (F0 m 14 ls []) := by
  have hx := X.1
  have hb := X.2.1
  have hown := X.2.2.2.2.1
  have hts := X.2.2.2.2.2.1
  unfold bd_X2_faintestColumn_14 at h
  refine lv_iload hx hb dX2_faintestColumn_14 (lv_at hl 5 rfl) ?_
  refine lv_iload_n hx hb dX2_faintestColumn_16 rfl (lv_at hl 2 rfl) ?_
  refine lv_icmp_gt (tgt := 91) hx hb dX2_faintestColumn_17 (by decide) (fun hc => ?_) (fun hc => ?_)
  · have h := of_pos hc h
    exact kx0 s9.1 (Option.some.inj h).symm H locs ls hR hS (lv_sub hl [3] rfl)
  · have h := of_neg hc h
    refine lv_aload_n hx hb dX2_faintestColumn_20 rfl (lv_at hl 0 rfl) ?_
    refine lv_iload hx hb dX2_faintestColumn_21 (lv_at hl 5 rfl) ?_
    obtain ⟨q_3, hq_3, h⟩ := of_bind h
    refine cl_i (rn_V (As := [.int s9.2.2]) (rest := []) X hK hR k0 rfl (by decide) hl.1 (c_X2_columnInk l cA D Λ hT σ a0 s9.2.2 k0 hq_3) (cwV 1 hts gX2_faintestColumn_X2_columnInk rfl rfl rfl (by decide +kernel) ⟨Nat.le_trans (by decide) hM.1, Nat.le_trans (by decide) hM.2⟩) rfl rfl (Nat.le_of_ble_eq_true rfl) dX2_faintestColumn_23) hS (fun H locs hR hS => ?_)
    refine lv_istore (lv' := [(6, .int q_3), (0, .ref a0), (1, .int l1), (2, .int l2), (3, .int s9.1), (4, .int s9.2.1), (5, .int s9.2.2)]) hx hb dX2_faintestColumn_26 hl (by decide) rfl (fun ls hl => ?_)
    refine lv_iconst (v := (2 : Int32)) hx hb dX2_faintestColumn_28 (by decide) ?_
    refine lv_iload hx hb dX2_faintestColumn_29 (lv_at hl 6 rfl) ?_
    refine lv_imul hx hb dX2_faintestColumn_31 ?_
    refine lv_iload_n hx hb dX2_faintestColumn_32 rfl (lv_at hl 2 rfl) ?_
    refine lv_isub hx hb dX2_faintestColumn_33 ?_
    refine lv_iload_n hx hb dX2_faintestColumn_34 rfl (lv_at hl 3 rfl) ?_
    refine lv_isub hx hb dX2_faintestColumn_35 ?_
    refine va_mabs hx hb (X.2.2.2.1.trans hl.1.symm) hown (hts (.methodLink RX2 87 Lib.Math.abs.name) (by decide +kernel)) (hts (.static Lib.Math.abs.name) (by decide +kernel)) (hts (.initialized "java/lang/Math") (by decide +kernel)) (hts (.code Lib.Math.abs.name Lib.Math.abs.code 1 (some .int)) (by decide +kernel)) (Nat.le_trans (by decide) hM.1) (Nat.le_trans (Nat.le_of_ble_eq_true rfl) hM.2) (Nat.zero_le _) (Nat.zero_le _) dX2_faintestColumn_36 ?_
    refine lv_topi (fun r_4 e_4 => ?_)
    have h := of_nm e_4 h
    refine lv_iconst (v := (2 : Int32)) hx hb dX2_faintestColumn_39 (by decide) ?_
    refine lv_iload_n hx hb dX2_faintestColumn_40 rfl (lv_at hl 4 rfl) ?_
    refine lv_imul hx hb dX2_faintestColumn_41 ?_
    refine lv_iload_n hx hb dX2_faintestColumn_42 rfl (lv_at hl 2 rfl) ?_
    refine lv_isub hx hb dX2_faintestColumn_43 ?_
    refine lv_iload_n hx hb dX2_faintestColumn_44 rfl (lv_at hl 3 rfl) ?_
    refine lv_isub hx hb dX2_faintestColumn_45 ?_
    refine va_mabs hx hb (X.2.2.2.1.trans hl.1.symm) hown (hts (.methodLink RX2 87 Lib.Math.abs.name) (by decide +kernel)) (hts (.static Lib.Math.abs.name) (by decide +kernel)) (hts (.initialized "java/lang/Math") (by decide +kernel)) (hts (.code Lib.Math.abs.name Lib.Math.abs.code 1 (some .int)) (by decide +kernel)) (Nat.le_trans (by decide) hM.1) (Nat.le_trans (Nat.le_of_ble_eq_true rfl) hM.2) (Nat.zero_le _) (Nat.zero_le _) dX2_faintestColumn_46 ?_
    refine lv_topi (fun r_5 e_5 => ?_)
    have h := of_nm e_5 h
    refine lv_icmp_ge (tgt := 56) hx hb dX2_faintestColumn_49 (by decide) (fun hc => ?_) (fun hc => ?_)
    · have h := of_pos hc h
      refine lv_iconst (v := (0 : Int32)) hx hb dX2_faintestColumn_56 (by decide) ?_
      exact w_jp_X2_faintestColumn_57 X hK hT hM a0 l1 l2 s9.1 s9.2.1 s9.2.2 q_3 (0 : Int32) k0 h kb kx0 H locs ls hR hS (lv_sub hl [1, 2, 3, 4, 5, 6, 0] rfl)
    · have h := of_neg hc h
      refine lv_iconst (v := (1 : Int32)) hx hb dX2_faintestColumn_52 (by decide) ?_
      refine lv_goto (tgt := 57) hx hb dX2_faintestColumn_53 (by decide) ?_
      exact w_jp_X2_faintestColumn_57 X hK hT hM a0 l1 l2 s9.1 s9.2.1 s9.2.2 q_3 (1 : Int32) k0 h kb kx0 H locs ls hR hS (lv_sub hl [1, 2, 3, 4, 5, 6, 0] rfl)

set_option maxHeartbeats 4000000 in
set_option maxRecDepth 100000 in
theorem w_lp_X2_faintestColumn_14 (X : Cx cX2_faintestColumn (some .int) 8 RX2 wsX2_faintestColumn p s m args meth c) (hK : Kn cA D s) (hT : TL Λ) (hM : 1 ≤ R.frames ∧ 23 ≤ R.locals) (a0 : Nat) (l1 : Int32) (l2 : Int32) (k0 : isK Λ a0 3) {e9 : Int32} : ∀ (n9 : Nat) (s9 : (Int32 × Int32 × Int32)), iter (bd_X2_faintestColumn_14 Λ σ a0 l1 l2) n9 s9 = some e9 → ∀ (kx0 : ∀ (H : Heap) (locs : List Loc) (ls : Array Slot), Rep cA D Λ σ H → va_S (dm Λ) s.heap H locs → lv_has ls 8 [(3, .int e9)] → W p l e R s m args below meth c H locs 0 0 Q (F0 m 91 ls [])), ∀ (H : Heap) (locs : List Loc) (ls : Array Slot), Rep cA D Λ σ H → va_S (dm Λ) s.heap H locs → lv_has ls 8 [(0, .ref a0), (1, .int l1), (2, .int l2), (3, .int s9.1), (4, .int s9.2.1), (5, .int s9.2.2)] → W p l e R s m args below meth c H locs 0 0 Q (F0 m 14 ls []) := by
  intro n9
  induction n9 with
  | zero => intro s9 h; cases h
  | succ n9 ih =>
    intro s9 h kx0 H locs ls hR hS hl
    obtain ⟨r, hr, h⟩ := of_iter h
    refine w_bd_X2_faintestColumn_14 X hK hT hM a0 l1 l2 s9 k0 hr (fun z ez H locs ls hR hS hl => ?_) (fun z ez H locs ls hR hS hl => ?_) H locs ls hR hS hl
    · exact ih z (of_itl ez h) kx0 H locs ls hR hS hl
    · have he := of_itr ez h; subst he; exact kx0 H locs ls hR hS hl

set_option maxHeartbeats 4000000 in
set_option maxRecDepth 100000 in
theorem w_X2_faintestColumn (X : Cx cX2_faintestColumn (some .int) 8 RX2 wsX2_faintestColumn p s m args meth c) (hK : Kn cA D s) (hT : TL Λ) (hM : 1 ≤ R.frames ∧ 23 ≤ R.locals) (a0 : Nat) (l1 : Int32) (l2 : Int32) (k0 : isK Λ a0 3) {res : Int32} (h : F_X2_faintestColumn Λ σ a0 l1 l2 = some res) (H : Heap) (locs : List Loc) (ls : Array Slot) (hR : Rep cA D Λ σ H) (hS : va_S (dm Λ) s.heap H locs) (hl : lv_has ls 8 [(0, .ref a0), (1, .int l1), (2, .int l2)]) : W p l e R s m args below meth c H locs 0 0 (MQ below (QI cA D Λ (res, σ)) args s 0 0 (dm Λ)) (F0 m 0 ls []) := by
  have hx := X.1
  have hb := X.2.1
  have hown := X.2.2.2.2.1
  have hts := X.2.2.2.2.2.1
  unfold F_X2_faintestColumn at h
  refine lv_iload_n hx hb dX2_faintestColumn_0 rfl (lv_at hl 1 rfl) ?_
  refine lv_istore_n (lv' := [(3, .int l1), (0, .ref a0), (1, .int l1), (2, .int l2)]) hx hb dX2_faintestColumn_1 rfl hl (by decide) rfl (fun ls hl => ?_)
  refine lv_aload_n hx hb dX2_faintestColumn_2 rfl (lv_at hl 1 rfl) ?_
  refine lv_iload_n hx hb dX2_faintestColumn_3 rfl (lv_at hl 2 rfl) ?_
  obtain ⟨q_1, hq_1, h⟩ := of_bind h
  refine cl_i (rn_V (As := [.int l1]) (rest := []) X hK hR k0 rfl (by decide) hl.1 (c_X2_columnInk l cA D Λ hT σ a0 l1 k0 hq_1) (cwV 1 hts gX2_faintestColumn_X2_columnInk rfl rfl rfl (by decide +kernel) ⟨Nat.le_trans (by decide) hM.1, Nat.le_trans (by decide) hM.2⟩) rfl rfl (Nat.le_of_ble_eq_true rfl) dX2_faintestColumn_4) hS (fun H locs hR hS => ?_)
  refine lv_istore (lv' := [(4, .int q_1), (3, .int l1), (0, .ref a0), (1, .int l1), (2, .int l2)]) hx hb dX2_faintestColumn_7 hl (by decide) rfl (fun ls hl => ?_)
  refine lv_iload_n hx hb dX2_faintestColumn_9 rfl (lv_at hl 3 rfl) ?_
  refine lv_iconst (v := (1 : Int32)) hx hb dX2_faintestColumn_10 (by decide) ?_
  refine lv_iadd hx hb dX2_faintestColumn_11 ?_
  refine lv_topi (fun v_2 e_v_2 => ?_)
  have h := of_nm e_v_2 h
  refine lv_istore (lv' := [(5, .int v_2), (4, .int q_1), (3, .int l1), (0, .ref a0), (1, .int l1), (2, .int l2)]) hx hb dX2_faintestColumn_12 hl (by decide) rfl (fun ls hl => ?_)
  obtain ⟨e_7, hq_7, h⟩ := of_bind h
  refine w_lp_X2_faintestColumn_14 X hK hT hM a0 l1 l2 k0 _ (l1, q_1, v_2) hq_7 (fun H locs ls hR hS hl => ?_) H locs ls hR hS (lv_sub hl [3, 4, 5, 2, 1, 0] rfl)
  refine lv_iload_n hx hb dX2_faintestColumn_91 rfl (lv_at hl 0 rfl) ?_
  exact rt_i X hR hS (congrArg (fun z => (z, σ)) (Option.some.inj h)) dX2_faintestColumn_92

set_option maxHeartbeats 4000000 in
set_option maxRecDepth 100000 in
theorem c_X2_faintestColumn (l : Launch) (cA : Nat → ClassId) (D : va_G) (Λ : Lay) (hT : TL Λ) (σ : Sto) (a0 : Nat) (l1 : Int32) (l2 : Int32) (k0 : isK Λ a0 3) {res : Int32} (h : F_X2_faintestColumn Λ σ a0 l1 l2 = some res) : Met l yX2_faintestColumn wsX2_faintestColumn { frames := 1, cells := 0, slots := 0, locals := 23 } (va_Pc [.ref a0, .int l1, .int l2] (PW cA D Λ σ)) (QI cA D Λ (res, σ)) 0 0 (dm Λ) := by
  refine Met.ofW (cc := cX2_faintestColumn) (maxL := 8) (ret := (some .int)) (by decide) rfl ?_
  intro p e s m args below meth c s₁ B hml hv
  obtain ⟨rfl, hR, hK⟩ := hv
  have X : Cx cX2_faintestColumn (some .int) 8 RX2 wsX2_faintestColumn p s m _ meth c := ⟨B.exec, B.bytes, B.returns, hml, findClass_of_methodNamed B.named, atoms_spec (ws := wsX2_faintestColumn) B.pre, B.notSynchronized⟩
  have hS : va_S (dm Λ) s.heap s.heap [] := va_S.rf
  have hl := lv_entry ([.ref a0, .int l1, .int l2]) (n := 8) (Nat.le_of_ble_eq_true rfl)
  rw [lg_entry_eq]
  generalize (lg_sl ([.ref a0, .int l1, .int l2]) ++ List.replicate (8 - (lg_sl ([.ref a0, .int l1, .int l2])).length) Slot.unset).toArray = ls at hl ⊢
  have hl : lv_has ls 8 [(0, .ref a0), (1, .int l1), (2, .int l2)] := hl
  exact w_X2_faintestColumn X hK hT ⟨Nat.le_refl _, Nat.le_refl _⟩ a0 l1 l2 k0 h s.heap [] ls hR hS hl
theorem in_X2_moveRightPart_3 : ∀ w ∈ u_ws RX2 TX2 3, w ∈ wsX2_moveRightPart := by decide +kernel
set_option maxHeartbeats 4000000 in
set_option maxRecDepth 100000 in
theorem w_bd_X2_moveRightPart_21 (X : Cx cX2_moveRightPart none 4 RX2 wsX2_moveRightPart p s m args meth c) (hK : Kn cA D s) (hT : TL Λ) (hM : 2 ≤ R.frames ∧ 46 ≤ R.locals) (a0 : Nat) (l1 : Int32) (a2 : Nat) (s9 : (Int32 × Sto)) (k0 : isK Λ a0 3) (k2 : isK Λ a2 3) {r : (Int32 × Sto) ⊕ Sto} (h : bd_X2_moveRightPart_21 Λ a0 l1 a2 s9 = some r) (kb : ∀ z : (Int32 × Sto), r = .inl z → ∀ (H : Heap) (locs : List Loc) (ls : Array Slot), Rep cA D Λ z.2 H → va_S (dm Λ) s.heap H locs → lv_has ls 4 [(0, .ref a0), (1, .int l1), (2, .ref a2), (3, .int z.1)] → W p l e R s m args below meth c H locs 0 0 Q (F0 m 21 ls [])) (kx0 : ∀ z : Sto, r = .inr z → ∀ (H : Heap) (locs : List Loc) (ls : Array Slot), Rep cA D Λ z H → va_S (dm Λ) s.heap H locs → lv_has ls 4 [] → W p l e R s m args below meth c H locs 0 0 Q (F0 m 62 ls [])) (H : Heap) (locs : List Loc) (ls : Array Slot) (hR : Rep cA D Λ s9.2 H) (hS : va_S (dm Λ) s.heap H locs) (hl : lv_has ls 4 [(0, .ref a0), (1, .int l1), (2, .ref a2), (3, .int s9.1)]) : W p l e R s m args below meth c H locs 0 0 Q (F0 m 21 ls []) := by
  have hx := X.1
  have hb := X.2.1
  have hown := X.2.2.2.2.1
  have hts := X.2.2.2.2.2.1
  unfold bd_X2_moveRightPart_21 at h
  refine lv_iload_n hx hb dX2_moveRightPart_21 rfl (lv_at hl 3 rfl) ?_
  refine lv_aload_n hx hb dX2_moveRightPart_22 rfl (lv_at hl 0 rfl) ?_
  refine rw_getI X hK hR 3 1 k0 (by decide) (C := RX2) (T := TX2) (N := 3) rfl (by decide) in_X2_moveRightPart_3 (by decide +kernel) rfl dX2_moveRightPart_23 ?_
  refine lv_icmp_ge (tgt := 62) hx hb dX2_moveRightPart_26 (by decide) (fun hc => ?_) (fun hc => ?_)
  · have h := of_pos hc h
    exact kx0 s9.2 (Option.some.inj h).symm H locs ls hR hS (lv_sub hl [] rfl)
  · have h := of_neg hc h
    refine lv_aload_n hx hb dX2_moveRightPart_29 rfl (lv_at hl 2 rfl) ?_
    refine rw_getR X hK hT hR 3 2 8 k2 (by decide) (C := RX2) (T := TX2) (N := 3) rfl (by decide) in_X2_moveRightPart_3 (by decide +kernel) rfl dX2_moveRightPart_30 (fun kf_3 => ?_)
    refine lv_iload_n hx hb dX2_moveRightPart_33 rfl (lv_at hl 3 rfl) ?_
    refine lv_aload_n hx hb dX2_moveRightPart_34 rfl (lv_at hl 0 rfl) ?_
    refine rw_getR X hK hT hR 3 2 8 k0 (by decide) (C := RX2) (T := TX2) (N := 3) rfl (by decide) in_X2_moveRightPart_3 (by decide +kernel) rfl dX2_moveRightPart_35 (fun kf_4 => ?_)
    refine lv_iload_n hx hb dX2_moveRightPart_38 rfl (lv_at hl 3 rfl) ?_
    obtain ⟨hg_5, h⟩ := of_guard h
    refine rw_lald X hK hR kf_4 hg_5 dX2_moveRightPart_39 ?_
    refine lv_iload_n hx hb dX2_moveRightPart_40 rfl (lv_at hl 1 rfl) ?_
    refine lv_lushr (v := (ushrL (s9.2.2 (rfA Λ a0 2) s9.1.toNatClampNeg) l1)) hx hb dX2_moveRightPart_41 rfl ?_
    obtain ⟨hg_6, h⟩ := of_guard h
    refine rw_last X hK hT hR hS kf_3 hg_6 dX2_moveRightPart_42 (fun σ_6 H locs e_6 hR hS => ?_)
    have h := of_nm e_6 h
    refine lv_aload_n hx hb dX2_moveRightPart_43 rfl (lv_at hl 0 rfl) ?_
    refine rw_getR X hK hT hR 3 2 8 k0 (by decide) (C := RX2) (T := TX2) (N := 3) rfl (by decide) in_X2_moveRightPart_3 (by decide +kernel) rfl dX2_moveRightPart_44 (fun kf_7 => ?_)
    refine lv_iload_n hx hb dX2_moveRightPart_47 rfl (lv_at hl 3 rfl) ?_
    refine lv_dup2_11 hx hb dX2_moveRightPart_48 rfl rfl ?_
    obtain ⟨hg_8, h⟩ := of_guard h
    refine rw_lald X hK hR kf_7 hg_8 dX2_moveRightPart_49 ?_
    refine lv_aload_n hx hb dX2_moveRightPart_50 rfl (lv_at hl 0 rfl) ?_
    refine cl_l (rn_V (As := []) (rest := [.long (σ_6.2 (rfA Λ a0 2) s9.1.toNatClampNeg), .int s9.1, .ref (rfA Λ a0 2)]) X hK hR k0 rfl (by decide) hl.1 (c_X2_allColumns l cA D Λ hT σ_6 a0 k0) (cwV 0 hts gX2_moveRightPart_X2_allColumns rfl rfl rfl (by decide +kernel) ⟨Nat.le_trans (by decide) hM.1, Nat.le_trans (by decide) hM.2⟩) rfl rfl (Nat.le_of_ble_eq_true rfl) dX2_moveRightPart_51) hS (fun H locs hR hS => ?_)
    refine lv_topl (fun r_9 e_9 => ?_)
    have h := of_nm e_9 h
    refine lv_land hx hb dX2_moveRightPart_54 ?_
    obtain ⟨hg_10, h⟩ := of_guard h
    refine rw_last X hK hT hR hS kf_7 hg_10 dX2_moveRightPart_55 (fun σ_10 H locs e_10 hR hS => ?_)
    have h := of_nm e_10 h
    obtain ⟨v_11, e_v_11⟩ : ∃ y : Int32, y = (s9.1 + (1 : Int32)) := ⟨_, rfl⟩
    have h := of_nm e_v_11 h
    refine lv_iinc (v := v_11) (lv' := [(3, .int v_11), (0, .ref a0), (1, .int l1), (2, .ref a2)]) hx hb dX2_moveRightPart_56 hl (k := 3) rfl (by rw [e_v_11]; rfl) (by decide) rfl (fun ls hl => ?_)
    refine lv_goto (tgt := 21) hx hb dX2_moveRightPart_59 (by decide) ?_
    exact kb (v_11, σ_10) (Option.some.inj h).symm H locs ls hR hS (lv_sub hl [1, 2, 3, 0] rfl)

set_option maxHeartbeats 4000000 in
set_option maxRecDepth 100000 in
theorem w_lp_X2_moveRightPart_21 (X : Cx cX2_moveRightPart none 4 RX2 wsX2_moveRightPart p s m args meth c) (hK : Kn cA D s) (hT : TL Λ) (hM : 2 ≤ R.frames ∧ 46 ≤ R.locals) (a0 : Nat) (l1 : Int32) (a2 : Nat) (k0 : isK Λ a0 3) (k2 : isK Λ a2 3) {e9 : Sto} : ∀ (n9 : Nat) (s9 : (Int32 × Sto)), iter (bd_X2_moveRightPart_21 Λ a0 l1 a2) n9 s9 = some e9 → ∀ (kx0 : ∀ (H : Heap) (locs : List Loc) (ls : Array Slot), Rep cA D Λ e9 H → va_S (dm Λ) s.heap H locs → lv_has ls 4 [] → W p l e R s m args below meth c H locs 0 0 Q (F0 m 62 ls [])), ∀ (H : Heap) (locs : List Loc) (ls : Array Slot), Rep cA D Λ s9.2 H → va_S (dm Λ) s.heap H locs → lv_has ls 4 [(0, .ref a0), (1, .int l1), (2, .ref a2), (3, .int s9.1)] → W p l e R s m args below meth c H locs 0 0 Q (F0 m 21 ls []) := by
  intro n9
  induction n9 with
  | zero => intro s9 h; cases h
  | succ n9 ih =>
    intro s9 h kx0 H locs ls hR hS hl
    obtain ⟨r, hr, h⟩ := of_iter h
    refine w_bd_X2_moveRightPart_21 X hK hT hM a0 l1 a2 s9 k0 k2 hr (fun z ez H locs ls hR hS hl => ?_) (fun z ez H locs ls hR hS hl => ?_) H locs ls hR hS hl
    · exact ih z (of_itl ez h) kx0 H locs ls hR hS hl
    · have he := of_itr ez h; subst he; exact kx0 H locs ls hR hS hl

set_option maxHeartbeats 4000000 in
set_option maxRecDepth 100000 in
theorem w_X2_moveRightPart (X : Cx cX2_moveRightPart none 4 RX2 wsX2_moveRightPart p s m args meth c) (hK : Kn cA D s) (hT : TL Λ) (hM : 2 ≤ R.frames ∧ 46 ≤ R.locals) (a0 : Nat) (l1 : Int32) (a2 : Nat) (k0 : isK Λ a0 3) (k2 : isK Λ a2 3) {res : Sto} (h : F_X2_moveRightPart Λ σ a0 l1 a2 = some res) (H : Heap) (locs : List Loc) (ls : Array Slot) (hR : Rep cA D Λ σ H) (hS : va_S (dm Λ) s.heap H locs) (hl : lv_has ls 4 [(0, .ref a0), (1, .int l1), (2, .ref a2)]) : W p l e R s m args below meth c H locs 0 0 (MQ below (QV cA D Λ res) args s 0 0 (dm Λ)) (F0 m 0 ls []) := by
  have hx := X.1
  have hb := X.2.1
  have hown := X.2.2.2.2.1
  have hts := X.2.2.2.2.2.1
  unfold F_X2_moveRightPart at h
  refine lv_aload_n hx hb dX2_moveRightPart_0 rfl (lv_at hl 2 rfl) ?_
  refine lv_aload_n hx hb dX2_moveRightPart_1 rfl (lv_at hl 0 rfl) ?_
  refine rw_getI X hK hR 3 0 k0 (by decide) (C := RX2) (T := TX2) (N := 3) rfl (by decide) in_X2_moveRightPart_3 (by decide +kernel) rfl dX2_moveRightPart_2 ?_
  refine lv_iload_n hx hb dX2_moveRightPart_5 rfl (lv_at hl 1 rfl) ?_
  refine lv_isub hx hb dX2_moveRightPart_6 ?_
  refine lv_aload_n hx hb dX2_moveRightPart_7 rfl (lv_at hl 0 rfl) ?_
  refine rw_getI X hK hR 3 1 k0 (by decide) (C := RX2) (T := TX2) (N := 3) rfl (by decide) in_X2_moveRightPart_3 (by decide +kernel) rfl dX2_moveRightPart_8 ?_
  obtain ⟨q_1, hq_1, h⟩ := of_bind h
  refine cl_v (rn_V (As := [.int ((σ.1 a0 0) - l1), .int (σ.1 a0 1)]) (rest := []) X hK hR k2 rfl (by decide) hl.1 (c_X2_empty l cA D Λ hT σ a2 ((σ.1 a0 0) - l1) (σ.1 a0 1) k2 hq_1) (cwV 2 hts gX2_moveRightPart_X2_empty rfl rfl rfl (by decide +kernel) ⟨Nat.le_trans (by decide) hM.1, Nat.le_trans (by decide) hM.2⟩) rfl rfl (Nat.le_of_ble_eq_true rfl) dX2_moveRightPart_11) hS (fun H locs hR hS => ?_)
  refine lv_aload_n hx hb dX2_moveRightPart_14 rfl (lv_at hl 0 rfl) ?_
  refine lv_iload_n hx hb dX2_moveRightPart_15 rfl (lv_at hl 1 rfl) ?_
  refine rw_putI X hK hT hR hS 3 0 tyX2 k0 (by decide) (C := RX2) (T := TX2) (N := 3) rfl (by decide) in_X2_moveRightPart_3 tyX2_ok nmX2 (by decide +kernel) rfl rfl (by decide +kernel) dX2_moveRightPart_16 (fun σ_2 H locs e_2 hR hS => ?_)
  have h := of_nm e_2 h
  refine lv_iconst (v := (0 : Int32)) hx hb dX2_moveRightPart_19 (by decide) ?_
  refine lv_istore_n (lv' := [(3, .int (0 : Int32)), (0, .ref a0), (1, .int l1), (2, .ref a2)]) hx hb dX2_moveRightPart_20 rfl hl (by decide) rfl (fun ls hl => ?_)
  obtain ⟨e_12, hq_12, h⟩ := of_bind h
  refine w_lp_X2_moveRightPart_21 X hK hT hM a0 l1 a2 k0 k2 _ ((0 : Int32), σ_2) hq_12 (fun H locs ls hR hS hl => ?_) H locs ls hR hS (lv_sub hl [1, 2, 3, 0] rfl)
  exact rt_v X hR hS (Option.some.inj h) dX2_moveRightPart_62

set_option maxHeartbeats 4000000 in
set_option maxRecDepth 100000 in
theorem c_X2_moveRightPart (l : Launch) (cA : Nat → ClassId) (D : va_G) (Λ : Lay) (hT : TL Λ) (σ : Sto) (a0 : Nat) (l1 : Int32) (a2 : Nat) (k0 : isK Λ a0 3) (k2 : isK Λ a2 3) {res : Sto} (h : F_X2_moveRightPart Λ σ a0 l1 a2 = some res) : Met l yX2_moveRightPart wsX2_moveRightPart { frames := 2, cells := 0, slots := 0, locals := 46 } (va_Pc [.ref a0, .int l1, .ref a2] (PW cA D Λ σ)) (QV cA D Λ res) 0 0 (dm Λ) := by
  refine Met.ofW (cc := cX2_moveRightPart) (maxL := 4) (ret := none) (by decide) rfl ?_
  intro p e s m args below meth c s₁ B hml hv
  obtain ⟨rfl, hR, hK⟩ := hv
  have X : Cx cX2_moveRightPart none 4 RX2 wsX2_moveRightPart p s m _ meth c := ⟨B.exec, B.bytes, B.returns, hml, findClass_of_methodNamed B.named, atoms_spec (ws := wsX2_moveRightPart) B.pre, B.notSynchronized⟩
  have hS : va_S (dm Λ) s.heap s.heap [] := va_S.rf
  have hl := lv_entry ([.ref a0, .int l1, .ref a2]) (n := 4) (Nat.le_of_ble_eq_true rfl)
  rw [lg_entry_eq]
  generalize (lg_sl ([.ref a0, .int l1, .ref a2]) ++ List.replicate (4 - (lg_sl ([.ref a0, .int l1, .ref a2])).length) Slot.unset).toArray = ls at hl ⊢
  have hl : lv_has ls 4 [(0, .ref a0), (1, .int l1), (2, .ref a2)] := hl
  exact w_X2_moveRightPart X hK hT ⟨Nat.le_refl _, Nat.le_refl _⟩ a0 l1 a2 k0 k2 h s.heap [] ls hR hS hl
theorem in_X3_begin_3 : ∀ w ∈ u_ws RX2 TX2 3, w ∈ wsX3_begin := by decide +kernel
theorem in_X3_begin_4 : ∀ w ∈ u_ws RX3 TX3 10, w ∈ wsX3_begin := by decide +kernel
set_option maxHeartbeats 4000000 in
set_option maxRecDepth 100000 in
theorem w_X3_begin (X : Cx cX3_begin none 2 RX3 wsX3_begin p s m args meth c) (hK : Kn cA D s) (hT : TL Λ) (hM : 3 ≤ R.frames ∧ 67 ≤ R.locals) (a0 : Nat) (a1 : Nat) (k0 : isK Λ a0 4) (k1 : isK Λ a1 3) {res : Sto} (h : F_X3_begin Λ σ a0 a1 = some res) (H : Heap) (locs : List Loc) (ls : Array Slot) (hR : Rep cA D Λ σ H) (hS : va_S (dm Λ) s.heap H locs) (hl : lv_has ls 2 [(0, .ref a0), (1, .ref a1)]) : W p l e R s m args below meth c H locs 0 0 (MQ below (QV cA D Λ res) args s 0 0 (dm Λ)) (F0 m 0 ls []) := by
  have hx := X.1
  have hb := X.2.1
  have hown := X.2.2.2.2.1
  have hts := X.2.2.2.2.2.1
  unfold F_X3_begin at h
  refine lv_aload_n hx hb dX3_begin_0 rfl (lv_at hl 0 rfl) ?_
  refine rw_getR X hK hT hR 4 1 3 k0 (by decide) (C := RX3) (T := TX3) (N := 10) rfl (by decide) in_X3_begin_4 (by decide +kernel) rfl dX3_begin_1 (fun kf_1 => ?_)
  refine lv_aload_n hx hb dX3_begin_4 rfl (lv_at hl 1 rfl) ?_
  obtain ⟨q_2, hq_2, h⟩ := of_bind h
  refine cl_v (rn_V (As := [.ref a1]) (rest := []) X hK hR kf_1 rfl (by decide) hl.1 (c_X2_become l cA D Λ hT σ (rfA Λ a0 1) a1 kf_1 k1 hq_2) (cwV 1 hts gX3_begin_X2_become rfl rfl rfl (by decide +kernel) ⟨Nat.le_trans (by decide) hM.1, Nat.le_trans (by decide) hM.2⟩) rfl rfl (Nat.le_of_ble_eq_true rfl) dX3_begin_5) hS (fun H locs hR hS => ?_)
  refine lv_aload_n hx hb dX3_begin_8 rfl (lv_at hl 0 rfl) ?_
  refine rw_getR X hK hT hR 4 2 3 k0 (by decide) (C := RX3) (T := TX3) (N := 10) rfl (by decide) in_X3_begin_4 (by decide +kernel) rfl dX3_begin_9 (fun kf_3 => ?_)
  refine lv_aload_n hx hb dX3_begin_12 rfl (lv_at hl 1 rfl) ?_
  refine rw_getI X hK hR 3 0 k1 (by decide) (C := RX2) (T := TX2) (N := 3) rfl (by decide) in_X3_begin_3 (by decide +kernel) rfl dX3_begin_13 ?_
  refine lv_aload_n hx hb dX3_begin_16 rfl (lv_at hl 1 rfl) ?_
  refine rw_getI X hK hR 3 1 k1 (by decide) (C := RX2) (T := TX2) (N := 3) rfl (by decide) in_X3_begin_3 (by decide +kernel) rfl dX3_begin_17 ?_
  obtain ⟨q_4, hq_4, h⟩ := of_bind h
  refine cl_v (rn_V (As := [.int (q_2.1 a1 0), .int (q_2.1 a1 1)]) (rest := []) X hK hR kf_3 rfl (by decide) hl.1 (c_X2_empty l cA D Λ hT q_2 (rfA Λ a0 2) (q_2.1 a1 0) (q_2.1 a1 1) kf_3 hq_4) (cwV 2 hts gX3_begin_X2_empty rfl rfl rfl (by decide +kernel) ⟨Nat.le_trans (by decide) hM.1, Nat.le_trans (by decide) hM.2⟩) rfl rfl (Nat.le_of_ble_eq_true rfl) dX3_begin_20) hS (fun H locs hR hS => ?_)
  refine lv_aload_n hx hb dX3_begin_23 rfl (lv_at hl 0 rfl) ?_
  refine lv_iconst (v := (0 : Int32)) hx hb dX3_begin_24 (by decide) ?_
  refine rw_putI X hK hT hR hS 4 7 tyX3 k0 (by decide) (C := RX3) (T := TX3) (N := 10) rfl (by decide) in_X3_begin_4 tyX3_ok nmX3 (by decide +kernel) rfl rfl (by decide +kernel) dX3_begin_25 (fun σ_5 H locs e_5 hR hS => ?_)
  have h := of_nm e_5 h
  refine lv_aload_n hx hb dX3_begin_28 rfl (lv_at hl 0 rfl) ?_
  refine lv_iconst (v := (-1 : Int32)) hx hb dX3_begin_29 (by decide) ?_
  refine rw_putI X hK hT hR hS 4 8 tyX3 k0 (by decide) (C := RX3) (T := TX3) (N := 10) rfl (by decide) in_X3_begin_4 tyX3_ok nmX3 (by decide +kernel) rfl rfl (by decide +kernel) dX3_begin_30 (fun σ_6 H locs e_6 hR hS => ?_)
  have h := of_nm e_6 h
  refine lv_aload_n hx hb dX3_begin_33 rfl (lv_at hl 0 rfl) ?_
  refine lv_iconst (v := (0 : Int32)) hx hb dX3_begin_34 (by decide) ?_
  refine rw_putI X hK hT hR hS 4 9 tyX3 k0 (by decide) (C := RX3) (T := TX3) (N := 10) rfl (by decide) in_X3_begin_4 tyX3_ok nmX3 (by decide +kernel) rfl rfl (by decide +kernel) dX3_begin_35 (fun σ_7 H locs e_7 hR hS => ?_)
  have h := of_nm e_7 h
  exact rt_v X hR hS (Option.some.inj h) dX3_begin_38

set_option maxHeartbeats 4000000 in
set_option maxRecDepth 100000 in
theorem c_X3_begin (l : Launch) (cA : Nat → ClassId) (D : va_G) (Λ : Lay) (hT : TL Λ) (σ : Sto) (a0 : Nat) (a1 : Nat) (k0 : isK Λ a0 4) (k1 : isK Λ a1 3) {res : Sto} (h : F_X3_begin Λ σ a0 a1 = some res) : Met l yX3_begin wsX3_begin { frames := 3, cells := 0, slots := 0, locals := 67 } (va_Pc [.ref a0, .ref a1] (PW cA D Λ σ)) (QV cA D Λ res) 0 0 (dm Λ) := by
  refine Met.ofW (cc := cX3_begin) (maxL := 2) (ret := none) (by decide) rfl ?_
  intro p e s m args below meth c s₁ B hml hv
  obtain ⟨rfl, hR, hK⟩ := hv
  have X : Cx cX3_begin none 2 RX3 wsX3_begin p s m _ meth c := ⟨B.exec, B.bytes, B.returns, hml, findClass_of_methodNamed B.named, atoms_spec (ws := wsX3_begin) B.pre, B.notSynchronized⟩
  have hS : va_S (dm Λ) s.heap s.heap [] := va_S.rf
  have hl := lv_entry ([.ref a0, .ref a1]) (n := 2) (Nat.le_of_ble_eq_true rfl)
  rw [lg_entry_eq]
  generalize (lg_sl ([.ref a0, .ref a1]) ++ List.replicate (2 - (lg_sl ([.ref a0, .ref a1])).length) Slot.unset).toArray = ls at hl ⊢
  have hl : lv_has ls 2 [(0, .ref a0), (1, .ref a1)] := hl
  exact w_X3_begin X hK hT ⟨Nat.le_refl _, Nat.le_refl _⟩ a0 a1 k0 k1 h s.heap [] ls hR hS hl
