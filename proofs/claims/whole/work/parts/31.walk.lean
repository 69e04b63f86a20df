variable {p : Program} {l : Launch} {e : Env} {R : Room} {s : State} {m : MethodId} {args : Array Value} {below : List Frame} {meth : Method} {c : Code} {Q : State → Prop} {cA : Nat → ClassId} {D : va_G} {Λ : Lay} {σ : Sto}
theorem in_X3_clearSpot_3 : ∀ w ∈ u_ws RX2 TX2 3, w ∈ wsX3_clearSpot := by decide +kernel
theorem in_X3_clearSpot_4 : ∀ w ∈ u_ws RX3 TX3 10, w ∈ wsX3_clearSpot := by decide +kernel
set_option maxHeartbeats 4000000 in
set_option maxRecDepth 100000 in
theorem w_bd_X3_clearSpot_5 (X : Cx cX3_clearSpot none 2 RX3 wsX3_clearSpot p s m args meth c) (hK : Kn cA D s) (hT : TL Λ) (hM : 0 ≤ R.frames ∧ 0 ≤ R.locals) (a0 : Nat) (s9 : (Int32 × Sto)) (k0 : isK Λ a0 4) {r : (Int32 × Sto) ⊕ Sto} (h : bd_X3_clearSpot_5 Λ a0 s9 = some r) (kb : ∀ z : (Int32 × Sto), r = .inl z → ∀ (H : Heap) (locs : List Loc) (ls : Array Slot), Rep cA D Λ z.2 H → va_S (dm Λ) s.heap H locs → lv_has ls 2 [(0, .ref a0), (1, .int z.1)] → W p l e R s m args below meth c H locs 0 0 Q (F0 m 5 ls [])) (kx0 : ∀ z : Sto, r = .inr z → ∀ (H : Heap) (locs : List Loc) (ls : Array Slot), Rep cA D Λ z H → va_S (dm Λ) s.heap H locs → lv_has ls 2 [(0, .ref a0)] → W p l e R s m args below meth c H locs 0 0 Q (F0 m 29 ls [])) (H : Heap) (locs : List Loc) (ls : Array Slot) (hR : Rep cA D Λ s9.2 H) (hS : va_S (dm Λ) s.heap H locs) (hl : lv_has ls 2 [(0, .ref a0), (1, .int s9.1)]) : W p l e R s m args below meth c H locs 0 0 Q (F0 m 5 ls []) := by
  have hx := X.1
  have hb := X.2.1
  have hown := X.2.2.2.2.1
  have hts := X.2.2.2.2.2.1
  unfold bd_X3_clearSpot_5 at h
  refine lv_iload_n hx hb dX3_clearSpot_5 rfl (lv_at hl 1 rfl) ?_
  refine lv_aload_n hx hb dX3_clearSpot_6 rfl (lv_at hl 0 rfl) ?_
  refine rw_getI X hK hR 4 8 k0 (by decide) (C := RX3) (T := TX3) (N := 10) rfl (by decide) in_X3_clearSpot_4 (by decide +kernel) rfl dX3_clearSpot_7 ?_
  refine lv_icmp_gt (tgt := 29) hx hb dX3_clearSpot_10 (by decide) (fun hc => ?_) (fun hc => ?_)
  · have h := of_pos hc h
    exact kx0 s9.2 (Option.some.inj h).symm H locs ls hR hS (lv_sub hl [0] rfl)
  · have h := of_neg hc h
    refine lv_aload_n hx hb dX3_clearSpot_13 rfl (lv_at hl 0 rfl) ?_
    refine rw_getR X hK hT hR 4 2 3 k0 (by decide) (C := RX3) (T := TX3) (N := 10) rfl (by decide) in_X3_clearSpot_4 (by decide +kernel) rfl dX3_clearSpot_14 (fun kf_2 => ?_)
    refine rw_getR X hK hT hR 3 2 8 kf_2 (by decide) (C := RX2) (T := TX2) (N := 3) rfl (by decide) in_X3_clearSpot_3 (by decide +kernel) rfl dX3_clearSpot_17 (fun kf_3 => ?_)
    refine lv_iload_n hx hb dX3_clearSpot_20 rfl (lv_at hl 1 rfl) ?_
    refine lv_lconst (v := (0 : Int64)) hx hb dX3_clearSpot_21 (by decide) ?_
    obtain ⟨hg_4, h⟩ := of_guard h
    refine rw_last X hK hT hR hS kf_3 hg_4 dX3_clearSpot_22 (fun σ_4 H locs e_4 hR hS => ?_)
    have h := of_nm e_4 h
    obtain ⟨v_5, e_v_5⟩ : ∃ y : Int32, y = (s9.1 + (1 : Int32)) := ⟨_, rfl⟩
    have h := of_nm e_v_5 h
    refine lv_iinc (v := v_5) (lv' := [(1, .int v_5), (0, .ref a0)]) hx hb dX3_clearSpot_23 hl (k := 1) rfl (by rw [e_v_5]; rfl) (by decide) rfl (fun ls hl => ?_)
    refine lv_goto (tgt := 5) hx hb dX3_clearSpot_26 (by decide) ?_
    exact kb (v_5, σ_4) (Option.some.inj h).symm H locs ls hR hS (lv_sub hl [1, 0] rfl)

set_option maxHeartbeats 4000000 in
set_option maxRecDepth 100000 in
theorem w_lp_X3_clearSpot_5 (X : Cx cX3_clearSpot none 2 RX3 wsX3_clearSpot p s m args meth c) (hK : Kn cA D s) (hT : TL Λ) (hM : 0 ≤ R.frames ∧ 0 ≤ R.locals) (a0 : Nat) (k0 : isK Λ a0 4) {e9 : Sto} : ∀ (n9 : Nat) (s9 : (Int32 × Sto)), iter (bd_X3_clearSpot_5 Λ a0) n9 s9 = some e9 → ∀ (kx0 : ∀ (H : Heap) (locs : List Loc) (ls : Array Slot), Rep cA D Λ e9 H → va_S (dm Λ) s.heap H locs → lv_has ls 2 [(0, .ref a0)] → W p l e R s m args below meth c H locs 0 0 Q (F0 m 29 ls [])), ∀ (H : Heap) (locs : List Loc) (ls : Array Slot), Rep cA D Λ s9.2 H → va_S (dm Λ) s.heap H locs → lv_has ls 2 [(0, .ref a0), (1, .int s9.1)] → W p l e R s m args below meth c H locs 0 0 Q (F0 m 5 ls []) := by
  intro n9
  induction n9 with
  | zero => intro s9 h; cases h
  | succ n9 ih =>
    intro s9 h kx0 H locs ls hR hS hl
    obtain ⟨r, hr, h⟩ := of_iter h
    refine w_bd_X3_clearSpot_5 X hK hT hM a0 s9 k0 hr (fun z ez H locs ls hR hS hl => ?_) (fun z ez H locs ls hR hS hl => ?_) H locs ls hR hS hl
    · exact ih z (of_itl ez h) kx0 H locs ls hR hS hl
    · have he := of_itr ez h; subst he; exact kx0 H locs ls hR hS hl

set_option maxHeartbeats 4000000 in
set_option maxRecDepth 100000 in
theorem w_X3_clearSpot (X : Cx cX3_clearSpot none 2 RX3 wsX3_clearSpot p s m args meth c) (hK : Kn cA D s) (hT : TL Λ) (hM : 0 ≤ R.frames ∧ 0 ≤ R.locals) (a0 : Nat) (k0 : isK Λ a0 4) {res : Sto} (h : F_X3_clearSpot Λ σ a0 = some res) (H : Heap) (locs : List Loc) (ls : Array Slot) (hR : Rep cA D Λ σ H) (hS : va_S (dm Λ) s.heap H locs) (hl : lv_has ls 2 [(0, .ref a0)]) : W p l e R s m args below meth c H locs 0 0 (MQ below (QV cA D Λ res) args s 0 0 (dm Λ)) (F0 m 0 ls []) := by
  have hx := X.1
  have hb := X.2.1
  have hown := X.2.2.2.2.1
  have hts := X.2.2.2.2.2.1
  unfold F_X3_clearSpot at h
  refine lv_aload_n hx hb dX3_clearSpot_0 rfl (lv_at hl 0 rfl) ?_
  refine rw_getI X hK hR 4 7 k0 (by decide) (C := RX3) (T := TX3) (N := 10) rfl (by decide) in_X3_clearSpot_4 (by decide +kernel) rfl dX3_clearSpot_1 ?_
  refine lv_topi (fun v_1 e_v_1 => ?_)
  have h := of_nm e_v_1 h
  refine lv_istore_n (lv' := [(1, .int v_1), (0, .ref a0)]) hx hb dX3_clearSpot_4 rfl hl (by decide) rfl (fun ls hl => ?_)
  obtain ⟨e_6, hq_6, h⟩ := of_bind h
  refine w_lp_X3_clearSpot_5 X hK hT hM a0 k0 _ (v_1, σ) hq_6 (fun H locs ls hR hS hl => ?_) H locs ls hR hS (lv_sub hl [1, 0] rfl)
  refine lv_aload_n hx hb dX3_clearSpot_29 rfl (lv_at hl 0 rfl) ?_
  refine lv_iconst (v := (0 : Int32)) hx hb dX3_clearSpot_30 (by decide) ?_
  refine rw_putI X hK hT hR hS 4 6 tyX3 k0 (by decide) (C := RX3) (T := TX3) (N := 10) rfl (by decide) in_X3_clearSpot_4 tyX3_ok nmX3 (by decide +kernel) rfl rfl (by decide +kernel) dX3_clearSpot_31 (fun σ_7 H locs e_7 hR hS => ?_)
  have h := of_nm e_7 h
  exact rt_v X hR hS (Option.some.inj h) dX3_clearSpot_34

set_option maxHeartbeats 4000000 in
set_option maxRecDepth 100000 in
theorem c_X3_clearSpot (l : Launch) (cA : Nat → ClassId) (D : va_G) (Λ : Lay) (hT : TL Λ) (σ : Sto) (a0 : Nat) (k0 : isK Λ a0 4) {res : Sto} (h : F_X3_clearSpot Λ σ a0 = some res) : Met l yX3_clearSpot wsX3_clearSpot { frames := 0, cells := 0, slots := 0, locals := 0 } (va_Pc [.ref a0] (PW cA D Λ σ)) (QV cA D Λ res) 0 0 (dm Λ) := by
  refine Met.ofW (cc := cX3_clearSpot) (maxL := 2) (ret := none) (by decide) rfl ?_
  intro p e s m args below meth c s₁ B hml hv
  obtain ⟨rfl, hR, hK⟩ := hv
  have X : Cx cX3_clearSpot none 2 RX3 wsX3_clearSpot p s m _ meth c := ⟨B.exec, B.bytes, B.returns, hml, findClass_of_methodNamed B.named, atoms_spec (ws := wsX3_clearSpot) B.pre, B.notSynchronized⟩
  have hS : va_S (dm Λ) s.heap s.heap [] := va_S.rf
  have hl := lv_entry ([.ref a0]) (n := 2) (Nat.le_of_ble_eq_true rfl)
  rw [lg_entry_eq]
  generalize (lg_sl ([.ref a0]) ++ List.replicate (2 - (lg_sl ([.ref a0])).length) Slot.unset).toArray = ls at hl ⊢
  have hl : lv_has ls 2 [(0, .ref a0)] := hl
  exact w_X3_clearSpot X hK hT ⟨Nat.le_refl _, Nat.le_refl _⟩ a0 k0 h s.heap [] ls hR hS hl
set_option maxHeartbeats 4000000 in
set_option maxRecDepth 100000 in
theorem w_bd_X3_runsAt_15 (X : Cx cX3_runsAt (some .long) 13 RX3 wsX3_runsAt p s m args meth c) (hK : Kn cA D s) (hT : TL Λ) (hM : 0 ≤ R.frames ∧ 0 ≤ R.locals)  (s9 : (Int64 × Int64 × Int64 × Int64 × Int32)) {r : (Int64 × Int64 × Int64 × Int64 × Int32) ⊕ (Int64 × Int64)} (h : bd_X3_runsAt_15 s9 = some r) (kb : ∀ z : (Int64 × Int64 × Int64 × Int64 × Int32), r = .inl z → ∀ (H : Heap) (locs : List Loc) (ls : Array Slot), Rep cA D Λ σ H → va_S (dm Λ) s.heap H locs → lv_has ls 13 [(4, .long z.1), (6, .long z.2.1), (8, .long z.2.2.1), (10, .long z.2.2.2.1), (12, .int z.2.2.2.2)] → W p l e R s m args below meth c H locs 0 0 Q (F0 m 15 ls [])) (kx0 : ∀ z : (Int64 × Int64), r = .inr z → ∀ (H : Heap) (locs : List Loc) (ls : Array Slot), Rep cA D Λ σ H → va_S (dm Λ) s.heap H locs → lv_has ls 13 [(4, .long z.1), (6, .long z.2)] → W p l e R s m args below meth c H locs 0 0 Q (F0 m 77 ls [])) (H : Heap) (locs : List Loc) (ls : Array Slot) (hR : Rep cA D Λ σ H) (hS : va_S (dm Λ) s.heap H locs) (hl : lv_has ls 13 [(4, .long s9.1), (6, .long s9.2.1), (8, .long s9.2.2.1), (10, .long s9.2.2.2.1), (12, .int s9.2.2.2.2)]) : W p l e R s m args below meth c H locs 0 0 Q (F0 m 15 ls []) := by
  have hx := X.1
  have hb := X.2.1
  have hown := X.2.2.2.2.1
  have hts := X.2.2.2.2.2.1
  unfold bd_X3_runsAt_15 at h
  refine lv_iload hx hb dX3_runsAt_15 (lv_at hl 4 rfl) ?_
  refine lv_bipush (v := (64 : Int32)) hx hb dX3_runsAt_17 (by decide) ?_
  refine lv_icmp_ge (tgt := 77) hx hb dX3_runsAt_19 (by decide) (fun hc => ?_) (fun hc => ?_)
  · have h := of_pos hc h
    exact kx0 (s9.1, s9.2.1) (Option.some.inj h).symm H locs ls hR hS (lv_sub hl [0, 1] rfl)
  · have h := of_neg hc h
    refine lv_lload hx hb dX3_runsAt_22 (lv_at hl 0 rfl) ?_
    refine lv_lload hx hb dX3_runsAt_24 (lv_at hl 2 rfl) ?_
    refine lv_lload hx hb dX3_runsAt_26 (lv_at hl 0 rfl) ?_
    refine lv_iload hx hb dX3_runsAt_28 (lv_at hl 4 rfl) ?_
    refine lv_lshl (v := (shlL s9.1 s9.2.2.2.2)) hx hb dX3_runsAt_30 rfl ?_
    refine lv_land hx hb dX3_runsAt_31 ?_
    refine lv_lor hx hb dX3_runsAt_32 ?_
    refine lv_topl (fun v_1 e_v_1 => ?_)
    have h := of_nm e_v_1 h
    refine lv_lstore (lv' := [(4, .long v_1), (6, .long s9.2.1), (8, .long s9.2.2.1), (10, .long s9.2.2.2.1), (12, .int s9.2.2.2.2)]) hx hb dX3_runsAt_33 hl (by decide) rfl (fun ls hl => ?_)
    refine lv_lload hx hb dX3_runsAt_35 (lv_at hl 2 rfl) ?_
    refine lv_lload hx hb dX3_runsAt_37 (lv_at hl 2 rfl) ?_
    refine lv_iload hx hb dX3_runsAt_39 (lv_at hl 4 rfl) ?_
    refine lv_lshl (v := (shlL s9.2.2.1 s9.2.2.2.2)) hx hb dX3_runsAt_41 rfl ?_
    refine lv_land hx hb dX3_runsAt_42 ?_
    refine lv_topl (fun v_2 e_v_2 => ?_)
    have h := of_nm e_v_2 h
    refine lv_lstore (lv' := [(8, .long v_2), (4, .long v_1), (6, .long s9.2.1), (10, .long s9.2.2.2.1), (12, .int s9.2.2.2.2)]) hx hb dX3_runsAt_43 hl (by decide) rfl (fun ls hl => ?_)
    refine lv_lload hx hb dX3_runsAt_45 (lv_at hl 2 rfl) ?_
    refine lv_lload hx hb dX3_runsAt_47 (lv_at hl 3 rfl) ?_
    refine lv_lload hx hb dX3_runsAt_49 (lv_at hl 2 rfl) ?_
    refine lv_iload hx hb dX3_runsAt_51 (lv_at hl 4 rfl) ?_
    refine lv_lushr (v := (ushrL s9.2.1 s9.2.2.2.2)) hx hb dX3_runsAt_53 rfl ?_
    refine lv_land hx hb dX3_runsAt_54 ?_
    refine lv_lor hx hb dX3_runsAt_55 ?_
    refine lv_topl (fun v_3 e_v_3 => ?_)
    have h := of_nm e_v_3 h
    refine lv_lstore (lv' := [(6, .long v_3), (8, .long v_2), (4, .long v_1), (10, .long s9.2.2.2.1), (12, .int s9.2.2.2.2)]) hx hb dX3_runsAt_56 hl (by decide) rfl (fun ls hl => ?_)
    refine lv_lload hx hb dX3_runsAt_58 (lv_at hl 3 rfl) ?_
    refine lv_lload hx hb dX3_runsAt_60 (lv_at hl 3 rfl) ?_
    refine lv_iload hx hb dX3_runsAt_62 (lv_at hl 4 rfl) ?_
    refine lv_lushr (v := (ushrL s9.2.2.2.1 s9.2.2.2.2)) hx hb dX3_runsAt_64 rfl ?_
    refine lv_land hx hb dX3_runsAt_65 ?_
    refine lv_topl (fun v_4 e_v_4 => ?_)
    have h := of_nm e_v_4 h
    refine lv_lstore (lv' := [(10, .long v_4), (6, .long v_3), (8, .long v_2), (4, .long v_1), (12, .int s9.2.2.2.2)]) hx hb dX3_runsAt_66 hl (by decide) rfl (fun ls hl => ?_)
    refine lv_iload hx hb dX3_runsAt_68 (lv_at hl 4 rfl) ?_
    refine lv_iconst (v := (2 : Int32)) hx hb dX3_runsAt_70 (by decide) ?_
    refine lv_imul hx hb dX3_runsAt_71 ?_
    refine lv_topi (fun v_5 e_v_5 => ?_)
    have h := of_nm e_v_5 h
    refine lv_istore (lv' := [(12, .int v_5), (10, .long v_4), (6, .long v_3), (8, .long v_2), (4, .long v_1)]) hx hb dX3_runsAt_72 hl (by decide) rfl (fun ls hl => ?_)
    refine lv_goto (tgt := 15) hx hb dX3_runsAt_74 (by decide) ?_
    exact kb (v_1, v_3, v_2, v_4, v_5) (Option.some.inj h).symm H locs ls hR hS (lv_sub hl [4, 2, 3, 1, 0] rfl)

set_option maxHeartbeats 4000000 in
set_option maxRecDepth 100000 in
theorem w_lp_X3_runsAt_15 (X : Cx cX3_runsAt (some .long) 13 RX3 wsX3_runsAt p s m args meth c) (hK : Kn cA D s) (hT : TL Λ) (hM : 0 ≤ R.frames ∧ 0 ≤ R.locals)  {e9 : (Int64 × Int64)} : ∀ (n9 : Nat) (s9 : (Int64 × Int64 × Int64 × Int64 × Int32)), iter (bd_X3_runsAt_15) n9 s9 = some e9 → ∀ (kx0 : ∀ (H : Heap) (locs : List Loc) (ls : Array Slot), Rep cA D Λ σ H → va_S (dm Λ) s.heap H locs → lv_has ls 13 [(4, .long e9.1), (6, .long e9.2)] → W p l e R s m args below meth c H locs 0 0 Q (F0 m 77 ls [])), ∀ (H : Heap) (locs : List Loc) (ls : Array Slot), Rep cA D Λ σ H → va_S (dm Λ) s.heap H locs → lv_has ls 13 [(4, .long s9.1), (6, .long s9.2.1), (8, .long s9.2.2.1), (10, .long s9.2.2.2.1), (12, .int s9.2.2.2.2)] → W p l e R s m args below meth c H locs 0 0 Q (F0 m 15 ls []) := by
  intro n9
  induction n9 with
  | zero => intro s9 h; cases h
  | succ n9 ih =>
    intro s9 h kx0 H locs ls hR hS hl
    obtain ⟨r, hr, h⟩ := of_iter h
    refine w_bd_X3_runsAt_15 X hK hT hM  s9 hr (fun z ez H locs ls hR hS hl => ?_) (fun z ez H locs ls hR hS hl => ?_) H locs ls hR hS hl
    · exact ih z (of_itl ez h) kx0 H locs ls hR hS hl
    · have he := of_itr ez h; subst he; exact kx0 H locs ls hR hS hl

set_option maxHeartbeats 4000000 in
set_option maxRecDepth 100000 in
theorem w_X3_runsAt (X : Cx cX3_runsAt (some .long) 13 RX3 wsX3_runsAt p s m args meth c) (hK : Kn cA D s) (hT : TL Λ) (hM : 0 ≤ R.frames ∧ 0 ≤ R.locals) (l0 : Int64) (l2 : Int64) {res : Int64} (h : F_X3_runsAt l0 l2 = some res) (H : Heap) (locs : List Loc) (ls : Array Slot) (hR : Rep cA D Λ σ H) (hS : va_S (dm Λ) s.heap H locs) (hl : lv_has ls 13 [(0, .long l0), (2, .long l2)]) : W p l e R s m args below meth c H locs 0 0 (MQ below (QL cA D Λ (res, σ)) args s 0 0 (dm Λ)) (F0 m 0 ls []) := by
  have hx := X.1
  have hb := X.2.1
  have hown := X.2.2.2.2.1
  have hts := X.2.2.2.2.2.1
  unfold F_X3_runsAt at h
  refine lv_lload_n hx hb dX3_runsAt_0 rfl (lv_at hl 0 rfl) ?_
  refine lv_lstore (lv' := [(4, .long l0), (0, .long l0), (2, .long l2)]) hx hb dX3_runsAt_1 hl (by decide) rfl (fun ls hl => ?_)
  refine lv_lload_n hx hb dX3_runsAt_3 rfl (lv_at hl 1 rfl) ?_
  refine lv_lstore (lv' := [(6, .long l0), (4, .long l0), (0, .long l0), (2, .long l2)]) hx hb dX3_runsAt_4 hl (by decide) rfl (fun ls hl => ?_)
  refine lv_lload_n hx hb dX3_runsAt_6 rfl (lv_at hl 3 rfl) ?_
  refine lv_lstore (lv' := [(8, .long l2), (6, .long l0), (4, .long l0), (0, .long l0), (2, .long l2)]) hx hb dX3_runsAt_7 hl (by decide) rfl (fun ls hl => ?_)
  refine lv_lload_n hx hb dX3_runsAt_9 rfl (lv_at hl 4 rfl) ?_
  refine lv_lstore (lv' := [(10, .long l2), (8, .long l2), (6, .long l0), (4, .long l0), (0, .long l0), (2, .long l2)]) hx hb dX3_runsAt_10 hl (by decide) rfl (fun ls hl => ?_)
  refine lv_iconst (v := (1 : Int32)) hx hb dX3_runsAt_12 (by decide) ?_
  refine lv_istore (lv' := [(12, .int (1 : Int32)), (10, .long l2), (8, .long l2), (6, .long l0), (4, .long l0), (0, .long l0), (2, .long l2)]) hx hb dX3_runsAt_13 hl (by decide) rfl (fun ls hl => ?_)
  obtain ⟨e_6, hq_6, h⟩ := of_bind h
  refine w_lp_X3_runsAt_15 X hK hT hM   _ (l0, l0, l2, l2, (1 : Int32)) hq_6 (fun H locs ls hR hS hl => ?_) H locs ls hR hS (lv_sub hl [4, 3, 2, 1, 0] rfl)
  refine lv_lload hx hb dX3_runsAt_77 (lv_at hl 0 rfl) ?_
  refine lv_lload hx hb dX3_runsAt_79 (lv_at hl 1 rfl) ?_
  refine lv_lor hx hb dX3_runsAt_81 ?_
  exact rt_l X hR hS (congrArg (fun z => (z, σ)) (Option.some.inj h)) dX3_runsAt_82

set_option maxHeartbeats 4000000 in
set_option maxRecDepth 100000 in
theorem c_X3_runsAt (l : Launch) (cA : Nat → ClassId) (D : va_G) (Λ : Lay) (hT : TL Λ) (σ : Sto) (l0 : Int64) (l2 : Int64) {res : Int64} (h : F_X3_runsAt l0 l2 = some res) : Met l yX3_runsAt wsX3_runsAt { frames := 0, cells := 0, slots := 0, locals := 0 } (va_Pc [.long l0, .long l2] (PW cA D Λ σ)) (QL cA D Λ (res, σ)) 0 0 (dm Λ) := by
  refine Met.ofW (cc := cX3_runsAt) (maxL := 13) (ret := (some .long)) (by decide) rfl ?_
  intro p e s m args below meth c s₁ B hml hv
  obtain ⟨rfl, hR, hK⟩ := hv
  have X : Cx cX3_runsAt (some .long) 13 RX3 wsX3_runsAt p s m _ meth c := ⟨B.exec, B.bytes, B.returns, hml, findClass_of_methodNamed B.named, atoms_spec (ws := wsX3_runsAt) B.pre, B.notSynchronized⟩
  have hS : va_S (dm Λ) s.heap s.heap [] := va_S.rf
  have hl := lv_entry ([.long l0, .long l2]) (n := 13) (Nat.le_of_ble_eq_true rfl)
  rw [lg_entry_eq]
  generalize (lg_sl ([.long l0, .long l2]) ++ List.replicate (13 - (lg_sl ([.long l0, .long l2])).length) Slot.unset).toArray = ls at hl ⊢
  have hl : lv_has ls 13 [(0, .long l0), (2, .long l2)] := hl
  exact w_X3_runsAt X hK hT ⟨Nat.le_refl _, Nat.le_refl _⟩ l0 l2 h s.heap [] ls hR hS hl
theorem in_X3_admit_3 : ∀ w ∈ u_ws RX2 TX2 3, w ∈ wsX3_admit := by decide +kernel
theorem in_X3_admit_4 : ∀ w ∈ u_ws RX3 TX3 10, w ∈ wsX3_admit := by decide +kernel
set_option maxHeartbeats 4000000 in
set_option maxRecDepth 100000 in
theorem w_X3_admit (X : Cx cX3_admit none 6 RX3 wsX3_admit p s m args meth c) (hK : Kn cA D s) (hT : TL Λ) (hM : 1 ≤ R.frames ∧ 32 ≤ R.locals) (a0 : Nat) (l1 : Int32) (l2 : Int64) (k0 : isK Λ a0 4) {res : Sto} (h : F_X3_admit Λ σ a0 l1 l2 = some res) (H : Heap) (locs : List Loc) (ls : Array Slot) (hR : Rep cA D Λ σ H) (hS : va_S (dm Λ) s.heap H locs) (hl : lv_has ls 6 [(0, .ref a0), (1, .int l1), (2, .long l2)]) : W p l e R s m args below meth c H locs 0 0 (MQ below (QV cA D Λ res) args s 0 0 (dm Λ)) (F0 m 0 ls []) := by
  have hx := X.1
  have hb := X.2.1
  have hown := X.2.2.2.2.1
  have hts := X.2.2.2.2.2.1
  unfold F_X3_admit at h
  refine lv_aload_n hx hb dX3_admit_0 rfl (lv_at hl 0 rfl) ?_
  refine rw_getR X hK hT hR 4 1 3 k0 (by decide) (C := RX3) (T := TX3) (N := 10) rfl (by decide) in_X3_admit_4 (by decide +kernel) rfl dX3_admit_1 (fun kf_1 => ?_)
  refine lv_iload_n hx hb dX3_admit_4 rfl (lv_at hl 1 rfl) ?_
  refine cl_z (rn_V (As := [.int l1]) (rest := []) X hK hR kf_1 rfl (by decide) hl.1 (c_X2_hasRow l cA D Λ hT σ (rfA Λ a0 1) l1 kf_1) (cwV 1 hts gX3_admit_X2_hasRow rfl rfl rfl (by decide +kernel) ⟨Nat.le_trans (by decide) hM.1, Nat.le_trans (by decide) hM.2⟩) rfl rfl (Nat.le_of_ble_eq_true rfl) dX3_admit_5) hS (fun hz_2 H locs hR hS => ?_)
  refine lv_topi (fun r_2 e_2 => ?_)
  have h := of_nm e_2 h
  have hz_2 : r_2 = 0 ∨ r_2 = 1 := by rw [e_2]; exact hz_2
  refine lv_if_eq (tgt := 27) hx hb dX3_admit_8 (by decide) (fun hc => ?_) (fun hc => ?_)
  · have h := of_pos hc h
    exact rt_v X hR hS (Option.some.inj h) dX3_admit_27
  · have h := of_neg hc h
    refine lv_lload_n hx hb dX3_admit_11 rfl (lv_at hl 2 rfl) ?_
    refine lv_aload_n hx hb dX3_admit_12 rfl (lv_at hl 0 rfl) ?_
    refine rw_getR X hK hT hR 4 1 3 k0 (by decide) (C := RX3) (T := TX3) (N := 10) rfl (by decide) in_X3_admit_4 (by decide +kernel) rfl dX3_admit_13 (fun kf_3 => ?_)
    refine rw_getR X hK hT hR 3 2 8 kf_3 (by decide) (C := RX2) (T := TX2) (N := 3) rfl (by decide) in_X3_admit_3 (by decide +kernel) rfl dX3_admit_16 (fun kf_4 => ?_)
    refine lv_iload_n hx hb dX3_admit_19 rfl (lv_at hl 1 rfl) ?_
    obtain ⟨hg_5, h⟩ := of_guard h
    refine rw_lald X hK hR kf_4 hg_5 dX3_admit_20 ?_
    refine lv_land hx hb dX3_admit_21 ?_
    refine lv_lconst (v := (0 : Int64)) hx hb dX3_admit_22 (by decide) ?_
    refine W.lcmp hx hb dX3_admit_23 ?_
    refine lv_if_ne (tgt := 28) hx hb dX3_admit_24 (by decide) (fun hc => ?_) (fun hc => ?_)
    · have h := of_neg hc h
      refine lv_lload_n hx hb dX3_admit_28 rfl (lv_at hl 2 rfl) ?_
      refine lv_aload_n hx hb dX3_admit_29 rfl (lv_at hl 0 rfl) ?_
      refine rw_getR X hK hT hR 4 1 3 k0 (by decide) (C := RX3) (T := TX3) (N := 10) rfl (by decide) in_X3_admit_4 (by decide +kernel) rfl dX3_admit_30 (fun kf_6 => ?_)
      refine rw_getR X hK hT hR 3 2 8 kf_6 (by decide) (C := RX2) (T := TX2) (N := 3) rfl (by decide) in_X3_admit_3 (by decide +kernel) rfl dX3_admit_33 (fun kf_7 => ?_)
      refine lv_iload_n hx hb dX3_admit_36 rfl (lv_at hl 1 rfl) ?_
      obtain ⟨hg_8, h⟩ := of_guard h
      refine rw_lald X hK hR kf_7 hg_8 dX3_admit_37 ?_
      refine lv_land hx hb dX3_admit_38 ?_
      refine lv_aload_n hx hb dX3_admit_39 rfl (lv_at hl 0 rfl) ?_
      refine rw_getR X hK hT hR 4 1 3 k0 (by decide) (C := RX3) (T := TX3) (N := 10) rfl (by decide) in_X3_admit_4 (by decide +kernel) rfl dX3_admit_40 (fun kf_9 => ?_)
      refine rw_getR X hK hT hR 3 2 8 kf_9 (by decide) (C := RX2) (T := TX2) (N := 3) rfl (by decide) in_X3_admit_3 (by decide +kernel) rfl dX3_admit_43 (fun kf_10 => ?_)
      refine lv_iload_n hx hb dX3_admit_46 rfl (lv_at hl 1 rfl) ?_
      obtain ⟨hg_11, h⟩ := of_guard h
      refine rw_lald X hK hR kf_10 hg_11 dX3_admit_47 ?_
      obtain ⟨q_12, hq_12, h⟩ := of_bind h
      refine cl_l (rn_S (As := [.long (l2 &&& (σ.2 (rfA Λ (rfA Λ a0 1) 2) l1.toNatClampNeg)), .long (σ.2 (rfA Λ (rfA Λ a0 1) 2) l1.toNatClampNeg)]) (rest := []) X hK hR hl.1 (c_X3_runsAt l cA D Λ hT σ (l2 &&& (σ.2 (rfA Λ (rfA Λ a0 1) 2) l1.toNatClampNeg)) (σ.2 (rfA Λ (rfA Λ a0 1) 2) l1.toNatClampNeg) hq_12) (va_cwS 2 hts gX3_admit_X3_runsAt rfl rfl rfl (by decide +kernel) ⟨Nat.le_trans (by decide) hM.1, Nat.le_trans (by decide) hM.2⟩) rfl rfl (Nat.le_of_ble_eq_true rfl) dX3_admit_48) hS (fun H locs hR hS => ?_)
      refine lv_lstore (lv' := [(4, .long q_12), (0, .ref a0), (1, .int l1), (2, .long l2)]) hx hb dX3_admit_51 hl (by decide) rfl (fun ls hl => ?_)
      refine lv_aload_n hx hb dX3_admit_53 rfl (lv_at hl 1 rfl) ?_
      refine rw_getR X hK hT hR 4 1 3 k0 (by decide) (C := RX3) (T := TX3) (N := 10) rfl (by decide) in_X3_admit_4 (by decide +kernel) rfl dX3_admit_54 (fun kf_13 => ?_)
      refine rw_getR X hK hT hR 3 2 8 kf_13 (by decide) (C := RX2) (T := TX2) (N := 3) rfl (by decide) in_X3_admit_3 (by decide +kernel) rfl dX3_admit_57 (fun kf_14 => ?_)
      refine lv_iload_n hx hb dX3_admit_60 rfl (lv_at hl 2 rfl) ?_
      refine lv_dup2_11 hx hb dX3_admit_61 rfl rfl ?_
      obtain ⟨hg_15, h⟩ := of_guard h
      refine rw_lald X hK hR kf_14 hg_15 dX3_admit_62 ?_
      refine lv_lload hx hb dX3_admit_63 (lv_at hl 0 rfl) ?_
      refine lv_ldc2 (v := (-1 : Int64)) hx hb hown (hts (.constantLong RX3 115 (-1)) (by decide +kernel)) dX3_admit_65 ?_
      refine lv_lxor hx hb dX3_admit_68 ?_
      refine lv_land hx hb dX3_admit_69 ?_
      obtain ⟨hg_16, h⟩ := of_guard h
      refine rw_last X hK hT hR hS kf_14 hg_16 dX3_admit_70 (fun σ_16 H locs e_16 hR hS => ?_)
      have h := of_nm e_16 h
      refine lv_aload_n hx hb dX3_admit_71 rfl (lv_at hl 1 rfl) ?_
      refine rw_getR X hK hT hR 4 2 3 k0 (by decide) (C := RX3) (T := TX3) (N := 10) rfl (by decide) in_X3_admit_4 (by decide +kernel) rfl dX3_admit_72 (fun kf_17 => ?_)
      refine rw_getR X hK hT hR 3 2 8 kf_17 (by decide) (C := RX2) (T := TX2) (N := 3) rfl (by decide) in_X3_admit_3 (by decide +kernel) rfl dX3_admit_75 (fun kf_18 => ?_)
      refine lv_iload_n hx hb dX3_admit_78 rfl (lv_at hl 2 rfl) ?_
      refine lv_dup2_11 hx hb dX3_admit_79 rfl rfl ?_
      obtain ⟨hg_19, h⟩ := of_guard h
      refine rw_lald X hK hR kf_18 hg_19 dX3_admit_80 ?_
      refine lv_lload hx hb dX3_admit_81 (lv_at hl 0 rfl) ?_
      refine lv_lor hx hb dX3_admit_83 ?_
      obtain ⟨hg_20, h⟩ := of_guard h
      refine rw_last X hK hT hR hS kf_18 hg_20 dX3_admit_84 (fun σ_20 H locs e_20 hR hS => ?_)
      have h := of_nm e_20 h
      refine lv_aload_n hx hb dX3_admit_85 rfl (lv_at hl 1 rfl) ?_
      refine rw_getR X hK hT hR 4 4 8 k0 (by decide) (C := RX3) (T := TX3) (N := 10) rfl (by decide) in_X3_admit_4 (by decide +kernel) rfl dX3_admit_86 (fun kf_21 => ?_)
      refine lv_iload_n hx hb dX3_admit_89 rfl (lv_at hl 2 rfl) ?_
      refine lv_dup2_11 hx hb dX3_admit_90 rfl rfl ?_
      obtain ⟨hg_22, h⟩ := of_guard h
      refine rw_lald X hK hR kf_21 hg_22 dX3_admit_91 ?_
      refine lv_lload hx hb dX3_admit_92 (lv_at hl 0 rfl) ?_
      refine lv_lor hx hb dX3_admit_94 ?_
      obtain ⟨hg_23, h⟩ := of_guard h
      refine rw_last X hK hT hR hS kf_21 hg_23 dX3_admit_95 (fun σ_23 H locs e_23 hR hS => ?_)
      have h := of_nm e_23 h
      refine lv_aload_n hx hb dX3_admit_96 rfl (lv_at hl 1 rfl) ?_
      refine lv_dup hx hb dX3_admit_97 rfl ?_
      refine rw_getJ X hK hR k0 in_X3_admit_4 (by decide +kernel) dX3_admit_98 ?_
      refine lv_lconst (v := (1 : Int64)) hx hb dX3_admit_101 (by decide) ?_
      refine lv_iload_n hx hb dX3_admit_102 rfl (lv_at hl 2 rfl) ?_
      refine lv_lshl (v := (shlL (1 : Int64) l1)) hx hb dX3_admit_103 rfl ?_
      refine lv_lor hx hb dX3_admit_104 ?_
      refine rw_putJ X hK hT hR hS k0 in_X3_admit_4 (by decide +kernel) dX3_admit_105 (fun σ_24 H locs e_24 hR hS => ?_)
      have h := of_nm e_24 h
      refine lv_aload_n hx hb dX3_admit_108 rfl (lv_at hl 1 rfl) ?_
      refine lv_dup hx hb dX3_admit_109 rfl ?_
      refine rw_getI X hK hR 4 6 k0 (by decide) (C := RX3) (T := TX3) (N := 10) rfl (by decide) in_X3_admit_4 (by decide +kernel) rfl dX3_admit_110 ?_
      refine lv_lload hx hb dX3_admit_113 (lv_at hl 0 rfl) ?_
      refine cl_i (rn_S (As := [.long q_12]) (rest := [.int (σ_24.1 a0 6), .ref a0]) X hK hR hl.1 (c_J13_bitCount_95d88 l cA D Λ hT σ_24 q_12) (va_cwS 1 hts gX3_admit_J13_bitCount_95d88 rfl rfl rfl (by decide +kernel) ⟨Nat.le_trans (by decide) hM.1, Nat.le_trans (by decide) hM.2⟩) rfl rfl (Nat.le_of_ble_eq_true rfl) dX3_admit_115) hS (fun H locs hR hS => ?_)
      refine lv_topi (fun r_25 e_25 => ?_)
      have h := of_nm e_25 h
      refine lv_iadd hx hb dX3_admit_118 ?_
      refine rw_putI X hK hT hR hS 4 6 tyX3 k0 (by decide) (C := RX3) (T := TX3) (N := 10) rfl (by decide) in_X3_admit_4 tyX3_ok nmX3 (by decide +kernel) rfl rfl (by decide +kernel) dX3_admit_119 (fun σ_26 H locs e_26 hR hS => ?_)
      have h := of_nm e_26 h
      refine lv_aload_n hx hb dX3_admit_122 rfl (lv_at hl 1 rfl) ?_
      refine lv_aload_n hx hb dX3_admit_123 rfl (lv_at hl 1 rfl) ?_
      refine rw_getI X hK hR 4 7 k0 (by decide) (C := RX3) (T := TX3) (N := 10) rfl (by decide) in_X3_admit_4 (by decide +kernel) rfl dX3_admit_124 ?_
      refine lv_iload_n hx hb dX3_admit_127 rfl (lv_at hl 2 rfl) ?_
      refine va_mmin hx hb (X.2.2.2.1.trans hl.1.symm) hown (hts (.methodLink RX3 130 Lib.Math.min.name) (by decide +kernel)) (hts (.static Lib.Math.min.name) (by decide +kernel)) (hts (.initialized "java/lang/Math") (by decide +kernel)) (hts (.code Lib.Math.min.name Lib.Math.min.code 2 (some .int)) (by decide +kernel)) (Nat.le_trans (by decide) hM.1) (Nat.le_trans (Nat.le_of_ble_eq_true rfl) hM.2) (Nat.zero_le _) (Nat.zero_le _) dX3_admit_128 ?_
      refine lv_topi (fun r_27 e_27 => ?_)
      have h := of_nm e_27 h
      refine rw_putI X hK hT hR hS 4 7 tyX3 k0 (by decide) (C := RX3) (T := TX3) (N := 10) rfl (by decide) in_X3_admit_4 tyX3_ok nmX3 (by decide +kernel) rfl rfl (by decide +kernel) dX3_admit_131 (fun σ_28 H locs e_28 hR hS => ?_)
      have h := of_nm e_28 h
      refine lv_aload_n hx hb dX3_admit_134 rfl (lv_at hl 1 rfl) ?_
      refine lv_aload_n hx hb dX3_admit_135 rfl (lv_at hl 1 rfl) ?_
      refine rw_getI X hK hR 4 8 k0 (by decide) (C := RX3) (T := TX3) (N := 10) rfl (by decide) in_X3_admit_4 (by decide +kernel) rfl dX3_admit_136 ?_
      refine lv_iload_n hx hb dX3_admit_139 rfl (lv_at hl 2 rfl) ?_
      refine va_mmax hx hb (X.2.2.2.1.trans hl.1.symm) hown (hts (.methodLink RX3 58 Lib.Math.max.name) (by decide +kernel)) (hts (.static Lib.Math.max.name) (by decide +kernel)) (hts (.initialized "java/lang/Math") (by decide +kernel)) (hts (.code Lib.Math.max.name Lib.Math.max.code 2 (some .int)) (by decide +kernel)) (Nat.le_trans (by decide) hM.1) (Nat.le_trans (Nat.le_of_ble_eq_true rfl) hM.2) (Nat.zero_le _) (Nat.zero_le _) dX3_admit_140 ?_
      refine lv_topi (fun r_29 e_29 => ?_)
      have h := of_nm e_29 h
      refine rw_putI X hK hT hR hS 4 8 tyX3 k0 (by decide) (C := RX3) (T := TX3) (N := 10) rfl (by decide) in_X3_admit_4 tyX3_ok nmX3 (by decide +kernel) rfl rfl (by decide +kernel) dX3_admit_143 (fun σ_30 H locs e_30 hR hS => ?_)
      have h := of_nm e_30 h
      exact rt_v X hR hS (Option.some.inj h) dX3_admit_146
    · have h := of_pos hc h
      exact rt_v X hR hS (Option.some.inj h) dX3_admit_27

set_option maxHeartbeats 4000000 in
set_option maxRecDepth 100000 in
theorem c_X3_admit (l : Launch) (cA : Nat → ClassId) (D : va_G) (Λ : Lay) (hT : TL Λ) (σ : Sto) (a0 : Nat) (l1 : Int32) (l2 : Int64) (k0 : isK Λ a0 4) {res : Sto} (h : F_X3_admit Λ σ a0 l1 l2 = some res) : Met l yX3_admit wsX3_admit { frames := 1, cells := 0, slots := 0, locals := 32 } (va_Pc [.ref a0, .int l1, .long l2] (PW cA D Λ σ)) (QV cA D Λ res) 0 0 (dm Λ) := by
  refine Met.ofW (cc := cX3_admit) (maxL := 6) (ret := none) (by decide) rfl ?_
  intro p e s m args below meth c s₁ B hml hv
  obtain ⟨rfl, hR, hK⟩ := hv
  have X : Cx cX3_admit none 6 RX3 wsX3_admit p s m _ meth c := ⟨B.exec, B.bytes, B.returns, hml, findClass_of_methodNamed B.named, atoms_spec (ws := wsX3_admit) B.pre, B.notSynchronized⟩
  have hS : va_S (dm Λ) s.heap s.heap [] := va_S.rf
  have hl := lv_entry ([.ref a0, .int l1, .long l2]) (n := 6) (Nat.le_of_ble_eq_true rfl)
  rw [lg_entry_eq]
  generalize (lg_sl ([.ref a0, .int l1, .long l2]) ++ List.replicate (6 - (lg_sl ([.ref a0, .int l1, .long l2])).length) Slot.unset).toArray = ls at hl ⊢
  have hl : lv_has ls 6 [(0, .ref a0), (1, .int l1), (2, .long l2)] := hl
  exact w_X3_admit X hK hT ⟨Nat.le_refl _, Nat.le_refl _⟩ a0 l1 l2 k0 h s.heap [] ls hR hS hl
set_option maxHeartbeats 4000000 in
set_option maxRecDepth 100000 in
theorem w_X4_lowestBit (X : Cx cX4_lowestBit (some .int) 2 RX4 wsX4_lowestBit p s m args meth c) (hK : Kn cA D s) (hT : TL Λ) (hM : 1 ≤ R.frames ∧ 21 ≤ R.locals) (l0 : Int64) {res : Int32} (h : F_X4_lowestBit l0 = res) (H : Heap) (locs : List Loc) (ls : Array Slot) (hR : Rep cA D Λ σ H) (hS : va_S (dm Λ) s.heap H locs) (hl : lv_has ls 2 [(0, .long l0)]) : W p l e R s m args below meth c H locs 0 0 (MQ below (QI cA D Λ (res, σ)) args s 0 0 (dm Λ)) (F0 m 0 ls []) := by
  have hx := X.1
  have hb := X.2.1
  have hown := X.2.2.2.2.1
  have hts := X.2.2.2.2.2.1
  unfold F_X4_lowestBit at h
  refine lv_lload_n hx hb dX4_lowestBit_0 rfl (lv_at hl 0 rfl) ?_
  refine lv_lload_n hx hb dX4_lowestBit_1 rfl (lv_at hl 0 rfl) ?_
  refine lv_lneg hx hb dX4_lowestBit_2 ?_
  refine lv_land hx hb dX4_lowestBit_3 ?_
  refine lv_lconst (v := (1 : Int64)) hx hb dX4_lowestBit_4 (by decide) ?_
  refine lv_lsub hx hb dX4_lowestBit_5 ?_
  refine cl_i (rn_S (As := [.long ((l0 &&& (-l0)) - (1 : Int64))]) (rest := []) X hK hR hl.1 (c_J13_bitCount_95d88 l cA D Λ hT σ ((l0 &&& (-l0)) - (1 : Int64))) (va_cwS 1 hts gX4_lowestBit_J13_bitCount_95d88 rfl rfl rfl (by decide +kernel) ⟨Nat.le_trans (by decide) hM.1, Nat.le_trans (by decide) hM.2⟩) rfl rfl (Nat.le_of_ble_eq_true rfl) dX4_lowestBit_6) hS (fun H locs hR hS => ?_)
  refine lv_topi (fun r_1 e_1 => ?_)
  have h := of_nm e_1 h
  exact rt_i X hR hS (congrArg (fun z => (z, σ)) h) dX4_lowestBit_9

set_option maxHeartbeats 4000000 in
set_option maxRecDepth 100000 in
theorem c_X4_lowestBit (l : Launch) (cA : Nat → ClassId) (D : va_G) (Λ : Lay) (hT : TL Λ) (σ : Sto) (l0 : Int64) : Met l yX4_lowestBit wsX4_lowestBit { frames := 1, cells := 0, slots := 0, locals := 21 } (va_Pc [.long l0] (PW cA D Λ σ)) (QI cA D Λ ((F_X4_lowestBit l0), σ)) 0 0 (dm Λ) := by
  refine Met.ofW (cc := cX4_lowestBit) (maxL := 2) (ret := (some .int)) (by decide) rfl ?_
  intro p e s m args below meth c s₁ B hml hv
  obtain ⟨rfl, hR, hK⟩ := hv
  have X : Cx cX4_lowestBit (some .int) 2 RX4 wsX4_lowestBit p s m _ meth c := ⟨B.exec, B.bytes, B.returns, hml, findClass_of_methodNamed B.named, atoms_spec (ws := wsX4_lowestBit) B.pre, B.notSynchronized⟩
  have hS : va_S (dm Λ) s.heap s.heap [] := va_S.rf
  have hl := lv_entry ([.long l0]) (n := 2) (Nat.le_of_ble_eq_true rfl)
  rw [lg_entry_eq]
  generalize (lg_sl ([.long l0]) ++ List.replicate (2 - (lg_sl ([.long l0])).length) Slot.unset).toArray = ls at hl ⊢
  have hl : lv_has ls 2 [(0, .long l0)] := hl
  exact w_X4_lowestBit X hK hT ⟨Nat.le_refl _, Nat.le_refl _⟩ l0 rfl s.heap [] ls hR hS hl
set_option maxHeartbeats 4000000 in
set_option maxRecDepth 100000 in
theorem w_X3_widened (X : Cx cX3_widened (some .long) 2 RX3 wsX3_widened p s m args meth c) (hK : Kn cA D s) (hT : TL Λ) (hM : 0 ≤ R.frames ∧ 0 ≤ R.locals) (l0 : Int64) {res : Int64} (h : F_X3_widened l0 = res) (H : Heap) (locs : List Loc) (ls : Array Slot) (hR : Rep cA D Λ σ H) (hS : va_S (dm Λ) s.heap H locs) (hl : lv_has ls 2 [(0, .long l0)]) : W p l e R s m args below meth c H locs 0 0 (MQ below (QL cA D Λ (res, σ)) args s 0 0 (dm Λ)) (F0 m 0 ls []) := by
  have hx := X.1
  have hb := X.2.1
  have hown := X.2.2.2.2.1
  have hts := X.2.2.2.2.2.1
  unfold F_X3_widened at h
  refine lv_lload_n hx hb dX3_widened_0 rfl (lv_at hl 0 rfl) ?_
  refine lv_lload_n hx hb dX3_widened_1 rfl (lv_at hl 0 rfl) ?_
  refine lv_iconst (v := (1 : Int32)) hx hb dX3_widened_2 (by decide) ?_
  refine lv_lshl (v := (shlL l0 (1 : Int32))) hx hb dX3_widened_3 rfl ?_
  refine lv_lor hx hb dX3_widened_4 ?_
  refine lv_lload_n hx hb dX3_widened_5 rfl (lv_at hl 0 rfl) ?_
  refine lv_iconst (v := (1 : Int32)) hx hb dX3_widened_6 (by decide) ?_
  refine lv_lushr (v := (ushrL l0 (1 : Int32))) hx hb dX3_widened_7 rfl ?_
  refine lv_lor hx hb dX3_widened_8 ?_
  exact rt_l X hR hS (congrArg (fun z => (z, σ)) h) dX3_widened_9

set_option maxHeartbeats 4000000 in
set_option maxRecDepth 100000 in
theorem c_X3_widened (l : Launch) (cA : Nat → ClassId) (D : va_G) (Λ : Lay) (hT : TL Λ) (σ : Sto) (l0 : Int64) : Met l yX3_widened wsX3_widened { frames := 0, cells := 0, slots := 0, locals := 0 } (va_Pc [.long l0] (PW cA D Λ σ)) (QL cA D Λ ((F_X3_widened l0), σ)) 0 0 (dm Λ) := by
  refine Met.ofW (cc := cX3_widened) (maxL := 2) (ret := (some .long)) (by decide) rfl ?_
  intro p e s m args below meth c s₁ B hml hv
  obtain ⟨rfl, hR, hK⟩ := hv
  have X : Cx cX3_widened (some .long) 2 RX3 wsX3_widened p s m _ meth c := ⟨B.exec, B.bytes, B.returns, hml, findClass_of_methodNamed B.named, atoms_spec (ws := wsX3_widened) B.pre, B.notSynchronized⟩
  have hS : va_S (dm Λ) s.heap s.heap [] := va_S.rf
  have hl := lv_entry ([.long l0]) (n := 2) (Nat.le_of_ble_eq_true rfl)
  rw [lg_entry_eq]
  generalize (lg_sl ([.long l0]) ++ List.replicate (2 - (lg_sl ([.long l0])).length) Slot.unset).toArray = ls at hl ⊢
  have hl : lv_has ls 2 [(0, .long l0)] := hl
  exact w_X3_widened X hK hT ⟨Nat.le_refl _, Nat.le_refl _⟩ l0 rfl s.heap [] ls hR hS hl
theorem in_X3_growFrom_4 : ∀ w ∈ u_ws RX3 TX3 10, w ∈ wsX3_growFrom := by decide +kernel
set_option maxHeartbeats 4000000 in
set_option maxRecDepth 100000 in
theorem w_X3_growFrom (X : Cx cX3_growFrom none 4 RX3 wsX3_growFrom p s m args meth c) (hK : Kn cA D s) (hT : TL Λ) (hM : 2 ≤ R.frames ∧ 57 ≤ R.locals) (a0 : Nat) (l1 : Int32) (k0 : isK Λ a0 4) {res : Sto} (h : F_X3_growFrom Λ σ a0 l1 = some res) (H : Heap) (locs : List Loc) (ls : Array Slot) (hR : Rep cA D Λ σ H) (hS : va_S (dm Λ) s.heap H locs) (hl : lv_has ls 4 [(0, .ref a0), (1, .int l1)]) : W p l e R s m args below meth c H locs 0 0 (MQ below (QV cA D Λ res) args s 0 0 (dm Λ)) (F0 m 0 ls []) := by
  have hx := X.1
  have hb := X.2.1
  have hown := X.2.2.2.2.1
  have hts := X.2.2.2.2.2.1
  unfold F_X3_growFrom at h
  refine lv_aload_n hx hb dX3_growFrom_0 rfl (lv_at hl 0 rfl) ?_
  refine rw_getR X hK hT hR 4 4 8 k0 (by decide) (C := RX3) (T := TX3) (N := 10) rfl (by decide) in_X3_growFrom_4 (by decide +kernel) rfl dX3_growFrom_1 (fun kf_1 => ?_)
  refine lv_iload_n hx hb dX3_growFrom_4 rfl (lv_at hl 1 rfl) ?_
  obtain ⟨hg_2, h⟩ := of_guard h
  refine rw_lald X hK hR kf_1 hg_2 dX3_growFrom_5 ?_
  refine cl_l (rn_S (As := [.long (σ.2 (rfA Λ a0 4) l1.toNatClampNeg)]) (rest := []) X hK hR hl.1 (c_X3_widened l cA D Λ hT σ (σ.2 (rfA Λ a0 4) l1.toNatClampNeg)) (va_cwS 1 hts gX3_growFrom_X3_widened rfl rfl rfl (by decide +kernel) ⟨Nat.le_trans (by decide) hM.1, Nat.le_trans (by decide) hM.2⟩) rfl rfl (Nat.le_of_ble_eq_true rfl) dX3_growFrom_6) hS (fun H locs hR hS => ?_)
  refine lv_topl (fun r_3 e_3 => ?_)
  have h := of_nm e_3 h
  refine lv_lstore_n (lv' := [(2, .long r_3), (0, .ref a0), (1, .int l1)]) hx hb dX3_growFrom_9 rfl hl (by decide) rfl (fun ls hl => ?_)
  refine lv_aload_n hx hb dX3_growFrom_10 rfl (lv_at hl 1 rfl) ?_
  refine rw_getR X hK hT hR 4 4 8 k0 (by decide) (C := RX3) (T := TX3) (N := 10) rfl (by decide) in_X3_growFrom_4 (by decide +kernel) rfl dX3_growFrom_11 (fun kf_4 => ?_)
  refine lv_iload_n hx hb dX3_growFrom_14 rfl (lv_at hl 2 rfl) ?_
  refine lv_lconst (v := (0 : Int64)) hx hb dX3_growFrom_15 (by decide) ?_
  obtain ⟨hg_5, h⟩ := of_guard h
  refine rw_last X hK hT hR hS kf_4 hg_5 dX3_growFrom_16 (fun σ_5 H locs e_5 hR hS => ?_)
  have h := of_nm e_5 h
  refine lv_aload_n hx hb dX3_growFrom_17 rfl (lv_at hl 1 rfl) ?_
  refine lv_dup hx hb dX3_growFrom_18 rfl ?_
  refine rw_getJ X hK hR k0 in_X3_growFrom_4 (by decide +kernel) dX3_growFrom_19 ?_
  refine lv_lconst (v := (1 : Int64)) hx hb dX3_growFrom_22 (by decide) ?_
  refine lv_iload_n hx hb dX3_growFrom_23 rfl (lv_at hl 2 rfl) ?_
  refine lv_lshl (v := (shlL (1 : Int64) l1)) hx hb dX3_growFrom_24 rfl ?_
  refine lv_ldc2 (v := (-1 : Int64)) hx hb hown (hts (.constantLong RX3 115 (-1)) (by decide +kernel)) dX3_growFrom_25 ?_
  refine lv_lxor hx hb dX3_growFrom_28 ?_
  refine lv_land hx hb dX3_growFrom_29 ?_
  refine rw_putJ X hK hT hR hS k0 in_X3_growFrom_4 (by decide +kernel) dX3_growFrom_30 (fun σ_6 H locs e_6 hR hS => ?_)
  have h := of_nm e_6 h
  refine lv_aload_n hx hb dX3_growFrom_33 rfl (lv_at hl 1 rfl) ?_
  refine lv_iload_n hx hb dX3_growFrom_34 rfl (lv_at hl 2 rfl) ?_
  refine lv_iconst (v := (1 : Int32)) hx hb dX3_growFrom_35 (by decide) ?_
  refine lv_isub hx hb dX3_growFrom_36 ?_
  refine lv_lload_n hx hb dX3_growFrom_37 rfl (lv_at hl 0 rfl) ?_
  obtain ⟨q_7, hq_7, h⟩ := of_bind h
  refine cl_v (rn_V (As := [.int (l1 - (1 : Int32)), .long r_3]) (rest := []) X hK hR k0 rfl (by decide) hl.1 (c_X3_admit l cA D Λ hT σ_6 a0 (l1 - (1 : Int32)) r_3 k0 hq_7) (cwV 2 hts gX3_growFrom_X3_admit rfl rfl rfl (by decide +kernel) ⟨Nat.le_trans (by decide) hM.1, Nat.le_trans (by decide) hM.2⟩) rfl rfl (Nat.le_of_ble_eq_true rfl) dX3_growFrom_38) hS (fun H locs hR hS => ?_)
  refine lv_aload_n hx hb dX3_growFrom_41 rfl (lv_at hl 1 rfl) ?_
  refine lv_iload_n hx hb dX3_growFrom_42 rfl (lv_at hl 2 rfl) ?_
  refine lv_iconst (v := (1 : Int32)) hx hb dX3_growFrom_43 (by decide) ?_
  refine lv_iadd hx hb dX3_growFrom_44 ?_
  refine lv_lload_n hx hb dX3_growFrom_45 rfl (lv_at hl 0 rfl) ?_
  obtain ⟨q_8, hq_8, h⟩ := of_bind h
  refine cl_v (rn_V (As := [.int (l1 + (1 : Int32)), .long r_3]) (rest := []) X hK hR k0 rfl (by decide) hl.1 (c_X3_admit l cA D Λ hT q_7 a0 (l1 + (1 : Int32)) r_3 k0 hq_8) (cwV 2 hts gX3_growFrom_X3_admit rfl rfl rfl (by decide +kernel) ⟨Nat.le_trans (by decide) hM.1, Nat.le_trans (by decide) hM.2⟩) rfl rfl (Nat.le_of_ble_eq_true rfl) dX3_growFrom_46) hS (fun H locs hR hS => ?_)
  exact rt_v X hR hS (Option.some.inj h) dX3_growFrom_49

set_option maxHeartbeats 4000000 in
set_option maxRecDepth 100000 in
theorem c_X3_growFrom (l : Launch) (cA : Nat → ClassId) (D : va_G) (Λ : Lay) (hT : TL Λ) (σ : Sto) (a0 : Nat) (l1 : Int32) (k0 : isK Λ a0 4) {res : Sto} (h : F_X3_growFrom Λ σ a0 l1 = some res) : Met l yX3_growFrom wsX3_growFrom { frames := 2, cells := 0, slots := 0, locals := 57 } (va_Pc [.ref a0, .int l1] (PW cA D Λ σ)) (QV cA D Λ res) 0 0 (dm Λ) := by
  refine Met.ofW (cc := cX3_growFrom) (maxL := 4) (ret := none) (by decide) rfl ?_
  intro p e s m args below meth c s₁ B hml hv
  obtain ⟨rfl, hR, hK⟩ := hv
  have X : Cx cX3_growFrom none 4 RX3 wsX3_growFrom p s m _ meth c := ⟨B.exec, B.bytes, B.returns, hml, findClass_of_methodNamed B.named, atoms_spec (ws := wsX3_growFrom) B.pre, B.notSynchronized⟩
  have hS : va_S (dm Λ) s.heap s.heap [] := va_S.rf
  have hl := lv_entry ([.ref a0, .int l1]) (n := 4) (Nat.le_of_ble_eq_true rfl)
  rw [lg_entry_eq]
  generalize (lg_sl ([.ref a0, .int l1]) ++ List.replicate (4 - (lg_sl ([.ref a0, .int l1])).length) Slot.unset).toArray = ls at hl ⊢
  have hl : lv_has ls 4 [(0, .ref a0), (1, .int l1)] := hl
  exact w_X3_growFrom X hK hT ⟨Nat.le_refl _, Nat.le_refl _⟩ a0 l1 k0 h s.heap [] ls hR hS hl
theorem in_X3_next_3 : ∀ w ∈ u_ws RX2 TX2 3, w ∈ wsX3_next := by decide +kernel
theorem in_X3_next_4 : ∀ w ∈ u_ws RX3 TX3 10, w ∈ wsX3_next := by decide +kernel
set_option maxHeartbeats 4000000 in
set_option maxRecDepth 100000 in
theorem w_bd_X3_next_4 (X : Cx cX3_next (some .boolean) 2 RX3 wsX3_next p s m args meth c) (hK : Kn cA D s) (hT : TL Λ) (hM : 3 ≤ R.frames ∧ 80 ≤ R.locals) (a0 : Nat) (s9 : Sto) (k0 : isK Λ a0 4) {r : Sto ⊕ Sto} (h : bd_X3_next_4 Λ a0 s9 = some r) (kb : ∀ z : Sto, r = .inl z → ∀ (H : Heap) (locs : List Loc) (ls : Array Slot), Rep cA D Λ z H → va_S (dm Λ) s.heap H locs → lv_has ls 2 [(0, .ref a0)] → W p l e R s m args below meth c H locs 0 0 Q (F0 m 4 ls [])) (kx0 : ∀ z : Sto, r = .inr z → ∀ (H : Heap) (locs : List Loc) (ls : Array Slot), Rep cA D Λ z H → va_S (dm Λ) s.heap H locs → lv_has ls 2 [(0, .ref a0)] → W p l e R s m args below meth c H locs 0 0 Q (F0 m 48 ls [])) (H : Heap) (locs : List Loc) (ls : Array Slot) (hR : Rep cA D Λ s9 H) (hS : va_S (dm Λ) s.heap H locs) (hl : lv_has ls 2 [(0, .ref a0)]) : W p l e R s m args below meth c H locs 0 0 Q (F0 m 4 ls []) := by
  have hx := X.1
  have hb := X.2.1
  have hown := X.2.2.2.2.1
  have hts := X.2.2.2.2.2.1
  unfold bd_X3_next_4 at h
  refine lv_aload_n hx hb dX3_next_4 rfl (lv_at hl 0 rfl) ?_
  refine rw_getI X hK hR 4 9 k0 (by decide) (C := RX3) (T := TX3) (N := 10) rfl (by decide) in_X3_next_4 (by decide +kernel) rfl dX3_next_5 ?_
  refine lv_aload_n hx hb dX3_next_8 rfl (lv_at hl 0 rfl) ?_
  refine rw_getR X hK hT hR 4 1 3 k0 (by decide) (C := RX3) (T := TX3) (N := 10) rfl (by decide) in_X3_next_4 (by decide +kernel) rfl dX3_next_9 (fun kf_2 => ?_)
  refine rw_getI X hK hR 3 1 kf_2 (by decide) (C := RX2) (T := TX2) (N := 3) rfl (by decide) in_X3_next_3 (by decide +kernel) rfl dX3_next_12 ?_
  refine lv_icmp_ge (tgt := 48) hx hb dX3_next_15 (by decide) (fun hc => ?_) (fun hc => ?_)
  · have h := of_pos hc h
    exact kx0 s9 (Option.some.inj h).symm H locs ls hR hS (lv_sub hl [0] rfl)
  · have h := of_neg hc h
    refine lv_aload_n hx hb dX3_next_18 rfl (lv_at hl 0 rfl) ?_
    refine rw_getR X hK hT hR 4 1 3 k0 (by decide) (C := RX3) (T := TX3) (N := 10) rfl (by decide) in_X3_next_4 (by decide +kernel) rfl dX3_next_19 (fun kf_3 => ?_)
    refine rw_getR X hK hT hR 3 2 8 kf_3 (by decide) (C := RX2) (T := TX2) (N := 3) rfl (by decide) in_X3_next_3 (by decide +kernel) rfl dX3_next_22 (fun kf_4 => ?_)
    refine lv_aload_n hx hb dX3_next_25 rfl (lv_at hl 0 rfl) ?_
    refine rw_getI X hK hR 4 9 k0 (by decide) (C := RX3) (T := TX3) (N := 10) rfl (by decide) in_X3_next_4 (by decide +kernel) rfl dX3_next_26 ?_
    obtain ⟨hg_5, h⟩ := of_guard h
    refine rw_lald X hK hR kf_4 hg_5 dX3_next_29 ?_
    refine lv_lconst (v := (0 : Int64)) hx hb dX3_next_30 (by decide) ?_
    refine W.lcmp hx hb dX3_next_31 ?_
    refine lv_if_ne (tgt := 48) hx hb dX3_next_32 (by decide) (fun hc => ?_) (fun hc => ?_)
    · have h := of_neg hc h
      exact kx0 s9 (Option.some.inj h).symm H locs ls hR hS (lv_sub hl [0] rfl)
    · have h := of_pos hc h
      refine lv_aload_n hx hb dX3_next_35 rfl (lv_at hl 0 rfl) ?_
      refine lv_dup hx hb dX3_next_36 rfl ?_
      refine rw_getI X hK hR 4 9 k0 (by decide) (C := RX3) (T := TX3) (N := 10) rfl (by decide) in_X3_next_4 (by decide +kernel) rfl dX3_next_37 ?_
      refine lv_iconst (v := (1 : Int32)) hx hb dX3_next_40 (by decide) ?_
      refine lv_iadd hx hb dX3_next_41 ?_
      refine rw_putI X hK hT hR hS 4 9 tyX3 k0 (by decide) (C := RX3) (T := TX3) (N := 10) rfl (by decide) in_X3_next_4 tyX3_ok nmX3 (by decide +kernel) rfl rfl (by decide +kernel) dX3_next_42 (fun σ_6 H locs e_6 hR hS => ?_)
      have h := of_nm e_6 h
      refine lv_goto (tgt := 4) hx hb dX3_next_45 (by decide) ?_
      exact kb σ_6 (Option.some.inj h).symm H locs ls hR hS (lv_sub hl [0] rfl)

set_option maxHeartbeats 4000000 in
set_option maxRecDepth 100000 in
theorem w_lp_X3_next_4 (X : Cx cX3_next (some .boolean) 2 RX3 wsX3_next p s m args meth c) (hK : Kn cA D s) (hT : TL Λ) (hM : 3 ≤ R.frames ∧ 80 ≤ R.locals) (a0 : Nat) (k0 : isK Λ a0 4) {e9 : Sto} : ∀ (n9 : Nat) (s9 : Sto), iter (bd_X3_next_4 Λ a0) n9 s9 = some e9 → ∀ (kx0 : ∀ (H : Heap) (locs : List Loc) (ls : Array Slot), Rep cA D Λ e9 H → va_S (dm Λ) s.heap H locs → lv_has ls 2 [(0, .ref a0)] → W p l e R s m args below meth c H locs 0 0 Q (F0 m 48 ls [])), ∀ (H : Heap) (locs : List Loc) (ls : Array Slot), Rep cA D Λ s9 H → va_S (dm Λ) s.heap H locs → lv_has ls 2 [(0, .ref a0)] → W p l e R s m args below meth c H locs 0 0 Q (F0 m 4 ls []) := by
  intro n9
  induction n9 with
  | zero => intro s9 h; cases h
  | succ n9 ih =>
    intro s9 h kx0 H locs ls hR hS hl
    obtain ⟨r, hr, h⟩ := of_iter h
    refine w_bd_X3_next_4 X hK hT hM a0 s9 k0 hr (fun z ez H locs ls hR hS hl => ?_) (fun z ez H locs ls hR hS hl => ?_) H locs ls hR hS hl
    · exact ih z (of_itl ez h) kx0 H locs ls hR hS hl
    · have he := of_itr ez h; subst he; exact kx0 H locs ls hR hS hl

set_option maxHeartbeats 4000000 in
set_option maxRecDepth 100000 in
theorem w_bd_X3_next_116 (X : Cx cX3_next (some .boolean) 2 RX3 wsX3_next p s m args meth c) (hK : Kn cA D s) (hT : TL Λ) (hM : 3 ≤ R.frames ∧ 80 ≤ R.locals) (a0 : Nat) (s9 : (Int32 × Sto)) (k0 : isK Λ a0 4) {r : (Int32 × Sto) ⊕ Sto} (h : bd_X3_next_116 Λ a0 s9 = some r) (kb : ∀ z : (Int32 × Sto), r = .inl z → ∀ (H : Heap) (locs : List Loc) (ls : Array Slot), Rep cA D Λ z.2 H → va_S (dm Λ) s.heap H locs → lv_has ls 2 [(0, .ref a0), (1, .int z.1)] → W p l e R s m args below meth c H locs 0 0 Q (F0 m 116 ls [])) (kx0 : ∀ z : Sto, r = .inr z → ∀ (H : Heap) (locs : List Loc) (ls : Array Slot), Rep cA D Λ z H → va_S (dm Λ) s.heap H locs → lv_has ls 2 [] → W p l e R s m args below meth c H locs 0 0 Q (F0 m 149 ls [])) (H : Heap) (locs : List Loc) (ls : Array Slot) (hR : Rep cA D Λ s9.2 H) (hS : va_S (dm Λ) s.heap H locs) (hl : lv_has ls 2 [(0, .ref a0), (1, .int s9.1)]) : W p l e R s m args below meth c H locs 0 0 Q (F0 m 116 ls []) := by
  have hx := X.1
  have hb := X.2.1
  have hown := X.2.2.2.2.1
  have hts := X.2.2.2.2.2.1
  unfold bd_X3_next_116 at h
  refine lv_iload_n hx hb dX3_next_116 rfl (lv_at hl 1 rfl) ?_
  refine lv_sipush (v := (4096 : Int32)) hx hb dX3_next_117 (by decide) ?_
  refine lv_icmp_ge (tgt := 149) hx hb dX3_next_120 (by decide) (fun hc => ?_) (fun hc => ?_)
  · have h := of_pos hc h
    exact kx0 s9.2 (Option.some.inj h).symm H locs ls hR hS (lv_sub hl [] rfl)
  · have h := of_neg hc h
    refine lv_aload_n hx hb dX3_next_123 rfl (lv_at hl 0 rfl) ?_
    refine rw_getJ X hK hR k0 in_X3_next_4 (by decide +kernel) dX3_next_124 ?_
    refine lv_lconst (v := (0 : Int64)) hx hb dX3_next_127 (by decide) ?_
    refine W.lcmp hx hb dX3_next_128 ?_
    refine lv_if_eq (tgt := 149) hx hb dX3_next_129 (by decide) (fun hc => ?_) (fun hc => ?_)
    · have h := of_pos hc h
      exact kx0 s9.2 (Option.some.inj h).symm H locs ls hR hS (lv_sub hl [] rfl)
    · have h := of_neg hc h
      refine lv_aload_n hx hb dX3_next_132 rfl (lv_at hl 0 rfl) ?_
      refine lv_aload_n hx hb dX3_next_133 rfl (lv_at hl 0 rfl) ?_
      refine rw_getJ X hK hR k0 in_X3_next_4 (by decide +kernel) dX3_next_134 ?_
      refine cl_i (rn_SN (As := [.long (s9.2.2 a0 5)]) (rest := [.ref a0]) X hK hR hl.1 (c_X4_lowestBit l cA D Λ hT s9.2 (s9.2.2 a0 5)) ⟨va_cnB 1 hts gX3_next_X4_lowestBit_n108 rfl rfl rfl (hK.2 (.methodLinkNest RX3 108 yX4_lowestBit RX4) (by decide +kernel)) (hts (.initialized RX4) (by decide +kernel)) (by decide +kernel) ⟨Nat.le_trans (by decide) hM.1, Nat.le_trans (by decide) hM.2⟩, hts (.static yX4_lowestBit) (by decide +kernel), trivial⟩ rfl rfl (Nat.le_of_ble_eq_true rfl) dX3_next_137) hS (fun H locs hR hS => ?_)
      refine lv_topi (fun r_18 e_18 => ?_)
      have h := of_nm e_18 h
      obtain ⟨q_19, hq_19, h⟩ := of_bind h
      refine cl_v (rn_V (As := [.int r_18]) (rest := []) X hK hR k0 rfl (by decide) hl.1 (c_X3_growFrom l cA D Λ hT s9.2 a0 r_18 k0 hq_19) (cwV 1 hts gX3_next_X3_growFrom rfl rfl rfl (by decide +kernel) ⟨Nat.le_trans (by decide) hM.1, Nat.le_trans (by decide) hM.2⟩) rfl rfl (Nat.le_of_ble_eq_true rfl) dX3_next_140) hS (fun H locs hR hS => ?_)
      obtain ⟨v_20, e_v_20⟩ : ∃ y : Int32, y = (s9.1 + (1 : Int32)) := ⟨_, rfl⟩
      have h := of_nm e_v_20 h
      refine lv_iinc (v := v_20) (lv' := [(1, .int v_20), (0, .ref a0)]) hx hb dX3_next_143 hl (k := 1) rfl (by rw [e_v_20]; rfl) (by decide) rfl (fun ls hl => ?_)
      refine lv_goto (tgt := 116) hx hb dX3_next_146 (by decide) ?_
      exact kb (v_20, q_19) (Option.some.inj h).symm H locs ls hR hS (lv_sub hl [1, 0] rfl)

set_option maxHeartbeats 4000000 in
set_option maxRecDepth 100000 in
theorem w_lp_X3_next_116 (X : Cx cX3_next (some .boolean) 2 RX3 wsX3_next p s m args meth c) (hK : Kn cA D s) (hT : TL Λ) (hM : 3 ≤ R.frames ∧ 80 ≤ R.locals) (a0 : Nat) (k0 : isK Λ a0 4) {e9 : Sto} : ∀ (n9 : Nat) (s9 : (Int32 × Sto)), iter (bd_X3_next_116 Λ a0) n9 s9 = some e9 → ∀ (kx0 : ∀ (H : Heap) (locs : List Loc) (ls : Array Slot), Rep cA D Λ e9 H → va_S (dm Λ) s.heap H locs → lv_has ls 2 [] → W p l e R s m args below meth c H locs 0 0 Q (F0 m 149 ls [])), ∀ (H : Heap) (locs : List Loc) (ls : Array Slot), Rep cA D Λ s9.2 H → va_S (dm Λ) s.heap H locs → lv_has ls 2 [(0, .ref a0), (1, .int s9.1)] → W p l e R s m args below meth c H locs 0 0 Q (F0 m 116 ls []) := by
  intro n9
  induction n9 with
  | zero => intro s9 h; cases h
  | succ n9 ih =>
    intro s9 h kx0 H locs ls hR hS hl
    obtain ⟨r, hr, h⟩ := of_iter h
    refine w_bd_X3_next_116 X hK hT hM a0 s9 k0 hr (fun z ez H locs ls hR hS hl => ?_) (fun z ez H locs ls hR hS hl => ?_) H locs ls hR hS hl
    · exact ih z (of_itl ez h) kx0 H locs ls hR hS hl
    · have he := of_itr ez h; subst he; exact kx0 H locs ls hR hS hl

set_option maxHeartbeats 4000000 in
set_option maxRecDepth 100000 in
theorem w_X3_next (X : Cx cX3_next (some .boolean) 2 RX3 wsX3_next p s m args meth c) (hK : Kn cA D s) (hT : TL Λ) (hM : 3 ≤ R.frames ∧ 80 ≤ R.locals) (a0 : Nat) (k0 : isK Λ a0 4) {res : Int32 × Sto} (h : F_X3_next Λ σ a0 = some res) (H : Heap) (locs : List Loc) (ls : Array Slot) (hR : Rep cA D Λ σ H) (hS : va_S (dm Λ) s.heap H locs) (hl : lv_has ls 2 [(0, .ref a0)]) : W p l e R s m args below meth c H locs 0 0 (MQ below (QZ cA D Λ res) args s 0 0 (dm Λ)) (F0 m 0 ls []) := by
  have hx := X.1
  have hb := X.2.1
  have hown := X.2.2.2.2.1
  have hts := X.2.2.2.2.2.1
  unfold F_X3_next at h
  refine lv_aload_n hx hb dX3_next_0 rfl (lv_at hl 0 rfl) ?_
  obtain ⟨q_1, hq_1, h⟩ := of_bind h
  refine cl_v (rn_V (As := []) (rest := []) X hK hR k0 rfl (by decide) hl.1 (c_X3_clearSpot l cA D Λ hT σ a0 k0 hq_1) (cwV 0 hts gX3_next_X3_clearSpot rfl rfl rfl (by decide +kernel) ⟨Nat.le_trans (by decide) hM.1, Nat.le_trans (by decide) hM.2⟩) rfl rfl (Nat.le_of_ble_eq_true rfl) dX3_next_1) hS (fun H locs hR hS => ?_)
  obtain ⟨e_7, hq_7, h⟩ := of_bind h
  refine w_lp_X3_next_4 X hK hT hM a0 k0 _ q_1 hq_7 (fun H locs ls hR hS hl => ?_) H locs ls hR hS (lv_sub hl [0] rfl)
  refine lv_aload_n hx hb dX3_next_48 rfl (lv_at hl 0 rfl) ?_
  refine rw_getI X hK hR 4 9 k0 (by decide) (C := RX3) (T := TX3) (N := 10) rfl (by decide) in_X3_next_4 (by decide +kernel) rfl dX3_next_49 ?_
  refine lv_aload_n hx hb dX3_next_52 rfl (lv_at hl 0 rfl) ?_
  refine rw_getR X hK hT hR 4 1 3 k0 (by decide) (C := RX3) (T := TX3) (N := 10) rfl (by decide) in_X3_next_4 (by decide +kernel) rfl dX3_next_53 (fun kf_8 => ?_)
  refine rw_getI X hK hR 3 1 kf_8 (by decide) (C := RX2) (T := TX2) (N := 3) rfl (by decide) in_X3_next_3 (by decide +kernel) rfl dX3_next_56 ?_
  refine lv_icmp_lt (tgt := 64) hx hb dX3_next_59 (by decide) (fun hc => ?_) (fun hc => ?_)
  · have h := of_pos hc h
    refine lv_aload_n hx hb dX3_next_64 rfl (lv_at hl 0 rfl) ?_
    refine lv_aload_n hx hb dX3_next_65 rfl (lv_at hl 0 rfl) ?_
    refine rw_getI X hK hR 4 9 k0 (by decide) (C := RX3) (T := TX3) (N := 10) rfl (by decide) in_X3_next_4 (by decide +kernel) rfl dX3_next_66 ?_
    refine rw_putI X hK hT hR hS 4 7 tyX3 k0 (by decide) (C := RX3) (T := TX3) (N := 10) rfl (by decide) in_X3_next_4 tyX3_ok nmX3 (by decide +kernel) rfl rfl (by decide +kernel) dX3_next_69 (fun σ_9 H locs e_9 hR hS => ?_)
    have h := of_nm e_9 h
    refine lv_aload_n hx hb dX3_next_72 rfl (lv_at hl 0 rfl) ?_
    refine lv_aload_n hx hb dX3_next_73 rfl (lv_at hl 0 rfl) ?_
    refine rw_getI X hK hR 4 9 k0 (by decide) (C := RX3) (T := TX3) (N := 10) rfl (by decide) in_X3_next_4 (by decide +kernel) rfl dX3_next_74 ?_
    refine rw_putI X hK hT hR hS 4 8 tyX3 k0 (by decide) (C := RX3) (T := TX3) (N := 10) rfl (by decide) in_X3_next_4 tyX3_ok nmX3 (by decide +kernel) rfl rfl (by decide +kernel) dX3_next_77 (fun σ_10 H locs e_10 hR hS => ?_)
    have h := of_nm e_10 h
    refine lv_aload_n hx hb dX3_next_80 rfl (lv_at hl 0 rfl) ?_
    refine lv_aload_n hx hb dX3_next_81 rfl (lv_at hl 0 rfl) ?_
    refine rw_getI X hK hR 4 9 k0 (by decide) (C := RX3) (T := TX3) (N := 10) rfl (by decide) in_X3_next_4 (by decide +kernel) rfl dX3_next_82 ?_
    refine lv_aload_n hx hb dX3_next_85 rfl (lv_at hl 0 rfl) ?_
    refine rw_getR X hK hT hR 4 1 3 k0 (by decide) (C := RX3) (T := TX3) (N := 10) rfl (by decide) in_X3_next_4 (by decide +kernel) rfl dX3_next_86 (fun kf_11 => ?_)
    refine rw_getR X hK hT hR 3 2 8 kf_11 (by decide) (C := RX2) (T := TX2) (N := 3) rfl (by decide) in_X3_next_3 (by decide +kernel) rfl dX3_next_89 (fun kf_12 => ?_)
    refine lv_aload_n hx hb dX3_next_92 rfl (lv_at hl 0 rfl) ?_
    refine rw_getI X hK hR 4 9 k0 (by decide) (C := RX3) (T := TX3) (N := 10) rfl (by decide) in_X3_next_4 (by decide +kernel) rfl dX3_next_93 ?_
    obtain ⟨hg_13, h⟩ := of_guard h
    refine rw_lald X hK hR kf_12 hg_13 dX3_next_96 ?_
    refine lv_aload_n hx hb dX3_next_97 rfl (lv_at hl 0 rfl) ?_
    refine rw_getR X hK hT hR 4 1 3 k0 (by decide) (C := RX3) (T := TX3) (N := 10) rfl (by decide) in_X3_next_4 (by decide +kernel) rfl dX3_next_98 (fun kf_14 => ?_)
    refine rw_getR X hK hT hR 3 2 8 kf_14 (by decide) (C := RX2) (T := TX2) (N := 3) rfl (by decide) in_X3_next_3 (by decide +kernel) rfl dX3_next_101 (fun kf_15 => ?_)
    refine lv_aload_n hx hb dX3_next_104 rfl (lv_at hl 0 rfl) ?_
    refine rw_getI X hK hR 4 9 k0 (by decide) (C := RX3) (T := TX3) (N := 10) rfl (by decide) in_X3_next_4 (by decide +kernel) rfl dX3_next_105 ?_
    obtain ⟨hg_16, h⟩ := of_guard h
    refine rw_lald X hK hR kf_15 hg_16 dX3_next_108 ?_
    refine lv_lneg hx hb dX3_next_109 ?_
    refine lv_land hx hb dX3_next_110 ?_
    obtain ⟨q_17, hq_17, h⟩ := of_bind h
    refine cl_v (rn_V (As := [.int (σ_10.1 a0 9), .long ((σ_10.2 (rfA Λ (rfA Λ a0 1) 2) (σ_10.1 a0 9).toNatClampNeg) &&& (-(σ_10.2 (rfA Λ (rfA Λ a0 1) 2) (σ_10.1 a0 9).toNatClampNeg)))]) (rest := []) X hK hR k0 rfl (by decide) hl.1 (c_X3_admit l cA D Λ hT σ_10 a0 (σ_10.1 a0 9) ((σ_10.2 (rfA Λ (rfA Λ a0 1) 2) (σ_10.1 a0 9).toNatClampNeg) &&& (-(σ_10.2 (rfA Λ (rfA Λ a0 1) 2) (σ_10.1 a0 9).toNatClampNeg))) k0 hq_17) (cwV 2 hts gX3_next_X3_admit rfl rfl rfl (by decide +kernel) ⟨Nat.le_trans (by decide) hM.1, Nat.le_trans (by decide) hM.2⟩) rfl rfl (Nat.le_of_ble_eq_true rfl) dX3_next_111) hS (fun H locs hR hS => ?_)
    refine lv_iconst (v := (0 : Int32)) hx hb dX3_next_114 (by decide) ?_
    refine lv_istore_n (lv' := [(1, .int (0 : Int32)), (0, .ref a0)]) hx hb dX3_next_115 rfl hl (by decide) rfl (fun ls hl => ?_)
    obtain ⟨e_21, hq_21, h⟩ := of_bind h
    refine w_lp_X3_next_116 X hK hT hM a0 k0 _ ((0 : Int32), q_17) hq_21 (fun H locs ls hR hS hl => ?_) H locs ls hR hS (lv_sub hl [1, 0] rfl)
    refine lv_iconst (v := (1 : Int32)) hx hb dX3_next_149 (by decide) ?_
    exact rt_z X hR hS (Option.some.inj h) (Or.inr rfl) dX3_next_150
  · have h := of_neg hc h
    refine lv_iconst (v := (0 : Int32)) hx hb dX3_next_62 (by decide) ?_
    exact rt_z X hR hS (Option.some.inj h) (Or.inl rfl) dX3_next_63

set_option maxHeartbeats 4000000 in
set_option maxRecDepth 100000 in
theorem c_X3_next (l : Launch) (cA : Nat → ClassId) (D : va_G) (Λ : Lay) (hT : TL Λ) (σ : Sto) (a0 : Nat) (k0 : isK Λ a0 4) {res : Int32 × Sto} (h : F_X3_next Λ σ a0 = some res) : Met l yX3_next wsX3_next { frames := 3, cells := 0, slots := 0, locals := 80 } (va_Pc [.ref a0] (PW cA D Λ σ)) (QZ cA D Λ res) 0 0 (dm Λ) := by
  refine Met.ofW (cc := cX3_next) (maxL := 2) (ret := (some .boolean)) (by decide) rfl ?_
  intro p e s m args below meth c s₁ B hml hv
  obtain ⟨rfl, hR, hK⟩ := hv
  have X : Cx cX3_next (some .boolean) 2 RX3 wsX3_next p s m _ meth c := ⟨B.exec, B.bytes, B.returns, hml, findClass_of_methodNamed B.named, atoms_spec (ws := wsX3_next) B.pre, B.notSynchronized⟩
  have hS : va_S (dm Λ) s.heap s.heap [] := va_S.rf
  have hl := lv_entry ([.ref a0]) (n := 2) (Nat.le_of_ble_eq_true rfl)
  rw [lg_entry_eq]
  generalize (lg_sl ([.ref a0]) ++ List.replicate (2 - (lg_sl ([.ref a0])).length) Slot.unset).toArray = ls at hl ⊢
  have hl : lv_has ls 2 [(0, .ref a0)] := hl
  exact w_X3_next X hK hT ⟨Nat.le_refl _, Nat.le_refl _⟩ a0 k0 h s.heap [] ls hR hS hl
set_option maxHeartbeats 4000000 in
set_option maxRecDepth 100000 in
theorem w_bd_X3_number_7 (X : Cx cX3_number (some .int) 3 RX3 wsX3_number p s m args meth c) (hK : Kn cA D s) (hT : TL Λ) (hM : 4 ≤ R.frames ∧ 101 ≤ R.locals) (a0 : Nat) (s9 : (Int32 × Sto)) (k0 : isK Λ a0 4) {r : (Int32 × Sto) ⊕ (Int32 × Sto)} (h : bd_X3_number_7 Λ a0 s9 = some r) (kb : ∀ z : (Int32 × Sto), r = .inl z → ∀ (H : Heap) (locs : List Loc) (ls : Array Slot), Rep cA D Λ z.2 H → va_S (dm Λ) s.heap H locs → lv_has ls 3 [(0, .ref a0), (2, .int z.1)] → W p l e R s m args below meth c H locs 0 0 Q (F0 m 7 ls [])) (kx0 : ∀ z : (Int32 × Sto), r = .inr z → ∀ (H : Heap) (locs : List Loc) (ls : Array Slot), Rep cA D Λ z.2 H → va_S (dm Λ) s.heap H locs → lv_has ls 3 [(2, .int z.1)] → W p l e R s m args below meth c H locs 0 0 Q (F0 m 27 ls [])) (H : Heap) (locs : List Loc) (ls : Array Slot) (hR : Rep cA D Λ s9.2 H) (hS : va_S (dm Λ) s.heap H locs) (hl : lv_has ls 3 [(0, .ref a0), (2, .int s9.1)]) : W p l e R s m args below meth c H locs 0 0 Q (F0 m 7 ls []) := by
  have hx := X.1
  have hb := X.2.1
  have hown := X.2.2.2.2.1
  have hts := X.2.2.2.2.2.1
  unfold bd_X3_number_7 at h
  refine lv_iload_n hx hb dX3_number_7 rfl (lv_at hl 1 rfl) ?_
  refine lv_sipush (v := (4096 : Int32)) hx hb dX3_number_8 (by decide) ?_
  refine lv_icmp_ge (tgt := 27) hx hb dX3_number_11 (by decide) (fun hc => ?_) (fun hc => ?_)
  · have h := of_pos hc h
    exact kx0 (s9.1, s9.2) (Option.some.inj h).symm H locs ls hR hS (lv_sub hl [1] rfl)
  · have h := of_neg hc h
    refine lv_aload_n hx hb dX3_number_14 rfl (lv_at hl 0 rfl) ?_
    obtain ⟨q_2, hq_2, h⟩ := of_bind h
    refine cl_z (rn_V (As := []) (rest := []) X hK hR k0 rfl (by decide) hl.1 (c_X3_next l cA D Λ hT s9.2 a0 k0 hq_2) (cwV 0 hts gX3_number_X3_next rfl rfl rfl (by decide +kernel) ⟨Nat.le_trans (by decide) hM.1, Nat.le_trans (by decide) hM.2⟩) rfl rfl (Nat.le_of_ble_eq_true rfl) dX3_number_15) hS (fun hz_2 H locs hR hS => ?_)
    refine lv_if_eq (tgt := 27) hx hb dX3_number_18 (by decide) (fun hc => ?_) (fun hc => ?_)
    · have h := of_pos hc h
      exact kx0 (s9.1, q_2.2) (Option.some.inj h).symm H locs ls hR hS (lv_sub hl [1] rfl)
    · have h := of_neg hc h
      obtain ⟨v_3, e_v_3⟩ : ∃ y : Int32, y = (s9.1 + (1 : Int32)) := ⟨_, rfl⟩
      have h := of_nm e_v_3 h
      refine lv_iinc (v := v_3) (lv' := [(2, .int v_3), (0, .ref a0)]) hx hb dX3_number_21 hl (k := 1) rfl (by rw [e_v_3]; rfl) (by decide) rfl (fun ls hl => ?_)
      refine lv_goto (tgt := 7) hx hb dX3_number_24 (by decide) ?_
      exact kb (v_3, q_2.2) (Option.some.inj h).symm H locs ls hR hS (lv_sub hl [1, 0] rfl)

set_option maxHeartbeats 4000000 in
set_option maxRecDepth 100000 in
theorem w_lp_X3_number_7 (X : Cx cX3_number (some .int) 3 RX3 wsX3_number p s m args meth c) (hK : Kn cA D s) (hT : TL Λ) (hM : 4 ≤ R.frames ∧ 101 ≤ R.locals) (a0 : Nat) (k0 : isK Λ a0 4) {e9 : (Int32 × Sto)} : ∀ (n9 : Nat) (s9 : (Int32 × Sto)), iter (bd_X3_number_7 Λ a0) n9 s9 = some e9 → ∀ (kx0 : ∀ (H : Heap) (locs : List Loc) (ls : Array Slot), Rep cA D Λ e9.2 H → va_S (dm Λ) s.heap H locs → lv_has ls 3 [(2, .int e9.1)] → W p l e R s m args below meth c H locs 0 0 Q (F0 m 27 ls [])), ∀ (H : Heap) (locs : List Loc) (ls : Array Slot), Rep cA D Λ s9.2 H → va_S (dm Λ) s.heap H locs → lv_has ls 3 [(0, .ref a0), (2, .int s9.1)] → W p l e R s m args below meth c H locs 0 0 Q (F0 m 7 ls []) := by
  intro n9
  induction n9 with
  | zero => intro s9 h; cases h
  | succ n9 ih =>
    intro s9 h kx0 H locs ls hR hS hl
    obtain ⟨r, hr, h⟩ := of_iter h
    refine w_bd_X3_number_7 X hK hT hM a0 s9 k0 hr (fun z ez H locs ls hR hS hl => ?_) (fun z ez H locs ls hR hS hl => ?_) H locs ls hR hS hl
    · exact ih z (of_itl ez h) kx0 H locs ls hR hS hl
    · have he := of_itr ez h; subst he; exact kx0 H locs ls hR hS hl

set_option maxHeartbeats 4000000 in
set_option maxRecDepth 100000 in
theorem w_X3_number (X : Cx cX3_number (some .int) 3 RX3 wsX3_number p s m args meth c) (hK : Kn cA D s) (hT : TL Λ) (hM : 4 ≤ R.frames ∧ 101 ≤ R.locals) (a0 : Nat) (a1 : Nat) (k0 : isK Λ a0 4) (k1 : isK Λ a1 3) {res : Int32 × Sto} (h : F_X3_number Λ σ a0 a1 = some res) (H : Heap) (locs : List Loc) (ls : Array Slot) (hR : Rep cA D Λ σ H) (hS : va_S (dm Λ) s.heap H locs) (hl : lv_has ls 3 [(0, .ref a0), (1, .ref a1)]) : W p l e R s m args below meth c H locs 0 0 (MQ below (QI cA D Λ res) args s 0 0 (dm Λ)) (F0 m 0 ls []) := by
  have hx := X.1
  have hb := X.2.1
  have hown := X.2.2.2.2.1
  have hts := X.2.2.2.2.2.1
  unfold F_X3_number at h
  refine lv_aload_n hx hb dX3_number_0 rfl (lv_at hl 0 rfl) ?_
  refine lv_aload_n hx hb dX3_number_1 rfl (lv_at hl 1 rfl) ?_
  obtain ⟨q_1, hq_1, h⟩ := of_bind h
  refine cl_v (rn_V (As := [.ref a1]) (rest := []) X hK hR k0 rfl (by decide) hl.1 (c_X3_begin l cA D Λ hT σ a0 a1 k0 k1 hq_1) (cwV 1 hts gX3_number_X3_begin rfl rfl rfl (by decide +kernel) ⟨Nat.le_trans (by decide) hM.1, Nat.le_trans (by decide) hM.2⟩) rfl rfl (Nat.le_of_ble_eq_true rfl) dX3_number_2) hS (fun H locs hR hS => ?_)
  refine lv_iconst (v := (0 : Int32)) hx hb dX3_number_5 (by decide) ?_
  refine lv_istore_n (lv' := [(2, .int (0 : Int32)), (0, .ref a0), (1, .ref a1)]) hx hb dX3_number_6 rfl hl (by decide) rfl (fun ls hl => ?_)
  obtain ⟨e_4, hq_4, h⟩ := of_bind h
  refine w_lp_X3_number_7 X hK hT hM a0 k0 _ ((0 : Int32), q_1) hq_4 (fun H locs ls hR hS hl => ?_) H locs ls hR hS (lv_sub hl [1, 0] rfl)
  refine lv_iload_n hx hb dX3_number_27 rfl (lv_at hl 0 rfl) ?_
  exact rt_i X hR hS (Option.some.inj h) dX3_number_28

set_option maxHeartbeats 4000000 in
set_option maxRecDepth 100000 in
theorem c_X3_number (l : Launch) (cA : Nat → ClassId) (D : va_G) (Λ : Lay) (hT : TL Λ) (σ : Sto) (a0 : Nat) (a1 : Nat) (k0 : isK Λ a0 4) (k1 : isK Λ a1 3) {res : Int32 × Sto} (h : F_X3_number Λ σ a0 a1 = some res) : Met l yX3_number wsX3_number { frames := 4, cells := 0, slots := 0, locals := 101 } (va_Pc [.ref a0, .ref a1] (PW cA D Λ σ)) (QI cA D Λ res) 0 0 (dm Λ) := by
  refine Met.ofW (cc := cX3_number) (maxL := 3) (ret := (some .int)) (by decide) rfl ?_
  intro p e s m args below meth c s₁ B hml hv
  obtain ⟨rfl, hR, hK⟩ := hv
  have X : Cx cX3_number (some .int) 3 RX3 wsX3_number p s m _ meth c := ⟨B.exec, B.bytes, B.returns, hml, findClass_of_methodNamed B.named, atoms_spec (ws := wsX3_number) B.pre, B.notSynchronized⟩
  have hS : va_S (dm Λ) s.heap s.heap [] := va_S.rf
  have hl := lv_entry ([.ref a0, .ref a1]) (n := 3) (Nat.le_of_ble_eq_true rfl)
  rw [lg_entry_eq]
  generalize (lg_sl ([.ref a0, .ref a1]) ++ List.replicate (3 - (lg_sl ([.ref a0, .ref a1])).length) Slot.unset).toArray = ls at hl ⊢
  have hl : lv_has ls 3 [(0, .ref a0), (1, .ref a1)] := hl
  exact w_X3_number X hK hT ⟨Nat.le_refl _, Nat.le_refl _⟩ a0 a1 k0 k1 h s.heap [] ls hR hS hl
theorem in_X3_largest_4 : ∀ w ∈ u_ws RX3 TX3 10, w ∈ wsX3_largest := by decide +kernel
set_option maxHeartbeats 4000000 in
set_option maxRecDepth 100000 in
theorem w_bd_X3_largest_9 (X : Cx cX3_largest (some .int) 4 RX3 wsX3_largest p s m args meth c) (hK : Kn cA D s) (hT : TL Λ) (hM : 4 ≤ R.frames ∧ 101 ≤ R.locals) (a0 : Nat) (s9 : (Int32 × Int32 × Sto)) (k0 : isK Λ a0 4) {r : (Int32 × Int32 × Sto) ⊕ (Int32 × Sto)} (h : bd_X3_largest_9 Λ a0 s9 = some r) (kb : ∀ z : (Int32 × Int32 × Sto), r = .inl z → ∀ (H : Heap) (locs : List Loc) (ls : Array Slot), Rep cA D Λ z.2.2 H → va_S (dm Λ) s.heap H locs → lv_has ls 4 [(0, .ref a0), (2, .int z.1), (3, .int z.2.1)] → W p l e R s m args below meth c H locs 0 0 Q (F0 m 9 ls [])) (kx0 : ∀ z : (Int32 × Sto), r = .inr z → ∀ (H : Heap) (locs : List Loc) (ls : Array Slot), Rep cA D Λ z.2 H → va_S (dm Λ) s.heap H locs → lv_has ls 4 [(2, .int z.1)] → W p l e R s m args below meth c H locs 0 0 Q (F0 m 38 ls [])) (H : Heap) (locs : List Loc) (ls : Array Slot) (hR : Rep cA D Λ s9.2.2 H) (hS : va_S (dm Λ) s.heap H locs) (hl : lv_has ls 4 [(0, .ref a0), (2, .int s9.1), (3, .int s9.2.1)]) : W p l e R s m args below meth c H locs 0 0 Q (F0 m 9 ls []) := by
  have hx := X.1
  have hb := X.2.1
  have hown := X.2.2.2.2.1
  have hts := X.2.2.2.2.2.1
  unfold bd_X3_largest_9 at h
  refine lv_iload_n hx hb dX3_largest_9 rfl (lv_at hl 2 rfl) ?_
  refine lv_sipush (v := (4096 : Int32)) hx hb dX3_largest_10 (by decide) ?_
  refine lv_icmp_ge (tgt := 38) hx hb dX3_largest_13 (by decide) (fun hc => ?_) (fun hc => ?_)
  · have h := of_pos hc h
    exact kx0 (s9.1, s9.2.2) (Option.some.inj h).symm H locs ls hR hS (lv_sub hl [1] rfl)
  · have h := of_neg hc h
    refine lv_aload_n hx hb dX3_largest_16 rfl (lv_at hl 0 rfl) ?_
    obtain ⟨q_2, hq_2, h⟩ := of_bind h
    refine cl_z (rn_V (As := []) (rest := []) X hK hR k0 rfl (by decide) hl.1 (c_X3_next l cA D Λ hT s9.2.2 a0 k0 hq_2) (cwV 0 hts gX3_largest_X3_next rfl rfl rfl (by decide +kernel) ⟨Nat.le_trans (by decide) hM.1, Nat.le_trans (by decide) hM.2⟩) rfl rfl (Nat.le_of_ble_eq_true rfl) dX3_largest_17) hS (fun hz_2 H locs hR hS => ?_)
    refine lv_if_eq (tgt := 38) hx hb dX3_largest_20 (by decide) (fun hc => ?_) (fun hc => ?_)
    · have h := of_pos hc h
      exact kx0 (s9.1, q_2.2) (Option.some.inj h).symm H locs ls hR hS (lv_sub hl [1] rfl)
    · have h := of_neg hc h
      refine lv_iload_n hx hb dX3_largest_23 rfl (lv_at hl 1 rfl) ?_
      refine lv_aload_n hx hb dX3_largest_24 rfl (lv_at hl 0 rfl) ?_
      refine rw_getI X hK hR 4 6 k0 (by decide) (C := RX3) (T := TX3) (N := 10) rfl (by decide) in_X3_largest_4 (by decide +kernel) rfl dX3_largest_25 ?_
      refine va_mmax hx hb (X.2.2.2.1.trans hl.1.symm) hown (hts (.methodLink RX3 58 Lib.Math.max.name) (by decide +kernel)) (hts (.static Lib.Math.max.name) (by decide +kernel)) (hts (.initialized "java/lang/Math") (by decide +kernel)) (hts (.code Lib.Math.max.name Lib.Math.max.code 2 (some .int)) (by decide +kernel)) (Nat.le_trans (by decide) hM.1) (Nat.le_trans (Nat.le_of_ble_eq_true rfl) hM.2) (Nat.zero_le _) (Nat.zero_le _) dX3_largest_28 ?_
      refine lv_topi (fun r_3 e_3 => ?_)
      have h := of_nm e_3 h
      refine lv_istore_n (lv' := [(2, .int r_3), (0, .ref a0), (3, .int s9.2.1)]) hx hb dX3_largest_31 rfl hl (by decide) rfl (fun ls hl => ?_)
      obtain ⟨v_4, e_v_4⟩ : ∃ y : Int32, y = (s9.2.1 + (1 : Int32)) := ⟨_, rfl⟩
      have h := of_nm e_v_4 h
      refine lv_iinc (v := v_4) (lv' := [(3, .int v_4), (2, .int r_3), (0, .ref a0)]) hx hb dX3_largest_32 hl (k := 2) rfl (by rw [e_v_4]; rfl) (by decide) rfl (fun ls hl => ?_)
      refine lv_goto (tgt := 9) hx hb dX3_largest_35 (by decide) ?_
      exact kb (r_3, v_4, q_2.2) (Option.some.inj h).symm H locs ls hR hS (lv_sub hl [2, 1, 0] rfl)

set_option maxHeartbeats 4000000 in
set_option maxRecDepth 100000 in
theorem w_lp_X3_largest_9 (X : Cx cX3_largest (some .int) 4 RX3 wsX3_largest p s m args meth c) (hK : Kn cA D s) (hT : TL Λ) (hM : 4 ≤ R.frames ∧ 101 ≤ R.locals) (a0 : Nat) (k0 : isK Λ a0 4) {e9 : (Int32 × Sto)} : ∀ (n9 : Nat) (s9 : (Int32 × Int32 × Sto)), iter (bd_X3_largest_9 Λ a0) n9 s9 = some e9 → ∀ (kx0 : ∀ (H : Heap) (locs : List Loc) (ls : Array Slot), Rep cA D Λ e9.2 H → va_S (dm Λ) s.heap H locs → lv_has ls 4 [(2, .int e9.1)] → W p l e R s m args below meth c H locs 0 0 Q (F0 m 38 ls [])), ∀ (H : Heap) (locs : List Loc) (ls : Array Slot), Rep cA D Λ s9.2.2 H → va_S (dm Λ) s.heap H locs → lv_has ls 4 [(0, .ref a0), (2, .int s9.1), (3, .int s9.2.1)] → W p l e R s m args below meth c H locs 0 0 Q (F0 m 9 ls []) := by
  intro n9
  induction n9 with
  | zero => intro s9 h; cases h
  | succ n9 ih =>
    intro s9 h kx0 H locs ls hR hS hl
    obtain ⟨r, hr, h⟩ := of_iter h
    refine w_bd_X3_largest_9 X hK hT hM a0 s9 k0 hr (fun z ez H locs ls hR hS hl => ?_) (fun z ez H locs ls hR hS hl => ?_) H locs ls hR hS hl
    · exact ih z (of_itl ez h) kx0 H locs ls hR hS hl
    · have he := of_itr ez h; subst he; exact kx0 H locs ls hR hS hl

set_option maxHeartbeats 4000000 in
set_option maxRecDepth 100000 in
theorem w_X3_largest (X : Cx cX3_largest (some .int) 4 RX3 wsX3_largest p s m args meth c) (hK : Kn cA D s) (hT : TL Λ) (hM : 4 ≤ R.frames ∧ 101 ≤ R.locals) (a0 : Nat) (a1 : Nat) (k0 : isK Λ a0 4) (k1 : isK Λ a1 3) {res : Int32 × Sto} (h : F_X3_largest Λ σ a0 a1 = some res) (H : Heap) (locs : List Loc) (ls : Array Slot) (hR : Rep cA D Λ σ H) (hS : va_S (dm Λ) s.heap H locs) (hl : lv_has ls 4 [(0, .ref a0), (1, .ref a1)]) : W p l e R s m args below meth c H locs 0 0 (MQ below (QI cA D Λ res) args s 0 0 (dm Λ)) (F0 m 0 ls []) := by
  have hx := X.1
  have hb := X.2.1
  have hown := X.2.2.2.2.1
  have hts := X.2.2.2.2.2.1
  unfold F_X3_largest at h
  refine lv_aload_n hx hb dX3_largest_0 rfl (lv_at hl 0 rfl) ?_
  refine lv_aload_n hx hb dX3_largest_1 rfl (lv_at hl 1 rfl) ?_
  obtain ⟨q_1, hq_1, h⟩ := of_bind h
  refine cl_v (rn_V (As := [.ref a1]) (rest := []) X hK hR k0 rfl (by decide) hl.1 (c_X3_begin l cA D Λ hT σ a0 a1 k0 k1 hq_1) (cwV 1 hts gX3_largest_X3_begin rfl rfl rfl (by decide +kernel) ⟨Nat.le_trans (by decide) hM.1, Nat.le_trans (by decide) hM.2⟩) rfl rfl (Nat.le_of_ble_eq_true rfl) dX3_largest_2) hS (fun H locs hR hS => ?_)
  refine lv_iconst (v := (0 : Int32)) hx hb dX3_largest_5 (by decide) ?_
  refine lv_istore_n (lv' := [(2, .int (0 : Int32)), (0, .ref a0), (1, .ref a1)]) hx hb dX3_largest_6 rfl hl (by decide) rfl (fun ls hl => ?_)
  refine lv_iconst (v := (0 : Int32)) hx hb dX3_largest_7 (by decide) ?_
  refine lv_istore_n (lv' := [(3, .int (0 : Int32)), (2, .int (0 : Int32)), (0, .ref a0), (1, .ref a1)]) hx hb dX3_largest_8 rfl hl (by decide) rfl (fun ls hl => ?_)
  obtain ⟨e_5, hq_5, h⟩ := of_bind h
  refine w_lp_X3_largest_9 X hK hT hM a0 k0 _ ((0 : Int32), (0 : Int32), q_1) hq_5 (fun H locs ls hR hS hl => ?_) H locs ls hR hS (lv_sub hl [2, 1, 0] rfl)
  refine lv_iload_n hx hb dX3_largest_38 rfl (lv_at hl 0 rfl) ?_
  exact rt_i X hR hS (Option.some.inj h) dX3_largest_39

set_option maxHeartbeats 4000000 in
set_option maxRecDepth 100000 in
theorem c_X3_largest (l : Launch) (cA : Nat → ClassId) (D : va_G) (Λ : Lay) (hT : TL Λ) (σ : Sto) (a0 : Nat) (a1 : Nat) (k0 : isK Λ a0 4) (k1 : isK Λ a1 3) {res : Int32 × Sto} (h : F_X3_largest Λ σ a0 a1 = some res) : Met l yX3_largest wsX3_largest { frames := 4, cells := 0, slots := 0, locals := 101 } (va_Pc [.ref a0, .ref a1] (PW cA D Λ σ)) (QI cA D Λ res) 0 0 (dm Λ) := by
  refine Met.ofW (cc := cX3_largest) (maxL := 4) (ret := (some .int)) (by decide) rfl ?_
  intro p e s m args below meth c s₁ B hml hv
  obtain ⟨rfl, hR, hK⟩ := hv
  have X : Cx cX3_largest (some .int) 4 RX3 wsX3_largest p s m _ meth c := ⟨B.exec, B.bytes, B.returns, hml, findClass_of_methodNamed B.named, atoms_spec (ws := wsX3_largest) B.pre, B.notSynchronized⟩
  have hS : va_S (dm Λ) s.heap s.heap [] := va_S.rf
  have hl := lv_entry ([.ref a0, .ref a1]) (n := 4) (Nat.le_of_ble_eq_true rfl)
  rw [lg_entry_eq]
  generalize (lg_sl ([.ref a0, .ref a1]) ++ List.replicate (4 - (lg_sl ([.ref a0, .ref a1])).length) Slot.unset).toArray = ls at hl ⊢
  have hl : lv_has ls 4 [(0, .ref a0), (1, .ref a1)] := hl
  exact w_X3_largest X hK hT ⟨Nat.le_refl _, Nat.le_refl _⟩ a0 a1 k0 k1 h s.heap [] ls hR hS hl
theorem in_X3_addSpotTo_3 : ∀ w ∈ u_ws RX2 TX2 3, w ∈ wsX3_addSpotTo := by decide +kernel
theorem in_X3_addSpotTo_4 : ∀ w ∈ u_ws RX3 TX3 10, w ∈ wsX3_addSpotTo := by decide +kernel
set_option maxHeartbeats 4000000 in
set_option maxRecDepth 100000 in
theorem w_bd_X3_addSpotTo_5 (X : Cx cX3_addSpotTo none 3 RX3 wsX3_addSpotTo p s m args meth c) (hK : Kn cA D s) (hT : TL Λ) (hM : 0 ≤ R.frames ∧ 0 ≤ R.locals) (a0 : Nat) (a1 : Nat) (s9 : (Int32 × Sto)) (k0 : isK Λ a0 4) (k1 : isK Λ a1 3) {r : (Int32 × Sto) ⊕ Sto} (h : bd_X3_addSpotTo_5 Λ a0 a1 s9 = some r) (kb : ∀ z : (Int32 × Sto), r = .inl z → ∀ (H : Heap) (locs : List Loc) (ls : Array Slot), Rep cA D Λ z.2 H → va_S (dm Λ) s.heap H locs → lv_has ls 3 [(0, .ref a0), (1, .ref a1), (2, .int z.1)] → W p l e R s m args below meth c H locs 0 0 Q (F0 m 5 ls [])) (kx0 : ∀ z : Sto, r = .inr z → ∀ (H : Heap) (locs : List Loc) (ls : Array Slot), Rep cA D Λ z H → va_S (dm Λ) s.heap H locs → lv_has ls 3 [] → W p l e R s m args below meth c H locs 0 0 Q (F0 m 37 ls [])) (H : Heap) (locs : List Loc) (ls : Array Slot) (hR : Rep cA D Λ s9.2 H) (hS : va_S (dm Λ) s.heap H locs) (hl : lv_has ls 3 [(0, .ref a0), (1, .ref a1), (2, .int s9.1)]) : W p l e R s m args below meth c H locs 0 0 Q (F0 m 5 ls []) := by
  have hx := X.1
  have hb := X.2.1
  have hown := X.2.2.2.2.1
  have hts := X.2.2.2.2.2.1
  unfold bd_X3_addSpotTo_5 at h
  refine lv_iload_n hx hb dX3_addSpotTo_5 rfl (lv_at hl 2 rfl) ?_
  refine lv_aload_n hx hb dX3_addSpotTo_6 rfl (lv_at hl 0 rfl) ?_
  refine rw_getI X hK hR 4 8 k0 (by decide) (C := RX3) (T := TX3) (N := 10) rfl (by decide) in_X3_addSpotTo_4 (by decide +kernel) rfl dX3_addSpotTo_7 ?_
  refine lv_icmp_gt (tgt := 37) hx hb dX3_addSpotTo_10 (by decide) (fun hc => ?_) (fun hc => ?_)
  · have h := of_pos hc h
    exact kx0 s9.2 (Option.some.inj h).symm H locs ls hR hS (lv_sub hl [] rfl)
  · have h := of_neg hc h
    refine lv_aload_n hx hb dX3_addSpotTo_13 rfl (lv_at hl 1 rfl) ?_
    refine rw_getR X hK hT hR 3 2 8 k1 (by decide) (C := RX2) (T := TX2) (N := 3) rfl (by decide) in_X3_addSpotTo_3 (by decide +kernel) rfl dX3_addSpotTo_14 (fun kf_2 => ?_)
    refine lv_iload_n hx hb dX3_addSpotTo_17 rfl (lv_at hl 2 rfl) ?_
    refine lv_dup2_11 hx hb dX3_addSpotTo_18 rfl rfl ?_
    obtain ⟨hg_3, h⟩ := of_guard h
    refine rw_lald X hK hR kf_2 hg_3 dX3_addSpotTo_19 ?_
    refine lv_aload_n hx hb dX3_addSpotTo_20 rfl (lv_at hl 0 rfl) ?_
    refine rw_getR X hK hT hR 4 2 3 k0 (by decide) (C := RX3) (T := TX3) (N := 10) rfl (by decide) in_X3_addSpotTo_4 (by decide +kernel) rfl dX3_addSpotTo_21 (fun kf_4 => ?_)
    refine rw_getR X hK hT hR 3 2 8 kf_4 (by decide) (C := RX2) (T := TX2) (N := 3) rfl (by decide) in_X3_addSpotTo_3 (by decide +kernel) rfl dX3_addSpotTo_24 (fun kf_5 => ?_)
    refine lv_iload_n hx hb dX3_addSpotTo_27 rfl (lv_at hl 2 rfl) ?_
    obtain ⟨hg_6, h⟩ := of_guard h
    refine rw_lald X hK hR kf_5 hg_6 dX3_addSpotTo_28 ?_
    refine lv_lor hx hb dX3_addSpotTo_29 ?_
    obtain ⟨hg_7, h⟩ := of_guard h
    refine rw_last X hK hT hR hS kf_2 hg_7 dX3_addSpotTo_30 (fun σ_7 H locs e_7 hR hS => ?_)
    have h := of_nm e_7 h
    obtain ⟨v_8, e_v_8⟩ : ∃ y : Int32, y = (s9.1 + (1 : Int32)) := ⟨_, rfl⟩
    have h := of_nm e_v_8 h
    refine lv_iinc (v := v_8) (lv' := [(2, .int v_8), (0, .ref a0), (1, .ref a1)]) hx hb dX3_addSpotTo_31 hl (k := 2) rfl (by rw [e_v_8]; rfl) (by decide) rfl (fun ls hl => ?_)
    refine lv_goto (tgt := 5) hx hb dX3_addSpotTo_34 (by decide) ?_
    exact kb (v_8, σ_7) (Option.some.inj h).symm H locs ls hR hS (lv_sub hl [1, 2, 0] rfl)

set_option maxHeartbeats 4000000 in
set_option maxRecDepth 100000 in
theorem w_lp_X3_addSpotTo_5 (X : Cx cX3_addSpotTo none 3 RX3 wsX3_addSpotTo p s m args meth c) (hK : Kn cA D s) (hT : TL Λ) (hM : 0 ≤ R.frames ∧ 0 ≤ R.locals) (a0 : Nat) (a1 : Nat) (k0 : isK Λ a0 4) (k1 : isK Λ a1 3) {e9 : Sto} : ∀ (n9 : Nat) (s9 : (Int32 × Sto)), iter (bd_X3_addSpotTo_5 Λ a0 a1) n9 s9 = some e9 → ∀ (kx0 : ∀ (H : Heap) (locs : List Loc) (ls : Array Slot), Rep cA D Λ e9 H → va_S (dm Λ) s.heap H locs → lv_has ls 3 [] → W p l e R s m args below meth c H locs 0 0 Q (F0 m 37 ls [])), ∀ (H : Heap) (locs : List Loc) (ls : Array Slot), Rep cA D Λ s9.2 H → va_S (dm Λ) s.heap H locs → lv_has ls 3 [(0, .ref a0), (1, .ref a1), (2, .int s9.1)] → W p l e R s m args below meth c H locs 0 0 Q (F0 m 5 ls []) := by
  intro n9
  induction n9 with
  | zero => intro s9 h; cases h
  | succ n9 ih =>
    intro s9 h kx0 H locs ls hR hS hl
    obtain ⟨r, hr, h⟩ := of_iter h
    refine w_bd_X3_addSpotTo_5 X hK hT hM a0 a1 s9 k0 k1 hr (fun z ez H locs ls hR hS hl => ?_) (fun z ez H locs ls hR hS hl => ?_) H locs ls hR hS hl
    · exact ih z (of_itl ez h) kx0 H locs ls hR hS hl
    · have he := of_itr ez h; subst he; exact kx0 H locs ls hR hS hl

set_option maxHeartbeats 4000000 in
set_option maxRecDepth 100000 in
theorem w_X3_addSpotTo (X : Cx cX3_addSpotTo none 3 RX3 wsX3_addSpotTo p s m args meth c) (hK : Kn cA D s) (hT : TL Λ) (hM : 0 ≤ R.frames ∧ 0 ≤ R.locals) (a0 : Nat) (a1 : Nat) (k0 : isK Λ a0 4) (k1 : isK Λ a1 3) {res : Sto} (h : F_X3_addSpotTo Λ σ a0 a1 = some res) (H : Heap) (locs : List Loc) (ls : Array Slot) (hR : Rep cA D Λ σ H) (hS : va_S (dm Λ) s.heap H locs) (hl : lv_has ls 3 [(0, .ref a0), (1, .ref a1)]) : W p l e R s m args below meth c H locs 0 0 (MQ below (QV cA D Λ res) args s 0 0 (dm Λ)) (F0 m 0 ls []) := by
  have hx := X.1
  have hb := X.2.1
  have hown := X.2.2.2.2.1
  have hts := X.2.2.2.2.2.1
  unfold F_X3_addSpotTo at h
  refine lv_aload_n hx hb dX3_addSpotTo_0 rfl (lv_at hl 0 rfl) ?_
  refine rw_getI X hK hR 4 7 k0 (by decide) (C := RX3) (T := TX3) (N := 10) rfl (by decide) in_X3_addSpotTo_4 (by decide +kernel) rfl dX3_addSpotTo_1 ?_
  refine lv_topi (fun v_1 e_v_1 => ?_)
  have h := of_nm e_v_1 h
  refine lv_istore_n (lv' := [(2, .int v_1), (0, .ref a0), (1, .ref a1)]) hx hb dX3_addSpotTo_4 rfl hl (by decide) rfl (fun ls hl => ?_)
  obtain ⟨e_9, hq_9, h⟩ := of_bind h
  refine w_lp_X3_addSpotTo_5 X hK hT hM a0 a1 k0 k1 _ (v_1, σ) hq_9 (fun H locs ls hR hS hl => ?_) H locs ls hR hS (lv_sub hl [1, 2, 0] rfl)
  exact rt_v X hR hS (Option.some.inj h) dX3_addSpotTo_37

set_option maxHeartbeats 4000000 in
set_option maxRecDepth 100000 in
theorem c_X3_addSpotTo (l : Launch) (cA : Nat → ClassId) (D : va_G) (Λ : Lay) (hT : TL Λ) (σ : Sto) (a0 : Nat) (a1 : Nat) (k0 : isK Λ a0 4) (k1 : isK Λ a1 3) {res : Sto} (h : F_X3_addSpotTo Λ σ a0 a1 = some res) : Met l yX3_addSpotTo wsX3_addSpotTo { frames := 0, cells := 0, slots := 0, locals := 0 } (va_Pc [.ref a0, .ref a1] (PW cA D Λ σ)) (QV cA D Λ res) 0 0 (dm Λ) := by
  refine Met.ofW (cc := cX3_addSpotTo) (maxL := 3) (ret := none) (by decide) rfl ?_
  intro p e s m args below meth c s₁ B hml hv
  obtain ⟨rfl, hR, hK⟩ := hv
  have X : Cx cX3_addSpotTo none 3 RX3 wsX3_addSpotTo p s m _ meth c := ⟨B.exec, B.bytes, B.returns, hml, findClass_of_methodNamed B.named, atoms_spec (ws := wsX3_addSpotTo) B.pre, B.notSynchronized⟩
  have hS : va_S (dm Λ) s.heap s.heap [] := va_S.rf
  have hl := lv_entry ([.ref a0, .ref a1]) (n := 3) (Nat.le_of_ble_eq_true rfl)
  rw [lg_entry_eq]
  generalize (lg_sl ([.ref a0, .ref a1]) ++ List.replicate (3 - (lg_sl ([.ref a0, .ref a1])).length) Slot.unset).toArray = ls at hl ⊢
  have hl : lv_has ls 3 [(0, .ref a0), (1, .ref a1)] := hl
  exact w_X3_addSpotTo X hK hT ⟨Nat.le_refl _, Nat.le_refl _⟩ a0 a1 k0 k1 h s.heap [] ls hR hS hl
theorem in_X3_widenNear_3 : ∀ w ∈ u_ws RX2 TX2 3, w ∈ wsX3_widenNear := by decide +kernel
theorem in_X3_widenNear_4 : ∀ w ∈ u_ws RX3 TX3 10, w ∈ wsX3_widenNear := by decide +kernel
set_option maxHeartbeats 4000000 in
set_option maxRecDepth 100000 in
theorem w_jp_X3_widenNear_54 (X : Cx cX3_widenNear none 8 RX3 wsX3_widenNear p s m args meth c) (hK : Kn cA D s) (hT : TL Λ) (hM : 1 ≤ R.frames ∧ 21 ≤ R.locals) (a0 : Nat) (l1 : Int64) (l3 : Int32) (l4 : Int64) (ls0 : Int64) (k0 : isK Λ a0 4) {r : (Int64 × Int32 × Sto) ⊕ Sto} (h : jp_X3_widenNear_54 Λ σ a0 l1 l3 l4 ls0 = some r) (kb : ∀ z : (Int64 × Int32 × Sto), r = .inl z → ∀ (H : Heap) (locs : List Loc) (ls : Array Slot), Rep cA D Λ z.2.2 H → va_S (dm Λ) s.heap H locs → lv_has ls 8 [(0, .ref a0), (1, .long z.1), (3, .int z.2.1)] → W p l e R s m args below meth c H locs 0 0 Q (F0 m 4 ls [])) (kx0 : ∀ z : Sto, r = .inr z → ∀ (H : Heap) (locs : List Loc) (ls : Array Slot), Rep cA D Λ z H → va_S (dm Λ) s.heap H locs → lv_has ls 8 [] → W p l e R s m args below meth c H locs 0 0 Q (F0 m 92 ls [])) (H : Heap) (locs : List Loc) (ls : Array Slot) (hR : Rep cA D Λ σ H) (hS : va_S (dm Λ) s.heap H locs) (hl : lv_has ls 8 [(0, .ref a0), (1, .long l1), (3, .int l3), (4, .long l4)]) : W p l e R s m args below meth c H locs 0 0 Q (F0 m 54 ls [.long ls0]) := by
  have hx := X.1
  have hb := X.2.1
  have hown := X.2.2.2.2.1
  have hts := X.2.2.2.2.2.1
  unfold jp_X3_widenNear_54 at h
  refine lv_lstore (lv' := [(6, .long ls0), (0, .ref a0), (1, .long l1), (3, .int l3), (4, .long l4)]) hx hb dX3_widenNear_54 hl (by decide) rfl (fun ls hl => ?_)
  refine lv_aload_n hx hb dX3_widenNear_56 rfl (lv_at hl 1 rfl) ?_
  refine rw_getR X hK hT hR 4 3 3 k0 (by decide) (C := RX3) (T := TX3) (N := 10) rfl (by decide) in_X3_widenNear_4 (by decide +kernel) rfl dX3_widenNear_57 (fun kf_7 => ?_)
  refine rw_getR X hK hT hR 3 2 8 kf_7 (by decide) (C := RX2) (T := TX2) (N := 3) rfl (by decide) in_X3_widenNear_3 (by decide +kernel) rfl dX3_widenNear_60 (fun kf_8 => ?_)
  refine lv_iload_n hx hb dX3_widenNear_63 rfl (lv_at hl 3 rfl) ?_
  refine lv_lload_n hx hb dX3_widenNear_64 rfl (lv_at hl 2 rfl) ?_
  refine lv_lload hx hb dX3_widenNear_65 (lv_at hl 4 rfl) ?_
  refine lv_lor hx hb dX3_widenNear_67 ?_
  refine lv_lload hx hb dX3_widenNear_68 (lv_at hl 0 rfl) ?_
  refine lv_lor hx hb dX3_widenNear_70 ?_
  refine cl_l (rn_S (As := [.long ((l1 ||| l4) ||| ls0)]) (rest := [.int l3, .ref (rfA Λ (rfA Λ a0 3) 2)]) X hK hR hl.1 (c_X3_widened l cA D Λ hT σ ((l1 ||| l4) ||| ls0)) (va_cwS 1 hts gX3_widenNear_X3_widened rfl rfl rfl (by decide +kernel) ⟨Nat.le_trans (by decide) hM.1, Nat.le_trans (by decide) hM.2⟩) rfl rfl (Nat.le_of_ble_eq_true rfl) dX3_widenNear_71) hS (fun H locs hR hS => ?_)
  refine lv_topl (fun r_9 e_9 => ?_)
  have h := of_nm e_9 h
  refine lv_aload_n hx hb dX3_widenNear_74 rfl (lv_at hl 1 rfl) ?_
  refine rw_getR X hK hT hR 4 3 3 k0 (by decide) (C := RX3) (T := TX3) (N := 10) rfl (by decide) in_X3_widenNear_4 (by decide +kernel) rfl dX3_widenNear_75 (fun kf_10 => ?_)
  refine cl_l (rn_V (As := []) (rest := [.long r_9, .int l3, .ref (rfA Λ (rfA Λ a0 3) 2)]) X hK hR kf_10 rfl (by decide) hl.1 (c_X2_allColumns l cA D Λ hT σ (rfA Λ a0 3) kf_10) (cwV 0 hts gX3_widenNear_X2_allColumns rfl rfl rfl (by decide +kernel) ⟨Nat.le_trans (by decide) hM.1, Nat.le_trans (by decide) hM.2⟩) rfl rfl (Nat.le_of_ble_eq_true rfl) dX3_widenNear_78) hS (fun H locs hR hS => ?_)
  refine lv_topl (fun r_11 e_11 => ?_)
  have h := of_nm e_11 h
  refine lv_land hx hb dX3_widenNear_81 ?_
  obtain ⟨hg_12, h⟩ := of_guard h
  refine rw_last X hK hT hR hS kf_8 hg_12 dX3_widenNear_82 (fun σ_12 H locs e_12 hR hS => ?_)
  have h := of_nm e_12 h
  refine lv_lload hx hb dX3_widenNear_83 (lv_at hl 4 rfl) ?_
  refine lv_lstore_n (lv' := [(1, .long l4), (6, .long ls0), (0, .ref a0), (3, .int l3), (4, .long l4)]) hx hb dX3_widenNear_85 rfl hl (by decide) rfl (fun ls hl => ?_)
  obtain ⟨v_13, e_v_13⟩ : ∃ y : Int32, y = (l3 + (1 : Int32)) := ⟨_, rfl⟩
  have h := of_nm e_v_13 h
  refine lv_iinc (v := v_13) (lv' := [(3, .int v_13), (1, .long l4), (6, .long ls0), (0, .ref a0), (4, .long l4)]) hx hb dX3_widenNear_86 hl (k := 3) rfl (by rw [e_v_13]; rfl) (by decide) rfl (fun ls hl => ?_)
  refine lv_goto (tgt := 4) hx hb dX3_widenNear_89 (by decide) ?_
  exact kb (l4, v_13, σ_12) (Option.some.inj h).symm H locs ls hR hS (lv_sub hl [3, 1, 0] rfl)

set_option maxHeartbeats 4000000 in
set_option maxRecDepth 100000 in
theorem w_bd_X3_widenNear_4 (X : Cx cX3_widenNear none 8 RX3 wsX3_widenNear p s m args meth c) (hK : Kn cA D s) (hT : TL Λ) (hM : 1 ≤ R.frames ∧ 21 ≤ R.locals) (a0 : Nat) (s9 : (Int64 × Int32 × Sto)) (k0 : isK Λ a0 4) {r : (Int64 × Int32 × Sto) ⊕ Sto} (h : bd_X3_widenNear_4 Λ a0 s9 = some r) (kb : ∀ z : (Int64 × Int32 × Sto), r = .inl z → ∀ (H : Heap) (locs : List Loc) (ls : Array Slot), Rep cA D Λ z.2.2 H → va_S (dm Λ) s.heap H locs → lv_has ls 8 [(0, .ref a0), (1, .long z.1), (3, .int z.2.1)] → W p l e R s m args below meth c H locs 0 0 Q (F0 m 4 ls [])) (kx0 : ∀ z : Sto, r = .inr z → ∀ (H : Heap) (locs : List Loc) (ls : Array Slot), Rep cA D Λ z H → va_S (dm Λ) s.heap H locs → lv_has ls 8 [] → W p l e R s m args below meth c H locs 0 0 Q (F0 m 92 ls [])) (H : Heap) (locs : List Loc) (ls : Array Slot) (hR : Rep cA D Λ s9.2.2 H) (hS : va_S (dm Λ) s.heap H locs) (hl : lv_has ls 8 [(0, .ref a0), (1, .long s9.1), (3, .int s9.2.1)]) : W p l e R s m args below meth c H locs 0 0 Q (F0 m 4 ls []) := by
  have hx := X.1
  have hb := X.2.1
  have hown := X.2.2.2.2.1
  have hts := X.2.2.2.2.2.1
  unfold bd_X3_widenNear_4 at h
  refine lv_iload_n hx hb dX3_widenNear_4 rfl (lv_at hl 2 rfl) ?_
  refine lv_aload_n hx hb dX3_widenNear_5 rfl (lv_at hl 0 rfl) ?_
  refine rw_getR X hK hT hR 4 3 3 k0 (by decide) (C := RX3) (T := TX3) (N := 10) rfl (by decide) in_X3_widenNear_4 (by decide +kernel) rfl dX3_widenNear_6 (fun kf_1 => ?_)
  refine rw_getI X hK hR 3 1 kf_1 (by decide) (C := RX2) (T := TX2) (N := 3) rfl (by decide) in_X3_widenNear_3 (by decide +kernel) rfl dX3_widenNear_9 ?_
  refine lv_icmp_ge (tgt := 92) hx hb dX3_widenNear_12 (by decide) (fun hc => ?_) (fun hc => ?_)
  · have h := of_pos hc h
    exact kx0 s9.2.2 (Option.some.inj h).symm H locs ls hR hS (lv_sub hl [] rfl)
  · have h := of_neg hc h
    refine lv_aload_n hx hb dX3_widenNear_15 rfl (lv_at hl 0 rfl) ?_
    refine rw_getR X hK hT hR 4 3 3 k0 (by decide) (C := RX3) (T := TX3) (N := 10) rfl (by decide) in_X3_widenNear_4 (by decide +kernel) rfl dX3_widenNear_16 (fun kf_2 => ?_)
    refine rw_getR X hK hT hR 3 2 8 kf_2 (by decide) (C := RX2) (T := TX2) (N := 3) rfl (by decide) in_X3_widenNear_3 (by decide +kernel) rfl dX3_widenNear_19 (fun kf_3 => ?_)
    refine lv_iload_n hx hb dX3_widenNear_22 rfl (lv_at hl 2 rfl) ?_
    obtain ⟨hg_4, h⟩ := of_guard h
    refine rw_lald X hK hR kf_3 hg_4 dX3_widenNear_23 ?_
    refine lv_topl (fun v_5 e_v_5 => ?_)
    have h := of_nm e_v_5 h
    refine lv_lstore (lv' := [(4, .long v_5), (0, .ref a0), (1, .long s9.1), (3, .int s9.2.1)]) hx hb dX3_widenNear_24 hl (by decide) rfl (fun ls hl => ?_)
    refine lv_iload_n hx hb dX3_widenNear_26 rfl (lv_at hl 3 rfl) ?_
    refine lv_iconst (v := (1 : Int32)) hx hb dX3_widenNear_27 (by decide) ?_
    refine lv_iadd hx hb dX3_widenNear_28 ?_
    refine lv_aload_n hx hb dX3_widenNear_29 rfl (lv_at hl 1 rfl) ?_
    refine rw_getR X hK hT hR 4 3 3 k0 (by decide) (C := RX3) (T := TX3) (N := 10) rfl (by decide) in_X3_widenNear_4 (by decide +kernel) rfl dX3_widenNear_30 (fun kf_6 => ?_)
    refine rw_getI X hK hR 3 1 kf_6 (by decide) (C := RX2) (T := TX2) (N := 3) rfl (by decide) in_X3_widenNear_3 (by decide +kernel) rfl dX3_widenNear_33 ?_
    refine lv_icmp_ge (tgt := 53) hx hb dX3_widenNear_36 (by decide) (fun hc => ?_) (fun hc => ?_)
    · have h := of_pos hc h
      refine lv_lconst (v := (0 : Int64)) hx hb dX3_widenNear_53 (by decide) ?_
      exact w_jp_X3_widenNear_54 X hK hT hM a0 s9.1 s9.2.1 v_5 (0 : Int64) k0 h kb kx0 H locs ls hR hS (lv_sub hl [1, 2, 3, 0] rfl)
    · have h := of_neg hc h
      refine lv_aload_n hx hb dX3_widenNear_39 rfl (lv_at hl 1 rfl) ?_
      refine rw_getR X hK hT hR 4 3 3 k0 (by decide) (C := RX3) (T := TX3) (N := 10) rfl (by decide) in_X3_widenNear_4 (by decide +kernel) rfl dX3_widenNear_40 (fun kf_14 => ?_)
      refine rw_getR X hK hT hR 3 2 8 kf_14 (by decide) (C := RX2) (T := TX2) (N := 3) rfl (by decide) in_X3_widenNear_3 (by decide +kernel) rfl dX3_widenNear_43 (fun kf_15 => ?_)
      refine lv_iload_n hx hb dX3_widenNear_46 rfl (lv_at hl 3 rfl) ?_
      refine lv_iconst (v := (1 : Int32)) hx hb dX3_widenNear_47 (by decide) ?_
      refine lv_iadd hx hb dX3_widenNear_48 ?_
      obtain ⟨hg_16, h⟩ := of_guard h
      refine rw_lald X hK hR kf_15 hg_16 dX3_widenNear_49 ?_
      refine lv_goto (tgt := 54) hx hb dX3_widenNear_50 (by decide) ?_
      exact w_jp_X3_widenNear_54 X hK hT hM a0 s9.1 s9.2.1 v_5 (s9.2.2.2 (rfA Λ (rfA Λ a0 3) 2) (s9.2.1 + (1 : Int32)).toNatClampNeg) k0 h kb kx0 H locs ls hR hS (lv_sub hl [1, 2, 3, 0] rfl)

set_option maxHeartbeats 4000000 in
set_option maxRecDepth 100000 in
theorem w_lp_X3_widenNear_4 (X : Cx cX3_widenNear none 8 RX3 wsX3_widenNear p s m args meth c) (hK : Kn cA D s) (hT : TL Λ) (hM : 1 ≤ R.frames ∧ 21 ≤ R.locals) (a0 : Nat) (k0 : isK Λ a0 4) {e9 : Sto} : ∀ (n9 : Nat) (s9 : (Int64 × Int32 × Sto)), iter (bd_X3_widenNear_4 Λ a0) n9 s9 = some e9 → ∀ (kx0 : ∀ (H : Heap) (locs : List Loc) (ls : Array Slot), Rep cA D Λ e9 H → va_S (dm Λ) s.heap H locs → lv_has ls 8 [] → W p l e R s m args below meth c H locs 0 0 Q (F0 m 92 ls [])), ∀ (H : Heap) (locs : List Loc) (ls : Array Slot), Rep cA D Λ s9.2.2 H → va_S (dm Λ) s.heap H locs → lv_has ls 8 [(0, .ref a0), (1, .long s9.1), (3, .int s9.2.1)] → W p l e R s m args below meth c H locs 0 0 Q (F0 m 4 ls []) := by
  intro n9
  induction n9 with
  | zero => intro s9 h; cases h
  | succ n9 ih =>
    intro s9 h kx0 H locs ls hR hS hl
    obtain ⟨r, hr, h⟩ := of_iter h
    refine w_bd_X3_widenNear_4 X hK hT hM a0 s9 k0 hr (fun z ez H locs ls hR hS hl => ?_) (fun z ez H locs ls hR hS hl => ?_) H locs ls hR hS hl
    · exact ih z (of_itl ez h) kx0 H locs ls hR hS hl
    · have he := of_itr ez h; subst he; exact kx0 H locs ls hR hS hl

set_option maxHeartbeats 4000000 in
set_option maxRecDepth 100000 in
theorem w_X3_widenNear (X : Cx cX3_widenNear none 8 RX3 wsX3_widenNear p s m args meth c) (hK : Kn cA D s) (hT : TL Λ) (hM : 1 ≤ R.frames ∧ 21 ≤ R.locals) (a0 : Nat) (k0 : isK Λ a0 4) {res : Sto} (h : F_X3_widenNear Λ σ a0 = some res) (H : Heap) (locs : List Loc) (ls : Array Slot) (hR : Rep cA D Λ σ H) (hS : va_S (dm Λ) s.heap H locs) (hl : lv_has ls 8 [(0, .ref a0)]) : W p l e R s m args below meth c H locs 0 0 (MQ below (QV cA D Λ res) args s 0 0 (dm Λ)) (F0 m 0 ls []) := by
  have hx := X.1
  have hb := X.2.1
  have hown := X.2.2.2.2.1
  have hts := X.2.2.2.2.2.1
  unfold F_X3_widenNear at h
  refine lv_lconst (v := (0 : Int64)) hx hb dX3_widenNear_0 (by decide) ?_
  refine lv_lstore_n (lv' := [(1, .long (0 : Int64)), (0, .ref a0)]) hx hb dX3_widenNear_1 rfl hl (by decide) rfl (fun ls hl => ?_)
  refine lv_iconst (v := (0 : Int32)) hx hb dX3_widenNear_2 (by decide) ?_
  refine lv_istore_n (lv' := [(3, .int (0 : Int32)), (1, .long (0 : Int64)), (0, .ref a0)]) hx hb dX3_widenNear_3 rfl hl (by decide) rfl (fun ls hl => ?_)
  obtain ⟨e_17, hq_17, h⟩ := of_bind h
  refine w_lp_X3_widenNear_4 X hK hT hM a0 k0 _ ((0 : Int64), (0 : Int32), σ) hq_17 (fun H locs ls hR hS hl => ?_) H locs ls hR hS (lv_sub hl [2, 1, 0] rfl)
  exact rt_v X hR hS (Option.some.inj h) dX3_widenNear_92

set_option maxHeartbeats 4000000 in
set_option maxRecDepth 100000 in
theorem c_X3_widenNear (l : Launch) (cA : Nat → ClassId) (D : va_G) (Λ : Lay) (hT : TL Λ) (σ : Sto) (a0 : Nat) (k0 : isK Λ a0 4) {res : Sto} (h : F_X3_widenNear Λ σ a0 = some res) : Met l yX3_widenNear wsX3_widenNear { frames := 1, cells := 0, slots := 0, locals := 21 } (va_Pc [.ref a0] (PW cA D Λ σ)) (QV cA D Λ res) 0 0 (dm Λ) := by
  refine Met.ofW (cc := cX3_widenNear) (maxL := 8) (ret := none) (by decide) rfl ?_
  intro p e s m args below meth c s₁ B hml hv
  obtain ⟨rfl, hR, hK⟩ := hv
  have X : Cx cX3_widenNear none 8 RX3 wsX3_widenNear p s m _ meth c := ⟨B.exec, B.bytes, B.returns, hml, findClass_of_methodNamed B.named, atoms_spec (ws := wsX3_widenNear) B.pre, B.notSynchronized⟩
  have hS : va_S (dm Λ) s.heap s.heap [] := va_S.rf
  have hl := lv_entry ([.ref a0]) (n := 8) (Nat.le_of_ble_eq_true rfl)
  rw [lg_entry_eq]
  generalize (lg_sl ([.ref a0]) ++ List.replicate (8 - (lg_sl ([.ref a0])).length) Slot.unset).toArray = ls at hl ⊢
  have hl : lv_has ls 8 [(0, .ref a0)] := hl
  exact w_X3_widenNear X hK hT ⟨Nat.le_refl _, Nat.le_refl _⟩ a0 k0 h s.heap [] ls hR hS hl
theorem in_X3_markNearLarge_3 : ∀ w ∈ u_ws RX2 TX2 3, w ∈ wsX3_markNearLarge := by decide +kernel
theorem in_X3_markNearLarge_4 : ∀ w ∈ u_ws RX3 TX3 10, w ∈ wsX3_markNearLarge := by decide +kernel
set_option maxHeartbeats 4000000 in
set_option maxRecDepth 100000 in
theorem w_jp_X3_markNearLarge_54 (X : Cx cX3_markNearLarge none 5 RX3 wsX3_markNearLarge p s m args meth c) (hK : Kn cA D s) (hT : TL Λ) (hM : 4 ≤ R.frames ∧ 101 ≤ R.locals) (a0 : Nat) (l2 : Int32) (l3 : Int32) (l4 : Int32)  (k0 : isK Λ a0 4) {r : (Int32 × Sto) ⊕ Sto} (h : jp_X3_markNearLarge_54 Λ σ a0 l2 l3 l4 = some r) (kb : ∀ z : (Int32 × Sto), r = .inl z → ∀ (H : Heap) (locs : List Loc) (ls : Array Slot), Rep cA D Λ z.2 H → va_S (dm Λ) s.heap H locs → lv_has ls 5 [(0, .ref a0), (2, .int l2), (3, .int l3), (4, .int z.1)] → W p l e R s m args below meth c H locs 0 0 Q (F0 m 23 ls [])) (kx0 : ∀ z : Sto, r = .inr z → ∀ (H : Heap) (locs : List Loc) (ls : Array Slot), Rep cA D Λ z H → va_S (dm Λ) s.heap H locs → lv_has ls 5 [(0, .ref a0), (3, .int l3)] → W p l e R s m args below meth c H locs 0 0 Q (F0 m 60 ls [])) (H : Heap) (locs : List Loc) (ls : Array Slot) (hR : Rep cA D Λ σ H) (hS : va_S (dm Λ) s.heap H locs) (hl : lv_has ls 5 [(0, .ref a0), (2, .int l2), (3, .int l3), (4, .int l4)]) : W p l e R s m args below meth c H locs 0 0 Q (F0 m 54 ls []) := by
  have hx := X.1
  have hb := X.2.1
  have hown := X.2.2.2.2.1
  have hts := X.2.2.2.2.2.1
  unfold jp_X3_markNearLarge_54 at h
  obtain ⟨v_5, e_v_5⟩ : ∃ y : Int32, y = (l4 + (1 : Int32)) := ⟨_, rfl⟩
  have h := of_nm e_v_5 h
  refine lv_iinc (v := v_5) (lv' := [(4, .int v_5), (0, .ref a0), (2, .int l2), (3, .int l3)]) hx hb dX3_markNearLarge_54 hl (k := 3) rfl (by rw [e_v_5]; rfl) (by decide) rfl (fun ls hl => ?_)
  refine lv_goto (tgt := 23) hx hb dX3_markNearLarge_57 (by decide) ?_
  exact kb (v_5, σ) (Option.some.inj h).symm H locs ls hR hS (lv_sub hl [1, 2, 3, 0] rfl)

set_option maxHeartbeats 4000000 in
set_option maxRecDepth 100000 in
theorem w_bd_X3_markNearLarge_23 (X : Cx cX3_markNearLarge none 5 RX3 wsX3_markNearLarge p s m args meth c) (hK : Kn cA D s) (hT : TL Λ) (hM : 4 ≤ R.frames ∧ 101 ≤ R.locals) (a0 : Nat) (l2 : Int32) (l3 : Int32) (s9 : (Int32 × Sto)) (k0 : isK Λ a0 4) {r : (Int32 × Sto) ⊕ Sto} (h : bd_X3_markNearLarge_23 Λ a0 l2 l3 s9 = some r) (kb : ∀ z : (Int32 × Sto), r = .inl z → ∀ (H : Heap) (locs : List Loc) (ls : Array Slot), Rep cA D Λ z.2 H → va_S (dm Λ) s.heap H locs → lv_has ls 5 [(0, .ref a0), (2, .int l2), (3, .int l3), (4, .int z.1)] → W p l e R s m args below meth c H locs 0 0 Q (F0 m 23 ls [])) (kx0 : ∀ z : Sto, r = .inr z → ∀ (H : Heap) (locs : List Loc) (ls : Array Slot), Rep cA D Λ z H → va_S (dm Λ) s.heap H locs → lv_has ls 5 [(0, .ref a0), (3, .int l3)] → W p l e R s m args below meth c H locs 0 0 Q (F0 m 60 ls [])) (H : Heap) (locs : List Loc) (ls : Array Slot) (hR : Rep cA D Λ s9.2 H) (hS : va_S (dm Λ) s.heap H locs) (hl : lv_has ls 5 [(0, .ref a0), (2, .int l2), (3, .int l3), (4, .int s9.1)]) : W p l e R s m args below meth c H locs 0 0 Q (F0 m 23 ls []) := by
  have hx := X.1
  have hb := X.2.1
  have hown := X.2.2.2.2.1
  have hts := X.2.2.2.2.2.1
  unfold bd_X3_markNearLarge_23 at h
  refine lv_iload hx hb dX3_markNearLarge_23 (lv_at hl 3 rfl) ?_
  refine lv_sipush (v := (4096 : Int32)) hx hb dX3_markNearLarge_25 (by decide) ?_
  refine lv_icmp_ge (tgt := 60) hx hb dX3_markNearLarge_28 (by decide) (fun hc => ?_) (fun hc => ?_)
  · have h := of_pos hc h
    exact kx0 s9.2 (Option.some.inj h).symm H locs ls hR hS (lv_sub hl [0, 2] rfl)
  · have h := of_neg hc h
    refine lv_aload_n hx hb dX3_markNearLarge_31 rfl (lv_at hl 0 rfl) ?_
    obtain ⟨q_4, hq_4, h⟩ := of_bind h
    refine cl_z (rn_V (As := []) (rest := []) X hK hR k0 rfl (by decide) hl.1 (c_X3_next l cA D Λ hT s9.2 a0 k0 hq_4) (cwV 0 hts gX3_markNearLarge_X3_next rfl rfl rfl (by decide +kernel) ⟨Nat.le_trans (by decide) hM.1, Nat.le_trans (by decide) hM.2⟩) rfl rfl (Nat.le_of_ble_eq_true rfl) dX3_markNearLarge_32) hS (fun hz_4 H locs hR hS => ?_)
    refine lv_if_eq (tgt := 60) hx hb dX3_markNearLarge_35 (by decide) (fun hc => ?_) (fun hc => ?_)
    · have h := of_pos hc h
      exact kx0 q_4.2 (Option.some.inj h).symm H locs ls hR hS (lv_sub hl [0, 2] rfl)
    · have h := of_neg hc h
      refine lv_aload_n hx hb dX3_markNearLarge_38 rfl (lv_at hl 0 rfl) ?_
      refine rw_getI X hK hR 4 6 k0 (by decide) (C := RX3) (T := TX3) (N := 10) rfl (by decide) in_X3_markNearLarge_4 (by decide +kernel) rfl dX3_markNearLarge_39 ?_
      refine lv_iload_n hx hb dX3_markNearLarge_42 rfl (lv_at hl 1 rfl) ?_
      refine lv_icmp_le (tgt := 54) hx hb dX3_markNearLarge_43 (by decide) (fun hc => ?_) (fun hc => ?_)
      · have h := of_pos hc h
        exact w_jp_X3_markNearLarge_54 X hK hT hM a0 l2 l3 s9.1 k0 h kb kx0 H locs ls hR hS (lv_sub hl [0, 1, 2, 3] rfl)
      · have h := of_neg hc h
        refine lv_aload_n hx hb dX3_markNearLarge_46 rfl (lv_at hl 0 rfl) ?_
        refine lv_aload_n hx hb dX3_markNearLarge_47 rfl (lv_at hl 0 rfl) ?_
        refine rw_getR X hK hT hR 4 3 3 k0 (by decide) (C := RX3) (T := TX3) (N := 10) rfl (by decide) in_X3_markNearLarge_4 (by decide +kernel) rfl dX3_markNearLarge_48 (fun kf_6 => ?_)
        obtain ⟨q_7, hq_7, h⟩ := of_bind h
        refine cl_v (rn_V (As := [.ref (rfA Λ a0 3)]) (rest := []) X hK hR k0 rfl (by decide) hl.1 (c_X3_addSpotTo l cA D Λ hT q_4.2 a0 (rfA Λ a0 3) k0 kf_6 hq_7) (cwV 1 hts gX3_markNearLarge_X3_addSpotTo rfl rfl rfl (by decide +kernel) ⟨Nat.le_trans (by decide) hM.1, Nat.le_trans (by decide) hM.2⟩) rfl rfl (Nat.le_of_ble_eq_true rfl) dX3_markNearLarge_51) hS (fun H locs hR hS => ?_)
        exact w_jp_X3_markNearLarge_54 X hK hT hM a0 l2 l3 s9.1 k0 h kb kx0 H locs ls hR hS (lv_sub hl [0, 1, 2, 3] rfl)

set_option maxHeartbeats 4000000 in
set_option maxRecDepth 100000 in
theorem w_lp_X3_markNearLarge_23 (X : Cx cX3_markNearLarge none 5 RX3 wsX3_markNearLarge p s m args meth c) (hK : Kn cA D s) (hT : TL Λ) (hM : 4 ≤ R.frames ∧ 101 ≤ R.locals) (a0 : Nat) (l2 : Int32) (l3 : Int32) (k0 : isK Λ a0 4) {e9 : Sto} : ∀ (n9 : Nat) (s9 : (Int32 × Sto)), iter (bd_X3_markNearLarge_23 Λ a0 l2 l3) n9 s9 = some e9 → ∀ (kx0 : ∀ (H : Heap) (locs : List Loc) (ls : Array Slot), Rep cA D Λ e9 H → va_S (dm Λ) s.heap H locs → lv_has ls 5 [(0, .ref a0), (3, .int l3)] → W p l e R s m args below meth c H locs 0 0 Q (F0 m 60 ls [])), ∀ (H : Heap) (locs : List Loc) (ls : Array Slot), Rep cA D Λ s9.2 H → va_S (dm Λ) s.heap H locs → lv_has ls 5 [(0, .ref a0), (2, .int l2), (3, .int l3), (4, .int s9.1)] → W p l e R s m args below meth c H locs 0 0 Q (F0 m 23 ls []) := by
  intro n9
  induction n9 with
  | zero => intro s9 h; cases h
  | succ n9 ih =>
    intro s9 h kx0 H locs ls hR hS hl
    obtain ⟨r, hr, h⟩ := of_iter h
    refine w_bd_X3_markNearLarge_23 X hK hT hM a0 l2 l3 s9 k0 hr (fun z ez H locs ls hR hS hl => ?_) (fun z ez H locs ls hR hS hl => ?_) H locs ls hR hS hl
    · exact ih z (of_itl ez h) kx0 H locs ls hR hS hl
    · have he := of_itr ez h; subst he; exact kx0 H locs ls hR hS hl

set_option maxHeartbeats 4000000 in
set_option maxRecDepth 100000 in
theorem w_bd_X3_markNearLarge_63 (X : Cx cX3_markNearLarge none 5 RX3 wsX3_markNearLarge p s m args meth c) (hK : Kn cA D s) (hT : TL Λ) (hM : 4 ≤ R.frames ∧ 101 ≤ R.locals) (a0 : Nat) (l3 : Int32) (s9 : (Int32 × Sto)) (k0 : isK Λ a0 4) {r : (Int32 × Sto) ⊕ Sto} (h : bd_X3_markNearLarge_63 Λ a0 l3 s9 = some r) (kb : ∀ z : (Int32 × Sto), r = .inl z → ∀ (H : Heap) (locs : List Loc) (ls : Array Slot), Rep cA D Λ z.2 H → va_S (dm Λ) s.heap H locs → lv_has ls 5 [(0, .ref a0), (3, .int l3), (4, .int z.1)] → W p l e R s m args below meth c H locs 0 0 Q (F0 m 63 ls [])) (kx0 : ∀ z : Sto, r = .inr z → ∀ (H : Heap) (locs : List Loc) (ls : Array Slot), Rep cA D Λ z H → va_S (dm Λ) s.heap H locs → lv_has ls 5 [] → W p l e R s m args below meth c H locs 0 0 Q (F0 m 79 ls [])) (H : Heap) (locs : List Loc) (ls : Array Slot) (hR : Rep cA D Λ s9.2 H) (hS : va_S (dm Λ) s.heap H locs) (hl : lv_has ls 5 [(0, .ref a0), (3, .int l3), (4, .int s9.1)]) : W p l e R s m args below meth c H locs 0 0 Q (F0 m 63 ls []) := by
  have hx := X.1
  have hb := X.2.1
  have hown := X.2.2.2.2.1
  have hts := X.2.2.2.2.2.1
  unfold bd_X3_markNearLarge_63 at h
  refine lv_iload hx hb dX3_markNearLarge_63 (lv_at hl 2 rfl) ?_
  refine lv_iload_n hx hb dX3_markNearLarge_65 rfl (lv_at hl 1 rfl) ?_
  refine lv_icmp_ge (tgt := 79) hx hb dX3_markNearLarge_66 (by decide) (fun hc => ?_) (fun hc => ?_)
  · have h := of_pos hc h
    exact kx0 s9.2 (Option.some.inj h).symm H locs ls hR hS (lv_sub hl [] rfl)
  · have h := of_neg hc h
    refine lv_aload_n hx hb dX3_markNearLarge_69 rfl (lv_at hl 0 rfl) ?_
    obtain ⟨q_9, hq_9, h⟩ := of_bind h
    refine cl_v (rn_V (As := []) (rest := []) X hK hR k0 rfl (by decide) hl.1 (c_X3_widenNear l cA D Λ hT s9.2 a0 k0 hq_9) (cwV 0 hts gX3_markNearLarge_X3_widenNear rfl rfl rfl (by decide +kernel) ⟨Nat.le_trans (by decide) hM.1, Nat.le_trans (by decide) hM.2⟩) rfl rfl (Nat.le_of_ble_eq_true rfl) dX3_markNearLarge_70) hS (fun H locs hR hS => ?_)
    obtain ⟨v_10, e_v_10⟩ : ∃ y : Int32, y = (s9.1 + (1 : Int32)) := ⟨_, rfl⟩
    have h := of_nm e_v_10 h
    refine lv_iinc (v := v_10) (lv' := [(4, .int v_10), (0, .ref a0), (3, .int l3)]) hx hb dX3_markNearLarge_73 hl (k := 2) rfl (by rw [e_v_10]; rfl) (by decide) rfl (fun ls hl => ?_)
    refine lv_goto (tgt := 63) hx hb dX3_markNearLarge_76 (by decide) ?_
    exact kb (v_10, q_9) (Option.some.inj h).symm H locs ls hR hS (lv_sub hl [1, 2, 0] rfl)

set_option maxHeartbeats 4000000 in
set_option maxRecDepth 100000 in
theorem w_lp_X3_markNearLarge_63 (X : Cx cX3_markNearLarge none 5 RX3 wsX3_markNearLarge p s m args meth c) (hK : Kn cA D s) (hT : TL Λ) (hM : 4 ≤ R.frames ∧ 101 ≤ R.locals) (a0 : Nat) (l3 : Int32) (k0 : isK Λ a0 4) {e9 : Sto} : ∀ (n9 : Nat) (s9 : (Int32 × Sto)), iter (bd_X3_markNearLarge_63 Λ a0 l3) n9 s9 = some e9 → ∀ (kx0 : ∀ (H : Heap) (locs : List Loc) (ls : Array Slot), Rep cA D Λ e9 H → va_S (dm Λ) s.heap H locs → lv_has ls 5 [] → W p l e R s m args below meth c H locs 0 0 Q (F0 m 79 ls [])), ∀ (H : Heap) (locs : List Loc) (ls : Array Slot), Rep cA D Λ s9.2 H → va_S (dm Λ) s.heap H locs → lv_has ls 5 [(0, .ref a0), (3, .int l3), (4, .int s9.1)] → W p l e R s m args below meth c H locs 0 0 Q (F0 m 63 ls []) := by
  intro n9
  induction n9 with
  | zero => intro s9 h; cases h
  | succ n9 ih =>
    intro s9 h kx0 H locs ls hR hS hl
    obtain ⟨r, hr, h⟩ := of_iter h
    refine w_bd_X3_markNearLarge_63 X hK hT hM a0 l3 s9 k0 hr (fun z ez H locs ls hR hS hl => ?_) (fun z ez H locs ls hR hS hl => ?_) H locs ls hR hS hl
    · exact ih z (of_itl ez h) kx0 H locs ls hR hS hl
    · have he := of_itr ez h; subst he; exact kx0 H locs ls hR hS hl

set_option maxHeartbeats 4000000 in
set_option maxRecDepth 100000 in
theorem w_X3_markNearLarge (X : Cx cX3_markNearLarge none 5 RX3 wsX3_markNearLarge p s m args meth c) (hK : Kn cA D s) (hT : TL Λ) (hM : 4 ≤ R.frames ∧ 101 ≤ R.locals) (a0 : Nat) (a1 : Nat) (l2 : Int32) (l3 : Int32) (k0 : isK Λ a0 4) (k1 : isK Λ a1 3) {res : Sto} (h : F_X3_markNearLarge Λ σ a0 a1 l2 l3 = some res) (H : Heap) (locs : List Loc) (ls : Array Slot) (hR : Rep cA D Λ σ H) (hS : va_S (dm Λ) s.heap H locs) (hl : lv_has ls 5 [(0, .ref a0), (1, .ref a1), (2, .int l2), (3, .int l3)]) : W p l e R s m args below meth c H locs 0 0 (MQ below (QV cA D Λ res) args s 0 0 (dm Λ)) (F0 m 0 ls []) := by
  have hx := X.1
  have hb := X.2.1
  have hown := X.2.2.2.2.1
  have hts := X.2.2.2.2.2.1
  unfold F_X3_markNearLarge at h
  refine lv_aload_n hx hb dX3_markNearLarge_0 rfl (lv_at hl 0 rfl) ?_
  refine rw_getR X hK hT hR 4 3 3 k0 (by decide) (C := RX3) (T := TX3) (N := 10) rfl (by decide) in_X3_markNearLarge_4 (by decide +kernel) rfl dX3_markNearLarge_1 (fun kf_1 => ?_)
  refine lv_aload_n hx hb dX3_markNearLarge_4 rfl (lv_at hl 1 rfl) ?_
  refine rw_getI X hK hR 3 0 k1 (by decide) (C := RX2) (T := TX2) (N := 3) rfl (by decide) in_X3_markNearLarge_3 (by decide +kernel) rfl dX3_markNearLarge_5 ?_
  refine lv_aload_n hx hb dX3_markNearLarge_8 rfl (lv_at hl 1 rfl) ?_
  refine rw_getI X hK hR 3 1 k1 (by decide) (C := RX2) (T := TX2) (N := 3) rfl (by decide) in_X3_markNearLarge_3 (by decide +kernel) rfl dX3_markNearLarge_9 ?_
  obtain ⟨q_2, hq_2, h⟩ := of_bind h
  refine cl_v (rn_V (As := [.int (σ.1 a1 0), .int (σ.1 a1 1)]) (rest := []) X hK hR kf_1 rfl (by decide) hl.1 (c_X2_empty l cA D Λ hT σ (rfA Λ a0 3) (σ.1 a1 0) (σ.1 a1 1) kf_1 hq_2) (cwV 2 hts gX3_markNearLarge_X2_empty rfl rfl rfl (by decide +kernel) ⟨Nat.le_trans (by decide) hM.1, Nat.le_trans (by decide) hM.2⟩) rfl rfl (Nat.le_of_ble_eq_true rfl) dX3_markNearLarge_12) hS (fun H locs hR hS => ?_)
  refine lv_aload_n hx hb dX3_markNearLarge_15 rfl (lv_at hl 0 rfl) ?_
  refine lv_aload_n hx hb dX3_markNearLarge_16 rfl (lv_at hl 1 rfl) ?_
  obtain ⟨q_3, hq_3, h⟩ := of_bind h
  refine cl_v (rn_V (As := [.ref a1]) (rest := []) X hK hR k0 rfl (by decide) hl.1 (c_X3_begin l cA D Λ hT q_2 a0 a1 k0 k1 hq_3) (cwV 1 hts gX3_markNearLarge_X3_begin rfl rfl rfl (by decide +kernel) ⟨Nat.le_trans (by decide) hM.1, Nat.le_trans (by decide) hM.2⟩) rfl rfl (Nat.le_of_ble_eq_true rfl) dX3_markNearLarge_17) hS (fun H locs hR hS => ?_)
  refine lv_iconst (v := (0 : Int32)) hx hb dX3_markNearLarge_20 (by decide) ?_
  refine lv_istore (lv' := [(4, .int (0 : Int32)), (0, .ref a0), (1, .ref a1), (2, .int l2), (3, .int l3)]) hx hb dX3_markNearLarge_21 hl (by decide) rfl (fun ls hl => ?_)
  obtain ⟨e_8, hq_8, h⟩ := of_bind h
  refine w_lp_X3_markNearLarge_23 X hK hT hM a0 l2 l3 k0 _ ((0 : Int32), q_3) hq_8 (fun H locs ls hR hS hl => ?_) H locs ls hR hS (lv_sub hl [1, 3, 4, 0] rfl)
  refine lv_iconst (v := (0 : Int32)) hx hb dX3_markNearLarge_60 (by decide) ?_
  refine lv_istore (lv' := [(4, .int (0 : Int32)), (0, .ref a0), (3, .int l3)]) hx hb dX3_markNearLarge_61 hl (by decide) rfl (fun ls hl => ?_)
  obtain ⟨e_11, hq_11, h⟩ := of_bind h
  refine w_lp_X3_markNearLarge_63 X hK hT hM a0 l3 k0 _ ((0 : Int32), e_8) hq_11 (fun H locs ls hR hS hl => ?_) H locs ls hR hS (lv_sub hl [1, 2, 0] rfl)
  exact rt_v X hR hS (Option.some.inj h) dX3_markNearLarge_79

set_option maxHeartbeats 4000000 in
set_option maxRecDepth 100000 in
theorem c_X3_markNearLarge (l : Launch) (cA : Nat → ClassId) (D : va_G) (Λ : Lay) (hT : TL Λ) (σ : Sto) (a0 : Nat) (a1 : Nat) (l2 : Int32) (l3 : Int32) (k0 : isK Λ a0 4) (k1 : isK Λ a1 3) {res : Sto} (h : F_X3_markNearLarge Λ σ a0 a1 l2 l3 = some res) : Met l yX3_markNearLarge wsX3_markNearLarge { frames := 4, cells := 0, slots := 0, locals := 101 } (va_Pc [.ref a0, .ref a1, .int l2, .int l3] (PW cA D Λ σ)) (QV cA D Λ res) 0 0 (dm Λ) := by
  refine Met.ofW (cc := cX3_markNearLarge) (maxL := 5) (ret := none) (by decide) rfl ?_
  intro p e s m args below meth c s₁ B hml hv
  obtain ⟨rfl, hR, hK⟩ := hv
  have X : Cx cX3_markNearLarge none 5 RX3 wsX3_markNearLarge p s m _ meth c := ⟨B.exec, B.bytes, B.returns, hml, findClass_of_methodNamed B.named, atoms_spec (ws := wsX3_markNearLarge) B.pre, B.notSynchronized⟩
  have hS : va_S (dm Λ) s.heap s.heap [] := va_S.rf
  have hl := lv_entry ([.ref a0, .ref a1, .int l2, .int l3]) (n := 5) (Nat.le_of_ble_eq_true rfl)
  rw [lg_entry_eq]
  generalize (lg_sl ([.ref a0, .ref a1, .int l2, .int l3]) ++ List.replicate (5 - (lg_sl ([.ref a0, .ref a1, .int l2, .int l3])).length) Slot.unset).toArray = ls at hl ⊢
  have hl : lv_has ls 5 [(0, .ref a0), (1, .ref a1), (2, .int l2), (3, .int l3)] := hl
  exact w_X3_markNearLarge X hK hT ⟨Nat.le_refl _, Nat.le_refl _⟩ a0 a1 l2 l3 k0 k1 h s.heap [] ls hR hS hl
theorem in_X3_touchesNear_3 : ∀ w ∈ u_ws RX2 TX2 3, w ∈ wsX3_touchesNear := by decide +kernel
theorem in_X3_touchesNear_4 : ∀ w ∈ u_ws RX3 TX3 10, w ∈ wsX3_touchesNear := by decide +kernel
set_option maxHeartbeats 4000000 in
set_option maxRecDepth 100000 in
theorem w_jp_X3_touchesNear_48 (X : Cx cX3_touchesNear (some .boolean) 3 RX3 wsX3_touchesNear p s m args meth c) (hK : Kn cA D s) (hT : TL Λ) (hM : 0 ≤ R.frames ∧ 0 ≤ R.locals) (a0 : Nat) (l2 : Int32) (ls0 : Int32) (k0 : isK Λ a0 4) {r : (Int32 × Int32) ⊕ Int32} (h : jp_X3_touchesNear_48 Λ σ a0 l2 ls0 = some r) (kb : ∀ z : (Int32 × Int32), r = .inl z → ∀ (H : Heap) (locs : List Loc) (ls : Array Slot), Rep cA D Λ σ H → va_S (dm Λ) s.heap H locs → lv_has ls 3 [(0, .ref a0), (1, .int z.1), (2, .int z.2)] → W p l e R s m args below meth c H locs 0 0 Q (F0 m 7 ls [])) (kx0 : ∀ z : Int32, r = .inr z → ∀ (H : Heap) (locs : List Loc) (ls : Array Slot), Rep cA D Λ σ H → va_S (dm Λ) s.heap H locs → lv_has ls 3 [(1, .int z)] → W p l e R s m args below meth c H locs 0 0 Q (F0 m 55 ls [])) (H : Heap) (locs : List Loc) (ls : Array Slot) (hR : Rep cA D Λ σ H) (hS : va_S (dm Λ) s.heap H locs) (hl : lv_has ls 3 [(0, .ref a0), (2, .int l2)]) : W p l e R s m args below meth c H locs 0 0 Q (F0 m 48 ls [.int ls0]) := by
  have hx := X.1
  have hb := X.2.1
  have hown := X.2.2.2.2.1
  have hts := X.2.2.2.2.2.1
  unfold jp_X3_touchesNear_48 at h
  refine lv_istore_n (lv' := [(1, .int ls0), (0, .ref a0), (2, .int l2)]) hx hb dX3_touchesNear_48 rfl hl (by decide) rfl (fun ls hl => ?_)
  obtain ⟨v_8, e_v_8⟩ : ∃ y : Int32, y = (l2 + (1 : Int32)) := ⟨_, rfl⟩
  have h := of_nm e_v_8 h
  refine lv_iinc (v := v_8) (lv' := [(2, .int v_8), (1, .int ls0), (0, .ref a0)]) hx hb dX3_touchesNear_49 hl (k := 2) rfl (by rw [e_v_8]; rfl) (by decide) rfl (fun ls hl => ?_)
  refine lv_goto (tgt := 7) hx hb dX3_touchesNear_52 (by decide) ?_
  exact kb (ls0, v_8) (Option.some.inj h).symm H locs ls hR hS (lv_sub hl [2, 1, 0] rfl)

set_option maxHeartbeats 4000000 in
set_option maxRecDepth 100000 in
theorem w_bd_X3_touchesNear_7 (X : Cx cX3_touchesNear (some .boolean) 3 RX3 wsX3_touchesNear p s m args meth c) (hK : Kn cA D s) (hT : TL Λ) (hM : 0 ≤ R.frames ∧ 0 ≤ R.locals) (a0 : Nat) (s9 : (Int32 × Int32)) (k0 : isK Λ a0 4) {r : (Int32 × Int32) ⊕ Int32} (h : bd_X3_touchesNear_7 Λ σ a0 s9 = some r) (kb : ∀ z : (Int32 × Int32), r = .inl z → ∀ (H : Heap) (locs : List Loc) (ls : Array Slot), Rep cA D Λ σ H → va_S (dm Λ) s.heap H locs → lv_has ls 3 [(0, .ref a0), (1, .int z.1), (2, .int z.2)] → W p l e R s m args below meth c H locs 0 0 Q (F0 m 7 ls [])) (kx0 : ∀ z : Int32, r = .inr z → ∀ (H : Heap) (locs : List Loc) (ls : Array Slot), Rep cA D Λ σ H → va_S (dm Λ) s.heap H locs → lv_has ls 3 [(1, .int z)] → W p l e R s m args below meth c H locs 0 0 Q (F0 m 55 ls [])) (H : Heap) (locs : List Loc) (ls : Array Slot) (hR : Rep cA D Λ σ H) (hS : va_S (dm Λ) s.heap H locs) (hl : lv_has ls 3 [(0, .ref a0), (1, .int s9.1), (2, .int s9.2)]) : W p l e R s m args below meth c H locs 0 0 Q (F0 m 7 ls []) := by
  have hx := X.1
  have hb := X.2.1
  have hown := X.2.2.2.2.1
  have hts := X.2.2.2.2.2.1
  unfold bd_X3_touchesNear_7 at h
  refine lv_iload_n hx hb dX3_touchesNear_7 rfl (lv_at hl 2 rfl) ?_
  refine lv_aload_n hx hb dX3_touchesNear_8 rfl (lv_at hl 0 rfl) ?_
  refine rw_getI X hK hR 4 8 k0 (by decide) (C := RX3) (T := TX3) (N := 10) rfl (by decide) in_X3_touchesNear_4 (by decide +kernel) rfl dX3_touchesNear_9 ?_
  refine lv_icmp_gt (tgt := 55) hx hb dX3_touchesNear_12 (by decide) (fun hc => ?_) (fun hc => ?_)
  · have h := of_pos hc h
    exact kx0 s9.1 (Option.some.inj h).symm H locs ls hR hS (lv_sub hl [1] rfl)
  · have h := of_neg hc h
    refine lv_iload_n hx hb dX3_touchesNear_15 rfl (lv_at hl 1 rfl) ?_
    refine lv_if_ne (tgt := 55) hx hb dX3_touchesNear_16 (by decide) (fun hc => ?_) (fun hc => ?_)
    · have h := of_neg hc h
      exact kx0 s9.1 (Option.some.inj h).symm H locs ls hR hS (lv_sub hl [1] rfl)
    · have h := of_pos hc h
      refine lv_aload_n hx hb dX3_touchesNear_19 rfl (lv_at hl 0 rfl) ?_
      refine rw_getR X hK hT hR 4 2 3 k0 (by decide) (C := RX3) (T := TX3) (N := 10) rfl (by decide) in_X3_touchesNear_4 (by decide +kernel) rfl dX3_touchesNear_20 (fun kf_2 => ?_)
      refine rw_getR X hK hT hR 3 2 8 kf_2 (by decide) (C := RX2) (T := TX2) (N := 3) rfl (by decide) in_X3_touchesNear_3 (by decide +kernel) rfl dX3_touchesNear_23 (fun kf_3 => ?_)
      refine lv_iload_n hx hb dX3_touchesNear_26 rfl (lv_at hl 2 rfl) ?_
      obtain ⟨hg_4, h⟩ := of_guard h
      refine rw_lald X hK hR kf_3 hg_4 dX3_touchesNear_27 ?_
      refine lv_aload_n hx hb dX3_touchesNear_28 rfl (lv_at hl 0 rfl) ?_
      refine rw_getR X hK hT hR 4 3 3 k0 (by decide) (C := RX3) (T := TX3) (N := 10) rfl (by decide) in_X3_touchesNear_4 (by decide +kernel) rfl dX3_touchesNear_29 (fun kf_5 => ?_)
      refine rw_getR X hK hT hR 3 2 8 kf_5 (by decide) (C := RX2) (T := TX2) (N := 3) rfl (by decide) in_X3_touchesNear_3 (by decide +kernel) rfl dX3_touchesNear_32 (fun kf_6 => ?_)
      refine lv_iload_n hx hb dX3_touchesNear_35 rfl (lv_at hl 2 rfl) ?_
      obtain ⟨hg_7, h⟩ := of_guard h
      refine rw_lald X hK hR kf_6 hg_7 dX3_touchesNear_36 ?_
      refine lv_land hx hb dX3_touchesNear_37 ?_
      refine lv_lconst (v := (0 : Int64)) hx hb dX3_touchesNear_38 (by decide) ?_
      refine W.lcmp hx hb dX3_touchesNear_39 ?_
      refine lv_if_eq (tgt := 47) hx hb dX3_touchesNear_40 (by decide) (fun hc => ?_) (fun hc => ?_)
      · have h := of_pos hc h
        refine lv_iconst (v := (0 : Int32)) hx hb dX3_touchesNear_47 (by decide) ?_
        exact w_jp_X3_touchesNear_48 X hK hT hM a0 s9.2 (0 : Int32) k0 h kb kx0 H locs ls hR hS (lv_sub hl [0, 2] rfl)
      · have h := of_neg hc h
        refine lv_iconst (v := (1 : Int32)) hx hb dX3_touchesNear_43 (by decide) ?_
        refine lv_goto (tgt := 48) hx hb dX3_touchesNear_44 (by decide) ?_
        exact w_jp_X3_touchesNear_48 X hK hT hM a0 s9.2 (1 : Int32) k0 h kb kx0 H locs ls hR hS (lv_sub hl [0, 2] rfl)

set_option maxHeartbeats 4000000 in
set_option maxRecDepth 100000 in
theorem w_lp_X3_touchesNear_7 (X : Cx cX3_touchesNear (some .boolean) 3 RX3 wsX3_touchesNear p s m args meth c) (hK : Kn cA D s) (hT : TL Λ) (hM : 0 ≤ R.frames ∧ 0 ≤ R.locals) (a0 : Nat) (k0 : isK Λ a0 4) {e9 : Int32} : ∀ (n9 : Nat) (s9 : (Int32 × Int32)), iter (bd_X3_touchesNear_7 Λ σ a0) n9 s9 = some e9 → ∀ (kx0 : ∀ (H : Heap) (locs : List Loc) (ls : Array Slot), Rep cA D Λ σ H → va_S (dm Λ) s.heap H locs → lv_has ls 3 [(1, .int e9)] → W p l e R s m args below meth c H locs 0 0 Q (F0 m 55 ls [])), ∀ (H : Heap) (locs : List Loc) (ls : Array Slot), Rep cA D Λ σ H → va_S (dm Λ) s.heap H locs → lv_has ls 3 [(0, .ref a0), (1, .int s9.1), (2, .int s9.2)] → W p l e R s m args below meth c H locs 0 0 Q (F0 m 7 ls []) := by
  intro n9
  induction n9 with
  | zero => intro s9 h; cases h
  | succ n9 ih =>
    intro s9 h kx0 H locs ls hR hS hl
    obtain ⟨r, hr, h⟩ := of_iter h
    refine w_bd_X3_touchesNear_7 X hK hT hM a0 s9 k0 hr (fun z ez H locs ls hR hS hl => ?_) (fun z ez H locs ls hR hS hl => ?_) H locs ls hR hS hl
    · exact ih z (of_itl ez h) kx0 H locs ls hR hS hl
    · have he := of_itr ez h; subst he; exact kx0 H locs ls hR hS hl

set_option maxHeartbeats 4000000 in
set_option maxRecDepth 100000 in
theorem w_X3_touchesNear (X : Cx cX3_touchesNear (some .boolean) 3 RX3 wsX3_touchesNear p s m args meth c) (hK : Kn cA D s) (hT : TL Λ) (hM : 0 ≤ R.frames ∧ 0 ≤ R.locals) (a0 : Nat) (k0 : isK Λ a0 4) {res : Int32} (h : F_X3_touchesNear Λ σ a0 = some res) (H : Heap) (locs : List Loc) (ls : Array Slot) (hR : Rep cA D Λ σ H) (hS : va_S (dm Λ) s.heap H locs) (hl : lv_has ls 3 [(0, .ref a0)]) : W p l e R s m args below meth c H locs 0 0 (MQ below (QZ cA D Λ (res, σ)) args s 0 0 (dm Λ)) (F0 m 0 ls []) := by
  have hx := X.1
  have hb := X.2.1
  have hown := X.2.2.2.2.1
  have hts := X.2.2.2.2.2.1
  unfold F_X3_touchesNear at h
  refine lv_iconst (v := (0 : Int32)) hx hb dX3_touchesNear_0 (by decide) ?_
  refine lv_istore_n (lv' := [(1, .int (0 : Int32)), (0, .ref a0)]) hx hb dX3_touchesNear_1 rfl hl (by decide) rfl (fun ls hl => ?_)
  refine lv_aload_n hx hb dX3_touchesNear_2 rfl (lv_at hl 1 rfl) ?_
  refine rw_getI X hK hR 4 7 k0 (by decide) (C := RX3) (T := TX3) (N := 10) rfl (by decide) in_X3_touchesNear_4 (by decide +kernel) rfl dX3_touchesNear_3 ?_
  refine lv_topi (fun v_1 e_v_1 => ?_)
  have h := of_nm e_v_1 h
  refine lv_istore_n (lv' := [(2, .int v_1), (1, .int (0 : Int32)), (0, .ref a0)]) hx hb dX3_touchesNear_6 rfl hl (by decide) rfl (fun ls hl => ?_)
  obtain ⟨e_9, hq_9, h⟩ := of_bind h
  refine w_lp_X3_touchesNear_7 X hK hT hM a0 k0 _ ((0 : Int32), v_1) hq_9 (fun H locs ls hR hS hl => ?_) H locs ls hR hS (lv_sub hl [2, 1, 0] rfl)
  refine lv_iload_n hx hb dX3_touchesNear_55 rfl (lv_at hl 0 rfl) ?_
  obtain ⟨hz, h⟩ := of_guard h
  exact rt_z X hR hS (congrArg (fun z => (z, σ)) (Option.some.inj h)) (of_bz hz) dX3_touchesNear_56

set_option maxHeartbeats 4000000 in
set_option maxRecDepth 100000 in
theorem c_X3_touchesNear (l : Launch) (cA : Nat → ClassId) (D : va_G) (Λ : Lay) (hT : TL Λ) (σ : Sto) (a0 : Nat) (k0 : isK Λ a0 4) {res : Int32} (h : F_X3_touchesNear Λ σ a0 = some res) : Met l yX3_touchesNear wsX3_touchesNear { frames := 0, cells := 0, slots := 0, locals := 0 } (va_Pc [.ref a0] (PW cA D Λ σ)) (QZ cA D Λ (res, σ)) 0 0 (dm Λ) := by
  refine Met.ofW (cc := cX3_touchesNear) (maxL := 3) (ret := (some .boolean)) (by decide) rfl ?_
  intro p e s m args below meth c s₁ B hml hv
  obtain ⟨rfl, hR, hK⟩ := hv
  have X : Cx cX3_touchesNear (some .boolean) 3 RX3 wsX3_touchesNear p s m _ meth c := ⟨B.exec, B.bytes, B.returns, hml, findClass_of_methodNamed B.named, atoms_spec (ws := wsX3_touchesNear) B.pre, B.notSynchronized⟩
  have hS : va_S (dm Λ) s.heap s.heap [] := va_S.rf
  have hl := lv_entry ([.ref a0]) (n := 3) (Nat.le_of_ble_eq_true rfl)
  rw [lg_entry_eq]
  generalize (lg_sl ([.ref a0]) ++ List.replicate (3 - (lg_sl ([.ref a0])).length) Slot.unset).toArray = ls at hl ⊢
  have hl : lv_has ls 3 [(0, .ref a0)] := hl
  exact w_X3_touchesNear X hK hT ⟨Nat.le_refl _, Nat.le_refl _⟩ a0 k0 h s.heap [] ls hR hS hl
theorem in_X3_findSpecks_3 : ∀ w ∈ u_ws RX2 TX2 3, w ∈ wsX3_findSpecks := by decide +kernel
theorem in_X3_findSpecks_4 : ∀ w ∈ u_ws RX3 TX3 10, w ∈ wsX3_findSpecks := by decide +kernel
set_option maxHeartbeats 4000000 in
set_option maxRecDepth 100000 in
theorem w_jp_X3_findSpecks_66 (X : Cx cX3_findSpecks (some .int) 6 RX3 wsX3_findSpecks p s m args meth c) (hK : Kn cA D s) (hT : TL Λ) (hM : 5 ≤ R.frames ∧ 125 ≤ R.locals) (a0 : Nat) (l4 : Int32) (l5 : Int32)  (k0 : isK Λ a0 4) {r : (Int32 × Int32 × Sto) ⊕ (Int32 × Sto)} (h : jp_X3_findSpecks_66 Λ σ a0 l4 l5 = some r) (kb : ∀ z : (Int32 × Int32 × Sto), r = .inl z → ∀ (H : Heap) (locs : List Loc) (ls : Array Slot), Rep cA D Λ z.2.2 H → va_S (dm Λ) s.heap H locs → lv_has ls 6 [(0, .ref a0), (4, .int z.1), (5, .int z.2.1)] → W p l e R s m args below meth c H locs 0 0 Q (F0 m 33 ls [])) (kx0 : ∀ z : (Int32 × Sto), r = .inr z → ∀ (H : Heap) (locs : List Loc) (ls : Array Slot), Rep cA D Λ z.2 H → va_S (dm Λ) s.heap H locs → lv_has ls 6 [(4, .int z.1)] → W p l e R s m args below meth c H locs 0 0 Q (F0 m 72 ls [])) (H : Heap) (locs : List Loc) (ls : Array Slot) (hR : Rep cA D Λ σ H) (hS : va_S (dm Λ) s.heap H locs) (hl : lv_has ls 6 [(0, .ref a0), (4, .int l4), (5, .int l5)]) : W p l e R s m args below meth c H locs 0 0 Q (F0 m 66 ls []) := by
  have hx := X.1
  have hb := X.2.1
  have hown := X.2.2.2.2.1
  have hts := X.2.2.2.2.2.1
  unfold jp_X3_findSpecks_66 at h
  obtain ⟨v_7, e_v_7⟩ : ∃ y : Int32, y = (l5 + (1 : Int32)) := ⟨_, rfl⟩
  have h := of_nm e_v_7 h
  refine lv_iinc (v := v_7) (lv' := [(5, .int v_7), (0, .ref a0), (4, .int l4)]) hx hb dX3_findSpecks_66 hl (k := 2) rfl (by rw [e_v_7]; rfl) (by decide) rfl (fun ls hl => ?_)
  refine lv_goto (tgt := 33) hx hb dX3_findSpecks_69 (by decide) ?_
  exact kb (l4, v_7, σ) (Option.some.inj h).symm H locs ls hR hS (lv_sub hl [1, 2, 0] rfl)

set_option maxHeartbeats 4000000 in
set_option maxRecDepth 100000 in
theorem w_bd_X3_findSpecks_33 (X : Cx cX3_findSpecks (some .int) 6 RX3 wsX3_findSpecks p s m args meth c) (hK : Kn cA D s) (hT : TL Λ) (hM : 5 ≤ R.frames ∧ 125 ≤ R.locals) (a0 : Nat) (s9 : (Int32 × Int32 × Sto)) (k0 : isK Λ a0 4) {r : (Int32 × Int32 × Sto) ⊕ (Int32 × Sto)} (h : bd_X3_findSpecks_33 Λ a0 s9 = some r) (kb : ∀ z : (Int32 × Int32 × Sto), r = .inl z → ∀ (H : Heap) (locs : List Loc) (ls : Array Slot), Rep cA D Λ z.2.2 H → va_S (dm Λ) s.heap H locs → lv_has ls 6 [(0, .ref a0), (4, .int z.1), (5, .int z.2.1)] → W p l e R s m args below meth c H locs 0 0 Q (F0 m 33 ls [])) (kx0 : ∀ z : (Int32 × Sto), r = .inr z → ∀ (H : Heap) (locs : List Loc) (ls : Array Slot), Rep cA D Λ z.2 H → va_S (dm Λ) s.heap H locs → lv_has ls 6 [(4, .int z.1)] → W p l e R s m args below meth c H locs 0 0 Q (F0 m 72 ls [])) (H : Heap) (locs : List Loc) (ls : Array Slot) (hR : Rep cA D Λ s9.2.2 H) (hS : va_S (dm Λ) s.heap H locs) (hl : lv_has ls 6 [(0, .ref a0), (4, .int s9.1), (5, .int s9.2.1)]) : W p l e R s m args below meth c H locs 0 0 Q (F0 m 33 ls []) := by
  have hx := X.1
  have hb := X.2.1
  have hown := X.2.2.2.2.1
  have hts := X.2.2.2.2.2.1
  unfold bd_X3_findSpecks_33 at h
  refine lv_iload hx hb dX3_findSpecks_33 (lv_at hl 2 rfl) ?_
  refine lv_sipush (v := (4096 : Int32)) hx hb dX3_findSpecks_35 (by decide) ?_
  refine lv_icmp_ge (tgt := 72) hx hb dX3_findSpecks_38 (by decide) (fun hc => ?_) (fun hc => ?_)
  · have h := of_pos hc h
    exact kx0 (s9.1, s9.2.2) (Option.some.inj h).symm H locs ls hR hS (lv_sub hl [1] rfl)
  · have h := of_neg hc h
    refine lv_aload_n hx hb dX3_findSpecks_41 rfl (lv_at hl 0 rfl) ?_
    obtain ⟨q_5, hq_5, h⟩ := of_bind h
    refine cl_z (rn_V (As := []) (rest := []) X hK hR k0 rfl (by decide) hl.1 (c_X3_next l cA D Λ hT s9.2.2 a0 k0 hq_5) (cwV 0 hts gX3_findSpecks_X3_next rfl rfl rfl (by decide +kernel) ⟨Nat.le_trans (by decide) hM.1, Nat.le_trans (by decide) hM.2⟩) rfl rfl (Nat.le_of_ble_eq_true rfl) dX3_findSpecks_42) hS (fun hz_5 H locs hR hS => ?_)
    refine lv_if_eq (tgt := 72) hx hb dX3_findSpecks_45 (by decide) (fun hc => ?_) (fun hc => ?_)
    · have h := of_pos hc h
      exact kx0 (s9.1, q_5.2) (Option.some.inj h).symm H locs ls hR hS (lv_sub hl [1] rfl)
    · have h := of_neg hc h
      refine lv_aload_n hx hb dX3_findSpecks_48 rfl (lv_at hl 0 rfl) ?_
      obtain ⟨q_6, hq_6, h⟩ := of_bind h
      refine cl_z (rn_V (As := []) (rest := []) X hK hR k0 rfl (by decide) hl.1 (c_X3_touchesNear l cA D Λ hT q_5.2 a0 k0 hq_6) (cwV 0 hts gX3_findSpecks_X3_touchesNear rfl rfl rfl (by decide +kernel) ⟨Nat.le_trans (by decide) hM.1, Nat.le_trans (by decide) hM.2⟩) rfl rfl (Nat.le_of_ble_eq_true rfl) dX3_findSpecks_49) hS (fun hz_6 H locs hR hS => ?_)
      refine lv_if_ne (tgt := 66) hx hb dX3_findSpecks_52 (by decide) (fun hc => ?_) (fun hc => ?_)
      · have h := of_neg hc h
        exact w_jp_X3_findSpecks_66 X hK hT hM a0 s9.1 s9.2.1 k0 h kb kx0 H locs ls hR hS (lv_sub hl [0, 1, 2] rfl)
      · have h := of_pos hc h
        obtain ⟨v_8, e_v_8⟩ : ∃ y : Int32, y = (s9.1 + (1 : Int32)) := ⟨_, rfl⟩
        have h := of_nm e_v_8 h
        refine lv_iinc (v := v_8) (lv' := [(4, .int v_8), (0, .ref a0), (5, .int s9.2.1)]) hx hb dX3_findSpecks_55 hl (k := 1) rfl (by rw [e_v_8]; rfl) (by decide) rfl (fun ls hl => ?_)
        refine lv_aload_n hx hb dX3_findSpecks_58 rfl (lv_at hl 1 rfl) ?_
        refine lv_aload_n hx hb dX3_findSpecks_59 rfl (lv_at hl 1 rfl) ?_
        refine rw_getR X hK hT hR 4 0 3 k0 (by decide) (C := RX3) (T := TX3) (N := 10) rfl (by decide) in_X3_findSpecks_4 (by decide +kernel) rfl dX3_findSpecks_60 (fun kf_9 => ?_)
        obtain ⟨q_10, hq_10, h⟩ := of_bind h
        refine cl_v (rn_V (As := [.ref (rfA Λ a0 0)]) (rest := []) X hK hR k0 rfl (by decide) hl.1 (c_X3_addSpotTo l cA D Λ hT q_5.2 a0 (rfA Λ a0 0) k0 kf_9 hq_10) (cwV 1 hts gX3_findSpecks_X3_addSpotTo rfl rfl rfl (by decide +kernel) ⟨Nat.le_trans (by decide) hM.1, Nat.le_trans (by decide) hM.2⟩) rfl rfl (Nat.le_of_ble_eq_true rfl) dX3_findSpecks_63) hS (fun H locs hR hS => ?_)
        exact w_jp_X3_findSpecks_66 X hK hT hM a0 v_8 s9.2.1 k0 h kb kx0 H locs ls hR hS (lv_sub hl [1, 0, 2] rfl)

set_option maxHeartbeats 4000000 in
set_option maxRecDepth 100000 in
theorem w_lp_X3_findSpecks_33 (X : Cx cX3_findSpecks (some .int) 6 RX3 wsX3_findSpecks p s m args meth c) (hK : Kn cA D s) (hT : TL Λ) (hM : 5 ≤ R.frames ∧ 125 ≤ R.locals) (a0 : Nat) (k0 : isK Λ a0 4) {e9 : (Int32 × Sto)} : ∀ (n9 : Nat) (s9 : (Int32 × Int32 × Sto)), iter (bd_X3_findSpecks_33 Λ a0) n9 s9 = some e9 → ∀ (kx0 : ∀ (H : Heap) (locs : List Loc) (ls : Array Slot), Rep cA D Λ e9.2 H → va_S (dm Λ) s.heap H locs → lv_has ls 6 [(4, .int e9.1)] → W p l e R s m args below meth c H locs 0 0 Q (F0 m 72 ls [])), ∀ (H : Heap) (locs : List Loc) (ls : Array Slot), Rep cA D Λ s9.2.2 H → va_S (dm Λ) s.heap H locs → lv_has ls 6 [(0, .ref a0), (4, .int s9.1), (5, .int s9.2.1)] → W p l e R s m args below meth c H locs 0 0 Q (F0 m 33 ls []) := by
  intro n9
  induction n9 with
  | zero => intro s9 h; cases h
  | succ n9 ih =>
    intro s9 h kx0 H locs ls hR hS hl
    obtain ⟨r, hr, h⟩ := of_iter h
    refine w_bd_X3_findSpecks_33 X hK hT hM a0 s9 k0 hr (fun z ez H locs ls hR hS hl => ?_) (fun z ez H locs ls hR hS hl => ?_) H locs ls hR hS hl
    · exact ih z (of_itl ez h) kx0 H locs ls hR hS hl
    · have he := of_itr ez h; subst he; exact kx0 H locs ls hR hS hl

set_option maxHeartbeats 4000000 in
set_option maxRecDepth 100000 in
theorem w_X3_findSpecks (X : Cx cX3_findSpecks (some .int) 6 RX3 wsX3_findSpecks p s m args meth c) (hK : Kn cA D s) (hT : TL Λ) (hM : 5 ≤ R.frames ∧ 125 ≤ R.locals) (a0 : Nat) (a1 : Nat) (l2 : Int32) (l3 : Int32) (k0 : isK Λ a0 4) (k1 : isK Λ a1 3) {res : Int32 × Sto} (h : F_X3_findSpecks Λ σ a0 a1 l2 l3 = some res) (H : Heap) (locs : List Loc) (ls : Array Slot) (hR : Rep cA D Λ σ H) (hS : va_S (dm Λ) s.heap H locs) (hl : lv_has ls 6 [(0, .ref a0), (1, .ref a1), (2, .int l2), (3, .int l3)]) : W p l e R s m args below meth c H locs 0 0 (MQ below (QI cA D Λ res) args s 0 0 (dm Λ)) (F0 m 0 ls []) := by
  have hx := X.1
  have hb := X.2.1
  have hown := X.2.2.2.2.1
  have hts := X.2.2.2.2.2.1
  unfold F_X3_findSpecks at h
  refine lv_aload_n hx hb dX3_findSpecks_0 rfl (lv_at hl 0 rfl) ?_
  refine lv_aload_n hx hb dX3_findSpecks_1 rfl (lv_at hl 1 rfl) ?_
  refine lv_iload_n hx hb dX3_findSpecks_2 rfl (lv_at hl 2 rfl) ?_
  refine lv_iload_n hx hb dX3_findSpecks_3 rfl (lv_at hl 3 rfl) ?_
  obtain ⟨q_1, hq_1, h⟩ := of_bind h
  refine cl_v (rn_V (As := [.ref a1, .int l2, .int l3]) (rest := []) X hK hR k0 rfl (by decide) hl.1 (c_X3_markNearLarge l cA D Λ hT σ a0 a1 l2 l3 k0 k1 hq_1) (cwV 3 hts gX3_findSpecks_X3_markNearLarge rfl rfl rfl (by decide +kernel) ⟨Nat.le_trans (by decide) hM.1, Nat.le_trans (by decide) hM.2⟩) rfl rfl (Nat.le_of_ble_eq_true rfl) dX3_findSpecks_4) hS (fun H locs hR hS => ?_)
  refine lv_aload_n hx hb dX3_findSpecks_7 rfl (lv_at hl 0 rfl) ?_
  refine rw_getR X hK hT hR 4 0 3 k0 (by decide) (C := RX3) (T := TX3) (N := 10) rfl (by decide) in_X3_findSpecks_4 (by decide +kernel) rfl dX3_findSpecks_8 (fun kf_2 => ?_)
  refine lv_aload_n hx hb dX3_findSpecks_11 rfl (lv_at hl 1 rfl) ?_
  refine rw_getI X hK hR 3 0 k1 (by decide) (C := RX2) (T := TX2) (N := 3) rfl (by decide) in_X3_findSpecks_3 (by decide +kernel) rfl dX3_findSpecks_12 ?_
  refine lv_aload_n hx hb dX3_findSpecks_15 rfl (lv_at hl 1 rfl) ?_
  refine rw_getI X hK hR 3 1 k1 (by decide) (C := RX2) (T := TX2) (N := 3) rfl (by decide) in_X3_findSpecks_3 (by decide +kernel) rfl dX3_findSpecks_16 ?_
  obtain ⟨q_3, hq_3, h⟩ := of_bind h
  refine cl_v (rn_V (As := [.int (q_1.1 a1 0), .int (q_1.1 a1 1)]) (rest := []) X hK hR kf_2 rfl (by decide) hl.1 (c_X2_empty l cA D Λ hT q_1 (rfA Λ a0 0) (q_1.1 a1 0) (q_1.1 a1 1) kf_2 hq_3) (cwV 2 hts gX3_findSpecks_X2_empty rfl rfl rfl (by decide +kernel) ⟨Nat.le_trans (by decide) hM.1, Nat.le_trans (by decide) hM.2⟩) rfl rfl (Nat.le_of_ble_eq_true rfl) dX3_findSpecks_19) hS (fun H locs hR hS => ?_)
  refine lv_iconst (v := (0 : Int32)) hx hb dX3_findSpecks_22 (by decide) ?_
  refine lv_istore (lv' := [(4, .int (0 : Int32)), (0, .ref a0), (1, .ref a1), (2, .int l2), (3, .int l3)]) hx hb dX3_findSpecks_23 hl (by decide) rfl (fun ls hl => ?_)
  refine lv_aload_n hx hb dX3_findSpecks_25 rfl (lv_at hl 1 rfl) ?_
  refine lv_aload_n hx hb dX3_findSpecks_26 rfl (lv_at hl 2 rfl) ?_
  obtain ⟨q_4, hq_4, h⟩ := of_bind h
  refine cl_v (rn_V (As := [.ref a1]) (rest := []) X hK hR k0 rfl (by decide) hl.1 (c_X3_begin l cA D Λ hT q_3 a0 a1 k0 k1 hq_4) (cwV 1 hts gX3_findSpecks_X3_begin rfl rfl rfl (by decide +kernel) ⟨Nat.le_trans (by decide) hM.1, Nat.le_trans (by decide) hM.2⟩) rfl rfl (Nat.le_of_ble_eq_true rfl) dX3_findSpecks_27) hS (fun H locs hR hS => ?_)
  refine lv_iconst (v := (0 : Int32)) hx hb dX3_findSpecks_30 (by decide) ?_
  refine lv_istore (lv' := [(5, .int (0 : Int32)), (4, .int (0 : Int32)), (0, .ref a0), (1, .ref a1), (2, .int l2), (3, .int l3)]) hx hb dX3_findSpecks_31 hl (by decide) rfl (fun ls hl => ?_)
  obtain ⟨e_11, hq_11, h⟩ := of_bind h
  refine w_lp_X3_findSpecks_33 X hK hT hM a0 k0 _ ((0 : Int32), (0 : Int32), q_4) hq_11 (fun H locs ls hR hS hl => ?_) H locs ls hR hS (lv_sub hl [2, 1, 0] rfl)
  refine lv_iload hx hb dX3_findSpecks_72 (lv_at hl 0 rfl) ?_
  exact rt_i X hR hS (Option.some.inj h) dX3_findSpecks_74

set_option maxHeartbeats 4000000 in
set_option maxRecDepth 100000 in
theorem c_X3_findSpecks (l : Launch) (cA : Nat → ClassId) (D : va_G) (Λ : Lay) (hT : TL Λ) (σ : Sto) (a0 : Nat) (a1 : Nat) (l2 : Int32) (l3 : Int32) (k0 : isK Λ a0 4) (k1 : isK Λ a1 3) {res : Int32 × Sto} (h : F_X3_findSpecks Λ σ a0 a1 l2 l3 = some res) : Met l yX3_findSpecks wsX3_findSpecks { frames := 5, cells := 0, slots := 0, locals := 125 } (va_Pc [.ref a0, .ref a1, .int l2, .int l3] (PW cA D Λ σ)) (QI cA D Λ res) 0 0 (dm Λ) := by
  refine Met.ofW (cc := cX3_findSpecks) (maxL := 6) (ret := (some .int)) (by decide) rfl ?_
  intro p e s m args below meth c s₁ B hml hv
  obtain ⟨rfl, hR, hK⟩ := hv
  have X : Cx cX3_findSpecks (some .int) 6 RX3 wsX3_findSpecks p s m _ meth c := ⟨B.exec, B.bytes, B.returns, hml, findClass_of_methodNamed B.named, atoms_spec (ws := wsX3_findSpecks) B.pre, B.notSynchronized⟩
  have hS : va_S (dm Λ) s.heap s.heap [] := va_S.rf
  have hl := lv_entry ([.ref a0, .ref a1, .int l2, .int l3]) (n := 6) (Nat.le_of_ble_eq_true rfl)
  rw [lg_entry_eq]
  generalize (lg_sl ([.ref a0, .ref a1, .int l2, .int l3]) ++ List.replicate (6 - (lg_sl ([.ref a0, .ref a1, .int l2, .int l3])).length) Slot.unset).toArray = ls at hl ⊢
  have hl : lv_has ls 6 [(0, .ref a0), (1, .ref a1), (2, .int l2), (3, .int l3)] := hl
  exact w_X3_findSpecks X hK hT ⟨Nat.le_refl _, Nat.le_refl _⟩ a0 a1 l2 l3 k0 k1 h s.heap [] ls hR hS hl
theorem in_X4_page_5 : ∀ w ∈ u_ws RX4 TX4 8, w ∈ wsX4_page := by decide +kernel
set_option maxHeartbeats 4000000 in
set_option maxRecDepth 100000 in
theorem w_X4_page (X : Cx cX4_page (some .int) 3 RX4 wsX4_page p s m args meth c) (hK : Kn cA D s) (hT : TL Λ) (hM : 2 ≤ R.frames ∧ 46 ≤ R.locals) (a0 : Nat) (l1 : Int32) (l2 : Int32) (k0 : isK Λ a0 5) {res : Int32 × Sto} (h : F_X4_page Λ σ a0 l1 l2 = some res) (H : Heap) (locs : List Loc) (ls : Array Slot) (hR : Rep cA D Λ σ H) (hS : va_S (dm Λ) s.heap H locs) (hl : lv_has ls 3 [(0, .ref a0), (1, .int l1), (2, .int l2)]) : W p l e R s m args below meth c H locs 0 0 (MQ below (QI cA D Λ res) args s 0 0 (dm Λ)) (F0 m 0 ls []) := by
  have hx := X.1
  have hb := X.2.1
  have hown := X.2.2.2.2.1
  have hts := X.2.2.2.2.2.1
  unfold F_X4_page at h
  refine lv_iload_n hx hb dX4_page_0 rfl (lv_at hl 1 rfl) ?_
  refine lv_iconst (v := (1 : Int32)) hx hb dX4_page_1 (by decide) ?_
  refine lv_bipush (v := (64 : Int32)) hx hb dX4_page_2 (by decide) ?_
  refine cl_z (rn_S (As := [.int l1, .int (1 : Int32), .int (64 : Int32)]) (rest := []) X hK hR hl.1 (c_X4_within l cA D Λ hT σ l1 (1 : Int32) (64 : Int32)) (va_cwS 3 hts gX4_page_X4_within rfl rfl rfl (by decide +kernel) ⟨Nat.le_trans (by decide) hM.1, Nat.le_trans (by decide) hM.2⟩) rfl rfl (Nat.le_of_ble_eq_true rfl) dX4_page_4) hS (fun hz_1 H locs hR hS => ?_)
  refine lv_topi (fun r_1 e_1 => ?_)
  have h := of_nm e_1 h
  have hz_1 : r_1 = 0 ∨ r_1 = 1 := by rw [e_1]; exact hz_1
  refine lv_if_eq (tgt := 29) hx hb dX4_page_7 (by decide) (fun hc => ?_) (fun hc => ?_)
  · have h := of_pos hc h
    refine lv_iconst (v := (-1 : Int32)) hx hb dX4_page_29 (by decide) ?_
    exact rt_i X hR hS (Option.some.inj h) dX4_page_30
  · have h := of_neg hc h
    refine lv_iload_n hx hb dX4_page_10 rfl (lv_at hl 2 rfl) ?_
    refine lv_iconst (v := (1 : Int32)) hx hb dX4_page_11 (by decide) ?_
    refine lv_bipush (v := (64 : Int32)) hx hb dX4_page_12 (by decide) ?_
    refine cl_z (rn_S (As := [.int l2, .int (1 : Int32), .int (64 : Int32)]) (rest := []) X hK hR hl.1 (c_X4_within l cA D Λ hT σ l2 (1 : Int32) (64 : Int32)) (va_cwS 3 hts gX4_page_X4_within rfl rfl rfl (by decide +kernel) ⟨Nat.le_trans (by decide) hM.1, Nat.le_trans (by decide) hM.2⟩) rfl rfl (Nat.le_of_ble_eq_true rfl) dX4_page_14) hS (fun hz_2 H locs hR hS => ?_)
    refine lv_topi (fun r_2 e_2 => ?_)
    have h := of_nm e_2 h
    have hz_2 : r_2 = 0 ∨ r_2 = 1 := by rw [e_2]; exact hz_2
    refine lv_if_eq (tgt := 29) hx hb dX4_page_17 (by decide) (fun hc => ?_) (fun hc => ?_)
    · have h := of_pos hc h
      refine lv_iconst (v := (-1 : Int32)) hx hb dX4_page_29 (by decide) ?_
      exact rt_i X hR hS (Option.some.inj h) dX4_page_30
    · have h := of_neg hc h
      refine lv_aload_n hx hb dX4_page_20 rfl (lv_at hl 0 rfl) ?_
      refine rw_getI X hK hR 5 1 k0 (by decide) (C := RX4) (T := TX4) (N := 8) rfl (by decide) in_X4_page_5 (by decide +kernel) rfl dX4_page_21 ?_
      refine lv_bipush (v := (8 : Int32)) hx hb dX4_page_24 (by decide) ?_
      refine lv_icmp_lt (tgt := 31) hx hb dX4_page_26 (by decide) (fun hc => ?_) (fun hc => ?_)
      · have h := of_pos hc h
        refine lv_aload_n hx hb dX4_page_31 rfl (lv_at hl 0 rfl) ?_
        refine rw_getR X hK hT hR 5 0 11 k0 (by decide) (C := RX4) (T := TX4) (N := 8) rfl (by decide) in_X4_page_5 (by decide +kernel) rfl dX4_page_32 (fun kf_3 => ?_)
        refine lv_aload_n hx hb dX4_page_35 rfl (lv_at hl 0 rfl) ?_
        refine rw_getI X hK hR 5 1 k0 (by decide) (C := RX4) (T := TX4) (N := 8) rfl (by decide) in_X4_page_5 (by decide +kernel) rfl dX4_page_36 ?_
        obtain ⟨hg_4, h⟩ := of_guard h
        refine rw_aald11 X hK hT hR kf_3 hg_4 dX4_page_39 (fun kf_4 => ?_)
        refine lv_iload_n hx hb dX4_page_40 rfl (lv_at hl 1 rfl) ?_
        refine lv_iload_n hx hb dX4_page_41 rfl (lv_at hl 2 rfl) ?_
        obtain ⟨q_5, hq_5, h⟩ := of_bind h
        refine cl_v (rn_V (As := [.int l1, .int l2]) (rest := []) X hK hR kf_4 rfl (by decide) hl.1 (c_X2_empty l cA D Λ hT σ (rfA Λ (rfA Λ a0 0) (σ.1 a0 1).toNatClampNeg) l1 l2 kf_4 hq_5) (cwV 2 hts gX4_page_X2_empty rfl rfl rfl (by decide +kernel) ⟨Nat.le_trans (by decide) hM.1, Nat.le_trans (by decide) hM.2⟩) rfl rfl (Nat.le_of_ble_eq_true rfl) dX4_page_42) hS (fun H locs hR hS => ?_)
        refine lv_aload_n hx hb dX4_page_45 rfl (lv_at hl 0 rfl) ?_
        refine lv_dup hx hb dX4_page_46 rfl ?_
        refine rw_getI X hK hR 5 1 k0 (by decide) (C := RX4) (T := TX4) (N := 8) rfl (by decide) in_X4_page_5 (by decide +kernel) rfl dX4_page_47 ?_
        refine lv_dup_x1 hx hb dX4_page_50 rfl rfl ?_
        refine lv_iconst (v := (1 : Int32)) hx hb dX4_page_51 (by decide) ?_
        refine lv_iadd hx hb dX4_page_52 ?_
        refine rw_putI X hK hT hR hS 5 1 tyX4 k0 (by decide) (C := RX4) (T := TX4) (N := 8) rfl (by decide) in_X4_page_5 tyX4_ok nmX4 (by decide +kernel) rfl rfl (by decide +kernel) dX4_page_53 (fun σ_6 H locs e_6 hR hS => ?_)
        have h := of_nm e_6 h
        exact rt_i X hR hS (Option.some.inj h) dX4_page_56
      · have h := of_neg hc h
        refine lv_iconst (v := (-1 : Int32)) hx hb dX4_page_29 (by decide) ?_
        exact rt_i X hR hS (Option.some.inj h) dX4_page_30

set_option maxHeartbeats 4000000 in
set_option maxRecDepth 100000 in
theorem c_X4_page (l : Launch) (cA : Nat → ClassId) (D : va_G) (Λ : Lay) (hT : TL Λ) (σ : Sto) (a0 : Nat) (l1 : Int32) (l2 : Int32) (k0 : isK Λ a0 5) {res : Int32 × Sto} (h : F_X4_page Λ σ a0 l1 l2 = some res) : Met l yX4_page wsX4_page { frames := 2, cells := 0, slots := 0, locals := 46 } (va_Pc [.ref a0, .int l1, .int l2] (PW cA D Λ σ)) (QI cA D Λ res) 0 0 (dm Λ) := by
  refine Met.ofW (cc := cX4_page) (maxL := 3) (ret := (some .int)) (by decide) rfl ?_
  intro p e s m args below meth c s₁ B hml hv
  obtain ⟨rfl, hR, hK⟩ := hv
  have X : Cx cX4_page (some .int) 3 RX4 wsX4_page p s m _ meth c := ⟨B.exec, B.bytes, B.returns, hml, findClass_of_methodNamed B.named, atoms_spec (ws := wsX4_page) B.pre, B.notSynchronized⟩
  have hS : va_S (dm Λ) s.heap s.heap [] := va_S.rf
  have hl := lv_entry ([.ref a0, .int l1, .int l2]) (n := 3) (Nat.le_of_ble_eq_true rfl)
  rw [lg_entry_eq]
  generalize (lg_sl ([.ref a0, .int l1, .int l2]) ++ List.replicate (3 - (lg_sl ([.ref a0, .int l1, .int l2])).length) Slot.unset).toArray = ls at hl ⊢
  have hl : lv_has ls 3 [(0, .ref a0), (1, .int l1), (2, .int l2)] := hl
  exact w_X4_page X hK hT ⟨Nat.le_refl _, Nat.le_refl _⟩ a0 l1 l2 k0 h s.heap [] ls hR hS hl
theorem in_X4_find_5 : ∀ w ∈ u_ws RX4 TX4 8, w ∈ wsX4_find := by decide +kernel
set_option maxHeartbeats 4000000 in
set_option maxRecDepth 100000 in
theorem w_X4_find (X : Cx cX4_find (some (.object "StraightPages$Sheet")) 2 RX4 wsX4_find p s m args meth c) (hK : Kn cA D s) (hT : TL Λ) (hM : 1 ≤ R.frames ∧ 22 ≤ R.locals) (a0 : Nat) (l1 : Int32) (k0 : isK Λ a0 5) {res : Option Nat} (h : F_X4_find Λ σ a0 l1 = some res) (H : Heap) (locs : List Loc) (ls : Array Slot) (hR : Rep cA D Λ σ H) (hS : va_S (dm Λ) s.heap H locs) (hl : lv_has ls 2 [(0, .ref a0), (1, .int l1)]) : W p l e R s m args below meth c H locs 0 0 (MQ below (QQ 3 cA D Λ (res, σ)) args s 0 0 (dm Λ)) (F0 m 0 ls []) := by
  have hx := X.1
  have hb := X.2.1
  have hown := X.2.2.2.2.1
  have hts := X.2.2.2.2.2.1
  unfold F_X4_find at h
  refine lv_iload_n hx hb dX4_find_0 rfl (lv_at hl 1 rfl) ?_
  refine lv_iconst (v := (0 : Int32)) hx hb dX4_find_1 (by decide) ?_
  refine lv_aload_n hx hb dX4_find_2 rfl (lv_at hl 0 rfl) ?_
  refine rw_getI X hK hR 5 1 k0 (by decide) (C := RX4) (T := TX4) (N := 8) rfl (by decide) in_X4_find_5 (by decide +kernel) rfl dX4_find_3 ?_
  refine lv_iconst (v := (1 : Int32)) hx hb dX4_find_6 (by decide) ?_
  refine lv_isub hx hb dX4_find_7 ?_
  refine cl_z (rn_S (As := [.int l1, .int (0 : Int32), .int ((σ.1 a0 1) - (1 : Int32))]) (rest := []) X hK hR hl.1 (c_X4_within l cA D Λ hT σ l1 (0 : Int32) ((σ.1 a0 1) - (1 : Int32))) (va_cwS 3 hts gX4_find_X4_within rfl rfl rfl (by decide +kernel) ⟨Nat.le_trans (by decide) hM.1, Nat.le_trans (by decide) hM.2⟩) rfl rfl (Nat.le_of_ble_eq_true rfl) dX4_find_8) hS (fun hz_1 H locs hR hS => ?_)
  refine lv_topi (fun r_1 e_1 => ?_)
  have h := of_nm e_1 h
  have hz_1 : r_1 = 0 ∨ r_1 = 1 := by rw [e_1]; exact hz_1
  refine lv_if_eq (tgt := 23) hx hb dX4_find_11 (by decide) (fun hc => ?_) (fun hc => ?_)
  · have h := of_pos hc h
    refine lv_null hx hb dX4_find_23 ?_
    exact rt_q (v := none) X hR hS (congrArg (fun z => (z, σ)) (Option.some.inj h)) (fun _ q => by cases q) dX4_find_24
  · have h := of_neg hc h
    refine lv_aload_n hx hb dX4_find_14 rfl (lv_at hl 0 rfl) ?_
    refine rw_getR X hK hT hR 5 0 11 k0 (by decide) (C := RX4) (T := TX4) (N := 8) rfl (by decide) in_X4_find_5 (by decide +kernel) rfl dX4_find_15 (fun kf_2 => ?_)
    refine lv_iload_n hx hb dX4_find_18 rfl (lv_at hl 1 rfl) ?_
    obtain ⟨hg_3, h⟩ := of_guard h
    refine rw_aald11 X hK hT hR kf_2 hg_3 dX4_find_19 (fun kf_3 => ?_)
    refine lv_goto (tgt := 24) hx hb dX4_find_20 (by decide) ?_
    exact rt_q (v := (some (rfA Λ (rfA Λ a0 0) l1.toNatClampNeg))) X hR hS (congrArg (fun z => (z, σ)) (Option.some.inj h)) (fun _ q => by cases q; exact kf_3) dX4_find_24

set_option maxHeartbeats 4000000 in
set_option maxRecDepth 100000 in
theorem c_X4_find (l : Launch) (cA : Nat → ClassId) (D : va_G) (Λ : Lay) (hT : TL Λ) (σ : Sto) (a0 : Nat) (l1 : Int32) (k0 : isK Λ a0 5) {res : Option Nat} (h : F_X4_find Λ σ a0 l1 = some res) : Met l yX4_find wsX4_find { frames := 1, cells := 0, slots := 0, locals := 22 } (va_Pc [.ref a0, .int l1] (PW cA D Λ σ)) (QQ 3 cA D Λ (res, σ)) 0 0 (dm Λ) := by
  refine Met.ofW (cc := cX4_find) (maxL := 2) (ret := (some (.object "StraightPages$Sheet"))) (by decide) rfl ?_
  intro p e s m args below meth c s₁ B hml hv
  obtain ⟨rfl, hR, hK⟩ := hv
  have X : Cx cX4_find (some (.object "StraightPages$Sheet")) 2 RX4 wsX4_find p s m _ meth c := ⟨B.exec, B.bytes, B.returns, hml, findClass_of_methodNamed B.named, atoms_spec (ws := wsX4_find) B.pre, B.notSynchronized⟩
  have hS : va_S (dm Λ) s.heap s.heap [] := va_S.rf
  have hl := lv_entry ([.ref a0, .int l1]) (n := 2) (Nat.le_of_ble_eq_true rfl)
  rw [lg_entry_eq]
  generalize (lg_sl ([.ref a0, .int l1]) ++ List.replicate (2 - (lg_sl ([.ref a0, .int l1])).length) Slot.unset).toArray = ls at hl ⊢
  have hl : lv_has ls 2 [(0, .ref a0), (1, .int l1)] := hl
  exact w_X4_find X hK hT ⟨Nat.le_refl _, Nat.le_refl _⟩ a0 l1 k0 h s.heap [] ls hR hS hl
theorem in_X4_copy_5 : ∀ w ∈ u_ws RX4 TX4 8, w ∈ wsX4_copy := by decide +kernel
set_option maxHeartbeats 4000000 in
set_option maxRecDepth 100000 in
theorem w_X4_copy (X : Cx cX4_copy (some .int) 3 RX4 wsX4_copy p s m args meth c) (hK : Kn cA D s) (hT : TL Λ) (hM : 3 ≤ R.frames ∧ 67 ≤ R.locals) (a0 : Nat) (l1 : Int32) (k0 : isK Λ a0 5) {res : Int32 × Sto} (h : F_X4_copy Λ σ a0 l1 = some res) (H : Heap) (locs : List Loc) (ls : Array Slot) (hR : Rep cA D Λ σ H) (hS : va_S (dm Λ) s.heap H locs) (hl : lv_has ls 3 [(0, .ref a0), (1, .int l1)]) : W p l e R s m args below meth c H locs 0 0 (MQ below (QI cA D Λ res) args s 0 0 (dm Λ)) (F0 m 0 ls []) := by
  have hx := X.1
  have hb := X.2.1
  have hown := X.2.2.2.2.1
  have hts := X.2.2.2.2.2.1
  unfold F_X4_copy at h
  refine lv_aload_n hx hb dX4_copy_0 rfl (lv_at hl 0 rfl) ?_
  refine lv_iload_n hx hb dX4_copy_1 rfl (lv_at hl 1 rfl) ?_
  obtain ⟨q_1, hq_1, h⟩ := of_bind h
  refine cl_q (rn_V (As := [.int l1]) (rest := []) X hK hR k0 rfl (by decide) hl.1 (c_X4_find l cA D Λ hT σ a0 l1 k0 hq_1) (cwV 1 hts gX4_copy_X4_find rfl rfl rfl (by decide +kernel) ⟨Nat.le_trans (by decide) hM.1, Nat.le_trans (by decide) hM.2⟩) rfl rfl (Nat.le_of_ble_eq_true rfl) dX4_copy_2) hS (fun hn_1 H locs hR hS => ?_) (fun a_1 hn_1 kf_1 H locs hR hS => ?_)
  · have h := of_ocn hn_1 h
    refine lv_astore_nN (lv' := [(2, .null), (0, .ref a0), (1, .int l1)]) hx hb dX4_copy_5 rfl hl (by decide) rfl (fun ls hl => ?_)
    refine lv_aload_nN hx hb dX4_copy_6 rfl (lv_at hl 0 rfl) ?_
    refine lv_ifnullN (tgt := 19) hx hb dX4_copy_7 (by decide) ?_
    refine lv_iconst (v := (-1 : Int32)) hx hb dX4_copy_19 (by decide) ?_
    exact rt_i X hR hS (Option.some.inj h) dX4_copy_20
  · have h := of_ocs hn_1 h
    refine lv_astore_n (lv' := [(2, .ref a_1), (0, .ref a0), (1, .int l1)]) hx hb dX4_copy_5 rfl hl (by decide) rfl (fun ls hl => ?_)
    refine lv_aload_n hx hb dX4_copy_6 rfl (lv_at hl 0 rfl) ?_
    refine lv_ifnull hx hb dX4_copy_7 ?_
    refine lv_aload_n hx hb dX4_copy_10 rfl (lv_at hl 1 rfl) ?_
    refine rw_getI X hK hR 5 1 k0 (by decide) (C := RX4) (T := TX4) (N := 8) rfl (by decide) in_X4_copy_5 (by decide +kernel) rfl dX4_copy_11 ?_
    refine lv_bipush (v := (8 : Int32)) hx hb dX4_copy_14 (by decide) ?_
    refine lv_icmp_lt (tgt := 21) hx hb dX4_copy_16 (by decide) (fun hc => ?_) (fun hc => ?_)
    · have h := of_pos hc h
      refine lv_aload_n hx hb dX4_copy_21 rfl (lv_at hl 1 rfl) ?_
      refine rw_getR X hK hT hR 5 0 11 k0 (by decide) (C := RX4) (T := TX4) (N := 8) rfl (by decide) in_X4_copy_5 (by decide +kernel) rfl dX4_copy_22 (fun kf_2 => ?_)
      refine lv_aload_n hx hb dX4_copy_25 rfl (lv_at hl 1 rfl) ?_
      refine rw_getI X hK hR 5 1 k0 (by decide) (C := RX4) (T := TX4) (N := 8) rfl (by decide) in_X4_copy_5 (by decide +kernel) rfl dX4_copy_26 ?_
      obtain ⟨hg_3, h⟩ := of_guard h
      refine rw_aald11 X hK hT hR kf_2 hg_3 dX4_copy_29 (fun kf_3 => ?_)
      refine lv_aload_n hx hb dX4_copy_30 rfl (lv_at hl 0 rfl) ?_
      obtain ⟨q_4, hq_4, h⟩ := of_bind h
      refine cl_v (rn_V (As := [.ref a_1]) (rest := []) X hK hR kf_3 rfl (by decide) hl.1 (c_X2_become l cA D Λ hT σ (rfA Λ (rfA Λ a0 0) (σ.1 a0 1).toNatClampNeg) a_1 kf_3 kf_1 hq_4) (cwV 1 hts gX4_copy_X2_become rfl rfl rfl (by decide +kernel) ⟨Nat.le_trans (by decide) hM.1, Nat.le_trans (by decide) hM.2⟩) rfl rfl (Nat.le_of_ble_eq_true rfl) dX4_copy_31) hS (fun H locs hR hS => ?_)
      refine lv_aload_n hx hb dX4_copy_34 rfl (lv_at hl 1 rfl) ?_
      refine lv_dup hx hb dX4_copy_35 rfl ?_
      refine rw_getI X hK hR 5 1 k0 (by decide) (C := RX4) (T := TX4) (N := 8) rfl (by decide) in_X4_copy_5 (by decide +kernel) rfl dX4_copy_36 ?_
      refine lv_dup_x1 hx hb dX4_copy_39 rfl rfl ?_
      refine lv_iconst (v := (1 : Int32)) hx hb dX4_copy_40 (by decide) ?_
      refine lv_iadd hx hb dX4_copy_41 ?_
      refine rw_putI X hK hT hR hS 5 1 tyX4 k0 (by decide) (C := RX4) (T := TX4) (N := 8) rfl (by decide) in_X4_copy_5 tyX4_ok nmX4 (by decide +kernel) rfl rfl (by decide +kernel) dX4_copy_42 (fun σ_5 H locs e_5 hR hS => ?_)
      have h := of_nm e_5 h
      exact rt_i X hR hS (Option.some.inj h) dX4_copy_45
    · have h := of_neg hc h
      refine lv_iconst (v := (-1 : Int32)) hx hb dX4_copy_19 (by decide) ?_
      exact rt_i X hR hS (Option.some.inj h) dX4_copy_20

set_option maxHeartbeats 4000000 in
set_option maxRecDepth 100000 in
theorem c_X4_copy (l : Launch) (cA : Nat → ClassId) (D : va_G) (Λ : Lay) (hT : TL Λ) (σ : Sto) (a0 : Nat) (l1 : Int32) (k0 : isK Λ a0 5) {res : Int32 × Sto} (h : F_X4_copy Λ σ a0 l1 = some res) : Met l yX4_copy wsX4_copy { frames := 3, cells := 0, slots := 0, locals := 67 } (va_Pc [.ref a0, .int l1] (PW cA D Λ σ)) (QI cA D Λ res) 0 0 (dm Λ) := by
  refine Met.ofW (cc := cX4_copy) (maxL := 3) (ret := (some .int)) (by decide) rfl ?_
  intro p e s m args below meth c s₁ B hml hv
  obtain ⟨rfl, hR, hK⟩ := hv
  have X : Cx cX4_copy (some .int) 3 RX4 wsX4_copy p s m _ meth c := ⟨B.exec, B.bytes, B.returns, hml, findClass_of_methodNamed B.named, atoms_spec (ws := wsX4_copy) B.pre, B.notSynchronized⟩
  have hS : va_S (dm Λ) s.heap s.heap [] := va_S.rf
  have hl := lv_entry ([.ref a0, .int l1]) (n := 3) (Nat.le_of_ble_eq_true rfl)
  rw [lg_entry_eq]
  generalize (lg_sl ([.ref a0, .int l1]) ++ List.replicate (3 - (lg_sl ([.ref a0, .int l1])).length) Slot.unset).toArray = ls at hl ⊢
  have hl : lv_has ls 3 [(0, .ref a0), (1, .int l1)] := hl
  exact w_X4_copy X hK hT ⟨Nat.le_refl _, Nat.le_refl _⟩ a0 l1 k0 h s.heap [] ls hR hS hl
theorem in_X4_set_3 : ∀ w ∈ u_ws RX2 TX2 3, w ∈ wsX4_set := by decide +kernel
theorem in_X4_set_5 : ∀ w ∈ u_ws RX4 TX4 8, w ∈ wsX4_set := by decide +kernel
set_option maxHeartbeats 4000000 in
set_option maxRecDepth 100000 in
theorem w_jp_X4_set_78 (X : Cx cX4_set (some .boolean) 8 RX4 wsX4_set p s m args meth c) (hK : Kn cA D s) (hT : TL Λ) (hM : 4 ≤ R.frames ∧ 91 ≤ R.locals)  (ls0 : Int64) (ls1 : Int32) (as2 : Nat) (ks2 : isK Λ as2 8) {res : Int32 × Sto} (h : jp_X4_set_78 Λ σ ls0 ls1 as2 = some res) (H : Heap) (locs : List Loc) (ls : Array Slot) (hR : Rep cA D Λ σ H) (hS : va_S (dm Λ) s.heap H locs) (hl : lv_has ls 8 []) : W p l e R s m args below meth c H locs 0 0 (MQ below (QZ cA D Λ res) args s 0 0 (dm Λ)) (F0 m 78 ls [.long ls0, .int ls1, .ref as2]) := by
  have hx := X.1
  have hb := X.2.1
  have hown := X.2.2.2.2.1
  have hts := X.2.2.2.2.2.1
  unfold jp_X4_set_78 at h
  obtain ⟨hg_9, h⟩ := of_guard h
  refine rw_last X hK hT hR hS ks2 hg_9 dX4_set_78 (fun σ_9 H locs e_9 hR hS => ?_)
  have h := of_nm e_9 h
  refine lv_iconst (v := (1 : Int32)) hx hb dX4_set_79 (by decide) ?_
  exact rt_z X hR hS (Option.some.inj h) (Or.inr rfl) dX4_set_80

set_option maxHeartbeats 4000000 in
set_option maxRecDepth 100000 in
theorem w_X4_set (X : Cx cX4_set (some .boolean) 8 RX4 wsX4_set p s m args meth c) (hK : Kn cA D s) (hT : TL Λ) (hM : 4 ≤ R.frames ∧ 91 ≤ R.locals) (a0 : Nat) (l1 : Int32) (l2 : Int32) (l3 : Int32) (l4 : Int32) (k0 : isK Λ a0 5) {res : Int32 × Sto} (h : F_X4_set Λ σ a0 l1 l2 l3 l4 = some res) (H : Heap) (locs : List Loc) (ls : Array Slot) (hR : Rep cA D Λ σ H) (hS : va_S (dm Λ) s.heap H locs) (hl : lv_has ls 8 [(0, .ref a0), (1, .int l1), (2, .int l2), (3, .int l3), (4, .int l4)]) : W p l e R s m args below meth c H locs 0 0 (MQ below (QZ cA D Λ res) args s 0 0 (dm Λ)) (F0 m 0 ls []) := by
  have hx := X.1
  have hb := X.2.1
  have hown := X.2.2.2.2.1
  have hts := X.2.2.2.2.2.1
  unfold F_X4_set at h
  refine lv_aload_n hx hb dX4_set_0 rfl (lv_at hl 0 rfl) ?_
  refine lv_iload_n hx hb dX4_set_1 rfl (lv_at hl 1 rfl) ?_
  obtain ⟨q_1, hq_1, h⟩ := of_bind h
  refine cl_q (rn_V (As := [.int l1]) (rest := []) X hK hR k0 rfl (by decide) hl.1 (c_X4_find l cA D Λ hT σ a0 l1 k0 hq_1) (cwV 1 hts gX4_set_X4_find rfl rfl rfl (by decide +kernel) ⟨Nat.le_trans (by decide) hM.1, Nat.le_trans (by decide) hM.2⟩) rfl rfl (Nat.le_of_ble_eq_true rfl) dX4_set_2) hS (fun hn_1 H locs hR hS => ?_) (fun a_1 hn_1 kf_1 H locs hR hS => ?_)
  · have h := of_ocn hn_1 h
    refine lv_astoreN (lv' := [(5, .null), (0, .ref a0), (1, .int l1), (2, .int l2), (3, .int l3), (4, .int l4)]) hx hb dX4_set_5 hl (by decide) rfl (fun ls hl => ?_)
    refine lv_aloadN hx hb dX4_set_7 (lv_at hl 0 rfl) ?_
    refine lv_ifnullN (tgt := 22) hx hb dX4_set_9 (by decide) ?_
    refine lv_iconst (v := (0 : Int32)) hx hb dX4_set_22 (by decide) ?_
    exact rt_z X hR hS (Option.some.inj h) (Or.inl rfl) dX4_set_23
  · have h := of_ocs hn_1 h
    refine lv_astore (lv' := [(5, .ref a_1), (0, .ref a0), (1, .int l1), (2, .int l2), (3, .int l3), (4, .int l4)]) hx hb dX4_set_5 hl (by decide) rfl (fun ls hl => ?_)
    refine lv_aload hx hb dX4_set_7 (lv_at hl 0 rfl) ?_
    refine lv_ifnull hx hb dX4_set_9 ?_
    refine lv_aload hx hb dX4_set_12 (lv_at hl 0 rfl) ?_
    refine lv_iload_n hx hb dX4_set_14 rfl (lv_at hl 3 rfl) ?_
    refine lv_iload_n hx hb dX4_set_15 rfl (lv_at hl 4 rfl) ?_
    refine cl_z (rn_V (As := [.int l2, .int l3]) (rest := []) X hK hR kf_1 rfl (by decide) hl.1 (c_X2_hasPoint l cA D Λ hT σ a_1 l2 l3 kf_1) (cwV 2 hts gX4_set_X2_hasPoint rfl rfl rfl (by decide +kernel) ⟨Nat.le_trans (by decide) hM.1, Nat.le_trans (by decide) hM.2⟩) rfl rfl (Nat.le_of_ble_eq_true rfl) dX4_set_16) hS (fun hz_2 H locs hR hS => ?_)
    refine lv_topi (fun r_2 e_2 => ?_)
    have h := of_nm e_2 h
    have hz_2 : r_2 = 0 ∨ r_2 = 1 := by rw [e_2]; exact hz_2
    refine lv_if_ne (tgt := 24) hx hb dX4_set_19 (by decide) (fun hc => ?_) (fun hc => ?_)
    · have h := of_neg hc h
      refine lv_aload_n hx hb dX4_set_24 rfl (lv_at hl 1 rfl) ?_
      refine rw_getR X hK hT hR 5 2 2 k0 (by decide) (C := RX4) (T := TX4) (N := 8) rfl (by decide) in_X4_set_5 (by decide +kernel) rfl dX4_set_25 (fun kf_3 => ?_)
      refine lv_iload_n hx hb dX4_set_28 rfl (lv_at hl 2 rfl) ?_
      refine lv_aload hx hb dX4_set_29 (lv_at hl 0 rfl) ?_
      refine lv_iconst (v := (-1 : Int32)) hx hb dX4_set_31 (by decide) ?_
      obtain ⟨q_4, hq_4, h⟩ := of_bind h
      refine cl_v (rn_V (As := [.int l1, .ref a_1, .int (-1 : Int32)]) (rest := []) X hK hR kf_3 rfl (by decide) hl.1 (c_X1_remember l cA D Λ hT σ (rfA Λ a0 2) l1 a_1 (-1 : Int32) kf_3 kf_1 hq_4) (cwV 3 hts gX4_set_X1_remember rfl rfl rfl (by decide +kernel) ⟨Nat.le_trans (by decide) hM.1, Nat.le_trans (by decide) hM.2⟩) rfl rfl (Nat.le_of_ble_eq_true rfl) dX4_set_32) hS (fun H locs hR hS => ?_)
      refine lv_lconst (v := (1 : Int64)) hx hb dX4_set_35 (by decide) ?_
      refine lv_iload_n hx hb dX4_set_36 rfl (lv_at hl 3 rfl) ?_
      refine lv_lshl (v := (shlL (1 : Int64) l2)) hx hb dX4_set_37 rfl ?_
      refine lv_topl (fun v_5 e_v_5 => ?_)
      have h := of_nm e_v_5 h
      refine lv_lstore (lv' := [(6, .long v_5), (5, .ref a_1), (0, .ref a0), (1, .int l1), (2, .int l2), (3, .int l3), (4, .int l4)]) hx hb dX4_set_38 hl (by decide) rfl (fun ls hl => ?_)
      refine lv_aload hx hb dX4_set_40 (lv_at hl 1 rfl) ?_
      refine rw_getR X hK hT hR 3 2 8 kf_1 (by decide) (C := RX2) (T := TX2) (N := 3) rfl (by decide) in_X4_set_3 (by decide +kernel) rfl dX4_set_42 (fun kf_6 => ?_)
      refine lv_iload_n hx hb dX4_set_45 rfl (lv_at hl 5 rfl) ?_
      refine lv_iload hx hb dX4_set_46 (lv_at hl 6 rfl) ?_
      refine lv_if_eq (tgt := 64) hx hb dX4_set_48 (by decide) (fun hc => ?_) (fun hc => ?_)
      · have h := of_pos hc h
        refine lv_aload hx hb dX4_set_64 (lv_at hl 1 rfl) ?_
        refine rw_getR X hK hT hR 3 2 8 kf_1 (by decide) (C := RX2) (T := TX2) (N := 3) rfl (by decide) in_X4_set_3 (by decide +kernel) rfl dX4_set_66 (fun kf_7 => ?_)
        refine lv_iload_n hx hb dX4_set_69 rfl (lv_at hl 5 rfl) ?_
        obtain ⟨hg_8, h⟩ := of_guard h
        refine rw_lald X hK hR kf_7 hg_8 dX4_set_70 ?_
        refine lv_lload hx hb dX4_set_71 (lv_at hl 0 rfl) ?_
        refine lv_ldc2 (v := (-1 : Int64)) hx hb hown (hts (.constantLong RX4 78 (-1)) (by decide +kernel)) dX4_set_73 ?_
        refine lv_lxor hx hb dX4_set_76 ?_
        refine lv_land hx hb dX4_set_77 ?_
        exact w_jp_X4_set_78 X hK hT hM ((q_4.2 (rfA Λ a_1 2) l3.toNatClampNeg) &&& (v_5 ^^^ (-1 : Int64))) l3 (rfA Λ a_1 2) kf_6 h H locs ls hR hS (lv_sub hl [] rfl)
      · have h := of_neg hc h
        refine lv_aload hx hb dX4_set_51 (lv_at hl 1 rfl) ?_
        refine rw_getR X hK hT hR 3 2 8 kf_1 (by decide) (C := RX2) (T := TX2) (N := 3) rfl (by decide) in_X4_set_3 (by decide +kernel) rfl dX4_set_53 (fun kf_10 => ?_)
        refine lv_iload_n hx hb dX4_set_56 rfl (lv_at hl 5 rfl) ?_
        obtain ⟨hg_11, h⟩ := of_guard h
        refine rw_lald X hK hR kf_10 hg_11 dX4_set_57 ?_
        refine lv_lload hx hb dX4_set_58 (lv_at hl 0 rfl) ?_
        refine lv_lor hx hb dX4_set_60 ?_
        refine lv_goto (tgt := 78) hx hb dX4_set_61 (by decide) ?_
        exact w_jp_X4_set_78 X hK hT hM ((q_4.2 (rfA Λ a_1 2) l3.toNatClampNeg) ||| v_5) l3 (rfA Λ a_1 2) kf_6 h H locs ls hR hS (lv_sub hl [] rfl)
    · have h := of_pos hc h
      refine lv_iconst (v := (0 : Int32)) hx hb dX4_set_22 (by decide) ?_
      exact rt_z X hR hS (Option.some.inj h) (Or.inl rfl) dX4_set_23

set_option maxHeartbeats 4000000 in
set_option maxRecDepth 100000 in
theorem c_X4_set (l : Launch) (cA : Nat → ClassId) (D : va_G) (Λ : Lay) (hT : TL Λ) (σ : Sto) (a0 : Nat) (l1 : Int32) (l2 : Int32) (l3 : Int32) (l4 : Int32) (k0 : isK Λ a0 5) {res : Int32 × Sto} (h : F_X4_set Λ σ a0 l1 l2 l3 l4 = some res) : Met l yX4_set wsX4_set { frames := 4, cells := 0, slots := 0, locals := 91 } (va_Pc [.ref a0, .int l1, .int l2, .int l3, .int l4] (PW cA D Λ σ)) (QZ cA D Λ res) 0 0 (dm Λ) := by
  refine Met.ofW (cc := cX4_set) (maxL := 8) (ret := (some .boolean)) (by decide) rfl ?_
  intro p e s m args below meth c s₁ B hml hv
  obtain ⟨rfl, hR, hK⟩ := hv
  have X : Cx cX4_set (some .boolean) 8 RX4 wsX4_set p s m _ meth c := ⟨B.exec, B.bytes, B.returns, hml, findClass_of_methodNamed B.named, atoms_spec (ws := wsX4_set) B.pre, B.notSynchronized⟩
  have hS : va_S (dm Λ) s.heap s.heap [] := va_S.rf
  have hl := lv_entry ([.ref a0, .int l1, .int l2, .int l3, .int l4]) (n := 8) (Nat.le_of_ble_eq_true rfl)
  rw [lg_entry_eq]
  generalize (lg_sl ([.ref a0, .int l1, .int l2, .int l3, .int l4]) ++ List.replicate (8 - (lg_sl ([.ref a0, .int l1, .int l2, .int l3, .int l4])).length) Slot.unset).toArray = ls at hl ⊢
  have hl : lv_has ls 8 [(0, .ref a0), (1, .int l1), (2, .int l2), (3, .int l3), (4, .int l4)] := hl
  exact w_X4_set X hK hT ⟨Nat.le_refl _, Nat.le_refl _⟩ a0 l1 l2 l3 l4 k0 h s.heap [] ls hR hS hl
theorem in_X4_line_3 : ∀ w ∈ u_ws RX2 TX2 3, w ∈ wsX4_line := by decide +kernel
theorem in_X4_line_5 : ∀ w ∈ u_ws RX4 TX4 8, w ∈ wsX4_line := by decide +kernel
set_option maxHeartbeats 4000000 in
set_option maxRecDepth 100000 in
theorem w_X4_line (X : Cx cX4_line (some .int) 6 RX4 wsX4_line p s m args meth c) (hK : Kn cA D s) (hT : TL Λ) (hM : 4 ≤ R.frames ∧ 91 ≤ R.locals) (a0 : Nat) (l1 : Int32) (l2 : Int32) (l3 : Int64) (k0 : isK Λ a0 5) {res : Int32 × Sto} (h : F_X4_line Λ σ a0 l1 l2 l3 = some res) (H : Heap) (locs : List Loc) (ls : Array Slot) (hR : Rep cA D Λ σ H) (hS : va_S (dm Λ) s.heap H locs) (hl : lv_has ls 6 [(0, .ref a0), (1, .int l1), (2, .int l2), (3, .long l3)]) : W p l e R s m args below meth c H locs 0 0 (MQ below (QI cA D Λ res) args s 0 0 (dm Λ)) (F0 m 0 ls []) := by
  have hx := X.1
  have hb := X.2.1
  have hown := X.2.2.2.2.1
  have hts := X.2.2.2.2.2.1
  unfold F_X4_line at h
  refine lv_aload_n hx hb dX4_line_0 rfl (lv_at hl 0 rfl) ?_
  refine lv_iload_n hx hb dX4_line_1 rfl (lv_at hl 1 rfl) ?_
  obtain ⟨q_1, hq_1, h⟩ := of_bind h
  refine cl_q (rn_V (As := [.int l1]) (rest := []) X hK hR k0 rfl (by decide) hl.1 (c_X4_find l cA D Λ hT σ a0 l1 k0 hq_1) (cwV 1 hts gX4_line_X4_find rfl rfl rfl (by decide +kernel) ⟨Nat.le_trans (by decide) hM.1, Nat.le_trans (by decide) hM.2⟩) rfl rfl (Nat.le_of_ble_eq_true rfl) dX4_line_2) hS (fun hn_1 H locs hR hS => ?_) (fun a_1 hn_1 kf_1 H locs hR hS => ?_)
  · have h := of_ocn hn_1 h
    refine lv_astoreN (lv' := [(5, .null), (0, .ref a0), (1, .int l1), (2, .int l2), (3, .long l3)]) hx hb dX4_line_5 hl (by decide) rfl (fun ls hl => ?_)
    refine lv_aloadN hx hb dX4_line_7 (lv_at hl 0 rfl) ?_
    refine lv_ifnullN (tgt := 21) hx hb dX4_line_9 (by decide) ?_
    refine lv_iconst (v := (-1 : Int32)) hx hb dX4_line_21 (by decide) ?_
    exact rt_i X hR hS (Option.some.inj h) dX4_line_22
  · have h := of_ocs hn_1 h
    refine lv_astore (lv' := [(5, .ref a_1), (0, .ref a0), (1, .int l1), (2, .int l2), (3, .long l3)]) hx hb dX4_line_5 hl (by decide) rfl (fun ls hl => ?_)
    refine lv_aload hx hb dX4_line_7 (lv_at hl 0 rfl) ?_
    refine lv_ifnull hx hb dX4_line_9 ?_
    refine lv_aload hx hb dX4_line_12 (lv_at hl 0 rfl) ?_
    refine lv_iload_n hx hb dX4_line_14 rfl (lv_at hl 3 rfl) ?_
    refine cl_z (rn_V (As := [.int l2]) (rest := []) X hK hR kf_1 rfl (by decide) hl.1 (c_X2_hasRow l cA D Λ hT σ a_1 l2 kf_1) (cwV 1 hts gX4_line_X2_hasRow rfl rfl rfl (by decide +kernel) ⟨Nat.le_trans (by decide) hM.1, Nat.le_trans (by decide) hM.2⟩) rfl rfl (Nat.le_of_ble_eq_true rfl) dX4_line_15) hS (fun hz_2 H locs hR hS => ?_)
    refine lv_topi (fun r_2 e_2 => ?_)
    have h := of_nm e_2 h
    have hz_2 : r_2 = 0 ∨ r_2 = 1 := by rw [e_2]; exact hz_2
    refine lv_if_ne (tgt := 23) hx hb dX4_line_18 (by decide) (fun hc => ?_) (fun hc => ?_)
    · have h := of_neg hc h
      refine lv_aload_n hx hb dX4_line_23 rfl (lv_at hl 1 rfl) ?_
      refine rw_getR X hK hT hR 5 2 2 k0 (by decide) (C := RX4) (T := TX4) (N := 8) rfl (by decide) in_X4_line_5 (by decide +kernel) rfl dX4_line_24 (fun kf_3 => ?_)
      refine lv_iload_n hx hb dX4_line_27 rfl (lv_at hl 2 rfl) ?_
      refine lv_aload hx hb dX4_line_28 (lv_at hl 0 rfl) ?_
      refine lv_iconst (v := (-1 : Int32)) hx hb dX4_line_30 (by decide) ?_
      obtain ⟨q_4, hq_4, h⟩ := of_bind h
      refine cl_v (rn_V (As := [.int l1, .ref a_1, .int (-1 : Int32)]) (rest := []) X hK hR kf_3 rfl (by decide) hl.1 (c_X1_remember l cA D Λ hT σ (rfA Λ a0 2) l1 a_1 (-1 : Int32) kf_3 kf_1 hq_4) (cwV 3 hts gX4_line_X1_remember rfl rfl rfl (by decide +kernel) ⟨Nat.le_trans (by decide) hM.1, Nat.le_trans (by decide) hM.2⟩) rfl rfl (Nat.le_of_ble_eq_true rfl) dX4_line_31) hS (fun H locs hR hS => ?_)
      refine lv_aload hx hb dX4_line_34 (lv_at hl 0 rfl) ?_
      refine rw_getR X hK hT hR 3 2 8 kf_1 (by decide) (C := RX2) (T := TX2) (N := 3) rfl (by decide) in_X4_line_3 (by decide +kernel) rfl dX4_line_36 (fun kf_5 => ?_)
      refine lv_iload_n hx hb dX4_line_39 rfl (lv_at hl 3 rfl) ?_
      refine lv_lload_n hx hb dX4_line_40 rfl (lv_at hl 4 rfl) ?_
      refine lv_aload hx hb dX4_line_41 (lv_at hl 0 rfl) ?_
      refine cl_l (rn_V (As := []) (rest := [.long l3, .int l2, .ref (rfA Λ a_1 2)]) X hK hR kf_1 rfl (by decide) hl.1 (c_X2_allColumns l cA D Λ hT q_4 a_1 kf_1) (cwV 0 hts gX4_line_X2_allColumns rfl rfl rfl (by decide +kernel) ⟨Nat.le_trans (by decide) hM.1, Nat.le_trans (by decide) hM.2⟩) rfl rfl (Nat.le_of_ble_eq_true rfl) dX4_line_43) hS (fun H locs hR hS => ?_)
      refine lv_topl (fun r_6 e_6 => ?_)
      have h := of_nm e_6 h
      refine lv_land hx hb dX4_line_46 ?_
      obtain ⟨hg_7, h⟩ := of_guard h
      refine rw_last X hK hT hR hS kf_5 hg_7 dX4_line_47 (fun σ_7 H locs e_7 hR hS => ?_)
      have h := of_nm e_7 h
      refine lv_aload hx hb dX4_line_48 (lv_at hl 0 rfl) ?_
      refine rw_getR X hK hT hR 3 2 8 kf_1 (by decide) (C := RX2) (T := TX2) (N := 3) rfl (by decide) in_X4_line_3 (by decide +kernel) rfl dX4_line_50 (fun kf_8 => ?_)
      refine lv_iload_n hx hb dX4_line_53 rfl (lv_at hl 3 rfl) ?_
      obtain ⟨hg_9, h⟩ := of_guard h
      refine rw_lald X hK hR kf_8 hg_9 dX4_line_54 ?_
      refine cl_i (rn_S (As := [.long (σ_7.2 (rfA Λ a_1 2) l2.toNatClampNeg)]) (rest := []) X hK hR hl.1 (c_J13_bitCount_95d88 l cA D Λ hT σ_7 (σ_7.2 (rfA Λ a_1 2) l2.toNatClampNeg)) (va_cwS 1 hts gX4_line_J13_bitCount_95d88 rfl rfl rfl (by decide +kernel) ⟨Nat.le_trans (by decide) hM.1, Nat.le_trans (by decide) hM.2⟩) rfl rfl (Nat.le_of_ble_eq_true rfl) dX4_line_55) hS (fun H locs hR hS => ?_)
      refine lv_topi (fun r_10 e_10 => ?_)
      have h := of_nm e_10 h
      exact rt_i X hR hS (Option.some.inj h) dX4_line_58
    · have h := of_pos hc h
      refine lv_iconst (v := (-1 : Int32)) hx hb dX4_line_21 (by decide) ?_
      exact rt_i X hR hS (Option.some.inj h) dX4_line_22

set_option maxHeartbeats 4000000 in
set_option maxRecDepth 100000 in
theorem c_X4_line (l : Launch) (cA : Nat → ClassId) (D : va_G) (Λ : Lay) (hT : TL Λ) (σ : Sto) (a0 : Nat) (l1 : Int32) (l2 : Int32) (l3 : Int64) (k0 : isK Λ a0 5) {res : Int32 × Sto} (h : F_X4_line Λ σ a0 l1 l2 l3 = some res) : Met l yX4_line wsX4_line { frames := 4, cells := 0, slots := 0, locals := 91 } (va_Pc [.ref a0, .int l1, .int l2, .long l3] (PW cA D Λ σ)) (QI cA D Λ res) 0 0 (dm Λ) := by
  refine Met.ofW (cc := cX4_line) (maxL := 6) (ret := (some .int)) (by decide) rfl ?_
  intro p e s m args below meth c s₁ B hml hv
  obtain ⟨rfl, hR, hK⟩ := hv
  have X : Cx cX4_line (some .int) 6 RX4 wsX4_line p s m _ meth c := ⟨B.exec, B.bytes, B.returns, hml, findClass_of_methodNamed B.named, atoms_spec (ws := wsX4_line) B.pre, B.notSynchronized⟩
  have hS : va_S (dm Λ) s.heap s.heap [] := va_S.rf
  have hl := lv_entry ([.ref a0, .int l1, .int l2, .long l3]) (n := 6) (Nat.le_of_ble_eq_true rfl)
  rw [lg_entry_eq]
  generalize (lg_sl ([.ref a0, .int l1, .int l2, .long l3]) ++ List.replicate (6 - (lg_sl ([.ref a0, .int l1, .int l2, .long l3])).length) Slot.unset).toArray = ls at hl ⊢
  have hl : lv_has ls 6 [(0, .ref a0), (1, .int l1), (2, .int l2), (3, .long l3)] := hl
  exact w_X4_line X hK hT ⟨Nat.le_refl _, Nat.le_refl _⟩ a0 l1 l2 l3 k0 h s.heap [] ls hR hS hl
set_option maxHeartbeats 4000000 in
set_option maxRecDepth 100000 in
theorem w_X4_entryBits (X : Cx cX4_entryBits (some .long) 1 RX4 wsX4_entryBits p s m args meth c) (hK : Kn cA D s) (hT : TL Λ) (hM : 0 ≤ R.frames ∧ 0 ≤ R.locals) (l0 : Int32) {res : Int64} (h : F_X4_entryBits l0 = res) (H : Heap) (locs : List Loc) (ls : Array Slot) (hR : Rep cA D Λ σ H) (hS : va_S (dm Λ) s.heap H locs) (hl : lv_has ls 1 [(0, .int l0)]) : W p l e R s m args below meth c H locs 0 0 (MQ below (QL cA D Λ (res, σ)) args s 0 0 (dm Λ)) (F0 m 0 ls []) := by
  have hx := X.1
  have hb := X.2.1
  have hown := X.2.2.2.2.1
  have hts := X.2.2.2.2.2.1
  unfold F_X4_entryBits at h
  refine lv_iload_n hx hb dX4_entryBits_0 rfl (lv_at hl 0 rfl) ?_
  refine lv_if_ne (tgt := 10) hx hb dX4_entryBits_1 (by decide) (fun hc => ?_) (fun hc => ?_)
  · have h := of_neg hc h
    refine lv_iload_n hx hb dX4_entryBits_10 rfl (lv_at hl 0 rfl) ?_
    refine lv_iconst (v := (1 : Int32)) hx hb dX4_entryBits_11 (by decide) ?_
    refine lv_icmp_ne (tgt := 21) hx hb dX4_entryBits_12 (by decide) (fun hc => ?_) (fun hc => ?_)
    · have h := of_neg hc h
      refine lv_iload_n hx hb dX4_entryBits_21 rfl (lv_at hl 0 rfl) ?_
      refine lv_iconst (v := (2 : Int32)) hx hb dX4_entryBits_22 (by decide) ?_
      refine lv_icmp_ne (tgt := 32) hx hb dX4_entryBits_23 (by decide) (fun hc => ?_) (fun hc => ?_)
      · have h := of_neg hc h
        refine lv_ldc2 (v := (-1 : Int64)) hx hb hown (hts (.constantLong RX4 78 (-1)) (by decide +kernel)) dX4_entryBits_32 ?_
        exact rt_l X hR hS (congrArg (fun z => (z, σ)) h) dX4_entryBits_35
      · have h := of_pos hc h
        refine lv_ldc2 (v := (4294967295 : Int64)) hx hb hown (hts (.constantLong RX4 242 (4294967295)) (by decide +kernel)) dX4_entryBits_26 ?_
        refine lv_goto (tgt := 35) hx hb dX4_entryBits_29 (by decide) ?_
        exact rt_l X hR hS (congrArg (fun z => (z, σ)) h) dX4_entryBits_35
    · have h := of_pos hc h
      refine lv_ldc2 (v := (65535 : Int64)) hx hb hown (hts (.constantLong RX4 240 (65535)) (by decide +kernel)) dX4_entryBits_15 ?_
      refine lv_goto (tgt := 35) hx hb dX4_entryBits_18 (by decide) ?_
      exact rt_l X hR hS (congrArg (fun z => (z, σ)) h) dX4_entryBits_35
  · have h := of_pos hc h
    refine lv_ldc2 (v := (255 : Int64)) hx hb hown (hts (.constantLong RX4 238 (255)) (by decide +kernel)) dX4_entryBits_4 ?_
    refine lv_goto (tgt := 35) hx hb dX4_entryBits_7 (by decide) ?_
    exact rt_l X hR hS (congrArg (fun z => (z, σ)) h) dX4_entryBits_35

set_option maxHeartbeats 4000000 in
set_option maxRecDepth 100000 in
theorem c_X4_entryBits (l : Launch) (cA : Nat → ClassId) (D : va_G) (Λ : Lay) (hT : TL Λ) (σ : Sto) (l0 : Int32) : Met l yX4_entryBits wsX4_entryBits { frames := 0, cells := 0, slots := 0, locals := 0 } (va_Pc [.int l0] (PW cA D Λ σ)) (QL cA D Λ ((F_X4_entryBits l0), σ)) 0 0 (dm Λ) := by
  refine Met.ofW (cc := cX4_entryBits) (maxL := 1) (ret := (some .long)) (by decide) rfl ?_
  intro p e s m args below meth c s₁ B hml hv
  obtain ⟨rfl, hR, hK⟩ := hv
  have X : Cx cX4_entryBits (some .long) 1 RX4 wsX4_entryBits p s m _ meth c := ⟨B.exec, B.bytes, B.returns, hml, findClass_of_methodNamed B.named, atoms_spec (ws := wsX4_entryBits) B.pre, B.notSynchronized⟩
  have hS : va_S (dm Λ) s.heap s.heap [] := va_S.rf
  have hl := lv_entry ([.int l0]) (n := 1) (Nat.le_of_ble_eq_true rfl)
  rw [lg_entry_eq]
  generalize (lg_sl ([.int l0]) ++ List.replicate (1 - (lg_sl ([.int l0])).length) Slot.unset).toArray = ls at hl ⊢
  have hl : lv_has ls 1 [(0, .int l0)] := hl
  exact w_X4_entryBits X hK hT ⟨Nat.le_refl _, Nat.le_refl _⟩ l0 rfl s.heap [] ls hR hS hl
theorem in_X4_lay_3 : ∀ w ∈ u_ws RX2 TX2 3, w ∈ wsX4_lay := by decide +kernel
theorem in_X4_lay_5 : ∀ w ∈ u_ws RX4 TX4 8, w ∈ wsX4_lay := by decide +kernel
set_option maxHeartbeats 4000000 in
set_option maxRecDepth 100000 in
theorem w_bd_X4_lay_95 (X : Cx cX4_lay (some .int) 14 RX4 wsX4_lay p s m args meth c) (hK : Kn cA D s) (hT : TL Λ) (hM : 2 ≤ R.frames ∧ 43 ≤ R.locals) (l2 : Int32) (l5 : Int64) (l7 : Int64) (a9 : Nat) (l10 : Int32) (l11 : Int64) (s9 : (Int32 × Sto)) (k9 : isK Λ a9 3) {r : (Int32 × Sto) ⊕ Sto} (h : bd_X4_lay_95 Λ l2 l5 l7 a9 l10 l11 s9 = some r) (kb : ∀ z : (Int32 × Sto), r = .inl z → ∀ (H : Heap) (locs : List Loc) (ls : Array Slot), Rep cA D Λ z.2 H → va_S (dm Λ) s.heap H locs → lv_has ls 14 [(2, .int l2), (5, .long l5), (7, .long l7), (9, .ref a9), (10, .int l10), (11, .long l11), (13, .int z.1)] → W p l e R s m args below meth c H locs 0 0 Q (F0 m 95 ls [])) (kx0 : ∀ z : Sto, r = .inr z → ∀ (H : Heap) (locs : List Loc) (ls : Array Slot), Rep cA D Λ z H → va_S (dm Λ) s.heap H locs → lv_has ls 14 [(10, .int l10)] → W p l e R s m args below meth c H locs 0 0 Q (F0 m 130 ls [])) (H : Heap) (locs : List Loc) (ls : Array Slot) (hR : Rep cA D Λ s9.2 H) (hS : va_S (dm Λ) s.heap H locs) (hl : lv_has ls 14 [(2, .int l2), (5, .long l5), (7, .long l7), (9, .ref a9), (10, .int l10), (11, .long l11), (13, .int s9.1)]) : W p l e R s m args below meth c H locs 0 0 Q (F0 m 95 ls []) := by
  have hx := X.1
  have hb := X.2.1
  have hown := X.2.2.2.2.1
  have hts := X.2.2.2.2.2.1
  unfold bd_X4_lay_95 at h
  refine lv_iload hx hb dX4_lay_95 (lv_at hl 6 rfl) ?_
  refine lv_iload hx hb dX4_lay_97 (lv_at hl 4 rfl) ?_
  refine lv_icmp_ge (tgt := 130) hx hb dX4_lay_99 (by decide) (fun hc => ?_) (fun hc => ?_)
  · have h := of_pos hc h
    exact kx0 s9.2 (Option.some.inj h).symm H locs ls hR hS (lv_sub hl [4] rfl)
  · have h := of_neg hc h
    refine lv_aload hx hb dX4_lay_102 (lv_at hl 3 rfl) ?_
    refine rw_getR X hK hT hR 3 2 8 k9 (by decide) (C := RX2) (T := TX2) (N := 3) rfl (by decide) in_X4_lay_3 (by decide +kernel) rfl dX4_lay_104 (fun kf_10 => ?_)
    refine lv_iload_n hx hb dX4_lay_107 rfl (lv_at hl 0 rfl) ?_
    refine lv_iload hx hb dX4_lay_108 (lv_at hl 6 rfl) ?_
    refine lv_iadd hx hb dX4_lay_110 ?_
    refine lv_lload hx hb dX4_lay_111 (lv_at hl 1 rfl) ?_
    refine lv_iload hx hb dX4_lay_113 (lv_at hl 6 rfl) ?_
    refine lv_i2l (v := (s9.1.toInt64)) hx hb dX4_lay_115 rfl ?_
    refine lv_lload hx hb dX4_lay_116 (lv_at hl 2 rfl) ?_
    refine lv_lmul hx hb dX4_lay_118 ?_
    refine lv_ladd hx hb dX4_lay_119 ?_
    refine lv_lload hx hb dX4_lay_120 (lv_at hl 5 rfl) ?_
    refine lv_land hx hb dX4_lay_122 ?_
    obtain ⟨hg_11, h⟩ := of_guard h
    refine rw_last X hK hT hR hS kf_10 hg_11 dX4_lay_123 (fun σ_11 H locs e_11 hR hS => ?_)
    have h := of_nm e_11 h
    obtain ⟨v_12, e_v_12⟩ : ∃ y : Int32, y = (s9.1 + (1 : Int32)) := ⟨_, rfl⟩
    have h := of_nm e_v_12 h
    refine lv_iinc (v := v_12) (lv' := [(13, .int v_12), (2, .int l2), (5, .long l5), (7, .long l7), (9, .ref a9), (10, .int l10), (11, .long l11)]) hx hb dX4_lay_124 hl (k := 6) rfl (by rw [e_v_12]; rfl) (by decide) rfl (fun ls hl => ?_)
    refine lv_goto (tgt := 95) hx hb dX4_lay_127 (by decide) ?_
    exact kb (v_12, σ_11) (Option.some.inj h).symm H locs ls hR hS (lv_sub hl [1, 2, 3, 4, 5, 6, 0] rfl)

set_option maxHeartbeats 4000000 in
set_option maxRecDepth 100000 in
theorem w_lp_X4_lay_95 (X : Cx cX4_lay (some .int) 14 RX4 wsX4_lay p s m args meth c) (hK : Kn cA D s) (hT : TL Λ) (hM : 2 ≤ R.frames ∧ 43 ≤ R.locals) (l2 : Int32) (l5 : Int64) (l7 : Int64) (a9 : Nat) (l10 : Int32) (l11 : Int64) (k9 : isK Λ a9 3) {e9 : Sto} : ∀ (n9 : Nat) (s9 : (Int32 × Sto)), iter (bd_X4_lay_95 Λ l2 l5 l7 a9 l10 l11) n9 s9 = some e9 → ∀ (kx0 : ∀ (H : Heap) (locs : List Loc) (ls : Array Slot), Rep cA D Λ e9 H → va_S (dm Λ) s.heap H locs → lv_has ls 14 [(10, .int l10)] → W p l e R s m args below meth c H locs 0 0 Q (F0 m 130 ls [])), ∀ (H : Heap) (locs : List Loc) (ls : Array Slot), Rep cA D Λ s9.2 H → va_S (dm Λ) s.heap H locs → lv_has ls 14 [(2, .int l2), (5, .long l5), (7, .long l7), (9, .ref a9), (10, .int l10), (11, .long l11), (13, .int s9.1)] → W p l e R s m args below meth c H locs 0 0 Q (F0 m 95 ls []) := by
  intro n9
  induction n9 with
  | zero => intro s9 h; cases h
  | succ n9 ih =>
    intro s9 h kx0 H locs ls hR hS hl
    obtain ⟨r, hr, h⟩ := of_iter h
    refine w_bd_X4_lay_95 X hK hT hM l2 l5 l7 a9 l10 l11 s9 k9 hr (fun z ez H locs ls hR hS hl => ?_) (fun z ez H locs ls hR hS hl => ?_) H locs ls hR hS hl
    · exact ih z (of_itl ez h) kx0 H locs ls hR hS hl
    · have he := of_itr ez h; subst he; exact kx0 H locs ls hR hS hl

set_option maxHeartbeats 4000000 in
set_option maxRecDepth 100000 in
theorem w_jp_X4_lay_52 (X : Cx cX4_lay (some .int) 14 RX4 wsX4_lay p s m args meth c) (hK : Kn cA D s) (hT : TL Λ) (hM : 2 ≤ R.frames ∧ 43 ≤ R.locals) (a0 : Nat) (l2 : Int32) (l3 : Int32) (l4 : Int32) (l5 : Int64) (l7 : Int64) (a9 : Nat)  (k0 : isK Λ a0 5) (k9 : isK Λ a9 3) {res : Int32 × Sto} (h : jp_X4_lay_52 Λ σ a0 l2 l3 l4 l5 l7 a9 = some res) (H : Heap) (locs : List Loc) (ls : Array Slot) (hR : Rep cA D Λ σ H) (hS : va_S (dm Λ) s.heap H locs) (hl : lv_has ls 14 [(0, .ref a0), (2, .int l2), (3, .int l3), (4, .int l4), (5, .long l5), (7, .long l7), (9, .ref a9)]) : W p l e R s m args below meth c H locs 0 0 (MQ below (QI cA D Λ res) args s 0 0 (dm Λ)) (F0 m 52 ls []) := by
  have hx := X.1
  have hb := X.2.1
  have hown := X.2.2.2.2.1
  have hts := X.2.2.2.2.2.1
  unfold jp_X4_lay_52 at h
  refine lv_aload_n hx hb dX4_lay_52 rfl (lv_at hl 0 rfl) ?_
  refine rw_getR X hK hT hR 5 2 2 k0 (by decide) (C := RX4) (T := TX4) (N := 8) rfl (by decide) in_X4_lay_5 (by decide +kernel) rfl dX4_lay_53 (fun kf_4 => ?_)
  refine cl_v (rn_V (As := []) (rest := []) X hK hR kf_4 rfl (by decide) hl.1 (c_X1_forget l cA D Λ hT σ (rfA Λ a0 2) kf_4) (cwV 0 hts gX4_lay_X1_forget rfl rfl rfl (by decide +kernel) ⟨Nat.le_trans (by decide) hM.1, Nat.le_trans (by decide) hM.2⟩) rfl rfl (Nat.le_of_ble_eq_true rfl) dX4_lay_56) hS (fun H locs hR hS => ?_)
  obtain ⟨σ_5, e_5⟩ : ∃ y : Sto, y = F_X1_forget Λ σ (rfA Λ a0 2) := ⟨_, rfl⟩
  have h := of_nm e_5 h
  rw [← e_5] at hR
  refine lv_iload_n hx hb dX4_lay_59 rfl (lv_at hl 2 rfl) ?_
  refine lv_iconst (v := (4 : Int32)) hx hb dX4_lay_60 (by decide) ?_
  refine lv_icmp_ne (tgt := 66) hx hb dX4_lay_61 (by decide) (fun hc => ?_) (fun hc => ?_)
  · have h := of_neg hc h
    refine lv_iload hx hb dX4_lay_66 (lv_at hl 3 rfl) ?_
    refine lv_aload hx hb dX4_lay_68 (lv_at hl 6 rfl) ?_
    refine rw_getI X hK hR 3 1 k9 (by decide) (C := RX2) (T := TX2) (N := 3) rfl (by decide) in_X4_lay_3 (by decide +kernel) rfl dX4_lay_70 ?_
    refine lv_iload_n hx hb dX4_lay_73 rfl (lv_at hl 1 rfl) ?_
    refine lv_isub hx hb dX4_lay_74 ?_
    refine va_mmin hx hb (X.2.2.2.1.trans hl.1.symm) hown (hts (.methodLink RX4 100 Lib.Math.min.name) (by decide +kernel)) (hts (.static Lib.Math.min.name) (by decide +kernel)) (hts (.initialized "java/lang/Math") (by decide +kernel)) (hts (.code Lib.Math.min.name Lib.Math.min.code 2 (some .int)) (by decide +kernel)) (Nat.le_trans (by decide) hM.1) (Nat.le_trans (Nat.le_of_ble_eq_true rfl) hM.2) (Nat.zero_le _) (Nat.zero_le _) dX4_lay_75 ?_
    refine lv_topi (fun r_6 e_6 => ?_)
    have h := of_nm e_6 h
    refine lv_istore (lv' := [(10, .int r_6), (0, .ref a0), (2, .int l2), (3, .int l3), (4, .int l4), (5, .long l5), (7, .long l7), (9, .ref a9)]) hx hb dX4_lay_78 hl (by decide) rfl (fun ls hl => ?_)
    refine lv_iload_n hx hb dX4_lay_80 rfl (lv_at hl 3 rfl) ?_
    refine cl_l (rn_S (As := [.int l3]) (rest := []) X hK hR hl.1 (c_X4_entryBits l cA D Λ hT σ_5 l3) (va_cwS 1 hts gX4_lay_X4_entryBits rfl rfl rfl (by decide +kernel) ⟨Nat.le_trans (by decide) hM.1, Nat.le_trans (by decide) hM.2⟩) rfl rfl (Nat.le_of_ble_eq_true rfl) dX4_lay_81) hS (fun H locs hR hS => ?_)
    refine lv_topl (fun r_7 e_7 => ?_)
    have h := of_nm e_7 h
    refine lv_aload hx hb dX4_lay_84 (lv_at hl 7 rfl) ?_
    refine cl_l (rn_V (As := []) (rest := [.long r_7]) X hK hR k9 rfl (by decide) hl.1 (c_X2_allColumns l cA D Λ hT σ_5 a9 k9) (cwV 0 hts gX4_lay_X2_allColumns rfl rfl rfl (by decide +kernel) ⟨Nat.le_trans (by decide) hM.1, Nat.le_trans (by decide) hM.2⟩) rfl rfl (Nat.le_of_ble_eq_true rfl) dX4_lay_86) hS (fun H locs hR hS => ?_)
    refine lv_topl (fun r_8 e_8 => ?_)
    have h := of_nm e_8 h
    refine lv_land hx hb dX4_lay_89 ?_
    refine lv_topl (fun v_9 e_v_9 => ?_)
    have h := of_nm e_v_9 h
    refine lv_lstore (lv' := [(11, .long v_9), (10, .int r_6), (0, .ref a0), (2, .int l2), (3, .int l3), (4, .int l4), (5, .long l5), (7, .long l7), (9, .ref a9)]) hx hb dX4_lay_90 hl (by decide) rfl (fun ls hl => ?_)
    refine lv_iconst (v := (0 : Int32)) hx hb dX4_lay_92 (by decide) ?_
    refine lv_istore (lv' := [(13, .int (0 : Int32)), (11, .long v_9), (10, .int r_6), (0, .ref a0), (2, .int l2), (3, .int l3), (4, .int l4), (5, .long l5), (7, .long l7), (9, .ref a9)]) hx hb dX4_lay_93 hl (by decide) rfl (fun ls hl => ?_)
    obtain ⟨e_13, hq_13, h⟩ := of_bind h
    refine w_lp_X4_lay_95 X hK hT hM l2 l5 l7 a9 r_6 v_9 k9 _ ((0 : Int32), σ_5) hq_13 (fun H locs ls hR hS hl => ?_) H locs ls hR hS (lv_sub hl [4, 7, 8, 9, 2, 1, 0] rfl)
    refine lv_iload hx hb dX4_lay_130 (lv_at hl 0 rfl) ?_
    exact rt_i X hR hS (Option.some.inj h) dX4_lay_132
  · have h := of_pos hc h
    refine lv_iconst (v := (0 : Int32)) hx hb dX4_lay_64 (by decide) ?_
    exact rt_i X hR hS (Option.some.inj h) dX4_lay_65

set_option maxHeartbeats 4000000 in
set_option maxRecDepth 100000 in
theorem w_X4_lay (X : Cx cX4_lay (some .int) 14 RX4 wsX4_lay p s m args meth c) (hK : Kn cA D s) (hT : TL Λ) (hM : 2 ≤ R.frames ∧ 43 ≤ R.locals) (a0 : Nat) (l1 : Int32) (l2 : Int32) (l3 : Int32) (l4 : Int32) (l5 : Int64) (l7 : Int64) (k0 : isK Λ a0 5) {res : Int32 × Sto} (h : F_X4_lay Λ σ a0 l1 l2 l3 l4 l5 l7 = some res) (H : Heap) (locs : List Loc) (ls : Array Slot) (hR : Rep cA D Λ σ H) (hS : va_S (dm Λ) s.heap H locs) (hl : lv_has ls 14 [(0, .ref a0), (1, .int l1), (2, .int l2), (3, .int l3), (4, .int l4), (5, .long l5), (7, .long l7)]) : W p l e R s m args below meth c H locs 0 0 (MQ below (QI cA D Λ res) args s 0 0 (dm Λ)) (F0 m 0 ls []) := by
  have hx := X.1
  have hb := X.2.1
  have hown := X.2.2.2.2.1
  have hts := X.2.2.2.2.2.1
  unfold F_X4_lay at h
  refine lv_aload_n hx hb dX4_lay_0 rfl (lv_at hl 0 rfl) ?_
  refine lv_iload_n hx hb dX4_lay_1 rfl (lv_at hl 1 rfl) ?_
  obtain ⟨q_1, hq_1, h⟩ := of_bind h
  refine cl_q (rn_V (As := [.int l1]) (rest := []) X hK hR k0 rfl (by decide) hl.1 (c_X4_find l cA D Λ hT σ a0 l1 k0 hq_1) (cwV 1 hts gX4_lay_X4_find rfl rfl rfl (by decide +kernel) ⟨Nat.le_trans (by decide) hM.1, Nat.le_trans (by decide) hM.2⟩) rfl rfl (Nat.le_of_ble_eq_true rfl) dX4_lay_2) hS (fun hn_1 H locs hR hS => ?_) (fun a_1 hn_1 kf_1 H locs hR hS => ?_)
  · have h := of_ocn hn_1 h
    refine lv_astoreN (lv' := [(9, .null), (0, .ref a0), (1, .int l1), (2, .int l2), (3, .int l3), (4, .int l4), (5, .long l5), (7, .long l7)]) hx hb dX4_lay_5 hl (by decide) rfl (fun ls hl => ?_)
    refine lv_aloadN hx hb dX4_lay_7 (lv_at hl 0 rfl) ?_
    refine lv_ifnullN (tgt := 37) hx hb dX4_lay_9 (by decide) ?_
    refine lv_iconst (v := (-1 : Int32)) hx hb dX4_lay_37 (by decide) ?_
    exact rt_i X hR hS (Option.some.inj h) dX4_lay_38
  · have h := of_ocs hn_1 h
    refine lv_astore (lv' := [(9, .ref a_1), (0, .ref a0), (1, .int l1), (2, .int l2), (3, .int l3), (4, .int l4), (5, .long l5), (7, .long l7)]) hx hb dX4_lay_5 hl (by decide) rfl (fun ls hl => ?_)
    refine lv_aload hx hb dX4_lay_7 (lv_at hl 0 rfl) ?_
    refine lv_ifnull hx hb dX4_lay_9 ?_
    refine lv_aload hx hb dX4_lay_12 (lv_at hl 0 rfl) ?_
    refine lv_iload_n hx hb dX4_lay_14 rfl (lv_at hl 3 rfl) ?_
    refine cl_z (rn_V (As := [.int l2]) (rest := []) X hK hR kf_1 rfl (by decide) hl.1 (c_X2_hasRow l cA D Λ hT σ a_1 l2 kf_1) (cwV 1 hts gX4_lay_X2_hasRow rfl rfl rfl (by decide +kernel) ⟨Nat.le_trans (by decide) hM.1, Nat.le_trans (by decide) hM.2⟩) rfl rfl (Nat.le_of_ble_eq_true rfl) dX4_lay_15) hS (fun hz_2 H locs hR hS => ?_)
    refine lv_topi (fun r_2 e_2 => ?_)
    have h := of_nm e_2 h
    have hz_2 : r_2 = 0 ∨ r_2 = 1 := by rw [e_2]; exact hz_2
    refine lv_if_eq (tgt := 37) hx hb dX4_lay_18 (by decide) (fun hc => ?_) (fun hc => ?_)
    · have h := of_pos hc h
      refine lv_iconst (v := (-1 : Int32)) hx hb dX4_lay_37 (by decide) ?_
      exact rt_i X hR hS (Option.some.inj h) dX4_lay_38
    · have h := of_neg hc h
      refine lv_iload_n hx hb dX4_lay_21 rfl (lv_at hl 4 rfl) ?_
      refine lv_iconst (v := (0 : Int32)) hx hb dX4_lay_22 (by decide) ?_
      refine lv_iconst (v := (4 : Int32)) hx hb dX4_lay_23 (by decide) ?_
      refine cl_z (rn_S (As := [.int l3, .int (0 : Int32), .int (4 : Int32)]) (rest := []) X hK hR hl.1 (c_X4_within l cA D Λ hT σ l3 (0 : Int32) (4 : Int32)) (va_cwS 3 hts gX4_lay_X4_within rfl rfl rfl (by decide +kernel) ⟨Nat.le_trans (by decide) hM.1, Nat.le_trans (by decide) hM.2⟩) rfl rfl (Nat.le_of_ble_eq_true rfl) dX4_lay_24) hS (fun hz_3 H locs hR hS => ?_)
      refine lv_topi (fun r_3 e_3 => ?_)
      have h := of_nm e_3 h
      have hz_3 : r_3 = 0 ∨ r_3 = 1 := by rw [e_3]; exact hz_3
      refine lv_if_eq (tgt := 37) hx hb dX4_lay_27 (by decide) (fun hc => ?_) (fun hc => ?_)
      · have h := of_pos hc h
        refine lv_iconst (v := (-1 : Int32)) hx hb dX4_lay_37 (by decide) ?_
        exact rt_i X hR hS (Option.some.inj h) dX4_lay_38
      · have h := of_neg hc h
        refine lv_iload hx hb dX4_lay_30 (lv_at hl 5 rfl) ?_
        refine lv_bipush (v := (64 : Int32)) hx hb dX4_lay_32 (by decide) ?_
        refine lv_icmp_le (tgt := 39) hx hb dX4_lay_34 (by decide) (fun hc => ?_) (fun hc => ?_)
        · have h := of_pos hc h
          refine lv_iload hx hb dX4_lay_39 (lv_at hl 5 rfl) ?_
          refine lv_if_ge (tgt := 52) hx hb dX4_lay_41 (by decide) (fun hc => ?_) (fun hc => ?_)
          · have h := of_pos hc h
            exact w_jp_X4_lay_52 X hK hT hM a0 l2 l3 l4 l5 l7 a_1 k0 kf_1 h H locs ls hR hS (lv_sub hl [1, 3, 4, 5, 6, 7, 0] rfl)
          · have h := of_neg hc h
            refine lv_iload_n hx hb dX4_lay_44 rfl (lv_at hl 4 rfl) ?_
            refine lv_iconst (v := (4 : Int32)) hx hb dX4_lay_45 (by decide) ?_
            refine lv_icmp_eq (tgt := 52) hx hb dX4_lay_46 (by decide) (fun hc => ?_) (fun hc => ?_)
            · have h := of_pos hc h
              exact w_jp_X4_lay_52 X hK hT hM a0 l2 l3 l4 l5 l7 a_1 k0 kf_1 h H locs ls hR hS (lv_sub hl [1, 3, 4, 5, 6, 7, 0] rfl)
            · have h := of_neg hc h
              refine lv_bipush (v := (-2 : Int32)) hx hb dX4_lay_49 (by decide) ?_
              exact rt_i X hR hS (Option.some.inj h) dX4_lay_51
        · have h := of_neg hc h
          refine lv_iconst (v := (-1 : Int32)) hx hb dX4_lay_37 (by decide) ?_
          exact rt_i X hR hS (Option.some.inj h) dX4_lay_38

set_option maxHeartbeats 4000000 in
set_option maxRecDepth 100000 in
theorem c_X4_lay (l : Launch) (cA : Nat → ClassId) (D : va_G) (Λ : Lay) (hT : TL Λ) (σ : Sto) (a0 : Nat) (l1 : Int32) (l2 : Int32) (l3 : Int32) (l4 : Int32) (l5 : Int64) (l7 : Int64) (k0 : isK Λ a0 5) {res : Int32 × Sto} (h : F_X4_lay Λ σ a0 l1 l2 l3 l4 l5 l7 = some res) : Met l yX4_lay wsX4_lay { frames := 2, cells := 0, slots := 0, locals := 43 } (va_Pc [.ref a0, .int l1, .int l2, .int l3, .int l4, .long l5, .long l7] (PW cA D Λ σ)) (QI cA D Λ res) 0 0 (dm Λ) := by
  refine Met.ofW (cc := cX4_lay) (maxL := 14) (ret := (some .int)) (by decide) rfl ?_
  intro p e s m args below meth c s₁ B hml hv
  obtain ⟨rfl, hR, hK⟩ := hv
  have X : Cx cX4_lay (some .int) 14 RX4 wsX4_lay p s m _ meth c := ⟨B.exec, B.bytes, B.returns, hml, findClass_of_methodNamed B.named, atoms_spec (ws := wsX4_lay) B.pre, B.notSynchronized⟩
  have hS : va_S (dm Λ) s.heap s.heap [] := va_S.rf
  have hl := lv_entry ([.ref a0, .int l1, .int l2, .int l3, .int l4, .long l5, .long l7]) (n := 14) (Nat.le_of_ble_eq_true rfl)
  rw [lg_entry_eq]
  generalize (lg_sl ([.ref a0, .int l1, .int l2, .int l3, .int l4, .long l5, .long l7]) ++ List.replicate (14 - (lg_sl ([.ref a0, .int l1, .int l2, .int l3, .int l4, .long l5, .long l7])).length) Slot.unset).toArray = ls at hl ⊢
  have hl : lv_has ls 14 [(0, .ref a0), (1, .int l1), (2, .int l2), (3, .int l3), (4, .int l4), (5, .long l5), (7, .long l7)] := hl
  exact w_X4_lay X hK hT ⟨Nat.le_refl _, Nat.le_refl _⟩ a0 l1 l2 l3 l4 l5 l7 k0 h s.heap [] ls hR hS hl
theorem in_X4_at_3 : ∀ w ∈ u_ws RX2 TX2 3, w ∈ wsX4_at := by decide +kernel
set_option maxHeartbeats 4000000 in
set_option maxRecDepth 100000 in
theorem w_X4_at (X : Cx cX4_at (some .int) 5 RX4 wsX4_at p s m args meth c) (hK : Kn cA D s) (hT : TL Λ) (hM : 2 ≤ R.frames ∧ 44 ≤ R.locals) (a0 : Nat) (l1 : Int32) (l2 : Int32) (l3 : Int32) (k0 : isK Λ a0 5) {res : Int32} (h : F_X4_at Λ σ a0 l1 l2 l3 = some res) (H : Heap) (locs : List Loc) (ls : Array Slot) (hR : Rep cA D Λ σ H) (hS : va_S (dm Λ) s.heap H locs) (hl : lv_has ls 5 [(0, .ref a0), (1, .int l1), (2, .int l2), (3, .int l3)]) : W p l e R s m args below meth c H locs 0 0 (MQ below (QI cA D Λ (res, σ)) args s 0 0 (dm Λ)) (F0 m 0 ls []) := by
  have hx := X.1
  have hb := X.2.1
  have hown := X.2.2.2.2.1
  have hts := X.2.2.2.2.2.1
  unfold F_X4_at at h
  refine lv_aload_n hx hb dX4_at_0 rfl (lv_at hl 0 rfl) ?_
  refine lv_iload_n hx hb dX4_at_1 rfl (lv_at hl 1 rfl) ?_
  obtain ⟨q_1, hq_1, h⟩ := of_bind h
  refine cl_q (rn_V (As := [.int l1]) (rest := []) X hK hR k0 rfl (by decide) hl.1 (c_X4_find l cA D Λ hT σ a0 l1 k0 hq_1) (cwV 1 hts gX4_at_X4_find rfl rfl rfl (by decide +kernel) ⟨Nat.le_trans (by decide) hM.1, Nat.le_trans (by decide) hM.2⟩) rfl rfl (Nat.le_of_ble_eq_true rfl) dX4_at_2) hS (fun hn_1 H locs hR hS => ?_) (fun a_1 hn_1 kf_1 H locs hR hS => ?_)
  · have h := of_ocn hn_1 h
    refine lv_astoreN (lv' := [(4, .null), (0, .ref a0), (1, .int l1), (2, .int l2), (3, .int l3)]) hx hb dX4_at_5 hl (by decide) rfl (fun ls hl => ?_)
    refine lv_aloadN hx hb dX4_at_7 (lv_at hl 0 rfl) ?_
    refine lv_ifnullN (tgt := 22) hx hb dX4_at_9 (by decide) ?_
    refine lv_iconst (v := (-1 : Int32)) hx hb dX4_at_22 (by decide) ?_
    exact rt_i X hR hS (congrArg (fun z => (z, σ)) (Option.some.inj h)) dX4_at_23
  · have h := of_ocs hn_1 h
    refine lv_astore (lv' := [(4, .ref a_1), (0, .ref a0), (1, .int l1), (2, .int l2), (3, .int l3)]) hx hb dX4_at_5 hl (by decide) rfl (fun ls hl => ?_)
    refine lv_aload hx hb dX4_at_7 (lv_at hl 0 rfl) ?_
    refine lv_ifnull hx hb dX4_at_9 ?_
    refine lv_aload hx hb dX4_at_12 (lv_at hl 0 rfl) ?_
    refine lv_iload_n hx hb dX4_at_14 rfl (lv_at hl 3 rfl) ?_
    refine lv_iload_n hx hb dX4_at_15 rfl (lv_at hl 4 rfl) ?_
    refine cl_z (rn_V (As := [.int l2, .int l3]) (rest := []) X hK hR kf_1 rfl (by decide) hl.1 (c_X2_hasPoint l cA D Λ hT σ a_1 l2 l3 kf_1) (cwV 2 hts gX4_at_X2_hasPoint rfl rfl rfl (by decide +kernel) ⟨Nat.le_trans (by decide) hM.1, Nat.le_trans (by decide) hM.2⟩) rfl rfl (Nat.le_of_ble_eq_true rfl) dX4_at_16) hS (fun hz_2 H locs hR hS => ?_)
    refine lv_topi (fun r_2 e_2 => ?_)
    have h := of_nm e_2 h
    have hz_2 : r_2 = 0 ∨ r_2 = 1 := by rw [e_2]; exact hz_2
    refine lv_if_ne (tgt := 24) hx hb dX4_at_19 (by decide) (fun hc => ?_) (fun hc => ?_)
    · have h := of_neg hc h
      refine lv_aload hx hb dX4_at_24 (lv_at hl 0 rfl) ?_
      refine rw_getR X hK hT hR 3 2 8 kf_1 (by decide) (C := RX2) (T := TX2) (N := 3) rfl (by decide) in_X4_at_3 (by decide +kernel) rfl dX4_at_26 (fun kf_3 => ?_)
      refine lv_iload_n hx hb dX4_at_29 rfl (lv_at hl 4 rfl) ?_
      obtain ⟨hg_4, h⟩ := of_guard h
      refine rw_lald X hK hR kf_3 hg_4 dX4_at_30 ?_
      refine lv_iload_n hx hb dX4_at_31 rfl (lv_at hl 3 rfl) ?_
      refine lv_lushr (v := (ushrL (σ.2 (rfA Λ a_1 2) l3.toNatClampNeg) l2)) hx hb dX4_at_32 rfl ?_
      refine lv_lconst (v := (1 : Int64)) hx hb dX4_at_33 (by decide) ?_
      refine lv_land hx hb dX4_at_34 ?_
      refine lv_lconst (v := (1 : Int64)) hx hb dX4_at_35 (by decide) ?_
      refine W.lcmp hx hb dX4_at_36 ?_
      refine lv_if_ne (tgt := 44) hx hb dX4_at_37 (by decide) (fun hc => ?_) (fun hc => ?_)
      · have h := of_neg hc h
        refine lv_iconst (v := (0 : Int32)) hx hb dX4_at_44 (by decide) ?_
        exact rt_i X hR hS (congrArg (fun z => (z, σ)) (Option.some.inj h)) dX4_at_45
      · have h := of_pos hc h
        refine lv_iconst (v := (1 : Int32)) hx hb dX4_at_40 (by decide) ?_
        refine lv_goto (tgt := 45) hx hb dX4_at_41 (by decide) ?_
        exact rt_i X hR hS (congrArg (fun z => (z, σ)) (Option.some.inj h)) dX4_at_45
    · have h := of_pos hc h
      refine lv_iconst (v := (-1 : Int32)) hx hb dX4_at_22 (by decide) ?_
      exact rt_i X hR hS (congrArg (fun z => (z, σ)) (Option.some.inj h)) dX4_at_23

set_option maxHeartbeats 4000000 in
set_option maxRecDepth 100000 in
theorem c_X4_at (l : Launch) (cA : Nat → ClassId) (D : va_G) (Λ : Lay) (hT : TL Λ) (σ : Sto) (a0 : Nat) (l1 : Int32) (l2 : Int32) (l3 : Int32) (k0 : isK Λ a0 5) {res : Int32} (h : F_X4_at Λ σ a0 l1 l2 l3 = some res) : Met l yX4_at wsX4_at { frames := 2, cells := 0, slots := 0, locals := 44 } (va_Pc [.ref a0, .int l1, .int l2, .int l3] (PW cA D Λ σ)) (QI cA D Λ (res, σ)) 0 0 (dm Λ) := by
  refine Met.ofW (cc := cX4_at) (maxL := 5) (ret := (some .int)) (by decide) rfl ?_
  intro p e s m args below meth c s₁ B hml hv
  obtain ⟨rfl, hR, hK⟩ := hv
  have X : Cx cX4_at (some .int) 5 RX4 wsX4_at p s m _ meth c := ⟨B.exec, B.bytes, B.returns, hml, findClass_of_methodNamed B.named, atoms_spec (ws := wsX4_at) B.pre, B.notSynchronized⟩
  have hS : va_S (dm Λ) s.heap s.heap [] := va_S.rf
  have hl := lv_entry ([.ref a0, .int l1, .int l2, .int l3]) (n := 5) (Nat.le_of_ble_eq_true rfl)
  rw [lg_entry_eq]
  generalize (lg_sl ([.ref a0, .int l1, .int l2, .int l3]) ++ List.replicate (5 - (lg_sl ([.ref a0, .int l1, .int l2, .int l3])).length) Slot.unset).toArray = ls at hl ⊢
  have hl : lv_has ls 5 [(0, .ref a0), (1, .int l1), (2, .int l2), (3, .int l3)] := hl
  exact w_X4_at X hK hT ⟨Nat.le_refl _, Nat.le_refl _⟩ a0 l1 l2 l3 k0 h s.heap [] ls hR hS hl
theorem in_X4_of_3 : ∀ w ∈ u_ws RX2 TX2 3, w ∈ wsX4_of := by decide +kernel
theorem in_X4_of_5 : ∀ w ∈ u_ws RX4 TX4 8, w ∈ wsX4_of := by decide +kernel
set_option maxHeartbeats 4000000 in
set_option maxRecDepth 100000 in
theorem w_X4_of (X : Cx cX4_of (some .int) 4 RX4 wsX4_of p s m args meth c) (hK : Kn cA D s) (hT : TL Λ) (hM : 5 ≤ R.frames ∧ 124 ≤ R.locals) (a0 : Nat) (l1 : Int32) (l2 : Int32) (k0 : isK Λ a0 5) {res : Int32 × Sto} (h : F_X4_of Λ σ a0 l1 l2 = some res) (H : Heap) (locs : List Loc) (ls : Array Slot) (hR : Rep cA D Λ σ H) (hS : va_S (dm Λ) s.heap H locs) (hl : lv_has ls 4 [(0, .ref a0), (1, .int l1), (2, .int l2)]) : W p l e R s m args below meth c H locs 0 0 (MQ below (QI cA D Λ res) args s 0 0 (dm Λ)) (F0 m 0 ls []) := by
  have hx := X.1
  have hb := X.2.1
  have hown := X.2.2.2.2.1
  have hts := X.2.2.2.2.2.1
  unfold F_X4_of at h
  refine lv_aload_n hx hb dX4_of_0 rfl (lv_at hl 0 rfl) ?_
  refine lv_iload_n hx hb dX4_of_1 rfl (lv_at hl 1 rfl) ?_
  obtain ⟨q_1, hq_1, h⟩ := of_bind h
  refine cl_q (rn_V (As := [.int l1]) (rest := []) X hK hR k0 rfl (by decide) hl.1 (c_X4_find l cA D Λ hT σ a0 l1 k0 hq_1) (cwV 1 hts gX4_of_X4_find rfl rfl rfl (by decide +kernel) ⟨Nat.le_trans (by decide) hM.1, Nat.le_trans (by decide) hM.2⟩) rfl rfl (Nat.le_of_ble_eq_true rfl) dX4_of_2) hS (fun hn_1 H locs hR hS => ?_) (fun a_1 hn_1 kf_1 H locs hR hS => ?_)
  · have h := of_ocn hn_1 h
    refine lv_astore_nN (lv' := [(3, .null), (0, .ref a0), (1, .int l1), (2, .int l2)]) hx hb dX4_of_5 rfl hl (by decide) rfl (fun ls hl => ?_)
    refine lv_aload_nN hx hb dX4_of_6 rfl (lv_at hl 0 rfl) ?_
    refine lv_ifnonnullN hx hb dX4_of_7 ?_
    refine lv_iconst (v := (-1 : Int32)) hx hb dX4_of_10 (by decide) ?_
    exact rt_i X hR hS (Option.some.inj h) dX4_of_11
  · have h := of_ocs hn_1 h
    refine lv_astore_n (lv' := [(3, .ref a_1), (0, .ref a0), (1, .int l1), (2, .int l2)]) hx hb dX4_of_5 rfl hl (by decide) rfl (fun ls hl => ?_)
    refine lv_aload_n hx hb dX4_of_6 rfl (lv_at hl 0 rfl) ?_
    refine lv_ifnonnull (tgt := 12) hx hb dX4_of_7 (by decide) ?_
    refine lv_iload_n hx hb dX4_of_12 rfl (lv_at hl 3 rfl) ?_
    by_cases hc : l2 = (0 : Int32)
    · have h := of_pos hc h
      refine sw_in (k := 0) (tgt := 56) hx hb dX4_of_13 hc (by decide) (by decide) rfl (by decide) ?_
      refine lv_aload_n hx hb dX4_of_56 rfl (lv_at hl 0 rfl) ?_
      refine rw_getI X hK hR 3 0 kf_1 (by decide) (C := RX2) (T := TX2) (N := 3) rfl (by decide) in_X4_of_3 (by decide +kernel) rfl dX4_of_57 ?_
      exact rt_i X hR hS (Option.some.inj h) dX4_of_60
    have h := of_neg hc h
    have hn_0 := hc
    clear hc
    by_cases hc : l2 = (1 : Int32)
    · have h := of_pos hc h
      refine sw_in (k := 1) (tgt := 61) hx hb dX4_of_13 hc (by decide) (by decide) rfl (by decide) ?_
      refine lv_aload_n hx hb dX4_of_61 rfl (lv_at hl 0 rfl) ?_
      refine rw_getI X hK hR 3 1 kf_1 (by decide) (C := RX2) (T := TX2) (N := 3) rfl (by decide) in_X4_of_3 (by decide +kernel) rfl dX4_of_62 ?_
      exact rt_i X hR hS (Option.some.inj h) dX4_of_65
    have h := of_neg hc h
    have hn_1 := hc
    clear hc
    by_cases hc : l2 = (2 : Int32)
    · have h := of_pos hc h
      refine sw_in (k := 2) (tgt := 66) hx hb dX4_of_13 hc (by decide) (by decide) rfl (by decide) ?_
      refine lv_aload_n hx hb dX4_of_66 rfl (lv_at hl 0 rfl) ?_
      obtain ⟨q_2, hq_2, h⟩ := of_bind h
      refine cl_i (rn_V (As := []) (rest := []) X hK hR kf_1 rfl (by decide) hl.1 (c_X2_ink l cA D Λ hT σ a_1 kf_1 hq_2) (cwV 0 hts gX4_of_X2_ink rfl rfl rfl (by decide +kernel) ⟨Nat.le_trans (by decide) hM.1, Nat.le_trans (by decide) hM.2⟩) rfl rfl (Nat.le_of_ble_eq_true rfl) dX4_of_67) hS (fun H locs hR hS => ?_)
      exact rt_i X hR hS (Option.some.inj h) dX4_of_70
    have h := of_neg hc h
    have hn_2 := hc
    clear hc
    by_cases hc : l2 = (3 : Int32)
    · have h := of_pos hc h
      refine sw_in (k := 3) (tgt := 71) hx hb dX4_of_13 hc (by decide) (by decide) rfl (by decide) ?_
      refine lv_aload_n hx hb dX4_of_71 rfl (lv_at hl 0 rfl) ?_
      obtain ⟨q_3, hq_3, h⟩ := of_bind h
      refine cl_l (rn_V (As := []) (rest := []) X hK hR kf_1 rfl (by decide) hl.1 (c_X2_inkedRows l cA D Λ hT σ a_1 kf_1 hq_3) (cwV 0 hts gX4_of_X2_inkedRows rfl rfl rfl (by decide +kernel) ⟨Nat.le_trans (by decide) hM.1, Nat.le_trans (by decide) hM.2⟩) rfl rfl (Nat.le_of_ble_eq_true rfl) dX4_of_72) hS (fun H locs hR hS => ?_)
      refine cl_i (rn_S (As := [.long q_3]) (rest := []) X hK hR hl.1 (c_J13_bitCount_95d88 l cA D Λ hT σ q_3) (va_cwS 1 hts gX4_of_J13_bitCount_95d88 rfl rfl rfl (by decide +kernel) ⟨Nat.le_trans (by decide) hM.1, Nat.le_trans (by decide) hM.2⟩) rfl rfl (Nat.le_of_ble_eq_true rfl) dX4_of_75) hS (fun H locs hR hS => ?_)
      refine lv_topi (fun r_4 e_4 => ?_)
      have h := of_nm e_4 h
      exact rt_i X hR hS (Option.some.inj h) dX4_of_78
    have h := of_neg hc h
    have hn_3 := hc
    clear hc
    by_cases hc : l2 = (4 : Int32)
    · have h := of_pos hc h
      refine sw_in (k := 4) (tgt := 79) hx hb dX4_of_13 hc (by decide) (by decide) rfl (by decide) ?_
      refine lv_aload_n hx hb dX4_of_79 rfl (lv_at hl 0 rfl) ?_
      obtain ⟨q_5, hq_5, h⟩ := of_bind h
      refine cl_l (rn_V (As := []) (rest := []) X hK hR kf_1 rfl (by decide) hl.1 (c_X2_inkedColumns l cA D Λ hT σ a_1 kf_1 hq_5) (cwV 0 hts gX4_of_X2_inkedColumns rfl rfl rfl (by decide +kernel) ⟨Nat.le_trans (by decide) hM.1, Nat.le_trans (by decide) hM.2⟩) rfl rfl (Nat.le_of_ble_eq_true rfl) dX4_of_80) hS (fun H locs hR hS => ?_)
      refine cl_i (rn_S (As := [.long q_5]) (rest := []) X hK hR hl.1 (c_J13_bitCount_95d88 l cA D Λ hT σ q_5) (va_cwS 1 hts gX4_of_J13_bitCount_95d88 rfl rfl rfl (by decide +kernel) ⟨Nat.le_trans (by decide) hM.1, Nat.le_trans (by decide) hM.2⟩) rfl rfl (Nat.le_of_ble_eq_true rfl) dX4_of_83) hS (fun H locs hR hS => ?_)
      refine lv_topi (fun r_6 e_6 => ?_)
      have h := of_nm e_6 h
      exact rt_i X hR hS (Option.some.inj h) dX4_of_86
    have h := of_neg hc h
    have hn_4 := hc
    clear hc
    by_cases hc : l2 = (5 : Int32)
    · have h := of_pos hc h
      refine sw_in (k := 5) (tgt := 87) hx hb dX4_of_13 hc (by decide) (by decide) rfl (by decide) ?_
      refine lv_aload_n hx hb dX4_of_87 rfl (lv_at hl 1 rfl) ?_
      refine rw_getR X hK hT hR 5 3 4 k0 (by decide) (C := RX4) (T := TX4) (N := 8) rfl (by decide) in_X4_of_5 (by decide +kernel) rfl dX4_of_88 (fun kf_7 => ?_)
      refine lv_aload_n hx hb dX4_of_91 rfl (lv_at hl 0 rfl) ?_
      obtain ⟨q_8, hq_8, h⟩ := of_bind h
      refine cl_i (rn_V (As := [.ref a_1]) (rest := []) X hK hR kf_7 rfl (by decide) hl.1 (c_X3_number l cA D Λ hT σ (rfA Λ a0 3) a_1 kf_7 kf_1 hq_8) (cwV 1 hts gX4_of_X3_number rfl rfl rfl (by decide +kernel) ⟨Nat.le_trans (by decide) hM.1, Nat.le_trans (by decide) hM.2⟩) rfl rfl (Nat.le_of_ble_eq_true rfl) dX4_of_92) hS (fun H locs hR hS => ?_)
      exact rt_i X hR hS (Option.some.inj h) dX4_of_95
    have h := of_neg hc h
    have hn_5 := hc
    clear hc
    by_cases hc : l2 = (6 : Int32)
    · have h := of_pos hc h
      refine sw_in (k := 6) (tgt := 96) hx hb dX4_of_13 hc (by decide) (by decide) rfl (by decide) ?_
      refine lv_aload_n hx hb dX4_of_96 rfl (lv_at hl 1 rfl) ?_
      refine rw_getR X hK hT hR 5 3 4 k0 (by decide) (C := RX4) (T := TX4) (N := 8) rfl (by decide) in_X4_of_5 (by decide +kernel) rfl dX4_of_97 (fun kf_9 => ?_)
      refine lv_aload_n hx hb dX4_of_100 rfl (lv_at hl 0 rfl) ?_
      obtain ⟨q_10, hq_10, h⟩ := of_bind h
      refine cl_i (rn_V (As := [.ref a_1]) (rest := []) X hK hR kf_9 rfl (by decide) hl.1 (c_X3_largest l cA D Λ hT σ (rfA Λ a0 3) a_1 kf_9 kf_1 hq_10) (cwV 1 hts gX4_of_X3_largest rfl rfl rfl (by decide +kernel) ⟨Nat.le_trans (by decide) hM.1, Nat.le_trans (by decide) hM.2⟩) rfl rfl (Nat.le_of_ble_eq_true rfl) dX4_of_101) hS (fun H locs hR hS => ?_)
      exact rt_i X hR hS (Option.some.inj h) dX4_of_104
    have h := of_neg hc h
    have hn_6 := hc
    clear hc
    refine lv_tableOut (tgt := 105) hx hb dX4_of_13 (sw_out 7 (fun k hk => by rcases (show k = 0 ∨ k = 1 ∨ k = 2 ∨ k = 3 ∨ k = 4 ∨ k = 5 ∨ k = 6 by omega) with rfl | rfl | rfl | rfl | rfl | rfl | rfl <;> assumption)) (by decide) ?_
    refine lv_iconst (v := (-1 : Int32)) hx hb dX4_of_105 (by decide) ?_
    exact rt_i X hR hS (Option.some.inj h) dX4_of_106

set_option maxHeartbeats 4000000 in
set_option maxRecDepth 100000 in
theorem c_X4_of (l : Launch) (cA : Nat → ClassId) (D : va_G) (Λ : Lay) (hT : TL Λ) (σ : Sto) (a0 : Nat) (l1 : Int32) (l2 : Int32) (k0 : isK Λ a0 5) {res : Int32 × Sto} (h : F_X4_of Λ σ a0 l1 l2 = some res) : Met l yX4_of wsX4_of { frames := 5, cells := 0, slots := 0, locals := 124 } (va_Pc [.ref a0, .int l1, .int l2] (PW cA D Λ σ)) (QI cA D Λ res) 0 0 (dm Λ) := by
  refine Met.ofW (cc := cX4_of) (maxL := 4) (ret := (some .int)) (by decide) rfl ?_
  intro p e s m args below meth c s₁ B hml hv
  obtain ⟨rfl, hR, hK⟩ := hv
  have X : Cx cX4_of (some .int) 4 RX4 wsX4_of p s m _ meth c := ⟨B.exec, B.bytes, B.returns, hml, findClass_of_methodNamed B.named, atoms_spec (ws := wsX4_of) B.pre, B.notSynchronized⟩
  have hS : va_S (dm Λ) s.heap s.heap [] := va_S.rf
  have hl := lv_entry ([.ref a0, .int l1, .int l2]) (n := 4) (Nat.le_of_ble_eq_true rfl)
  rw [lg_entry_eq]
  generalize (lg_sl ([.ref a0, .int l1, .int l2]) ++ List.replicate (4 - (lg_sl ([.ref a0, .int l1, .int l2])).length) Slot.unset).toArray = ls at hl ⊢
  have hl : lv_has ls 4 [(0, .ref a0), (1, .int l1), (2, .int l2)] := hl
  exact w_X4_of X hK hT ⟨Nat.le_refl _, Nat.le_refl _⟩ a0 l1 l2 k0 h s.heap [] ls hR hS hl
