variable {p : Program} {l : Launch} {e : Env} {R : Room} {s : State} {m : MethodId} {args : Array Value} {below : List Frame} {meth : Method} {c : Code} {Q : State → Prop} {cA : Nat → ClassId} {D : va_G} {Λ : Lay} {σ : Sto}
theorem in_X4_spans_5 : ∀ w ∈ u_ws RX4 TX4 8, w ∈ wsX4_spans := by decide +kernel
set_option maxHeartbeats 4000000 in
set_option maxRecDepth 100000 in
theorem w_jp_X4_spans_51 (X : Cx cX4_spans (some .int) 5 RX4 wsX4_spans p s m args meth c) (hK : Kn cA D s) (hT : TL Λ) (hM : 2 ≤ R.frames ∧ 43 ≤ R.locals) (a0 : Nat) (l3 : Int32) (ls0 : Int64) (as1 : Nat) (k0 : isK Λ a0 5) (ks1 : isK Λ as1 5) {res : Int32 × Sto} (h : jp_X4_spans_51 Λ σ a0 l3 ls0 as1 = some res) (H : Heap) (locs : List Loc) (ls : Array Slot) (hR : Rep cA D Λ σ H) (hS : va_S (dm Λ) s.heap H locs) (hl : lv_has ls 5 [(0, .ref a0), (3, .int l3)]) : W p l e R s m args below meth c H locs 0 0 (MQ below (QI cA D Λ res) args s 0 0 (dm Λ)) (F0 m 51 ls [.long ls0, .ref as1]) := by
  have hx := X.1
  have hb := X.2.1
  have hown := X.2.2.2.2.1
  have hts := X.2.2.2.2.2.1
  unfold jp_X4_spans_51 at h
  refine lv_iload_n hx hb dX4_spans_51 rfl (lv_at hl 1 rfl) ?_
  obtain ⟨q_5, hq_5, h⟩ := of_bind h
  refine cl_v (rn_V (As := [.long ls0, .int l3]) (rest := []) X hK hR ks1 rfl (by decide) hl.1 (c_X4_tellSpans l cA D Λ hT σ as1 ls0 l3 ks1 hq_5) (cwV 2 hts gX4_spans_X4_tellSpans rfl rfl rfl (by decide +kernel) ⟨Nat.le_trans (by decide) hM.1, Nat.le_trans (by decide) hM.2⟩) rfl rfl (Nat.le_of_ble_eq_true rfl) dX4_spans_52) hS (fun H locs hR hS => ?_)
  refine lv_aload_n hx hb dX4_spans_55 rfl (lv_at hl 0 rfl) ?_
  refine rw_getI X hK hR 5 7 k0 (by decide) (C := RX4) (T := TX4) (N := 8) rfl (by decide) in_X4_spans_5 (by decide +kernel) rfl dX4_spans_56 ?_
  refine lv_iconst (v := (2 : Int32)) hx hb dX4_spans_59 (by decide) ?_
  refine lv_idiv hx hb dX4_spans_60 (by decide) ?_
  exact rt_i X hR hS (Option.some.inj h) dX4_spans_61

set_option maxHeartbeats 4000000 in
set_option maxRecDepth 100000 in
theorem w_X4_spans (X : Cx cX4_spans (some .int) 5 RX4 wsX4_spans p s m args meth c) (hK : Kn cA D s) (hT : TL Λ) (hM : 2 ≤ R.frames ∧ 43 ≤ R.locals) (a0 : Nat) (l1 : Int32) (l2 : Int32) (l3 : Int32) (k0 : isK Λ a0 5) {res : Int32 × Sto} (h : F_X4_spans Λ σ a0 l1 l2 l3 = some res) (H : Heap) (locs : List Loc) (ls : Array Slot) (hR : Rep cA D Λ σ H) (hS : va_S (dm Λ) s.heap H locs) (hl : lv_has ls 5 [(0, .ref a0), (1, .int l1), (2, .int l2), (3, .int l3)]) : W p l e R s m args below meth c H locs 0 0 (MQ below (QI cA D Λ res) args s 0 0 (dm Λ)) (F0 m 0 ls []) := by
  have hx := X.1
  have hb := X.2.1
  have hown := X.2.2.2.2.1
  have hts := X.2.2.2.2.2.1
  unfold F_X4_spans at h
  refine lv_aload_n hx hb dX4_spans_0 rfl (lv_at hl 0 rfl) ?_
  refine lv_iload_n hx hb dX4_spans_1 rfl (lv_at hl 1 rfl) ?_
  obtain ⟨q_1, hq_1, h⟩ := of_bind h
  refine cl_q (rn_V (As := [.int l1]) (rest := []) X hK hR k0 rfl (by decide) hl.1 (c_X4_find l cA D Λ hT σ a0 l1 k0 hq_1) (cwV 1 hts gX4_spans_X4_find rfl rfl rfl (by decide +kernel) ⟨Nat.le_trans (by decide) hM.1, Nat.le_trans (by decide) hM.2⟩) rfl rfl (Nat.le_of_ble_eq_true rfl) dX4_spans_2) hS (fun hn_1 H locs hR hS => ?_) (fun a_1 hn_1 kf_1 H locs hR hS => ?_)
  · have h := of_ocn hn_1 h
    refine lv_astoreN (lv' := [(4, .null), (0, .ref a0), (1, .int l1), (2, .int l2), (3, .int l3)]) hx hb dX4_spans_5 hl (by decide) rfl (fun ls hl => ?_)
    refine lv_aloadN hx hb dX4_spans_7 (lv_at hl 0 rfl) ?_
    refine lv_ifnullN (tgt := 31) hx hb dX4_spans_9 (by decide) ?_
    refine lv_iconst (v := (-1 : Int32)) hx hb dX4_spans_31 (by decide) ?_
    exact rt_i X hR hS (Option.some.inj h) dX4_spans_32
  · have h := of_ocs hn_1 h
    refine lv_astore (lv' := [(4, .ref a_1), (0, .ref a0), (1, .int l1), (2, .int l2), (3, .int l3)]) hx hb dX4_spans_5 hl (by decide) rfl (fun ls hl => ?_)
    refine lv_aload hx hb dX4_spans_7 (lv_at hl 0 rfl) ?_
    refine lv_ifnull hx hb dX4_spans_9 ?_
    refine lv_iload_n hx hb dX4_spans_12 rfl (lv_at hl 3 rfl) ?_
    refine lv_iconst (v := (0 : Int32)) hx hb dX4_spans_13 (by decide) ?_
    refine lv_iconst (v := (1 : Int32)) hx hb dX4_spans_14 (by decide) ?_
    refine cl_z (rn_S (As := [.int l2, .int (0 : Int32), .int (1 : Int32)]) (rest := []) X hK hR hl.1 (c_X4_within l cA D Λ hT σ l2 (0 : Int32) (1 : Int32)) (va_cwS 3 hts gX4_spans_X4_within rfl rfl rfl (by decide +kernel) ⟨Nat.le_trans (by decide) hM.1, Nat.le_trans (by decide) hM.2⟩) rfl rfl (Nat.le_of_ble_eq_true rfl) dX4_spans_15) hS (fun hz_2 H locs hR hS => ?_)
    refine lv_topi (fun r_2 e_2 => ?_)
    have h := of_nm e_2 h
    have hz_2 : r_2 = 0 ∨ r_2 = 1 := by rw [e_2]; exact hz_2
    refine lv_if_eq (tgt := 31) hx hb dX4_spans_18 (by decide) (fun hc => ?_) (fun hc => ?_)
    · have h := of_pos hc h
      refine lv_iconst (v := (-1 : Int32)) hx hb dX4_spans_31 (by decide) ?_
      exact rt_i X hR hS (Option.some.inj h) dX4_spans_32
    · have h := of_neg hc h
      refine lv_iload_n hx hb dX4_spans_21 rfl (lv_at hl 4 rfl) ?_
      refine lv_iconst (v := (1 : Int32)) hx hb dX4_spans_22 (by decide) ?_
      refine lv_bipush (v := (64 : Int32)) hx hb dX4_spans_23 (by decide) ?_
      refine cl_z (rn_S (As := [.int l3, .int (1 : Int32), .int (64 : Int32)]) (rest := []) X hK hR hl.1 (c_X4_within l cA D Λ hT σ l3 (1 : Int32) (64 : Int32)) (va_cwS 3 hts gX4_spans_X4_within rfl rfl rfl (by decide +kernel) ⟨Nat.le_trans (by decide) hM.1, Nat.le_trans (by decide) hM.2⟩) rfl rfl (Nat.le_of_ble_eq_true rfl) dX4_spans_25) hS (fun hz_3 H locs hR hS => ?_)
      refine lv_topi (fun r_3 e_3 => ?_)
      have h := of_nm e_3 h
      have hz_3 : r_3 = 0 ∨ r_3 = 1 := by rw [e_3]; exact hz_3
      refine lv_if_ne (tgt := 33) hx hb dX4_spans_28 (by decide) (fun hc => ?_) (fun hc => ?_)
      · have h := of_neg hc h
        refine lv_aload_n hx hb dX4_spans_33 rfl (lv_at hl 1 rfl) ?_
        refine lv_iload_n hx hb dX4_spans_34 rfl (lv_at hl 3 rfl) ?_
        refine lv_if_ne (tgt := 46) hx hb dX4_spans_35 (by decide) (fun hc => ?_) (fun hc => ?_)
        · have h := of_neg hc h
          refine lv_aload hx hb dX4_spans_46 (lv_at hl 0 rfl) ?_
          obtain ⟨q_4, hq_4, h⟩ := of_bind h
          refine cl_l (rn_V (As := []) (rest := [.ref a0]) X hK hR kf_1 rfl (by decide) hl.1 (c_X2_inkedRows l cA D Λ hT σ a_1 kf_1 hq_4) (cwV 0 hts gX4_spans_X2_inkedRows rfl rfl rfl (by decide +kernel) ⟨Nat.le_trans (by decide) hM.1, Nat.le_trans (by decide) hM.2⟩) rfl rfl (Nat.le_of_ble_eq_true rfl) dX4_spans_48) hS (fun H locs hR hS => ?_)
          exact w_jp_X4_spans_51 X hK hT hM a0 l3 q_4 a0 k0 k0 h H locs ls hR hS (lv_sub hl [1, 4] rfl)
        · have h := of_pos hc h
          refine lv_aload hx hb dX4_spans_38 (lv_at hl 0 rfl) ?_
          obtain ⟨q_6, hq_6, h⟩ := of_bind h
          refine cl_l (rn_V (As := []) (rest := [.ref a0]) X hK hR kf_1 rfl (by decide) hl.1 (c_X2_inkedColumns l cA D Λ hT σ a_1 kf_1 hq_6) (cwV 0 hts gX4_spans_X2_inkedColumns rfl rfl rfl (by decide +kernel) ⟨Nat.le_trans (by decide) hM.1, Nat.le_trans (by decide) hM.2⟩) rfl rfl (Nat.le_of_ble_eq_true rfl) dX4_spans_40) hS (fun H locs hR hS => ?_)
          refine lv_goto (tgt := 51) hx hb dX4_spans_43 (by decide) ?_
          exact w_jp_X4_spans_51 X hK hT hM a0 l3 q_6 a0 k0 k0 h H locs ls hR hS (lv_sub hl [1, 4] rfl)
      · have h := of_pos hc h
        refine lv_iconst (v := (-1 : Int32)) hx hb dX4_spans_31 (by decide) ?_
        exact rt_i X hR hS (Option.some.inj h) dX4_spans_32

set_option maxHeartbeats 4000000 in
set_option maxRecDepth 100000 in
theorem c_X4_spans (l : Launch) (cA : Nat → ClassId) (D : va_G) (Λ : Lay) (hT : TL Λ) (σ : Sto) (a0 : Nat) (l1 : Int32) (l2 : Int32) (l3 : Int32) (k0 : isK Λ a0 5) {res : Int32 × Sto} (h : F_X4_spans Λ σ a0 l1 l2 l3 = some res) : Met l yX4_spans wsX4_spans { frames := 2, cells := 0, slots := 0, locals := 43 } (va_Pc [.ref a0, .int l1, .int l2, .int l3] (PW cA D Λ σ)) (QI cA D Λ res) 0 0 (dm Λ) := by
  refine Met.ofW (cc := cX4_spans) (maxL := 5) (ret := (some .int)) (by decide) rfl ?_
  intro p e s m args below meth c s₁ B hml hv
  obtain ⟨rfl, hR, hK⟩ := hv
  have X : Cx cX4_spans (some .int) 5 RX4 wsX4_spans p s m _ meth c := ⟨B.exec, B.bytes, B.returns, hml, findClass_of_methodNamed B.named, atoms_spec (ws := wsX4_spans) B.pre, B.notSynchronized⟩
  have hS : va_S (dm Λ) s.heap s.heap [] := va_S.rf
  have hl := lv_entry ([.ref a0, .int l1, .int l2, .int l3]) (n := 5) (Nat.le_of_ble_eq_true rfl)
  rw [lg_entry_eq]
  generalize (lg_sl ([.ref a0, .int l1, .int l2, .int l3]) ++ List.replicate (5 - (lg_sl ([.ref a0, .int l1, .int l2, .int l3])).length) Slot.unset).toArray = ls at hl ⊢
  have hl : lv_has ls 5 [(0, .ref a0), (1, .int l1), (2, .int l2), (3, .int l3)] := hl
  exact w_X4_spans X hK hT ⟨Nat.le_refl _, Nat.le_refl _⟩ a0 l1 l2 l3 k0 h s.heap [] ls hR hS hl
theorem in_X4_part_3 : ∀ w ∈ u_ws RX2 TX2 3, w ∈ wsX4_part := by decide +kernel
theorem in_X4_part_5 : ∀ w ∈ u_ws RX4 TX4 8, w ∈ wsX4_part := by decide +kernel
set_option maxHeartbeats 4000000 in
set_option maxRecDepth 100000 in
theorem w_X4_part (X : Cx cX4_part (some .int) 7 RX4 wsX4_part p s m args meth c) (hK : Kn cA D s) (hT : TL Λ) (hM : 4 ≤ R.frames ∧ 91 ≤ R.locals) (a0 : Nat) (l1 : Int32) (l2 : Int32) (l3 : Int32) (l4 : Int32) (k0 : isK Λ a0 5) {res : Int32 × Sto} (h : F_X4_part Λ σ a0 l1 l2 l3 l4 = some res) (H : Heap) (locs : List Loc) (ls : Array Slot) (hR : Rep cA D Λ σ H) (hS : va_S (dm Λ) s.heap H locs) (hl : lv_has ls 7 [(0, .ref a0), (1, .int l1), (2, .int l2), (3, .int l3), (4, .int l4)]) : W p l e R s m args below meth c H locs 0 0 (MQ below (QI cA D Λ res) args s 0 0 (dm Λ)) (F0 m 0 ls []) := by
  have hx := X.1
  have hb := X.2.1
  have hown := X.2.2.2.2.1
  have hts := X.2.2.2.2.2.1
  unfold F_X4_part at h
  refine lv_aload_n hx hb dX4_part_0 rfl (lv_at hl 0 rfl) ?_
  refine lv_iload_n hx hb dX4_part_1 rfl (lv_at hl 1 rfl) ?_
  obtain ⟨q_1, hq_1, h⟩ := of_bind h
  refine cl_q (rn_V (As := [.int l1]) (rest := []) X hK hR k0 rfl (by decide) hl.1 (c_X4_find l cA D Λ hT σ a0 l1 k0 hq_1) (cwV 1 hts gX4_part_X4_find rfl rfl rfl (by decide +kernel) ⟨Nat.le_trans (by decide) hM.1, Nat.le_trans (by decide) hM.2⟩) rfl rfl (Nat.le_of_ble_eq_true rfl) dX4_part_2) hS (fun hn_1 H locs hR hS => ?_) (fun a_1 hn_1 kf_1 H locs hR hS => ?_)
  · have h := of_ocn hn_1 h
    refine lv_astoreN (lv' := [(5, .null), (0, .ref a0), (1, .int l1), (2, .int l2), (3, .int l3), (4, .int l4)]) hx hb dX4_part_5 hl (by decide) rfl (fun ls hl => ?_)
    refine lv_aloadN hx hb dX4_part_7 (lv_at hl 0 rfl) ?_
    refine lv_ifnullN (tgt := 45) hx hb dX4_part_9 (by decide) ?_
    refine lv_iconst (v := (-1 : Int32)) hx hb dX4_part_45 (by decide) ?_
    exact rt_i X hR hS (Option.some.inj h) dX4_part_46
  · have h := of_ocs hn_1 h
    refine lv_astore (lv' := [(5, .ref a_1), (0, .ref a0), (1, .int l1), (2, .int l2), (3, .int l3), (4, .int l4)]) hx hb dX4_part_5 hl (by decide) rfl (fun ls hl => ?_)
    refine lv_aload hx hb dX4_part_7 (lv_at hl 0 rfl) ?_
    refine lv_ifnull hx hb dX4_part_9 ?_
    refine lv_iload_n hx hb dX4_part_12 rfl (lv_at hl 3 rfl) ?_
    refine lv_iconst (v := (1 : Int32)) hx hb dX4_part_13 (by decide) ?_
    refine lv_icmp_lt (tgt := 45) hx hb dX4_part_14 (by decide) (fun hc => ?_) (fun hc => ?_)
    · have h := of_pos hc h
      refine lv_iconst (v := (-1 : Int32)) hx hb dX4_part_45 (by decide) ?_
      exact rt_i X hR hS (Option.some.inj h) dX4_part_46
    · have h := of_neg hc h
      refine lv_iload_n hx hb dX4_part_17 rfl (lv_at hl 3 rfl) ?_
      refine lv_iload_n hx hb dX4_part_18 rfl (lv_at hl 4 rfl) ?_
      refine lv_icmp_gt (tgt := 45) hx hb dX4_part_19 (by decide) (fun hc => ?_) (fun hc => ?_)
      · have h := of_pos hc h
        refine lv_iconst (v := (-1 : Int32)) hx hb dX4_part_45 (by decide) ?_
        exact rt_i X hR hS (Option.some.inj h) dX4_part_46
      · have h := of_neg hc h
        refine lv_iload_n hx hb dX4_part_22 rfl (lv_at hl 4 rfl) ?_
        refine lv_aload hx hb dX4_part_23 (lv_at hl 0 rfl) ?_
        refine rw_getI X hK hR 3 0 kf_1 (by decide) (C := RX2) (T := TX2) (N := 3) rfl (by decide) in_X4_part_3 (by decide +kernel) rfl dX4_part_25 ?_
        refine lv_icmp_ge (tgt := 45) hx hb dX4_part_28 (by decide) (fun hc => ?_) (fun hc => ?_)
        · have h := of_pos hc h
          refine lv_iconst (v := (-1 : Int32)) hx hb dX4_part_45 (by decide) ?_
          exact rt_i X hR hS (Option.some.inj h) dX4_part_46
        · have h := of_neg hc h
          refine lv_iload hx hb dX4_part_31 (lv_at hl 5 rfl) ?_
          refine lv_if_lt (tgt := 45) hx hb dX4_part_33 (by decide) (fun hc => ?_) (fun hc => ?_)
          · have h := of_pos hc h
            refine lv_iconst (v := (-1 : Int32)) hx hb dX4_part_45 (by decide) ?_
            exact rt_i X hR hS (Option.some.inj h) dX4_part_46
          · have h := of_neg hc h
            refine lv_aload_n hx hb dX4_part_36 rfl (lv_at hl 1 rfl) ?_
            refine rw_getI X hK hR 5 1 k0 (by decide) (C := RX4) (T := TX4) (N := 8) rfl (by decide) in_X4_part_5 (by decide +kernel) rfl dX4_part_37 ?_
            refine lv_bipush (v := (8 : Int32)) hx hb dX4_part_40 (by decide) ?_
            refine lv_icmp_lt (tgt := 47) hx hb dX4_part_42 (by decide) (fun hc => ?_) (fun hc => ?_)
            · have h := of_pos hc h
              refine lv_aload hx hb dX4_part_47 (lv_at hl 0 rfl) ?_
              refine lv_iload_n hx hb dX4_part_49 rfl (lv_at hl 3 rfl) ?_
              refine lv_iload_n hx hb dX4_part_50 rfl (lv_at hl 4 rfl) ?_
              obtain ⟨q_2, hq_2, h⟩ := of_bind h
              refine cl_i (rn_V (As := [.int l2, .int l3]) (rest := []) X hK hR kf_1 rfl (by decide) hl.1 (c_X2_faintestColumn l cA D Λ hT σ a_1 l2 l3 kf_1 hq_2) (cwV 2 hts gX4_part_X2_faintestColumn rfl rfl rfl (by decide +kernel) ⟨Nat.le_trans (by decide) hM.1, Nat.le_trans (by decide) hM.2⟩) rfl rfl (Nat.le_of_ble_eq_true rfl) dX4_part_51) hS (fun H locs hR hS => ?_)
              refine lv_istore (lv' := [(6, .int q_2), (5, .ref a_1), (0, .ref a0), (1, .int l1), (2, .int l2), (3, .int l3), (4, .int l4)]) hx hb dX4_part_54 hl (by decide) rfl (fun ls hl => ?_)
              refine lv_aload hx hb dX4_part_56 (lv_at hl 1 rfl) ?_
              refine lv_iload hx hb dX4_part_58 (lv_at hl 0 rfl) ?_
              obtain ⟨q_3, hq_3, h⟩ := of_bind h
              refine cl_i (rn_V (As := [.int q_2]) (rest := []) X hK hR kf_1 rfl (by decide) hl.1 (c_X2_columnInk l cA D Λ hT σ a_1 q_2 kf_1 hq_3) (cwV 1 hts gX4_part_X2_columnInk rfl rfl rfl (by decide +kernel) ⟨Nat.le_trans (by decide) hM.1, Nat.le_trans (by decide) hM.2⟩) rfl rfl (Nat.le_of_ble_eq_true rfl) dX4_part_60) hS (fun H locs hR hS => ?_)
              refine lv_iload hx hb dX4_part_63 (lv_at hl 6 rfl) ?_
              refine lv_icmp_le (tgt := 70) hx hb dX4_part_65 (by decide) (fun hc => ?_) (fun hc => ?_)
              · have h := of_pos hc h
                refine lv_aload_n hx hb dX4_part_70 rfl (lv_at hl 2 rfl) ?_
                refine rw_getR X hK hT hR 5 2 2 k0 (by decide) (C := RX4) (T := TX4) (N := 8) rfl (by decide) in_X4_part_5 (by decide +kernel) rfl dX4_part_71 (fun kf_4 => ?_)
                refine lv_iload_n hx hb dX4_part_74 rfl (lv_at hl 3 rfl) ?_
                refine lv_aload hx hb dX4_part_75 (lv_at hl 1 rfl) ?_
                refine lv_aload_n hx hb dX4_part_77 rfl (lv_at hl 2 rfl) ?_
                refine rw_getI X hK hR 5 1 k0 (by decide) (C := RX4) (T := TX4) (N := 8) rfl (by decide) in_X4_part_5 (by decide +kernel) rfl dX4_part_78 ?_
                obtain ⟨q_5, hq_5, h⟩ := of_bind h
                refine cl_v (rn_V (As := [.int l1, .ref a_1, .int (σ.1 a0 1)]) (rest := []) X hK hR kf_4 rfl (by decide) hl.1 (c_X1_remember l cA D Λ hT σ (rfA Λ a0 2) l1 a_1 (σ.1 a0 1) kf_4 kf_1 hq_5) (cwV 3 hts gX4_part_X1_remember rfl rfl rfl (by decide +kernel) ⟨Nat.le_trans (by decide) hM.1, Nat.le_trans (by decide) hM.2⟩) rfl rfl (Nat.le_of_ble_eq_true rfl) dX4_part_81) hS (fun H locs hR hS => ?_)
                refine lv_aload hx hb dX4_part_84 (lv_at hl 1 rfl) ?_
                refine lv_iload hx hb dX4_part_86 (lv_at hl 0 rfl) ?_
                refine lv_aload_n hx hb dX4_part_88 rfl (lv_at hl 2 rfl) ?_
                refine rw_getR X hK hT hR 5 0 11 k0 (by decide) (C := RX4) (T := TX4) (N := 8) rfl (by decide) in_X4_part_5 (by decide +kernel) rfl dX4_part_89 (fun kf_6 => ?_)
                refine lv_aload_n hx hb dX4_part_92 rfl (lv_at hl 2 rfl) ?_
                refine rw_getI X hK hR 5 1 k0 (by decide) (C := RX4) (T := TX4) (N := 8) rfl (by decide) in_X4_part_5 (by decide +kernel) rfl dX4_part_93 ?_
                obtain ⟨hg_7, h⟩ := of_guard h
                refine rw_aald11 X hK hT hR kf_6 hg_7 dX4_part_96 (fun kf_7 => ?_)
                obtain ⟨q_8, hq_8, h⟩ := of_bind h
                refine cl_v (rn_V (As := [.int q_2, .ref (rfA Λ (rfA Λ a0 0) (q_5.1 a0 1).toNatClampNeg)]) (rest := []) X hK hR kf_1 rfl (by decide) hl.1 (c_X2_moveRightPart l cA D Λ hT q_5 a_1 q_2 (rfA Λ (rfA Λ a0 0) (q_5.1 a0 1).toNatClampNeg) kf_1 kf_7 hq_8) (cwV 2 hts gX4_part_X2_moveRightPart rfl rfl rfl (by decide +kernel) ⟨Nat.le_trans (by decide) hM.1, Nat.le_trans (by decide) hM.2⟩) rfl rfl (Nat.le_of_ble_eq_true rfl) dX4_part_97) hS (fun H locs hR hS => ?_)
                refine lv_aload_n hx hb dX4_part_100 rfl (lv_at hl 2 rfl) ?_
                refine lv_dup hx hb dX4_part_101 rfl ?_
                refine rw_getI X hK hR 5 1 k0 (by decide) (C := RX4) (T := TX4) (N := 8) rfl (by decide) in_X4_part_5 (by decide +kernel) rfl dX4_part_102 ?_
                refine lv_dup_x1 hx hb dX4_part_105 rfl rfl ?_
                refine lv_iconst (v := (1 : Int32)) hx hb dX4_part_106 (by decide) ?_
                refine lv_iadd hx hb dX4_part_107 ?_
                refine rw_putI X hK hT hR hS 5 1 tyX4 k0 (by decide) (C := RX4) (T := TX4) (N := 8) rfl (by decide) in_X4_part_5 tyX4_ok nmX4 (by decide +kernel) rfl rfl (by decide +kernel) dX4_part_108 (fun σ_9 H locs e_9 hR hS => ?_)
                have h := of_nm e_9 h
                exact rt_i X hR hS (Option.some.inj h) dX4_part_111
              · have h := of_neg hc h
                refine lv_iconst (v := (-1 : Int32)) hx hb dX4_part_68 (by decide) ?_
                exact rt_i X hR hS (Option.some.inj h) dX4_part_69
            · have h := of_neg hc h
              refine lv_iconst (v := (-1 : Int32)) hx hb dX4_part_45 (by decide) ?_
              exact rt_i X hR hS (Option.some.inj h) dX4_part_46

set_option maxHeartbeats 4000000 in
set_option maxRecDepth 100000 in
theorem c_X4_part (l : Launch) (cA : Nat → ClassId) (D : va_G) (Λ : Lay) (hT : TL Λ) (σ : Sto) (a0 : Nat) (l1 : Int32) (l2 : Int32) (l3 : Int32) (l4 : Int32) (k0 : isK Λ a0 5) {res : Int32 × Sto} (h : F_X4_part Λ σ a0 l1 l2 l3 l4 = some res) : Met l yX4_part wsX4_part { frames := 4, cells := 0, slots := 0, locals := 91 } (va_Pc [.ref a0, .int l1, .int l2, .int l3, .int l4] (PW cA D Λ σ)) (QI cA D Λ res) 0 0 (dm Λ) := by
  refine Met.ofW (cc := cX4_part) (maxL := 7) (ret := (some .int)) (by decide) rfl ?_
  intro p e s m args below meth c s₁ B hml hv
  obtain ⟨rfl, hR, hK⟩ := hv
  have X : Cx cX4_part (some .int) 7 RX4 wsX4_part p s m _ meth c := ⟨B.exec, B.bytes, B.returns, hml, findClass_of_methodNamed B.named, atoms_spec (ws := wsX4_part) B.pre, B.notSynchronized⟩
  have hS : va_S (dm Λ) s.heap s.heap [] := va_S.rf
  have hl := lv_entry ([.ref a0, .int l1, .int l2, .int l3, .int l4]) (n := 7) (Nat.le_of_ble_eq_true rfl)
  rw [lg_entry_eq]
  generalize (lg_sl ([.ref a0, .int l1, .int l2, .int l3, .int l4]) ++ List.replicate (7 - (lg_sl ([.ref a0, .int l1, .int l2, .int l3, .int l4])).length) Slot.unset).toArray = ls at hl ⊢
  have hl : lv_has ls 7 [(0, .ref a0), (1, .int l1), (2, .int l2), (3, .int l3), (4, .int l4)] := hl
  exact w_X4_part X hK hT ⟨Nat.le_refl _, Nat.le_refl _⟩ a0 l1 l2 l3 l4 k0 h s.heap [] ls hR hS hl
theorem in_X4_back_1 : ∀ w ∈ u_ws RX0 TX0 3, w ∈ wsX4_back := by decide +kernel
theorem in_X4_back_5 : ∀ w ∈ u_ws RX4 TX4 8, w ∈ wsX4_back := by decide +kernel
set_option maxHeartbeats 4000000 in
set_option maxRecDepth 100000 in
theorem w_X4_back (X : Cx cX4_back (some .int) 3 RX4 wsX4_back p s m args meth c) (hK : Kn cA D s) (hT : TL Λ) (hM : 3 ≤ R.frames ∧ 67 ≤ R.locals) (a0 : Nat) (k0 : isK Λ a0 5) {res : Int32 × Sto} (h : F_X4_back Λ σ a0 = some res) (H : Heap) (locs : List Loc) (ls : Array Slot) (hR : Rep cA D Λ σ H) (hS : va_S (dm Λ) s.heap H locs) (hl : lv_has ls 3 [(0, .ref a0)]) : W p l e R s m args below meth c H locs 0 0 (MQ below (QI cA D Λ res) args s 0 0 (dm Λ)) (F0 m 0 ls []) := by
  have hx := X.1
  have hb := X.2.1
  have hown := X.2.2.2.2.1
  have hts := X.2.2.2.2.2.1
  unfold F_X4_back at h
  refine lv_aload_n hx hb dX4_back_0 rfl (lv_at hl 0 rfl) ?_
  refine rw_getR X hK hT hR 5 2 2 k0 (by decide) (C := RX4) (T := TX4) (N := 8) rfl (by decide) in_X4_back_5 (by decide +kernel) rfl dX4_back_1 (fun kf_1 => ?_)
  obtain ⟨q_2, hq_2, h⟩ := of_bind h
  refine cl_q (rn_V (As := []) (rest := []) X hK hR kf_1 rfl (by decide) hl.1 (c_X1_takeLatest l cA D Λ hT σ (rfA Λ a0 2) kf_1 hq_2) (cwV 0 hts gX4_back_X1_takeLatest rfl rfl rfl (by decide +kernel) ⟨Nat.le_trans (by decide) hM.1, Nat.le_trans (by decide) hM.2⟩) rfl rfl (Nat.le_of_ble_eq_true rfl) dX4_back_4) hS (fun hn_2 H locs hR hS => ?_) (fun a_2 hn_2 kf_2 H locs hR hS => ?_)
  · have h := of_ocn hn_2 h
    refine lv_astore_nN (lv' := [(1, .null), (0, .ref a0)]) hx hb dX4_back_7 rfl hl (by decide) rfl (fun ls hl => ?_)
    refine lv_aload_nN hx hb dX4_back_8 rfl (lv_at hl 0 rfl) ?_
    refine lv_ifnonnullN hx hb dX4_back_9 ?_
    refine lv_iconst (v := (-1 : Int32)) hx hb dX4_back_12 (by decide) ?_
    exact rt_i X hR hS (Option.some.inj h) dX4_back_13
  · have h := of_ocs hn_2 h
    refine lv_astore_n (lv' := [(1, .ref a_2), (0, .ref a0)]) hx hb dX4_back_7 rfl hl (by decide) rfl (fun ls hl => ?_)
    refine lv_aload_n hx hb dX4_back_8 rfl (lv_at hl 0 rfl) ?_
    refine lv_ifnonnull (tgt := 14) hx hb dX4_back_9 (by decide) ?_
    refine lv_aload_n hx hb dX4_back_14 rfl (lv_at hl 1 rfl) ?_
    refine lv_aload_n hx hb dX4_back_15 rfl (lv_at hl 0 rfl) ?_
    refine rw_getI X hK hR 1 0 kf_2 (by decide) (C := RX0) (T := TX0) (N := 3) rfl (by decide) in_X4_back_1 (by decide +kernel) rfl dX4_back_16 ?_
    obtain ⟨q_3, hq_3, h⟩ := of_bind h
    refine cl_q (rn_V (As := [.int (q_2.2.1 a_2 0)]) (rest := []) X hK hR k0 rfl (by decide) hl.1 (c_X4_find l cA D Λ hT q_2.2 a0 (q_2.2.1 a_2 0) k0 hq_3) (cwV 1 hts gX4_back_X4_find rfl rfl rfl (by decide +kernel) ⟨Nat.le_trans (by decide) hM.1, Nat.le_trans (by decide) hM.2⟩) rfl rfl (Nat.le_of_ble_eq_true rfl) dX4_back_19) hS (fun hn_3 H locs hR hS => ?_) (fun a_3 hn_3 kf_3 H locs hR hS => ?_)
    · have h := of_ocn hn_3 h
      refine lv_astore_nN (lv' := [(2, .null), (1, .ref a_2), (0, .ref a0)]) hx hb dX4_back_22 rfl hl (by decide) rfl (fun ls hl => ?_)
      refine lv_aload_nN hx hb dX4_back_23 rfl (lv_at hl 0 rfl) ?_
      refine lv_ifnonnullN hx hb dX4_back_24 ?_
      refine lv_iconst (v := (-1 : Int32)) hx hb dX4_back_27 (by decide) ?_
      exact rt_i X hR hS (Option.some.inj h) dX4_back_28
    · have h := of_ocs hn_3 h
      refine lv_astore_n (lv' := [(2, .ref a_3), (1, .ref a_2), (0, .ref a0)]) hx hb dX4_back_22 rfl hl (by decide) rfl (fun ls hl => ?_)
      refine lv_aload_n hx hb dX4_back_23 rfl (lv_at hl 0 rfl) ?_
      refine lv_ifnonnull (tgt := 29) hx hb dX4_back_24 (by decide) ?_
      refine lv_aload_n hx hb dX4_back_29 rfl (lv_at hl 0 rfl) ?_
      refine lv_aload_n hx hb dX4_back_30 rfl (lv_at hl 1 rfl) ?_
      refine rw_getR X hK hT hR 1 2 3 kf_2 (by decide) (C := RX0) (T := TX0) (N := 3) rfl (by decide) in_X4_back_1 (by decide +kernel) rfl dX4_back_31 (fun kf_4 => ?_)
      obtain ⟨q_5, hq_5, h⟩ := of_bind h
      refine cl_v (rn_V (As := [.ref (rfA Λ a_2 2)]) (rest := []) X hK hR kf_3 rfl (by decide) hl.1 (c_X2_become l cA D Λ hT q_2.2 a_3 (rfA Λ a_2 2) kf_3 kf_4 hq_5) (cwV 1 hts gX4_back_X2_become rfl rfl rfl (by decide +kernel) ⟨Nat.le_trans (by decide) hM.1, Nat.le_trans (by decide) hM.2⟩) rfl rfl (Nat.le_of_ble_eq_true rfl) dX4_back_34) hS (fun H locs hR hS => ?_)
      refine lv_aload_n hx hb dX4_back_37 rfl (lv_at hl 1 rfl) ?_
      refine rw_getI X hK hR 1 1 kf_2 (by decide) (C := RX0) (T := TX0) (N := 3) rfl (by decide) in_X4_back_1 (by decide +kernel) rfl dX4_back_38 ?_
      refine lv_iconst (v := (-1 : Int32)) hx hb dX4_back_41 (by decide) ?_
      refine lv_icmp_eq (tgt := 68) hx hb dX4_back_42 (by decide) (fun hc => ?_) (fun hc => ?_)
      · have h := of_pos hc h
        refine lv_aload_n hx hb dX4_back_68 rfl (lv_at hl 1 rfl) ?_
        refine rw_getI X hK hR 1 0 kf_2 (by decide) (C := RX0) (T := TX0) (N := 3) rfl (by decide) in_X4_back_1 (by decide +kernel) rfl dX4_back_69 ?_
        exact rt_i X hR hS (Option.some.inj h) dX4_back_72
      · have h := of_neg hc h
        refine lv_aload_n hx hb dX4_back_45 rfl (lv_at hl 1 rfl) ?_
        refine rw_getI X hK hR 1 1 kf_2 (by decide) (C := RX0) (T := TX0) (N := 3) rfl (by decide) in_X4_back_1 (by decide +kernel) rfl dX4_back_46 ?_
        refine lv_aload_n hx hb dX4_back_49 rfl (lv_at hl 2 rfl) ?_
        refine rw_getI X hK hR 5 1 k0 (by decide) (C := RX4) (T := TX4) (N := 8) rfl (by decide) in_X4_back_5 (by decide +kernel) rfl dX4_back_50 ?_
        refine lv_iconst (v := (1 : Int32)) hx hb dX4_back_53 (by decide) ?_
        refine lv_isub hx hb dX4_back_54 ?_
        refine lv_icmp_ne (tgt := 68) hx hb dX4_back_55 (by decide) (fun hc => ?_) (fun hc => ?_)
        · have h := of_neg hc h
          refine lv_aload_n hx hb dX4_back_68 rfl (lv_at hl 1 rfl) ?_
          refine rw_getI X hK hR 1 0 kf_2 (by decide) (C := RX0) (T := TX0) (N := 3) rfl (by decide) in_X4_back_1 (by decide +kernel) rfl dX4_back_69 ?_
          exact rt_i X hR hS (Option.some.inj h) dX4_back_72
        · have h := of_pos hc h
          refine lv_aload_n hx hb dX4_back_58 rfl (lv_at hl 2 rfl) ?_
          refine lv_dup hx hb dX4_back_59 rfl ?_
          refine rw_getI X hK hR 5 1 k0 (by decide) (C := RX4) (T := TX4) (N := 8) rfl (by decide) in_X4_back_5 (by decide +kernel) rfl dX4_back_60 ?_
          refine lv_iconst (v := (1 : Int32)) hx hb dX4_back_63 (by decide) ?_
          refine lv_isub hx hb dX4_back_64 ?_
          refine rw_putI X hK hT hR hS 5 1 tyX4 k0 (by decide) (C := RX4) (T := TX4) (N := 8) rfl (by decide) in_X4_back_5 tyX4_ok nmX4 (by decide +kernel) rfl rfl (by decide +kernel) dX4_back_65 (fun σ_6 H locs e_6 hR hS => ?_)
          have h := of_nm e_6 h
          refine lv_aload_n hx hb dX4_back_68 rfl (lv_at hl 1 rfl) ?_
          refine rw_getI X hK hR 1 0 kf_2 (by decide) (C := RX0) (T := TX0) (N := 3) rfl (by decide) in_X4_back_1 (by decide +kernel) rfl dX4_back_69 ?_
          exact rt_i X hR hS (Option.some.inj h) dX4_back_72

set_option maxHeartbeats 4000000 in
set_option maxRecDepth 100000 in
theorem c_X4_back (l : Launch) (cA : Nat → ClassId) (D : va_G) (Λ : Lay) (hT : TL Λ) (σ : Sto) (a0 : Nat) (k0 : isK Λ a0 5) {res : Int32 × Sto} (h : F_X4_back Λ σ a0 = some res) : Met l yX4_back wsX4_back { frames := 3, cells := 0, slots := 0, locals := 67 } (va_Pc [.ref a0] (PW cA D Λ σ)) (QI cA D Λ res) 0 0 (dm Λ) := by
  refine Met.ofW (cc := cX4_back) (maxL := 3) (ret := (some .int)) (by decide) rfl ?_
  intro p e s m args below meth c s₁ B hml hv
  obtain ⟨rfl, hR, hK⟩ := hv
  have X : Cx cX4_back (some .int) 3 RX4 wsX4_back p s m _ meth c := ⟨B.exec, B.bytes, B.returns, hml, findClass_of_methodNamed B.named, atoms_spec (ws := wsX4_back) B.pre, B.notSynchronized⟩
  have hS : va_S (dm Λ) s.heap s.heap [] := va_S.rf
  have hl := lv_entry ([.ref a0]) (n := 3) (Nat.le_of_ble_eq_true rfl)
  rw [lg_entry_eq]
  generalize (lg_sl ([.ref a0]) ++ List.replicate (3 - (lg_sl ([.ref a0])).length) Slot.unset).toArray = ls at hl ⊢
  have hl : lv_has ls 3 [(0, .ref a0)] := hl
  exact w_X4_back X hK hT ⟨Nat.le_refl _, Nat.le_refl _⟩ a0 k0 h s.heap [] ls hR hS hl
set_option maxHeartbeats 4000000 in
set_option maxRecDepth 100000 in
theorem w_bd_X4_bitAfter_5 (X : Cx cX4_bitAfter (some .int) 6 RX4 wsX4_bitAfter p s m args meth c) (hK : Kn cA D s) (hT : TL Λ) (hM : 2 ≤ R.frames ∧ 42 ≤ R.locals) (l2 : Int32) (s9 : (Int64 × Int32)) {r : (Int64 × Int32) ⊕ Int64} (h : bd_X4_bitAfter_5 l2 s9 = some r) (kb : ∀ z : (Int64 × Int32), r = .inl z → ∀ (H : Heap) (locs : List Loc) (ls : Array Slot), Rep cA D Λ σ H → va_S (dm Λ) s.heap H locs → lv_has ls 6 [(2, .int l2), (3, .long z.1), (5, .int z.2)] → W p l e R s m args below meth c H locs 0 0 Q (F0 m 5 ls [])) (kx0 : ∀ z : Int64, r = .inr z → ∀ (H : Heap) (locs : List Loc) (ls : Array Slot), Rep cA D Λ σ H → va_S (dm Λ) s.heap H locs → lv_has ls 6 [(3, .long z)] → W p l e R s m args below meth c H locs 0 0 Q (F0 m 23 ls [])) (H : Heap) (locs : List Loc) (ls : Array Slot) (hR : Rep cA D Λ σ H) (hS : va_S (dm Λ) s.heap H locs) (hl : lv_has ls 6 [(2, .int l2), (3, .long s9.1), (5, .int s9.2)]) : W p l e R s m args below meth c H locs 0 0 Q (F0 m 5 ls []) := by
  have hx := X.1
  have hb := X.2.1
  have hown := X.2.2.2.2.1
  have hts := X.2.2.2.2.2.1
  unfold bd_X4_bitAfter_5 at h
  refine lv_iload hx hb dX4_bitAfter_5 (lv_at hl 2 rfl) ?_
  refine lv_iload_n hx hb dX4_bitAfter_7 rfl (lv_at hl 0 rfl) ?_
  refine lv_icmp_ge (tgt := 23) hx hb dX4_bitAfter_8 (by decide) (fun hc => ?_) (fun hc => ?_)
  · have h := of_pos hc h
    exact kx0 s9.1 (Option.some.inj h).symm H locs ls hR hS (lv_sub hl [1] rfl)
  · have h := of_neg hc h
    refine lv_lload_n hx hb dX4_bitAfter_11 rfl (lv_at hl 1 rfl) ?_
    refine lv_lload_n hx hb dX4_bitAfter_12 rfl (lv_at hl 1 rfl) ?_
    refine lv_lconst (v := (1 : Int64)) hx hb dX4_bitAfter_13 (by decide) ?_
    refine lv_lsub hx hb dX4_bitAfter_14 ?_
    refine lv_land hx hb dX4_bitAfter_15 ?_
    refine lv_topl (fun v_1 e_v_1 => ?_)
    have h := of_nm e_v_1 h
    refine lv_lstore_n (lv' := [(3, .long v_1), (2, .int l2), (5, .int s9.2)]) hx hb dX4_bitAfter_16 rfl hl (by decide) rfl (fun ls hl => ?_)
    obtain ⟨v_2, e_v_2⟩ : ∃ y : Int32, y = (s9.2 + (1 : Int32)) := ⟨_, rfl⟩
    have h := of_nm e_v_2 h
    refine lv_iinc (v := v_2) (lv' := [(5, .int v_2), (3, .long v_1), (2, .int l2)]) hx hb dX4_bitAfter_17 hl (k := 2) rfl (by rw [e_v_2]; rfl) (by decide) rfl (fun ls hl => ?_)
    refine lv_goto (tgt := 5) hx hb dX4_bitAfter_20 (by decide) ?_
    exact kb (v_1, v_2) (Option.some.inj h).symm H locs ls hR hS (lv_sub hl [2, 1, 0] rfl)

set_option maxHeartbeats 4000000 in
set_option maxRecDepth 100000 in
theorem w_lp_X4_bitAfter_5 (X : Cx cX4_bitAfter (some .int) 6 RX4 wsX4_bitAfter p s m args meth c) (hK : Kn cA D s) (hT : TL Λ) (hM : 2 ≤ R.frames ∧ 42 ≤ R.locals) (l2 : Int32) {e9 : Int64} : ∀ (n9 : Nat) (s9 : (Int64 × Int32)), iter (bd_X4_bitAfter_5 l2) n9 s9 = some e9 → ∀ (kx0 : ∀ (H : Heap) (locs : List Loc) (ls : Array Slot), Rep cA D Λ σ H → va_S (dm Λ) s.heap H locs → lv_has ls 6 [(3, .long e9)] → W p l e R s m args below meth c H locs 0 0 Q (F0 m 23 ls [])), ∀ (H : Heap) (locs : List Loc) (ls : Array Slot), Rep cA D Λ σ H → va_S (dm Λ) s.heap H locs → lv_has ls 6 [(2, .int l2), (3, .long s9.1), (5, .int s9.2)] → W p l e R s m args below meth c H locs 0 0 Q (F0 m 5 ls []) := by
  intro n9
  induction n9 with
  | zero => intro s9 h; cases h
  | succ n9 ih =>
    intro s9 h kx0 H locs ls hR hS hl
    obtain ⟨r, hr, h⟩ := of_iter h
    refine w_bd_X4_bitAfter_5 X hK hT hM l2 s9 hr (fun z ez H locs ls hR hS hl => ?_) (fun z ez H locs ls hR hS hl => ?_) H locs ls hR hS hl
    · exact ih z (of_itl ez h) kx0 H locs ls hR hS hl
    · have he := of_itr ez h; subst he; exact kx0 H locs ls hR hS hl

set_option maxHeartbeats 4000000 in
set_option maxRecDepth 100000 in
theorem w_X4_bitAfter (X : Cx cX4_bitAfter (some .int) 6 RX4 wsX4_bitAfter p s m args meth c) (hK : Kn cA D s) (hT : TL Λ) (hM : 2 ≤ R.frames ∧ 42 ≤ R.locals) (l0 : Int64) (l2 : Int32) {res : Int32} (h : F_X4_bitAfter l0 l2 = some res) (H : Heap) (locs : List Loc) (ls : Array Slot) (hR : Rep cA D Λ σ H) (hS : va_S (dm Λ) s.heap H locs) (hl : lv_has ls 6 [(0, .long l0), (2, .int l2)]) : W p l e R s m args below meth c H locs 0 0 (MQ below (QI cA D Λ (res, σ)) args s 0 0 (dm Λ)) (F0 m 0 ls []) := by
  have hx := X.1
  have hb := X.2.1
  have hown := X.2.2.2.2.1
  have hts := X.2.2.2.2.2.1
  unfold F_X4_bitAfter at h
  refine lv_lload_n hx hb dX4_bitAfter_0 rfl (lv_at hl 0 rfl) ?_
  refine lv_lstore_n (lv' := [(3, .long l0), (0, .long l0), (2, .int l2)]) hx hb dX4_bitAfter_1 rfl hl (by decide) rfl (fun ls hl => ?_)
  refine lv_iconst (v := (0 : Int32)) hx hb dX4_bitAfter_2 (by decide) ?_
  refine lv_istore (lv' := [(5, .int (0 : Int32)), (3, .long l0), (0, .long l0), (2, .int l2)]) hx hb dX4_bitAfter_3 hl (by decide) rfl (fun ls hl => ?_)
  obtain ⟨e_3, hq_3, h⟩ := of_bind h
  refine w_lp_X4_bitAfter_5 X hK hT hM l2  _ (l0, (0 : Int32)) hq_3 (fun H locs ls hR hS hl => ?_) H locs ls hR hS (lv_sub hl [3, 1, 0] rfl)
  refine lv_lload_n hx hb dX4_bitAfter_23 rfl (lv_at hl 0 rfl) ?_
  refine cl_i (rn_S (As := [.long e_3]) (rest := []) X hK hR hl.1 (c_X4_lowestBit l cA D Λ hT σ e_3) (va_cwS 1 hts gX4_bitAfter_X4_lowestBit rfl rfl rfl (by decide +kernel) ⟨Nat.le_trans (by decide) hM.1, Nat.le_trans (by decide) hM.2⟩) rfl rfl (Nat.le_of_ble_eq_true rfl) dX4_bitAfter_24) hS (fun H locs hR hS => ?_)
  refine lv_topi (fun r_4 e_4 => ?_)
  have h := of_nm e_4 h
  exact rt_i X hR hS (congrArg (fun z => (z, σ)) (Option.some.inj h)) dX4_bitAfter_27

set_option maxHeartbeats 4000000 in
set_option maxRecDepth 100000 in
theorem c_X4_bitAfter (l : Launch) (cA : Nat → ClassId) (D : va_G) (Λ : Lay) (hT : TL Λ) (σ : Sto) (l0 : Int64) (l2 : Int32) {res : Int32} (h : F_X4_bitAfter l0 l2 = some res) : Met l yX4_bitAfter wsX4_bitAfter { frames := 2, cells := 0, slots := 0, locals := 42 } (va_Pc [.long l0, .int l2] (PW cA D Λ σ)) (QI cA D Λ (res, σ)) 0 0 (dm Λ) := by
  refine Met.ofW (cc := cX4_bitAfter) (maxL := 6) (ret := (some .int)) (by decide) rfl ?_
  intro p e s m args below meth c s₁ B hml hv
  obtain ⟨rfl, hR, hK⟩ := hv
  have X : Cx cX4_bitAfter (some .int) 6 RX4 wsX4_bitAfter p s m _ meth c := ⟨B.exec, B.bytes, B.returns, hml, findClass_of_methodNamed B.named, atoms_spec (ws := wsX4_bitAfter) B.pre, B.notSynchronized⟩
  have hS : va_S (dm Λ) s.heap s.heap [] := va_S.rf
  have hl := lv_entry ([.long l0, .int l2]) (n := 6) (Nat.le_of_ble_eq_true rfl)
  rw [lg_entry_eq]
  generalize (lg_sl ([.long l0, .int l2]) ++ List.replicate (6 - (lg_sl ([.long l0, .int l2])).length) Slot.unset).toArray = ls at hl ⊢
  have hl : lv_has ls 6 [(0, .long l0), (2, .int l2)] := hl
  exact w_X4_bitAfter X hK hT ⟨Nat.le_refl _, Nat.le_refl _⟩ l0 l2 h s.heap [] ls hR hS hl
theorem in_X5_thrown_6 : ∀ w ∈ u_ws RX5 TX5 24, w ∈ wsX5_thrown := by decide +kernel
set_option maxHeartbeats 4000000 in
set_option maxRecDepth 100000 in
theorem w_X5_thrown (X : Cx cX5_thrown (some .int) 1 RX5 wsX5_thrown p s m args meth c) (hK : Kn cA D s) (hT : TL Λ) (hM : 0 ≤ R.frames ∧ 0 ≤ R.locals) (a0 : Nat) (k0 : isK Λ a0 6) {res : Int32} (h : F_X5_thrown Λ σ a0 = res) (H : Heap) (locs : List Loc) (ls : Array Slot) (hR : Rep cA D Λ σ H) (hS : va_S (dm Λ) s.heap H locs) (hl : lv_has ls 1 [(0, .ref a0)]) : W p l e R s m args below meth c H locs 0 0 (MQ below (QI cA D Λ (res, σ)) args s 0 0 (dm Λ)) (F0 m 0 ls []) := by
  have hx := X.1
  have hb := X.2.1
  have hown := X.2.2.2.2.1
  have hts := X.2.2.2.2.2.1
  unfold F_X5_thrown at h
  refine lv_aload_n hx hb dX5_thrown_0 rfl (lv_at hl 0 rfl) ?_
  refine rw_getI X hK hR 6 0 k0 (by decide) (C := RX5) (T := TX5) (N := 24) rfl (by decide) in_X5_thrown_6 (by decide +kernel) rfl dX5_thrown_1 ?_
  exact rt_i X hR hS (congrArg (fun z => (z, σ)) h) dX5_thrown_4

set_option maxHeartbeats 4000000 in
set_option maxRecDepth 100000 in
theorem c_X5_thrown (l : Launch) (cA : Nat → ClassId) (D : va_G) (Λ : Lay) (hT : TL Λ) (σ : Sto) (a0 : Nat) (k0 : isK Λ a0 6) : Met l yX5_thrown wsX5_thrown { frames := 0, cells := 0, slots := 0, locals := 0 } (va_Pc [.ref a0] (PW cA D Λ σ)) (QI cA D Λ ((F_X5_thrown Λ σ a0), σ)) 0 0 (dm Λ) := by
  refine Met.ofW (cc := cX5_thrown) (maxL := 1) (ret := (some .int)) (by decide) rfl ?_
  intro p e s m args below meth c s₁ B hml hv
  obtain ⟨rfl, hR, hK⟩ := hv
  have X : Cx cX5_thrown (some .int) 1 RX5 wsX5_thrown p s m _ meth c := ⟨B.exec, B.bytes, B.returns, hml, findClass_of_methodNamed B.named, atoms_spec (ws := wsX5_thrown) B.pre, B.notSynchronized⟩
  have hS : va_S (dm Λ) s.heap s.heap [] := va_S.rf
  have hl := lv_entry ([.ref a0]) (n := 1) (Nat.le_of_ble_eq_true rfl)
  rw [lg_entry_eq]
  generalize (lg_sl ([.ref a0]) ++ List.replicate (1 - (lg_sl ([.ref a0])).length) Slot.unset).toArray = ls at hl ⊢
  have hl : lv_has ls 1 [(0, .ref a0)] := hl
  exact w_X5_thrown X hK hT ⟨Nat.le_refl _, Nat.le_refl _⟩ a0 k0 rfl s.heap [] ls hR hS hl
set_option maxHeartbeats 4000000 in
set_option maxRecDepth 100000 in
theorem w_X5_in (X : Cx cX5_in (some .boolean) 6 RX5 wsX5_in p s m args meth c) (hK : Kn cA D s) (hT : TL Λ) (hM : 0 ≤ R.frames ∧ 0 ≤ R.locals) (l0 : Int64) (l2 : Int64) (l4 : Int64) {res : Int32} (h : F_X5_in l0 l2 l4 = res) (H : Heap) (locs : List Loc) (ls : Array Slot) (hR : Rep cA D Λ σ H) (hS : va_S (dm Λ) s.heap H locs) (hl : lv_has ls 6 [(0, .long l0), (2, .long l2), (4, .long l4)]) : W p l e R s m args below meth c H locs 0 0 (MQ below (QZ cA D Λ (res, σ)) args s 0 0 (dm Λ)) (F0 m 0 ls []) := by
  have hx := X.1
  have hb := X.2.1
  have hown := X.2.2.2.2.1
  have hts := X.2.2.2.2.2.1
  unfold F_X5_in at h
  refine lv_lload_n hx hb dX5_in_0 rfl (lv_at hl 0 rfl) ?_
  refine lv_lload_n hx hb dX5_in_1 rfl (lv_at hl 1 rfl) ?_
  refine W.lcmp hx hb dX5_in_2 ?_
  refine lv_if_lt (tgt := 17) hx hb dX5_in_3 (by decide) (fun hc => ?_) (fun hc => ?_)
  · have h := of_pos hc h
    refine lv_iconst (v := (0 : Int32)) hx hb dX5_in_17 (by decide) ?_
    exact rt_z X hR hS (congrArg (fun z => (z, σ)) h) (Or.inl rfl) dX5_in_18
  · have h := of_neg hc h
    refine lv_lload_n hx hb dX5_in_6 rfl (lv_at hl 0 rfl) ?_
    refine lv_lload hx hb dX5_in_7 (lv_at hl 2 rfl) ?_
    refine W.lcmp hx hb dX5_in_9 ?_
    refine lv_if_gt (tgt := 17) hx hb dX5_in_10 (by decide) (fun hc => ?_) (fun hc => ?_)
    · have h := of_pos hc h
      refine lv_iconst (v := (0 : Int32)) hx hb dX5_in_17 (by decide) ?_
      exact rt_z X hR hS (congrArg (fun z => (z, σ)) h) (Or.inl rfl) dX5_in_18
    · have h := of_neg hc h
      refine lv_iconst (v := (1 : Int32)) hx hb dX5_in_13 (by decide) ?_
      refine lv_goto (tgt := 18) hx hb dX5_in_14 (by decide) ?_
      exact rt_z X hR hS (congrArg (fun z => (z, σ)) h) (Or.inr rfl) dX5_in_18

set_option maxHeartbeats 4000000 in
set_option maxRecDepth 100000 in
theorem c_X5_in (l : Launch) (cA : Nat → ClassId) (D : va_G) (Λ : Lay) (hT : TL Λ) (σ : Sto) (l0 : Int64) (l2 : Int64) (l4 : Int64) : Met l yX5_in wsX5_in { frames := 0, cells := 0, slots := 0, locals := 0 } (va_Pc [.long l0, .long l2, .long l4] (PW cA D Λ σ)) (QZ cA D Λ ((F_X5_in l0 l2 l4), σ)) 0 0 (dm Λ) := by
  refine Met.ofW (cc := cX5_in) (maxL := 6) (ret := (some .boolean)) (by decide) rfl ?_
  intro p e s m args below meth c s₁ B hml hv
  obtain ⟨rfl, hR, hK⟩ := hv
  have X : Cx cX5_in (some .boolean) 6 RX5 wsX5_in p s m _ meth c := ⟨B.exec, B.bytes, B.returns, hml, findClass_of_methodNamed B.named, atoms_spec (ws := wsX5_in) B.pre, B.notSynchronized⟩
  have hS : va_S (dm Λ) s.heap s.heap [] := va_S.rf
  have hl := lv_entry ([.long l0, .long l2, .long l4]) (n := 6) (Nat.le_of_ble_eq_true rfl)
  rw [lg_entry_eq]
  generalize (lg_sl ([.long l0, .long l2, .long l4]) ++ List.replicate (6 - (lg_sl ([.long l0, .long l2, .long l4])).length) Slot.unset).toArray = ls at hl ⊢
  have hl : lv_has ls 6 [(0, .long l0), (2, .long l2), (4, .long l4)] := hl
  exact w_X5_in X hK hT ⟨Nat.le_refl _, Nat.le_refl _⟩ l0 l2 l4 rfl s.heap [] ls hR hS hl
theorem in_X5_refuse_6 : ∀ w ∈ u_ws RX5 TX5 24, w ∈ wsX5_refuse := by decide +kernel
set_option maxHeartbeats 4000000 in
set_option maxRecDepth 100000 in
theorem w_X5_refuse (X : Cx cX5_refuse (some .int) 1 RX5 wsX5_refuse p s m args meth c) (hK : Kn cA D s) (hT : TL Λ) (hM : 0 ≤ R.frames ∧ 0 ≤ R.locals) (a0 : Nat) (k0 : isK Λ a0 6) {res : Int32 × Sto} (h : F_X5_refuse Λ σ a0 = some res) (H : Heap) (locs : List Loc) (ls : Array Slot) (hR : Rep cA D Λ σ H) (hS : va_S (dm Λ) s.heap H locs) (hl : lv_has ls 1 [(0, .ref a0)]) : W p l e R s m args below meth c H locs 0 0 (MQ below (QI cA D Λ res) args s 0 0 (dm Λ)) (F0 m 0 ls []) := by
  have hx := X.1
  have hb := X.2.1
  have hown := X.2.2.2.2.1
  have hts := X.2.2.2.2.2.1
  unfold F_X5_refuse at h
  refine lv_aload_n hx hb dX5_refuse_0 rfl (lv_at hl 0 rfl) ?_
  refine lv_iconst (v := (1 : Int32)) hx hb dX5_refuse_1 (by decide) ?_
  refine rw_putI X hK hT hR hS 6 0 tyX5 k0 (by decide) (C := RX5) (T := TX5) (N := 24) rfl (by decide) in_X5_refuse_6 tyX5_ok nmX5 (by decide +kernel) rfl rfl (by decide +kernel) dX5_refuse_2 (fun σ_1 H locs e_1 hR hS => ?_)
  have h := of_nm e_1 h
  refine lv_iconst (v := (0 : Int32)) hx hb dX5_refuse_5 (by decide) ?_
  exact rt_i X hR hS (Option.some.inj h) dX5_refuse_6

set_option maxHeartbeats 4000000 in
set_option maxRecDepth 100000 in
theorem c_X5_refuse (l : Launch) (cA : Nat → ClassId) (D : va_G) (Λ : Lay) (hT : TL Λ) (σ : Sto) (a0 : Nat) (k0 : isK Λ a0 6) {res : Int32 × Sto} (h : F_X5_refuse Λ σ a0 = some res) : Met l yX5_refuse wsX5_refuse { frames := 0, cells := 0, slots := 0, locals := 0 } (va_Pc [.ref a0] (PW cA D Λ σ)) (QI cA D Λ res) 0 0 (dm Λ) := by
  refine Met.ofW (cc := cX5_refuse) (maxL := 1) (ret := (some .int)) (by decide) rfl ?_
  intro p e s m args below meth c s₁ B hml hv
  obtain ⟨rfl, hR, hK⟩ := hv
  have X : Cx cX5_refuse (some .int) 1 RX5 wsX5_refuse p s m _ meth c := ⟨B.exec, B.bytes, B.returns, hml, findClass_of_methodNamed B.named, atoms_spec (ws := wsX5_refuse) B.pre, B.notSynchronized⟩
  have hS : va_S (dm Λ) s.heap s.heap [] := va_S.rf
  have hl := lv_entry ([.ref a0]) (n := 1) (Nat.le_of_ble_eq_true rfl)
  rw [lg_entry_eq]
  generalize (lg_sl ([.ref a0]) ++ List.replicate (1 - (lg_sl ([.ref a0])).length) Slot.unset).toArray = ls at hl ⊢
  have hl : lv_has ls 1 [(0, .ref a0)] := hl
  exact w_X5_refuse X hK hT ⟨Nat.le_refl _, Nat.le_refl _⟩ a0 k0 h s.heap [] ls hR hS hl
theorem in_X5_isPage_6 : ∀ w ∈ u_ws RX5 TX5 24, w ∈ wsX5_isPage := by decide +kernel
set_option maxHeartbeats 4000000 in
set_option maxRecDepth 100000 in
theorem w_X5_isPage (X : Cx cX5_isPage (some .boolean) 2 RX5 wsX5_isPage p s m args meth c) (hK : Kn cA D s) (hT : TL Λ) (hM : 1 ≤ R.frames ∧ 25 ≤ R.locals) (a0 : Nat) (l1 : Int32) (k0 : isK Λ a0 6) {res : Int32} (h : F_X5_isPage Λ σ a0 l1 = res) (H : Heap) (locs : List Loc) (ls : Array Slot) (hR : Rep cA D Λ σ H) (hS : va_S (dm Λ) s.heap H locs) (hl : lv_has ls 2 [(0, .ref a0), (1, .int l1)]) : W p l e R s m args below meth c H locs 0 0 (MQ below (QZ cA D Λ (res, σ)) args s 0 0 (dm Λ)) (F0 m 0 ls []) := by
  have hx := X.1
  have hb := X.2.1
  have hown := X.2.2.2.2.1
  have hts := X.2.2.2.2.2.1
  unfold F_X5_isPage at h
  refine lv_iload_n hx hb dX5_isPage_0 rfl (lv_at hl 1 rfl) ?_
  refine lv_i2l (v := (l1.toInt64)) hx hb dX5_isPage_1 rfl ?_
  refine lv_lconst (v := (0 : Int64)) hx hb dX5_isPage_2 (by decide) ?_
  refine lv_aload_n hx hb dX5_isPage_3 rfl (lv_at hl 0 rfl) ?_
  refine rw_getI X hK hR 6 1 k0 (by decide) (C := RX5) (T := TX5) (N := 24) rfl (by decide) in_X5_isPage_6 (by decide +kernel) rfl dX5_isPage_4 ?_
  refine lv_iconst (v := (1 : Int32)) hx hb dX5_isPage_7 (by decide) ?_
  refine lv_isub hx hb dX5_isPage_8 ?_
  refine lv_i2l (v := (((σ.1 a0 1) - (1 : Int32)).toInt64)) hx hb dX5_isPage_9 rfl ?_
  refine cl_z (rn_S (As := [.long (l1.toInt64), .long (0 : Int64), .long (((σ.1 a0 1) - (1 : Int32)).toInt64)]) (rest := []) X hK hR hl.1 (c_X5_in l cA D Λ hT σ (l1.toInt64) (0 : Int64) (((σ.1 a0 1) - (1 : Int32)).toInt64)) (va_cwS 3 hts gX5_isPage_X5_in rfl rfl rfl (by decide +kernel) ⟨Nat.le_trans (by decide) hM.1, Nat.le_trans (by decide) hM.2⟩) rfl rfl (Nat.le_of_ble_eq_true rfl) dX5_isPage_10) hS (fun hz_1 H locs hR hS => ?_)
  refine lv_topi (fun r_1 e_1 => ?_)
  have h := of_nm e_1 h
  have hz_1 : r_1 = 0 ∨ r_1 = 1 := by rw [e_1]; exact hz_1
  exact rt_z X hR hS (congrArg (fun z => (z, σ)) h) hz_1 dX5_isPage_13

set_option maxHeartbeats 4000000 in
set_option maxRecDepth 100000 in
theorem c_X5_isPage (l : Launch) (cA : Nat → ClassId) (D : va_G) (Λ : Lay) (hT : TL Λ) (σ : Sto) (a0 : Nat) (l1 : Int32) (k0 : isK Λ a0 6) : Met l yX5_isPage wsX5_isPage { frames := 1, cells := 0, slots := 0, locals := 25 } (va_Pc [.ref a0, .int l1] (PW cA D Λ σ)) (QZ cA D Λ ((F_X5_isPage Λ σ a0 l1), σ)) 0 0 (dm Λ) := by
  refine Met.ofW (cc := cX5_isPage) (maxL := 2) (ret := (some .boolean)) (by decide) rfl ?_
  intro p e s m args below meth c s₁ B hml hv
  obtain ⟨rfl, hR, hK⟩ := hv
  have X : Cx cX5_isPage (some .boolean) 2 RX5 wsX5_isPage p s m _ meth c := ⟨B.exec, B.bytes, B.returns, hml, findClass_of_methodNamed B.named, atoms_spec (ws := wsX5_isPage) B.pre, B.notSynchronized⟩
  have hS : va_S (dm Λ) s.heap s.heap [] := va_S.rf
  have hl := lv_entry ([.ref a0, .int l1]) (n := 2) (Nat.le_of_ble_eq_true rfl)
  rw [lg_entry_eq]
  generalize (lg_sl ([.ref a0, .int l1]) ++ List.replicate (2 - (lg_sl ([.ref a0, .int l1])).length) Slot.unset).toArray = ls at hl ⊢
  have hl : lv_has ls 2 [(0, .ref a0), (1, .int l1)] := hl
  exact w_X5_isPage X hK hT ⟨Nat.le_refl _, Nat.le_refl _⟩ a0 l1 k0 rfl s.heap [] ls hR hS hl
theorem in_X5_has_6 : ∀ w ∈ u_ws RX5 TX5 24, w ∈ wsX5_has := by decide +kernel
set_option maxHeartbeats 4000000 in
set_option maxRecDepth 100000 in
theorem w_X5_has (X : Cx cX5_has (some .boolean) 4 RX5 wsX5_has p s m args meth c) (hK : Kn cA D s) (hT : TL Λ) (hM : 0 ≤ R.frames ∧ 0 ≤ R.locals) (a0 : Nat) (l1 : Int32) (l2 : Int32) (l3 : Int32) (k0 : isK Λ a0 6) {res : Int32} (h : F_X5_has Λ σ a0 l1 l2 l3 = some res) (H : Heap) (locs : List Loc) (ls : Array Slot) (hR : Rep cA D Λ σ H) (hS : va_S (dm Λ) s.heap H locs) (hl : lv_has ls 4 [(0, .ref a0), (1, .int l1), (2, .int l2), (3, .int l3)]) : W p l e R s m args below meth c H locs 0 0 (MQ below (QZ cA D Λ (res, σ)) args s 0 0 (dm Λ)) (F0 m 0 ls []) := by
  have hx := X.1
  have hb := X.2.1
  have hown := X.2.2.2.2.1
  have hts := X.2.2.2.2.2.1
  unfold F_X5_has at h
  refine lv_aload_n hx hb dX5_has_0 rfl (lv_at hl 0 rfl) ?_
  refine rw_getR X hK hT hR 6 4 9 k0 (by decide) (C := RX5) (T := TX5) (N := 24) rfl (by decide) in_X5_has_6 (by decide +kernel) rfl dX5_has_1 (fun kf_1 => ?_)
  refine lv_iload_n hx hb dX5_has_4 rfl (lv_at hl 1 rfl) ?_
  refine lv_sipush (v := (4096 : Int32)) hx hb dX5_has_5 (by decide) ?_
  refine lv_imul hx hb dX5_has_8 ?_
  refine lv_iload_n hx hb dX5_has_9 rfl (lv_at hl 3 rfl) ?_
  refine lv_bipush (v := (64 : Int32)) hx hb dX5_has_10 (by decide) ?_
  refine lv_imul hx hb dX5_has_12 ?_
  refine lv_iadd hx hb dX5_has_13 ?_
  refine lv_iload_n hx hb dX5_has_14 rfl (lv_at hl 2 rfl) ?_
  refine lv_iadd hx hb dX5_has_15 ?_
  obtain ⟨hg_2, h⟩ := of_guard h
  refine rw_zald X hK hR kf_1 hg_2 dX5_has_16 ?_
  obtain ⟨hz, h⟩ := of_guard h
  exact rt_z X hR hS (congrArg (fun z => (z, σ)) (Option.some.inj h)) (of_bz hz) dX5_has_17

set_option maxHeartbeats 4000000 in
set_option maxRecDepth 100000 in
theorem c_X5_has (l : Launch) (cA : Nat → ClassId) (D : va_G) (Λ : Lay) (hT : TL Λ) (σ : Sto) (a0 : Nat) (l1 : Int32) (l2 : Int32) (l3 : Int32) (k0 : isK Λ a0 6) {res : Int32} (h : F_X5_has Λ σ a0 l1 l2 l3 = some res) : Met l yX5_has wsX5_has { frames := 0, cells := 0, slots := 0, locals := 0 } (va_Pc [.ref a0, .int l1, .int l2, .int l3] (PW cA D Λ σ)) (QZ cA D Λ (res, σ)) 0 0 (dm Λ) := by
  refine Met.ofW (cc := cX5_has) (maxL := 4) (ret := (some .boolean)) (by decide) rfl ?_
  intro p e s m args below meth c s₁ B hml hv
  obtain ⟨rfl, hR, hK⟩ := hv
  have X : Cx cX5_has (some .boolean) 4 RX5 wsX5_has p s m _ meth c := ⟨B.exec, B.bytes, B.returns, hml, findClass_of_methodNamed B.named, atoms_spec (ws := wsX5_has) B.pre, B.notSynchronized⟩
  have hS : va_S (dm Λ) s.heap s.heap [] := va_S.rf
  have hl := lv_entry ([.ref a0, .int l1, .int l2, .int l3]) (n := 4) (Nat.le_of_ble_eq_true rfl)
  rw [lg_entry_eq]
  generalize (lg_sl ([.ref a0, .int l1, .int l2, .int l3]) ++ List.replicate (4 - (lg_sl ([.ref a0, .int l1, .int l2, .int l3])).length) Slot.unset).toArray = ls at hl ⊢
  have hl : lv_has ls 4 [(0, .ref a0), (1, .int l1), (2, .int l2), (3, .int l3)] := hl
  exact w_X5_has X hK hT ⟨Nat.le_refl _, Nat.le_refl _⟩ a0 l1 l2 l3 k0 h s.heap [] ls hR hS hl
theorem in_X5_inks_6 : ∀ w ∈ u_ws RX5 TX5 24, w ∈ wsX5_inks := by decide +kernel
set_option maxHeartbeats 4000000 in
set_option maxRecDepth 100000 in
theorem w_X5_inks (X : Cx cX5_inks none 5 RX5 wsX5_inks p s m args meth c) (hK : Kn cA D s) (hT : TL Λ) (hM : 0 ≤ R.frames ∧ 0 ≤ R.locals) (a0 : Nat) (l1 : Int32) (l2 : Int32) (l3 : Int32) (l4 : Int32) (k0 : isK Λ a0 6) {res : Sto} (h : F_X5_inks Λ σ a0 l1 l2 l3 l4 = some res) (H : Heap) (locs : List Loc) (ls : Array Slot) (hR : Rep cA D Λ σ H) (hS : va_S (dm Λ) s.heap H locs) (hl : lv_has ls 5 [(0, .ref a0), (1, .int l1), (2, .int l2), (3, .int l3), (4, .int l4)]) : W p l e R s m args below meth c H locs 0 0 (MQ below (QV cA D Λ res) args s 0 0 (dm Λ)) (F0 m 0 ls []) := by
  have hx := X.1
  have hb := X.2.1
  have hown := X.2.2.2.2.1
  have hts := X.2.2.2.2.2.1
  unfold F_X5_inks at h
  refine lv_aload_n hx hb dX5_inks_0 rfl (lv_at hl 0 rfl) ?_
  refine rw_getR X hK hT hR 6 4 9 k0 (by decide) (C := RX5) (T := TX5) (N := 24) rfl (by decide) in_X5_inks_6 (by decide +kernel) rfl dX5_inks_1 (fun kf_1 => ?_)
  refine lv_iload_n hx hb dX5_inks_4 rfl (lv_at hl 1 rfl) ?_
  refine lv_sipush (v := (4096 : Int32)) hx hb dX5_inks_5 (by decide) ?_
  refine lv_imul hx hb dX5_inks_8 ?_
  refine lv_iload_n hx hb dX5_inks_9 rfl (lv_at hl 3 rfl) ?_
  refine lv_bipush (v := (64 : Int32)) hx hb dX5_inks_10 (by decide) ?_
  refine lv_imul hx hb dX5_inks_12 ?_
  refine lv_iadd hx hb dX5_inks_13 ?_
  refine lv_iload_n hx hb dX5_inks_14 rfl (lv_at hl 2 rfl) ?_
  refine lv_iadd hx hb dX5_inks_15 ?_
  refine lv_iload hx hb dX5_inks_16 (lv_at hl 4 rfl) ?_
  obtain ⟨hg_2, h⟩ := of_guard h
  refine rw_zast X hK hT hR hS kf_1 hg_2 dX5_inks_18 (fun σ_2 H locs e_2 hR hS => ?_)
  have h := of_nm e_2 h
  exact rt_v X hR hS (Option.some.inj h) dX5_inks_19

set_option maxHeartbeats 4000000 in
set_option maxRecDepth 100000 in
theorem c_X5_inks (l : Launch) (cA : Nat → ClassId) (D : va_G) (Λ : Lay) (hT : TL Λ) (σ : Sto) (a0 : Nat) (l1 : Int32) (l2 : Int32) (l3 : Int32) (l4 : Int32) (k0 : isK Λ a0 6) {res : Sto} (h : F_X5_inks Λ σ a0 l1 l2 l3 l4 = some res) : Met l yX5_inks wsX5_inks { frames := 0, cells := 0, slots := 0, locals := 0 } (va_Pc [.ref a0, .int l1, .int l2, .int l3, .int l4] (PW cA D Λ σ)) (QV cA D Λ res) 0 0 (dm Λ) := by
  refine Met.ofW (cc := cX5_inks) (maxL := 5) (ret := none) (by decide) rfl ?_
  intro p e s m args below meth c s₁ B hml hv
  obtain ⟨rfl, hR, hK⟩ := hv
  have X : Cx cX5_inks none 5 RX5 wsX5_inks p s m _ meth c := ⟨B.exec, B.bytes, B.returns, hml, findClass_of_methodNamed B.named, atoms_spec (ws := wsX5_inks) B.pre, B.notSynchronized⟩
  have hS : va_S (dm Λ) s.heap s.heap [] := va_S.rf
  have hl := lv_entry ([.ref a0, .int l1, .int l2, .int l3, .int l4]) (n := 5) (Nat.le_of_ble_eq_true rfl)
  rw [lg_entry_eq]
  generalize (lg_sl ([.ref a0, .int l1, .int l2, .int l3, .int l4]) ++ List.replicate (5 - (lg_sl ([.ref a0, .int l1, .int l2, .int l3, .int l4])).length) Slot.unset).toArray = ls at hl ⊢
  have hl : lv_has ls 5 [(0, .ref a0), (1, .int l1), (2, .int l2), (3, .int l3), (4, .int l4)] := hl
  exact w_X5_inks X hK hT ⟨Nat.le_refl _, Nat.le_refl _⟩ a0 l1 l2 l3 l4 k0 h s.heap [] ls hR hS hl
theorem in_X5_clears_6 : ∀ w ∈ u_ws RX5 TX5 24, w ∈ wsX5_clears := by decide +kernel
set_option maxHeartbeats 4000000 in
set_option maxRecDepth 100000 in
theorem w_bd_X5_clears_17 (X : Cx cX5_clears none 5 RX5 wsX5_clears p s m args meth c) (hK : Kn cA D s) (hT : TL Λ) (hM : 0 ≤ R.frames ∧ 0 ≤ R.locals) (a0 : Nat) (l1 : Int32) (s9 : (Int32 × Sto)) (k0 : isK Λ a0 6) {r : (Int32 × Sto) ⊕ Sto} (h : bd_X5_clears_17 Λ a0 l1 s9 = some r) (kb : ∀ z : (Int32 × Sto), r = .inl z → ∀ (H : Heap) (locs : List Loc) (ls : Array Slot), Rep cA D Λ z.2 H → va_S (dm Λ) s.heap H locs → lv_has ls 5 [(0, .ref a0), (1, .int l1), (4, .int z.1)] → W p l e R s m args below meth c H locs 0 0 Q (F0 m 17 ls [])) (kx0 : ∀ z : Sto, r = .inr z → ∀ (H : Heap) (locs : List Loc) (ls : Array Slot), Rep cA D Λ z H → va_S (dm Λ) s.heap H locs → lv_has ls 5 [] → W p l e R s m args below meth c H locs 0 0 Q (F0 m 45 ls [])) (H : Heap) (locs : List Loc) (ls : Array Slot) (hR : Rep cA D Λ s9.2 H) (hS : va_S (dm Λ) s.heap H locs) (hl : lv_has ls 5 [(0, .ref a0), (1, .int l1), (4, .int s9.1)]) : W p l e R s m args below meth c H locs 0 0 Q (F0 m 17 ls []) := by
  have hx := X.1
  have hb := X.2.1
  have hown := X.2.2.2.2.1
  have hts := X.2.2.2.2.2.1
  unfold bd_X5_clears_17 at h
  refine lv_iload hx hb dX5_clears_17 (lv_at hl 2 rfl) ?_
  refine lv_sipush (v := (4096 : Int32)) hx hb dX5_clears_19 (by decide) ?_
  refine lv_icmp_ge (tgt := 45) hx hb dX5_clears_22 (by decide) (fun hc => ?_) (fun hc => ?_)
  · have h := of_pos hc h
    exact kx0 s9.2 (Option.some.inj h).symm H locs ls hR hS (lv_sub hl [] rfl)
  · have h := of_neg hc h
    refine lv_aload_n hx hb dX5_clears_25 rfl (lv_at hl 0 rfl) ?_
    refine rw_getR X hK hT hR 6 4 9 k0 (by decide) (C := RX5) (T := TX5) (N := 24) rfl (by decide) in_X5_clears_6 (by decide +kernel) rfl dX5_clears_26 (fun kf_5 => ?_)
    refine lv_iload_n hx hb dX5_clears_29 rfl (lv_at hl 1 rfl) ?_
    refine lv_sipush (v := (4096 : Int32)) hx hb dX5_clears_30 (by decide) ?_
    refine lv_imul hx hb dX5_clears_33 ?_
    refine lv_iload hx hb dX5_clears_34 (lv_at hl 2 rfl) ?_
    refine lv_iadd hx hb dX5_clears_36 ?_
    refine lv_iconst (v := (0 : Int32)) hx hb dX5_clears_37 (by decide) ?_
    obtain ⟨hg_6, h⟩ := of_guard h
    refine rw_zast X hK hT hR hS kf_5 hg_6 dX5_clears_38 (fun σ_6 H locs e_6 hR hS => ?_)
    have h := of_nm e_6 h
    obtain ⟨v_7, e_v_7⟩ : ∃ y : Int32, y = (s9.1 + (1 : Int32)) := ⟨_, rfl⟩
    have h := of_nm e_v_7 h
    refine lv_iinc (v := v_7) (lv' := [(4, .int v_7), (0, .ref a0), (1, .int l1)]) hx hb dX5_clears_39 hl (k := 2) rfl (by rw [e_v_7]; rfl) (by decide) rfl (fun ls hl => ?_)
    refine lv_goto (tgt := 17) hx hb dX5_clears_42 (by decide) ?_
    exact kb (v_7, σ_6) (Option.some.inj h).symm H locs ls hR hS (lv_sub hl [1, 2, 0] rfl)

set_option maxHeartbeats 4000000 in
set_option maxRecDepth 100000 in
theorem w_lp_X5_clears_17 (X : Cx cX5_clears none 5 RX5 wsX5_clears p s m args meth c) (hK : Kn cA D s) (hT : TL Λ) (hM : 0 ≤ R.frames ∧ 0 ≤ R.locals) (a0 : Nat) (l1 : Int32) (k0 : isK Λ a0 6) {e9 : Sto} : ∀ (n9 : Nat) (s9 : (Int32 × Sto)), iter (bd_X5_clears_17 Λ a0 l1) n9 s9 = some e9 → ∀ (kx0 : ∀ (H : Heap) (locs : List Loc) (ls : Array Slot), Rep cA D Λ e9 H → va_S (dm Λ) s.heap H locs → lv_has ls 5 [] → W p l e R s m args below meth c H locs 0 0 Q (F0 m 45 ls [])), ∀ (H : Heap) (locs : List Loc) (ls : Array Slot), Rep cA D Λ s9.2 H → va_S (dm Λ) s.heap H locs → lv_has ls 5 [(0, .ref a0), (1, .int l1), (4, .int s9.1)] → W p l e R s m args below meth c H locs 0 0 Q (F0 m 17 ls []) := by
  intro n9
  induction n9 with
  | zero => intro s9 h; cases h
  | succ n9 ih =>
    intro s9 h kx0 H locs ls hR hS hl
    obtain ⟨r, hr, h⟩ := of_iter h
    refine w_bd_X5_clears_17 X hK hT hM a0 l1 s9 k0 hr (fun z ez H locs ls hR hS hl => ?_) (fun z ez H locs ls hR hS hl => ?_) H locs ls hR hS hl
    · exact ih z (of_itl ez h) kx0 H locs ls hR hS hl
    · have he := of_itr ez h; subst he; exact kx0 H locs ls hR hS hl

set_option maxHeartbeats 4000000 in
set_option maxRecDepth 100000 in
theorem w_X5_clears (X : Cx cX5_clears none 5 RX5 wsX5_clears p s m args meth c) (hK : Kn cA D s) (hT : TL Λ) (hM : 0 ≤ R.frames ∧ 0 ≤ R.locals) (a0 : Nat) (l1 : Int32) (l2 : Int32) (l3 : Int32) (k0 : isK Λ a0 6) {res : Sto} (h : F_X5_clears Λ σ a0 l1 l2 l3 = some res) (H : Heap) (locs : List Loc) (ls : Array Slot) (hR : Rep cA D Λ σ H) (hS : va_S (dm Λ) s.heap H locs) (hl : lv_has ls 5 [(0, .ref a0), (1, .int l1), (2, .int l2), (3, .int l3)]) : W p l e R s m args below meth c H locs 0 0 (MQ below (QV cA D Λ res) args s 0 0 (dm Λ)) (F0 m 0 ls []) := by
  have hx := X.1
  have hb := X.2.1
  have hown := X.2.2.2.2.1
  have hts := X.2.2.2.2.2.1
  unfold F_X5_clears at h
  refine lv_aload_n hx hb dX5_clears_0 rfl (lv_at hl 0 rfl) ?_
  refine rw_getR X hK hT hR 6 2 7 k0 (by decide) (C := RX5) (T := TX5) (N := 24) rfl (by decide) in_X5_clears_6 (by decide +kernel) rfl dX5_clears_1 (fun kf_1 => ?_)
  refine lv_iload_n hx hb dX5_clears_4 rfl (lv_at hl 1 rfl) ?_
  refine lv_iload_n hx hb dX5_clears_5 rfl (lv_at hl 2 rfl) ?_
  obtain ⟨hg_2, h⟩ := of_guard h
  refine rw_iast X hK hT hR hS kf_1 hg_2 dX5_clears_6 (fun σ_2 H locs e_2 hR hS => ?_)
  have h := of_nm e_2 h
  refine lv_aload_n hx hb dX5_clears_7 rfl (lv_at hl 0 rfl) ?_
  refine rw_getR X hK hT hR 6 3 7 k0 (by decide) (C := RX5) (T := TX5) (N := 24) rfl (by decide) in_X5_clears_6 (by decide +kernel) rfl dX5_clears_8 (fun kf_3 => ?_)
  refine lv_iload_n hx hb dX5_clears_11 rfl (lv_at hl 1 rfl) ?_
  refine lv_iload_n hx hb dX5_clears_12 rfl (lv_at hl 3 rfl) ?_
  obtain ⟨hg_4, h⟩ := of_guard h
  refine rw_iast X hK hT hR hS kf_3 hg_4 dX5_clears_13 (fun σ_4 H locs e_4 hR hS => ?_)
  have h := of_nm e_4 h
  refine lv_iconst (v := (0 : Int32)) hx hb dX5_clears_14 (by decide) ?_
  refine lv_istore (lv' := [(4, .int (0 : Int32)), (0, .ref a0), (1, .int l1), (2, .int l2), (3, .int l3)]) hx hb dX5_clears_15 hl (by decide) rfl (fun ls hl => ?_)
  obtain ⟨e_8, hq_8, h⟩ := of_bind h
  refine w_lp_X5_clears_17 X hK hT hM a0 l1 k0 _ ((0 : Int32), σ_4) hq_8 (fun H locs ls hR hS hl => ?_) H locs ls hR hS (lv_sub hl [1, 2, 0] rfl)
  exact rt_v X hR hS (Option.some.inj h) dX5_clears_45

set_option maxHeartbeats 4000000 in
set_option maxRecDepth 100000 in
theorem c_X5_clears (l : Launch) (cA : Nat → ClassId) (D : va_G) (Λ : Lay) (hT : TL Λ) (σ : Sto) (a0 : Nat) (l1 : Int32) (l2 : Int32) (l3 : Int32) (k0 : isK Λ a0 6) {res : Sto} (h : F_X5_clears Λ σ a0 l1 l2 l3 = some res) : Met l yX5_clears wsX5_clears { frames := 0, cells := 0, slots := 0, locals := 0 } (va_Pc [.ref a0, .int l1, .int l2, .int l3] (PW cA D Λ σ)) (QV cA D Λ res) 0 0 (dm Λ) := by
  refine Met.ofW (cc := cX5_clears) (maxL := 5) (ret := none) (by decide) rfl ?_
  intro p e s m args below meth c s₁ B hml hv
  obtain ⟨rfl, hR, hK⟩ := hv
  have X : Cx cX5_clears none 5 RX5 wsX5_clears p s m _ meth c := ⟨B.exec, B.bytes, B.returns, hml, findClass_of_methodNamed B.named, atoms_spec (ws := wsX5_clears) B.pre, B.notSynchronized⟩
  have hS : va_S (dm Λ) s.heap s.heap [] := va_S.rf
  have hl := lv_entry ([.ref a0, .int l1, .int l2, .int l3]) (n := 5) (Nat.le_of_ble_eq_true rfl)
  rw [lg_entry_eq]
  generalize (lg_sl ([.ref a0, .int l1, .int l2, .int l3]) ++ List.replicate (5 - (lg_sl ([.ref a0, .int l1, .int l2, .int l3])).length) Slot.unset).toArray = ls at hl ⊢
  have hl : lv_has ls 5 [(0, .ref a0), (1, .int l1), (2, .int l2), (3, .int l3)] := hl
  exact w_X5_clears X hK hT ⟨Nat.le_refl _, Nat.le_refl _⟩ a0 l1 l2 l3 k0 h s.heap [] ls hR hS hl
theorem in_X5_blank_6 : ∀ w ∈ u_ws RX5 TX5 24, w ∈ wsX5_blank := by decide +kernel
set_option maxHeartbeats 4000000 in
set_option maxRecDepth 100000 in
theorem w_bd_X5_blank_2 (X : Cx cX5_blank none 2 RX5 wsX5_blank p s m args meth c) (hK : Kn cA D s) (hT : TL Λ) (hM : 0 ≤ R.frames ∧ 0 ≤ R.locals) (a0 : Nat) (s9 : (Int32 × Sto)) (k0 : isK Λ a0 6) {r : (Int32 × Sto) ⊕ Sto} (h : bd_X5_blank_2 Λ a0 s9 = some r) (kb : ∀ z : (Int32 × Sto), r = .inl z → ∀ (H : Heap) (locs : List Loc) (ls : Array Slot), Rep cA D Λ z.2 H → va_S (dm Λ) s.heap H locs → lv_has ls 2 [(0, .ref a0), (1, .int z.1)] → W p l e R s m args below meth c H locs 0 0 Q (F0 m 2 ls [])) (kx0 : ∀ z : Sto, r = .inr z → ∀ (H : Heap) (locs : List Loc) (ls : Array Slot), Rep cA D Λ z H → va_S (dm Λ) s.heap H locs → lv_has ls 2 [] → W p l e R s m args below meth c H locs 0 0 Q (F0 m 22 ls [])) (H : Heap) (locs : List Loc) (ls : Array Slot) (hR : Rep cA D Λ s9.2 H) (hS : va_S (dm Λ) s.heap H locs) (hl : lv_has ls 2 [(0, .ref a0), (1, .int s9.1)]) : W p l e R s m args below meth c H locs 0 0 Q (F0 m 2 ls []) := by
  have hx := X.1
  have hb := X.2.1
  have hown := X.2.2.2.2.1
  have hts := X.2.2.2.2.2.1
  unfold bd_X5_blank_2 at h
  refine lv_iload_n hx hb dX5_blank_2 rfl (lv_at hl 1 rfl) ?_
  refine lv_sipush (v := (4096 : Int32)) hx hb dX5_blank_3 (by decide) ?_
  refine lv_icmp_ge (tgt := 22) hx hb dX5_blank_6 (by decide) (fun hc => ?_) (fun hc => ?_)
  · have h := of_pos hc h
    exact kx0 s9.2 (Option.some.inj h).symm H locs ls hR hS (lv_sub hl [] rfl)
  · have h := of_neg hc h
    refine lv_aload_n hx hb dX5_blank_9 rfl (lv_at hl 0 rfl) ?_
    refine rw_getR X hK hT hR 6 5 9 k0 (by decide) (C := RX5) (T := TX5) (N := 24) rfl (by decide) in_X5_blank_6 (by decide +kernel) rfl dX5_blank_10 (fun kf_1 => ?_)
    refine lv_iload_n hx hb dX5_blank_13 rfl (lv_at hl 1 rfl) ?_
    refine lv_iconst (v := (0 : Int32)) hx hb dX5_blank_14 (by decide) ?_
    obtain ⟨hg_2, h⟩ := of_guard h
    refine rw_zast X hK hT hR hS kf_1 hg_2 dX5_blank_15 (fun σ_2 H locs e_2 hR hS => ?_)
    have h := of_nm e_2 h
    obtain ⟨v_3, e_v_3⟩ : ∃ y : Int32, y = (s9.1 + (1 : Int32)) := ⟨_, rfl⟩
    have h := of_nm e_v_3 h
    refine lv_iinc (v := v_3) (lv' := [(1, .int v_3), (0, .ref a0)]) hx hb dX5_blank_16 hl (k := 1) rfl (by rw [e_v_3]; rfl) (by decide) rfl (fun ls hl => ?_)
    refine lv_goto (tgt := 2) hx hb dX5_blank_19 (by decide) ?_
    exact kb (v_3, σ_2) (Option.some.inj h).symm H locs ls hR hS (lv_sub hl [1, 0] rfl)

set_option maxHeartbeats 4000000 in
set_option maxRecDepth 100000 in
theorem w_lp_X5_blank_2 (X : Cx cX5_blank none 2 RX5 wsX5_blank p s m args meth c) (hK : Kn cA D s) (hT : TL Λ) (hM : 0 ≤ R.frames ∧ 0 ≤ R.locals) (a0 : Nat) (k0 : isK Λ a0 6) {e9 : Sto} : ∀ (n9 : Nat) (s9 : (Int32 × Sto)), iter (bd_X5_blank_2 Λ a0) n9 s9 = some e9 → ∀ (kx0 : ∀ (H : Heap) (locs : List Loc) (ls : Array Slot), Rep cA D Λ e9 H → va_S (dm Λ) s.heap H locs → lv_has ls 2 [] → W p l e R s m args below meth c H locs 0 0 Q (F0 m 22 ls [])), ∀ (H : Heap) (locs : List Loc) (ls : Array Slot), Rep cA D Λ s9.2 H → va_S (dm Λ) s.heap H locs → lv_has ls 2 [(0, .ref a0), (1, .int s9.1)] → W p l e R s m args below meth c H locs 0 0 Q (F0 m 2 ls []) := by
  intro n9
  induction n9 with
  | zero => intro s9 h; cases h
  | succ n9 ih =>
    intro s9 h kx0 H locs ls hR hS hl
    obtain ⟨r, hr, h⟩ := of_iter h
    refine w_bd_X5_blank_2 X hK hT hM a0 s9 k0 hr (fun z ez H locs ls hR hS hl => ?_) (fun z ez H locs ls hR hS hl => ?_) H locs ls hR hS hl
    · exact ih z (of_itl ez h) kx0 H locs ls hR hS hl
    · have he := of_itr ez h; subst he; exact kx0 H locs ls hR hS hl

set_option maxHeartbeats 4000000 in
set_option maxRecDepth 100000 in
theorem w_X5_blank (X : Cx cX5_blank none 2 RX5 wsX5_blank p s m args meth c) (hK : Kn cA D s) (hT : TL Λ) (hM : 0 ≤ R.frames ∧ 0 ≤ R.locals) (a0 : Nat) (k0 : isK Λ a0 6) {res : Sto} (h : F_X5_blank Λ σ a0 = some res) (H : Heap) (locs : List Loc) (ls : Array Slot) (hR : Rep cA D Λ σ H) (hS : va_S (dm Λ) s.heap H locs) (hl : lv_has ls 2 [(0, .ref a0)]) : W p l e R s m args below meth c H locs 0 0 (MQ below (QV cA D Λ res) args s 0 0 (dm Λ)) (F0 m 0 ls []) := by
  have hx := X.1
  have hb := X.2.1
  have hown := X.2.2.2.2.1
  have hts := X.2.2.2.2.2.1
  unfold F_X5_blank at h
  refine lv_iconst (v := (0 : Int32)) hx hb dX5_blank_0 (by decide) ?_
  refine lv_istore_n (lv' := [(1, .int (0 : Int32)), (0, .ref a0)]) hx hb dX5_blank_1 rfl hl (by decide) rfl (fun ls hl => ?_)
  obtain ⟨e_4, hq_4, h⟩ := of_bind h
  refine w_lp_X5_blank_2 X hK hT hM a0 k0 _ ((0 : Int32), σ) hq_4 (fun H locs ls hR hS hl => ?_) H locs ls hR hS (lv_sub hl [1, 0] rfl)
  exact rt_v X hR hS (Option.some.inj h) dX5_blank_22

set_option maxHeartbeats 4000000 in
set_option maxRecDepth 100000 in
theorem c_X5_blank (l : Launch) (cA : Nat → ClassId) (D : va_G) (Λ : Lay) (hT : TL Λ) (σ : Sto) (a0 : Nat) (k0 : isK Λ a0 6) {res : Sto} (h : F_X5_blank Λ σ a0 = some res) : Met l yX5_blank wsX5_blank { frames := 0, cells := 0, slots := 0, locals := 0 } (va_Pc [.ref a0] (PW cA D Λ σ)) (QV cA D Λ res) 0 0 (dm Λ) := by
  refine Met.ofW (cc := cX5_blank) (maxL := 2) (ret := none) (by decide) rfl ?_
  intro p e s m args below meth c s₁ B hml hv
  obtain ⟨rfl, hR, hK⟩ := hv
  have X : Cx cX5_blank none 2 RX5 wsX5_blank p s m _ meth c := ⟨B.exec, B.bytes, B.returns, hml, findClass_of_methodNamed B.named, atoms_spec (ws := wsX5_blank) B.pre, B.notSynchronized⟩
  have hS : va_S (dm Λ) s.heap s.heap [] := va_S.rf
  have hl := lv_entry ([.ref a0]) (n := 2) (Nat.le_of_ble_eq_true rfl)
  rw [lg_entry_eq]
  generalize (lg_sl ([.ref a0]) ++ List.replicate (2 - (lg_sl ([.ref a0])).length) Slot.unset).toArray = ls at hl ⊢
  have hl : lv_has ls 2 [(0, .ref a0)] := hl
  exact w_X5_blank X hK hT ⟨Nat.le_refl _, Nat.le_refl _⟩ a0 k0 h s.heap [] ls hR hS hl
theorem in_X5_becomes_6 : ∀ w ∈ u_ws RX5 TX5 24, w ∈ wsX5_becomes := by decide +kernel
set_option maxHeartbeats 4000000 in
set_option maxRecDepth 100000 in
theorem w_bd_X5_becomes_17 (X : Cx cX5_becomes none 5 RX5 wsX5_becomes p s m args meth c) (hK : Kn cA D s) (hT : TL Λ) (hM : 0 ≤ R.frames ∧ 0 ≤ R.locals) (a0 : Nat) (l1 : Int32) (s9 : (Int32 × Sto)) (k0 : isK Λ a0 6) {r : (Int32 × Sto) ⊕ Sto} (h : bd_X5_becomes_17 Λ a0 l1 s9 = some r) (kb : ∀ z : (Int32 × Sto), r = .inl z → ∀ (H : Heap) (locs : List Loc) (ls : Array Slot), Rep cA D Λ z.2 H → va_S (dm Λ) s.heap H locs → lv_has ls 5 [(0, .ref a0), (1, .int l1), (4, .int z.1)] → W p l e R s m args below meth c H locs 0 0 Q (F0 m 17 ls [])) (kx0 : ∀ z : Sto, r = .inr z → ∀ (H : Heap) (locs : List Loc) (ls : Array Slot), Rep cA D Λ z H → va_S (dm Λ) s.heap H locs → lv_has ls 5 [] → W p l e R s m args below meth c H locs 0 0 Q (F0 m 51 ls [])) (H : Heap) (locs : List Loc) (ls : Array Slot) (hR : Rep cA D Λ s9.2 H) (hS : va_S (dm Λ) s.heap H locs) (hl : lv_has ls 5 [(0, .ref a0), (1, .int l1), (4, .int s9.1)]) : W p l e R s m args below meth c H locs 0 0 Q (F0 m 17 ls []) := by
  have hx := X.1
  have hb := X.2.1
  have hown := X.2.2.2.2.1
  have hts := X.2.2.2.2.2.1
  unfold bd_X5_becomes_17 at h
  refine lv_iload hx hb dX5_becomes_17 (lv_at hl 2 rfl) ?_
  refine lv_sipush (v := (4096 : Int32)) hx hb dX5_becomes_19 (by decide) ?_
  refine lv_icmp_ge (tgt := 51) hx hb dX5_becomes_22 (by decide) (fun hc => ?_) (fun hc => ?_)
  · have h := of_pos hc h
    exact kx0 s9.2 (Option.some.inj h).symm H locs ls hR hS (lv_sub hl [] rfl)
  · have h := of_neg hc h
    refine lv_aload_n hx hb dX5_becomes_25 rfl (lv_at hl 0 rfl) ?_
    refine rw_getR X hK hT hR 6 4 9 k0 (by decide) (C := RX5) (T := TX5) (N := 24) rfl (by decide) in_X5_becomes_6 (by decide +kernel) rfl dX5_becomes_26 (fun kf_5 => ?_)
    refine lv_iload_n hx hb dX5_becomes_29 rfl (lv_at hl 1 rfl) ?_
    refine lv_sipush (v := (4096 : Int32)) hx hb dX5_becomes_30 (by decide) ?_
    refine lv_imul hx hb dX5_becomes_33 ?_
    refine lv_iload hx hb dX5_becomes_34 (lv_at hl 2 rfl) ?_
    refine lv_iadd hx hb dX5_becomes_36 ?_
    refine lv_aload_n hx hb dX5_becomes_37 rfl (lv_at hl 0 rfl) ?_
    refine rw_getR X hK hT hR 6 5 9 k0 (by decide) (C := RX5) (T := TX5) (N := 24) rfl (by decide) in_X5_becomes_6 (by decide +kernel) rfl dX5_becomes_38 (fun kf_6 => ?_)
    refine lv_iload hx hb dX5_becomes_41 (lv_at hl 2 rfl) ?_
    obtain ⟨hg_7, h⟩ := of_guard h
    refine rw_zald X hK hR kf_6 hg_7 dX5_becomes_43 ?_
    obtain ⟨hg_8, h⟩ := of_guard h
    refine rw_zast X hK hT hR hS kf_5 hg_8 dX5_becomes_44 (fun σ_8 H locs e_8 hR hS => ?_)
    have h := of_nm e_8 h
    obtain ⟨v_9, e_v_9⟩ : ∃ y : Int32, y = (s9.1 + (1 : Int32)) := ⟨_, rfl⟩
    have h := of_nm e_v_9 h
    refine lv_iinc (v := v_9) (lv' := [(4, .int v_9), (0, .ref a0), (1, .int l1)]) hx hb dX5_becomes_45 hl (k := 2) rfl (by rw [e_v_9]; rfl) (by decide) rfl (fun ls hl => ?_)
    refine lv_goto (tgt := 17) hx hb dX5_becomes_48 (by decide) ?_
    exact kb (v_9, σ_8) (Option.some.inj h).symm H locs ls hR hS (lv_sub hl [1, 2, 0] rfl)

set_option maxHeartbeats 4000000 in
set_option maxRecDepth 100000 in
theorem w_lp_X5_becomes_17 (X : Cx cX5_becomes none 5 RX5 wsX5_becomes p s m args meth c) (hK : Kn cA D s) (hT : TL Λ) (hM : 0 ≤ R.frames ∧ 0 ≤ R.locals) (a0 : Nat) (l1 : Int32) (k0 : isK Λ a0 6) {e9 : Sto} : ∀ (n9 : Nat) (s9 : (Int32 × Sto)), iter (bd_X5_becomes_17 Λ a0 l1) n9 s9 = some e9 → ∀ (kx0 : ∀ (H : Heap) (locs : List Loc) (ls : Array Slot), Rep cA D Λ e9 H → va_S (dm Λ) s.heap H locs → lv_has ls 5 [] → W p l e R s m args below meth c H locs 0 0 Q (F0 m 51 ls [])), ∀ (H : Heap) (locs : List Loc) (ls : Array Slot), Rep cA D Λ s9.2 H → va_S (dm Λ) s.heap H locs → lv_has ls 5 [(0, .ref a0), (1, .int l1), (4, .int s9.1)] → W p l e R s m args below meth c H locs 0 0 Q (F0 m 17 ls []) := by
  intro n9
  induction n9 with
  | zero => intro s9 h; cases h
  | succ n9 ih =>
    intro s9 h kx0 H locs ls hR hS hl
    obtain ⟨r, hr, h⟩ := of_iter h
    refine w_bd_X5_becomes_17 X hK hT hM a0 l1 s9 k0 hr (fun z ez H locs ls hR hS hl => ?_) (fun z ez H locs ls hR hS hl => ?_) H locs ls hR hS hl
    · exact ih z (of_itl ez h) kx0 H locs ls hR hS hl
    · have he := of_itr ez h; subst he; exact kx0 H locs ls hR hS hl

set_option maxHeartbeats 4000000 in
set_option maxRecDepth 100000 in
theorem w_X5_becomes (X : Cx cX5_becomes none 5 RX5 wsX5_becomes p s m args meth c) (hK : Kn cA D s) (hT : TL Λ) (hM : 0 ≤ R.frames ∧ 0 ≤ R.locals) (a0 : Nat) (l1 : Int32) (l2 : Int32) (l3 : Int32) (k0 : isK Λ a0 6) {res : Sto} (h : F_X5_becomes Λ σ a0 l1 l2 l3 = some res) (H : Heap) (locs : List Loc) (ls : Array Slot) (hR : Rep cA D Λ σ H) (hS : va_S (dm Λ) s.heap H locs) (hl : lv_has ls 5 [(0, .ref a0), (1, .int l1), (2, .int l2), (3, .int l3)]) : W p l e R s m args below meth c H locs 0 0 (MQ below (QV cA D Λ res) args s 0 0 (dm Λ)) (F0 m 0 ls []) := by
  have hx := X.1
  have hb := X.2.1
  have hown := X.2.2.2.2.1
  have hts := X.2.2.2.2.2.1
  unfold F_X5_becomes at h
  refine lv_aload_n hx hb dX5_becomes_0 rfl (lv_at hl 0 rfl) ?_
  refine rw_getR X hK hT hR 6 2 7 k0 (by decide) (C := RX5) (T := TX5) (N := 24) rfl (by decide) in_X5_becomes_6 (by decide +kernel) rfl dX5_becomes_1 (fun kf_1 => ?_)
  refine lv_iload_n hx hb dX5_becomes_4 rfl (lv_at hl 1 rfl) ?_
  refine lv_iload_n hx hb dX5_becomes_5 rfl (lv_at hl 2 rfl) ?_
  obtain ⟨hg_2, h⟩ := of_guard h
  refine rw_iast X hK hT hR hS kf_1 hg_2 dX5_becomes_6 (fun σ_2 H locs e_2 hR hS => ?_)
  have h := of_nm e_2 h
  refine lv_aload_n hx hb dX5_becomes_7 rfl (lv_at hl 0 rfl) ?_
  refine rw_getR X hK hT hR 6 3 7 k0 (by decide) (C := RX5) (T := TX5) (N := 24) rfl (by decide) in_X5_becomes_6 (by decide +kernel) rfl dX5_becomes_8 (fun kf_3 => ?_)
  refine lv_iload_n hx hb dX5_becomes_11 rfl (lv_at hl 1 rfl) ?_
  refine lv_iload_n hx hb dX5_becomes_12 rfl (lv_at hl 3 rfl) ?_
  obtain ⟨hg_4, h⟩ := of_guard h
  refine rw_iast X hK hT hR hS kf_3 hg_4 dX5_becomes_13 (fun σ_4 H locs e_4 hR hS => ?_)
  have h := of_nm e_4 h
  refine lv_iconst (v := (0 : Int32)) hx hb dX5_becomes_14 (by decide) ?_
  refine lv_istore (lv' := [(4, .int (0 : Int32)), (0, .ref a0), (1, .int l1), (2, .int l2), (3, .int l3)]) hx hb dX5_becomes_15 hl (by decide) rfl (fun ls hl => ?_)
  obtain ⟨e_10, hq_10, h⟩ := of_bind h
  refine w_lp_X5_becomes_17 X hK hT hM a0 l1 k0 _ ((0 : Int32), σ_4) hq_10 (fun H locs ls hR hS hl => ?_) H locs ls hR hS (lv_sub hl [1, 2, 0] rfl)
  exact rt_v X hR hS (Option.some.inj h) dX5_becomes_51

set_option maxHeartbeats 4000000 in
set_option maxRecDepth 100000 in
theorem c_X5_becomes (l : Launch) (cA : Nat → ClassId) (D : va_G) (Λ : Lay) (hT : TL Λ) (σ : Sto) (a0 : Nat) (l1 : Int32) (l2 : Int32) (l3 : Int32) (k0 : isK Λ a0 6) {res : Sto} (h : F_X5_becomes Λ σ a0 l1 l2 l3 = some res) : Met l yX5_becomes wsX5_becomes { frames := 0, cells := 0, slots := 0, locals := 0 } (va_Pc [.ref a0, .int l1, .int l2, .int l3] (PW cA D Λ σ)) (QV cA D Λ res) 0 0 (dm Λ) := by
  refine Met.ofW (cc := cX5_becomes) (maxL := 5) (ret := none) (by decide) rfl ?_
  intro p e s m args below meth c s₁ B hml hv
  obtain ⟨rfl, hR, hK⟩ := hv
  have X : Cx cX5_becomes none 5 RX5 wsX5_becomes p s m _ meth c := ⟨B.exec, B.bytes, B.returns, hml, findClass_of_methodNamed B.named, atoms_spec (ws := wsX5_becomes) B.pre, B.notSynchronized⟩
  have hS : va_S (dm Λ) s.heap s.heap [] := va_S.rf
  have hl := lv_entry ([.ref a0, .int l1, .int l2, .int l3]) (n := 5) (Nat.le_of_ble_eq_true rfl)
  rw [lg_entry_eq]
  generalize (lg_sl ([.ref a0, .int l1, .int l2, .int l3]) ++ List.replicate (5 - (lg_sl ([.ref a0, .int l1, .int l2, .int l3])).length) Slot.unset).toArray = ls at hl ⊢
  have hl : lv_has ls 5 [(0, .ref a0), (1, .int l1), (2, .int l2), (3, .int l3)] := hl
  exact w_X5_becomes X hK hT ⟨Nat.le_refl _, Nat.le_refl _⟩ a0 l1 l2 l3 k0 h s.heap [] ls hR hS hl
theorem in_X5_page_6 : ∀ w ∈ u_ws RX5 TX5 24, w ∈ wsX5_page := by decide +kernel
set_option maxHeartbeats 4000000 in
set_option maxRecDepth 100000 in
theorem w_X5_page (X : Cx cX5_page (some .int) 3 RX5 wsX5_page p s m args meth c) (hK : Kn cA D s) (hT : TL Λ) (hM : 1 ≤ R.frames ∧ 25 ≤ R.locals) (a0 : Nat) (l1 : Int32) (l2 : Int32) (k0 : isK Λ a0 6) {res : Int32 × Sto} (h : F_X5_page Λ σ a0 l1 l2 = some res) (H : Heap) (locs : List Loc) (ls : Array Slot) (hR : Rep cA D Λ σ H) (hS : va_S (dm Λ) s.heap H locs) (hl : lv_has ls 3 [(0, .ref a0), (1, .int l1), (2, .int l2)]) : W p l e R s m args below meth c H locs 0 0 (MQ below (QI cA D Λ res) args s 0 0 (dm Λ)) (F0 m 0 ls []) := by
  have hx := X.1
  have hb := X.2.1
  have hown := X.2.2.2.2.1
  have hts := X.2.2.2.2.2.1
  unfold F_X5_page at h
  refine lv_aload_n hx hb dX5_page_0 rfl (lv_at hl 0 rfl) ?_
  refine lv_iconst (v := (0 : Int32)) hx hb dX5_page_1 (by decide) ?_
  refine rw_putI X hK hT hR hS 6 0 tyX5 k0 (by decide) (C := RX5) (T := TX5) (N := 24) rfl (by decide) in_X5_page_6 tyX5_ok nmX5 (by decide +kernel) rfl rfl (by decide +kernel) dX5_page_2 (fun σ_1 H locs e_1 hR hS => ?_)
  have h := of_nm e_1 h
  refine lv_iload_n hx hb dX5_page_5 rfl (lv_at hl 1 rfl) ?_
  refine lv_i2l (v := (l1.toInt64)) hx hb dX5_page_6 rfl ?_
  refine lv_lconst (v := (1 : Int64)) hx hb dX5_page_7 (by decide) ?_
  refine lv_ldc2 (v := (64 : Int64)) hx hb hown (hts (.constantLong RX5 75 (64)) (by decide +kernel)) dX5_page_8 ?_
  refine cl_z (rn_S (As := [.long (l1.toInt64), .long (1 : Int64), .long (64 : Int64)]) (rest := []) X hK hR hl.1 (c_X5_in l cA D Λ hT σ_1 (l1.toInt64) (1 : Int64) (64 : Int64)) (va_cwS 3 hts gX5_page_X5_in rfl rfl rfl (by decide +kernel) ⟨Nat.le_trans (by decide) hM.1, Nat.le_trans (by decide) hM.2⟩) rfl rfl (Nat.le_of_ble_eq_true rfl) dX5_page_11) hS (fun hz_2 H locs hR hS => ?_)
  refine lv_topi (fun r_2 e_2 => ?_)
  have h := of_nm e_2 h
  have hz_2 : r_2 = 0 ∨ r_2 = 1 := by rw [e_2]; exact hz_2
  refine lv_if_eq (tgt := 38) hx hb dX5_page_14 (by decide) (fun hc => ?_) (fun hc => ?_)
  · have h := of_pos hc h
    refine lv_iconst (v := (-1 : Int32)) hx hb dX5_page_38 (by decide) ?_
    exact rt_i X hR hS (Option.some.inj h) dX5_page_39
  · have h := of_neg hc h
    refine lv_iload_n hx hb dX5_page_17 rfl (lv_at hl 2 rfl) ?_
    refine lv_i2l (v := (l2.toInt64)) hx hb dX5_page_18 rfl ?_
    refine lv_lconst (v := (1 : Int64)) hx hb dX5_page_19 (by decide) ?_
    refine lv_ldc2 (v := (64 : Int64)) hx hb hown (hts (.constantLong RX5 75 (64)) (by decide +kernel)) dX5_page_20 ?_
    refine cl_z (rn_S (As := [.long (l2.toInt64), .long (1 : Int64), .long (64 : Int64)]) (rest := []) X hK hR hl.1 (c_X5_in l cA D Λ hT σ_1 (l2.toInt64) (1 : Int64) (64 : Int64)) (va_cwS 3 hts gX5_page_X5_in rfl rfl rfl (by decide +kernel) ⟨Nat.le_trans (by decide) hM.1, Nat.le_trans (by decide) hM.2⟩) rfl rfl (Nat.le_of_ble_eq_true rfl) dX5_page_23) hS (fun hz_3 H locs hR hS => ?_)
    refine lv_topi (fun r_3 e_3 => ?_)
    have h := of_nm e_3 h
    have hz_3 : r_3 = 0 ∨ r_3 = 1 := by rw [e_3]; exact hz_3
    refine lv_if_eq (tgt := 38) hx hb dX5_page_26 (by decide) (fun hc => ?_) (fun hc => ?_)
    · have h := of_pos hc h
      refine lv_iconst (v := (-1 : Int32)) hx hb dX5_page_38 (by decide) ?_
      exact rt_i X hR hS (Option.some.inj h) dX5_page_39
    · have h := of_neg hc h
      refine lv_aload_n hx hb dX5_page_29 rfl (lv_at hl 0 rfl) ?_
      refine rw_getI X hK hR 6 1 k0 (by decide) (C := RX5) (T := TX5) (N := 24) rfl (by decide) in_X5_page_6 (by decide +kernel) rfl dX5_page_30 ?_
      refine lv_bipush (v := (8 : Int32)) hx hb dX5_page_33 (by decide) ?_
      refine lv_icmp_ne (tgt := 40) hx hb dX5_page_35 (by decide) (fun hc => ?_) (fun hc => ?_)
      · have h := of_neg hc h
        refine lv_aload_n hx hb dX5_page_40 rfl (lv_at hl 0 rfl) ?_
        refine lv_aload_n hx hb dX5_page_41 rfl (lv_at hl 0 rfl) ?_
        refine rw_getI X hK hR 6 1 k0 (by decide) (C := RX5) (T := TX5) (N := 24) rfl (by decide) in_X5_page_6 (by decide +kernel) rfl dX5_page_42 ?_
        refine lv_iload_n hx hb dX5_page_45 rfl (lv_at hl 1 rfl) ?_
        refine lv_iload_n hx hb dX5_page_46 rfl (lv_at hl 2 rfl) ?_
        obtain ⟨q_4, hq_4, h⟩ := of_bind h
        refine cl_v (rn_V (As := [.int (σ_1.1 a0 1), .int l1, .int l2]) (rest := []) X hK hR k0 rfl (by decide) hl.1 (c_X5_clears l cA D Λ hT σ_1 a0 (σ_1.1 a0 1) l1 l2 k0 hq_4) (cwV 3 hts gX5_page_X5_clears rfl rfl rfl (by decide +kernel) ⟨Nat.le_trans (by decide) hM.1, Nat.le_trans (by decide) hM.2⟩) rfl rfl (Nat.le_of_ble_eq_true rfl) dX5_page_47) hS (fun H locs hR hS => ?_)
        refine lv_aload_n hx hb dX5_page_50 rfl (lv_at hl 0 rfl) ?_
        refine lv_dup hx hb dX5_page_51 rfl ?_
        refine rw_getI X hK hR 6 1 k0 (by decide) (C := RX5) (T := TX5) (N := 24) rfl (by decide) in_X5_page_6 (by decide +kernel) rfl dX5_page_52 ?_
        refine lv_iconst (v := (1 : Int32)) hx hb dX5_page_55 (by decide) ?_
        refine lv_iadd hx hb dX5_page_56 ?_
        refine rw_putI X hK hT hR hS 6 1 tyX5 k0 (by decide) (C := RX5) (T := TX5) (N := 24) rfl (by decide) in_X5_page_6 tyX5_ok nmX5 (by decide +kernel) rfl rfl (by decide +kernel) dX5_page_57 (fun σ_5 H locs e_5 hR hS => ?_)
        have h := of_nm e_5 h
        refine lv_aload_n hx hb dX5_page_60 rfl (lv_at hl 0 rfl) ?_
        refine rw_getI X hK hR 6 1 k0 (by decide) (C := RX5) (T := TX5) (N := 24) rfl (by decide) in_X5_page_6 (by decide +kernel) rfl dX5_page_61 ?_
        refine lv_iconst (v := (1 : Int32)) hx hb dX5_page_64 (by decide) ?_
        refine lv_isub hx hb dX5_page_65 ?_
        exact rt_i X hR hS (Option.some.inj h) dX5_page_66
      · have h := of_pos hc h
        refine lv_iconst (v := (-1 : Int32)) hx hb dX5_page_38 (by decide) ?_
        exact rt_i X hR hS (Option.some.inj h) dX5_page_39

set_option maxHeartbeats 4000000 in
set_option maxRecDepth 100000 in
theorem c_X5_page (l : Launch) (cA : Nat → ClassId) (D : va_G) (Λ : Lay) (hT : TL Λ) (σ : Sto) (a0 : Nat) (l1 : Int32) (l2 : Int32) (k0 : isK Λ a0 6) {res : Int32 × Sto} (h : F_X5_page Λ σ a0 l1 l2 = some res) : Met l yX5_page wsX5_page { frames := 1, cells := 0, slots := 0, locals := 25 } (va_Pc [.ref a0, .int l1, .int l2] (PW cA D Λ σ)) (QI cA D Λ res) 0 0 (dm Λ) := by
  refine Met.ofW (cc := cX5_page) (maxL := 3) (ret := (some .int)) (by decide) rfl ?_
  intro p e s m args below meth c s₁ B hml hv
  obtain ⟨rfl, hR, hK⟩ := hv
  have X : Cx cX5_page (some .int) 3 RX5 wsX5_page p s m _ meth c := ⟨B.exec, B.bytes, B.returns, hml, findClass_of_methodNamed B.named, atoms_spec (ws := wsX5_page) B.pre, B.notSynchronized⟩
  have hS : va_S (dm Λ) s.heap s.heap [] := va_S.rf
  have hl := lv_entry ([.ref a0, .int l1, .int l2]) (n := 3) (Nat.le_of_ble_eq_true rfl)
  rw [lg_entry_eq]
  generalize (lg_sl ([.ref a0, .int l1, .int l2]) ++ List.replicate (3 - (lg_sl ([.ref a0, .int l1, .int l2])).length) Slot.unset).toArray = ls at hl ⊢
  have hl : lv_has ls 3 [(0, .ref a0), (1, .int l1), (2, .int l2)] := hl
  exact w_X5_page X hK hT ⟨Nat.le_refl _, Nat.le_refl _⟩ a0 l1 l2 k0 h s.heap [] ls hR hS hl
theorem in_X5_copy_6 : ∀ w ∈ u_ws RX5 TX5 24, w ∈ wsX5_copy := by decide +kernel
set_option maxHeartbeats 4000000 in
set_option maxRecDepth 100000 in
theorem w_bd_X5_copy_46 (X : Cx cX5_copy (some .int) 3 RX5 wsX5_copy p s m args meth c) (hK : Kn cA D s) (hT : TL Λ) (hM : 2 ≤ R.frames ∧ 46 ≤ R.locals) (a0 : Nat) (l1 : Int32) (s9 : (Int32 × Sto)) (k0 : isK Λ a0 6) {r : (Int32 × Sto) ⊕ Sto} (h : bd_X5_copy_46 Λ a0 l1 s9 = some r) (kb : ∀ z : (Int32 × Sto), r = .inl z → ∀ (H : Heap) (locs : List Loc) (ls : Array Slot), Rep cA D Λ z.2 H → va_S (dm Λ) s.heap H locs → lv_has ls 3 [(0, .ref a0), (1, .int l1), (2, .int z.1)] → W p l e R s m args below meth c H locs 0 0 Q (F0 m 46 ls [])) (kx0 : ∀ z : Sto, r = .inr z → ∀ (H : Heap) (locs : List Loc) (ls : Array Slot), Rep cA D Λ z H → va_S (dm Λ) s.heap H locs → lv_has ls 3 [(0, .ref a0)] → W p l e R s m args below meth c H locs 0 0 Q (F0 m 86 ls [])) (H : Heap) (locs : List Loc) (ls : Array Slot) (hR : Rep cA D Λ s9.2 H) (hS : va_S (dm Λ) s.heap H locs) (hl : lv_has ls 3 [(0, .ref a0), (1, .int l1), (2, .int s9.1)]) : W p l e R s m args below meth c H locs 0 0 Q (F0 m 46 ls []) := by
  have hx := X.1
  have hb := X.2.1
  have hown := X.2.2.2.2.1
  have hts := X.2.2.2.2.2.1
  unfold bd_X5_copy_46 at h
  refine lv_iload_n hx hb dX5_copy_46 rfl (lv_at hl 2 rfl) ?_
  refine lv_sipush (v := (4096 : Int32)) hx hb dX5_copy_47 (by decide) ?_
  refine lv_icmp_ge (tgt := 86) hx hb dX5_copy_50 (by decide) (fun hc => ?_) (fun hc => ?_)
  · have h := of_pos hc h
    exact kx0 s9.2 (Option.some.inj h).symm H locs ls hR hS (lv_sub hl [0] rfl)
  · have h := of_neg hc h
    refine lv_aload_n hx hb dX5_copy_53 rfl (lv_at hl 0 rfl) ?_
    refine rw_getR X hK hT hR 6 4 9 k0 (by decide) (C := RX5) (T := TX5) (N := 24) rfl (by decide) in_X5_copy_6 (by decide +kernel) rfl dX5_copy_54 (fun kf_8 => ?_)
    refine lv_aload_n hx hb dX5_copy_57 rfl (lv_at hl 0 rfl) ?_
    refine rw_getI X hK hR 6 1 k0 (by decide) (C := RX5) (T := TX5) (N := 24) rfl (by decide) in_X5_copy_6 (by decide +kernel) rfl dX5_copy_58 ?_
    refine lv_sipush (v := (4096 : Int32)) hx hb dX5_copy_61 (by decide) ?_
    refine lv_imul hx hb dX5_copy_64 ?_
    refine lv_iload_n hx hb dX5_copy_65 rfl (lv_at hl 2 rfl) ?_
    refine lv_iadd hx hb dX5_copy_66 ?_
    refine lv_aload_n hx hb dX5_copy_67 rfl (lv_at hl 0 rfl) ?_
    refine rw_getR X hK hT hR 6 4 9 k0 (by decide) (C := RX5) (T := TX5) (N := 24) rfl (by decide) in_X5_copy_6 (by decide +kernel) rfl dX5_copy_68 (fun kf_9 => ?_)
    refine lv_iload_n hx hb dX5_copy_71 rfl (lv_at hl 1 rfl) ?_
    refine lv_sipush (v := (4096 : Int32)) hx hb dX5_copy_72 (by decide) ?_
    refine lv_imul hx hb dX5_copy_75 ?_
    refine lv_iload_n hx hb dX5_copy_76 rfl (lv_at hl 2 rfl) ?_
    refine lv_iadd hx hb dX5_copy_77 ?_
    obtain ⟨hg_10, h⟩ := of_guard h
    refine rw_zald X hK hR kf_9 hg_10 dX5_copy_78 ?_
    obtain ⟨hg_11, h⟩ := of_guard h
    refine rw_zast X hK hT hR hS kf_8 hg_11 dX5_copy_79 (fun σ_11 H locs e_11 hR hS => ?_)
    have h := of_nm e_11 h
    obtain ⟨v_12, e_v_12⟩ : ∃ y : Int32, y = (s9.1 + (1 : Int32)) := ⟨_, rfl⟩
    have h := of_nm e_v_12 h
    refine lv_iinc (v := v_12) (lv' := [(2, .int v_12), (0, .ref a0), (1, .int l1)]) hx hb dX5_copy_80 hl (k := 2) rfl (by rw [e_v_12]; rfl) (by decide) rfl (fun ls hl => ?_)
    refine lv_goto (tgt := 46) hx hb dX5_copy_83 (by decide) ?_
    exact kb (v_12, σ_11) (Option.some.inj h).symm H locs ls hR hS (lv_sub hl [1, 2, 0] rfl)

set_option maxHeartbeats 4000000 in
set_option maxRecDepth 100000 in
theorem w_lp_X5_copy_46 (X : Cx cX5_copy (some .int) 3 RX5 wsX5_copy p s m args meth c) (hK : Kn cA D s) (hT : TL Λ) (hM : 2 ≤ R.frames ∧ 46 ≤ R.locals) (a0 : Nat) (l1 : Int32) (k0 : isK Λ a0 6) {e9 : Sto} : ∀ (n9 : Nat) (s9 : (Int32 × Sto)), iter (bd_X5_copy_46 Λ a0 l1) n9 s9 = some e9 → ∀ (kx0 : ∀ (H : Heap) (locs : List Loc) (ls : Array Slot), Rep cA D Λ e9 H → va_S (dm Λ) s.heap H locs → lv_has ls 3 [(0, .ref a0)] → W p l e R s m args below meth c H locs 0 0 Q (F0 m 86 ls [])), ∀ (H : Heap) (locs : List Loc) (ls : Array Slot), Rep cA D Λ s9.2 H → va_S (dm Λ) s.heap H locs → lv_has ls 3 [(0, .ref a0), (1, .int l1), (2, .int s9.1)] → W p l e R s m args below meth c H locs 0 0 Q (F0 m 46 ls []) := by
  intro n9
  induction n9 with
  | zero => intro s9 h; cases h
  | succ n9 ih =>
    intro s9 h kx0 H locs ls hR hS hl
    obtain ⟨r, hr, h⟩ := of_iter h
    refine w_bd_X5_copy_46 X hK hT hM a0 l1 s9 k0 hr (fun z ez H locs ls hR hS hl => ?_) (fun z ez H locs ls hR hS hl => ?_) H locs ls hR hS hl
    · exact ih z (of_itl ez h) kx0 H locs ls hR hS hl
    · have he := of_itr ez h; subst he; exact kx0 H locs ls hR hS hl

set_option maxHeartbeats 4000000 in
set_option maxRecDepth 100000 in
theorem w_X5_copy (X : Cx cX5_copy (some .int) 3 RX5 wsX5_copy p s m args meth c) (hK : Kn cA D s) (hT : TL Λ) (hM : 2 ≤ R.frames ∧ 46 ≤ R.locals) (a0 : Nat) (l1 : Int32) (k0 : isK Λ a0 6) {res : Int32 × Sto} (h : F_X5_copy Λ σ a0 l1 = some res) (H : Heap) (locs : List Loc) (ls : Array Slot) (hR : Rep cA D Λ σ H) (hS : va_S (dm Λ) s.heap H locs) (hl : lv_has ls 3 [(0, .ref a0), (1, .int l1)]) : W p l e R s m args below meth c H locs 0 0 (MQ below (QI cA D Λ res) args s 0 0 (dm Λ)) (F0 m 0 ls []) := by
  have hx := X.1
  have hb := X.2.1
  have hown := X.2.2.2.2.1
  have hts := X.2.2.2.2.2.1
  unfold F_X5_copy at h
  refine lv_aload_n hx hb dX5_copy_0 rfl (lv_at hl 0 rfl) ?_
  refine lv_iconst (v := (0 : Int32)) hx hb dX5_copy_1 (by decide) ?_
  refine rw_putI X hK hT hR hS 6 0 tyX5 k0 (by decide) (C := RX5) (T := TX5) (N := 24) rfl (by decide) in_X5_copy_6 tyX5_ok nmX5 (by decide +kernel) rfl rfl (by decide +kernel) dX5_copy_2 (fun σ_1 H locs e_1 hR hS => ?_)
  have h := of_nm e_1 h
  refine lv_aload_n hx hb dX5_copy_5 rfl (lv_at hl 0 rfl) ?_
  refine lv_iload_n hx hb dX5_copy_6 rfl (lv_at hl 1 rfl) ?_
  refine cl_z (rn_V (As := [.int l1]) (rest := []) X hK hR k0 rfl (by decide) hl.1 (c_X5_isPage l cA D Λ hT σ_1 a0 l1 k0) (cwV 1 hts gX5_copy_X5_isPage rfl rfl rfl (by decide +kernel) ⟨Nat.le_trans (by decide) hM.1, Nat.le_trans (by decide) hM.2⟩) rfl rfl (Nat.le_of_ble_eq_true rfl) dX5_copy_7) hS (fun hz_2 H locs hR hS => ?_)
  refine lv_topi (fun r_2 e_2 => ?_)
  have h := of_nm e_2 h
  have hz_2 : r_2 = 0 ∨ r_2 = 1 := by rw [e_2]; exact hz_2
  refine lv_if_eq (tgt := 22) hx hb dX5_copy_10 (by decide) (fun hc => ?_) (fun hc => ?_)
  · have h := of_pos hc h
    refine lv_iconst (v := (-1 : Int32)) hx hb dX5_copy_22 (by decide) ?_
    exact rt_i X hR hS (Option.some.inj h) dX5_copy_23
  · have h := of_neg hc h
    refine lv_aload_n hx hb dX5_copy_13 rfl (lv_at hl 0 rfl) ?_
    refine rw_getI X hK hR 6 1 k0 (by decide) (C := RX5) (T := TX5) (N := 24) rfl (by decide) in_X5_copy_6 (by decide +kernel) rfl dX5_copy_14 ?_
    refine lv_bipush (v := (8 : Int32)) hx hb dX5_copy_17 (by decide) ?_
    refine lv_icmp_ne (tgt := 24) hx hb dX5_copy_19 (by decide) (fun hc => ?_) (fun hc => ?_)
    · have h := of_neg hc h
      refine lv_aload_n hx hb dX5_copy_24 rfl (lv_at hl 0 rfl) ?_
      refine lv_aload_n hx hb dX5_copy_25 rfl (lv_at hl 0 rfl) ?_
      refine rw_getI X hK hR 6 1 k0 (by decide) (C := RX5) (T := TX5) (N := 24) rfl (by decide) in_X5_copy_6 (by decide +kernel) rfl dX5_copy_26 ?_
      refine lv_aload_n hx hb dX5_copy_29 rfl (lv_at hl 0 rfl) ?_
      refine rw_getR X hK hT hR 6 2 7 k0 (by decide) (C := RX5) (T := TX5) (N := 24) rfl (by decide) in_X5_copy_6 (by decide +kernel) rfl dX5_copy_30 (fun kf_3 => ?_)
      refine lv_iload_n hx hb dX5_copy_33 rfl (lv_at hl 1 rfl) ?_
      obtain ⟨hg_4, h⟩ := of_guard h
      refine rw_iald X hK hR kf_3 hg_4 dX5_copy_34 ?_
      refine lv_aload_n hx hb dX5_copy_35 rfl (lv_at hl 0 rfl) ?_
      refine rw_getR X hK hT hR 6 3 7 k0 (by decide) (C := RX5) (T := TX5) (N := 24) rfl (by decide) in_X5_copy_6 (by decide +kernel) rfl dX5_copy_36 (fun kf_5 => ?_)
      refine lv_iload_n hx hb dX5_copy_39 rfl (lv_at hl 1 rfl) ?_
      obtain ⟨hg_6, h⟩ := of_guard h
      refine rw_iald X hK hR kf_5 hg_6 dX5_copy_40 ?_
      obtain ⟨q_7, hq_7, h⟩ := of_bind h
      refine cl_v (rn_V (As := [.int (σ_1.1 a0 1), .int (σ_1.1 (rfA Λ a0 2) l1.toNatClampNeg), .int (σ_1.1 (rfA Λ a0 3) l1.toNatClampNeg)]) (rest := []) X hK hR k0 rfl (by decide) hl.1 (c_X5_clears l cA D Λ hT σ_1 a0 (σ_1.1 a0 1) (σ_1.1 (rfA Λ a0 2) l1.toNatClampNeg) (σ_1.1 (rfA Λ a0 3) l1.toNatClampNeg) k0 hq_7) (cwV 3 hts gX5_copy_X5_clears rfl rfl rfl (by decide +kernel) ⟨Nat.le_trans (by decide) hM.1, Nat.le_trans (by decide) hM.2⟩) rfl rfl (Nat.le_of_ble_eq_true rfl) dX5_copy_41) hS (fun H locs hR hS => ?_)
      refine lv_iconst (v := (0 : Int32)) hx hb dX5_copy_44 (by decide) ?_
      refine lv_istore_n (lv' := [(2, .int (0 : Int32)), (0, .ref a0), (1, .int l1)]) hx hb dX5_copy_45 rfl hl (by decide) rfl (fun ls hl => ?_)
      obtain ⟨e_13, hq_13, h⟩ := of_bind h
      refine w_lp_X5_copy_46 X hK hT hM a0 l1 k0 _ ((0 : Int32), q_7) hq_13 (fun H locs ls hR hS hl => ?_) H locs ls hR hS (lv_sub hl [1, 2, 0] rfl)
      refine lv_aload_n hx hb dX5_copy_86 rfl (lv_at hl 0 rfl) ?_
      refine lv_dup hx hb dX5_copy_87 rfl ?_
      refine rw_getI X hK hR 6 1 k0 (by decide) (C := RX5) (T := TX5) (N := 24) rfl (by decide) in_X5_copy_6 (by decide +kernel) rfl dX5_copy_88 ?_
      refine lv_iconst (v := (1 : Int32)) hx hb dX5_copy_91 (by decide) ?_
      refine lv_iadd hx hb dX5_copy_92 ?_
      refine rw_putI X hK hT hR hS 6 1 tyX5 k0 (by decide) (C := RX5) (T := TX5) (N := 24) rfl (by decide) in_X5_copy_6 tyX5_ok nmX5 (by decide +kernel) rfl rfl (by decide +kernel) dX5_copy_93 (fun σ_14 H locs e_14 hR hS => ?_)
      have h := of_nm e_14 h
      refine lv_aload_n hx hb dX5_copy_96 rfl (lv_at hl 0 rfl) ?_
      refine rw_getI X hK hR 6 1 k0 (by decide) (C := RX5) (T := TX5) (N := 24) rfl (by decide) in_X5_copy_6 (by decide +kernel) rfl dX5_copy_97 ?_
      refine lv_iconst (v := (1 : Int32)) hx hb dX5_copy_100 (by decide) ?_
      refine lv_isub hx hb dX5_copy_101 ?_
      exact rt_i X hR hS (Option.some.inj h) dX5_copy_102
    · have h := of_pos hc h
      refine lv_iconst (v := (-1 : Int32)) hx hb dX5_copy_22 (by decide) ?_
      exact rt_i X hR hS (Option.some.inj h) dX5_copy_23

set_option maxHeartbeats 4000000 in
set_option maxRecDepth 100000 in
theorem c_X5_copy (l : Launch) (cA : Nat → ClassId) (D : va_G) (Λ : Lay) (hT : TL Λ) (σ : Sto) (a0 : Nat) (l1 : Int32) (k0 : isK Λ a0 6) {res : Int32 × Sto} (h : F_X5_copy Λ σ a0 l1 = some res) : Met l yX5_copy wsX5_copy { frames := 2, cells := 0, slots := 0, locals := 46 } (va_Pc [.ref a0, .int l1] (PW cA D Λ σ)) (QI cA D Λ res) 0 0 (dm Λ) := by
  refine Met.ofW (cc := cX5_copy) (maxL := 3) (ret := (some .int)) (by decide) rfl ?_
  intro p e s m args below meth c s₁ B hml hv
  obtain ⟨rfl, hR, hK⟩ := hv
  have X : Cx cX5_copy (some .int) 3 RX5 wsX5_copy p s m _ meth c := ⟨B.exec, B.bytes, B.returns, hml, findClass_of_methodNamed B.named, atoms_spec (ws := wsX5_copy) B.pre, B.notSynchronized⟩
  have hS : va_S (dm Λ) s.heap s.heap [] := va_S.rf
  have hl := lv_entry ([.ref a0, .int l1]) (n := 3) (Nat.le_of_ble_eq_true rfl)
  rw [lg_entry_eq]
  generalize (lg_sl ([.ref a0, .int l1]) ++ List.replicate (3 - (lg_sl ([.ref a0, .int l1])).length) Slot.unset).toArray = ls at hl ⊢
  have hl : lv_has ls 3 [(0, .ref a0), (1, .int l1)] := hl
  exact w_X5_copy X hK hT ⟨Nat.le_refl _, Nat.le_refl _⟩ a0 l1 k0 h s.heap [] ls hR hS hl
theorem in_X5_changing_6 : ∀ w ∈ u_ws RX5 TX5 24, w ∈ wsX5_changing := by decide +kernel
set_option maxHeartbeats 4000000 in
set_option maxRecDepth 100000 in
theorem w_bd_X5_changing_80 (X : Cx cX5_changing none 3 RX5 wsX5_changing p s m args meth c) (hK : Kn cA D s) (hT : TL Λ) (hM : 1 ≤ R.frames ∧ 21 ≤ R.locals) (a0 : Nat) (l1 : Int32) (s9 : (Int32 × Sto)) (k0 : isK Λ a0 6) {r : (Int32 × Sto) ⊕ Sto} (h : bd_X5_changing_80 Λ a0 l1 s9 = some r) (kb : ∀ z : (Int32 × Sto), r = .inl z → ∀ (H : Heap) (locs : List Loc) (ls : Array Slot), Rep cA D Λ z.2 H → va_S (dm Λ) s.heap H locs → lv_has ls 3 [(0, .ref a0), (1, .int l1), (2, .int z.1)] → W p l e R s m args below meth c H locs 0 0 Q (F0 m 80 ls [])) (kx0 : ∀ z : Sto, r = .inr z → ∀ (H : Heap) (locs : List Loc) (ls : Array Slot), Rep cA D Λ z H → va_S (dm Λ) s.heap H locs → lv_has ls 3 [] → W p l e R s m args below meth c H locs 0 0 Q (F0 m 120 ls [])) (H : Heap) (locs : List Loc) (ls : Array Slot) (hR : Rep cA D Λ s9.2 H) (hS : va_S (dm Λ) s.heap H locs) (hl : lv_has ls 3 [(0, .ref a0), (1, .int l1), (2, .int s9.1)]) : W p l e R s m args below meth c H locs 0 0 Q (F0 m 80 ls []) := by
  have hx := X.1
  have hb := X.2.1
  have hown := X.2.2.2.2.1
  have hts := X.2.2.2.2.2.1
  unfold bd_X5_changing_80 at h
  refine lv_iload_n hx hb dX5_changing_80 rfl (lv_at hl 2 rfl) ?_
  refine lv_sipush (v := (4096 : Int32)) hx hb dX5_changing_81 (by decide) ?_
  refine lv_icmp_ge (tgt := 120) hx hb dX5_changing_84 (by decide) (fun hc => ?_) (fun hc => ?_)
  · have h := of_pos hc h
    exact kx0 s9.2 (Option.some.inj h).symm H locs ls hR hS (lv_sub hl [] rfl)
  · have h := of_neg hc h
    refine lv_aload_n hx hb dX5_changing_87 rfl (lv_at hl 0 rfl) ?_
    refine rw_getR X hK hT hR 6 12 9 k0 (by decide) (C := RX5) (T := TX5) (N := 24) rfl (by decide) in_X5_changing_6 (by decide +kernel) rfl dX5_changing_88 (fun kf_16 => ?_)
    refine lv_aload_n hx hb dX5_changing_91 rfl (lv_at hl 0 rfl) ?_
    refine rw_getI X hK hR 6 7 k0 (by decide) (C := RX5) (T := TX5) (N := 24) rfl (by decide) in_X5_changing_6 (by decide +kernel) rfl dX5_changing_92 ?_
    refine lv_sipush (v := (4096 : Int32)) hx hb dX5_changing_95 (by decide) ?_
    refine lv_imul hx hb dX5_changing_98 ?_
    refine lv_iload_n hx hb dX5_changing_99 rfl (lv_at hl 2 rfl) ?_
    refine lv_iadd hx hb dX5_changing_100 ?_
    refine lv_aload_n hx hb dX5_changing_101 rfl (lv_at hl 0 rfl) ?_
    refine rw_getR X hK hT hR 6 4 9 k0 (by decide) (C := RX5) (T := TX5) (N := 24) rfl (by decide) in_X5_changing_6 (by decide +kernel) rfl dX5_changing_102 (fun kf_17 => ?_)
    refine lv_iload_n hx hb dX5_changing_105 rfl (lv_at hl 1 rfl) ?_
    refine lv_sipush (v := (4096 : Int32)) hx hb dX5_changing_106 (by decide) ?_
    refine lv_imul hx hb dX5_changing_109 ?_
    refine lv_iload_n hx hb dX5_changing_110 rfl (lv_at hl 2 rfl) ?_
    refine lv_iadd hx hb dX5_changing_111 ?_
    obtain ⟨hg_18, h⟩ := of_guard h
    refine rw_zald X hK hR kf_17 hg_18 dX5_changing_112 ?_
    obtain ⟨hg_19, h⟩ := of_guard h
    refine rw_zast X hK hT hR hS kf_16 hg_19 dX5_changing_113 (fun σ_19 H locs e_19 hR hS => ?_)
    have h := of_nm e_19 h
    obtain ⟨v_20, e_v_20⟩ : ∃ y : Int32, y = (s9.1 + (1 : Int32)) := ⟨_, rfl⟩
    have h := of_nm e_v_20 h
    refine lv_iinc (v := v_20) (lv' := [(2, .int v_20), (0, .ref a0), (1, .int l1)]) hx hb dX5_changing_114 hl (k := 2) rfl (by rw [e_v_20]; rfl) (by decide) rfl (fun ls hl => ?_)
    refine lv_goto (tgt := 80) hx hb dX5_changing_117 (by decide) ?_
    exact kb (v_20, σ_19) (Option.some.inj h).symm H locs ls hR hS (lv_sub hl [1, 2, 0] rfl)

set_option maxHeartbeats 4000000 in
set_option maxRecDepth 100000 in
theorem w_lp_X5_changing_80 (X : Cx cX5_changing none 3 RX5 wsX5_changing p s m args meth c) (hK : Kn cA D s) (hT : TL Λ) (hM : 1 ≤ R.frames ∧ 21 ≤ R.locals) (a0 : Nat) (l1 : Int32) (k0 : isK Λ a0 6) {e9 : Sto} : ∀ (n9 : Nat) (s9 : (Int32 × Sto)), iter (bd_X5_changing_80 Λ a0 l1) n9 s9 = some e9 → ∀ (kx0 : ∀ (H : Heap) (locs : List Loc) (ls : Array Slot), Rep cA D Λ e9 H → va_S (dm Λ) s.heap H locs → lv_has ls 3 [] → W p l e R s m args below meth c H locs 0 0 Q (F0 m 120 ls [])), ∀ (H : Heap) (locs : List Loc) (ls : Array Slot), Rep cA D Λ s9.2 H → va_S (dm Λ) s.heap H locs → lv_has ls 3 [(0, .ref a0), (1, .int l1), (2, .int s9.1)] → W p l e R s m args below meth c H locs 0 0 Q (F0 m 80 ls []) := by
  intro n9
  induction n9 with
  | zero => intro s9 h; cases h
  | succ n9 ih =>
    intro s9 h kx0 H locs ls hR hS hl
    obtain ⟨r, hr, h⟩ := of_iter h
    refine w_bd_X5_changing_80 X hK hT hM a0 l1 s9 k0 hr (fun z ez H locs ls hR hS hl => ?_) (fun z ez H locs ls hR hS hl => ?_) H locs ls hR hS hl
    · exact ih z (of_itl ez h) kx0 H locs ls hR hS hl
    · have he := of_itr ez h; subst he; exact kx0 H locs ls hR hS hl

set_option maxHeartbeats 4000000 in
set_option maxRecDepth 100000 in
theorem w_X5_changing (X : Cx cX5_changing none 3 RX5 wsX5_changing p s m args meth c) (hK : Kn cA D s) (hT : TL Λ) (hM : 1 ≤ R.frames ∧ 21 ≤ R.locals) (a0 : Nat) (l1 : Int32) (k0 : isK Λ a0 6) {res : Sto} (h : F_X5_changing Λ σ a0 l1 = some res) (H : Heap) (locs : List Loc) (ls : Array Slot) (hR : Rep cA D Λ σ H) (hS : va_S (dm Λ) s.heap H locs) (hl : lv_has ls 3 [(0, .ref a0), (1, .int l1)]) : W p l e R s m args below meth c H locs 0 0 (MQ below (QV cA D Λ res) args s 0 0 (dm Λ)) (F0 m 0 ls []) := by
  have hx := X.1
  have hb := X.2.1
  have hown := X.2.2.2.2.1
  have hts := X.2.2.2.2.2.1
  unfold F_X5_changing at h
  refine lv_aload_n hx hb dX5_changing_0 rfl (lv_at hl 0 rfl) ?_
  refine lv_aload_n hx hb dX5_changing_1 rfl (lv_at hl 0 rfl) ?_
  refine rw_getI X hK hR 6 7 k0 (by decide) (C := RX5) (T := TX5) (N := 24) rfl (by decide) in_X5_changing_6 (by decide +kernel) rfl dX5_changing_2 ?_
  refine lv_iconst (v := (1 : Int32)) hx hb dX5_changing_5 (by decide) ?_
  refine lv_iadd hx hb dX5_changing_6 ?_
  refine lv_bipush (v := (10 : Int32)) hx hb dX5_changing_7 (by decide) ?_
  refine lv_irem hx hb dX5_changing_9 (by decide) ?_
  refine rw_putI X hK hT hR hS 6 7 tyX5 k0 (by decide) (C := RX5) (T := TX5) (N := 24) rfl (by decide) in_X5_changing_6 tyX5_ok nmX5 (by decide +kernel) rfl rfl (by decide +kernel) dX5_changing_10 (fun σ_1 H locs e_1 hR hS => ?_)
  have h := of_nm e_1 h
  refine lv_aload_n hx hb dX5_changing_13 rfl (lv_at hl 0 rfl) ?_
  refine lv_bipush (v := (10 : Int32)) hx hb dX5_changing_14 (by decide) ?_
  refine lv_aload_n hx hb dX5_changing_16 rfl (lv_at hl 0 rfl) ?_
  refine rw_getI X hK hR 6 6 k0 (by decide) (C := RX5) (T := TX5) (N := 24) rfl (by decide) in_X5_changing_6 (by decide +kernel) rfl dX5_changing_17 ?_
  refine lv_iconst (v := (1 : Int32)) hx hb dX5_changing_20 (by decide) ?_
  refine lv_iadd hx hb dX5_changing_21 ?_
  refine va_mmin hx hb (X.2.2.2.1.trans hl.1.symm) hown (hts (.methodLink RX5 91 Lib.Math.min.name) (by decide +kernel)) (hts (.static Lib.Math.min.name) (by decide +kernel)) (hts (.initialized "java/lang/Math") (by decide +kernel)) (hts (.code Lib.Math.min.name Lib.Math.min.code 2 (some .int)) (by decide +kernel)) (Nat.le_trans (by decide) hM.1) (Nat.le_trans (Nat.le_of_ble_eq_true rfl) hM.2) (Nat.zero_le _) (Nat.zero_le _) dX5_changing_22 ?_
  refine lv_topi (fun r_2 e_2 => ?_)
  have h := of_nm e_2 h
  refine rw_putI X hK hT hR hS 6 6 tyX5 k0 (by decide) (C := RX5) (T := TX5) (N := 24) rfl (by decide) in_X5_changing_6 tyX5_ok nmX5 (by decide +kernel) rfl rfl (by decide +kernel) dX5_changing_25 (fun σ_3 H locs e_3 hR hS => ?_)
  have h := of_nm e_3 h
  refine lv_aload_n hx hb dX5_changing_28 rfl (lv_at hl 0 rfl) ?_
  refine rw_getR X hK hT hR 6 8 7 k0 (by decide) (C := RX5) (T := TX5) (N := 24) rfl (by decide) in_X5_changing_6 (by decide +kernel) rfl dX5_changing_29 (fun kf_4 => ?_)
  refine lv_aload_n hx hb dX5_changing_32 rfl (lv_at hl 0 rfl) ?_
  refine rw_getI X hK hR 6 7 k0 (by decide) (C := RX5) (T := TX5) (N := 24) rfl (by decide) in_X5_changing_6 (by decide +kernel) rfl dX5_changing_33 ?_
  refine lv_iload_n hx hb dX5_changing_36 rfl (lv_at hl 1 rfl) ?_
  obtain ⟨hg_5, h⟩ := of_guard h
  refine rw_iast X hK hT hR hS kf_4 hg_5 dX5_changing_37 (fun σ_5 H locs e_5 hR hS => ?_)
  have h := of_nm e_5 h
  refine lv_aload_n hx hb dX5_changing_38 rfl (lv_at hl 0 rfl) ?_
  refine rw_getR X hK hT hR 6 9 7 k0 (by decide) (C := RX5) (T := TX5) (N := 24) rfl (by decide) in_X5_changing_6 (by decide +kernel) rfl dX5_changing_39 (fun kf_6 => ?_)
  refine lv_aload_n hx hb dX5_changing_42 rfl (lv_at hl 0 rfl) ?_
  refine rw_getI X hK hR 6 7 k0 (by decide) (C := RX5) (T := TX5) (N := 24) rfl (by decide) in_X5_changing_6 (by decide +kernel) rfl dX5_changing_43 ?_
  refine lv_aload_n hx hb dX5_changing_46 rfl (lv_at hl 0 rfl) ?_
  refine rw_getR X hK hT hR 6 2 7 k0 (by decide) (C := RX5) (T := TX5) (N := 24) rfl (by decide) in_X5_changing_6 (by decide +kernel) rfl dX5_changing_47 (fun kf_7 => ?_)
  refine lv_iload_n hx hb dX5_changing_50 rfl (lv_at hl 1 rfl) ?_
  obtain ⟨hg_8, h⟩ := of_guard h
  refine rw_iald X hK hR kf_7 hg_8 dX5_changing_51 ?_
  obtain ⟨hg_9, h⟩ := of_guard h
  refine rw_iast X hK hT hR hS kf_6 hg_9 dX5_changing_52 (fun σ_9 H locs e_9 hR hS => ?_)
  have h := of_nm e_9 h
  refine lv_aload_n hx hb dX5_changing_53 rfl (lv_at hl 0 rfl) ?_
  refine rw_getR X hK hT hR 6 10 7 k0 (by decide) (C := RX5) (T := TX5) (N := 24) rfl (by decide) in_X5_changing_6 (by decide +kernel) rfl dX5_changing_54 (fun kf_10 => ?_)
  refine lv_aload_n hx hb dX5_changing_57 rfl (lv_at hl 0 rfl) ?_
  refine rw_getI X hK hR 6 7 k0 (by decide) (C := RX5) (T := TX5) (N := 24) rfl (by decide) in_X5_changing_6 (by decide +kernel) rfl dX5_changing_58 ?_
  refine lv_aload_n hx hb dX5_changing_61 rfl (lv_at hl 0 rfl) ?_
  refine rw_getR X hK hT hR 6 3 7 k0 (by decide) (C := RX5) (T := TX5) (N := 24) rfl (by decide) in_X5_changing_6 (by decide +kernel) rfl dX5_changing_62 (fun kf_11 => ?_)
  refine lv_iload_n hx hb dX5_changing_65 rfl (lv_at hl 1 rfl) ?_
  obtain ⟨hg_12, h⟩ := of_guard h
  refine rw_iald X hK hR kf_11 hg_12 dX5_changing_66 ?_
  obtain ⟨hg_13, h⟩ := of_guard h
  refine rw_iast X hK hT hR hS kf_10 hg_13 dX5_changing_67 (fun σ_13 H locs e_13 hR hS => ?_)
  have h := of_nm e_13 h
  refine lv_aload_n hx hb dX5_changing_68 rfl (lv_at hl 0 rfl) ?_
  refine rw_getR X hK hT hR 6 11 7 k0 (by decide) (C := RX5) (T := TX5) (N := 24) rfl (by decide) in_X5_changing_6 (by decide +kernel) rfl dX5_changing_69 (fun kf_14 => ?_)
  refine lv_aload_n hx hb dX5_changing_72 rfl (lv_at hl 0 rfl) ?_
  refine rw_getI X hK hR 6 7 k0 (by decide) (C := RX5) (T := TX5) (N := 24) rfl (by decide) in_X5_changing_6 (by decide +kernel) rfl dX5_changing_73 ?_
  refine lv_iconst (v := (-1 : Int32)) hx hb dX5_changing_76 (by decide) ?_
  obtain ⟨hg_15, h⟩ := of_guard h
  refine rw_iast X hK hT hR hS kf_14 hg_15 dX5_changing_77 (fun σ_15 H locs e_15 hR hS => ?_)
  have h := of_nm e_15 h
  refine lv_iconst (v := (0 : Int32)) hx hb dX5_changing_78 (by decide) ?_
  refine lv_istore_n (lv' := [(2, .int (0 : Int32)), (0, .ref a0), (1, .int l1)]) hx hb dX5_changing_79 rfl hl (by decide) rfl (fun ls hl => ?_)
  obtain ⟨e_21, hq_21, h⟩ := of_bind h
  refine w_lp_X5_changing_80 X hK hT hM a0 l1 k0 _ ((0 : Int32), σ_15) hq_21 (fun H locs ls hR hS hl => ?_) H locs ls hR hS (lv_sub hl [1, 2, 0] rfl)
  exact rt_v X hR hS (Option.some.inj h) dX5_changing_120

set_option maxHeartbeats 4000000 in
set_option maxRecDepth 100000 in
theorem c_X5_changing (l : Launch) (cA : Nat → ClassId) (D : va_G) (Λ : Lay) (hT : TL Λ) (σ : Sto) (a0 : Nat) (l1 : Int32) (k0 : isK Λ a0 6) {res : Sto} (h : F_X5_changing Λ σ a0 l1 = some res) : Met l yX5_changing wsX5_changing { frames := 1, cells := 0, slots := 0, locals := 21 } (va_Pc [.ref a0, .int l1] (PW cA D Λ σ)) (QV cA D Λ res) 0 0 (dm Λ) := by
  refine Met.ofW (cc := cX5_changing) (maxL := 3) (ret := none) (by decide) rfl ?_
  intro p e s m args below meth c s₁ B hml hv
  obtain ⟨rfl, hR, hK⟩ := hv
  have X : Cx cX5_changing none 3 RX5 wsX5_changing p s m _ meth c := ⟨B.exec, B.bytes, B.returns, hml, findClass_of_methodNamed B.named, atoms_spec (ws := wsX5_changing) B.pre, B.notSynchronized⟩
  have hS : va_S (dm Λ) s.heap s.heap [] := va_S.rf
  have hl := lv_entry ([.ref a0, .int l1]) (n := 3) (Nat.le_of_ble_eq_true rfl)
  rw [lg_entry_eq]
  generalize (lg_sl ([.ref a0, .int l1]) ++ List.replicate (3 - (lg_sl ([.ref a0, .int l1])).length) Slot.unset).toArray = ls at hl ⊢
  have hl : lv_has ls 3 [(0, .ref a0), (1, .int l1)] := hl
  exact w_X5_changing X hK hT ⟨Nat.le_refl _, Nat.le_refl _⟩ a0 l1 k0 h s.heap [] ls hR hS hl
theorem in_X5_back_6 : ∀ w ∈ u_ws RX5 TX5 24, w ∈ wsX5_back := by decide +kernel
set_option maxHeartbeats 4000000 in
set_option maxRecDepth 100000 in
theorem w_bd_X5_back_56 (X : Cx cX5_back (some .int) 3 RX5 wsX5_back p s m args meth c) (hK : Kn cA D s) (hT : TL Λ) (hM : 0 ≤ R.frames ∧ 0 ≤ R.locals) (a0 : Nat) (l1 : Int32) (s9 : (Int32 × Sto)) (k0 : isK Λ a0 6) {r : (Int32 × Sto) ⊕ Sto} (h : bd_X5_back_56 Λ a0 l1 s9 = some r) (kb : ∀ z : (Int32 × Sto), r = .inl z → ∀ (H : Heap) (locs : List Loc) (ls : Array Slot), Rep cA D Λ z.2 H → va_S (dm Λ) s.heap H locs → lv_has ls 3 [(0, .ref a0), (1, .int l1), (2, .int z.1)] → W p l e R s m args below meth c H locs 0 0 Q (F0 m 56 ls [])) (kx0 : ∀ z : Sto, r = .inr z → ∀ (H : Heap) (locs : List Loc) (ls : Array Slot), Rep cA D Λ z H → va_S (dm Λ) s.heap H locs → lv_has ls 3 [(0, .ref a0), (1, .int l1)] → W p l e R s m args below meth c H locs 0 0 Q (F0 m 96 ls [])) (H : Heap) (locs : List Loc) (ls : Array Slot) (hR : Rep cA D Λ s9.2 H) (hS : va_S (dm Λ) s.heap H locs) (hl : lv_has ls 3 [(0, .ref a0), (1, .int l1), (2, .int s9.1)]) : W p l e R s m args below meth c H locs 0 0 Q (F0 m 56 ls []) := by
  have hx := X.1
  have hb := X.2.1
  have hown := X.2.2.2.2.1
  have hts := X.2.2.2.2.2.1
  unfold bd_X5_back_56 at h
  refine lv_iload_n hx hb dX5_back_56 rfl (lv_at hl 2 rfl) ?_
  refine lv_sipush (v := (4096 : Int32)) hx hb dX5_back_57 (by decide) ?_
  refine lv_icmp_ge (tgt := 96) hx hb dX5_back_60 (by decide) (fun hc => ?_) (fun hc => ?_)
  · have h := of_pos hc h
    exact kx0 s9.2 (Option.some.inj h).symm H locs ls hR hS (lv_sub hl [0, 1] rfl)
  · have h := of_neg hc h
    refine lv_aload_n hx hb dX5_back_63 rfl (lv_at hl 0 rfl) ?_
    refine rw_getR X hK hT hR 6 4 9 k0 (by decide) (C := RX5) (T := TX5) (N := 24) rfl (by decide) in_X5_back_6 (by decide +kernel) rfl dX5_back_64 (fun kf_13 => ?_)
    refine lv_iload_n hx hb dX5_back_67 rfl (lv_at hl 1 rfl) ?_
    refine lv_sipush (v := (4096 : Int32)) hx hb dX5_back_68 (by decide) ?_
    refine lv_imul hx hb dX5_back_71 ?_
    refine lv_iload_n hx hb dX5_back_72 rfl (lv_at hl 2 rfl) ?_
    refine lv_iadd hx hb dX5_back_73 ?_
    refine lv_aload_n hx hb dX5_back_74 rfl (lv_at hl 0 rfl) ?_
    refine rw_getR X hK hT hR 6 12 9 k0 (by decide) (C := RX5) (T := TX5) (N := 24) rfl (by decide) in_X5_back_6 (by decide +kernel) rfl dX5_back_75 (fun kf_14 => ?_)
    refine lv_aload_n hx hb dX5_back_78 rfl (lv_at hl 0 rfl) ?_
    refine rw_getI X hK hR 6 7 k0 (by decide) (C := RX5) (T := TX5) (N := 24) rfl (by decide) in_X5_back_6 (by decide +kernel) rfl dX5_back_79 ?_
    refine lv_sipush (v := (4096 : Int32)) hx hb dX5_back_82 (by decide) ?_
    refine lv_imul hx hb dX5_back_85 ?_
    refine lv_iload_n hx hb dX5_back_86 rfl (lv_at hl 2 rfl) ?_
    refine lv_iadd hx hb dX5_back_87 ?_
    obtain ⟨hg_15, h⟩ := of_guard h
    refine rw_zald X hK hR kf_14 hg_15 dX5_back_88 ?_
    obtain ⟨hg_16, h⟩ := of_guard h
    refine rw_zast X hK hT hR hS kf_13 hg_16 dX5_back_89 (fun σ_16 H locs e_16 hR hS => ?_)
    have h := of_nm e_16 h
    obtain ⟨v_17, e_v_17⟩ : ∃ y : Int32, y = (s9.1 + (1 : Int32)) := ⟨_, rfl⟩
    have h := of_nm e_v_17 h
    refine lv_iinc (v := v_17) (lv' := [(2, .int v_17), (0, .ref a0), (1, .int l1)]) hx hb dX5_back_90 hl (k := 2) rfl (by rw [e_v_17]; rfl) (by decide) rfl (fun ls hl => ?_)
    refine lv_goto (tgt := 56) hx hb dX5_back_93 (by decide) ?_
    exact kb (v_17, σ_16) (Option.some.inj h).symm H locs ls hR hS (lv_sub hl [1, 2, 0] rfl)

set_option maxHeartbeats 4000000 in
set_option maxRecDepth 100000 in
theorem w_lp_X5_back_56 (X : Cx cX5_back (some .int) 3 RX5 wsX5_back p s m args meth c) (hK : Kn cA D s) (hT : TL Λ) (hM : 0 ≤ R.frames ∧ 0 ≤ R.locals) (a0 : Nat) (l1 : Int32) (k0 : isK Λ a0 6) {e9 : Sto} : ∀ (n9 : Nat) (s9 : (Int32 × Sto)), iter (bd_X5_back_56 Λ a0 l1) n9 s9 = some e9 → ∀ (kx0 : ∀ (H : Heap) (locs : List Loc) (ls : Array Slot), Rep cA D Λ e9 H → va_S (dm Λ) s.heap H locs → lv_has ls 3 [(0, .ref a0), (1, .int l1)] → W p l e R s m args below meth c H locs 0 0 Q (F0 m 96 ls [])), ∀ (H : Heap) (locs : List Loc) (ls : Array Slot), Rep cA D Λ s9.2 H → va_S (dm Λ) s.heap H locs → lv_has ls 3 [(0, .ref a0), (1, .int l1), (2, .int s9.1)] → W p l e R s m args below meth c H locs 0 0 Q (F0 m 56 ls []) := by
  intro n9
  induction n9 with
  | zero => intro s9 h; cases h
  | succ n9 ih =>
    intro s9 h kx0 H locs ls hR hS hl
    obtain ⟨r, hr, h⟩ := of_iter h
    refine w_bd_X5_back_56 X hK hT hM a0 l1 s9 k0 hr (fun z ez H locs ls hR hS hl => ?_) (fun z ez H locs ls hR hS hl => ?_) H locs ls hR hS hl
    · exact ih z (of_itl ez h) kx0 H locs ls hR hS hl
    · have he := of_itr ez h; subst he; exact kx0 H locs ls hR hS hl

set_option maxHeartbeats 4000000 in
set_option maxRecDepth 100000 in
theorem w_jp_X5_back_136 (X : Cx cX5_back (some .int) 3 RX5 wsX5_back p s m args meth c) (hK : Kn cA D s) (hT : TL Λ) (hM : 0 ≤ R.frames ∧ 0 ≤ R.locals) (a0 : Nat) (l1 : Int32)  (k0 : isK Λ a0 6) {res : Int32 × Sto} (h : jp_X5_back_136 Λ σ a0 l1 = some res) (H : Heap) (locs : List Loc) (ls : Array Slot) (hR : Rep cA D Λ σ H) (hS : va_S (dm Λ) s.heap H locs) (hl : lv_has ls 3 [(0, .ref a0), (1, .int l1)]) : W p l e R s m args below meth c H locs 0 0 (MQ below (QI cA D Λ res) args s 0 0 (dm Λ)) (F0 m 136 ls []) := by
  have hx := X.1
  have hb := X.2.1
  have hown := X.2.2.2.2.1
  have hts := X.2.2.2.2.2.1
  unfold jp_X5_back_136 at h
  refine lv_aload_n hx hb dX5_back_136 rfl (lv_at hl 0 rfl) ?_
  refine lv_aload_n hx hb dX5_back_137 rfl (lv_at hl 0 rfl) ?_
  refine rw_getI X hK hR 6 7 k0 (by decide) (C := RX5) (T := TX5) (N := 24) rfl (by decide) in_X5_back_6 (by decide +kernel) rfl dX5_back_138 ?_
  refine lv_bipush (v := (10 : Int32)) hx hb dX5_back_141 (by decide) ?_
  refine lv_iadd hx hb dX5_back_143 ?_
  refine lv_iconst (v := (1 : Int32)) hx hb dX5_back_144 (by decide) ?_
  refine lv_isub hx hb dX5_back_145 ?_
  refine lv_bipush (v := (10 : Int32)) hx hb dX5_back_146 (by decide) ?_
  refine lv_irem hx hb dX5_back_148 (by decide) ?_
  refine rw_putI X hK hT hR hS 6 7 tyX5 k0 (by decide) (C := RX5) (T := TX5) (N := 24) rfl (by decide) in_X5_back_6 tyX5_ok nmX5 (by decide +kernel) rfl rfl (by decide +kernel) dX5_back_149 (fun σ_21 H locs e_21 hR hS => ?_)
  have h := of_nm e_21 h
  refine lv_aload_n hx hb dX5_back_152 rfl (lv_at hl 0 rfl) ?_
  refine lv_dup hx hb dX5_back_153 rfl ?_
  refine rw_getI X hK hR 6 6 k0 (by decide) (C := RX5) (T := TX5) (N := 24) rfl (by decide) in_X5_back_6 (by decide +kernel) rfl dX5_back_154 ?_
  refine lv_iconst (v := (1 : Int32)) hx hb dX5_back_157 (by decide) ?_
  refine lv_isub hx hb dX5_back_158 ?_
  refine rw_putI X hK hT hR hS 6 6 tyX5 k0 (by decide) (C := RX5) (T := TX5) (N := 24) rfl (by decide) in_X5_back_6 tyX5_ok nmX5 (by decide +kernel) rfl rfl (by decide +kernel) dX5_back_159 (fun σ_22 H locs e_22 hR hS => ?_)
  have h := of_nm e_22 h
  refine lv_iload_n hx hb dX5_back_162 rfl (lv_at hl 1 rfl) ?_
  exact rt_i X hR hS (Option.some.inj h) dX5_back_163

set_option maxHeartbeats 4000000 in
set_option maxRecDepth 100000 in
theorem w_X5_back (X : Cx cX5_back (some .int) 3 RX5 wsX5_back p s m args meth c) (hK : Kn cA D s) (hT : TL Λ) (hM : 0 ≤ R.frames ∧ 0 ≤ R.locals) (a0 : Nat) (k0 : isK Λ a0 6) {res : Int32 × Sto} (h : F_X5_back Λ σ a0 = some res) (H : Heap) (locs : List Loc) (ls : Array Slot) (hR : Rep cA D Λ σ H) (hS : va_S (dm Λ) s.heap H locs) (hl : lv_has ls 3 [(0, .ref a0)]) : W p l e R s m args below meth c H locs 0 0 (MQ below (QI cA D Λ res) args s 0 0 (dm Λ)) (F0 m 0 ls []) := by
  have hx := X.1
  have hb := X.2.1
  have hown := X.2.2.2.2.1
  have hts := X.2.2.2.2.2.1
  unfold F_X5_back at h
  refine lv_aload_n hx hb dX5_back_0 rfl (lv_at hl 0 rfl) ?_
  refine lv_iconst (v := (0 : Int32)) hx hb dX5_back_1 (by decide) ?_
  refine rw_putI X hK hT hR hS 6 0 tyX5 k0 (by decide) (C := RX5) (T := TX5) (N := 24) rfl (by decide) in_X5_back_6 tyX5_ok nmX5 (by decide +kernel) rfl rfl (by decide +kernel) dX5_back_2 (fun σ_1 H locs e_1 hR hS => ?_)
  have h := of_nm e_1 h
  refine lv_aload_n hx hb dX5_back_5 rfl (lv_at hl 0 rfl) ?_
  refine rw_getI X hK hR 6 6 k0 (by decide) (C := RX5) (T := TX5) (N := 24) rfl (by decide) in_X5_back_6 (by decide +kernel) rfl dX5_back_6 ?_
  refine lv_if_ne (tgt := 14) hx hb dX5_back_9 (by decide) (fun hc => ?_) (fun hc => ?_)
  · have h := of_neg hc h
    refine lv_aload_n hx hb dX5_back_14 rfl (lv_at hl 0 rfl) ?_
    refine rw_getR X hK hT hR 6 8 7 k0 (by decide) (C := RX5) (T := TX5) (N := 24) rfl (by decide) in_X5_back_6 (by decide +kernel) rfl dX5_back_15 (fun kf_2 => ?_)
    refine lv_aload_n hx hb dX5_back_18 rfl (lv_at hl 0 rfl) ?_
    refine rw_getI X hK hR 6 7 k0 (by decide) (C := RX5) (T := TX5) (N := 24) rfl (by decide) in_X5_back_6 (by decide +kernel) rfl dX5_back_19 ?_
    obtain ⟨hg_3, h⟩ := of_guard h
    refine rw_iald X hK hR kf_2 hg_3 dX5_back_22 ?_
    refine lv_topi (fun v_4 e_v_4 => ?_)
    have h := of_nm e_v_4 h
    refine lv_istore_n (lv' := [(1, .int v_4), (0, .ref a0)]) hx hb dX5_back_23 rfl hl (by decide) rfl (fun ls hl => ?_)
    refine lv_aload_n hx hb dX5_back_24 rfl (lv_at hl 1 rfl) ?_
    refine rw_getR X hK hT hR 6 2 7 k0 (by decide) (C := RX5) (T := TX5) (N := 24) rfl (by decide) in_X5_back_6 (by decide +kernel) rfl dX5_back_25 (fun kf_5 => ?_)
    refine lv_iload_n hx hb dX5_back_28 rfl (lv_at hl 0 rfl) ?_
    refine lv_aload_n hx hb dX5_back_29 rfl (lv_at hl 1 rfl) ?_
    refine rw_getR X hK hT hR 6 9 7 k0 (by decide) (C := RX5) (T := TX5) (N := 24) rfl (by decide) in_X5_back_6 (by decide +kernel) rfl dX5_back_30 (fun kf_6 => ?_)
    refine lv_aload_n hx hb dX5_back_33 rfl (lv_at hl 1 rfl) ?_
    refine rw_getI X hK hR 6 7 k0 (by decide) (C := RX5) (T := TX5) (N := 24) rfl (by decide) in_X5_back_6 (by decide +kernel) rfl dX5_back_34 ?_
    obtain ⟨hg_7, h⟩ := of_guard h
    refine rw_iald X hK hR kf_6 hg_7 dX5_back_37 ?_
    obtain ⟨hg_8, h⟩ := of_guard h
    refine rw_iast X hK hT hR hS kf_5 hg_8 dX5_back_38 (fun σ_8 H locs e_8 hR hS => ?_)
    have h := of_nm e_8 h
    refine lv_aload_n hx hb dX5_back_39 rfl (lv_at hl 1 rfl) ?_
    refine rw_getR X hK hT hR 6 3 7 k0 (by decide) (C := RX5) (T := TX5) (N := 24) rfl (by decide) in_X5_back_6 (by decide +kernel) rfl dX5_back_40 (fun kf_9 => ?_)
    refine lv_iload_n hx hb dX5_back_43 rfl (lv_at hl 0 rfl) ?_
    refine lv_aload_n hx hb dX5_back_44 rfl (lv_at hl 1 rfl) ?_
    refine rw_getR X hK hT hR 6 10 7 k0 (by decide) (C := RX5) (T := TX5) (N := 24) rfl (by decide) in_X5_back_6 (by decide +kernel) rfl dX5_back_45 (fun kf_10 => ?_)
    refine lv_aload_n hx hb dX5_back_48 rfl (lv_at hl 1 rfl) ?_
    refine rw_getI X hK hR 6 7 k0 (by decide) (C := RX5) (T := TX5) (N := 24) rfl (by decide) in_X5_back_6 (by decide +kernel) rfl dX5_back_49 ?_
    obtain ⟨hg_11, h⟩ := of_guard h
    refine rw_iald X hK hR kf_10 hg_11 dX5_back_52 ?_
    obtain ⟨hg_12, h⟩ := of_guard h
    refine rw_iast X hK hT hR hS kf_9 hg_12 dX5_back_53 (fun σ_12 H locs e_12 hR hS => ?_)
    have h := of_nm e_12 h
    refine lv_iconst (v := (0 : Int32)) hx hb dX5_back_54 (by decide) ?_
    refine lv_istore_n (lv' := [(2, .int (0 : Int32)), (1, .int v_4), (0, .ref a0)]) hx hb dX5_back_55 rfl hl (by decide) rfl (fun ls hl => ?_)
    obtain ⟨e_18, hq_18, h⟩ := of_bind h
    refine w_lp_X5_back_56 X hK hT hM a0 v_4 k0 _ ((0 : Int32), σ_12) hq_18 (fun H locs ls hR hS hl => ?_) H locs ls hR hS (lv_sub hl [2, 1, 0] rfl)
    refine lv_aload_n hx hb dX5_back_96 rfl (lv_at hl 0 rfl) ?_
    refine rw_getR X hK hT hR 6 11 7 k0 (by decide) (C := RX5) (T := TX5) (N := 24) rfl (by decide) in_X5_back_6 (by decide +kernel) rfl dX5_back_97 (fun kf_19 => ?_)
    refine lv_aload_n hx hb dX5_back_100 rfl (lv_at hl 0 rfl) ?_
    refine rw_getI X hK hR 6 7 k0 (by decide) (C := RX5) (T := TX5) (N := 24) rfl (by decide) in_X5_back_6 (by decide +kernel) rfl dX5_back_101 ?_
    obtain ⟨hg_20, h⟩ := of_guard h
    refine rw_iald X hK hR kf_19 hg_20 dX5_back_104 ?_
    refine lv_if_lt (tgt := 136) hx hb dX5_back_105 (by decide) (fun hc => ?_) (fun hc => ?_)
    · have h := of_pos hc h
      exact w_jp_X5_back_136 X hK hT hM a0 v_4 k0 h H locs ls hR hS (lv_sub hl [0, 1] rfl)
    · have h := of_neg hc h
      refine lv_aload_n hx hb dX5_back_108 rfl (lv_at hl 0 rfl) ?_
      refine rw_getR X hK hT hR 6 11 7 k0 (by decide) (C := RX5) (T := TX5) (N := 24) rfl (by decide) in_X5_back_6 (by decide +kernel) rfl dX5_back_109 (fun kf_23 => ?_)
      refine lv_aload_n hx hb dX5_back_112 rfl (lv_at hl 0 rfl) ?_
      refine rw_getI X hK hR 6 7 k0 (by decide) (C := RX5) (T := TX5) (N := 24) rfl (by decide) in_X5_back_6 (by decide +kernel) rfl dX5_back_113 ?_
      obtain ⟨hg_24, h⟩ := of_guard h
      refine rw_iald X hK hR kf_23 hg_24 dX5_back_116 ?_
      refine lv_aload_n hx hb dX5_back_117 rfl (lv_at hl 0 rfl) ?_
      refine rw_getI X hK hR 6 1 k0 (by decide) (C := RX5) (T := TX5) (N := 24) rfl (by decide) in_X5_back_6 (by decide +kernel) rfl dX5_back_118 ?_
      refine lv_iconst (v := (1 : Int32)) hx hb dX5_back_121 (by decide) ?_
      refine lv_isub hx hb dX5_back_122 ?_
      refine lv_icmp_ne (tgt := 136) hx hb dX5_back_123 (by decide) (fun hc => ?_) (fun hc => ?_)
      · have h := of_neg hc h
        exact w_jp_X5_back_136 X hK hT hM a0 v_4 k0 h H locs ls hR hS (lv_sub hl [0, 1] rfl)
      · have h := of_pos hc h
        refine lv_aload_n hx hb dX5_back_126 rfl (lv_at hl 0 rfl) ?_
        refine lv_dup hx hb dX5_back_127 rfl ?_
        refine rw_getI X hK hR 6 1 k0 (by decide) (C := RX5) (T := TX5) (N := 24) rfl (by decide) in_X5_back_6 (by decide +kernel) rfl dX5_back_128 ?_
        refine lv_iconst (v := (1 : Int32)) hx hb dX5_back_131 (by decide) ?_
        refine lv_isub hx hb dX5_back_132 ?_
        refine rw_putI X hK hT hR hS 6 1 tyX5 k0 (by decide) (C := RX5) (T := TX5) (N := 24) rfl (by decide) in_X5_back_6 tyX5_ok nmX5 (by decide +kernel) rfl rfl (by decide +kernel) dX5_back_133 (fun σ_25 H locs e_25 hR hS => ?_)
        have h := of_nm e_25 h
        exact w_jp_X5_back_136 X hK hT hM a0 v_4 k0 h H locs ls hR hS (lv_sub hl [0, 1] rfl)
  · have h := of_pos hc h
    refine lv_iconst (v := (-1 : Int32)) hx hb dX5_back_12 (by decide) ?_
    exact rt_i X hR hS (Option.some.inj h) dX5_back_13

set_option maxHeartbeats 4000000 in
set_option maxRecDepth 100000 in
theorem c_X5_back (l : Launch) (cA : Nat → ClassId) (D : va_G) (Λ : Lay) (hT : TL Λ) (σ : Sto) (a0 : Nat) (k0 : isK Λ a0 6) {res : Int32 × Sto} (h : F_X5_back Λ σ a0 = some res) : Met l yX5_back wsX5_back { frames := 0, cells := 0, slots := 0, locals := 0 } (va_Pc [.ref a0] (PW cA D Λ σ)) (QI cA D Λ res) 0 0 (dm Λ) := by
  refine Met.ofW (cc := cX5_back) (maxL := 3) (ret := (some .int)) (by decide) rfl ?_
  intro p e s m args below meth c s₁ B hml hv
  obtain ⟨rfl, hR, hK⟩ := hv
  have X : Cx cX5_back (some .int) 3 RX5 wsX5_back p s m _ meth c := ⟨B.exec, B.bytes, B.returns, hml, findClass_of_methodNamed B.named, atoms_spec (ws := wsX5_back) B.pre, B.notSynchronized⟩
  have hS : va_S (dm Λ) s.heap s.heap [] := va_S.rf
  have hl := lv_entry ([.ref a0]) (n := 3) (Nat.le_of_ble_eq_true rfl)
  rw [lg_entry_eq]
  generalize (lg_sl ([.ref a0]) ++ List.replicate (3 - (lg_sl ([.ref a0])).length) Slot.unset).toArray = ls at hl ⊢
  have hl : lv_has ls 3 [(0, .ref a0)] := hl
  exact w_X5_back X hK hT ⟨Nat.le_refl _, Nat.le_refl _⟩ a0 k0 h s.heap [] ls hR hS hl
theorem in_X5_isPoint_6 : ∀ w ∈ u_ws RX5 TX5 24, w ∈ wsX5_isPoint := by decide +kernel
set_option maxHeartbeats 4000000 in
set_option maxRecDepth 100000 in
theorem w_X5_isPoint (X : Cx cX5_isPoint (some .boolean) 4 RX5 wsX5_isPoint p s m args meth c) (hK : Kn cA D s) (hT : TL Λ) (hM : 2 ≤ R.frames ∧ 46 ≤ R.locals) (a0 : Nat) (l1 : Int32) (l2 : Int32) (l3 : Int32) (k0 : isK Λ a0 6) {res : Int32} (h : F_X5_isPoint Λ σ a0 l1 l2 l3 = some res) (H : Heap) (locs : List Loc) (ls : Array Slot) (hR : Rep cA D Λ σ H) (hS : va_S (dm Λ) s.heap H locs) (hl : lv_has ls 4 [(0, .ref a0), (1, .int l1), (2, .int l2), (3, .int l3)]) : W p l e R s m args below meth c H locs 0 0 (MQ below (QZ cA D Λ (res, σ)) args s 0 0 (dm Λ)) (F0 m 0 ls []) := by
  have hx := X.1
  have hb := X.2.1
  have hown := X.2.2.2.2.1
  have hts := X.2.2.2.2.2.1
  unfold F_X5_isPoint at h
  refine lv_aload_n hx hb dX5_isPoint_0 rfl (lv_at hl 0 rfl) ?_
  refine lv_iload_n hx hb dX5_isPoint_1 rfl (lv_at hl 1 rfl) ?_
  refine cl_z (rn_V (As := [.int l1]) (rest := []) X hK hR k0 rfl (by decide) hl.1 (c_X5_isPage l cA D Λ hT σ a0 l1 k0) (cwV 1 hts gX5_isPoint_X5_isPage rfl rfl rfl (by decide +kernel) ⟨Nat.le_trans (by decide) hM.1, Nat.le_trans (by decide) hM.2⟩) rfl rfl (Nat.le_of_ble_eq_true rfl) dX5_isPoint_2) hS (fun hz_1 H locs hR hS => ?_)
  refine lv_topi (fun r_1 e_1 => ?_)
  have h := of_nm e_1 h
  have hz_1 : r_1 = 0 ∨ r_1 = 1 := by rw [e_1]; exact hz_1
  refine lv_if_eq (tgt := 48) hx hb dX5_isPoint_5 (by decide) (fun hc => ?_) (fun hc => ?_)
  · have h := of_pos hc h
    refine lv_iconst (v := (0 : Int32)) hx hb dX5_isPoint_48 (by decide) ?_
    exact rt_z X hR hS (congrArg (fun z => (z, σ)) (Option.some.inj h)) (Or.inl rfl) dX5_isPoint_49
  · have h := of_neg hc h
    refine lv_iload_n hx hb dX5_isPoint_8 rfl (lv_at hl 2 rfl) ?_
    refine lv_i2l (v := (l2.toInt64)) hx hb dX5_isPoint_9 rfl ?_
    refine lv_lconst (v := (0 : Int64)) hx hb dX5_isPoint_10 (by decide) ?_
    refine lv_aload_n hx hb dX5_isPoint_11 rfl (lv_at hl 0 rfl) ?_
    refine rw_getR X hK hT hR 6 2 7 k0 (by decide) (C := RX5) (T := TX5) (N := 24) rfl (by decide) in_X5_isPoint_6 (by decide +kernel) rfl dX5_isPoint_12 (fun kf_2 => ?_)
    refine lv_iload_n hx hb dX5_isPoint_15 rfl (lv_at hl 1 rfl) ?_
    obtain ⟨hg_3, h⟩ := of_guard h
    refine rw_iald X hK hR kf_2 hg_3 dX5_isPoint_16 ?_
    refine lv_iconst (v := (1 : Int32)) hx hb dX5_isPoint_17 (by decide) ?_
    refine lv_isub hx hb dX5_isPoint_18 ?_
    refine lv_i2l (v := (((σ.1 (rfA Λ a0 2) l1.toNatClampNeg) - (1 : Int32)).toInt64)) hx hb dX5_isPoint_19 rfl ?_
    refine cl_z (rn_S (As := [.long (l2.toInt64), .long (0 : Int64), .long (((σ.1 (rfA Λ a0 2) l1.toNatClampNeg) - (1 : Int32)).toInt64)]) (rest := []) X hK hR hl.1 (c_X5_in l cA D Λ hT σ (l2.toInt64) (0 : Int64) (((σ.1 (rfA Λ a0 2) l1.toNatClampNeg) - (1 : Int32)).toInt64)) (va_cwS 3 hts gX5_isPoint_X5_in rfl rfl rfl (by decide +kernel) ⟨Nat.le_trans (by decide) hM.1, Nat.le_trans (by decide) hM.2⟩) rfl rfl (Nat.le_of_ble_eq_true rfl) dX5_isPoint_20) hS (fun hz_4 H locs hR hS => ?_)
    refine lv_topi (fun r_4 e_4 => ?_)
    have h := of_nm e_4 h
    have hz_4 : r_4 = 0 ∨ r_4 = 1 := by rw [e_4]; exact hz_4
    refine lv_if_eq (tgt := 48) hx hb dX5_isPoint_23 (by decide) (fun hc => ?_) (fun hc => ?_)
    · have h := of_pos hc h
      refine lv_iconst (v := (0 : Int32)) hx hb dX5_isPoint_48 (by decide) ?_
      exact rt_z X hR hS (congrArg (fun z => (z, σ)) (Option.some.inj h)) (Or.inl rfl) dX5_isPoint_49
    · have h := of_neg hc h
      refine lv_iload_n hx hb dX5_isPoint_26 rfl (lv_at hl 3 rfl) ?_
      refine lv_i2l (v := (l3.toInt64)) hx hb dX5_isPoint_27 rfl ?_
      refine lv_lconst (v := (0 : Int64)) hx hb dX5_isPoint_28 (by decide) ?_
      refine lv_aload_n hx hb dX5_isPoint_29 rfl (lv_at hl 0 rfl) ?_
      refine rw_getR X hK hT hR 6 3 7 k0 (by decide) (C := RX5) (T := TX5) (N := 24) rfl (by decide) in_X5_isPoint_6 (by decide +kernel) rfl dX5_isPoint_30 (fun kf_5 => ?_)
      refine lv_iload_n hx hb dX5_isPoint_33 rfl (lv_at hl 1 rfl) ?_
      obtain ⟨hg_6, h⟩ := of_guard h
      refine rw_iald X hK hR kf_5 hg_6 dX5_isPoint_34 ?_
      refine lv_iconst (v := (1 : Int32)) hx hb dX5_isPoint_35 (by decide) ?_
      refine lv_isub hx hb dX5_isPoint_36 ?_
      refine lv_i2l (v := (((σ.1 (rfA Λ a0 3) l1.toNatClampNeg) - (1 : Int32)).toInt64)) hx hb dX5_isPoint_37 rfl ?_
      refine cl_z (rn_S (As := [.long (l3.toInt64), .long (0 : Int64), .long (((σ.1 (rfA Λ a0 3) l1.toNatClampNeg) - (1 : Int32)).toInt64)]) (rest := []) X hK hR hl.1 (c_X5_in l cA D Λ hT σ (l3.toInt64) (0 : Int64) (((σ.1 (rfA Λ a0 3) l1.toNatClampNeg) - (1 : Int32)).toInt64)) (va_cwS 3 hts gX5_isPoint_X5_in rfl rfl rfl (by decide +kernel) ⟨Nat.le_trans (by decide) hM.1, Nat.le_trans (by decide) hM.2⟩) rfl rfl (Nat.le_of_ble_eq_true rfl) dX5_isPoint_38) hS (fun hz_7 H locs hR hS => ?_)
      refine lv_topi (fun r_7 e_7 => ?_)
      have h := of_nm e_7 h
      have hz_7 : r_7 = 0 ∨ r_7 = 1 := by rw [e_7]; exact hz_7
      refine lv_if_eq (tgt := 48) hx hb dX5_isPoint_41 (by decide) (fun hc => ?_) (fun hc => ?_)
      · have h := of_pos hc h
        refine lv_iconst (v := (0 : Int32)) hx hb dX5_isPoint_48 (by decide) ?_
        exact rt_z X hR hS (congrArg (fun z => (z, σ)) (Option.some.inj h)) (Or.inl rfl) dX5_isPoint_49
      · have h := of_neg hc h
        refine lv_iconst (v := (1 : Int32)) hx hb dX5_isPoint_44 (by decide) ?_
        refine lv_goto (tgt := 49) hx hb dX5_isPoint_45 (by decide) ?_
        exact rt_z X hR hS (congrArg (fun z => (z, σ)) (Option.some.inj h)) (Or.inr rfl) dX5_isPoint_49

set_option maxHeartbeats 4000000 in
set_option maxRecDepth 100000 in
theorem c_X5_isPoint (l : Launch) (cA : Nat → ClassId) (D : va_G) (Λ : Lay) (hT : TL Λ) (σ : Sto) (a0 : Nat) (l1 : Int32) (l2 : Int32) (l3 : Int32) (k0 : isK Λ a0 6) {res : Int32} (h : F_X5_isPoint Λ σ a0 l1 l2 l3 = some res) : Met l yX5_isPoint wsX5_isPoint { frames := 2, cells := 0, slots := 0, locals := 46 } (va_Pc [.ref a0, .int l1, .int l2, .int l3] (PW cA D Λ σ)) (QZ cA D Λ (res, σ)) 0 0 (dm Λ) := by
  refine Met.ofW (cc := cX5_isPoint) (maxL := 4) (ret := (some .boolean)) (by decide) rfl ?_
  intro p e s m args below meth c s₁ B hml hv
  obtain ⟨rfl, hR, hK⟩ := hv
  have X : Cx cX5_isPoint (some .boolean) 4 RX5 wsX5_isPoint p s m _ meth c := ⟨B.exec, B.bytes, B.returns, hml, findClass_of_methodNamed B.named, atoms_spec (ws := wsX5_isPoint) B.pre, B.notSynchronized⟩
  have hS : va_S (dm Λ) s.heap s.heap [] := va_S.rf
  have hl := lv_entry ([.ref a0, .int l1, .int l2, .int l3]) (n := 4) (Nat.le_of_ble_eq_true rfl)
  rw [lg_entry_eq]
  generalize (lg_sl ([.ref a0, .int l1, .int l2, .int l3]) ++ List.replicate (4 - (lg_sl ([.ref a0, .int l1, .int l2, .int l3])).length) Slot.unset).toArray = ls at hl ⊢
  have hl : lv_has ls 4 [(0, .ref a0), (1, .int l1), (2, .int l2), (3, .int l3)] := hl
  exact w_X5_isPoint X hK hT ⟨Nat.le_refl _, Nat.le_refl _⟩ a0 l1 l2 l3 k0 h s.heap [] ls hR hS hl
theorem in_X5_set_6 : ∀ w ∈ u_ws RX5 TX5 24, w ∈ wsX5_set := by decide +kernel
set_option maxHeartbeats 4000000 in
set_option maxRecDepth 100000 in
theorem w_X5_set (X : Cx cX5_set (some .boolean) 5 RX5 wsX5_set p s m args meth c) (hK : Kn cA D s) (hT : TL Λ) (hM : 3 ≤ R.frames ∧ 69 ≤ R.locals) (a0 : Nat) (l1 : Int32) (l2 : Int32) (l3 : Int32) (l4 : Int32) (k0 : isK Λ a0 6) {res : Int32 × Sto} (h : F_X5_set Λ σ a0 l1 l2 l3 l4 = some res) (H : Heap) (locs : List Loc) (ls : Array Slot) (hR : Rep cA D Λ σ H) (hS : va_S (dm Λ) s.heap H locs) (hl : lv_has ls 5 [(0, .ref a0), (1, .int l1), (2, .int l2), (3, .int l3), (4, .int l4)]) : W p l e R s m args below meth c H locs 0 0 (MQ below (QZ cA D Λ res) args s 0 0 (dm Λ)) (F0 m 0 ls []) := by
  have hx := X.1
  have hb := X.2.1
  have hown := X.2.2.2.2.1
  have hts := X.2.2.2.2.2.1
  unfold F_X5_set at h
  refine lv_aload_n hx hb dX5_set_0 rfl (lv_at hl 0 rfl) ?_
  refine lv_iconst (v := (0 : Int32)) hx hb dX5_set_1 (by decide) ?_
  refine rw_putI X hK hT hR hS 6 0 tyX5 k0 (by decide) (C := RX5) (T := TX5) (N := 24) rfl (by decide) in_X5_set_6 tyX5_ok nmX5 (by decide +kernel) rfl rfl (by decide +kernel) dX5_set_2 (fun σ_1 H locs e_1 hR hS => ?_)
  have h := of_nm e_1 h
  refine lv_aload_n hx hb dX5_set_5 rfl (lv_at hl 0 rfl) ?_
  refine lv_iload_n hx hb dX5_set_6 rfl (lv_at hl 1 rfl) ?_
  refine lv_iload_n hx hb dX5_set_7 rfl (lv_at hl 2 rfl) ?_
  refine lv_iload_n hx hb dX5_set_8 rfl (lv_at hl 3 rfl) ?_
  obtain ⟨q_2, hq_2, h⟩ := of_bind h
  refine cl_z (rn_V (As := [.int l1, .int l2, .int l3]) (rest := []) X hK hR k0 rfl (by decide) hl.1 (c_X5_isPoint l cA D Λ hT σ_1 a0 l1 l2 l3 k0 hq_2) (cwV 3 hts gX5_set_X5_isPoint rfl rfl rfl (by decide +kernel) ⟨Nat.le_trans (by decide) hM.1, Nat.le_trans (by decide) hM.2⟩) rfl rfl (Nat.le_of_ble_eq_true rfl) dX5_set_9) hS (fun hz_2 H locs hR hS => ?_)
  refine lv_if_ne (tgt := 17) hx hb dX5_set_12 (by decide) (fun hc => ?_) (fun hc => ?_)
  · have h := of_neg hc h
    refine lv_aload_n hx hb dX5_set_17 rfl (lv_at hl 0 rfl) ?_
    refine lv_iload_n hx hb dX5_set_18 rfl (lv_at hl 1 rfl) ?_
    obtain ⟨q_3, hq_3, h⟩ := of_bind h
    refine cl_v (rn_V (As := [.int l1]) (rest := []) X hK hR k0 rfl (by decide) hl.1 (c_X5_changing l cA D Λ hT σ_1 a0 l1 k0 hq_3) (cwV 1 hts gX5_set_X5_changing rfl rfl rfl (by decide +kernel) ⟨Nat.le_trans (by decide) hM.1, Nat.le_trans (by decide) hM.2⟩) rfl rfl (Nat.le_of_ble_eq_true rfl) dX5_set_19) hS (fun H locs hR hS => ?_)
    refine lv_aload_n hx hb dX5_set_22 rfl (lv_at hl 0 rfl) ?_
    refine lv_iload_n hx hb dX5_set_23 rfl (lv_at hl 1 rfl) ?_
    refine lv_iload_n hx hb dX5_set_24 rfl (lv_at hl 2 rfl) ?_
    refine lv_iload_n hx hb dX5_set_25 rfl (lv_at hl 3 rfl) ?_
    refine lv_iload hx hb dX5_set_26 (lv_at hl 4 rfl) ?_
    obtain ⟨q_4, hq_4, h⟩ := of_bind h
    refine cl_v (rn_V (As := [.int l1, .int l2, .int l3, .int l4]) (rest := []) X hK hR k0 rfl (by decide) hl.1 (c_X5_inks l cA D Λ hT q_3 a0 l1 l2 l3 l4 k0 hq_4) (cwV 4 hts gX5_set_X5_inks rfl rfl rfl (by decide +kernel) ⟨Nat.le_trans (by decide) hM.1, Nat.le_trans (by decide) hM.2⟩) rfl rfl (Nat.le_of_ble_eq_true rfl) dX5_set_28) hS (fun H locs hR hS => ?_)
    refine lv_iconst (v := (1 : Int32)) hx hb dX5_set_31 (by decide) ?_
    exact rt_z X hR hS (Option.some.inj h) (Or.inr rfl) dX5_set_32
  · have h := of_pos hc h
    refine lv_iconst (v := (0 : Int32)) hx hb dX5_set_15 (by decide) ?_
    exact rt_z X hR hS (Option.some.inj h) (Or.inl rfl) dX5_set_16

set_option maxHeartbeats 4000000 in
set_option maxRecDepth 100000 in
theorem c_X5_set (l : Launch) (cA : Nat → ClassId) (D : va_G) (Λ : Lay) (hT : TL Λ) (σ : Sto) (a0 : Nat) (l1 : Int32) (l2 : Int32) (l3 : Int32) (l4 : Int32) (k0 : isK Λ a0 6) {res : Int32 × Sto} (h : F_X5_set Λ σ a0 l1 l2 l3 l4 = some res) : Met l yX5_set wsX5_set { frames := 3, cells := 0, slots := 0, locals := 69 } (va_Pc [.ref a0, .int l1, .int l2, .int l3, .int l4] (PW cA D Λ σ)) (QZ cA D Λ res) 0 0 (dm Λ) := by
  refine Met.ofW (cc := cX5_set) (maxL := 5) (ret := (some .boolean)) (by decide) rfl ?_
  intro p e s m args below meth c s₁ B hml hv
  obtain ⟨rfl, hR, hK⟩ := hv
  have X : Cx cX5_set (some .boolean) 5 RX5 wsX5_set p s m _ meth c := ⟨B.exec, B.bytes, B.returns, hml, findClass_of_methodNamed B.named, atoms_spec (ws := wsX5_set) B.pre, B.notSynchronized⟩
  have hS : va_S (dm Λ) s.heap s.heap [] := va_S.rf
  have hl := lv_entry ([.ref a0, .int l1, .int l2, .int l3, .int l4]) (n := 5) (Nat.le_of_ble_eq_true rfl)
  rw [lg_entry_eq]
  generalize (lg_sl ([.ref a0, .int l1, .int l2, .int l3, .int l4]) ++ List.replicate (5 - (lg_sl ([.ref a0, .int l1, .int l2, .int l3, .int l4])).length) Slot.unset).toArray = ls at hl ⊢
  have hl : lv_has ls 5 [(0, .ref a0), (1, .int l1), (2, .int l2), (3, .int l3), (4, .int l4)] := hl
  exact w_X5_set X hK hT ⟨Nat.le_refl _, Nat.le_refl _⟩ a0 l1 l2 l3 l4 k0 h s.heap [] ls hR hS hl
theorem in_X5_rowInk_6 : ∀ w ∈ u_ws RX5 TX5 24, w ∈ wsX5_rowInk := by decide +kernel
set_option maxHeartbeats 4000000 in
set_option maxRecDepth 100000 in
theorem w_jp_X5_rowInk_33 (X : Cx cX5_rowInk (some .int) 5 RX5 wsX5_rowInk p s m args meth c) (hK : Kn cA D s) (hT : TL Λ) (hM : 1 ≤ R.frames ∧ 23 ≤ R.locals) (a0 : Nat) (l1 : Int32) (l2 : Int32) (l4 : Int32) (ls0 : Int32) (ls1 : Int32) (k0 : isK Λ a0 6) {r : (Int32 × Int32) ⊕ Int32} (h : jp_X5_rowInk_33 Λ σ a0 l1 l2 l4 ls0 ls1 = some r) (kb : ∀ z : (Int32 × Int32), r = .inl z → ∀ (H : Heap) (locs : List Loc) (ls : Array Slot), Rep cA D Λ σ H → va_S (dm Λ) s.heap H locs → lv_has ls 5 [(0, .ref a0), (1, .int l1), (2, .int l2), (3, .int z.1), (4, .int z.2)] → W p l e R s m args below meth c H locs 0 0 Q (F0 m 5 ls [])) (kx0 : ∀ z : Int32, r = .inr z → ∀ (H : Heap) (locs : List Loc) (ls : Array Slot), Rep cA D Λ σ H → va_S (dm Λ) s.heap H locs → lv_has ls 5 [(3, .int z)] → W p l e R s m args below meth c H locs 0 0 Q (F0 m 41 ls [])) (H : Heap) (locs : List Loc) (ls : Array Slot) (hR : Rep cA D Λ σ H) (hS : va_S (dm Λ) s.heap H locs) (hl : lv_has ls 5 [(0, .ref a0), (1, .int l1), (2, .int l2), (4, .int l4)]) : W p l e R s m args below meth c H locs 0 0 Q (F0 m 33 ls [.int ls0, .int ls1]) := by
  have hx := X.1
  have hb := X.2.1
  have hown := X.2.2.2.2.1
  have hts := X.2.2.2.2.2.1
  unfold jp_X5_rowInk_33 at h
  refine lv_iadd hx hb dX5_rowInk_33 ?_
  refine lv_topi (fun v_4 e_v_4 => ?_)
  have h := of_nm e_v_4 h
  refine lv_istore_n (lv' := [(3, .int v_4), (0, .ref a0), (1, .int l1), (2, .int l2), (4, .int l4)]) hx hb dX5_rowInk_34 rfl hl (by decide) rfl (fun ls hl => ?_)
  obtain ⟨v_5, e_v_5⟩ : ∃ y : Int32, y = (l4 + (1 : Int32)) := ⟨_, rfl⟩
  have h := of_nm e_v_5 h
  refine lv_iinc (v := v_5) (lv' := [(4, .int v_5), (3, .int v_4), (0, .ref a0), (1, .int l1), (2, .int l2)]) hx hb dX5_rowInk_35 hl (k := 4) rfl (by rw [e_v_5]; rfl) (by decide) rfl (fun ls hl => ?_)
  refine lv_goto (tgt := 5) hx hb dX5_rowInk_38 (by decide) ?_
  exact kb (v_4, v_5) (Option.some.inj h).symm H locs ls hR hS (lv_sub hl [2, 3, 4, 1, 0] rfl)

set_option maxHeartbeats 4000000 in
set_option maxRecDepth 100000 in
theorem w_bd_X5_rowInk_5 (X : Cx cX5_rowInk (some .int) 5 RX5 wsX5_rowInk p s m args meth c) (hK : Kn cA D s) (hT : TL Λ) (hM : 1 ≤ R.frames ∧ 23 ≤ R.locals) (a0 : Nat) (l1 : Int32) (l2 : Int32) (s9 : (Int32 × Int32)) (k0 : isK Λ a0 6) {r : (Int32 × Int32) ⊕ Int32} (h : bd_X5_rowInk_5 Λ σ a0 l1 l2 s9 = some r) (kb : ∀ z : (Int32 × Int32), r = .inl z → ∀ (H : Heap) (locs : List Loc) (ls : Array Slot), Rep cA D Λ σ H → va_S (dm Λ) s.heap H locs → lv_has ls 5 [(0, .ref a0), (1, .int l1), (2, .int l2), (3, .int z.1), (4, .int z.2)] → W p l e R s m args below meth c H locs 0 0 Q (F0 m 5 ls [])) (kx0 : ∀ z : Int32, r = .inr z → ∀ (H : Heap) (locs : List Loc) (ls : Array Slot), Rep cA D Λ σ H → va_S (dm Λ) s.heap H locs → lv_has ls 5 [(3, .int z)] → W p l e R s m args below meth c H locs 0 0 Q (F0 m 41 ls [])) (H : Heap) (locs : List Loc) (ls : Array Slot) (hR : Rep cA D Λ σ H) (hS : va_S (dm Λ) s.heap H locs) (hl : lv_has ls 5 [(0, .ref a0), (1, .int l1), (2, .int l2), (3, .int s9.1), (4, .int s9.2)]) : W p l e R s m args below meth c H locs 0 0 Q (F0 m 5 ls []) := by
  have hx := X.1
  have hb := X.2.1
  have hown := X.2.2.2.2.1
  have hts := X.2.2.2.2.2.1
  unfold bd_X5_rowInk_5 at h
  refine lv_iload hx hb dX5_rowInk_5 (lv_at hl 4 rfl) ?_
  refine lv_aload_n hx hb dX5_rowInk_7 rfl (lv_at hl 0 rfl) ?_
  refine rw_getR X hK hT hR 6 2 7 k0 (by decide) (C := RX5) (T := TX5) (N := 24) rfl (by decide) in_X5_rowInk_6 (by decide +kernel) rfl dX5_rowInk_8 (fun kf_1 => ?_)
  refine lv_iload_n hx hb dX5_rowInk_11 rfl (lv_at hl 1 rfl) ?_
  obtain ⟨hg_2, h⟩ := of_guard h
  refine rw_iald X hK hR kf_1 hg_2 dX5_rowInk_12 ?_
  refine lv_icmp_ge (tgt := 41) hx hb dX5_rowInk_13 (by decide) (fun hc => ?_) (fun hc => ?_)
  · have h := of_pos hc h
    exact kx0 s9.1 (Option.some.inj h).symm H locs ls hR hS (lv_sub hl [3] rfl)
  · have h := of_neg hc h
    refine lv_iload_n hx hb dX5_rowInk_16 rfl (lv_at hl 3 rfl) ?_
    refine lv_aload_n hx hb dX5_rowInk_17 rfl (lv_at hl 0 rfl) ?_
    refine lv_iload_n hx hb dX5_rowInk_18 rfl (lv_at hl 1 rfl) ?_
    refine lv_iload hx hb dX5_rowInk_19 (lv_at hl 4 rfl) ?_
    refine lv_iload_n hx hb dX5_rowInk_21 rfl (lv_at hl 2 rfl) ?_
    obtain ⟨q_3, hq_3, h⟩ := of_bind h
    refine cl_z (rn_V (As := [.int l1, .int s9.2, .int l2]) (rest := [.int s9.1]) X hK hR k0 rfl (by decide) hl.1 (c_X5_has l cA D Λ hT σ a0 l1 s9.2 l2 k0 hq_3) (cwV 3 hts gX5_rowInk_X5_has rfl rfl rfl (by decide +kernel) ⟨Nat.le_trans (by decide) hM.1, Nat.le_trans (by decide) hM.2⟩) rfl rfl (Nat.le_of_ble_eq_true rfl) dX5_rowInk_22) hS (fun hz_3 H locs hR hS => ?_)
    refine lv_if_eq (tgt := 32) hx hb dX5_rowInk_25 (by decide) (fun hc => ?_) (fun hc => ?_)
    · have h := of_pos hc h
      refine lv_iconst (v := (0 : Int32)) hx hb dX5_rowInk_32 (by decide) ?_
      exact w_jp_X5_rowInk_33 X hK hT hM a0 l1 l2 s9.2 (0 : Int32) s9.1 k0 h kb kx0 H locs ls hR hS (lv_sub hl [0, 1, 2, 4] rfl)
    · have h := of_neg hc h
      refine lv_iconst (v := (1 : Int32)) hx hb dX5_rowInk_28 (by decide) ?_
      refine lv_goto (tgt := 33) hx hb dX5_rowInk_29 (by decide) ?_
      exact w_jp_X5_rowInk_33 X hK hT hM a0 l1 l2 s9.2 (1 : Int32) s9.1 k0 h kb kx0 H locs ls hR hS (lv_sub hl [0, 1, 2, 4] rfl)

set_option maxHeartbeats 4000000 in
set_option maxRecDepth 100000 in
theorem w_lp_X5_rowInk_5 (X : Cx cX5_rowInk (some .int) 5 RX5 wsX5_rowInk p s m args meth c) (hK : Kn cA D s) (hT : TL Λ) (hM : 1 ≤ R.frames ∧ 23 ≤ R.locals) (a0 : Nat) (l1 : Int32) (l2 : Int32) (k0 : isK Λ a0 6) {e9 : Int32} : ∀ (n9 : Nat) (s9 : (Int32 × Int32)), iter (bd_X5_rowInk_5 Λ σ a0 l1 l2) n9 s9 = some e9 → ∀ (kx0 : ∀ (H : Heap) (locs : List Loc) (ls : Array Slot), Rep cA D Λ σ H → va_S (dm Λ) s.heap H locs → lv_has ls 5 [(3, .int e9)] → W p l e R s m args below meth c H locs 0 0 Q (F0 m 41 ls [])), ∀ (H : Heap) (locs : List Loc) (ls : Array Slot), Rep cA D Λ σ H → va_S (dm Λ) s.heap H locs → lv_has ls 5 [(0, .ref a0), (1, .int l1), (2, .int l2), (3, .int s9.1), (4, .int s9.2)] → W p l e R s m args below meth c H locs 0 0 Q (F0 m 5 ls []) := by
  intro n9
  induction n9 with
  | zero => intro s9 h; cases h
  | succ n9 ih =>
    intro s9 h kx0 H locs ls hR hS hl
    obtain ⟨r, hr, h⟩ := of_iter h
    refine w_bd_X5_rowInk_5 X hK hT hM a0 l1 l2 s9 k0 hr (fun z ez H locs ls hR hS hl => ?_) (fun z ez H locs ls hR hS hl => ?_) H locs ls hR hS hl
    · exact ih z (of_itl ez h) kx0 H locs ls hR hS hl
    · have he := of_itr ez h; subst he; exact kx0 H locs ls hR hS hl

set_option maxHeartbeats 4000000 in
set_option maxRecDepth 100000 in
theorem w_X5_rowInk (X : Cx cX5_rowInk (some .int) 5 RX5 wsX5_rowInk p s m args meth c) (hK : Kn cA D s) (hT : TL Λ) (hM : 1 ≤ R.frames ∧ 23 ≤ R.locals) (a0 : Nat) (l1 : Int32) (l2 : Int32) (k0 : isK Λ a0 6) {res : Int32} (h : F_X5_rowInk Λ σ a0 l1 l2 = some res) (H : Heap) (locs : List Loc) (ls : Array Slot) (hR : Rep cA D Λ σ H) (hS : va_S (dm Λ) s.heap H locs) (hl : lv_has ls 5 [(0, .ref a0), (1, .int l1), (2, .int l2)]) : W p l e R s m args below meth c H locs 0 0 (MQ below (QI cA D Λ (res, σ)) args s 0 0 (dm Λ)) (F0 m 0 ls []) := by
  have hx := X.1
  have hb := X.2.1
  have hown := X.2.2.2.2.1
  have hts := X.2.2.2.2.2.1
  unfold F_X5_rowInk at h
  refine lv_iconst (v := (0 : Int32)) hx hb dX5_rowInk_0 (by decide) ?_
  refine lv_istore_n (lv' := [(3, .int (0 : Int32)), (0, .ref a0), (1, .int l1), (2, .int l2)]) hx hb dX5_rowInk_1 rfl hl (by decide) rfl (fun ls hl => ?_)
  refine lv_iconst (v := (0 : Int32)) hx hb dX5_rowInk_2 (by decide) ?_
  refine lv_istore (lv' := [(4, .int (0 : Int32)), (3, .int (0 : Int32)), (0, .ref a0), (1, .int l1), (2, .int l2)]) hx hb dX5_rowInk_3 hl (by decide) rfl (fun ls hl => ?_)
  obtain ⟨e_6, hq_6, h⟩ := of_bind h
  refine w_lp_X5_rowInk_5 X hK hT hM a0 l1 l2 k0 _ ((0 : Int32), (0 : Int32)) hq_6 (fun H locs ls hR hS hl => ?_) H locs ls hR hS (lv_sub hl [2, 3, 4, 1, 0] rfl)
  refine lv_iload_n hx hb dX5_rowInk_41 rfl (lv_at hl 0 rfl) ?_
  exact rt_i X hR hS (congrArg (fun z => (z, σ)) (Option.some.inj h)) dX5_rowInk_42

set_option maxHeartbeats 4000000 in
set_option maxRecDepth 100000 in
theorem c_X5_rowInk (l : Launch) (cA : Nat → ClassId) (D : va_G) (Λ : Lay) (hT : TL Λ) (σ : Sto) (a0 : Nat) (l1 : Int32) (l2 : Int32) (k0 : isK Λ a0 6) {res : Int32} (h : F_X5_rowInk Λ σ a0 l1 l2 = some res) : Met l yX5_rowInk wsX5_rowInk { frames := 1, cells := 0, slots := 0, locals := 23 } (va_Pc [.ref a0, .int l1, .int l2] (PW cA D Λ σ)) (QI cA D Λ (res, σ)) 0 0 (dm Λ) := by
  refine Met.ofW (cc := cX5_rowInk) (maxL := 5) (ret := (some .int)) (by decide) rfl ?_
  intro p e s m args below meth c s₁ B hml hv
  obtain ⟨rfl, hR, hK⟩ := hv
  have X : Cx cX5_rowInk (some .int) 5 RX5 wsX5_rowInk p s m _ meth c := ⟨B.exec, B.bytes, B.returns, hml, findClass_of_methodNamed B.named, atoms_spec (ws := wsX5_rowInk) B.pre, B.notSynchronized⟩
  have hS : va_S (dm Λ) s.heap s.heap [] := va_S.rf
  have hl := lv_entry ([.ref a0, .int l1, .int l2]) (n := 5) (Nat.le_of_ble_eq_true rfl)
  rw [lg_entry_eq]
  generalize (lg_sl ([.ref a0, .int l1, .int l2]) ++ List.replicate (5 - (lg_sl ([.ref a0, .int l1, .int l2])).length) Slot.unset).toArray = ls at hl ⊢
  have hl : lv_has ls 5 [(0, .ref a0), (1, .int l1), (2, .int l2)] := hl
  exact w_X5_rowInk X hK hT ⟨Nat.le_refl _, Nat.le_refl _⟩ a0 l1 l2 k0 h s.heap [] ls hR hS hl
theorem in_X5_columnInk_6 : ∀ w ∈ u_ws RX5 TX5 24, w ∈ wsX5_columnInk := by decide +kernel
set_option maxHeartbeats 4000000 in
set_option maxRecDepth 100000 in
theorem w_jp_X5_columnInk_33 (X : Cx cX5_columnInk (some .int) 5 RX5 wsX5_columnInk p s m args meth c) (hK : Kn cA D s) (hT : TL Λ) (hM : 1 ≤ R.frames ∧ 23 ≤ R.locals) (a0 : Nat) (l1 : Int32) (l2 : Int32) (l4 : Int32) (ls0 : Int32) (ls1 : Int32) (k0 : isK Λ a0 6) {r : (Int32 × Int32) ⊕ Int32} (h : jp_X5_columnInk_33 Λ σ a0 l1 l2 l4 ls0 ls1 = some r) (kb : ∀ z : (Int32 × Int32), r = .inl z → ∀ (H : Heap) (locs : List Loc) (ls : Array Slot), Rep cA D Λ σ H → va_S (dm Λ) s.heap H locs → lv_has ls 5 [(0, .ref a0), (1, .int l1), (2, .int l2), (3, .int z.1), (4, .int z.2)] → W p l e R s m args below meth c H locs 0 0 Q (F0 m 5 ls [])) (kx0 : ∀ z : Int32, r = .inr z → ∀ (H : Heap) (locs : List Loc) (ls : Array Slot), Rep cA D Λ σ H → va_S (dm Λ) s.heap H locs → lv_has ls 5 [(3, .int z)] → W p l e R s m args below meth c H locs 0 0 Q (F0 m 41 ls [])) (H : Heap) (locs : List Loc) (ls : Array Slot) (hR : Rep cA D Λ σ H) (hS : va_S (dm Λ) s.heap H locs) (hl : lv_has ls 5 [(0, .ref a0), (1, .int l1), (2, .int l2), (4, .int l4)]) : W p l e R s m args below meth c H locs 0 0 Q (F0 m 33 ls [.int ls0, .int ls1]) := by
  have hx := X.1
  have hb := X.2.1
  have hown := X.2.2.2.2.1
  have hts := X.2.2.2.2.2.1
  unfold jp_X5_columnInk_33 at h
  refine lv_iadd hx hb dX5_columnInk_33 ?_
  refine lv_topi (fun v_4 e_v_4 => ?_)
  have h := of_nm e_v_4 h
  refine lv_istore_n (lv' := [(3, .int v_4), (0, .ref a0), (1, .int l1), (2, .int l2), (4, .int l4)]) hx hb dX5_columnInk_34 rfl hl (by decide) rfl (fun ls hl => ?_)
  obtain ⟨v_5, e_v_5⟩ : ∃ y : Int32, y = (l4 + (1 : Int32)) := ⟨_, rfl⟩
  have h := of_nm e_v_5 h
  refine lv_iinc (v := v_5) (lv' := [(4, .int v_5), (3, .int v_4), (0, .ref a0), (1, .int l1), (2, .int l2)]) hx hb dX5_columnInk_35 hl (k := 4) rfl (by rw [e_v_5]; rfl) (by decide) rfl (fun ls hl => ?_)
  refine lv_goto (tgt := 5) hx hb dX5_columnInk_38 (by decide) ?_
  exact kb (v_4, v_5) (Option.some.inj h).symm H locs ls hR hS (lv_sub hl [2, 3, 4, 1, 0] rfl)

set_option maxHeartbeats 4000000 in
set_option maxRecDepth 100000 in
theorem w_bd_X5_columnInk_5 (X : Cx cX5_columnInk (some .int) 5 RX5 wsX5_columnInk p s m args meth c) (hK : Kn cA D s) (hT : TL Λ) (hM : 1 ≤ R.frames ∧ 23 ≤ R.locals) (a0 : Nat) (l1 : Int32) (l2 : Int32) (s9 : (Int32 × Int32)) (k0 : isK Λ a0 6) {r : (Int32 × Int32) ⊕ Int32} (h : bd_X5_columnInk_5 Λ σ a0 l1 l2 s9 = some r) (kb : ∀ z : (Int32 × Int32), r = .inl z → ∀ (H : Heap) (locs : List Loc) (ls : Array Slot), Rep cA D Λ σ H → va_S (dm Λ) s.heap H locs → lv_has ls 5 [(0, .ref a0), (1, .int l1), (2, .int l2), (3, .int z.1), (4, .int z.2)] → W p l e R s m args below meth c H locs 0 0 Q (F0 m 5 ls [])) (kx0 : ∀ z : Int32, r = .inr z → ∀ (H : Heap) (locs : List Loc) (ls : Array Slot), Rep cA D Λ σ H → va_S (dm Λ) s.heap H locs → lv_has ls 5 [(3, .int z)] → W p l e R s m args below meth c H locs 0 0 Q (F0 m 41 ls [])) (H : Heap) (locs : List Loc) (ls : Array Slot) (hR : Rep cA D Λ σ H) (hS : va_S (dm Λ) s.heap H locs) (hl : lv_has ls 5 [(0, .ref a0), (1, .int l1), (2, .int l2), (3, .int s9.1), (4, .int s9.2)]) : W p l e R s m args below meth c H locs 0 0 Q (F0 m 5 ls []) := by
  have hx := X.1
  have hb := X.2.1
  have hown := X.2.2.2.2.1
  have hts := X.2.2.2.2.2.1
  unfold bd_X5_columnInk_5 at h
  refine lv_iload hx hb dX5_columnInk_5 (lv_at hl 4 rfl) ?_
  refine lv_aload_n hx hb dX5_columnInk_7 rfl (lv_at hl 0 rfl) ?_
  refine rw_getR X hK hT hR 6 3 7 k0 (by decide) (C := RX5) (T := TX5) (N := 24) rfl (by decide) in_X5_columnInk_6 (by decide +kernel) rfl dX5_columnInk_8 (fun kf_1 => ?_)
  refine lv_iload_n hx hb dX5_columnInk_11 rfl (lv_at hl 1 rfl) ?_
  obtain ⟨hg_2, h⟩ := of_guard h
  refine rw_iald X hK hR kf_1 hg_2 dX5_columnInk_12 ?_
  refine lv_icmp_ge (tgt := 41) hx hb dX5_columnInk_13 (by decide) (fun hc => ?_) (fun hc => ?_)
  · have h := of_pos hc h
    exact kx0 s9.1 (Option.some.inj h).symm H locs ls hR hS (lv_sub hl [3] rfl)
  · have h := of_neg hc h
    refine lv_iload_n hx hb dX5_columnInk_16 rfl (lv_at hl 3 rfl) ?_
    refine lv_aload_n hx hb dX5_columnInk_17 rfl (lv_at hl 0 rfl) ?_
    refine lv_iload_n hx hb dX5_columnInk_18 rfl (lv_at hl 1 rfl) ?_
    refine lv_iload_n hx hb dX5_columnInk_19 rfl (lv_at hl 2 rfl) ?_
    refine lv_iload hx hb dX5_columnInk_20 (lv_at hl 4 rfl) ?_
    obtain ⟨q_3, hq_3, h⟩ := of_bind h
    refine cl_z (rn_V (As := [.int l1, .int l2, .int s9.2]) (rest := [.int s9.1]) X hK hR k0 rfl (by decide) hl.1 (c_X5_has l cA D Λ hT σ a0 l1 l2 s9.2 k0 hq_3) (cwV 3 hts gX5_columnInk_X5_has rfl rfl rfl (by decide +kernel) ⟨Nat.le_trans (by decide) hM.1, Nat.le_trans (by decide) hM.2⟩) rfl rfl (Nat.le_of_ble_eq_true rfl) dX5_columnInk_22) hS (fun hz_3 H locs hR hS => ?_)
    refine lv_if_eq (tgt := 32) hx hb dX5_columnInk_25 (by decide) (fun hc => ?_) (fun hc => ?_)
    · have h := of_pos hc h
      refine lv_iconst (v := (0 : Int32)) hx hb dX5_columnInk_32 (by decide) ?_
      exact w_jp_X5_columnInk_33 X hK hT hM a0 l1 l2 s9.2 (0 : Int32) s9.1 k0 h kb kx0 H locs ls hR hS (lv_sub hl [0, 1, 2, 4] rfl)
    · have h := of_neg hc h
      refine lv_iconst (v := (1 : Int32)) hx hb dX5_columnInk_28 (by decide) ?_
      refine lv_goto (tgt := 33) hx hb dX5_columnInk_29 (by decide) ?_
      exact w_jp_X5_columnInk_33 X hK hT hM a0 l1 l2 s9.2 (1 : Int32) s9.1 k0 h kb kx0 H locs ls hR hS (lv_sub hl [0, 1, 2, 4] rfl)

set_option maxHeartbeats 4000000 in
set_option maxRecDepth 100000 in
theorem w_lp_X5_columnInk_5 (X : Cx cX5_columnInk (some .int) 5 RX5 wsX5_columnInk p s m args meth c) (hK : Kn cA D s) (hT : TL Λ) (hM : 1 ≤ R.frames ∧ 23 ≤ R.locals) (a0 : Nat) (l1 : Int32) (l2 : Int32) (k0 : isK Λ a0 6) {e9 : Int32} : ∀ (n9 : Nat) (s9 : (Int32 × Int32)), iter (bd_X5_columnInk_5 Λ σ a0 l1 l2) n9 s9 = some e9 → ∀ (kx0 : ∀ (H : Heap) (locs : List Loc) (ls : Array Slot), Rep cA D Λ σ H → va_S (dm Λ) s.heap H locs → lv_has ls 5 [(3, .int e9)] → W p l e R s m args below meth c H locs 0 0 Q (F0 m 41 ls [])), ∀ (H : Heap) (locs : List Loc) (ls : Array Slot), Rep cA D Λ σ H → va_S (dm Λ) s.heap H locs → lv_has ls 5 [(0, .ref a0), (1, .int l1), (2, .int l2), (3, .int s9.1), (4, .int s9.2)] → W p l e R s m args below meth c H locs 0 0 Q (F0 m 5 ls []) := by
  intro n9
  induction n9 with
  | zero => intro s9 h; cases h
  | succ n9 ih =>
    intro s9 h kx0 H locs ls hR hS hl
    obtain ⟨r, hr, h⟩ := of_iter h
    refine w_bd_X5_columnInk_5 X hK hT hM a0 l1 l2 s9 k0 hr (fun z ez H locs ls hR hS hl => ?_) (fun z ez H locs ls hR hS hl => ?_) H locs ls hR hS hl
    · exact ih z (of_itl ez h) kx0 H locs ls hR hS hl
    · have he := of_itr ez h; subst he; exact kx0 H locs ls hR hS hl

set_option maxHeartbeats 4000000 in
set_option maxRecDepth 100000 in
theorem w_X5_columnInk (X : Cx cX5_columnInk (some .int) 5 RX5 wsX5_columnInk p s m args meth c) (hK : Kn cA D s) (hT : TL Λ) (hM : 1 ≤ R.frames ∧ 23 ≤ R.locals) (a0 : Nat) (l1 : Int32) (l2 : Int32) (k0 : isK Λ a0 6) {res : Int32} (h : F_X5_columnInk Λ σ a0 l1 l2 = some res) (H : Heap) (locs : List Loc) (ls : Array Slot) (hR : Rep cA D Λ σ H) (hS : va_S (dm Λ) s.heap H locs) (hl : lv_has ls 5 [(0, .ref a0), (1, .int l1), (2, .int l2)]) : W p l e R s m args below meth c H locs 0 0 (MQ below (QI cA D Λ (res, σ)) args s 0 0 (dm Λ)) (F0 m 0 ls []) := by
  have hx := X.1
  have hb := X.2.1
  have hown := X.2.2.2.2.1
  have hts := X.2.2.2.2.2.1
  unfold F_X5_columnInk at h
  refine lv_iconst (v := (0 : Int32)) hx hb dX5_columnInk_0 (by decide) ?_
  refine lv_istore_n (lv' := [(3, .int (0 : Int32)), (0, .ref a0), (1, .int l1), (2, .int l2)]) hx hb dX5_columnInk_1 rfl hl (by decide) rfl (fun ls hl => ?_)
  refine lv_iconst (v := (0 : Int32)) hx hb dX5_columnInk_2 (by decide) ?_
  refine lv_istore (lv' := [(4, .int (0 : Int32)), (3, .int (0 : Int32)), (0, .ref a0), (1, .int l1), (2, .int l2)]) hx hb dX5_columnInk_3 hl (by decide) rfl (fun ls hl => ?_)
  obtain ⟨e_6, hq_6, h⟩ := of_bind h
  refine w_lp_X5_columnInk_5 X hK hT hM a0 l1 l2 k0 _ ((0 : Int32), (0 : Int32)) hq_6 (fun H locs ls hR hS hl => ?_) H locs ls hR hS (lv_sub hl [2, 3, 4, 1, 0] rfl)
  refine lv_iload_n hx hb dX5_columnInk_41 rfl (lv_at hl 0 rfl) ?_
  exact rt_i X hR hS (congrArg (fun z => (z, σ)) (Option.some.inj h)) dX5_columnInk_42

set_option maxHeartbeats 4000000 in
set_option maxRecDepth 100000 in
theorem c_X5_columnInk (l : Launch) (cA : Nat → ClassId) (D : va_G) (Λ : Lay) (hT : TL Λ) (σ : Sto) (a0 : Nat) (l1 : Int32) (l2 : Int32) (k0 : isK Λ a0 6) {res : Int32} (h : F_X5_columnInk Λ σ a0 l1 l2 = some res) : Met l yX5_columnInk wsX5_columnInk { frames := 1, cells := 0, slots := 0, locals := 23 } (va_Pc [.ref a0, .int l1, .int l2] (PW cA D Λ σ)) (QI cA D Λ (res, σ)) 0 0 (dm Λ) := by
  refine Met.ofW (cc := cX5_columnInk) (maxL := 5) (ret := (some .int)) (by decide) rfl ?_
  intro p e s m args below meth c s₁ B hml hv
  obtain ⟨rfl, hR, hK⟩ := hv
  have X : Cx cX5_columnInk (some .int) 5 RX5 wsX5_columnInk p s m _ meth c := ⟨B.exec, B.bytes, B.returns, hml, findClass_of_methodNamed B.named, atoms_spec (ws := wsX5_columnInk) B.pre, B.notSynchronized⟩
  have hS : va_S (dm Λ) s.heap s.heap [] := va_S.rf
  have hl := lv_entry ([.ref a0, .int l1, .int l2]) (n := 5) (Nat.le_of_ble_eq_true rfl)
  rw [lg_entry_eq]
  generalize (lg_sl ([.ref a0, .int l1, .int l2]) ++ List.replicate (5 - (lg_sl ([.ref a0, .int l1, .int l2])).length) Slot.unset).toArray = ls at hl ⊢
  have hl : lv_has ls 5 [(0, .ref a0), (1, .int l1), (2, .int l2)] := hl
  exact w_X5_columnInk X hK hT ⟨Nat.le_refl _, Nat.le_refl _⟩ a0 l1 l2 k0 h s.heap [] ls hR hS hl
theorem in_X5_lays_6 : ∀ w ∈ u_ws RX5 TX5 24, w ∈ wsX5_lays := by decide +kernel
set_option maxHeartbeats 4000000 in
set_option maxRecDepth 100000 in
theorem w_jp_X5_lays_35 (X : Cx cX5_lays none 6 RX5 wsX5_lays p s m args meth c) (hK : Kn cA D s) (hT : TL Λ) (hM : 1 ≤ R.frames ∧ 24 ≤ R.locals) (a0 : Nat) (l1 : Int32) (l2 : Int32) (l3 : Int64) (l5 : Int32) (ls0 : Int32) (ls1 : Int32) (ls2 : Int32) (ls3 : Int32) (as4 : Nat) (k0 : isK Λ a0 6) (ks4 : isK Λ as4 6) {r : (Int32 × Sto) ⊕ Sto} (h : jp_X5_lays_35 Λ σ a0 l1 l2 l3 l5 ls0 ls1 ls2 ls3 as4 = some r) (kb : ∀ z : (Int32 × Sto), r = .inl z → ∀ (H : Heap) (locs : List Loc) (ls : Array Slot), Rep cA D Λ z.2 H → va_S (dm Λ) s.heap H locs → lv_has ls 6 [(0, .ref a0), (1, .int l1), (2, .int l2), (3, .long l3), (5, .int z.1)] → W p l e R s m args below meth c H locs 0 0 Q (F0 m 3 ls [])) (kx0 : ∀ z : Sto, r = .inr z → ∀ (H : Heap) (locs : List Loc) (ls : Array Slot), Rep cA D Λ z H → va_S (dm Λ) s.heap H locs → lv_has ls 6 [] → W p l e R s m args below meth c H locs 0 0 Q (F0 m 44 ls [])) (H : Heap) (locs : List Loc) (ls : Array Slot) (hR : Rep cA D Λ σ H) (hS : va_S (dm Λ) s.heap H locs) (hl : lv_has ls 6 [(0, .ref a0), (1, .int l1), (2, .int l2), (3, .long l3), (5, .int l5)]) : W p l e R s m args below meth c H locs 0 0 Q (F0 m 35 ls [.int ls0, .int ls1, .int ls2, .int ls3, .ref as4]) := by
  have hx := X.1
  have hb := X.2.1
  have hown := X.2.2.2.2.1
  have hts := X.2.2.2.2.2.1
  unfold jp_X5_lays_35 at h
  obtain ⟨q_3, hq_3, h⟩ := of_bind h
  refine cl_v (rn_V (As := [.int ls3, .int ls2, .int ls1, .int ls0]) (rest := []) X hK hR ks4 rfl (by decide) hl.1 (c_X5_inks l cA D Λ hT σ as4 ls3 ls2 ls1 ls0 ks4 hq_3) (cwV 4 hts gX5_lays_X5_inks rfl rfl rfl (by decide +kernel) ⟨Nat.le_trans (by decide) hM.1, Nat.le_trans (by decide) hM.2⟩) rfl rfl (Nat.le_of_ble_eq_true rfl) dX5_lays_35) hS (fun H locs hR hS => ?_)
  obtain ⟨v_4, e_v_4⟩ : ∃ y : Int32, y = (l5 + (1 : Int32)) := ⟨_, rfl⟩
  have h := of_nm e_v_4 h
  refine lv_iinc (v := v_4) (lv' := [(5, .int v_4), (0, .ref a0), (1, .int l1), (2, .int l2), (3, .long l3)]) hx hb dX5_lays_38 hl (k := 4) rfl (by rw [e_v_4]; rfl) (by decide) rfl (fun ls hl => ?_)
  refine lv_goto (tgt := 3) hx hb dX5_lays_41 (by decide) ?_
  exact kb (v_4, q_3) (Option.some.inj h).symm H locs ls hR hS (lv_sub hl [1, 2, 3, 4, 0] rfl)

set_option maxHeartbeats 4000000 in
set_option maxRecDepth 100000 in
theorem w_bd_X5_lays_3 (X : Cx cX5_lays none 6 RX5 wsX5_lays p s m args meth c) (hK : Kn cA D s) (hT : TL Λ) (hM : 1 ≤ R.frames ∧ 24 ≤ R.locals) (a0 : Nat) (l1 : Int32) (l2 : Int32) (l3 : Int64) (s9 : (Int32 × Sto)) (k0 : isK Λ a0 6) {r : (Int32 × Sto) ⊕ Sto} (h : bd_X5_lays_3 Λ a0 l1 l2 l3 s9 = some r) (kb : ∀ z : (Int32 × Sto), r = .inl z → ∀ (H : Heap) (locs : List Loc) (ls : Array Slot), Rep cA D Λ z.2 H → va_S (dm Λ) s.heap H locs → lv_has ls 6 [(0, .ref a0), (1, .int l1), (2, .int l2), (3, .long l3), (5, .int z.1)] → W p l e R s m args below meth c H locs 0 0 Q (F0 m 3 ls [])) (kx0 : ∀ z : Sto, r = .inr z → ∀ (H : Heap) (locs : List Loc) (ls : Array Slot), Rep cA D Λ z H → va_S (dm Λ) s.heap H locs → lv_has ls 6 [] → W p l e R s m args below meth c H locs 0 0 Q (F0 m 44 ls [])) (H : Heap) (locs : List Loc) (ls : Array Slot) (hR : Rep cA D Λ s9.2 H) (hS : va_S (dm Λ) s.heap H locs) (hl : lv_has ls 6 [(0, .ref a0), (1, .int l1), (2, .int l2), (3, .long l3), (5, .int s9.1)]) : W p l e R s m args below meth c H locs 0 0 Q (F0 m 3 ls []) := by
  have hx := X.1
  have hb := X.2.1
  have hown := X.2.2.2.2.1
  have hts := X.2.2.2.2.2.1
  unfold bd_X5_lays_3 at h
  refine lv_iload hx hb dX5_lays_3 (lv_at hl 4 rfl) ?_
  refine lv_aload_n hx hb dX5_lays_5 rfl (lv_at hl 0 rfl) ?_
  refine rw_getR X hK hT hR 6 2 7 k0 (by decide) (C := RX5) (T := TX5) (N := 24) rfl (by decide) in_X5_lays_6 (by decide +kernel) rfl dX5_lays_6 (fun kf_1 => ?_)
  refine lv_iload_n hx hb dX5_lays_9 rfl (lv_at hl 1 rfl) ?_
  obtain ⟨hg_2, h⟩ := of_guard h
  refine rw_iald X hK hR kf_1 hg_2 dX5_lays_10 ?_
  refine lv_icmp_ge (tgt := 44) hx hb dX5_lays_11 (by decide) (fun hc => ?_) (fun hc => ?_)
  · have h := of_pos hc h
    exact kx0 s9.2 (Option.some.inj h).symm H locs ls hR hS (lv_sub hl [] rfl)
  · have h := of_neg hc h
    refine lv_aload_n hx hb dX5_lays_14 rfl (lv_at hl 0 rfl) ?_
    refine lv_iload_n hx hb dX5_lays_15 rfl (lv_at hl 1 rfl) ?_
    refine lv_iload hx hb dX5_lays_16 (lv_at hl 4 rfl) ?_
    refine lv_iload_n hx hb dX5_lays_18 rfl (lv_at hl 2 rfl) ?_
    refine lv_lload_n hx hb dX5_lays_19 rfl (lv_at hl 3 rfl) ?_
    refine lv_iload hx hb dX5_lays_20 (lv_at hl 4 rfl) ?_
    refine lv_lshr (v := (shrL l3 s9.1)) hx hb dX5_lays_22 rfl ?_
    refine lv_lconst (v := (1 : Int64)) hx hb dX5_lays_23 (by decide) ?_
    refine lv_land hx hb dX5_lays_24 ?_
    refine lv_lconst (v := (1 : Int64)) hx hb dX5_lays_25 (by decide) ?_
    refine W.lcmp hx hb dX5_lays_26 ?_
    refine lv_if_ne (tgt := 34) hx hb dX5_lays_27 (by decide) (fun hc => ?_) (fun hc => ?_)
    · have h := of_neg hc h
      refine lv_iconst (v := (0 : Int32)) hx hb dX5_lays_34 (by decide) ?_
      exact w_jp_X5_lays_35 X hK hT hM a0 l1 l2 l3 s9.1 (0 : Int32) l2 s9.1 l1 a0 k0 k0 h kb kx0 H locs ls hR hS (lv_sub hl [0, 1, 2, 3, 4] rfl)
    · have h := of_pos hc h
      refine lv_iconst (v := (1 : Int32)) hx hb dX5_lays_30 (by decide) ?_
      refine lv_goto (tgt := 35) hx hb dX5_lays_31 (by decide) ?_
      exact w_jp_X5_lays_35 X hK hT hM a0 l1 l2 l3 s9.1 (1 : Int32) l2 s9.1 l1 a0 k0 k0 h kb kx0 H locs ls hR hS (lv_sub hl [0, 1, 2, 3, 4] rfl)

set_option maxHeartbeats 4000000 in
set_option maxRecDepth 100000 in
theorem w_lp_X5_lays_3 (X : Cx cX5_lays none 6 RX5 wsX5_lays p s m args meth c) (hK : Kn cA D s) (hT : TL Λ) (hM : 1 ≤ R.frames ∧ 24 ≤ R.locals) (a0 : Nat) (l1 : Int32) (l2 : Int32) (l3 : Int64) (k0 : isK Λ a0 6) {e9 : Sto} : ∀ (n9 : Nat) (s9 : (Int32 × Sto)), iter (bd_X5_lays_3 Λ a0 l1 l2 l3) n9 s9 = some e9 → ∀ (kx0 : ∀ (H : Heap) (locs : List Loc) (ls : Array Slot), Rep cA D Λ e9 H → va_S (dm Λ) s.heap H locs → lv_has ls 6 [] → W p l e R s m args below meth c H locs 0 0 Q (F0 m 44 ls [])), ∀ (H : Heap) (locs : List Loc) (ls : Array Slot), Rep cA D Λ s9.2 H → va_S (dm Λ) s.heap H locs → lv_has ls 6 [(0, .ref a0), (1, .int l1), (2, .int l2), (3, .long l3), (5, .int s9.1)] → W p l e R s m args below meth c H locs 0 0 Q (F0 m 3 ls []) := by
  intro n9
  induction n9 with
  | zero => intro s9 h; cases h
  | succ n9 ih =>
    intro s9 h kx0 H locs ls hR hS hl
    obtain ⟨r, hr, h⟩ := of_iter h
    refine w_bd_X5_lays_3 X hK hT hM a0 l1 l2 l3 s9 k0 hr (fun z ez H locs ls hR hS hl => ?_) (fun z ez H locs ls hR hS hl => ?_) H locs ls hR hS hl
    · exact ih z (of_itl ez h) kx0 H locs ls hR hS hl
    · have he := of_itr ez h; subst he; exact kx0 H locs ls hR hS hl

set_option maxHeartbeats 4000000 in
set_option maxRecDepth 100000 in
theorem w_X5_lays (X : Cx cX5_lays none 6 RX5 wsX5_lays p s m args meth c) (hK : Kn cA D s) (hT : TL Λ) (hM : 1 ≤ R.frames ∧ 24 ≤ R.locals) (a0 : Nat) (l1 : Int32) (l2 : Int32) (l3 : Int64) (k0 : isK Λ a0 6) {res : Sto} (h : F_X5_lays Λ σ a0 l1 l2 l3 = some res) (H : Heap) (locs : List Loc) (ls : Array Slot) (hR : Rep cA D Λ σ H) (hS : va_S (dm Λ) s.heap H locs) (hl : lv_has ls 6 [(0, .ref a0), (1, .int l1), (2, .int l2), (3, .long l3)]) : W p l e R s m args below meth c H locs 0 0 (MQ below (QV cA D Λ res) args s 0 0 (dm Λ)) (F0 m 0 ls []) := by
  have hx := X.1
  have hb := X.2.1
  have hown := X.2.2.2.2.1
  have hts := X.2.2.2.2.2.1
  unfold F_X5_lays at h
  refine lv_iconst (v := (0 : Int32)) hx hb dX5_lays_0 (by decide) ?_
  refine lv_istore (lv' := [(5, .int (0 : Int32)), (0, .ref a0), (1, .int l1), (2, .int l2), (3, .long l3)]) hx hb dX5_lays_1 hl (by decide) rfl (fun ls hl => ?_)
  obtain ⟨e_5, hq_5, h⟩ := of_bind h
  refine w_lp_X5_lays_3 X hK hT hM a0 l1 l2 l3 k0 _ ((0 : Int32), σ) hq_5 (fun H locs ls hR hS hl => ?_) H locs ls hR hS (lv_sub hl [1, 2, 3, 4, 0] rfl)
  exact rt_v X hR hS (Option.some.inj h) dX5_lays_44

set_option maxHeartbeats 4000000 in
set_option maxRecDepth 100000 in
theorem c_X5_lays (l : Launch) (cA : Nat → ClassId) (D : va_G) (Λ : Lay) (hT : TL Λ) (σ : Sto) (a0 : Nat) (l1 : Int32) (l2 : Int32) (l3 : Int64) (k0 : isK Λ a0 6) {res : Sto} (h : F_X5_lays Λ σ a0 l1 l2 l3 = some res) : Met l yX5_lays wsX5_lays { frames := 1, cells := 0, slots := 0, locals := 24 } (va_Pc [.ref a0, .int l1, .int l2, .long l3] (PW cA D Λ σ)) (QV cA D Λ res) 0 0 (dm Λ) := by
  refine Met.ofW (cc := cX5_lays) (maxL := 6) (ret := none) (by decide) rfl ?_
  intro p e s m args below meth c s₁ B hml hv
  obtain ⟨rfl, hR, hK⟩ := hv
  have X : Cx cX5_lays none 6 RX5 wsX5_lays p s m _ meth c := ⟨B.exec, B.bytes, B.returns, hml, findClass_of_methodNamed B.named, atoms_spec (ws := wsX5_lays) B.pre, B.notSynchronized⟩
  have hS : va_S (dm Λ) s.heap s.heap [] := va_S.rf
  have hl := lv_entry ([.ref a0, .int l1, .int l2, .long l3]) (n := 6) (Nat.le_of_ble_eq_true rfl)
  rw [lg_entry_eq]
  generalize (lg_sl ([.ref a0, .int l1, .int l2, .long l3]) ++ List.replicate (6 - (lg_sl ([.ref a0, .int l1, .int l2, .long l3])).length) Slot.unset).toArray = ls at hl ⊢
  have hl : lv_has ls 6 [(0, .ref a0), (1, .int l1), (2, .int l2), (3, .long l3)] := hl
  exact w_X5_lays X hK hT ⟨Nat.le_refl _, Nat.le_refl _⟩ a0 l1 l2 l3 k0 h s.heap [] ls hR hS hl
theorem in_X5_line_6 : ∀ w ∈ u_ws RX5 TX5 24, w ∈ wsX5_line := by decide +kernel
set_option maxHeartbeats 4000000 in
set_option maxRecDepth 100000 in
theorem w_X5_line (X : Cx cX5_line (some .int) 5 RX5 wsX5_line p s m args meth c) (hK : Kn cA D s) (hT : TL Λ) (hM : 3 ≤ R.frames ∧ 69 ≤ R.locals) (a0 : Nat) (l1 : Int32) (l2 : Int32) (l3 : Int64) (k0 : isK Λ a0 6) {res : Int32 × Sto} (h : F_X5_line Λ σ a0 l1 l2 l3 = some res) (H : Heap) (locs : List Loc) (ls : Array Slot) (hR : Rep cA D Λ σ H) (hS : va_S (dm Λ) s.heap H locs) (hl : lv_has ls 5 [(0, .ref a0), (1, .int l1), (2, .int l2), (3, .long l3)]) : W p l e R s m args below meth c H locs 0 0 (MQ below (QI cA D Λ res) args s 0 0 (dm Λ)) (F0 m 0 ls []) := by
  have hx := X.1
  have hb := X.2.1
  have hown := X.2.2.2.2.1
  have hts := X.2.2.2.2.2.1
  unfold F_X5_line at h
  refine lv_aload_n hx hb dX5_line_0 rfl (lv_at hl 0 rfl) ?_
  refine lv_iconst (v := (0 : Int32)) hx hb dX5_line_1 (by decide) ?_
  refine rw_putI X hK hT hR hS 6 0 tyX5 k0 (by decide) (C := RX5) (T := TX5) (N := 24) rfl (by decide) in_X5_line_6 tyX5_ok nmX5 (by decide +kernel) rfl rfl (by decide +kernel) dX5_line_2 (fun σ_1 H locs e_1 hR hS => ?_)
  have h := of_nm e_1 h
  refine lv_aload_n hx hb dX5_line_5 rfl (lv_at hl 0 rfl) ?_
  refine lv_iload_n hx hb dX5_line_6 rfl (lv_at hl 1 rfl) ?_
  refine lv_iconst (v := (0 : Int32)) hx hb dX5_line_7 (by decide) ?_
  refine lv_iload_n hx hb dX5_line_8 rfl (lv_at hl 2 rfl) ?_
  obtain ⟨q_2, hq_2, h⟩ := of_bind h
  refine cl_z (rn_V (As := [.int l1, .int (0 : Int32), .int l2]) (rest := []) X hK hR k0 rfl (by decide) hl.1 (c_X5_isPoint l cA D Λ hT σ_1 a0 l1 (0 : Int32) l2 k0 hq_2) (cwV 3 hts gX5_line_X5_isPoint rfl rfl rfl (by decide +kernel) ⟨Nat.le_trans (by decide) hM.1, Nat.le_trans (by decide) hM.2⟩) rfl rfl (Nat.le_of_ble_eq_true rfl) dX5_line_9) hS (fun hz_2 H locs hR hS => ?_)
  refine lv_if_ne (tgt := 17) hx hb dX5_line_12 (by decide) (fun hc => ?_) (fun hc => ?_)
  · have h := of_neg hc h
    refine lv_aload_n hx hb dX5_line_17 rfl (lv_at hl 0 rfl) ?_
    refine lv_iload_n hx hb dX5_line_18 rfl (lv_at hl 1 rfl) ?_
    obtain ⟨q_3, hq_3, h⟩ := of_bind h
    refine cl_v (rn_V (As := [.int l1]) (rest := []) X hK hR k0 rfl (by decide) hl.1 (c_X5_changing l cA D Λ hT σ_1 a0 l1 k0 hq_3) (cwV 1 hts gX5_line_X5_changing rfl rfl rfl (by decide +kernel) ⟨Nat.le_trans (by decide) hM.1, Nat.le_trans (by decide) hM.2⟩) rfl rfl (Nat.le_of_ble_eq_true rfl) dX5_line_19) hS (fun H locs hR hS => ?_)
    refine lv_aload_n hx hb dX5_line_22 rfl (lv_at hl 0 rfl) ?_
    refine lv_iload_n hx hb dX5_line_23 rfl (lv_at hl 1 rfl) ?_
    refine lv_iload_n hx hb dX5_line_24 rfl (lv_at hl 2 rfl) ?_
    refine lv_lload_n hx hb dX5_line_25 rfl (lv_at hl 3 rfl) ?_
    obtain ⟨q_4, hq_4, h⟩ := of_bind h
    refine cl_v (rn_V (As := [.int l1, .int l2, .long l3]) (rest := []) X hK hR k0 rfl (by decide) hl.1 (c_X5_lays l cA D Λ hT q_3 a0 l1 l2 l3 k0 hq_4) (cwV 3 hts gX5_line_X5_lays rfl rfl rfl (by decide +kernel) ⟨Nat.le_trans (by decide) hM.1, Nat.le_trans (by decide) hM.2⟩) rfl rfl (Nat.le_of_ble_eq_true rfl) dX5_line_26) hS (fun H locs hR hS => ?_)
    refine lv_aload_n hx hb dX5_line_29 rfl (lv_at hl 0 rfl) ?_
    refine lv_iload_n hx hb dX5_line_30 rfl (lv_at hl 1 rfl) ?_
    refine lv_iload_n hx hb dX5_line_31 rfl (lv_at hl 2 rfl) ?_
    obtain ⟨q_5, hq_5, h⟩ := of_bind h
    refine cl_i (rn_V (As := [.int l1, .int l2]) (rest := []) X hK hR k0 rfl (by decide) hl.1 (c_X5_rowInk l cA D Λ hT q_4 a0 l1 l2 k0 hq_5) (cwV 2 hts gX5_line_X5_rowInk rfl rfl rfl (by decide +kernel) ⟨Nat.le_trans (by decide) hM.1, Nat.le_trans (by decide) hM.2⟩) rfl rfl (Nat.le_of_ble_eq_true rfl) dX5_line_32) hS (fun H locs hR hS => ?_)
    exact rt_i X hR hS (Option.some.inj h) dX5_line_35
  · have h := of_pos hc h
    refine lv_iconst (v := (-1 : Int32)) hx hb dX5_line_15 (by decide) ?_
    exact rt_i X hR hS (Option.some.inj h) dX5_line_16

set_option maxHeartbeats 4000000 in
set_option maxRecDepth 100000 in
theorem c_X5_line (l : Launch) (cA : Nat → ClassId) (D : va_G) (Λ : Lay) (hT : TL Λ) (σ : Sto) (a0 : Nat) (l1 : Int32) (l2 : Int32) (l3 : Int64) (k0 : isK Λ a0 6) {res : Int32 × Sto} (h : F_X5_line Λ σ a0 l1 l2 l3 = some res) : Met l yX5_line wsX5_line { frames := 3, cells := 0, slots := 0, locals := 69 } (va_Pc [.ref a0, .int l1, .int l2, .long l3] (PW cA D Λ σ)) (QI cA D Λ res) 0 0 (dm Λ) := by
  refine Met.ofW (cc := cX5_line) (maxL := 5) (ret := (some .int)) (by decide) rfl ?_
  intro p e s m args below meth c s₁ B hml hv
  obtain ⟨rfl, hR, hK⟩ := hv
  have X : Cx cX5_line (some .int) 5 RX5 wsX5_line p s m _ meth c := ⟨B.exec, B.bytes, B.returns, hml, findClass_of_methodNamed B.named, atoms_spec (ws := wsX5_line) B.pre, B.notSynchronized⟩
  have hS : va_S (dm Λ) s.heap s.heap [] := va_S.rf
  have hl := lv_entry ([.ref a0, .int l1, .int l2, .long l3]) (n := 5) (Nat.le_of_ble_eq_true rfl)
  rw [lg_entry_eq]
  generalize (lg_sl ([.ref a0, .int l1, .int l2, .long l3]) ++ List.replicate (5 - (lg_sl ([.ref a0, .int l1, .int l2, .long l3])).length) Slot.unset).toArray = ls at hl ⊢
  have hl : lv_has ls 5 [(0, .ref a0), (1, .int l1), (2, .int l2), (3, .long l3)] := hl
  exact w_X5_line X hK hT ⟨Nat.le_refl _, Nat.le_refl _⟩ a0 l1 l2 l3 k0 h s.heap [] ls hR hS hl
theorem in_X5_lay_6 : ∀ w ∈ u_ws RX5 TX5 24, w ∈ wsX5_lay := by decide +kernel
set_option maxHeartbeats 4000000 in
set_option maxRecDepth 100000 in
theorem w_jp_X5_lay_148 (X : Cx cX5_lay (some .int) 13 RX5 wsX5_lay p s m args meth c) (hK : Kn cA D s) (hT : TL Λ) (hM : 3 ≤ R.frames ∧ 69 ≤ R.locals) (a0 : Nat) (l1 : Int32) (l2 : Int32) (l3 : Int32) (l5 : Int64) (l7 : Int64) (l9 : Int32) (l10 : Int32) (ls0 : Int64) (ls1 : Int32) (ls2 : Int32) (as3 : Nat) (k0 : isK Λ a0 6) (ks3 : isK Λ as3 6) {r : (Int32 × Sto) ⊕ Sto} (h : jp_X5_lay_148 Λ σ a0 l1 l2 l3 l5 l7 l9 l10 ls0 ls1 ls2 as3 = some r) (kb : ∀ z : (Int32 × Sto), r = .inl z → ∀ (H : Heap) (locs : List Loc) (ls : Array Slot), Rep cA D Λ z.2 H → va_S (dm Λ) s.heap H locs → lv_has ls 13 [(0, .ref a0), (1, .int l1), (2, .int l2), (3, .int l3), (5, .long l5), (7, .long l7), (9, .int l9), (10, .int z.1)] → W p l e R s m args below meth c H locs 0 0 Q (F0 m 81 ls [])) (kx0 : ∀ z : Sto, r = .inr z → ∀ (H : Heap) (locs : List Loc) (ls : Array Slot), Rep cA D Λ z H → va_S (dm Λ) s.heap H locs → lv_has ls 13 [(9, .int l9)] → W p l e R s m args below meth c H locs 0 0 Q (F0 m 157 ls [])) (H : Heap) (locs : List Loc) (ls : Array Slot) (hR : Rep cA D Λ σ H) (hS : va_S (dm Λ) s.heap H locs) (hl : lv_has ls 13 [(0, .ref a0), (1, .int l1), (2, .int l2), (3, .int l3), (5, .long l5), (7, .long l7), (9, .int l9), (10, .int l10)]) : W p l e R s m args below meth c H locs 0 0 Q (F0 m 148 ls [.long ls0, .int ls1, .int ls2, .ref as3]) := by
  have hx := X.1
  have hb := X.2.1
  have hown := X.2.2.2.2.1
  have hts := X.2.2.2.2.2.1
  unfold jp_X5_lay_148 at h
  obtain ⟨q_9, hq_9, h⟩ := of_bind h
  refine cl_v (rn_V (As := [.int ls2, .int ls1, .long ls0]) (rest := []) X hK hR ks3 rfl (by decide) hl.1 (c_X5_lays l cA D Λ hT σ as3 ls2 ls1 ls0 ks3 hq_9) (cwV 3 hts gX5_lay_X5_lays rfl rfl rfl (by decide +kernel) ⟨Nat.le_trans (by decide) hM.1, Nat.le_trans (by decide) hM.2⟩) rfl rfl (Nat.le_of_ble_eq_true rfl) dX5_lay_148) hS (fun H locs hR hS => ?_)
  obtain ⟨v_10, e_v_10⟩ : ∃ y : Int32, y = (l10 + (1 : Int32)) := ⟨_, rfl⟩
  have h := of_nm e_v_10 h
  refine lv_iinc (v := v_10) (lv' := [(10, .int v_10), (0, .ref a0), (1, .int l1), (2, .int l2), (3, .int l3), (5, .long l5), (7, .long l7), (9, .int l9)]) hx hb dX5_lay_151 hl (k := 7) rfl (by rw [e_v_10]; rfl) (by decide) rfl (fun ls hl => ?_)
  refine lv_goto (tgt := 81) hx hb dX5_lay_154 (by decide) ?_
  exact kb (v_10, q_9) (Option.some.inj h).symm H locs ls hR hS (lv_sub hl [1, 2, 3, 4, 5, 6, 7, 0] rfl)

set_option maxHeartbeats 4000000 in
set_option maxRecDepth 100000 in
theorem w_bd_X5_lay_81 (X : Cx cX5_lay (some .int) 13 RX5 wsX5_lay p s m args meth c) (hK : Kn cA D s) (hT : TL Λ) (hM : 3 ≤ R.frames ∧ 69 ≤ R.locals) (a0 : Nat) (l1 : Int32) (l2 : Int32) (l3 : Int32) (l5 : Int64) (l7 : Int64) (l9 : Int32) (s9 : (Int32 × Sto)) (k0 : isK Λ a0 6) {r : (Int32 × Sto) ⊕ Sto} (h : bd_X5_lay_81 Λ a0 l1 l2 l3 l5 l7 l9 s9 = some r) (kb : ∀ z : (Int32 × Sto), r = .inl z → ∀ (H : Heap) (locs : List Loc) (ls : Array Slot), Rep cA D Λ z.2 H → va_S (dm Λ) s.heap H locs → lv_has ls 13 [(0, .ref a0), (1, .int l1), (2, .int l2), (3, .int l3), (5, .long l5), (7, .long l7), (9, .int l9), (10, .int z.1)] → W p l e R s m args below meth c H locs 0 0 Q (F0 m 81 ls [])) (kx0 : ∀ z : Sto, r = .inr z → ∀ (H : Heap) (locs : List Loc) (ls : Array Slot), Rep cA D Λ z H → va_S (dm Λ) s.heap H locs → lv_has ls 13 [(9, .int l9)] → W p l e R s m args below meth c H locs 0 0 Q (F0 m 157 ls [])) (H : Heap) (locs : List Loc) (ls : Array Slot) (hR : Rep cA D Λ s9.2 H) (hS : va_S (dm Λ) s.heap H locs) (hl : lv_has ls 13 [(0, .ref a0), (1, .int l1), (2, .int l2), (3, .int l3), (5, .long l5), (7, .long l7), (9, .int l9), (10, .int s9.1)]) : W p l e R s m args below meth c H locs 0 0 Q (F0 m 81 ls []) := by
  have hx := X.1
  have hb := X.2.1
  have hown := X.2.2.2.2.1
  have hts := X.2.2.2.2.2.1
  unfold bd_X5_lay_81 at h
  refine lv_iload hx hb dX5_lay_81 (lv_at hl 7 rfl) ?_
  refine lv_iload hx hb dX5_lay_83 (lv_at hl 6 rfl) ?_
  refine lv_icmp_ge (tgt := 157) hx hb dX5_lay_85 (by decide) (fun hc => ?_) (fun hc => ?_)
  · have h := of_pos hc h
    exact kx0 s9.2 (Option.some.inj h).symm H locs ls hR hS (lv_sub hl [6] rfl)
  · have h := of_neg hc h
    refine lv_lload hx hb dX5_lay_88 (lv_at hl 4 rfl) ?_
    refine lv_iload hx hb dX5_lay_90 (lv_at hl 7 rfl) ?_
    refine lv_i2l (v := (s9.1.toInt64)) hx hb dX5_lay_92 rfl ?_
    refine lv_lload hx hb dX5_lay_93 (lv_at hl 5 rfl) ?_
    refine lv_lmul hx hb dX5_lay_95 ?_
    refine lv_ladd hx hb dX5_lay_96 ?_
    refine lv_topl (fun v_8 e_v_8 => ?_)
    have h := of_nm e_v_8 h
    refine lv_lstore (lv' := [(11, .long v_8), (0, .ref a0), (1, .int l1), (2, .int l2), (3, .int l3), (5, .long l5), (7, .long l7), (9, .int l9), (10, .int s9.1)]) hx hb dX5_lay_97 hl (by decide) rfl (fun ls hl => ?_)
    refine lv_aload_n hx hb dX5_lay_99 rfl (lv_at hl 1 rfl) ?_
    refine lv_iload_n hx hb dX5_lay_100 rfl (lv_at hl 2 rfl) ?_
    refine lv_iload_n hx hb dX5_lay_101 rfl (lv_at hl 3 rfl) ?_
    refine lv_iload hx hb dX5_lay_102 (lv_at hl 8 rfl) ?_
    refine lv_iadd hx hb dX5_lay_104 ?_
    refine lv_iload_n hx hb dX5_lay_105 rfl (lv_at hl 4 rfl) ?_
    refine lv_if_ne (tgt := 118) hx hb dX5_lay_106 (by decide) (fun hc => ?_) (fun hc => ?_)
    · have h := of_neg hc h
      refine lv_iload_n hx hb dX5_lay_118 rfl (lv_at hl 4 rfl) ?_
      refine lv_iconst (v := (1 : Int32)) hx hb dX5_lay_119 (by decide) ?_
      refine lv_icmp_ne (tgt := 132) hx hb dX5_lay_120 (by decide) (fun hc => ?_) (fun hc => ?_)
      · have h := of_neg hc h
        refine lv_iload_n hx hb dX5_lay_132 rfl (lv_at hl 4 rfl) ?_
        refine lv_iconst (v := (2 : Int32)) hx hb dX5_lay_133 (by decide) ?_
        refine lv_icmp_ne (tgt := 146) hx hb dX5_lay_134 (by decide) (fun hc => ?_) (fun hc => ?_)
        · have h := of_neg hc h
          refine lv_lload hx hb dX5_lay_146 (lv_at hl 0 rfl) ?_
          exact w_jp_X5_lay_148 X hK hT hM a0 l1 l2 l3 l5 l7 l9 s9.1 v_8 (l2 + s9.1) l1 a0 k0 k0 h kb kx0 H locs ls hR hS (lv_sub hl [1, 2, 3, 4, 5, 6, 7, 8] rfl)
        · have h := of_pos hc h
          refine lv_lload hx hb dX5_lay_137 (lv_at hl 0 rfl) ?_
          refine lv_ldc2 (v := (4294967295 : Int64)) hx hb hown (hts (.constantLong RX5 125 (4294967295)) (by decide +kernel)) dX5_lay_139 ?_
          refine lv_land hx hb dX5_lay_142 ?_
          refine lv_goto (tgt := 148) hx hb dX5_lay_143 (by decide) ?_
          exact w_jp_X5_lay_148 X hK hT hM a0 l1 l2 l3 l5 l7 l9 s9.1 (v_8 &&& (4294967295 : Int64)) (l2 + s9.1) l1 a0 k0 k0 h kb kx0 H locs ls hR hS (lv_sub hl [1, 2, 3, 4, 5, 6, 7, 8] rfl)
      · have h := of_pos hc h
        refine lv_lload hx hb dX5_lay_123 (lv_at hl 0 rfl) ?_
        refine lv_ldc2 (v := (65535 : Int64)) hx hb hown (hts (.constantLong RX5 123 (65535)) (by decide +kernel)) dX5_lay_125 ?_
        refine lv_land hx hb dX5_lay_128 ?_
        refine lv_goto (tgt := 148) hx hb dX5_lay_129 (by decide) ?_
        exact w_jp_X5_lay_148 X hK hT hM a0 l1 l2 l3 l5 l7 l9 s9.1 (v_8 &&& (65535 : Int64)) (l2 + s9.1) l1 a0 k0 k0 h kb kx0 H locs ls hR hS (lv_sub hl [1, 2, 3, 4, 5, 6, 7, 8] rfl)
    · have h := of_pos hc h
      refine lv_lload hx hb dX5_lay_109 (lv_at hl 0 rfl) ?_
      refine lv_ldc2 (v := (255 : Int64)) hx hb hown (hts (.constantLong RX5 121 (255)) (by decide +kernel)) dX5_lay_111 ?_
      refine lv_land hx hb dX5_lay_114 ?_
      refine lv_goto (tgt := 148) hx hb dX5_lay_115 (by decide) ?_
      exact w_jp_X5_lay_148 X hK hT hM a0 l1 l2 l3 l5 l7 l9 s9.1 (v_8 &&& (255 : Int64)) (l2 + s9.1) l1 a0 k0 k0 h kb kx0 H locs ls hR hS (lv_sub hl [1, 2, 3, 4, 5, 6, 7, 8] rfl)

set_option maxHeartbeats 4000000 in
set_option maxRecDepth 100000 in
theorem w_lp_X5_lay_81 (X : Cx cX5_lay (some .int) 13 RX5 wsX5_lay p s m args meth c) (hK : Kn cA D s) (hT : TL Λ) (hM : 3 ≤ R.frames ∧ 69 ≤ R.locals) (a0 : Nat) (l1 : Int32) (l2 : Int32) (l3 : Int32) (l5 : Int64) (l7 : Int64) (l9 : Int32) (k0 : isK Λ a0 6) {e9 : Sto} : ∀ (n9 : Nat) (s9 : (Int32 × Sto)), iter (bd_X5_lay_81 Λ a0 l1 l2 l3 l5 l7 l9) n9 s9 = some e9 → ∀ (kx0 : ∀ (H : Heap) (locs : List Loc) (ls : Array Slot), Rep cA D Λ e9 H → va_S (dm Λ) s.heap H locs → lv_has ls 13 [(9, .int l9)] → W p l e R s m args below meth c H locs 0 0 Q (F0 m 157 ls [])), ∀ (H : Heap) (locs : List Loc) (ls : Array Slot), Rep cA D Λ s9.2 H → va_S (dm Λ) s.heap H locs → lv_has ls 13 [(0, .ref a0), (1, .int l1), (2, .int l2), (3, .int l3), (5, .long l5), (7, .long l7), (9, .int l9), (10, .int s9.1)] → W p l e R s m args below meth c H locs 0 0 Q (F0 m 81 ls []) := by
  intro n9
  induction n9 with
  | zero => intro s9 h; cases h
  | succ n9 ih =>
    intro s9 h kx0 H locs ls hR hS hl
    obtain ⟨r, hr, h⟩ := of_iter h
    refine w_bd_X5_lay_81 X hK hT hM a0 l1 l2 l3 l5 l7 l9 s9 k0 hr (fun z ez H locs ls hR hS hl => ?_) (fun z ez H locs ls hR hS hl => ?_) H locs ls hR hS hl
    · exact ih z (of_itl ez h) kx0 H locs ls hR hS hl
    · have he := of_itr ez h; subst he; exact kx0 H locs ls hR hS hl

set_option maxHeartbeats 4000000 in
set_option maxRecDepth 100000 in
theorem w_jp_X5_lay_76 (X : Cx cX5_lay (some .int) 13 RX5 wsX5_lay p s m args meth c) (hK : Kn cA D s) (hT : TL Λ) (hM : 3 ≤ R.frames ∧ 69 ≤ R.locals) (a0 : Nat) (l1 : Int32) (l2 : Int32) (l3 : Int32) (l5 : Int64) (l7 : Int64) (ls0 : Int32) (k0 : isK Λ a0 6) {res : Int32 × Sto} (h : jp_X5_lay_76 Λ σ a0 l1 l2 l3 l5 l7 ls0 = some res) (H : Heap) (locs : List Loc) (ls : Array Slot) (hR : Rep cA D Λ σ H) (hS : va_S (dm Λ) s.heap H locs) (hl : lv_has ls 13 [(0, .ref a0), (1, .int l1), (2, .int l2), (3, .int l3), (5, .long l5), (7, .long l7)]) : W p l e R s m args below meth c H locs 0 0 (MQ below (QI cA D Λ res) args s 0 0 (dm Λ)) (F0 m 76 ls [.int ls0]) := by
  have hx := X.1
  have hb := X.2.1
  have hown := X.2.2.2.2.1
  have hts := X.2.2.2.2.2.1
  unfold jp_X5_lay_76 at h
  refine lv_istore (lv' := [(9, .int ls0), (0, .ref a0), (1, .int l1), (2, .int l2), (3, .int l3), (5, .long l5), (7, .long l7)]) hx hb dX5_lay_76 hl (by decide) rfl (fun ls hl => ?_)
  refine lv_iconst (v := (0 : Int32)) hx hb dX5_lay_78 (by decide) ?_
  refine lv_istore (lv' := [(10, .int (0 : Int32)), (9, .int ls0), (0, .ref a0), (1, .int l1), (2, .int l2), (3, .int l3), (5, .long l5), (7, .long l7)]) hx hb dX5_lay_79 hl (by decide) rfl (fun ls hl => ?_)
  obtain ⟨e_11, hq_11, h⟩ := of_bind h
  refine w_lp_X5_lay_81 X hK hT hM a0 l1 l2 l3 l5 l7 ls0 k0 _ ((0 : Int32), σ) hq_11 (fun H locs ls hR hS hl => ?_) H locs ls hR hS (lv_sub hl [2, 3, 4, 5, 6, 7, 1, 0] rfl)
  refine lv_iload hx hb dX5_lay_157 (lv_at hl 0 rfl) ?_
  exact rt_i X hR hS (Option.some.inj h) dX5_lay_159

set_option maxHeartbeats 4000000 in
set_option maxRecDepth 100000 in
theorem w_jp_X5_lay_49 (X : Cx cX5_lay (some .int) 13 RX5 wsX5_lay p s m args meth c) (hK : Kn cA D s) (hT : TL Λ) (hM : 3 ≤ R.frames ∧ 69 ≤ R.locals) (a0 : Nat) (l1 : Int32) (l2 : Int32) (l3 : Int32) (l4 : Int32) (l5 : Int64) (l7 : Int64)  (k0 : isK Λ a0 6) {res : Int32 × Sto} (h : jp_X5_lay_49 Λ σ a0 l1 l2 l3 l4 l5 l7 = some res) (H : Heap) (locs : List Loc) (ls : Array Slot) (hR : Rep cA D Λ σ H) (hS : va_S (dm Λ) s.heap H locs) (hl : lv_has ls 13 [(0, .ref a0), (1, .int l1), (2, .int l2), (3, .int l3), (4, .int l4), (5, .long l5), (7, .long l7)]) : W p l e R s m args below meth c H locs 0 0 (MQ below (QI cA D Λ res) args s 0 0 (dm Λ)) (F0 m 49 ls []) := by
  have hx := X.1
  have hb := X.2.1
  have hown := X.2.2.2.2.1
  have hts := X.2.2.2.2.2.1
  unfold jp_X5_lay_49 at h
  refine lv_aload_n hx hb dX5_lay_49 rfl (lv_at hl 0 rfl) ?_
  refine lv_iconst (v := (0 : Int32)) hx hb dX5_lay_50 (by decide) ?_
  refine rw_putI X hK hT hR hS 6 6 tyX5 k0 (by decide) (C := RX5) (T := TX5) (N := 24) rfl (by decide) in_X5_lay_6 tyX5_ok nmX5 (by decide +kernel) rfl rfl (by decide +kernel) dX5_lay_51 (fun σ_4 H locs e_4 hR hS => ?_)
  have h := of_nm e_4 h
  refine lv_iload_n hx hb dX5_lay_54 rfl (lv_at hl 3 rfl) ?_
  refine lv_iconst (v := (4 : Int32)) hx hb dX5_lay_55 (by decide) ?_
  refine lv_icmp_ne (tgt := 63) hx hb dX5_lay_56 (by decide) (fun hc => ?_) (fun hc => ?_)
  · have h := of_neg hc h
    refine lv_iload hx hb dX5_lay_63 (lv_at hl 4 rfl) ?_
    refine lv_aload_n hx hb dX5_lay_65 rfl (lv_at hl 0 rfl) ?_
    refine rw_getR X hK hT hR 6 3 7 k0 (by decide) (C := RX5) (T := TX5) (N := 24) rfl (by decide) in_X5_lay_6 (by decide +kernel) rfl dX5_lay_66 (fun kf_5 => ?_)
    refine lv_iload_n hx hb dX5_lay_69 rfl (lv_at hl 1 rfl) ?_
    obtain ⟨hg_6, h⟩ := of_guard h
    refine rw_iald X hK hR kf_5 hg_6 dX5_lay_70 ?_
    refine lv_iload_n hx hb dX5_lay_71 rfl (lv_at hl 2 rfl) ?_
    refine lv_isub hx hb dX5_lay_72 ?_
    refine va_mmin hx hb (X.2.2.2.1.trans hl.1.symm) hown (hts (.methodLink RX5 91 Lib.Math.min.name) (by decide +kernel)) (hts (.static Lib.Math.min.name) (by decide +kernel)) (hts (.initialized "java/lang/Math") (by decide +kernel)) (hts (.code Lib.Math.min.name Lib.Math.min.code 2 (some .int)) (by decide +kernel)) (Nat.le_trans (by decide) hM.1) (Nat.le_trans (Nat.le_of_ble_eq_true rfl) hM.2) (Nat.zero_le _) (Nat.zero_le _) dX5_lay_73 ?_
    refine lv_topi (fun r_7 e_7 => ?_)
    have h := of_nm e_7 h
    exact w_jp_X5_lay_76 X hK hT hM a0 l1 l2 l3 l5 l7 r_7 k0 h H locs ls hR hS (lv_sub hl [0, 1, 2, 3, 5, 6] rfl)
  · have h := of_pos hc h
    refine lv_iconst (v := (0 : Int32)) hx hb dX5_lay_59 (by decide) ?_
    refine lv_goto (tgt := 76) hx hb dX5_lay_60 (by decide) ?_
    exact w_jp_X5_lay_76 X hK hT hM a0 l1 l2 l3 l5 l7 (0 : Int32) k0 h H locs ls hR hS (lv_sub hl [0, 1, 2, 3, 5, 6] rfl)

set_option maxHeartbeats 4000000 in
set_option maxRecDepth 100000 in
theorem w_X5_lay (X : Cx cX5_lay (some .int) 13 RX5 wsX5_lay p s m args meth c) (hK : Kn cA D s) (hT : TL Λ) (hM : 3 ≤ R.frames ∧ 69 ≤ R.locals) (a0 : Nat) (l1 : Int32) (l2 : Int32) (l3 : Int32) (l4 : Int32) (l5 : Int64) (l7 : Int64) (k0 : isK Λ a0 6) {res : Int32 × Sto} (h : F_X5_lay Λ σ a0 l1 l2 l3 l4 l5 l7 = some res) (H : Heap) (locs : List Loc) (ls : Array Slot) (hR : Rep cA D Λ σ H) (hS : va_S (dm Λ) s.heap H locs) (hl : lv_has ls 13 [(0, .ref a0), (1, .int l1), (2, .int l2), (3, .int l3), (4, .int l4), (5, .long l5), (7, .long l7)]) : W p l e R s m args below meth c H locs 0 0 (MQ below (QI cA D Λ res) args s 0 0 (dm Λ)) (F0 m 0 ls []) := by
  have hx := X.1
  have hb := X.2.1
  have hown := X.2.2.2.2.1
  have hts := X.2.2.2.2.2.1
  unfold F_X5_lay at h
  refine lv_aload_n hx hb dX5_lay_0 rfl (lv_at hl 0 rfl) ?_
  refine lv_iconst (v := (0 : Int32)) hx hb dX5_lay_1 (by decide) ?_
  refine rw_putI X hK hT hR hS 6 0 tyX5 k0 (by decide) (C := RX5) (T := TX5) (N := 24) rfl (by decide) in_X5_lay_6 tyX5_ok nmX5 (by decide +kernel) rfl rfl (by decide +kernel) dX5_lay_2 (fun σ_1 H locs e_1 hR hS => ?_)
  have h := of_nm e_1 h
  refine lv_aload_n hx hb dX5_lay_5 rfl (lv_at hl 0 rfl) ?_
  refine lv_iload_n hx hb dX5_lay_6 rfl (lv_at hl 1 rfl) ?_
  refine lv_iconst (v := (0 : Int32)) hx hb dX5_lay_7 (by decide) ?_
  refine lv_iload_n hx hb dX5_lay_8 rfl (lv_at hl 2 rfl) ?_
  obtain ⟨q_2, hq_2, h⟩ := of_bind h
  refine cl_z (rn_V (As := [.int l1, .int (0 : Int32), .int l2]) (rest := []) X hK hR k0 rfl (by decide) hl.1 (c_X5_isPoint l cA D Λ hT σ_1 a0 l1 (0 : Int32) l2 k0 hq_2) (cwV 3 hts gX5_lay_X5_isPoint rfl rfl rfl (by decide +kernel) ⟨Nat.le_trans (by decide) hM.1, Nat.le_trans (by decide) hM.2⟩) rfl rfl (Nat.le_of_ble_eq_true rfl) dX5_lay_9) hS (fun hz_2 H locs hR hS => ?_)
  refine lv_if_eq (tgt := 34) hx hb dX5_lay_12 (by decide) (fun hc => ?_) (fun hc => ?_)
  · have h := of_pos hc h
    refine lv_iconst (v := (-1 : Int32)) hx hb dX5_lay_34 (by decide) ?_
    exact rt_i X hR hS (Option.some.inj h) dX5_lay_35
  · have h := of_neg hc h
    refine lv_iload_n hx hb dX5_lay_15 rfl (lv_at hl 3 rfl) ?_
    refine lv_i2l (v := (l3.toInt64)) hx hb dX5_lay_16 rfl ?_
    refine lv_lconst (v := (0 : Int64)) hx hb dX5_lay_17 (by decide) ?_
    refine lv_ldc2 (v := (4 : Int64)) hx hb hown (hts (.constantLong RX5 119 (4)) (by decide +kernel)) dX5_lay_18 ?_
    refine cl_z (rn_S (As := [.long (l3.toInt64), .long (0 : Int64), .long (4 : Int64)]) (rest := []) X hK hR hl.1 (c_X5_in l cA D Λ hT σ_1 (l3.toInt64) (0 : Int64) (4 : Int64)) (va_cwS 3 hts gX5_lay_X5_in rfl rfl rfl (by decide +kernel) ⟨Nat.le_trans (by decide) hM.1, Nat.le_trans (by decide) hM.2⟩) rfl rfl (Nat.le_of_ble_eq_true rfl) dX5_lay_21) hS (fun hz_3 H locs hR hS => ?_)
    refine lv_topi (fun r_3 e_3 => ?_)
    have h := of_nm e_3 h
    have hz_3 : r_3 = 0 ∨ r_3 = 1 := by rw [e_3]; exact hz_3
    refine lv_if_eq (tgt := 34) hx hb dX5_lay_24 (by decide) (fun hc => ?_) (fun hc => ?_)
    · have h := of_pos hc h
      refine lv_iconst (v := (-1 : Int32)) hx hb dX5_lay_34 (by decide) ?_
      exact rt_i X hR hS (Option.some.inj h) dX5_lay_35
    · have h := of_neg hc h
      refine lv_iload hx hb dX5_lay_27 (lv_at hl 4 rfl) ?_
      refine lv_bipush (v := (64 : Int32)) hx hb dX5_lay_29 (by decide) ?_
      refine lv_icmp_le (tgt := 36) hx hb dX5_lay_31 (by decide) (fun hc => ?_) (fun hc => ?_)
      · have h := of_pos hc h
        refine lv_iload hx hb dX5_lay_36 (lv_at hl 4 rfl) ?_
        refine lv_if_ge (tgt := 49) hx hb dX5_lay_38 (by decide) (fun hc => ?_) (fun hc => ?_)
        · have h := of_pos hc h
          exact w_jp_X5_lay_49 X hK hT hM a0 l1 l2 l3 l4 l5 l7 k0 h H locs ls hR hS (lv_sub hl [0, 1, 2, 3, 4, 5, 6] rfl)
        · have h := of_neg hc h
          refine lv_iload_n hx hb dX5_lay_41 rfl (lv_at hl 3 rfl) ?_
          refine lv_iconst (v := (4 : Int32)) hx hb dX5_lay_42 (by decide) ?_
          refine lv_icmp_ge (tgt := 49) hx hb dX5_lay_43 (by decide) (fun hc => ?_) (fun hc => ?_)
          · have h := of_pos hc h
            exact w_jp_X5_lay_49 X hK hT hM a0 l1 l2 l3 l4 l5 l7 k0 h H locs ls hR hS (lv_sub hl [0, 1, 2, 3, 4, 5, 6] rfl)
          · have h := of_neg hc h
            refine lv_bipush (v := (-2 : Int32)) hx hb dX5_lay_46 (by decide) ?_
            exact rt_i X hR hS (Option.some.inj h) dX5_lay_48
      · have h := of_neg hc h
        refine lv_iconst (v := (-1 : Int32)) hx hb dX5_lay_34 (by decide) ?_
        exact rt_i X hR hS (Option.some.inj h) dX5_lay_35

set_option maxHeartbeats 4000000 in
set_option maxRecDepth 100000 in
theorem c_X5_lay (l : Launch) (cA : Nat → ClassId) (D : va_G) (Λ : Lay) (hT : TL Λ) (σ : Sto) (a0 : Nat) (l1 : Int32) (l2 : Int32) (l3 : Int32) (l4 : Int32) (l5 : Int64) (l7 : Int64) (k0 : isK Λ a0 6) {res : Int32 × Sto} (h : F_X5_lay Λ σ a0 l1 l2 l3 l4 l5 l7 = some res) : Met l yX5_lay wsX5_lay { frames := 3, cells := 0, slots := 0, locals := 69 } (va_Pc [.ref a0, .int l1, .int l2, .int l3, .int l4, .long l5, .long l7] (PW cA D Λ σ)) (QI cA D Λ res) 0 0 (dm Λ) := by
  refine Met.ofW (cc := cX5_lay) (maxL := 13) (ret := (some .int)) (by decide) rfl ?_
  intro p e s m args below meth c s₁ B hml hv
  obtain ⟨rfl, hR, hK⟩ := hv
  have X : Cx cX5_lay (some .int) 13 RX5 wsX5_lay p s m _ meth c := ⟨B.exec, B.bytes, B.returns, hml, findClass_of_methodNamed B.named, atoms_spec (ws := wsX5_lay) B.pre, B.notSynchronized⟩
  have hS : va_S (dm Λ) s.heap s.heap [] := va_S.rf
  have hl := lv_entry ([.ref a0, .int l1, .int l2, .int l3, .int l4, .long l5, .long l7]) (n := 13) (Nat.le_of_ble_eq_true rfl)
  rw [lg_entry_eq]
  generalize (lg_sl ([.ref a0, .int l1, .int l2, .int l3, .int l4, .long l5, .long l7]) ++ List.replicate (13 - (lg_sl ([.ref a0, .int l1, .int l2, .int l3, .int l4, .long l5, .long l7])).length) Slot.unset).toArray = ls at hl ⊢
  have hl : lv_has ls 13 [(0, .ref a0), (1, .int l1), (2, .int l2), (3, .int l3), (4, .int l4), (5, .long l5), (7, .long l7)] := hl
  exact w_X5_lay X hK hT ⟨Nat.le_refl _, Nat.le_refl _⟩ a0 l1 l2 l3 l4 l5 l7 k0 h s.heap [] ls hR hS hl
theorem in_X5_at_6 : ∀ w ∈ u_ws RX5 TX5 24, w ∈ wsX5_at := by decide +kernel
set_option maxHeartbeats 4000000 in
set_option maxRecDepth 100000 in
theorem w_X5_at (X : Cx cX5_at (some .int) 4 RX5 wsX5_at p s m args meth c) (hK : Kn cA D s) (hT : TL Λ) (hM : 3 ≤ R.frames ∧ 69 ≤ R.locals) (a0 : Nat) (l1 : Int32) (l2 : Int32) (l3 : Int32) (k0 : isK Λ a0 6) {res : Int32 × Sto} (h : F_X5_at Λ σ a0 l1 l2 l3 = some res) (H : Heap) (locs : List Loc) (ls : Array Slot) (hR : Rep cA D Λ σ H) (hS : va_S (dm Λ) s.heap H locs) (hl : lv_has ls 4 [(0, .ref a0), (1, .int l1), (2, .int l2), (3, .int l3)]) : W p l e R s m args below meth c H locs 0 0 (MQ below (QI cA D Λ res) args s 0 0 (dm Λ)) (F0 m 0 ls []) := by
  have hx := X.1
  have hb := X.2.1
  have hown := X.2.2.2.2.1
  have hts := X.2.2.2.2.2.1
  unfold F_X5_at at h
  refine lv_aload_n hx hb dX5_at_0 rfl (lv_at hl 0 rfl) ?_
  refine lv_iconst (v := (0 : Int32)) hx hb dX5_at_1 (by decide) ?_
  refine rw_putI X hK hT hR hS 6 0 tyX5 k0 (by decide) (C := RX5) (T := TX5) (N := 24) rfl (by decide) in_X5_at_6 tyX5_ok nmX5 (by decide +kernel) rfl rfl (by decide +kernel) dX5_at_2 (fun σ_1 H locs e_1 hR hS => ?_)
  have h := of_nm e_1 h
  refine lv_aload_n hx hb dX5_at_5 rfl (lv_at hl 0 rfl) ?_
  refine lv_iload_n hx hb dX5_at_6 rfl (lv_at hl 1 rfl) ?_
  refine lv_iload_n hx hb dX5_at_7 rfl (lv_at hl 2 rfl) ?_
  refine lv_iload_n hx hb dX5_at_8 rfl (lv_at hl 3 rfl) ?_
  obtain ⟨q_2, hq_2, h⟩ := of_bind h
  refine cl_z (rn_V (As := [.int l1, .int l2, .int l3]) (rest := []) X hK hR k0 rfl (by decide) hl.1 (c_X5_isPoint l cA D Λ hT σ_1 a0 l1 l2 l3 k0 hq_2) (cwV 3 hts gX5_at_X5_isPoint rfl rfl rfl (by decide +kernel) ⟨Nat.le_trans (by decide) hM.1, Nat.le_trans (by decide) hM.2⟩) rfl rfl (Nat.le_of_ble_eq_true rfl) dX5_at_9) hS (fun hz_2 H locs hR hS => ?_)
  refine lv_if_ne (tgt := 19) hx hb dX5_at_12 (by decide) (fun hc => ?_) (fun hc => ?_)
  · have h := of_neg hc h
    refine lv_aload_n hx hb dX5_at_19 rfl (lv_at hl 0 rfl) ?_
    refine lv_iload_n hx hb dX5_at_20 rfl (lv_at hl 1 rfl) ?_
    refine lv_iload_n hx hb dX5_at_21 rfl (lv_at hl 2 rfl) ?_
    refine lv_iload_n hx hb dX5_at_22 rfl (lv_at hl 3 rfl) ?_
    obtain ⟨q_3, hq_3, h⟩ := of_bind h
    refine cl_z (rn_V (As := [.int l1, .int l2, .int l3]) (rest := []) X hK hR k0 rfl (by decide) hl.1 (c_X5_has l cA D Λ hT σ_1 a0 l1 l2 l3 k0 hq_3) (cwV 3 hts gX5_at_X5_has rfl rfl rfl (by decide +kernel) ⟨Nat.le_trans (by decide) hM.1, Nat.le_trans (by decide) hM.2⟩) rfl rfl (Nat.le_of_ble_eq_true rfl) dX5_at_23) hS (fun hz_3 H locs hR hS => ?_)
    refine lv_if_eq (tgt := 33) hx hb dX5_at_26 (by decide) (fun hc => ?_) (fun hc => ?_)
    · have h := of_pos hc h
      refine lv_iconst (v := (0 : Int32)) hx hb dX5_at_33 (by decide) ?_
      exact rt_i X hR hS (Option.some.inj h) dX5_at_34
    · have h := of_neg hc h
      refine lv_iconst (v := (1 : Int32)) hx hb dX5_at_29 (by decide) ?_
      refine lv_goto (tgt := 34) hx hb dX5_at_30 (by decide) ?_
      exact rt_i X hR hS (Option.some.inj h) dX5_at_34
  · have h := of_pos hc h
    refine lv_iconst (v := (-1 : Int32)) hx hb dX5_at_15 (by decide) ?_
    refine lv_goto (tgt := 34) hx hb dX5_at_16 (by decide) ?_
    exact rt_i X hR hS (Option.some.inj h) dX5_at_34

set_option maxHeartbeats 4000000 in
set_option maxRecDepth 100000 in
theorem c_X5_at (l : Launch) (cA : Nat → ClassId) (D : va_G) (Λ : Lay) (hT : TL Λ) (σ : Sto) (a0 : Nat) (l1 : Int32) (l2 : Int32) (l3 : Int32) (k0 : isK Λ a0 6) {res : Int32 × Sto} (h : F_X5_at Λ σ a0 l1 l2 l3 = some res) : Met l yX5_at wsX5_at { frames := 3, cells := 0, slots := 0, locals := 69 } (va_Pc [.ref a0, .int l1, .int l2, .int l3] (PW cA D Λ σ)) (QI cA D Λ res) 0 0 (dm Λ) := by
  refine Met.ofW (cc := cX5_at) (maxL := 4) (ret := (some .int)) (by decide) rfl ?_
  intro p e s m args below meth c s₁ B hml hv
  obtain ⟨rfl, hR, hK⟩ := hv
  have X : Cx cX5_at (some .int) 4 RX5 wsX5_at p s m _ meth c := ⟨B.exec, B.bytes, B.returns, hml, findClass_of_methodNamed B.named, atoms_spec (ws := wsX5_at) B.pre, B.notSynchronized⟩
  have hS : va_S (dm Λ) s.heap s.heap [] := va_S.rf
  have hl := lv_entry ([.ref a0, .int l1, .int l2, .int l3]) (n := 4) (Nat.le_of_ble_eq_true rfl)
  rw [lg_entry_eq]
  generalize (lg_sl ([.ref a0, .int l1, .int l2, .int l3]) ++ List.replicate (4 - (lg_sl ([.ref a0, .int l1, .int l2, .int l3])).length) Slot.unset).toArray = ls at hl ⊢
  have hl : lv_has ls 4 [(0, .ref a0), (1, .int l1), (2, .int l2), (3, .int l3)] := hl
  exact w_X5_at X hK hT ⟨Nat.le_refl _, Nat.le_refl _⟩ a0 l1 l2 l3 k0 h s.heap [] ls hR hS hl
