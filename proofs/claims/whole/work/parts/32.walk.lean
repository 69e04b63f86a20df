variable {p : Program} {l : Launch} {e : Env} {R : Room} {s : State} {m : MethodId} {args : Array Value} {below : List Frame} {meth : Method} {c : Code} {Q : State → Prop} {cA : Nat → ClassId} {D : va_G} {Λ : Lay} {σ : Sto}
theorem in_X4_count_2 : ∀ w ∈ u_ws RX1 TX1 3, w ∈ wsX4_count := by decide +kernel
theorem in_X4_count_5 : ∀ w ∈ u_ws RX4 TX4 8, w ∈ wsX4_count := by decide +kernel
set_option maxHeartbeats 4000000 in
set_option maxRecDepth 100000 in
theorem w_X4_count (X : Cx cX4_count (some .int) 2 RX4 wsX4_count p s m args meth c) (hK : Kn cA D s) (hT : TL Λ) (hM : 2 ≤ R.frames ∧ 43 ≤ R.locals) (a0 : Nat) (l1 : Int32) (k0 : isK Λ a0 5) {res : Int32} (h : F_X4_count Λ σ a0 l1 = some res) (H : Heap) (locs : List Loc) (ls : Array Slot) (hR : Rep cA D Λ σ H) (hS : va_S (dm Λ) s.heap H locs) (hl : lv_has ls 2 [(0, .ref a0), (1, .int l1)]) : W p l e R s m args below meth c H locs 0 0 (MQ below (QI cA D Λ (res, σ)) args s 0 0 (dm Λ)) (F0 m 0 ls []) := by
  have hx := X.1
  have hb := X.2.1
  have hown := X.2.2.2.2.1
  have hts := X.2.2.2.2.2.1
  unfold F_X4_count at h
  refine lv_iload_n hx hb dX4_count_0 rfl (lv_at hl 1 rfl) ?_
  by_cases hc : l1 = (0 : Int32)
  · have h := of_pos hc h
    refine sw_in (k := 0) (tgt := 32) hx hb dX4_count_1 hc (by decide) (by decide) rfl (by decide) ?_
    refine lv_aload_n hx hb dX4_count_32 rfl (lv_at hl 0 rfl) ?_
    refine rw_getI X hK hR 5 1 k0 (by decide) (C := RX4) (T := TX4) (N := 8) rfl (by decide) in_X4_count_5 (by decide +kernel) rfl dX4_count_33 ?_
    exact rt_i X hR hS (congrArg (fun z => (z, σ)) (Option.some.inj h)) dX4_count_36
  have h := of_neg hc h
  have hn_0 := hc
  clear hc
  by_cases hc : l1 = (1 : Int32)
  · have h := of_pos hc h
    refine sw_in (k := 1) (tgt := 37) hx hb dX4_count_1 hc (by decide) (by decide) rfl (by decide) ?_
    refine lv_aload_n hx hb dX4_count_37 rfl (lv_at hl 0 rfl) ?_
    refine rw_getR X hK hT hR 5 2 2 k0 (by decide) (C := RX4) (T := TX4) (N := 8) rfl (by decide) in_X4_count_5 (by decide +kernel) rfl dX4_count_38 (fun kf_1 => ?_)
    refine rw_getI X hK hR 2 2 kf_1 (by decide) (C := RX1) (T := TX1) (N := 3) rfl (by decide) in_X4_count_2 (by decide +kernel) rfl dX4_count_41 ?_
    exact rt_i X hR hS (congrArg (fun z => (z, σ)) (Option.some.inj h)) dX4_count_44
  have h := of_neg hc h
  have hn_1 := hc
  clear hc
  by_cases hc : l1 = (2 : Int32)
  · have h := of_pos hc h
    refine sw_in (k := 2) (tgt := 45) hx hb dX4_count_1 hc (by decide) (by decide) rfl (by decide) ?_
    refine lv_aload_n hx hb dX4_count_45 rfl (lv_at hl 0 rfl) ?_
    refine rw_getR X hK hT hR 5 4 3 k0 (by decide) (C := RX4) (T := TX4) (N := 8) rfl (by decide) in_X4_count_5 (by decide +kernel) rfl dX4_count_46 (fun kf_2 => ?_)
    obtain ⟨q_3, hq_3, h⟩ := of_bind h
    refine cl_i (rn_V (As := []) (rest := []) X hK hR kf_2 rfl (by decide) hl.1 (c_X2_ink l cA D Λ hT σ (rfA Λ a0 4) kf_2 hq_3) (cwV 0 hts gX4_count_X2_ink rfl rfl rfl (by decide +kernel) ⟨Nat.le_trans (by decide) hM.1, Nat.le_trans (by decide) hM.2⟩) rfl rfl (Nat.le_of_ble_eq_true rfl) dX4_count_49) hS (fun H locs hR hS => ?_)
    exact rt_i X hR hS (congrArg (fun z => (z, σ)) (Option.some.inj h)) dX4_count_52
  have h := of_neg hc h
  have hn_2 := hc
  clear hc
  by_cases hc : l1 = (3 : Int32)
  · have h := of_pos hc h
    refine sw_in (k := 3) (tgt := 53) hx hb dX4_count_1 hc (by decide) (by decide) rfl (by decide) ?_
    refine lv_aload_n hx hb dX4_count_53 rfl (lv_at hl 0 rfl) ?_
    refine rw_getI X hK hR 5 7 k0 (by decide) (C := RX4) (T := TX4) (N := 8) rfl (by decide) in_X4_count_5 (by decide +kernel) rfl dX4_count_54 ?_
    exact rt_i X hR hS (congrArg (fun z => (z, σ)) (Option.some.inj h)) dX4_count_57
  have h := of_neg hc h
  have hn_3 := hc
  clear hc
  refine lv_tableOut (tgt := 58) hx hb dX4_count_1 (sw_out 4 (fun k hk => by rcases (show k = 0 ∨ k = 1 ∨ k = 2 ∨ k = 3 by omega) with rfl | rfl | rfl | rfl <;> assumption)) (by decide) ?_
  refine lv_iconst (v := (-1 : Int32)) hx hb dX4_count_58 (by decide) ?_
  exact rt_i X hR hS (congrArg (fun z => (z, σ)) (Option.some.inj h)) dX4_count_59

set_option maxHeartbeats 4000000 in
set_option maxRecDepth 100000 in
theorem c_X4_count (l : Launch) (cA : Nat → ClassId) (D : va_G) (Λ : Lay) (hT : TL Λ) (σ : Sto) (a0 : Nat) (l1 : Int32) (k0 : isK Λ a0 5) {res : Int32} (h : F_X4_count Λ σ a0 l1 = some res) : Met l yX4_count wsX4_count { frames := 2, cells := 0, slots := 0, locals := 43 } (va_Pc [.ref a0, .int l1] (PW cA D Λ σ)) (QI cA D Λ (res, σ)) 0 0 (dm Λ) := by
  refine Met.ofW (cc := cX4_count) (maxL := 2) (ret := (some .int)) (by decide) rfl ?_
  intro p e s m args below meth c s₁ B hml hv
  obtain ⟨rfl, hR, hK⟩ := hv
  have X : Cx cX4_count (some .int) 2 RX4 wsX4_count p s m _ meth c := ⟨B.exec, B.bytes, B.returns, hml, findClass_of_methodNamed B.named, atoms_spec (ws := wsX4_count) B.pre, B.notSynchronized⟩
  have hS : va_S (dm Λ) s.heap s.heap [] := va_S.rf
  have hl := lv_entry ([.ref a0, .int l1]) (n := 2) (Nat.le_of_ble_eq_true rfl)
  rw [lg_entry_eq]
  generalize (lg_sl ([.ref a0, .int l1]) ++ List.replicate (2 - (lg_sl ([.ref a0, .int l1])).length) Slot.unset).toArray = ls at hl ⊢
  have hl : lv_has ls 2 [(0, .ref a0), (1, .int l1)] := hl
  exact w_X4_count X hK hT ⟨Nat.le_refl _, Nat.le_refl _⟩ a0 l1 k0 h s.heap [] ls hR hS hl
theorem in_X4_unlike_3 : ∀ w ∈ u_ws RX2 TX2 3, w ∈ wsX4_unlike := by decide +kernel
set_option maxHeartbeats 4000000 in
set_option maxRecDepth 100000 in
theorem w_bd_X4_unlike_55 (X : Cx cX4_unlike (some .int) 6 RX4 wsX4_unlike p s m args meth c) (hK : Kn cA D s) (hT : TL Λ) (hM : 2 ≤ R.frames ∧ 43 ≤ R.locals) (a3 : Nat) (a4 : Nat) (s9 : Int32) (k3 : isK Λ a3 3) (k4 : isK Λ a4 3) {r : Int32 ⊕ (Int32 ⊕ Unit)} (h : bd_X4_unlike_55 Λ σ a3 a4 s9 = some r) (kb : ∀ z : Int32, r = .inl z → ∀ (H : Heap) (locs : List Loc) (ls : Array Slot), Rep cA D Λ σ H → va_S (dm Λ) s.heap H locs → lv_has ls 6 [(3, .ref a3), (4, .ref a4), (5, .int z)] → W p l e R s m args below meth c H locs 0 0 Q (F0 m 55 ls [])) (kx0 : ∀ z : Int32, r = .inr (.inl z) → ∀ (H : Heap) (locs : List Loc) (ls : Array Slot), Rep cA D Λ σ H → va_S (dm Λ) s.heap H locs → lv_has ls 6 [(5, .int z)] → W p l e R s m args below meth c H locs 0 0 Q (F0 m 83 ls [])) (kx1 : ∀ z : Unit, r = .inr (.inr z) → ∀ (H : Heap) (locs : List Loc) (ls : Array Slot), Rep cA D Λ σ H → va_S (dm Λ) s.heap H locs → lv_has ls 6 [] → W p l e R s m args below meth c H locs 0 0 Q (F0 m 92 ls [])) (H : Heap) (locs : List Loc) (ls : Array Slot) (hR : Rep cA D Λ σ H) (hS : va_S (dm Λ) s.heap H locs) (hl : lv_has ls 6 [(3, .ref a3), (4, .ref a4), (5, .int s9)]) : W p l e R s m args below meth c H locs 0 0 Q (F0 m 55 ls []) := by
  have hx := X.1
  have hb := X.2.1
  have hown := X.2.2.2.2.1
  have hts := X.2.2.2.2.2.1
  unfold bd_X4_unlike_55 at h
  refine lv_iload hx hb dX4_unlike_55 (lv_at hl 2 rfl) ?_
  refine lv_aload_n hx hb dX4_unlike_57 rfl (lv_at hl 0 rfl) ?_
  refine rw_getI X hK hR 3 1 k3 (by decide) (C := RX2) (T := TX2) (N := 3) rfl (by decide) in_X4_unlike_3 (by decide +kernel) rfl dX4_unlike_58 ?_
  refine lv_icmp_ge (tgt := 92) hx hb dX4_unlike_61 (by decide) (fun hc => ?_) (fun hc => ?_)
  · have h := of_pos hc h
    exact kx1 () (Option.some.inj h).symm H locs ls hR hS (lv_sub hl [] rfl)
  · have h := of_neg hc h
    refine lv_aload_n hx hb dX4_unlike_64 rfl (lv_at hl 0 rfl) ?_
    refine rw_getR X hK hT hR 3 2 8 k3 (by decide) (C := RX2) (T := TX2) (N := 3) rfl (by decide) in_X4_unlike_3 (by decide +kernel) rfl dX4_unlike_65 (fun kf_4 => ?_)
    refine lv_iload hx hb dX4_unlike_68 (lv_at hl 2 rfl) ?_
    obtain ⟨hg_5, h⟩ := of_guard h
    refine rw_lald X hK hR kf_4 hg_5 dX4_unlike_70 ?_
    refine lv_aload hx hb dX4_unlike_71 (lv_at hl 1 rfl) ?_
    refine rw_getR X hK hT hR 3 2 8 k4 (by decide) (C := RX2) (T := TX2) (N := 3) rfl (by decide) in_X4_unlike_3 (by decide +kernel) rfl dX4_unlike_73 (fun kf_6 => ?_)
    refine lv_iload hx hb dX4_unlike_76 (lv_at hl 2 rfl) ?_
    obtain ⟨hg_7, h⟩ := of_guard h
    refine rw_lald X hK hR kf_6 hg_7 dX4_unlike_78 ?_
    refine W.lcmp hx hb dX4_unlike_79 ?_
    refine lv_if_eq (tgt := 86) hx hb dX4_unlike_80 (by decide) (fun hc => ?_) (fun hc => ?_)
    · have h := of_pos hc h
      obtain ⟨v_8, e_v_8⟩ : ∃ y : Int32, y = (s9 + (1 : Int32)) := ⟨_, rfl⟩
      have h := of_nm e_v_8 h
      refine lv_iinc (v := v_8) (lv' := [(5, .int v_8), (3, .ref a3), (4, .ref a4)]) hx hb dX4_unlike_86 hl (k := 2) rfl (by rw [e_v_8]; rfl) (by decide) rfl (fun ls hl => ?_)
      refine lv_goto (tgt := 55) hx hb dX4_unlike_89 (by decide) ?_
      exact kb v_8 (Option.some.inj h).symm H locs ls hR hS (lv_sub hl [1, 2, 0] rfl)
    · have h := of_neg hc h
      exact kx0 s9 (Option.some.inj h).symm H locs ls hR hS (lv_sub hl [2] rfl)

set_option maxHeartbeats 4000000 in
set_option maxRecDepth 100000 in
theorem w_lp_X4_unlike_55 (X : Cx cX4_unlike (some .int) 6 RX4 wsX4_unlike p s m args meth c) (hK : Kn cA D s) (hT : TL Λ) (hM : 2 ≤ R.frames ∧ 43 ≤ R.locals) (a3 : Nat) (a4 : Nat) (k3 : isK Λ a3 3) (k4 : isK Λ a4 3) {e9 : (Int32 ⊕ Unit)} : ∀ (n9 : Nat) (s9 : Int32), iter (bd_X4_unlike_55 Λ σ a3 a4) n9 s9 = some e9 → ∀ (kx0 : ∀ z : Int32, e9 = .inl z → ∀ (H : Heap) (locs : List Loc) (ls : Array Slot), Rep cA D Λ σ H → va_S (dm Λ) s.heap H locs → lv_has ls 6 [(5, .int z)] → W p l e R s m args below meth c H locs 0 0 Q (F0 m 83 ls [])), ∀ (kx1 : ∀ z : Unit, e9 = .inr z → ∀ (H : Heap) (locs : List Loc) (ls : Array Slot), Rep cA D Λ σ H → va_S (dm Λ) s.heap H locs → lv_has ls 6 [] → W p l e R s m args below meth c H locs 0 0 Q (F0 m 92 ls [])), ∀ (H : Heap) (locs : List Loc) (ls : Array Slot), Rep cA D Λ σ H → va_S (dm Λ) s.heap H locs → lv_has ls 6 [(3, .ref a3), (4, .ref a4), (5, .int s9)] → W p l e R s m args below meth c H locs 0 0 Q (F0 m 55 ls []) := by
  intro n9
  induction n9 with
  | zero => intro s9 h; cases h
  | succ n9 ih =>
    intro s9 h kx0 kx1 H locs ls hR hS hl
    obtain ⟨r, hr, h⟩ := of_iter h
    refine w_bd_X4_unlike_55 X hK hT hM a3 a4 s9 k3 k4 hr (fun z ez H locs ls hR hS hl => ?_) (fun z ez H locs ls hR hS hl => ?_) (fun z ez H locs ls hR hS hl => ?_) H locs ls hR hS hl
    · exact ih z (of_itl ez h) kx0 kx1 H locs ls hR hS hl
    · exact kx0 z (of_itr ez h).symm H locs ls hR hS hl
    · exact kx1 z (of_itr ez h).symm H locs ls hR hS hl

set_option maxHeartbeats 4000000 in
set_option maxRecDepth 100000 in
theorem w_X4_unlike (X : Cx cX4_unlike (some .int) 6 RX4 wsX4_unlike p s m args meth c) (hK : Kn cA D s) (hT : TL Λ) (hM : 2 ≤ R.frames ∧ 43 ≤ R.locals) (a0 : Nat) (l1 : Int32) (l2 : Int32) (k0 : isK Λ a0 5) {res : Int32} (h : F_X4_unlike Λ σ a0 l1 l2 = some res) (H : Heap) (locs : List Loc) (ls : Array Slot) (hR : Rep cA D Λ σ H) (hS : va_S (dm Λ) s.heap H locs) (hl : lv_has ls 6 [(0, .ref a0), (1, .int l1), (2, .int l2)]) : W p l e R s m args below meth c H locs 0 0 (MQ below (QI cA D Λ (res, σ)) args s 0 0 (dm Λ)) (F0 m 0 ls []) := by
  have hx := X.1
  have hb := X.2.1
  have hown := X.2.2.2.2.1
  have hts := X.2.2.2.2.2.1
  unfold F_X4_unlike at h
  refine lv_aload_n hx hb dX4_unlike_0 rfl (lv_at hl 0 rfl) ?_
  refine lv_iload_n hx hb dX4_unlike_1 rfl (lv_at hl 1 rfl) ?_
  obtain ⟨q_1, hq_1, h⟩ := of_bind h
  refine cl_q (rn_V (As := [.int l1]) (rest := []) X hK hR k0 rfl (by decide) hl.1 (c_X4_find l cA D Λ hT σ a0 l1 k0 hq_1) (cwV 1 hts gX4_unlike_X4_find rfl rfl rfl (by decide +kernel) ⟨Nat.le_trans (by decide) hM.1, Nat.le_trans (by decide) hM.2⟩) rfl rfl (Nat.le_of_ble_eq_true rfl) dX4_unlike_2) hS (fun hn_1 H locs hR hS => ?_) (fun a_1 hn_1 kf_1 H locs hR hS => ?_)
  · have h := of_ocn hn_1 h
    refine lv_astore_nN (lv' := [(3, .null), (0, .ref a0), (1, .int l1), (2, .int l2)]) hx hb dX4_unlike_5 rfl hl (by decide) rfl (fun ls hl => ?_)
    refine lv_aload_n hx hb dX4_unlike_6 rfl (lv_at hl 1 rfl) ?_
    refine lv_iload_n hx hb dX4_unlike_7 rfl (lv_at hl 3 rfl) ?_
    obtain ⟨q_2, hq_2, h⟩ := of_bind h
    refine cl_q (rn_V (As := [.int l2]) (rest := []) X hK hR k0 rfl (by decide) hl.1 (c_X4_find l cA D Λ hT σ a0 l2 k0 hq_2) (cwV 1 hts gX4_unlike_X4_find rfl rfl rfl (by decide +kernel) ⟨Nat.le_trans (by decide) hM.1, Nat.le_trans (by decide) hM.2⟩) rfl rfl (Nat.le_of_ble_eq_true rfl) dX4_unlike_8) hS (fun hn_2 H locs hR hS => ?_) (fun a_2 hn_2 kf_2 H locs hR hS => ?_)
    · have h := of_ocn hn_2 h
      refine lv_astoreN (lv' := [(4, .null), (3, .null), (0, .ref a0), (1, .int l1), (2, .int l2)]) hx hb dX4_unlike_11 hl (by decide) rfl (fun ls hl => ?_)
      refine lv_aload_nN hx hb dX4_unlike_13 rfl (lv_at hl 1 rfl) ?_
      refine lv_ifnullN (tgt := 22) hx hb dX4_unlike_14 (by decide) ?_
      refine lv_bipush (v := (-2 : Int32)) hx hb dX4_unlike_22 (by decide) ?_
      exact rt_i X hR hS (congrArg (fun z => (z, σ)) (Option.some.inj h)) dX4_unlike_24
    · have h := of_ocs hn_2 h
      refine lv_astore (lv' := [(4, .ref a_2), (3, .null), (0, .ref a0), (1, .int l1), (2, .int l2)]) hx hb dX4_unlike_11 hl (by decide) rfl (fun ls hl => ?_)
      refine lv_aload_nN hx hb dX4_unlike_13 rfl (lv_at hl 1 rfl) ?_
      refine lv_ifnullN (tgt := 22) hx hb dX4_unlike_14 (by decide) ?_
      refine lv_bipush (v := (-2 : Int32)) hx hb dX4_unlike_22 (by decide) ?_
      exact rt_i X hR hS (congrArg (fun z => (z, σ)) (Option.some.inj h)) dX4_unlike_24
  · have h := of_ocs hn_1 h
    refine lv_astore_n (lv' := [(3, .ref a_1), (0, .ref a0), (1, .int l1), (2, .int l2)]) hx hb dX4_unlike_5 rfl hl (by decide) rfl (fun ls hl => ?_)
    refine lv_aload_n hx hb dX4_unlike_6 rfl (lv_at hl 1 rfl) ?_
    refine lv_iload_n hx hb dX4_unlike_7 rfl (lv_at hl 3 rfl) ?_
    obtain ⟨q_3, hq_3, h⟩ := of_bind h
    refine cl_q (rn_V (As := [.int l2]) (rest := []) X hK hR k0 rfl (by decide) hl.1 (c_X4_find l cA D Λ hT σ a0 l2 k0 hq_3) (cwV 1 hts gX4_unlike_X4_find rfl rfl rfl (by decide +kernel) ⟨Nat.le_trans (by decide) hM.1, Nat.le_trans (by decide) hM.2⟩) rfl rfl (Nat.le_of_ble_eq_true rfl) dX4_unlike_8) hS (fun hn_3 H locs hR hS => ?_) (fun a_3 hn_3 kf_3 H locs hR hS => ?_)
    · have h := of_ocn hn_3 h
      refine lv_astoreN (lv' := [(4, .null), (3, .ref a_1), (0, .ref a0), (1, .int l1), (2, .int l2)]) hx hb dX4_unlike_11 hl (by decide) rfl (fun ls hl => ?_)
      refine lv_aload_n hx hb dX4_unlike_13 rfl (lv_at hl 1 rfl) ?_
      refine lv_ifnull hx hb dX4_unlike_14 ?_
      refine lv_aloadN hx hb dX4_unlike_17 (lv_at hl 0 rfl) ?_
      refine lv_ifnonnullN hx hb dX4_unlike_19 ?_
      refine lv_bipush (v := (-2 : Int32)) hx hb dX4_unlike_22 (by decide) ?_
      exact rt_i X hR hS (congrArg (fun z => (z, σ)) (Option.some.inj h)) dX4_unlike_24
    · have h := of_ocs hn_3 h
      refine lv_astore (lv' := [(4, .ref a_3), (3, .ref a_1), (0, .ref a0), (1, .int l1), (2, .int l2)]) hx hb dX4_unlike_11 hl (by decide) rfl (fun ls hl => ?_)
      refine lv_aload_n hx hb dX4_unlike_13 rfl (lv_at hl 1 rfl) ?_
      refine lv_ifnull hx hb dX4_unlike_14 ?_
      refine lv_aload hx hb dX4_unlike_17 (lv_at hl 0 rfl) ?_
      refine lv_ifnonnull (tgt := 25) hx hb dX4_unlike_19 (by decide) ?_
      refine lv_aload_n hx hb dX4_unlike_25 rfl (lv_at hl 1 rfl) ?_
      refine rw_getI X hK hR 3 0 kf_1 (by decide) (C := RX2) (T := TX2) (N := 3) rfl (by decide) in_X4_unlike_3 (by decide +kernel) rfl dX4_unlike_26 ?_
      refine lv_aload hx hb dX4_unlike_29 (lv_at hl 0 rfl) ?_
      refine rw_getI X hK hR 3 0 kf_3 (by decide) (C := RX2) (T := TX2) (N := 3) rfl (by decide) in_X4_unlike_3 (by decide +kernel) rfl dX4_unlike_31 ?_
      refine lv_icmp_ne (tgt := 49) hx hb dX4_unlike_34 (by decide) (fun hc => ?_) (fun hc => ?_)
      · have h := of_neg hc h
        refine lv_bipush (v := (100 : Int32)) hx hb dX4_unlike_49 (by decide) ?_
        exact rt_i X hR hS (congrArg (fun z => (z, σ)) (Option.some.inj h)) dX4_unlike_51
      · have h := of_pos hc h
        refine lv_aload_n hx hb dX4_unlike_37 rfl (lv_at hl 1 rfl) ?_
        refine rw_getI X hK hR 3 1 kf_1 (by decide) (C := RX2) (T := TX2) (N := 3) rfl (by decide) in_X4_unlike_3 (by decide +kernel) rfl dX4_unlike_38 ?_
        refine lv_aload hx hb dX4_unlike_41 (lv_at hl 0 rfl) ?_
        refine rw_getI X hK hR 3 1 kf_3 (by decide) (C := RX2) (T := TX2) (N := 3) rfl (by decide) in_X4_unlike_3 (by decide +kernel) rfl dX4_unlike_43 ?_
        refine lv_icmp_eq (tgt := 52) hx hb dX4_unlike_46 (by decide) (fun hc => ?_) (fun hc => ?_)
        · have h := of_pos hc h
          refine lv_iconst (v := (0 : Int32)) hx hb dX4_unlike_52 (by decide) ?_
          refine lv_istore (lv' := [(5, .int (0 : Int32)), (4, .ref a_3), (3, .ref a_1), (0, .ref a0), (1, .int l1), (2, .int l2)]) hx hb dX4_unlike_53 hl (by decide) rfl (fun ls hl => ?_)
          obtain ⟨e_9, hq_9, h⟩ := of_bind h
          refine w_lp_X4_unlike_55 X hK hT hM a_1 a_3 kf_1 kf_3 _ (0 : Int32) hq_9 (fun z_9 ez H locs ls hR hS hl => ?_) (fun z_9 ez H locs ls hR hS hl => ?_) H locs ls hR hS (lv_sub hl [2, 1, 0] rfl)
          · have h := of_scl ez h
            refine lv_iload hx hb dX4_unlike_83 (lv_at hl 0 rfl) ?_
            exact rt_i X hR hS (congrArg (fun z => (z, σ)) (Option.some.inj h)) dX4_unlike_85
          · have h := of_scr ez h
            refine lv_iconst (v := (-1 : Int32)) hx hb dX4_unlike_92 (by decide) ?_
            exact rt_i X hR hS (congrArg (fun z => (z, σ)) (Option.some.inj h)) dX4_unlike_93
        · have h := of_neg hc h
          refine lv_bipush (v := (100 : Int32)) hx hb dX4_unlike_49 (by decide) ?_
          exact rt_i X hR hS (congrArg (fun z => (z, σ)) (Option.some.inj h)) dX4_unlike_51

set_option maxHeartbeats 4000000 in
set_option maxRecDepth 100000 in
theorem c_X4_unlike (l : Launch) (cA : Nat → ClassId) (D : va_G) (Λ : Lay) (hT : TL Λ) (σ : Sto) (a0 : Nat) (l1 : Int32) (l2 : Int32) (k0 : isK Λ a0 5) {res : Int32} (h : F_X4_unlike Λ σ a0 l1 l2 = some res) : Met l yX4_unlike wsX4_unlike { frames := 2, cells := 0, slots := 0, locals := 43 } (va_Pc [.ref a0, .int l1, .int l2] (PW cA D Λ σ)) (QI cA D Λ (res, σ)) 0 0 (dm Λ) := by
  refine Met.ofW (cc := cX4_unlike) (maxL := 6) (ret := (some .int)) (by decide) rfl ?_
  intro p e s m args below meth c s₁ B hml hv
  obtain ⟨rfl, hR, hK⟩ := hv
  have X : Cx cX4_unlike (some .int) 6 RX4 wsX4_unlike p s m _ meth c := ⟨B.exec, B.bytes, B.returns, hml, findClass_of_methodNamed B.named, atoms_spec (ws := wsX4_unlike) B.pre, B.notSynchronized⟩
  have hS : va_S (dm Λ) s.heap s.heap [] := va_S.rf
  have hl := lv_entry ([.ref a0, .int l1, .int l2]) (n := 6) (Nat.le_of_ble_eq_true rfl)
  rw [lg_entry_eq]
  generalize (lg_sl ([.ref a0, .int l1, .int l2]) ++ List.replicate (6 - (lg_sl ([.ref a0, .int l1, .int l2])).length) Slot.unset).toArray = ls at hl ⊢
  have hl : lv_has ls 6 [(0, .ref a0), (1, .int l1), (2, .int l2)] := hl
  exact w_X4_unlike X hK hT ⟨Nat.le_refl _, Nat.le_refl _⟩ a0 l1 l2 k0 h s.heap [] ls hR hS hl
set_option maxHeartbeats 4000000 in
set_option maxRecDepth 100000 in
theorem w_X4_isShear (X : Cx cX4_isShear (some .boolean) 1 RX4 wsX4_isShear p s m args meth c) (hK : Kn cA D s) (hT : TL Λ) (hM : 1 ≤ R.frames ∧ 22 ≤ R.locals) (l0 : Int32) {res : Int32} (h : F_X4_isShear l0 = res) (H : Heap) (locs : List Loc) (ls : Array Slot) (hR : Rep cA D Λ σ H) (hS : va_S (dm Λ) s.heap H locs) (hl : lv_has ls 1 [(0, .int l0)]) : W p l e R s m args below meth c H locs 0 0 (MQ below (QZ cA D Λ (res, σ)) args s 0 0 (dm Λ)) (F0 m 0 ls []) := by
  have hx := X.1
  have hb := X.2.1
  have hown := X.2.2.2.2.1
  have hts := X.2.2.2.2.2.1
  unfold F_X4_isShear at h
  refine lv_iload_n hx hb dX4_isShear_0 rfl (lv_at hl 0 rfl) ?_
  refine lv_bipush (v := (-16 : Int32)) hx hb dX4_isShear_1 (by decide) ?_
  refine lv_bipush (v := (16 : Int32)) hx hb dX4_isShear_3 (by decide) ?_
  refine cl_z (rn_S (As := [.int l0, .int (-16 : Int32), .int (16 : Int32)]) (rest := []) X hK hR hl.1 (c_X4_within l cA D Λ hT σ l0 (-16 : Int32) (16 : Int32)) (va_cwS 3 hts gX4_isShear_X4_within rfl rfl rfl (by decide +kernel) ⟨Nat.le_trans (by decide) hM.1, Nat.le_trans (by decide) hM.2⟩) rfl rfl (Nat.le_of_ble_eq_true rfl) dX4_isShear_5) hS (fun hz_1 H locs hR hS => ?_)
  refine lv_topi (fun r_1 e_1 => ?_)
  have h := of_nm e_1 h
  have hz_1 : r_1 = 0 ∨ r_1 = 1 := by rw [e_1]; exact hz_1
  exact rt_z X hR hS (congrArg (fun z => (z, σ)) h) hz_1 dX4_isShear_8

set_option maxHeartbeats 4000000 in
set_option maxRecDepth 100000 in
theorem c_X4_isShear (l : Launch) (cA : Nat → ClassId) (D : va_G) (Λ : Lay) (hT : TL Λ) (σ : Sto) (l0 : Int32) : Met l yX4_isShear wsX4_isShear { frames := 1, cells := 0, slots := 0, locals := 22 } (va_Pc [.int l0] (PW cA D Λ σ)) (QZ cA D Λ ((F_X4_isShear l0), σ)) 0 0 (dm Λ) := by
  refine Met.ofW (cc := cX4_isShear) (maxL := 1) (ret := (some .boolean)) (by decide) rfl ?_
  intro p e s m args below meth c s₁ B hml hv
  obtain ⟨rfl, hR, hK⟩ := hv
  have X : Cx cX4_isShear (some .boolean) 1 RX4 wsX4_isShear p s m _ meth c := ⟨B.exec, B.bytes, B.returns, hml, findClass_of_methodNamed B.named, atoms_spec (ws := wsX4_isShear) B.pre, B.notSynchronized⟩
  have hS : va_S (dm Λ) s.heap s.heap [] := va_S.rf
  have hl := lv_entry ([.int l0]) (n := 1) (Nat.le_of_ble_eq_true rfl)
  rw [lg_entry_eq]
  generalize (lg_sl ([.int l0]) ++ List.replicate (1 - (lg_sl ([.int l0])).length) Slot.unset).toArray = ls at hl ⊢
  have hl : lv_has ls 1 [(0, .int l0)] := hl
  exact w_X4_isShear X hK hT ⟨Nat.le_refl _, Nat.le_refl _⟩ l0 rfl s.heap [] ls hR hS hl
theorem in_X4_across_3 : ∀ w ∈ u_ws RX2 TX2 3, w ∈ wsX4_across := by decide +kernel
theorem in_X4_across_5 : ∀ w ∈ u_ws RX4 TX4 8, w ∈ wsX4_across := by decide +kernel
set_option maxHeartbeats 4000000 in
set_option maxRecDepth 100000 in
theorem w_X4_across (X : Cx cX4_across (some .int) 4 RX4 wsX4_across p s m args meth c) (hK : Kn cA D s) (hT : TL Λ) (hM : 4 ≤ R.frames ∧ 91 ≤ R.locals) (a0 : Nat) (l1 : Int32) (l2 : Int32) (k0 : isK Λ a0 5) {res : Int32 × Sto} (h : F_X4_across Λ σ a0 l1 l2 = some res) (H : Heap) (locs : List Loc) (ls : Array Slot) (hR : Rep cA D Λ σ H) (hS : va_S (dm Λ) s.heap H locs) (hl : lv_has ls 4 [(0, .ref a0), (1, .int l1), (2, .int l2)]) : W p l e R s m args below meth c H locs 0 0 (MQ below (QI cA D Λ res) args s 0 0 (dm Λ)) (F0 m 0 ls []) := by
  have hx := X.1
  have hb := X.2.1
  have hown := X.2.2.2.2.1
  have hts := X.2.2.2.2.2.1
  unfold F_X4_across at h
  refine lv_aload_n hx hb dX4_across_0 rfl (lv_at hl 0 rfl) ?_
  refine lv_iload_n hx hb dX4_across_1 rfl (lv_at hl 1 rfl) ?_
  obtain ⟨q_1, hq_1, h⟩ := of_bind h
  refine cl_q (rn_V (As := [.int l1]) (rest := []) X hK hR k0 rfl (by decide) hl.1 (c_X4_find l cA D Λ hT σ a0 l1 k0 hq_1) (cwV 1 hts gX4_across_X4_find rfl rfl rfl (by decide +kernel) ⟨Nat.le_trans (by decide) hM.1, Nat.le_trans (by decide) hM.2⟩) rfl rfl (Nat.le_of_ble_eq_true rfl) dX4_across_2) hS (fun hn_1 H locs hR hS => ?_) (fun a_1 hn_1 kf_1 H locs hR hS => ?_)
  · have h := of_ocn hn_1 h
    refine lv_astore_nN (lv' := [(3, .null), (0, .ref a0), (1, .int l1), (2, .int l2)]) hx hb dX4_across_5 rfl hl (by decide) rfl (fun ls hl => ?_)
    refine lv_aload_nN hx hb dX4_across_6 rfl (lv_at hl 0 rfl) ?_
    refine lv_ifnullN (tgt := 35) hx hb dX4_across_7 (by decide) ?_
    refine lv_iconst (v := (-1 : Int32)) hx hb dX4_across_35 (by decide) ?_
    exact rt_i X hR hS (Option.some.inj h) dX4_across_36
  · have h := of_ocs hn_1 h
    refine lv_astore_n (lv' := [(3, .ref a_1), (0, .ref a0), (1, .int l1), (2, .int l2)]) hx hb dX4_across_5 rfl hl (by decide) rfl (fun ls hl => ?_)
    refine lv_aload_n hx hb dX4_across_6 rfl (lv_at hl 0 rfl) ?_
    refine lv_ifnull hx hb dX4_across_7 ?_
    refine lv_iload_n hx hb dX4_across_10 rfl (lv_at hl 3 rfl) ?_
    refine cl_z (rn_S (As := [.int l2]) (rest := []) X hK hR hl.1 (c_X4_isShear l cA D Λ hT σ l2) (va_cwS 1 hts gX4_across_X4_isShear rfl rfl rfl (by decide +kernel) ⟨Nat.le_trans (by decide) hM.1, Nat.le_trans (by decide) hM.2⟩) rfl rfl (Nat.le_of_ble_eq_true rfl) dX4_across_11) hS (fun hz_2 H locs hR hS => ?_)
    refine lv_topi (fun r_2 e_2 => ?_)
    have h := of_nm e_2 h
    have hz_2 : r_2 = 0 ∨ r_2 = 1 := by rw [e_2]; exact hz_2
    refine lv_if_eq (tgt := 35) hx hb dX4_across_14 (by decide) (fun hc => ?_) (fun hc => ?_)
    · have h := of_pos hc h
      refine lv_iconst (v := (-1 : Int32)) hx hb dX4_across_35 (by decide) ?_
      exact rt_i X hR hS (Option.some.inj h) dX4_across_36
    · have h := of_neg hc h
      refine lv_aload_n hx hb dX4_across_17 rfl (lv_at hl 0 rfl) ?_
      refine rw_getI X hK hR 3 0 kf_1 (by decide) (C := RX2) (T := TX2) (N := 3) rfl (by decide) in_X4_across_3 (by decide +kernel) rfl dX4_across_18 ?_
      refine lv_iload_n hx hb dX4_across_21 rfl (lv_at hl 3 rfl) ?_
      refine lv_aload_n hx hb dX4_across_22 rfl (lv_at hl 0 rfl) ?_
      refine rw_getI X hK hR 3 1 kf_1 (by decide) (C := RX2) (T := TX2) (N := 3) rfl (by decide) in_X4_across_3 (by decide +kernel) rfl dX4_across_23 ?_
      refine cl_i (rn_S (As := [.int l2, .int (σ.1 a_1 1)]) (rest := [.int (σ.1 a_1 0)]) X hK hR hl.1 (c_X4_spread l cA D Λ hT σ l2 (σ.1 a_1 1)) (va_cwS 2 hts gX4_across_X4_spread rfl rfl rfl (by decide +kernel) ⟨Nat.le_trans (by decide) hM.1, Nat.le_trans (by decide) hM.2⟩) rfl rfl (Nat.le_of_ble_eq_true rfl) dX4_across_26) hS (fun H locs hR hS => ?_)
      refine lv_topi (fun r_3 e_3 => ?_)
      have h := of_nm e_3 h
      refine lv_iadd hx hb dX4_across_29 ?_
      refine lv_bipush (v := (64 : Int32)) hx hb dX4_across_30 (by decide) ?_
      refine lv_icmp_le (tgt := 37) hx hb dX4_across_32 (by decide) (fun hc => ?_) (fun hc => ?_)
      · have h := of_pos hc h
        refine lv_aload_n hx hb dX4_across_37 rfl (lv_at hl 1 rfl) ?_
        refine rw_getR X hK hT hR 5 2 2 k0 (by decide) (C := RX4) (T := TX4) (N := 8) rfl (by decide) in_X4_across_5 (by decide +kernel) rfl dX4_across_38 (fun kf_4 => ?_)
        refine lv_iload_n hx hb dX4_across_41 rfl (lv_at hl 2 rfl) ?_
        refine lv_aload_n hx hb dX4_across_42 rfl (lv_at hl 0 rfl) ?_
        refine lv_iconst (v := (-1 : Int32)) hx hb dX4_across_43 (by decide) ?_
        obtain ⟨q_5, hq_5, h⟩ := of_bind h
        refine cl_v (rn_V (As := [.int l1, .ref a_1, .int (-1 : Int32)]) (rest := []) X hK hR kf_4 rfl (by decide) hl.1 (c_X1_remember l cA D Λ hT σ (rfA Λ a0 2) l1 a_1 (-1 : Int32) kf_4 kf_1 hq_5) (cwV 3 hts gX4_across_X1_remember rfl rfl rfl (by decide +kernel) ⟨Nat.le_trans (by decide) hM.1, Nat.le_trans (by decide) hM.2⟩) rfl rfl (Nat.le_of_ble_eq_true rfl) dX4_across_44) hS (fun H locs hR hS => ?_)
        refine lv_aload_n hx hb dX4_across_47 rfl (lv_at hl 0 rfl) ?_
        refine lv_iload_n hx hb dX4_across_48 rfl (lv_at hl 3 rfl) ?_
        obtain ⟨q_6, hq_6, h⟩ := of_bind h
        refine cl_v (rn_V (As := [.int l2]) (rest := []) X hK hR kf_1 rfl (by decide) hl.1 (c_X2_shearAcross l cA D Λ hT q_5 a_1 l2 kf_1 hq_6) (cwV 1 hts gX4_across_X2_shearAcross rfl rfl rfl (by decide +kernel) ⟨Nat.le_trans (by decide) hM.1, Nat.le_trans (by decide) hM.2⟩) rfl rfl (Nat.le_of_ble_eq_true rfl) dX4_across_49) hS (fun H locs hR hS => ?_)
        refine lv_aload_n hx hb dX4_across_52 rfl (lv_at hl 0 rfl) ?_
        refine rw_getI X hK hR 3 0 kf_1 (by decide) (C := RX2) (T := TX2) (N := 3) rfl (by decide) in_X4_across_3 (by decide +kernel) rfl dX4_across_53 ?_
        exact rt_i X hR hS (Option.some.inj h) dX4_across_56
      · have h := of_neg hc h
        refine lv_iconst (v := (-1 : Int32)) hx hb dX4_across_35 (by decide) ?_
        exact rt_i X hR hS (Option.some.inj h) dX4_across_36

set_option maxHeartbeats 4000000 in
set_option maxRecDepth 100000 in
theorem c_X4_across (l : Launch) (cA : Nat → ClassId) (D : va_G) (Λ : Lay) (hT : TL Λ) (σ : Sto) (a0 : Nat) (l1 : Int32) (l2 : Int32) (k0 : isK Λ a0 5) {res : Int32 × Sto} (h : F_X4_across Λ σ a0 l1 l2 = some res) : Met l yX4_across wsX4_across { frames := 4, cells := 0, slots := 0, locals := 91 } (va_Pc [.ref a0, .int l1, .int l2] (PW cA D Λ σ)) (QI cA D Λ res) 0 0 (dm Λ) := by
  refine Met.ofW (cc := cX4_across) (maxL := 4) (ret := (some .int)) (by decide) rfl ?_
  intro p e s m args below meth c s₁ B hml hv
  obtain ⟨rfl, hR, hK⟩ := hv
  have X : Cx cX4_across (some .int) 4 RX4 wsX4_across p s m _ meth c := ⟨B.exec, B.bytes, B.returns, hml, findClass_of_methodNamed B.named, atoms_spec (ws := wsX4_across) B.pre, B.notSynchronized⟩
  have hS : va_S (dm Λ) s.heap s.heap [] := va_S.rf
  have hl := lv_entry ([.ref a0, .int l1, .int l2]) (n := 4) (Nat.le_of_ble_eq_true rfl)
  rw [lg_entry_eq]
  generalize (lg_sl ([.ref a0, .int l1, .int l2]) ++ List.replicate (4 - (lg_sl ([.ref a0, .int l1, .int l2])).length) Slot.unset).toArray = ls at hl ⊢
  have hl : lv_has ls 4 [(0, .ref a0), (1, .int l1), (2, .int l2)] := hl
  exact w_X4_across X hK hT ⟨Nat.le_refl _, Nat.le_refl _⟩ a0 l1 l2 k0 h s.heap [] ls hR hS hl
theorem in_X4_shearUp_5 : ∀ w ∈ u_ws RX4 TX4 8, w ∈ wsX4_shearUp := by decide +kernel
set_option maxHeartbeats 4000000 in
set_option maxRecDepth 100000 in
theorem w_X4_shearUp (X : Cx cX4_shearUp none 3 RX4 wsX4_shearUp p s m args meth c) (hK : Kn cA D s) (hT : TL Λ) (hM : 4 ≤ R.frames ∧ 90 ≤ R.locals) (a0 : Nat) (a1 : Nat) (l2 : Int32) (k0 : isK Λ a0 5) (k1 : isK Λ a1 3) {res : Sto} (h : F_X4_shearUp Λ σ a0 a1 l2 = some res) (H : Heap) (locs : List Loc) (ls : Array Slot) (hR : Rep cA D Λ σ H) (hS : va_S (dm Λ) s.heap H locs) (hl : lv_has ls 3 [(0, .ref a0), (1, .ref a1), (2, .int l2)]) : W p l e R s m args below meth c H locs 0 0 (MQ below (QV cA D Λ res) args s 0 0 (dm Λ)) (F0 m 0 ls []) := by
  have hx := X.1
  have hb := X.2.1
  have hown := X.2.2.2.2.1
  have hts := X.2.2.2.2.2.1
  unfold F_X4_shearUp at h
  refine lv_aload_n hx hb dX4_shearUp_0 rfl (lv_at hl 0 rfl) ?_
  refine rw_getR X hK hT hR 5 5 3 k0 (by decide) (C := RX4) (T := TX4) (N := 8) rfl (by decide) in_X4_shearUp_5 (by decide +kernel) rfl dX4_shearUp_1 (fun kf_1 => ?_)
  refine lv_aload_n hx hb dX4_shearUp_4 rfl (lv_at hl 1 rfl) ?_
  refine lv_iload_n hx hb dX4_shearUp_5 rfl (lv_at hl 2 rfl) ?_
  obtain ⟨q_2, hq_2, h⟩ := of_bind h
  refine cl_v (rn_V (As := [.ref a1, .int l2]) (rest := []) X hK hR kf_1 rfl (by decide) hl.1 (c_X2_becomeShearedUp l cA D Λ hT σ (rfA Λ a0 5) a1 l2 kf_1 k1 hq_2) (cwV 2 hts gX4_shearUp_X2_becomeShearedUp rfl rfl rfl (by decide +kernel) ⟨Nat.le_trans (by decide) hM.1, Nat.le_trans (by decide) hM.2⟩) rfl rfl (Nat.le_of_ble_eq_true rfl) dX4_shearUp_6) hS (fun H locs hR hS => ?_)
  refine lv_aload_n hx hb dX4_shearUp_9 rfl (lv_at hl 1 rfl) ?_
  refine lv_aload_n hx hb dX4_shearUp_10 rfl (lv_at hl 0 rfl) ?_
  refine rw_getR X hK hT hR 5 5 3 k0 (by decide) (C := RX4) (T := TX4) (N := 8) rfl (by decide) in_X4_shearUp_5 (by decide +kernel) rfl dX4_shearUp_11 (fun kf_3 => ?_)
  obtain ⟨q_4, hq_4, h⟩ := of_bind h
  refine cl_v (rn_V (As := [.ref (rfA Λ a0 5)]) (rest := []) X hK hR k1 rfl (by decide) hl.1 (c_X2_become l cA D Λ hT q_2 a1 (rfA Λ a0 5) k1 kf_3 hq_4) (cwV 1 hts gX4_shearUp_X2_become rfl rfl rfl (by decide +kernel) ⟨Nat.le_trans (by decide) hM.1, Nat.le_trans (by decide) hM.2⟩) rfl rfl (Nat.le_of_ble_eq_true rfl) dX4_shearUp_14) hS (fun H locs hR hS => ?_)
  exact rt_v X hR hS (Option.some.inj h) dX4_shearUp_17

set_option maxHeartbeats 4000000 in
set_option maxRecDepth 100000 in
theorem c_X4_shearUp (l : Launch) (cA : Nat → ClassId) (D : va_G) (Λ : Lay) (hT : TL Λ) (σ : Sto) (a0 : Nat) (a1 : Nat) (l2 : Int32) (k0 : isK Λ a0 5) (k1 : isK Λ a1 3) {res : Sto} (h : F_X4_shearUp Λ σ a0 a1 l2 = some res) : Met l yX4_shearUp wsX4_shearUp { frames := 4, cells := 0, slots := 0, locals := 90 } (va_Pc [.ref a0, .ref a1, .int l2] (PW cA D Λ σ)) (QV cA D Λ res) 0 0 (dm Λ) := by
  refine Met.ofW (cc := cX4_shearUp) (maxL := 3) (ret := none) (by decide) rfl ?_
  intro p e s m args below meth c s₁ B hml hv
  obtain ⟨rfl, hR, hK⟩ := hv
  have X : Cx cX4_shearUp none 3 RX4 wsX4_shearUp p s m _ meth c := ⟨B.exec, B.bytes, B.returns, hml, findClass_of_methodNamed B.named, atoms_spec (ws := wsX4_shearUp) B.pre, B.notSynchronized⟩
  have hS : va_S (dm Λ) s.heap s.heap [] := va_S.rf
  have hl := lv_entry ([.ref a0, .ref a1, .int l2]) (n := 3) (Nat.le_of_ble_eq_true rfl)
  rw [lg_entry_eq]
  generalize (lg_sl ([.ref a0, .ref a1, .int l2]) ++ List.replicate (3 - (lg_sl ([.ref a0, .ref a1, .int l2])).length) Slot.unset).toArray = ls at hl ⊢
  have hl : lv_has ls 3 [(0, .ref a0), (1, .ref a1), (2, .int l2)] := hl
  exact w_X4_shearUp X hK hT ⟨Nat.le_refl _, Nat.le_refl _⟩ a0 a1 l2 k0 k1 h s.heap [] ls hR hS hl
theorem in_X4_upright_3 : ∀ w ∈ u_ws RX2 TX2 3, w ∈ wsX4_upright := by decide +kernel
theorem in_X4_upright_5 : ∀ w ∈ u_ws RX4 TX4 8, w ∈ wsX4_upright := by decide +kernel
set_option maxHeartbeats 4000000 in
set_option maxRecDepth 100000 in
theorem w_X4_upright (X : Cx cX4_upright (some .int) 4 RX4 wsX4_upright p s m args meth c) (hK : Kn cA D s) (hT : TL Λ) (hM : 5 ≤ R.frames ∧ 112 ≤ R.locals) (a0 : Nat) (l1 : Int32) (l2 : Int32) (k0 : isK Λ a0 5) {res : Int32 × Sto} (h : F_X4_upright Λ σ a0 l1 l2 = some res) (H : Heap) (locs : List Loc) (ls : Array Slot) (hR : Rep cA D Λ σ H) (hS : va_S (dm Λ) s.heap H locs) (hl : lv_has ls 4 [(0, .ref a0), (1, .int l1), (2, .int l2)]) : W p l e R s m args below meth c H locs 0 0 (MQ below (QI cA D Λ res) args s 0 0 (dm Λ)) (F0 m 0 ls []) := by
  have hx := X.1
  have hb := X.2.1
  have hown := X.2.2.2.2.1
  have hts := X.2.2.2.2.2.1
  unfold F_X4_upright at h
  refine lv_aload_n hx hb dX4_upright_0 rfl (lv_at hl 0 rfl) ?_
  refine lv_iload_n hx hb dX4_upright_1 rfl (lv_at hl 1 rfl) ?_
  obtain ⟨q_1, hq_1, h⟩ := of_bind h
  refine cl_q (rn_V (As := [.int l1]) (rest := []) X hK hR k0 rfl (by decide) hl.1 (c_X4_find l cA D Λ hT σ a0 l1 k0 hq_1) (cwV 1 hts gX4_upright_X4_find rfl rfl rfl (by decide +kernel) ⟨Nat.le_trans (by decide) hM.1, Nat.le_trans (by decide) hM.2⟩) rfl rfl (Nat.le_of_ble_eq_true rfl) dX4_upright_2) hS (fun hn_1 H locs hR hS => ?_) (fun a_1 hn_1 kf_1 H locs hR hS => ?_)
  · have h := of_ocn hn_1 h
    refine lv_astore_nN (lv' := [(3, .null), (0, .ref a0), (1, .int l1), (2, .int l2)]) hx hb dX4_upright_5 rfl hl (by decide) rfl (fun ls hl => ?_)
    refine lv_aload_nN hx hb dX4_upright_6 rfl (lv_at hl 0 rfl) ?_
    refine lv_ifnullN (tgt := 35) hx hb dX4_upright_7 (by decide) ?_
    refine lv_iconst (v := (-1 : Int32)) hx hb dX4_upright_35 (by decide) ?_
    exact rt_i X hR hS (Option.some.inj h) dX4_upright_36
  · have h := of_ocs hn_1 h
    refine lv_astore_n (lv' := [(3, .ref a_1), (0, .ref a0), (1, .int l1), (2, .int l2)]) hx hb dX4_upright_5 rfl hl (by decide) rfl (fun ls hl => ?_)
    refine lv_aload_n hx hb dX4_upright_6 rfl (lv_at hl 0 rfl) ?_
    refine lv_ifnull hx hb dX4_upright_7 ?_
    refine lv_iload_n hx hb dX4_upright_10 rfl (lv_at hl 3 rfl) ?_
    refine cl_z (rn_S (As := [.int l2]) (rest := []) X hK hR hl.1 (c_X4_isShear l cA D Λ hT σ l2) (va_cwS 1 hts gX4_upright_X4_isShear rfl rfl rfl (by decide +kernel) ⟨Nat.le_trans (by decide) hM.1, Nat.le_trans (by decide) hM.2⟩) rfl rfl (Nat.le_of_ble_eq_true rfl) dX4_upright_11) hS (fun hz_2 H locs hR hS => ?_)
    refine lv_topi (fun r_2 e_2 => ?_)
    have h := of_nm e_2 h
    have hz_2 : r_2 = 0 ∨ r_2 = 1 := by rw [e_2]; exact hz_2
    refine lv_if_eq (tgt := 35) hx hb dX4_upright_14 (by decide) (fun hc => ?_) (fun hc => ?_)
    · have h := of_pos hc h
      refine lv_iconst (v := (-1 : Int32)) hx hb dX4_upright_35 (by decide) ?_
      exact rt_i X hR hS (Option.some.inj h) dX4_upright_36
    · have h := of_neg hc h
      refine lv_aload_n hx hb dX4_upright_17 rfl (lv_at hl 0 rfl) ?_
      refine rw_getI X hK hR 3 1 kf_1 (by decide) (C := RX2) (T := TX2) (N := 3) rfl (by decide) in_X4_upright_3 (by decide +kernel) rfl dX4_upright_18 ?_
      refine lv_iload_n hx hb dX4_upright_21 rfl (lv_at hl 3 rfl) ?_
      refine lv_aload_n hx hb dX4_upright_22 rfl (lv_at hl 0 rfl) ?_
      refine rw_getI X hK hR 3 0 kf_1 (by decide) (C := RX2) (T := TX2) (N := 3) rfl (by decide) in_X4_upright_3 (by decide +kernel) rfl dX4_upright_23 ?_
      refine cl_i (rn_S (As := [.int l2, .int (σ.1 a_1 0)]) (rest := [.int (σ.1 a_1 1)]) X hK hR hl.1 (c_X4_spread l cA D Λ hT σ l2 (σ.1 a_1 0)) (va_cwS 2 hts gX4_upright_X4_spread rfl rfl rfl (by decide +kernel) ⟨Nat.le_trans (by decide) hM.1, Nat.le_trans (by decide) hM.2⟩) rfl rfl (Nat.le_of_ble_eq_true rfl) dX4_upright_26) hS (fun H locs hR hS => ?_)
      refine lv_topi (fun r_3 e_3 => ?_)
      have h := of_nm e_3 h
      refine lv_iadd hx hb dX4_upright_29 ?_
      refine lv_bipush (v := (64 : Int32)) hx hb dX4_upright_30 (by decide) ?_
      refine lv_icmp_le (tgt := 37) hx hb dX4_upright_32 (by decide) (fun hc => ?_) (fun hc => ?_)
      · have h := of_pos hc h
        refine lv_aload_n hx hb dX4_upright_37 rfl (lv_at hl 1 rfl) ?_
        refine rw_getR X hK hT hR 5 2 2 k0 (by decide) (C := RX4) (T := TX4) (N := 8) rfl (by decide) in_X4_upright_5 (by decide +kernel) rfl dX4_upright_38 (fun kf_4 => ?_)
        refine lv_iload_n hx hb dX4_upright_41 rfl (lv_at hl 2 rfl) ?_
        refine lv_aload_n hx hb dX4_upright_42 rfl (lv_at hl 0 rfl) ?_
        refine lv_iconst (v := (-1 : Int32)) hx hb dX4_upright_43 (by decide) ?_
        obtain ⟨q_5, hq_5, h⟩ := of_bind h
        refine cl_v (rn_V (As := [.int l1, .ref a_1, .int (-1 : Int32)]) (rest := []) X hK hR kf_4 rfl (by decide) hl.1 (c_X1_remember l cA D Λ hT σ (rfA Λ a0 2) l1 a_1 (-1 : Int32) kf_4 kf_1 hq_5) (cwV 3 hts gX4_upright_X1_remember rfl rfl rfl (by decide +kernel) ⟨Nat.le_trans (by decide) hM.1, Nat.le_trans (by decide) hM.2⟩) rfl rfl (Nat.le_of_ble_eq_true rfl) dX4_upright_44) hS (fun H locs hR hS => ?_)
        refine lv_aload_n hx hb dX4_upright_47 rfl (lv_at hl 1 rfl) ?_
        refine lv_aload_n hx hb dX4_upright_48 rfl (lv_at hl 0 rfl) ?_
        refine lv_iload_n hx hb dX4_upright_49 rfl (lv_at hl 3 rfl) ?_
        obtain ⟨q_6, hq_6, h⟩ := of_bind h
        refine cl_v (rn_V (As := [.ref a_1, .int l2]) (rest := []) X hK hR k0 rfl (by decide) hl.1 (c_X4_shearUp l cA D Λ hT q_5 a0 a_1 l2 k0 kf_1 hq_6) (cwV 2 hts gX4_upright_X4_shearUp rfl rfl rfl (by decide +kernel) ⟨Nat.le_trans (by decide) hM.1, Nat.le_trans (by decide) hM.2⟩) rfl rfl (Nat.le_of_ble_eq_true rfl) dX4_upright_50) hS (fun H locs hR hS => ?_)
        refine lv_aload_n hx hb dX4_upright_53 rfl (lv_at hl 0 rfl) ?_
        refine rw_getI X hK hR 3 1 kf_1 (by decide) (C := RX2) (T := TX2) (N := 3) rfl (by decide) in_X4_upright_3 (by decide +kernel) rfl dX4_upright_54 ?_
        exact rt_i X hR hS (Option.some.inj h) dX4_upright_57
      · have h := of_neg hc h
        refine lv_iconst (v := (-1 : Int32)) hx hb dX4_upright_35 (by decide) ?_
        exact rt_i X hR hS (Option.some.inj h) dX4_upright_36

set_option maxHeartbeats 4000000 in
set_option maxRecDepth 100000 in
theorem c_X4_upright (l : Launch) (cA : Nat → ClassId) (D : va_G) (Λ : Lay) (hT : TL Λ) (σ : Sto) (a0 : Nat) (l1 : Int32) (l2 : Int32) (k0 : isK Λ a0 5) {res : Int32 × Sto} (h : F_X4_upright Λ σ a0 l1 l2 = some res) : Met l yX4_upright wsX4_upright { frames := 5, cells := 0, slots := 0, locals := 112 } (va_Pc [.ref a0, .int l1, .int l2] (PW cA D Λ σ)) (QI cA D Λ res) 0 0 (dm Λ) := by
  refine Met.ofW (cc := cX4_upright) (maxL := 4) (ret := (some .int)) (by decide) rfl ?_
  intro p e s m args below meth c s₁ B hml hv
  obtain ⟨rfl, hR, hK⟩ := hv
  have X : Cx cX4_upright (some .int) 4 RX4 wsX4_upright p s m _ meth c := ⟨B.exec, B.bytes, B.returns, hml, findClass_of_methodNamed B.named, atoms_spec (ws := wsX4_upright) B.pre, B.notSynchronized⟩
  have hS : va_S (dm Λ) s.heap s.heap [] := va_S.rf
  have hl := lv_entry ([.ref a0, .int l1, .int l2]) (n := 4) (Nat.le_of_ble_eq_true rfl)
  rw [lg_entry_eq]
  generalize (lg_sl ([.ref a0, .int l1, .int l2]) ++ List.replicate (4 - (lg_sl ([.ref a0, .int l1, .int l2])).length) Slot.unset).toArray = ls at hl ⊢
  have hl : lv_has ls 4 [(0, .ref a0), (1, .int l1), (2, .int l2)] := hl
  exact w_X4_upright X hK hT ⟨Nat.le_refl _, Nat.le_refl _⟩ a0 l1 l2 k0 h s.heap [] ls hR hS hl
theorem in_X4_canTurn_3 : ∀ w ∈ u_ws RX2 TX2 3, w ∈ wsX4_canTurn := by decide +kernel
set_option maxHeartbeats 4000000 in
set_option maxRecDepth 100000 in
theorem w_X4_canTurn (X : Cx cX4_canTurn (some .boolean) 5 RX4 wsX4_canTurn p s m args meth c) (hK : Kn cA D s) (hT : TL Λ) (hM : 3 ≤ R.frames ∧ 64 ≤ R.locals) (a0 : Nat) (l1 : Int32) (l2 : Int32) (k0 : isK Λ a0 3) {res : Int32} (h : F_X4_canTurn Λ σ a0 l1 l2 = res) (H : Heap) (locs : List Loc) (ls : Array Slot) (hR : Rep cA D Λ σ H) (hS : va_S (dm Λ) s.heap H locs) (hl : lv_has ls 5 [(0, .ref a0), (1, .int l1), (2, .int l2)]) : W p l e R s m args below meth c H locs 0 0 (MQ below (QZ cA D Λ (res, σ)) args s 0 0 (dm Λ)) (F0 m 0 ls []) := by
  have hx := X.1
  have hb := X.2.1
  have hown := X.2.2.2.2.1
  have hts := X.2.2.2.2.2.1
  unfold F_X4_canTurn at h
  refine lv_aload_n hx hb dX4_canTurn_0 rfl (lv_at hl 0 rfl) ?_
  refine rw_getI X hK hR 3 0 k0 (by decide) (C := RX2) (T := TX2) (N := 3) rfl (by decide) in_X4_canTurn_3 (by decide +kernel) rfl dX4_canTurn_1 ?_
  refine lv_iload_n hx hb dX4_canTurn_4 rfl (lv_at hl 1 rfl) ?_
  refine lv_aload_n hx hb dX4_canTurn_5 rfl (lv_at hl 0 rfl) ?_
  refine rw_getI X hK hR 3 1 k0 (by decide) (C := RX2) (T := TX2) (N := 3) rfl (by decide) in_X4_canTurn_3 (by decide +kernel) rfl dX4_canTurn_6 ?_
  refine cl_i (rn_S (As := [.int l1, .int (σ.1 a0 1)]) (rest := [.int (σ.1 a0 0)]) X hK hR hl.1 (c_X4_spread l cA D Λ hT σ l1 (σ.1 a0 1)) (va_cwS 2 hts gX4_canTurn_X4_spread rfl rfl rfl (by decide +kernel) ⟨Nat.le_trans (by decide) hM.1, Nat.le_trans (by decide) hM.2⟩) rfl rfl (Nat.le_of_ble_eq_true rfl) dX4_canTurn_9) hS (fun H locs hR hS => ?_)
  refine lv_topi (fun r_1 e_1 => ?_)
  have h := of_nm e_1 h
  refine lv_iadd hx hb dX4_canTurn_12 ?_
  refine lv_topi (fun v_2 e_v_2 => ?_)
  have h := of_nm e_v_2 h
  refine lv_istore_n (lv' := [(3, .int v_2), (0, .ref a0), (1, .int l1), (2, .int l2)]) hx hb dX4_canTurn_13 rfl hl (by decide) rfl (fun ls hl => ?_)
  refine lv_aload_n hx hb dX4_canTurn_14 rfl (lv_at hl 1 rfl) ?_
  refine rw_getI X hK hR 3 1 k0 (by decide) (C := RX2) (T := TX2) (N := 3) rfl (by decide) in_X4_canTurn_3 (by decide +kernel) rfl dX4_canTurn_15 ?_
  refine lv_iload_n hx hb dX4_canTurn_18 rfl (lv_at hl 3 rfl) ?_
  refine lv_iload_n hx hb dX4_canTurn_19 rfl (lv_at hl 0 rfl) ?_
  refine cl_i (rn_S (As := [.int l2, .int v_2]) (rest := [.int (σ.1 a0 1)]) X hK hR hl.1 (c_X4_spread l cA D Λ hT σ l2 v_2) (va_cwS 2 hts gX4_canTurn_X4_spread rfl rfl rfl (by decide +kernel) ⟨Nat.le_trans (by decide) hM.1, Nat.le_trans (by decide) hM.2⟩) rfl rfl (Nat.le_of_ble_eq_true rfl) dX4_canTurn_20) hS (fun H locs hR hS => ?_)
  refine lv_topi (fun r_3 e_3 => ?_)
  have h := of_nm e_3 h
  refine lv_iadd hx hb dX4_canTurn_23 ?_
  refine lv_topi (fun v_4 e_v_4 => ?_)
  have h := of_nm e_v_4 h
  refine lv_istore (lv' := [(4, .int v_4), (3, .int v_2), (0, .ref a0), (1, .int l1), (2, .int l2)]) hx hb dX4_canTurn_24 hl (by decide) rfl (fun ls hl => ?_)
  refine lv_iload_n hx hb dX4_canTurn_26 rfl (lv_at hl 1 rfl) ?_
  refine lv_bipush (v := (64 : Int32)) hx hb dX4_canTurn_27 (by decide) ?_
  refine lv_icmp_gt (tgt := 56) hx hb dX4_canTurn_29 (by decide) (fun hc => ?_) (fun hc => ?_)
  · have h := of_pos hc h
    refine lv_iconst (v := (0 : Int32)) hx hb dX4_canTurn_56 (by decide) ?_
    exact rt_z X hR hS (congrArg (fun z => (z, σ)) h) (Or.inl rfl) dX4_canTurn_57
  · have h := of_neg hc h
    refine lv_iload hx hb dX4_canTurn_32 (lv_at hl 0 rfl) ?_
    refine lv_bipush (v := (64 : Int32)) hx hb dX4_canTurn_34 (by decide) ?_
    refine lv_icmp_gt (tgt := 56) hx hb dX4_canTurn_36 (by decide) (fun hc => ?_) (fun hc => ?_)
    · have h := of_pos hc h
      refine lv_iconst (v := (0 : Int32)) hx hb dX4_canTurn_56 (by decide) ?_
      exact rt_z X hR hS (congrArg (fun z => (z, σ)) h) (Or.inl rfl) dX4_canTurn_57
    · have h := of_neg hc h
      refine lv_iload_n hx hb dX4_canTurn_39 rfl (lv_at hl 1 rfl) ?_
      refine lv_iload_n hx hb dX4_canTurn_40 rfl (lv_at hl 3 rfl) ?_
      refine lv_iload hx hb dX4_canTurn_41 (lv_at hl 0 rfl) ?_
      refine cl_i (rn_S (As := [.int l1, .int v_4]) (rest := [.int v_2]) X hK hR hl.1 (c_X4_spread l cA D Λ hT σ l1 v_4) (va_cwS 2 hts gX4_canTurn_X4_spread rfl rfl rfl (by decide +kernel) ⟨Nat.le_trans (by decide) hM.1, Nat.le_trans (by decide) hM.2⟩) rfl rfl (Nat.le_of_ble_eq_true rfl) dX4_canTurn_43) hS (fun H locs hR hS => ?_)
      refine lv_topi (fun r_5 e_5 => ?_)
      have h := of_nm e_5 h
      refine lv_iadd hx hb dX4_canTurn_46 ?_
      refine lv_bipush (v := (64 : Int32)) hx hb dX4_canTurn_47 (by decide) ?_
      refine lv_icmp_gt (tgt := 56) hx hb dX4_canTurn_49 (by decide) (fun hc => ?_) (fun hc => ?_)
      · have h := of_pos hc h
        refine lv_iconst (v := (0 : Int32)) hx hb dX4_canTurn_56 (by decide) ?_
        exact rt_z X hR hS (congrArg (fun z => (z, σ)) h) (Or.inl rfl) dX4_canTurn_57
      · have h := of_neg hc h
        refine lv_iconst (v := (1 : Int32)) hx hb dX4_canTurn_52 (by decide) ?_
        refine lv_goto (tgt := 57) hx hb dX4_canTurn_53 (by decide) ?_
        exact rt_z X hR hS (congrArg (fun z => (z, σ)) h) (Or.inr rfl) dX4_canTurn_57

set_option maxHeartbeats 4000000 in
set_option maxRecDepth 100000 in
theorem c_X4_canTurn (l : Launch) (cA : Nat → ClassId) (D : va_G) (Λ : Lay) (hT : TL Λ) (σ : Sto) (a0 : Nat) (l1 : Int32) (l2 : Int32) (k0 : isK Λ a0 3) : Met l yX4_canTurn wsX4_canTurn { frames := 3, cells := 0, slots := 0, locals := 64 } (va_Pc [.ref a0, .int l1, .int l2] (PW cA D Λ σ)) (QZ cA D Λ ((F_X4_canTurn Λ σ a0 l1 l2), σ)) 0 0 (dm Λ) := by
  refine Met.ofW (cc := cX4_canTurn) (maxL := 5) (ret := (some .boolean)) (by decide) rfl ?_
  intro p e s m args below meth c s₁ B hml hv
  obtain ⟨rfl, hR, hK⟩ := hv
  have X : Cx cX4_canTurn (some .boolean) 5 RX4 wsX4_canTurn p s m _ meth c := ⟨B.exec, B.bytes, B.returns, hml, findClass_of_methodNamed B.named, atoms_spec (ws := wsX4_canTurn) B.pre, B.notSynchronized⟩
  have hS : va_S (dm Λ) s.heap s.heap [] := va_S.rf
  have hl := lv_entry ([.ref a0, .int l1, .int l2]) (n := 5) (Nat.le_of_ble_eq_true rfl)
  rw [lg_entry_eq]
  generalize (lg_sl ([.ref a0, .int l1, .int l2]) ++ List.replicate (5 - (lg_sl ([.ref a0, .int l1, .int l2])).length) Slot.unset).toArray = ls at hl ⊢
  have hl : lv_has ls 5 [(0, .ref a0), (1, .int l1), (2, .int l2)] := hl
  exact w_X4_canTurn X hK hT ⟨Nat.le_refl _, Nat.le_refl _⟩ a0 l1 l2 k0 rfl s.heap [] ls hR hS hl
theorem in_X4_turn_5 : ∀ w ∈ u_ws RX4 TX4 8, w ∈ wsX4_turn := by decide +kernel
set_option maxHeartbeats 4000000 in
set_option maxRecDepth 100000 in
theorem w_X4_turn (X : Cx cX4_turn (some .boolean) 5 RX4 wsX4_turn p s m args meth c) (hK : Kn cA D s) (hT : TL Λ) (hM : 5 ≤ R.frames ∧ 112 ≤ R.locals) (a0 : Nat) (l1 : Int32) (l2 : Int32) (l3 : Int32) (k0 : isK Λ a0 5) {res : Int32 × Sto} (h : F_X4_turn Λ σ a0 l1 l2 l3 = some res) (H : Heap) (locs : List Loc) (ls : Array Slot) (hR : Rep cA D Λ σ H) (hS : va_S (dm Λ) s.heap H locs) (hl : lv_has ls 5 [(0, .ref a0), (1, .int l1), (2, .int l2), (3, .int l3)]) : W p l e R s m args below meth c H locs 0 0 (MQ below (QZ cA D Λ res) args s 0 0 (dm Λ)) (F0 m 0 ls []) := by
  have hx := X.1
  have hb := X.2.1
  have hown := X.2.2.2.2.1
  have hts := X.2.2.2.2.2.1
  unfold F_X4_turn at h
  refine lv_aload_n hx hb dX4_turn_0 rfl (lv_at hl 0 rfl) ?_
  refine lv_iload_n hx hb dX4_turn_1 rfl (lv_at hl 1 rfl) ?_
  obtain ⟨q_1, hq_1, h⟩ := of_bind h
  refine cl_q (rn_V (As := [.int l1]) (rest := []) X hK hR k0 rfl (by decide) hl.1 (c_X4_find l cA D Λ hT σ a0 l1 k0 hq_1) (cwV 1 hts gX4_turn_X4_find rfl rfl rfl (by decide +kernel) ⟨Nat.le_trans (by decide) hM.1, Nat.le_trans (by decide) hM.2⟩) rfl rfl (Nat.le_of_ble_eq_true rfl) dX4_turn_2) hS (fun hn_1 H locs hR hS => ?_) (fun a_1 hn_1 kf_1 H locs hR hS => ?_)
  · have h := of_ocn hn_1 h
    refine lv_astoreN (lv' := [(4, .null), (0, .ref a0), (1, .int l1), (2, .int l2), (3, .int l3)]) hx hb dX4_turn_5 hl (by decide) rfl (fun ls hl => ?_)
    refine lv_aloadN hx hb dX4_turn_7 (lv_at hl 0 rfl) ?_
    refine lv_ifnullN (tgt := 36) hx hb dX4_turn_9 (by decide) ?_
    refine lv_iconst (v := (0 : Int32)) hx hb dX4_turn_36 (by decide) ?_
    exact rt_z X hR hS (Option.some.inj h) (Or.inl rfl) dX4_turn_37
  · have h := of_ocs hn_1 h
    refine lv_astore (lv' := [(4, .ref a_1), (0, .ref a0), (1, .int l1), (2, .int l2), (3, .int l3)]) hx hb dX4_turn_5 hl (by decide) rfl (fun ls hl => ?_)
    refine lv_aload hx hb dX4_turn_7 (lv_at hl 0 rfl) ?_
    refine lv_ifnull hx hb dX4_turn_9 ?_
    refine lv_iload_n hx hb dX4_turn_12 rfl (lv_at hl 3 rfl) ?_
    refine cl_z (rn_S (As := [.int l2]) (rest := []) X hK hR hl.1 (c_X4_isShear l cA D Λ hT σ l2) (va_cwS 1 hts gX4_turn_X4_isShear rfl rfl rfl (by decide +kernel) ⟨Nat.le_trans (by decide) hM.1, Nat.le_trans (by decide) hM.2⟩) rfl rfl (Nat.le_of_ble_eq_true rfl) dX4_turn_13) hS (fun hz_2 H locs hR hS => ?_)
    refine lv_topi (fun r_2 e_2 => ?_)
    have h := of_nm e_2 h
    have hz_2 : r_2 = 0 ∨ r_2 = 1 := by rw [e_2]; exact hz_2
    refine lv_if_eq (tgt := 36) hx hb dX4_turn_16 (by decide) (fun hc => ?_) (fun hc => ?_)
    · have h := of_pos hc h
      refine lv_iconst (v := (0 : Int32)) hx hb dX4_turn_36 (by decide) ?_
      exact rt_z X hR hS (Option.some.inj h) (Or.inl rfl) dX4_turn_37
    · have h := of_neg hc h
      refine lv_iload_n hx hb dX4_turn_19 rfl (lv_at hl 4 rfl) ?_
      refine cl_z (rn_S (As := [.int l3]) (rest := []) X hK hR hl.1 (c_X4_isShear l cA D Λ hT σ l3) (va_cwS 1 hts gX4_turn_X4_isShear rfl rfl rfl (by decide +kernel) ⟨Nat.le_trans (by decide) hM.1, Nat.le_trans (by decide) hM.2⟩) rfl rfl (Nat.le_of_ble_eq_true rfl) dX4_turn_20) hS (fun hz_3 H locs hR hS => ?_)
      refine lv_topi (fun r_3 e_3 => ?_)
      have h := of_nm e_3 h
      have hz_3 : r_3 = 0 ∨ r_3 = 1 := by rw [e_3]; exact hz_3
      refine lv_if_eq (tgt := 36) hx hb dX4_turn_23 (by decide) (fun hc => ?_) (fun hc => ?_)
      · have h := of_pos hc h
        refine lv_iconst (v := (0 : Int32)) hx hb dX4_turn_36 (by decide) ?_
        exact rt_z X hR hS (Option.some.inj h) (Or.inl rfl) dX4_turn_37
      · have h := of_neg hc h
        refine lv_aload hx hb dX4_turn_26 (lv_at hl 0 rfl) ?_
        refine lv_iload_n hx hb dX4_turn_28 rfl (lv_at hl 3 rfl) ?_
        refine lv_iload_n hx hb dX4_turn_29 rfl (lv_at hl 4 rfl) ?_
        refine cl_z (rn_S (As := [.ref a_1, .int l2, .int l3]) (rest := []) X hK hR hl.1 (c_X4_canTurn l cA D Λ hT σ a_1 l2 l3 kf_1) (va_cwS 3 hts gX4_turn_X4_canTurn rfl rfl rfl (by decide +kernel) ⟨Nat.le_trans (by decide) hM.1, Nat.le_trans (by decide) hM.2⟩) rfl rfl (Nat.le_of_ble_eq_true rfl) dX4_turn_30) hS (fun hz_4 H locs hR hS => ?_)
        refine lv_topi (fun r_4 e_4 => ?_)
        have h := of_nm e_4 h
        have hz_4 : r_4 = 0 ∨ r_4 = 1 := by rw [e_4]; exact hz_4
        refine lv_if_ne (tgt := 38) hx hb dX4_turn_33 (by decide) (fun hc => ?_) (fun hc => ?_)
        · have h := of_neg hc h
          refine lv_aload_n hx hb dX4_turn_38 rfl (lv_at hl 1 rfl) ?_
          refine rw_getR X hK hT hR 5 2 2 k0 (by decide) (C := RX4) (T := TX4) (N := 8) rfl (by decide) in_X4_turn_5 (by decide +kernel) rfl dX4_turn_39 (fun kf_5 => ?_)
          refine lv_iload_n hx hb dX4_turn_42 rfl (lv_at hl 2 rfl) ?_
          refine lv_aload hx hb dX4_turn_43 (lv_at hl 0 rfl) ?_
          refine lv_iconst (v := (-1 : Int32)) hx hb dX4_turn_45 (by decide) ?_
          obtain ⟨q_6, hq_6, h⟩ := of_bind h
          refine cl_v (rn_V (As := [.int l1, .ref a_1, .int (-1 : Int32)]) (rest := []) X hK hR kf_5 rfl (by decide) hl.1 (c_X1_remember l cA D Λ hT σ (rfA Λ a0 2) l1 a_1 (-1 : Int32) kf_5 kf_1 hq_6) (cwV 3 hts gX4_turn_X1_remember rfl rfl rfl (by decide +kernel) ⟨Nat.le_trans (by decide) hM.1, Nat.le_trans (by decide) hM.2⟩) rfl rfl (Nat.le_of_ble_eq_true rfl) dX4_turn_46) hS (fun H locs hR hS => ?_)
          refine lv_aload hx hb dX4_turn_49 (lv_at hl 0 rfl) ?_
          refine lv_iload_n hx hb dX4_turn_51 rfl (lv_at hl 3 rfl) ?_
          obtain ⟨q_7, hq_7, h⟩ := of_bind h
          refine cl_v (rn_V (As := [.int l2]) (rest := []) X hK hR kf_1 rfl (by decide) hl.1 (c_X2_shearAcross l cA D Λ hT q_6 a_1 l2 kf_1 hq_7) (cwV 1 hts gX4_turn_X2_shearAcross rfl rfl rfl (by decide +kernel) ⟨Nat.le_trans (by decide) hM.1, Nat.le_trans (by decide) hM.2⟩) rfl rfl (Nat.le_of_ble_eq_true rfl) dX4_turn_52) hS (fun H locs hR hS => ?_)
          refine lv_aload_n hx hb dX4_turn_55 rfl (lv_at hl 1 rfl) ?_
          refine lv_aload hx hb dX4_turn_56 (lv_at hl 0 rfl) ?_
          refine lv_iload_n hx hb dX4_turn_58 rfl (lv_at hl 4 rfl) ?_
          obtain ⟨q_8, hq_8, h⟩ := of_bind h
          refine cl_v (rn_V (As := [.ref a_1, .int l3]) (rest := []) X hK hR k0 rfl (by decide) hl.1 (c_X4_shearUp l cA D Λ hT q_7 a0 a_1 l3 k0 kf_1 hq_8) (cwV 2 hts gX4_turn_X4_shearUp rfl rfl rfl (by decide +kernel) ⟨Nat.le_trans (by decide) hM.1, Nat.le_trans (by decide) hM.2⟩) rfl rfl (Nat.le_of_ble_eq_true rfl) dX4_turn_59) hS (fun H locs hR hS => ?_)
          refine lv_aload hx hb dX4_turn_62 (lv_at hl 0 rfl) ?_
          refine lv_iload_n hx hb dX4_turn_64 rfl (lv_at hl 3 rfl) ?_
          obtain ⟨q_9, hq_9, h⟩ := of_bind h
          refine cl_v (rn_V (As := [.int l2]) (rest := []) X hK hR kf_1 rfl (by decide) hl.1 (c_X2_shearAcross l cA D Λ hT q_8 a_1 l2 kf_1 hq_9) (cwV 1 hts gX4_turn_X2_shearAcross rfl rfl rfl (by decide +kernel) ⟨Nat.le_trans (by decide) hM.1, Nat.le_trans (by decide) hM.2⟩) rfl rfl (Nat.le_of_ble_eq_true rfl) dX4_turn_65) hS (fun H locs hR hS => ?_)
          refine lv_iconst (v := (1 : Int32)) hx hb dX4_turn_68 (by decide) ?_
          exact rt_z X hR hS (Option.some.inj h) (Or.inr rfl) dX4_turn_69
        · have h := of_pos hc h
          refine lv_iconst (v := (0 : Int32)) hx hb dX4_turn_36 (by decide) ?_
          exact rt_z X hR hS (Option.some.inj h) (Or.inl rfl) dX4_turn_37

set_option maxHeartbeats 4000000 in
set_option maxRecDepth 100000 in
theorem c_X4_turn (l : Launch) (cA : Nat → ClassId) (D : va_G) (Λ : Lay) (hT : TL Λ) (σ : Sto) (a0 : Nat) (l1 : Int32) (l2 : Int32) (l3 : Int32) (k0 : isK Λ a0 5) {res : Int32 × Sto} (h : F_X4_turn Λ σ a0 l1 l2 l3 = some res) : Met l yX4_turn wsX4_turn { frames := 5, cells := 0, slots := 0, locals := 112 } (va_Pc [.ref a0, .int l1, .int l2, .int l3] (PW cA D Λ σ)) (QZ cA D Λ res) 0 0 (dm Λ) := by
  refine Met.ofW (cc := cX4_turn) (maxL := 5) (ret := (some .boolean)) (by decide) rfl ?_
  intro p e s m args below meth c s₁ B hml hv
  obtain ⟨rfl, hR, hK⟩ := hv
  have X : Cx cX4_turn (some .boolean) 5 RX4 wsX4_turn p s m _ meth c := ⟨B.exec, B.bytes, B.returns, hml, findClass_of_methodNamed B.named, atoms_spec (ws := wsX4_turn) B.pre, B.notSynchronized⟩
  have hS : va_S (dm Λ) s.heap s.heap [] := va_S.rf
  have hl := lv_entry ([.ref a0, .int l1, .int l2, .int l3]) (n := 5) (Nat.le_of_ble_eq_true rfl)
  rw [lg_entry_eq]
  generalize (lg_sl ([.ref a0, .int l1, .int l2, .int l3]) ++ List.replicate (5 - (lg_sl ([.ref a0, .int l1, .int l2, .int l3])).length) Slot.unset).toArray = ls at hl ⊢
  have hl : lv_has ls 5 [(0, .ref a0), (1, .int l1), (2, .int l2), (3, .int l3)] := hl
  exact w_X4_turn X hK hT ⟨Nat.le_refl _, Nat.le_refl _⟩ a0 l1 l2 l3 k0 h s.heap [] ls hR hS hl
theorem in_X4_sharpness_3 : ∀ w ∈ u_ws RX2 TX2 3, w ∈ wsX4_sharpness := by decide +kernel
theorem in_X4_sharpness_5 : ∀ w ∈ u_ws RX4 TX4 8, w ∈ wsX4_sharpness := by decide +kernel
set_option maxHeartbeats 4000000 in
set_option maxRecDepth 100000 in
theorem w_bd_X4_sharpness_14 (X : Cx cX4_sharpness (some .int) 6 RX4 wsX4_sharpness p s m args meth c) (hK : Kn cA D s) (hT : TL Λ) (hM : 4 ≤ R.frames ∧ 90 ≤ R.locals) (a0 : Nat) (s9 : (Int32 × Int32)) (k0 : isK Λ a0 5) {r : (Int32 × Int32) ⊕ Int32} (h : bd_X4_sharpness_14 Λ σ a0 s9 = some r) (kb : ∀ z : (Int32 × Int32), r = .inl z → ∀ (H : Heap) (locs : List Loc) (ls : Array Slot), Rep cA D Λ σ H → va_S (dm Λ) s.heap H locs → lv_has ls 6 [(0, .ref a0), (3, .int z.1), (4, .int z.2)] → W p l e R s m args below meth c H locs 0 0 Q (F0 m 14 ls [])) (kx0 : ∀ z : Int32, r = .inr z → ∀ (H : Heap) (locs : List Loc) (ls : Array Slot), Rep cA D Λ σ H → va_S (dm Λ) s.heap H locs → lv_has ls 6 [(3, .int z)] → W p l e R s m args below meth c H locs 0 0 Q (F0 m 55 ls [])) (H : Heap) (locs : List Loc) (ls : Array Slot) (hR : Rep cA D Λ σ H) (hS : va_S (dm Λ) s.heap H locs) (hl : lv_has ls 6 [(0, .ref a0), (3, .int s9.1), (4, .int s9.2)]) : W p l e R s m args below meth c H locs 0 0 Q (F0 m 14 ls []) := by
  have hx := X.1
  have hb := X.2.1
  have hown := X.2.2.2.2.1
  have hts := X.2.2.2.2.2.1
  unfold bd_X4_sharpness_14 at h
  refine lv_iload hx hb dX4_sharpness_14 (lv_at hl 2 rfl) ?_
  refine lv_aload_n hx hb dX4_sharpness_16 rfl (lv_at hl 0 rfl) ?_
  refine rw_getR X hK hT hR 5 5 3 k0 (by decide) (C := RX4) (T := TX4) (N := 8) rfl (by decide) in_X4_sharpness_5 (by decide +kernel) rfl dX4_sharpness_17 (fun kf_3 => ?_)
  refine rw_getI X hK hR 3 1 kf_3 (by decide) (C := RX2) (T := TX2) (N := 3) rfl (by decide) in_X4_sharpness_3 (by decide +kernel) rfl dX4_sharpness_20 ?_
  refine lv_icmp_ge (tgt := 55) hx hb dX4_sharpness_23 (by decide) (fun hc => ?_) (fun hc => ?_)
  · have h := of_pos hc h
    exact kx0 s9.1 (Option.some.inj h).symm H locs ls hR hS (lv_sub hl [1] rfl)
  · have h := of_neg hc h
    refine lv_aload_n hx hb dX4_sharpness_26 rfl (lv_at hl 0 rfl) ?_
    refine rw_getR X hK hT hR 5 5 3 k0 (by decide) (C := RX4) (T := TX4) (N := 8) rfl (by decide) in_X4_sharpness_5 (by decide +kernel) rfl dX4_sharpness_27 (fun kf_4 => ?_)
    refine rw_getR X hK hT hR 3 2 8 kf_4 (by decide) (C := RX2) (T := TX2) (N := 3) rfl (by decide) in_X4_sharpness_3 (by decide +kernel) rfl dX4_sharpness_30 (fun kf_5 => ?_)
    refine lv_iload hx hb dX4_sharpness_33 (lv_at hl 2 rfl) ?_
    obtain ⟨hg_6, h⟩ := of_guard h
    refine rw_lald X hK hR kf_5 hg_6 dX4_sharpness_35 ?_
    refine cl_i (rn_S (As := [.long (σ.2 (rfA Λ (rfA Λ a0 5) 2) s9.2.toNatClampNeg)]) (rest := []) X hK hR hl.1 (c_J13_bitCount_95d88 l cA D Λ hT σ (σ.2 (rfA Λ (rfA Λ a0 5) 2) s9.2.toNatClampNeg)) (va_cwS 1 hts gX4_sharpness_J13_bitCount_95d88 rfl rfl rfl (by decide +kernel) ⟨Nat.le_trans (by decide) hM.1, Nat.le_trans (by decide) hM.2⟩) rfl rfl (Nat.le_of_ble_eq_true rfl) dX4_sharpness_36) hS (fun H locs hR hS => ?_)
    refine lv_topi (fun r_7 e_7 => ?_)
    have h := of_nm e_7 h
    refine lv_istore (lv' := [(5, .int r_7), (0, .ref a0), (3, .int s9.1), (4, .int s9.2)]) hx hb dX4_sharpness_39 hl (by decide) rfl (fun ls hl => ?_)
    refine lv_iload_n hx hb dX4_sharpness_41 rfl (lv_at hl 2 rfl) ?_
    refine lv_iload hx hb dX4_sharpness_42 (lv_at hl 0 rfl) ?_
    refine lv_iload hx hb dX4_sharpness_44 (lv_at hl 0 rfl) ?_
    refine lv_imul hx hb dX4_sharpness_46 ?_
    refine lv_iadd hx hb dX4_sharpness_47 ?_
    refine lv_topi (fun v_8 e_v_8 => ?_)
    have h := of_nm e_v_8 h
    refine lv_istore_n (lv' := [(3, .int v_8), (5, .int r_7), (0, .ref a0), (4, .int s9.2)]) hx hb dX4_sharpness_48 rfl hl (by decide) rfl (fun ls hl => ?_)
    obtain ⟨v_9, e_v_9⟩ : ∃ y : Int32, y = (s9.2 + (1 : Int32)) := ⟨_, rfl⟩
    have h := of_nm e_v_9 h
    refine lv_iinc (v := v_9) (lv' := [(4, .int v_9), (3, .int v_8), (5, .int r_7), (0, .ref a0)]) hx hb dX4_sharpness_49 hl (k := 3) rfl (by rw [e_v_9]; rfl) (by decide) rfl (fun ls hl => ?_)
    refine lv_goto (tgt := 14) hx hb dX4_sharpness_52 (by decide) ?_
    exact kb (v_8, v_9) (Option.some.inj h).symm H locs ls hR hS (lv_sub hl [3, 1, 0] rfl)

set_option maxHeartbeats 4000000 in
set_option maxRecDepth 100000 in
theorem w_lp_X4_sharpness_14 (X : Cx cX4_sharpness (some .int) 6 RX4 wsX4_sharpness p s m args meth c) (hK : Kn cA D s) (hT : TL Λ) (hM : 4 ≤ R.frames ∧ 90 ≤ R.locals) (a0 : Nat) (k0 : isK Λ a0 5) {e9 : Int32} : ∀ (n9 : Nat) (s9 : (Int32 × Int32)), iter (bd_X4_sharpness_14 Λ σ a0) n9 s9 = some e9 → ∀ (kx0 : ∀ (H : Heap) (locs : List Loc) (ls : Array Slot), Rep cA D Λ σ H → va_S (dm Λ) s.heap H locs → lv_has ls 6 [(3, .int e9)] → W p l e R s m args below meth c H locs 0 0 Q (F0 m 55 ls [])), ∀ (H : Heap) (locs : List Loc) (ls : Array Slot), Rep cA D Λ σ H → va_S (dm Λ) s.heap H locs → lv_has ls 6 [(0, .ref a0), (3, .int s9.1), (4, .int s9.2)] → W p l e R s m args below meth c H locs 0 0 Q (F0 m 14 ls []) := by
  intro n9
  induction n9 with
  | zero => intro s9 h; cases h
  | succ n9 ih =>
    intro s9 h kx0 H locs ls hR hS hl
    obtain ⟨r, hr, h⟩ := of_iter h
    refine w_bd_X4_sharpness_14 X hK hT hM a0 s9 k0 hr (fun z ez H locs ls hR hS hl => ?_) (fun z ez H locs ls hR hS hl => ?_) H locs ls hR hS hl
    · exact ih z (of_itl ez h) kx0 H locs ls hR hS hl
    · have he := of_itr ez h; subst he; exact kx0 H locs ls hR hS hl

set_option maxHeartbeats 4000000 in
set_option maxRecDepth 100000 in
theorem w_X4_sharpness (X : Cx cX4_sharpness (some .int) 6 RX4 wsX4_sharpness p s m args meth c) (hK : Kn cA D s) (hT : TL Λ) (hM : 4 ≤ R.frames ∧ 90 ≤ R.locals) (a0 : Nat) (a1 : Nat) (l2 : Int32) (k0 : isK Λ a0 5) (k1 : isK Λ a1 3) {res : Int32 × Sto} (h : F_X4_sharpness Λ σ a0 a1 l2 = some res) (H : Heap) (locs : List Loc) (ls : Array Slot) (hR : Rep cA D Λ σ H) (hS : va_S (dm Λ) s.heap H locs) (hl : lv_has ls 6 [(0, .ref a0), (1, .ref a1), (2, .int l2)]) : W p l e R s m args below meth c H locs 0 0 (MQ below (QI cA D Λ res) args s 0 0 (dm Λ)) (F0 m 0 ls []) := by
  have hx := X.1
  have hb := X.2.1
  have hown := X.2.2.2.2.1
  have hts := X.2.2.2.2.2.1
  unfold F_X4_sharpness at h
  refine lv_aload_n hx hb dX4_sharpness_0 rfl (lv_at hl 0 rfl) ?_
  refine rw_getR X hK hT hR 5 5 3 k0 (by decide) (C := RX4) (T := TX4) (N := 8) rfl (by decide) in_X4_sharpness_5 (by decide +kernel) rfl dX4_sharpness_1 (fun kf_1 => ?_)
  refine lv_aload_n hx hb dX4_sharpness_4 rfl (lv_at hl 1 rfl) ?_
  refine lv_iload_n hx hb dX4_sharpness_5 rfl (lv_at hl 2 rfl) ?_
  obtain ⟨q_2, hq_2, h⟩ := of_bind h
  refine cl_v (rn_V (As := [.ref a1, .int l2]) (rest := []) X hK hR kf_1 rfl (by decide) hl.1 (c_X2_becomeShearedUp l cA D Λ hT σ (rfA Λ a0 5) a1 l2 kf_1 k1 hq_2) (cwV 2 hts gX4_sharpness_X2_becomeShearedUp rfl rfl rfl (by decide +kernel) ⟨Nat.le_trans (by decide) hM.1, Nat.le_trans (by decide) hM.2⟩) rfl rfl (Nat.le_of_ble_eq_true rfl) dX4_sharpness_6) hS (fun H locs hR hS => ?_)
  refine lv_iconst (v := (0 : Int32)) hx hb dX4_sharpness_9 (by decide) ?_
  refine lv_istore_n (lv' := [(3, .int (0 : Int32)), (0, .ref a0), (1, .ref a1), (2, .int l2)]) hx hb dX4_sharpness_10 rfl hl (by decide) rfl (fun ls hl => ?_)
  refine lv_iconst (v := (0 : Int32)) hx hb dX4_sharpness_11 (by decide) ?_
  refine lv_istore (lv' := [(4, .int (0 : Int32)), (3, .int (0 : Int32)), (0, .ref a0), (1, .ref a1), (2, .int l2)]) hx hb dX4_sharpness_12 hl (by decide) rfl (fun ls hl => ?_)
  obtain ⟨e_10, hq_10, h⟩ := of_bind h
  refine w_lp_X4_sharpness_14 X hK hT hM a0 k0 _ ((0 : Int32), (0 : Int32)) hq_10 (fun H locs ls hR hS hl => ?_) H locs ls hR hS (lv_sub hl [2, 1, 0] rfl)
  refine lv_iload_n hx hb dX4_sharpness_55 rfl (lv_at hl 0 rfl) ?_
  exact rt_i X hR hS (Option.some.inj h) dX4_sharpness_56

set_option maxHeartbeats 4000000 in
set_option maxRecDepth 100000 in
theorem c_X4_sharpness (l : Launch) (cA : Nat → ClassId) (D : va_G) (Λ : Lay) (hT : TL Λ) (σ : Sto) (a0 : Nat) (a1 : Nat) (l2 : Int32) (k0 : isK Λ a0 5) (k1 : isK Λ a1 3) {res : Int32 × Sto} (h : F_X4_sharpness Λ σ a0 a1 l2 = some res) : Met l yX4_sharpness wsX4_sharpness { frames := 4, cells := 0, slots := 0, locals := 90 } (va_Pc [.ref a0, .ref a1, .int l2] (PW cA D Λ σ)) (QI cA D Λ res) 0 0 (dm Λ) := by
  refine Met.ofW (cc := cX4_sharpness) (maxL := 6) (ret := (some .int)) (by decide) rfl ?_
  intro p e s m args below meth c s₁ B hml hv
  obtain ⟨rfl, hR, hK⟩ := hv
  have X : Cx cX4_sharpness (some .int) 6 RX4 wsX4_sharpness p s m _ meth c := ⟨B.exec, B.bytes, B.returns, hml, findClass_of_methodNamed B.named, atoms_spec (ws := wsX4_sharpness) B.pre, B.notSynchronized⟩
  have hS : va_S (dm Λ) s.heap s.heap [] := va_S.rf
  have hl := lv_entry ([.ref a0, .ref a1, .int l2]) (n := 6) (Nat.le_of_ble_eq_true rfl)
  rw [lg_entry_eq]
  generalize (lg_sl ([.ref a0, .ref a1, .int l2]) ++ List.replicate (6 - (lg_sl ([.ref a0, .ref a1, .int l2])).length) Slot.unset).toArray = ls at hl ⊢
  have hl : lv_has ls 6 [(0, .ref a0), (1, .ref a1), (2, .int l2)] := hl
  exact w_X4_sharpness X hK hT ⟨Nat.le_refl _, Nat.le_refl _⟩ a0 a1 l2 k0 k1 h s.heap [] ls hR hS hl
set_option maxHeartbeats 4000000 in
set_option maxRecDepth 100000 in
theorem w_X4_sharp (X : Cx cX4_sharp (some .int) 4 RX4 wsX4_sharp p s m args meth c) (hK : Kn cA D s) (hT : TL Λ) (hM : 5 ≤ R.frames ∧ 115 ≤ R.locals) (a0 : Nat) (l1 : Int32) (l2 : Int32) (k0 : isK Λ a0 5) {res : Int32 × Sto} (h : F_X4_sharp Λ σ a0 l1 l2 = some res) (H : Heap) (locs : List Loc) (ls : Array Slot) (hR : Rep cA D Λ σ H) (hS : va_S (dm Λ) s.heap H locs) (hl : lv_has ls 4 [(0, .ref a0), (1, .int l1), (2, .int l2)]) : W p l e R s m args below meth c H locs 0 0 (MQ below (QI cA D Λ res) args s 0 0 (dm Λ)) (F0 m 0 ls []) := by
  have hx := X.1
  have hb := X.2.1
  have hown := X.2.2.2.2.1
  have hts := X.2.2.2.2.2.1
  unfold F_X4_sharp at h
  refine lv_aload_n hx hb dX4_sharp_0 rfl (lv_at hl 0 rfl) ?_
  refine lv_iload_n hx hb dX4_sharp_1 rfl (lv_at hl 1 rfl) ?_
  obtain ⟨q_1, hq_1, h⟩ := of_bind h
  refine cl_q (rn_V (As := [.int l1]) (rest := []) X hK hR k0 rfl (by decide) hl.1 (c_X4_find l cA D Λ hT σ a0 l1 k0 hq_1) (cwV 1 hts gX4_sharp_X4_find rfl rfl rfl (by decide +kernel) ⟨Nat.le_trans (by decide) hM.1, Nat.le_trans (by decide) hM.2⟩) rfl rfl (Nat.le_of_ble_eq_true rfl) dX4_sharp_2) hS (fun hn_1 H locs hR hS => ?_) (fun a_1 hn_1 kf_1 H locs hR hS => ?_)
  · have h := of_ocn hn_1 h
    refine lv_astore_nN (lv' := [(3, .null), (0, .ref a0), (1, .int l1), (2, .int l2)]) hx hb dX4_sharp_5 rfl hl (by decide) rfl (fun ls hl => ?_)
    refine lv_aload_nN hx hb dX4_sharp_6 rfl (lv_at hl 0 rfl) ?_
    refine lv_ifnullN (tgt := 21) hx hb dX4_sharp_7 (by decide) ?_
    refine lv_iconst (v := (-1 : Int32)) hx hb dX4_sharp_21 (by decide) ?_
    exact rt_i X hR hS (Option.some.inj h) dX4_sharp_22
  · have h := of_ocs hn_1 h
    refine lv_astore_n (lv' := [(3, .ref a_1), (0, .ref a0), (1, .int l1), (2, .int l2)]) hx hb dX4_sharp_5 rfl hl (by decide) rfl (fun ls hl => ?_)
    refine lv_aload_n hx hb dX4_sharp_6 rfl (lv_at hl 0 rfl) ?_
    refine lv_ifnull hx hb dX4_sharp_7 ?_
    refine lv_iload_n hx hb dX4_sharp_10 rfl (lv_at hl 3 rfl) ?_
    refine lv_bipush (v := (-12 : Int32)) hx hb dX4_sharp_11 (by decide) ?_
    refine lv_bipush (v := (12 : Int32)) hx hb dX4_sharp_13 (by decide) ?_
    refine cl_z (rn_S (As := [.int l2, .int (-12 : Int32), .int (12 : Int32)]) (rest := []) X hK hR hl.1 (c_X4_within l cA D Λ hT σ l2 (-12 : Int32) (12 : Int32)) (va_cwS 3 hts gX4_sharp_X4_within rfl rfl rfl (by decide +kernel) ⟨Nat.le_trans (by decide) hM.1, Nat.le_trans (by decide) hM.2⟩) rfl rfl (Nat.le_of_ble_eq_true rfl) dX4_sharp_15) hS (fun hz_2 H locs hR hS => ?_)
    refine lv_topi (fun r_2 e_2 => ?_)
    have h := of_nm e_2 h
    have hz_2 : r_2 = 0 ∨ r_2 = 1 := by rw [e_2]; exact hz_2
    refine lv_if_ne (tgt := 23) hx hb dX4_sharp_18 (by decide) (fun hc => ?_) (fun hc => ?_)
    · have h := of_neg hc h
      refine lv_aload_n hx hb dX4_sharp_23 rfl (lv_at hl 1 rfl) ?_
      refine lv_aload_n hx hb dX4_sharp_24 rfl (lv_at hl 0 rfl) ?_
      refine lv_iload_n hx hb dX4_sharp_25 rfl (lv_at hl 3 rfl) ?_
      obtain ⟨q_3, hq_3, h⟩ := of_bind h
      refine cl_i (rn_V (As := [.ref a_1, .int l2]) (rest := []) X hK hR k0 rfl (by decide) hl.1 (c_X4_sharpness l cA D Λ hT σ a0 a_1 l2 k0 kf_1 hq_3) (cwV 2 hts gX4_sharp_X4_sharpness rfl rfl rfl (by decide +kernel) ⟨Nat.le_trans (by decide) hM.1, Nat.le_trans (by decide) hM.2⟩) rfl rfl (Nat.le_of_ble_eq_true rfl) dX4_sharp_26) hS (fun H locs hR hS => ?_)
      exact rt_i X hR hS (Option.some.inj h) dX4_sharp_29
    · have h := of_pos hc h
      refine lv_iconst (v := (-1 : Int32)) hx hb dX4_sharp_21 (by decide) ?_
      exact rt_i X hR hS (Option.some.inj h) dX4_sharp_22

set_option maxHeartbeats 4000000 in
set_option maxRecDepth 100000 in
theorem c_X4_sharp (l : Launch) (cA : Nat → ClassId) (D : va_G) (Λ : Lay) (hT : TL Λ) (σ : Sto) (a0 : Nat) (l1 : Int32) (l2 : Int32) (k0 : isK Λ a0 5) {res : Int32 × Sto} (h : F_X4_sharp Λ σ a0 l1 l2 = some res) : Met l yX4_sharp wsX4_sharp { frames := 5, cells := 0, slots := 0, locals := 115 } (va_Pc [.ref a0, .int l1, .int l2] (PW cA D Λ σ)) (QI cA D Λ res) 0 0 (dm Λ) := by
  refine Met.ofW (cc := cX4_sharp) (maxL := 4) (ret := (some .int)) (by decide) rfl ?_
  intro p e s m args below meth c s₁ B hml hv
  obtain ⟨rfl, hR, hK⟩ := hv
  have X : Cx cX4_sharp (some .int) 4 RX4 wsX4_sharp p s m _ meth c := ⟨B.exec, B.bytes, B.returns, hml, findClass_of_methodNamed B.named, atoms_spec (ws := wsX4_sharp) B.pre, B.notSynchronized⟩
  have hS : va_S (dm Λ) s.heap s.heap [] := va_S.rf
  have hl := lv_entry ([.ref a0, .int l1, .int l2]) (n := 4) (Nat.le_of_ble_eq_true rfl)
  rw [lg_entry_eq]
  generalize (lg_sl ([.ref a0, .int l1, .int l2]) ++ List.replicate (4 - (lg_sl ([.ref a0, .int l1, .int l2])).length) Slot.unset).toArray = ls at hl ⊢
  have hl : lv_has ls 4 [(0, .ref a0), (1, .int l1), (2, .int l2)] := hl
  exact w_X4_sharp X hK hT ⟨Nat.le_refl _, Nat.le_refl _⟩ a0 l1 l2 k0 h s.heap [] ls hR hS hl
set_option maxHeartbeats 4000000 in
set_option maxRecDepth 100000 in
theorem w_jp_X4_angle_94 (X : Cx cX4_angle (some .int) 8 RX4 wsX4_angle p s m args meth c) (hK : Kn cA D s) (hT : TL Λ) (hM : 5 ≤ R.frames ∧ 115 ≤ R.locals) (a0 : Nat) (a2 : Nat) (l3 : Int32) (l4 : Int32) (l5 : Int32)  (k0 : isK Λ a0 5) (k2 : isK Λ a2 3) {r : (Int32 × Int32 × Int32 × Sto) ⊕ (Int32 × Sto)} (h : jp_X4_angle_94 Λ σ a0 a2 l3 l4 l5 = some r) (kb : ∀ z : (Int32 × Int32 × Int32 × Sto), r = .inl z → ∀ (H : Heap) (locs : List Loc) (ls : Array Slot), Rep cA D Λ z.2.2.2 H → va_S (dm Λ) s.heap H locs → lv_has ls 8 [(0, .ref a0), (2, .ref a2), (3, .int z.1), (4, .int z.2.1), (5, .int z.2.2.1)] → W p l e R s m args below meth c H locs 0 0 Q (F0 m 39 ls [])) (kx0 : ∀ z : (Int32 × Sto), r = .inr z → ∀ (H : Heap) (locs : List Loc) (ls : Array Slot), Rep cA D Λ z.2 H → va_S (dm Λ) s.heap H locs → lv_has ls 8 [(3, .int z.1)] → W p l e R s m args below meth c H locs 0 0 Q (F0 m 100 ls [])) (H : Heap) (locs : List Loc) (ls : Array Slot) (hR : Rep cA D Λ σ H) (hS : va_S (dm Λ) s.heap H locs) (hl : lv_has ls 8 [(0, .ref a0), (2, .ref a2), (3, .int l3), (4, .int l4), (5, .int l5)]) : W p l e R s m args below meth c H locs 0 0 Q (F0 m 94 ls []) := by
  have hx := X.1
  have hb := X.2.1
  have hown := X.2.2.2.2.1
  have hts := X.2.2.2.2.2.1
  unfold jp_X4_angle_94 at h
  obtain ⟨v_7, e_v_7⟩ : ∃ y : Int32, y = (l5 + (1 : Int32)) := ⟨_, rfl⟩
  have h := of_nm e_v_7 h
  refine lv_iinc (v := v_7) (lv' := [(5, .int v_7), (0, .ref a0), (2, .ref a2), (3, .int l3), (4, .int l4)]) hx hb dX4_angle_94 hl (k := 4) rfl (by rw [e_v_7]; rfl) (by decide) rfl (fun ls hl => ?_)
  refine lv_goto (tgt := 39) hx hb dX4_angle_97 (by decide) ?_
  exact kb (l3, l4, v_7, σ) (Option.some.inj h).symm H locs ls hR hS (lv_sub hl [1, 2, 3, 4, 0] rfl)

set_option maxHeartbeats 4000000 in
set_option maxRecDepth 100000 in
theorem w_jp_X4_angle_69 (X : Cx cX4_angle (some .int) 8 RX4 wsX4_angle p s m args meth c) (hK : Kn cA D s) (hT : TL Λ) (hM : 5 ≤ R.frames ∧ 115 ≤ R.locals) (a0 : Nat) (a2 : Nat) (l3 : Int32) (l4 : Int32) (l5 : Int32)  (k0 : isK Λ a0 5) (k2 : isK Λ a2 3) {r : (Int32 × Int32 × Int32 × Sto) ⊕ (Int32 × Sto)} (h : jp_X4_angle_69 Λ σ a0 a2 l3 l4 l5 = some r) (kb : ∀ z : (Int32 × Int32 × Int32 × Sto), r = .inl z → ∀ (H : Heap) (locs : List Loc) (ls : Array Slot), Rep cA D Λ z.2.2.2 H → va_S (dm Λ) s.heap H locs → lv_has ls 8 [(0, .ref a0), (2, .ref a2), (3, .int z.1), (4, .int z.2.1), (5, .int z.2.2.1)] → W p l e R s m args below meth c H locs 0 0 Q (F0 m 39 ls [])) (kx0 : ∀ z : (Int32 × Sto), r = .inr z → ∀ (H : Heap) (locs : List Loc) (ls : Array Slot), Rep cA D Λ z.2 H → va_S (dm Λ) s.heap H locs → lv_has ls 8 [(3, .int z.1)] → W p l e R s m args below meth c H locs 0 0 Q (F0 m 100 ls [])) (H : Heap) (locs : List Loc) (ls : Array Slot) (hR : Rep cA D Λ σ H) (hS : va_S (dm Λ) s.heap H locs) (hl : lv_has ls 8 [(0, .ref a0), (2, .ref a2), (3, .int l3), (4, .int l4), (5, .int l5)]) : W p l e R s m args below meth c H locs 0 0 Q (F0 m 69 ls []) := by
  have hx := X.1
  have hb := X.2.1
  have hown := X.2.2.2.2.1
  have hts := X.2.2.2.2.2.1
  unfold jp_X4_angle_69 at h
  refine lv_aload_n hx hb dX4_angle_69 rfl (lv_at hl 0 rfl) ?_
  refine lv_aload_n hx hb dX4_angle_70 rfl (lv_at hl 1 rfl) ?_
  refine lv_iload hx hb dX4_angle_71 (lv_at hl 4 rfl) ?_
  refine lv_ineg hx hb dX4_angle_73 ?_
  obtain ⟨q_6, hq_6, h⟩ := of_bind h
  refine cl_i (rn_V (As := [.ref a2, .int (-l5)]) (rest := []) X hK hR k0 rfl (by decide) hl.1 (c_X4_sharpness l cA D Λ hT σ a0 a2 (-l5) k0 k2 hq_6) (cwV 2 hts gX4_angle_X4_sharpness rfl rfl rfl (by decide +kernel) ⟨Nat.le_trans (by decide) hM.1, Nat.le_trans (by decide) hM.2⟩) rfl rfl (Nat.le_of_ble_eq_true rfl) dX4_angle_74) hS (fun H locs hR hS => ?_)
  refine lv_istore (lv' := [(7, .int q_6.1), (0, .ref a0), (2, .ref a2), (3, .int l3), (4, .int l4), (5, .int l5)]) hx hb dX4_angle_77 hl (by decide) rfl (fun ls hl => ?_)
  refine lv_iload hx hb dX4_angle_79 (lv_at hl 0 rfl) ?_
  refine lv_iload hx hb dX4_angle_81 (lv_at hl 4 rfl) ?_
  refine lv_icmp_le (tgt := 94) hx hb dX4_angle_83 (by decide) (fun hc => ?_) (fun hc => ?_)
  · have h := of_pos hc h
    exact w_jp_X4_angle_94 X hK hT hM a0 a2 l3 l4 l5 k0 k2 h kb kx0 H locs ls hR hS (lv_sub hl [1, 2, 3, 4, 5] rfl)
  · have h := of_neg hc h
    refine lv_iload hx hb dX4_angle_86 (lv_at hl 0 rfl) ?_
    refine lv_istore (lv' := [(4, .int q_6.1), (7, .int q_6.1), (0, .ref a0), (2, .ref a2), (3, .int l3), (5, .int l5)]) hx hb dX4_angle_88 hl (by decide) rfl (fun ls hl => ?_)
    refine lv_iload hx hb dX4_angle_90 (lv_at hl 5 rfl) ?_
    refine lv_ineg hx hb dX4_angle_92 ?_
    refine lv_topi (fun v_8 e_v_8 => ?_)
    have h := of_nm e_v_8 h
    refine lv_istore_n (lv' := [(3, .int v_8), (4, .int q_6.1), (7, .int q_6.1), (0, .ref a0), (2, .ref a2), (5, .int l5)]) hx hb dX4_angle_93 rfl hl (by decide) rfl (fun ls hl => ?_)
    exact w_jp_X4_angle_94 X hK hT hM a0 a2 v_8 q_6.1 l5 k0 k2 h kb kx0 H locs ls hR hS (lv_sub hl [3, 4, 0, 1, 5] rfl)

set_option maxHeartbeats 4000000 in
set_option maxRecDepth 100000 in
theorem w_bd_X4_angle_39 (X : Cx cX4_angle (some .int) 8 RX4 wsX4_angle p s m args meth c) (hK : Kn cA D s) (hT : TL Λ) (hM : 5 ≤ R.frames ∧ 115 ≤ R.locals) (a0 : Nat) (a2 : Nat) (s9 : (Int32 × Int32 × Int32 × Sto)) (k0 : isK Λ a0 5) (k2 : isK Λ a2 3) {r : (Int32 × Int32 × Int32 × Sto) ⊕ (Int32 × Sto)} (h : bd_X4_angle_39 Λ a0 a2 s9 = some r) (kb : ∀ z : (Int32 × Int32 × Int32 × Sto), r = .inl z → ∀ (H : Heap) (locs : List Loc) (ls : Array Slot), Rep cA D Λ z.2.2.2 H → va_S (dm Λ) s.heap H locs → lv_has ls 8 [(0, .ref a0), (2, .ref a2), (3, .int z.1), (4, .int z.2.1), (5, .int z.2.2.1)] → W p l e R s m args below meth c H locs 0 0 Q (F0 m 39 ls [])) (kx0 : ∀ z : (Int32 × Sto), r = .inr z → ∀ (H : Heap) (locs : List Loc) (ls : Array Slot), Rep cA D Λ z.2 H → va_S (dm Λ) s.heap H locs → lv_has ls 8 [(3, .int z.1)] → W p l e R s m args below meth c H locs 0 0 Q (F0 m 100 ls [])) (H : Heap) (locs : List Loc) (ls : Array Slot) (hR : Rep cA D Λ s9.2.2.2 H) (hS : va_S (dm Λ) s.heap H locs) (hl : lv_has ls 8 [(0, .ref a0), (2, .ref a2), (3, .int s9.1), (4, .int s9.2.1), (5, .int s9.2.2.1)]) : W p l e R s m args below meth c H locs 0 0 Q (F0 m 39 ls []) := by
  have hx := X.1
  have hb := X.2.1
  have hown := X.2.2.2.2.1
  have hts := X.2.2.2.2.2.1
  unfold bd_X4_angle_39 at h
  refine lv_iload hx hb dX4_angle_39 (lv_at hl 4 rfl) ?_
  refine lv_bipush (v := (12 : Int32)) hx hb dX4_angle_41 (by decide) ?_
  refine lv_icmp_gt (tgt := 100) hx hb dX4_angle_43 (by decide) (fun hc => ?_) (fun hc => ?_)
  · have h := of_pos hc h
    exact kx0 (s9.1, s9.2.2.2) (Option.some.inj h).symm H locs ls hR hS (lv_sub hl [2] rfl)
  · have h := of_neg hc h
    refine lv_aload_n hx hb dX4_angle_46 rfl (lv_at hl 0 rfl) ?_
    refine lv_aload_n hx hb dX4_angle_47 rfl (lv_at hl 1 rfl) ?_
    refine lv_iload hx hb dX4_angle_48 (lv_at hl 4 rfl) ?_
    obtain ⟨q_5, hq_5, h⟩ := of_bind h
    refine cl_i (rn_V (As := [.ref a2, .int s9.2.2.1]) (rest := []) X hK hR k0 rfl (by decide) hl.1 (c_X4_sharpness l cA D Λ hT s9.2.2.2 a0 a2 s9.2.2.1 k0 k2 hq_5) (cwV 2 hts gX4_angle_X4_sharpness rfl rfl rfl (by decide +kernel) ⟨Nat.le_trans (by decide) hM.1, Nat.le_trans (by decide) hM.2⟩) rfl rfl (Nat.le_of_ble_eq_true rfl) dX4_angle_50) hS (fun H locs hR hS => ?_)
    refine lv_istore (lv' := [(6, .int q_5.1), (0, .ref a0), (2, .ref a2), (3, .int s9.1), (4, .int s9.2.1), (5, .int s9.2.2.1)]) hx hb dX4_angle_53 hl (by decide) rfl (fun ls hl => ?_)
    refine lv_iload hx hb dX4_angle_55 (lv_at hl 0 rfl) ?_
    refine lv_iload hx hb dX4_angle_57 (lv_at hl 4 rfl) ?_
    refine lv_icmp_le (tgt := 69) hx hb dX4_angle_59 (by decide) (fun hc => ?_) (fun hc => ?_)
    · have h := of_pos hc h
      exact w_jp_X4_angle_69 X hK hT hM a0 a2 s9.1 s9.2.1 s9.2.2.1 k0 k2 h kb kx0 H locs ls hR hS (lv_sub hl [1, 2, 3, 4, 5] rfl)
    · have h := of_neg hc h
      refine lv_iload hx hb dX4_angle_62 (lv_at hl 0 rfl) ?_
      refine lv_istore (lv' := [(4, .int q_5.1), (6, .int q_5.1), (0, .ref a0), (2, .ref a2), (3, .int s9.1), (5, .int s9.2.2.1)]) hx hb dX4_angle_64 hl (by decide) rfl (fun ls hl => ?_)
      refine lv_iload hx hb dX4_angle_66 (lv_at hl 5 rfl) ?_
      refine lv_istore_n (lv' := [(3, .int s9.2.2.1), (4, .int q_5.1), (6, .int q_5.1), (0, .ref a0), (2, .ref a2), (5, .int s9.2.2.1)]) hx hb dX4_angle_68 rfl hl (by decide) rfl (fun ls hl => ?_)
      exact w_jp_X4_angle_69 X hK hT hM a0 a2 s9.2.2.1 q_5.1 s9.2.2.1 k0 k2 h kb kx0 H locs ls hR hS (lv_sub hl [3, 4, 0, 1, 5] rfl)

set_option maxHeartbeats 4000000 in
set_option maxRecDepth 100000 in
theorem w_lp_X4_angle_39 (X : Cx cX4_angle (some .int) 8 RX4 wsX4_angle p s m args meth c) (hK : Kn cA D s) (hT : TL Λ) (hM : 5 ≤ R.frames ∧ 115 ≤ R.locals) (a0 : Nat) (a2 : Nat) (k0 : isK Λ a0 5) (k2 : isK Λ a2 3) {e9 : (Int32 × Sto)} : ∀ (n9 : Nat) (s9 : (Int32 × Int32 × Int32 × Sto)), iter (bd_X4_angle_39 Λ a0 a2) n9 s9 = some e9 → ∀ (kx0 : ∀ (H : Heap) (locs : List Loc) (ls : Array Slot), Rep cA D Λ e9.2 H → va_S (dm Λ) s.heap H locs → lv_has ls 8 [(3, .int e9.1)] → W p l e R s m args below meth c H locs 0 0 Q (F0 m 100 ls [])), ∀ (H : Heap) (locs : List Loc) (ls : Array Slot), Rep cA D Λ s9.2.2.2 H → va_S (dm Λ) s.heap H locs → lv_has ls 8 [(0, .ref a0), (2, .ref a2), (3, .int s9.1), (4, .int s9.2.1), (5, .int s9.2.2.1)] → W p l e R s m args below meth c H locs 0 0 Q (F0 m 39 ls []) := by
  intro n9
  induction n9 with
  | zero => intro s9 h; cases h
  | succ n9 ih =>
    intro s9 h kx0 H locs ls hR hS hl
    obtain ⟨r, hr, h⟩ := of_iter h
    refine w_bd_X4_angle_39 X hK hT hM a0 a2 s9 k0 k2 hr (fun z ez H locs ls hR hS hl => ?_) (fun z ez H locs ls hR hS hl => ?_) H locs ls hR hS hl
    · exact ih z (of_itl ez h) kx0 H locs ls hR hS hl
    · have he := of_itr ez h; subst he; exact kx0 H locs ls hR hS hl

set_option maxHeartbeats 4000000 in
set_option maxRecDepth 100000 in
theorem w_X4_angle (X : Cx cX4_angle (some .int) 8 RX4 wsX4_angle p s m args meth c) (hK : Kn cA D s) (hT : TL Λ) (hM : 5 ≤ R.frames ∧ 115 ≤ R.locals) (a0 : Nat) (l1 : Int32) (k0 : isK Λ a0 5) {res : Int32 × Sto} (h : F_X4_angle Λ σ a0 l1 = some res) (H : Heap) (locs : List Loc) (ls : Array Slot) (hR : Rep cA D Λ σ H) (hS : va_S (dm Λ) s.heap H locs) (hl : lv_has ls 8 [(0, .ref a0), (1, .int l1)]) : W p l e R s m args below meth c H locs 0 0 (MQ below (QI cA D Λ res) args s 0 0 (dm Λ)) (F0 m 0 ls []) := by
  have hx := X.1
  have hb := X.2.1
  have hown := X.2.2.2.2.1
  have hts := X.2.2.2.2.2.1
  unfold F_X4_angle at h
  refine lv_aload_n hx hb dX4_angle_0 rfl (lv_at hl 0 rfl) ?_
  refine lv_iload_n hx hb dX4_angle_1 rfl (lv_at hl 1 rfl) ?_
  obtain ⟨q_1, hq_1, h⟩ := of_bind h
  refine cl_q (rn_V (As := [.int l1]) (rest := []) X hK hR k0 rfl (by decide) hl.1 (c_X4_find l cA D Λ hT σ a0 l1 k0 hq_1) (cwV 1 hts gX4_angle_X4_find rfl rfl rfl (by decide +kernel) ⟨Nat.le_trans (by decide) hM.1, Nat.le_trans (by decide) hM.2⟩) rfl rfl (Nat.le_of_ble_eq_true rfl) dX4_angle_2) hS (fun hn_1 H locs hR hS => ?_) (fun a_1 hn_1 kf_1 H locs hR hS => ?_)
  · have h := of_ocn hn_1 h
    refine lv_astore_nN (lv' := [(2, .null), (0, .ref a0), (1, .int l1)]) hx hb dX4_angle_5 rfl hl (by decide) rfl (fun ls hl => ?_)
    refine lv_aload_nN hx hb dX4_angle_6 rfl (lv_at hl 0 rfl) ?_
    refine lv_ifnonnullN hx hb dX4_angle_7 ?_
    refine lv_iconst (v := (-1 : Int32)) hx hb dX4_angle_10 (by decide) ?_
    exact rt_i X hR hS (Option.some.inj h) dX4_angle_11
  · have h := of_ocs hn_1 h
    refine lv_astore_n (lv' := [(2, .ref a_1), (0, .ref a0), (1, .int l1)]) hx hb dX4_angle_5 rfl hl (by decide) rfl (fun ls hl => ?_)
    refine lv_aload_n hx hb dX4_angle_6 rfl (lv_at hl 0 rfl) ?_
    refine lv_ifnonnull (tgt := 12) hx hb dX4_angle_7 (by decide) ?_
    refine lv_aload_n hx hb dX4_angle_12 rfl (lv_at hl 0 rfl) ?_
    obtain ⟨q_2, hq_2, h⟩ := of_bind h
    refine cl_l (rn_V (As := []) (rest := []) X hK hR kf_1 rfl (by decide) hl.1 (c_X2_inkedRows l cA D Λ hT σ a_1 kf_1 hq_2) (cwV 0 hts gX4_angle_X2_inkedRows rfl rfl rfl (by decide +kernel) ⟨Nat.le_trans (by decide) hM.1, Nat.le_trans (by decide) hM.2⟩) rfl rfl (Nat.le_of_ble_eq_true rfl) dX4_angle_13) hS (fun H locs hR hS => ?_)
    refine cl_i (rn_S (As := [.long q_2]) (rest := []) X hK hR hl.1 (c_J13_bitCount_95d88 l cA D Λ hT σ q_2) (va_cwS 1 hts gX4_angle_J13_bitCount_95d88 rfl rfl rfl (by decide +kernel) ⟨Nat.le_trans (by decide) hM.1, Nat.le_trans (by decide) hM.2⟩) rfl rfl (Nat.le_of_ble_eq_true rfl) dX4_angle_16) hS (fun H locs hR hS => ?_)
    refine lv_topi (fun r_3 e_3 => ?_)
    have h := of_nm e_3 h
    refine lv_iconst (v := (2 : Int32)) hx hb dX4_angle_19 (by decide) ?_
    refine lv_icmp_ge (tgt := 26) hx hb dX4_angle_20 (by decide) (fun hc => ?_) (fun hc => ?_)
    · have h := of_pos hc h
      refine lv_iconst (v := (0 : Int32)) hx hb dX4_angle_26 (by decide) ?_
      refine lv_istore_n (lv' := [(3, .int (0 : Int32)), (2, .ref a_1), (0, .ref a0), (1, .int l1)]) hx hb dX4_angle_27 rfl hl (by decide) rfl (fun ls hl => ?_)
      refine lv_aload_n hx hb dX4_angle_28 rfl (lv_at hl 2 rfl) ?_
      refine lv_aload_n hx hb dX4_angle_29 rfl (lv_at hl 1 rfl) ?_
      refine lv_iconst (v := (0 : Int32)) hx hb dX4_angle_30 (by decide) ?_
      obtain ⟨q_4, hq_4, h⟩ := of_bind h
      refine cl_i (rn_V (As := [.ref a_1, .int (0 : Int32)]) (rest := []) X hK hR k0 rfl (by decide) hl.1 (c_X4_sharpness l cA D Λ hT σ a0 a_1 (0 : Int32) k0 kf_1 hq_4) (cwV 2 hts gX4_angle_X4_sharpness rfl rfl rfl (by decide +kernel) ⟨Nat.le_trans (by decide) hM.1, Nat.le_trans (by decide) hM.2⟩) rfl rfl (Nat.le_of_ble_eq_true rfl) dX4_angle_31) hS (fun H locs hR hS => ?_)
      refine lv_istore (lv' := [(4, .int q_4.1), (3, .int (0 : Int32)), (2, .ref a_1), (0, .ref a0), (1, .int l1)]) hx hb dX4_angle_34 hl (by decide) rfl (fun ls hl => ?_)
      refine lv_iconst (v := (1 : Int32)) hx hb dX4_angle_36 (by decide) ?_
      refine lv_istore (lv' := [(5, .int (1 : Int32)), (4, .int q_4.1), (3, .int (0 : Int32)), (2, .ref a_1), (0, .ref a0), (1, .int l1)]) hx hb dX4_angle_37 hl (by decide) rfl (fun ls hl => ?_)
      obtain ⟨e_9, hq_9, h⟩ := of_bind h
      refine w_lp_X4_angle_39 X hK hT hM a0 a_1 k0 kf_1 _ ((0 : Int32), q_4.1, (1 : Int32), q_4.2) hq_9 (fun H locs ls hR hS hl => ?_) H locs ls hR hS (lv_sub hl [4, 3, 2, 1, 0] rfl)
      refine lv_iload_n hx hb dX4_angle_100 rfl (lv_at hl 0 rfl) ?_
      exact rt_i X hR hS (Option.some.inj h) dX4_angle_101
    · have h := of_neg hc h
      refine lv_bipush (v := (100 : Int32)) hx hb dX4_angle_23 (by decide) ?_
      exact rt_i X hR hS (Option.some.inj h) dX4_angle_25

set_option maxHeartbeats 4000000 in
set_option maxRecDepth 100000 in
theorem c_X4_angle (l : Launch) (cA : Nat → ClassId) (D : va_G) (Λ : Lay) (hT : TL Λ) (σ : Sto) (a0 : Nat) (l1 : Int32) (k0 : isK Λ a0 5) {res : Int32 × Sto} (h : F_X4_angle Λ σ a0 l1 = some res) : Met l yX4_angle wsX4_angle { frames := 5, cells := 0, slots := 0, locals := 115 } (va_Pc [.ref a0, .int l1] (PW cA D Λ σ)) (QI cA D Λ res) 0 0 (dm Λ) := by
  refine Met.ofW (cc := cX4_angle) (maxL := 8) (ret := (some .int)) (by decide) rfl ?_
  intro p e s m args below meth c s₁ B hml hv
  obtain ⟨rfl, hR, hK⟩ := hv
  have X : Cx cX4_angle (some .int) 8 RX4 wsX4_angle p s m _ meth c := ⟨B.exec, B.bytes, B.returns, hml, findClass_of_methodNamed B.named, atoms_spec (ws := wsX4_angle) B.pre, B.notSynchronized⟩
  have hS : va_S (dm Λ) s.heap s.heap [] := va_S.rf
  have hl := lv_entry ([.ref a0, .int l1]) (n := 8) (Nat.le_of_ble_eq_true rfl)
  rw [lg_entry_eq]
  generalize (lg_sl ([.ref a0, .int l1]) ++ List.replicate (8 - (lg_sl ([.ref a0, .int l1])).length) Slot.unset).toArray = ls at hl ⊢
  have hl : lv_has ls 8 [(0, .ref a0), (1, .int l1)] := hl
  exact w_X4_angle X hK hT ⟨Nat.le_refl _, Nat.le_refl _⟩ a0 l1 k0 h s.heap [] ls hR hS hl
set_option maxHeartbeats 4000000 in
set_option maxRecDepth 100000 in
theorem w_bd_X4_highestBit_3 (X : Cx cX4_highestBit (some .int) 3 RX4 wsX4_highestBit p s m args meth c) (hK : Kn cA D s) (hT : TL Λ) (hM : 0 ≤ R.frames ∧ 0 ≤ R.locals) (l0 : Int64) (s9 : Int32) {r : Int32 ⊕ Int32} (h : bd_X4_highestBit_3 l0 s9 = some r) (kb : ∀ z : Int32, r = .inl z → ∀ (H : Heap) (locs : List Loc) (ls : Array Slot), Rep cA D Λ σ H → va_S (dm Λ) s.heap H locs → lv_has ls 3 [(0, .long l0), (2, .int z)] → W p l e R s m args below meth c H locs 0 0 Q (F0 m 3 ls [])) (kx0 : ∀ z : Int32, r = .inr z → ∀ (H : Heap) (locs : List Loc) (ls : Array Slot), Rep cA D Λ σ H → va_S (dm Λ) s.heap H locs → lv_has ls 3 [(2, .int z)] → W p l e R s m args below meth c H locs 0 0 Q (F0 m 23 ls [])) (H : Heap) (locs : List Loc) (ls : Array Slot) (hR : Rep cA D Λ σ H) (hS : va_S (dm Λ) s.heap H locs) (hl : lv_has ls 3 [(0, .long l0), (2, .int s9)]) : W p l e R s m args below meth c H locs 0 0 Q (F0 m 3 ls []) := by
  have hx := X.1
  have hb := X.2.1
  have hown := X.2.2.2.2.1
  have hts := X.2.2.2.2.2.1
  unfold bd_X4_highestBit_3 at h
  refine lv_iload_n hx hb dX4_highestBit_3 rfl (lv_at hl 1 rfl) ?_
  refine lv_if_lt (tgt := 23) hx hb dX4_highestBit_4 (by decide) (fun hc => ?_) (fun hc => ?_)
  · have h := of_pos hc h
    exact kx0 s9 (Option.some.inj h).symm H locs ls hR hS (lv_sub hl [1] rfl)
  · have h := of_neg hc h
    refine lv_lload_n hx hb dX4_highestBit_7 rfl (lv_at hl 0 rfl) ?_
    refine lv_iload_n hx hb dX4_highestBit_8 rfl (lv_at hl 1 rfl) ?_
    refine lv_lushr (v := (ushrL l0 s9)) hx hb dX4_highestBit_9 rfl ?_
    refine lv_lconst (v := (1 : Int64)) hx hb dX4_highestBit_10 (by decide) ?_
    refine lv_land hx hb dX4_highestBit_11 ?_
    refine lv_lconst (v := (0 : Int64)) hx hb dX4_highestBit_12 (by decide) ?_
    refine W.lcmp hx hb dX4_highestBit_13 ?_
    refine lv_if_ne (tgt := 23) hx hb dX4_highestBit_14 (by decide) (fun hc => ?_) (fun hc => ?_)
    · have h := of_neg hc h
      exact kx0 s9 (Option.some.inj h).symm H locs ls hR hS (lv_sub hl [1] rfl)
    · have h := of_pos hc h
      obtain ⟨v_1, e_v_1⟩ : ∃ y : Int32, y = (s9 + (-1 : Int32)) := ⟨_, rfl⟩
      have h := of_nm e_v_1 h
      refine lv_iinc (v := v_1) (lv' := [(2, .int v_1), (0, .long l0)]) hx hb dX4_highestBit_17 hl (k := 1) rfl (by rw [e_v_1]; rfl) (by decide) rfl (fun ls hl => ?_)
      refine lv_goto (tgt := 3) hx hb dX4_highestBit_20 (by decide) ?_
      exact kb v_1 (Option.some.inj h).symm H locs ls hR hS (lv_sub hl [1, 0] rfl)

set_option maxHeartbeats 4000000 in
set_option maxRecDepth 100000 in
theorem w_lp_X4_highestBit_3 (X : Cx cX4_highestBit (some .int) 3 RX4 wsX4_highestBit p s m args meth c) (hK : Kn cA D s) (hT : TL Λ) (hM : 0 ≤ R.frames ∧ 0 ≤ R.locals) (l0 : Int64) {e9 : Int32} : ∀ (n9 : Nat) (s9 : Int32), iter (bd_X4_highestBit_3 l0) n9 s9 = some e9 → ∀ (kx0 : ∀ (H : Heap) (locs : List Loc) (ls : Array Slot), Rep cA D Λ σ H → va_S (dm Λ) s.heap H locs → lv_has ls 3 [(2, .int e9)] → W p l e R s m args below meth c H locs 0 0 Q (F0 m 23 ls [])), ∀ (H : Heap) (locs : List Loc) (ls : Array Slot), Rep cA D Λ σ H → va_S (dm Λ) s.heap H locs → lv_has ls 3 [(0, .long l0), (2, .int s9)] → W p l e R s m args below meth c H locs 0 0 Q (F0 m 3 ls []) := by
  intro n9
  induction n9 with
  | zero => intro s9 h; cases h
  | succ n9 ih =>
    intro s9 h kx0 H locs ls hR hS hl
    obtain ⟨r, hr, h⟩ := of_iter h
    refine w_bd_X4_highestBit_3 X hK hT hM l0 s9 hr (fun z ez H locs ls hR hS hl => ?_) (fun z ez H locs ls hR hS hl => ?_) H locs ls hR hS hl
    · exact ih z (of_itl ez h) kx0 H locs ls hR hS hl
    · have he := of_itr ez h; subst he; exact kx0 H locs ls hR hS hl

set_option maxHeartbeats 4000000 in
set_option maxRecDepth 100000 in
theorem w_X4_highestBit (X : Cx cX4_highestBit (some .int) 3 RX4 wsX4_highestBit p s m args meth c) (hK : Kn cA D s) (hT : TL Λ) (hM : 0 ≤ R.frames ∧ 0 ≤ R.locals) (l0 : Int64) {res : Int32} (h : F_X4_highestBit l0 = some res) (H : Heap) (locs : List Loc) (ls : Array Slot) (hR : Rep cA D Λ σ H) (hS : va_S (dm Λ) s.heap H locs) (hl : lv_has ls 3 [(0, .long l0)]) : W p l e R s m args below meth c H locs 0 0 (MQ below (QI cA D Λ (res, σ)) args s 0 0 (dm Λ)) (F0 m 0 ls []) := by
  have hx := X.1
  have hb := X.2.1
  have hown := X.2.2.2.2.1
  have hts := X.2.2.2.2.2.1
  unfold F_X4_highestBit at h
  refine lv_bipush (v := (63 : Int32)) hx hb dX4_highestBit_0 (by decide) ?_
  refine lv_istore_n (lv' := [(2, .int (63 : Int32)), (0, .long l0)]) hx hb dX4_highestBit_2 rfl hl (by decide) rfl (fun ls hl => ?_)
  obtain ⟨e_2, hq_2, h⟩ := of_bind h
  refine w_lp_X4_highestBit_3 X hK hT hM l0  _ (63 : Int32) hq_2 (fun H locs ls hR hS hl => ?_) H locs ls hR hS (lv_sub hl [1, 0] rfl)
  refine lv_iload_n hx hb dX4_highestBit_23 rfl (lv_at hl 0 rfl) ?_
  exact rt_i X hR hS (congrArg (fun z => (z, σ)) (Option.some.inj h)) dX4_highestBit_24

set_option maxHeartbeats 4000000 in
set_option maxRecDepth 100000 in
theorem c_X4_highestBit (l : Launch) (cA : Nat → ClassId) (D : va_G) (Λ : Lay) (hT : TL Λ) (σ : Sto) (l0 : Int64) {res : Int32} (h : F_X4_highestBit l0 = some res) : Met l yX4_highestBit wsX4_highestBit { frames := 0, cells := 0, slots := 0, locals := 0 } (va_Pc [.long l0] (PW cA D Λ σ)) (QI cA D Λ (res, σ)) 0 0 (dm Λ) := by
  refine Met.ofW (cc := cX4_highestBit) (maxL := 3) (ret := (some .int)) (by decide) rfl ?_
  intro p e s m args below meth c s₁ B hml hv
  obtain ⟨rfl, hR, hK⟩ := hv
  have X : Cx cX4_highestBit (some .int) 3 RX4 wsX4_highestBit p s m _ meth c := ⟨B.exec, B.bytes, B.returns, hml, findClass_of_methodNamed B.named, atoms_spec (ws := wsX4_highestBit) B.pre, B.notSynchronized⟩
  have hS : va_S (dm Λ) s.heap s.heap [] := va_S.rf
  have hl := lv_entry ([.long l0]) (n := 3) (Nat.le_of_ble_eq_true rfl)
  rw [lg_entry_eq]
  generalize (lg_sl ([.long l0]) ++ List.replicate (3 - (lg_sl ([.long l0])).length) Slot.unset).toArray = ls at hl ⊢
  have hl : lv_has ls 3 [(0, .long l0)] := hl
  exact w_X4_highestBit X hK hT ⟨Nat.le_refl _, Nat.le_refl _⟩ l0 h s.heap [] ls hR hS hl
theorem in_X4_bend_3 : ∀ w ∈ u_ws RX2 TX2 3, w ∈ wsX4_bend := by decide +kernel
theorem in_X4_bend_5 : ∀ w ∈ u_ws RX4 TX4 8, w ∈ wsX4_bend := by decide +kernel
set_option maxHeartbeats 4000000 in
set_option maxRecDepth 100000 in
theorem w_jp_X4_bend_107 (X : Cx cX4_bend (some .int) 7 RX4 wsX4_bend p s m args meth c) (hK : Kn cA D s) (hT : TL Λ) (hM : 4 ≤ R.frames ∧ 91 ≤ R.locals) (a0 : Nat) (a2 : Nat) (l3 : Int32) (l4 : Int32) (l5 : Int32)  (k0 : isK Λ a0 5) (k2 : isK Λ a2 3) {r : (Int32 × Int32 × Sto) ⊕ (Int32 × Sto)} (h : jp_X4_bend_107 Λ σ a0 a2 l3 l4 l5 = some r) (kb : ∀ z : (Int32 × Int32 × Sto), r = .inl z → ∀ (H : Heap) (locs : List Loc) (ls : Array Slot), Rep cA D Λ z.2.2 H → va_S (dm Λ) s.heap H locs → lv_has ls 7 [(0, .ref a0), (2, .ref a2), (3, .int l3), (4, .int z.1), (5, .int z.2.1)] → W p l e R s m args below meth c H locs 0 0 Q (F0 m 51 ls [])) (kx0 : ∀ z : (Int32 × Sto), r = .inr z → ∀ (H : Heap) (locs : List Loc) (ls : Array Slot), Rep cA D Λ z.2 H → va_S (dm Λ) s.heap H locs → lv_has ls 7 [(0, .ref a0), (2, .ref a2), (4, .int z.1)] → W p l e R s m args below meth c H locs 0 0 Q (F0 m 113 ls [])) (H : Heap) (locs : List Loc) (ls : Array Slot) (hR : Rep cA D Λ σ H) (hS : va_S (dm Λ) s.heap H locs) (hl : lv_has ls 7 [(0, .ref a0), (2, .ref a2), (3, .int l3), (4, .int l4), (5, .int l5)]) : W p l e R s m args below meth c H locs 0 0 Q (F0 m 107 ls []) := by
  have hx := X.1
  have hb := X.2.1
  have hown := X.2.2.2.2.1
  have hts := X.2.2.2.2.2.1
  unfold jp_X4_bend_107 at h
  obtain ⟨v_10, e_v_10⟩ : ∃ y : Int32, y = (l5 + (1 : Int32)) := ⟨_, rfl⟩
  have h := of_nm e_v_10 h
  refine lv_iinc (v := v_10) (lv' := [(5, .int v_10), (0, .ref a0), (2, .ref a2), (3, .int l3), (4, .int l4)]) hx hb dX4_bend_107 hl (k := 4) rfl (by rw [e_v_10]; rfl) (by decide) rfl (fun ls hl => ?_)
  refine lv_goto (tgt := 51) hx hb dX4_bend_110 (by decide) ?_
  exact kb (l4, v_10, σ) (Option.some.inj h).symm H locs ls hR hS (lv_sub hl [1, 2, 3, 4, 0] rfl)

set_option maxHeartbeats 4000000 in
set_option maxRecDepth 100000 in
theorem w_jp_X4_bend_104 (X : Cx cX4_bend (some .int) 7 RX4 wsX4_bend p s m args meth c) (hK : Kn cA D s) (hT : TL Λ) (hM : 4 ≤ R.frames ∧ 91 ≤ R.locals) (a0 : Nat) (a2 : Nat) (l3 : Int32) (l5 : Int32) (ls0 : Int32) (ls1 : Int32) (k0 : isK Λ a0 5) (k2 : isK Λ a2 3) {r : (Int32 × Int32 × Sto) ⊕ (Int32 × Sto)} (h : jp_X4_bend_104 Λ σ a0 a2 l3 l5 ls0 ls1 = some r) (kb : ∀ z : (Int32 × Int32 × Sto), r = .inl z → ∀ (H : Heap) (locs : List Loc) (ls : Array Slot), Rep cA D Λ z.2.2 H → va_S (dm Λ) s.heap H locs → lv_has ls 7 [(0, .ref a0), (2, .ref a2), (3, .int l3), (4, .int z.1), (5, .int z.2.1)] → W p l e R s m args below meth c H locs 0 0 Q (F0 m 51 ls [])) (kx0 : ∀ z : (Int32 × Sto), r = .inr z → ∀ (H : Heap) (locs : List Loc) (ls : Array Slot), Rep cA D Λ z.2 H → va_S (dm Λ) s.heap H locs → lv_has ls 7 [(0, .ref a0), (2, .ref a2), (4, .int z.1)] → W p l e R s m args below meth c H locs 0 0 Q (F0 m 113 ls [])) (H : Heap) (locs : List Loc) (ls : Array Slot) (hR : Rep cA D Λ σ H) (hS : va_S (dm Λ) s.heap H locs) (hl : lv_has ls 7 [(0, .ref a0), (2, .ref a2), (3, .int l3), (5, .int l5)]) : W p l e R s m args below meth c H locs 0 0 Q (F0 m 104 ls [.int ls0, .int ls1]) := by
  have hx := X.1
  have hb := X.2.1
  have hown := X.2.2.2.2.1
  have hts := X.2.2.2.2.2.1
  unfold jp_X4_bend_104 at h
  refine lv_iadd hx hb dX4_bend_104 ?_
  refine lv_topi (fun v_14 e_v_14 => ?_)
  have h := of_nm e_v_14 h
  refine lv_istore (lv' := [(4, .int v_14), (0, .ref a0), (2, .ref a2), (3, .int l3), (5, .int l5)]) hx hb dX4_bend_105 hl (by decide) rfl (fun ls hl => ?_)
  exact w_jp_X4_bend_107 X hK hT hM a0 a2 l3 v_14 l5 k0 k2 h kb kx0 H locs ls hR hS (lv_sub hl [1, 2, 3, 0, 4] rfl)

set_option maxHeartbeats 4000000 in
set_option maxRecDepth 100000 in
theorem w_bd_X4_bend_51 (X : Cx cX4_bend (some .int) 7 RX4 wsX4_bend p s m args meth c) (hK : Kn cA D s) (hT : TL Λ) (hM : 4 ≤ R.frames ∧ 91 ≤ R.locals) (a0 : Nat) (a2 : Nat) (l3 : Int32) (s9 : (Int32 × Int32 × Sto)) (k0 : isK Λ a0 5) (k2 : isK Λ a2 3) {r : (Int32 × Int32 × Sto) ⊕ (Int32 × Sto)} (h : bd_X4_bend_51 Λ a0 a2 l3 s9 = some r) (kb : ∀ z : (Int32 × Int32 × Sto), r = .inl z → ∀ (H : Heap) (locs : List Loc) (ls : Array Slot), Rep cA D Λ z.2.2 H → va_S (dm Λ) s.heap H locs → lv_has ls 7 [(0, .ref a0), (2, .ref a2), (3, .int l3), (4, .int z.1), (5, .int z.2.1)] → W p l e R s m args below meth c H locs 0 0 Q (F0 m 51 ls [])) (kx0 : ∀ z : (Int32 × Sto), r = .inr z → ∀ (H : Heap) (locs : List Loc) (ls : Array Slot), Rep cA D Λ z.2 H → va_S (dm Λ) s.heap H locs → lv_has ls 7 [(0, .ref a0), (2, .ref a2), (4, .int z.1)] → W p l e R s m args below meth c H locs 0 0 Q (F0 m 113 ls [])) (H : Heap) (locs : List Loc) (ls : Array Slot) (hR : Rep cA D Λ s9.2.2 H) (hS : va_S (dm Λ) s.heap H locs) (hl : lv_has ls 7 [(0, .ref a0), (2, .ref a2), (3, .int l3), (4, .int s9.1), (5, .int s9.2.1)]) : W p l e R s m args below meth c H locs 0 0 Q (F0 m 51 ls []) := by
  have hx := X.1
  have hb := X.2.1
  have hown := X.2.2.2.2.1
  have hts := X.2.2.2.2.2.1
  unfold bd_X4_bend_51 at h
  refine lv_iload hx hb dX4_bend_51 (lv_at hl 4 rfl) ?_
  refine lv_aload_n hx hb dX4_bend_53 rfl (lv_at hl 1 rfl) ?_
  refine cl_i (rn_V (As := []) (rest := [.int s9.2.1]) X hK hR k2 rfl (by decide) hl.1 (c_X2_steps l cA D Λ hT s9.2.2 a2 k2) (cwV 0 hts gX4_bend_X2_steps rfl rfl rfl (by decide +kernel) ⟨Nat.le_trans (by decide) hM.1, Nat.le_trans (by decide) hM.2⟩) rfl rfl (Nat.le_of_ble_eq_true rfl) dX4_bend_54) hS (fun H locs hR hS => ?_)
  refine lv_topi (fun r_8 e_8 => ?_)
  have h := of_nm e_8 h
  refine lv_icmp_ge (tgt := 113) hx hb dX4_bend_57 (by decide) (fun hc => ?_) (fun hc => ?_)
  · have h := of_pos hc h
    exact kx0 (s9.1, s9.2.2) (Option.some.inj h).symm H locs ls hR hS (lv_sub hl [0, 1, 3] rfl)
  · have h := of_neg hc h
    refine lv_aload_n hx hb dX4_bend_60 rfl (lv_at hl 1 rfl) ?_
    refine lv_iload hx hb dX4_bend_61 (lv_at hl 4 rfl) ?_
    obtain ⟨q_9, hq_9, h⟩ := of_bind h
    refine cl_i (rn_V (As := [.int s9.2.1]) (rest := []) X hK hR k2 rfl (by decide) hl.1 (c_X2_footOf l cA D Λ hT s9.2.2 a2 s9.2.1 k2 hq_9) (cwV 1 hts gX4_bend_X2_footOf rfl rfl rfl (by decide +kernel) ⟨Nat.le_trans (by decide) hM.1, Nat.le_trans (by decide) hM.2⟩) rfl rfl (Nat.le_of_ble_eq_true rfl) dX4_bend_63) hS (fun H locs hR hS => ?_)
    refine lv_istore (lv' := [(6, .int q_9), (0, .ref a0), (2, .ref a2), (3, .int l3), (4, .int s9.1), (5, .int s9.2.1)]) hx hb dX4_bend_66 hl (by decide) rfl (fun ls hl => ?_)
    refine lv_iload hx hb dX4_bend_68 (lv_at hl 0 rfl) ?_
    refine lv_iconst (v := (-1 : Int32)) hx hb dX4_bend_70 (by decide) ?_
    refine lv_icmp_eq (tgt := 107) hx hb dX4_bend_71 (by decide) (fun hc => ?_) (fun hc => ?_)
    · have h := of_pos hc h
      exact w_jp_X4_bend_107 X hK hT hM a0 a2 l3 s9.1 s9.2.1 k0 k2 h kb kx0 H locs ls hR hS (lv_sub hl [1, 2, 3, 4, 5] rfl)
    · have h := of_neg hc h
      refine lv_aload_n hx hb dX4_bend_74 rfl (lv_at hl 1 rfl) ?_
      refine rw_getR X hK hT hR 5 5 3 k0 (by decide) (C := RX4) (T := TX4) (N := 8) rfl (by decide) in_X4_bend_5 (by decide +kernel) rfl dX4_bend_75 (fun kf_11 => ?_)
      refine lv_aload_n hx hb dX4_bend_78 rfl (lv_at hl 2 rfl) ?_
      refine lv_iload hx hb dX4_bend_79 (lv_at hl 5 rfl) ?_
      refine cl_l (rn_S (As := [.int s9.2.1]) (rest := [.ref a2, .ref (rfA Λ a0 5)]) X hK hR hl.1 (c_X4_stepColumns l cA D Λ hT s9.2.2 s9.2.1) (va_cwS 1 hts gX4_bend_X4_stepColumns rfl rfl rfl (by decide +kernel) ⟨Nat.le_trans (by decide) hM.1, Nat.le_trans (by decide) hM.2⟩) rfl rfl (Nat.le_of_ble_eq_true rfl) dX4_bend_81) hS (fun H locs hR hS => ?_)
      refine lv_topl (fun r_12 e_12 => ?_)
      have h := of_nm e_12 h
      refine lv_iload_n hx hb dX4_bend_84 rfl (lv_at hl 3 rfl) ?_
      refine lv_iload hx hb dX4_bend_85 (lv_at hl 0 rfl) ?_
      refine lv_isub hx hb dX4_bend_87 ?_
      obtain ⟨q_13, hq_13, h⟩ := of_bind h
      refine cl_v (rn_V (As := [.ref a2, .long r_12, .int (l3 - q_9)]) (rest := []) X hK hR kf_11 rfl (by decide) hl.1 (c_X2_addDropped l cA D Λ hT s9.2.2 (rfA Λ a0 5) a2 r_12 (l3 - q_9) kf_11 k2 hq_13) (cwV 3 hts gX4_bend_X2_addDropped rfl rfl rfl (by decide +kernel) ⟨Nat.le_trans (by decide) hM.1, Nat.le_trans (by decide) hM.2⟩) rfl rfl (Nat.le_of_ble_eq_true rfl) dX4_bend_88) hS (fun H locs hR hS => ?_)
      refine lv_iload hx hb dX4_bend_91 (lv_at hl 4 rfl) ?_
      refine lv_iload hx hb dX4_bend_93 (lv_at hl 0 rfl) ?_
      refine lv_iload_n hx hb dX4_bend_95 rfl (lv_at hl 3 rfl) ?_
      refine lv_icmp_ge (tgt := 103) hx hb dX4_bend_96 (by decide) (fun hc => ?_) (fun hc => ?_)
      · have h := of_pos hc h
        refine lv_iconst (v := (0 : Int32)) hx hb dX4_bend_103 (by decide) ?_
        exact w_jp_X4_bend_104 X hK hT hM a0 a2 l3 s9.2.1 (0 : Int32) s9.1 k0 k2 h kb kx0 H locs ls hR hS (lv_sub hl [1, 2, 3, 5] rfl)
      · have h := of_neg hc h
        refine lv_iconst (v := (1 : Int32)) hx hb dX4_bend_99 (by decide) ?_
        refine lv_goto (tgt := 104) hx hb dX4_bend_100 (by decide) ?_
        exact w_jp_X4_bend_104 X hK hT hM a0 a2 l3 s9.2.1 (1 : Int32) s9.1 k0 k2 h kb kx0 H locs ls hR hS (lv_sub hl [1, 2, 3, 5] rfl)

set_option maxHeartbeats 4000000 in
set_option maxRecDepth 100000 in
theorem w_lp_X4_bend_51 (X : Cx cX4_bend (some .int) 7 RX4 wsX4_bend p s m args meth c) (hK : Kn cA D s) (hT : TL Λ) (hM : 4 ≤ R.frames ∧ 91 ≤ R.locals) (a0 : Nat) (a2 : Nat) (l3 : Int32) (k0 : isK Λ a0 5) (k2 : isK Λ a2 3) {e9 : (Int32 × Sto)} : ∀ (n9 : Nat) (s9 : (Int32 × Int32 × Sto)), iter (bd_X4_bend_51 Λ a0 a2 l3) n9 s9 = some e9 → ∀ (kx0 : ∀ (H : Heap) (locs : List Loc) (ls : Array Slot), Rep cA D Λ e9.2 H → va_S (dm Λ) s.heap H locs → lv_has ls 7 [(0, .ref a0), (2, .ref a2), (4, .int e9.1)] → W p l e R s m args below meth c H locs 0 0 Q (F0 m 113 ls [])), ∀ (H : Heap) (locs : List Loc) (ls : Array Slot), Rep cA D Λ s9.2.2 H → va_S (dm Λ) s.heap H locs → lv_has ls 7 [(0, .ref a0), (2, .ref a2), (3, .int l3), (4, .int s9.1), (5, .int s9.2.1)] → W p l e R s m args below meth c H locs 0 0 Q (F0 m 51 ls []) := by
  intro n9
  induction n9 with
  | zero => intro s9 h; cases h
  | succ n9 ih =>
    intro s9 h kx0 H locs ls hR hS hl
    obtain ⟨r, hr, h⟩ := of_iter h
    refine w_bd_X4_bend_51 X hK hT hM a0 a2 l3 s9 k0 k2 hr (fun z ez H locs ls hR hS hl => ?_) (fun z ez H locs ls hR hS hl => ?_) H locs ls hR hS hl
    · exact ih z (of_itl ez h) kx0 H locs ls hR hS hl
    · have he := of_itr ez h; subst he; exact kx0 H locs ls hR hS hl

set_option maxHeartbeats 4000000 in
set_option maxRecDepth 100000 in
theorem w_X4_bend (X : Cx cX4_bend (some .int) 7 RX4 wsX4_bend p s m args meth c) (hK : Kn cA D s) (hT : TL Λ) (hM : 4 ≤ R.frames ∧ 91 ≤ R.locals) (a0 : Nat) (l1 : Int32) (k0 : isK Λ a0 5) {res : Int32 × Sto} (h : F_X4_bend Λ σ a0 l1 = some res) (H : Heap) (locs : List Loc) (ls : Array Slot) (hR : Rep cA D Λ σ H) (hS : va_S (dm Λ) s.heap H locs) (hl : lv_has ls 7 [(0, .ref a0), (1, .int l1)]) : W p l e R s m args below meth c H locs 0 0 (MQ below (QI cA D Λ res) args s 0 0 (dm Λ)) (F0 m 0 ls []) := by
  have hx := X.1
  have hb := X.2.1
  have hown := X.2.2.2.2.1
  have hts := X.2.2.2.2.2.1
  unfold F_X4_bend at h
  refine lv_aload_n hx hb dX4_bend_0 rfl (lv_at hl 0 rfl) ?_
  refine lv_iload_n hx hb dX4_bend_1 rfl (lv_at hl 1 rfl) ?_
  obtain ⟨q_1, hq_1, h⟩ := of_bind h
  refine cl_q (rn_V (As := [.int l1]) (rest := []) X hK hR k0 rfl (by decide) hl.1 (c_X4_find l cA D Λ hT σ a0 l1 k0 hq_1) (cwV 1 hts gX4_bend_X4_find rfl rfl rfl (by decide +kernel) ⟨Nat.le_trans (by decide) hM.1, Nat.le_trans (by decide) hM.2⟩) rfl rfl (Nat.le_of_ble_eq_true rfl) dX4_bend_2) hS (fun hn_1 H locs hR hS => ?_) (fun a_1 hn_1 kf_1 H locs hR hS => ?_)
  · have h := of_ocn hn_1 h
    refine lv_astore_nN (lv' := [(2, .null), (0, .ref a0), (1, .int l1)]) hx hb dX4_bend_5 rfl hl (by decide) rfl (fun ls hl => ?_)
    refine lv_aload_nN hx hb dX4_bend_6 rfl (lv_at hl 0 rfl) ?_
    refine lv_ifnonnullN hx hb dX4_bend_7 ?_
    refine lv_iconst (v := (-1 : Int32)) hx hb dX4_bend_10 (by decide) ?_
    exact rt_i X hR hS (Option.some.inj h) dX4_bend_11
  · have h := of_ocs hn_1 h
    refine lv_astore_n (lv' := [(2, .ref a_1), (0, .ref a0), (1, .int l1)]) hx hb dX4_bend_5 rfl hl (by decide) rfl (fun ls hl => ?_)
    refine lv_aload_n hx hb dX4_bend_6 rfl (lv_at hl 0 rfl) ?_
    refine lv_ifnonnull (tgt := 12) hx hb dX4_bend_7 (by decide) ?_
    refine lv_aload_n hx hb dX4_bend_12 rfl (lv_at hl 1 rfl) ?_
    refine rw_getR X hK hT hR 5 2 2 k0 (by decide) (C := RX4) (T := TX4) (N := 8) rfl (by decide) in_X4_bend_5 (by decide +kernel) rfl dX4_bend_13 (fun kf_2 => ?_)
    refine lv_iload_n hx hb dX4_bend_16 rfl (lv_at hl 2 rfl) ?_
    refine lv_aload_n hx hb dX4_bend_17 rfl (lv_at hl 0 rfl) ?_
    refine lv_iconst (v := (-1 : Int32)) hx hb dX4_bend_18 (by decide) ?_
    obtain ⟨q_3, hq_3, h⟩ := of_bind h
    refine cl_v (rn_V (As := [.int l1, .ref a_1, .int (-1 : Int32)]) (rest := []) X hK hR kf_2 rfl (by decide) hl.1 (c_X1_remember l cA D Λ hT σ (rfA Λ a0 2) l1 a_1 (-1 : Int32) kf_2 kf_1 hq_3) (cwV 3 hts gX4_bend_X1_remember rfl rfl rfl (by decide +kernel) ⟨Nat.le_trans (by decide) hM.1, Nat.le_trans (by decide) hM.2⟩) rfl rfl (Nat.le_of_ble_eq_true rfl) dX4_bend_19) hS (fun H locs hR hS => ?_)
    refine lv_aload_n hx hb dX4_bend_22 rfl (lv_at hl 0 rfl) ?_
    obtain ⟨q_4, hq_4, h⟩ := of_bind h
    refine cl_l (rn_V (As := []) (rest := []) X hK hR kf_1 rfl (by decide) hl.1 (c_X2_inkedRows l cA D Λ hT q_3 a_1 kf_1 hq_4) (cwV 0 hts gX4_bend_X2_inkedRows rfl rfl rfl (by decide +kernel) ⟨Nat.le_trans (by decide) hM.1, Nat.le_trans (by decide) hM.2⟩) rfl rfl (Nat.le_of_ble_eq_true rfl) dX4_bend_23) hS (fun H locs hR hS => ?_)
    obtain ⟨q_5, hq_5, h⟩ := of_bind h
    refine cl_i (rn_S (As := [.long q_4]) (rest := []) X hK hR hl.1 (c_X4_highestBit l cA D Λ hT q_3 q_4 hq_5) (va_cwS 1 hts gX4_bend_X4_highestBit rfl rfl rfl (by decide +kernel) ⟨Nat.le_trans (by decide) hM.1, Nat.le_trans (by decide) hM.2⟩) rfl rfl (Nat.le_of_ble_eq_true rfl) dX4_bend_26) hS (fun H locs hR hS => ?_)
    refine lv_istore_n (lv' := [(3, .int q_5), (2, .ref a_1), (0, .ref a0), (1, .int l1)]) hx hb dX4_bend_29 rfl hl (by decide) rfl (fun ls hl => ?_)
    refine lv_iconst (v := (0 : Int32)) hx hb dX4_bend_30 (by decide) ?_
    refine lv_istore (lv' := [(4, .int (0 : Int32)), (3, .int q_5), (2, .ref a_1), (0, .ref a0), (1, .int l1)]) hx hb dX4_bend_31 hl (by decide) rfl (fun ls hl => ?_)
    refine lv_aload_n hx hb dX4_bend_33 rfl (lv_at hl 3 rfl) ?_
    refine rw_getR X hK hT hR 5 5 3 k0 (by decide) (C := RX4) (T := TX4) (N := 8) rfl (by decide) in_X4_bend_5 (by decide +kernel) rfl dX4_bend_34 (fun kf_6 => ?_)
    refine lv_aload_n hx hb dX4_bend_37 rfl (lv_at hl 2 rfl) ?_
    refine rw_getI X hK hR 3 0 kf_1 (by decide) (C := RX2) (T := TX2) (N := 3) rfl (by decide) in_X4_bend_3 (by decide +kernel) rfl dX4_bend_38 ?_
    refine lv_aload_n hx hb dX4_bend_41 rfl (lv_at hl 2 rfl) ?_
    refine rw_getI X hK hR 3 1 kf_1 (by decide) (C := RX2) (T := TX2) (N := 3) rfl (by decide) in_X4_bend_3 (by decide +kernel) rfl dX4_bend_42 ?_
    obtain ⟨q_7, hq_7, h⟩ := of_bind h
    refine cl_v (rn_V (As := [.int (q_3.1 a_1 0), .int (q_3.1 a_1 1)]) (rest := []) X hK hR kf_6 rfl (by decide) hl.1 (c_X2_empty l cA D Λ hT q_3 (rfA Λ a0 5) (q_3.1 a_1 0) (q_3.1 a_1 1) kf_6 hq_7) (cwV 2 hts gX4_bend_X2_empty rfl rfl rfl (by decide +kernel) ⟨Nat.le_trans (by decide) hM.1, Nat.le_trans (by decide) hM.2⟩) rfl rfl (Nat.le_of_ble_eq_true rfl) dX4_bend_45) hS (fun H locs hR hS => ?_)
    refine lv_iconst (v := (0 : Int32)) hx hb dX4_bend_48 (by decide) ?_
    refine lv_istore (lv' := [(5, .int (0 : Int32)), (4, .int (0 : Int32)), (3, .int q_5), (2, .ref a_1), (0, .ref a0), (1, .int l1)]) hx hb dX4_bend_49 hl (by decide) rfl (fun ls hl => ?_)
    obtain ⟨e_15, hq_15, h⟩ := of_bind h
    refine w_lp_X4_bend_51 X hK hT hM a0 a_1 q_5 k0 kf_1 _ ((0 : Int32), (0 : Int32), q_7) hq_15 (fun H locs ls hR hS hl => ?_) H locs ls hR hS (lv_sub hl [4, 3, 2, 1, 0] rfl)
    refine lv_aload_n hx hb dX4_bend_113 rfl (lv_at hl 1 rfl) ?_
    refine lv_aload_n hx hb dX4_bend_114 rfl (lv_at hl 0 rfl) ?_
    refine rw_getR X hK hT hR 5 5 3 k0 (by decide) (C := RX4) (T := TX4) (N := 8) rfl (by decide) in_X4_bend_5 (by decide +kernel) rfl dX4_bend_115 (fun kf_16 => ?_)
    obtain ⟨q_17, hq_17, h⟩ := of_bind h
    refine cl_v (rn_V (As := [.ref (rfA Λ a0 5)]) (rest := []) X hK hR kf_1 rfl (by decide) hl.1 (c_X2_become l cA D Λ hT e_15.2 a_1 (rfA Λ a0 5) kf_1 kf_16 hq_17) (cwV 1 hts gX4_bend_X2_become rfl rfl rfl (by decide +kernel) ⟨Nat.le_trans (by decide) hM.1, Nat.le_trans (by decide) hM.2⟩) rfl rfl (Nat.le_of_ble_eq_true rfl) dX4_bend_118) hS (fun H locs hR hS => ?_)
    refine lv_iload hx hb dX4_bend_121 (lv_at hl 2 rfl) ?_
    exact rt_i X hR hS (Option.some.inj h) dX4_bend_123

set_option maxHeartbeats 4000000 in
set_option maxRecDepth 100000 in
theorem c_X4_bend (l : Launch) (cA : Nat → ClassId) (D : va_G) (Λ : Lay) (hT : TL Λ) (σ : Sto) (a0 : Nat) (l1 : Int32) (k0 : isK Λ a0 5) {res : Int32 × Sto} (h : F_X4_bend Λ σ a0 l1 = some res) : Met l yX4_bend wsX4_bend { frames := 4, cells := 0, slots := 0, locals := 91 } (va_Pc [.ref a0, .int l1] (PW cA D Λ σ)) (QI cA D Λ res) 0 0 (dm Λ) := by
  refine Met.ofW (cc := cX4_bend) (maxL := 7) (ret := (some .int)) (by decide) rfl ?_
  intro p e s m args below meth c s₁ B hml hv
  obtain ⟨rfl, hR, hK⟩ := hv
  have X : Cx cX4_bend (some .int) 7 RX4 wsX4_bend p s m _ meth c := ⟨B.exec, B.bytes, B.returns, hml, findClass_of_methodNamed B.named, atoms_spec (ws := wsX4_bend) B.pre, B.notSynchronized⟩
  have hS : va_S (dm Λ) s.heap s.heap [] := va_S.rf
  have hl := lv_entry ([.ref a0, .int l1]) (n := 7) (Nat.le_of_ble_eq_true rfl)
  rw [lg_entry_eq]
  generalize (lg_sl ([.ref a0, .int l1]) ++ List.replicate (7 - (lg_sl ([.ref a0, .int l1])).length) Slot.unset).toArray = ls at hl ⊢
  have hl : lv_has ls 7 [(0, .ref a0), (1, .int l1)] := hl
  exact w_X4_bend X hK hT ⟨Nat.le_refl _, Nat.le_refl _⟩ a0 l1 k0 h s.heap [] ls hR hS hl
set_option maxHeartbeats 4000000 in
set_option maxRecDepth 100000 in
theorem w_X4_foot (X : Cx cX4_foot (some .int) 5 RX4 wsX4_foot p s m args meth c) (hK : Kn cA D s) (hT : TL Λ) (hM : 2 ≤ R.frames ∧ 43 ≤ R.locals) (a0 : Nat) (l1 : Int32) (l2 : Int32) (k0 : isK Λ a0 5) {res : Int32} (h : F_X4_foot Λ σ a0 l1 l2 = some res) (H : Heap) (locs : List Loc) (ls : Array Slot) (hR : Rep cA D Λ σ H) (hS : va_S (dm Λ) s.heap H locs) (hl : lv_has ls 5 [(0, .ref a0), (1, .int l1), (2, .int l2)]) : W p l e R s m args below meth c H locs 0 0 (MQ below (QI cA D Λ (res, σ)) args s 0 0 (dm Λ)) (F0 m 0 ls []) := by
  have hx := X.1
  have hb := X.2.1
  have hown := X.2.2.2.2.1
  have hts := X.2.2.2.2.2.1
  unfold F_X4_foot at h
  refine lv_aload_n hx hb dX4_foot_0 rfl (lv_at hl 0 rfl) ?_
  refine lv_iload_n hx hb dX4_foot_1 rfl (lv_at hl 1 rfl) ?_
  obtain ⟨q_1, hq_1, h⟩ := of_bind h
  refine cl_q (rn_V (As := [.int l1]) (rest := []) X hK hR k0 rfl (by decide) hl.1 (c_X4_find l cA D Λ hT σ a0 l1 k0 hq_1) (cwV 1 hts gX4_foot_X4_find rfl rfl rfl (by decide +kernel) ⟨Nat.le_trans (by decide) hM.1, Nat.le_trans (by decide) hM.2⟩) rfl rfl (Nat.le_of_ble_eq_true rfl) dX4_foot_2) hS (fun hn_1 H locs hR hS => ?_) (fun a_1 hn_1 kf_1 H locs hR hS => ?_)
  · have h := of_ocn hn_1 h
    refine lv_astore_nN (lv' := [(3, .null), (0, .ref a0), (1, .int l1), (2, .int l2)]) hx hb dX4_foot_5 rfl hl (by decide) rfl (fun ls hl => ?_)
    refine lv_aload_nN hx hb dX4_foot_6 rfl (lv_at hl 0 rfl) ?_
    refine lv_ifnullN (tgt := 24) hx hb dX4_foot_7 (by decide) ?_
    refine lv_iconst (v := (-1 : Int32)) hx hb dX4_foot_24 (by decide) ?_
    exact rt_i X hR hS (congrArg (fun z => (z, σ)) (Option.some.inj h)) dX4_foot_25
  · have h := of_ocs hn_1 h
    refine lv_astore_n (lv' := [(3, .ref a_1), (0, .ref a0), (1, .int l1), (2, .int l2)]) hx hb dX4_foot_5 rfl hl (by decide) rfl (fun ls hl => ?_)
    refine lv_aload_n hx hb dX4_foot_6 rfl (lv_at hl 0 rfl) ?_
    refine lv_ifnull hx hb dX4_foot_7 ?_
    refine lv_iload_n hx hb dX4_foot_10 rfl (lv_at hl 3 rfl) ?_
    refine lv_iconst (v := (0 : Int32)) hx hb dX4_foot_11 (by decide) ?_
    refine lv_aload_n hx hb dX4_foot_12 rfl (lv_at hl 0 rfl) ?_
    refine cl_i (rn_V (As := []) (rest := [.int (0 : Int32), .int l2]) X hK hR kf_1 rfl (by decide) hl.1 (c_X2_steps l cA D Λ hT σ a_1 kf_1) (cwV 0 hts gX4_foot_X2_steps rfl rfl rfl (by decide +kernel) ⟨Nat.le_trans (by decide) hM.1, Nat.le_trans (by decide) hM.2⟩) rfl rfl (Nat.le_of_ble_eq_true rfl) dX4_foot_13) hS (fun H locs hR hS => ?_)
    refine lv_topi (fun r_2 e_2 => ?_)
    have h := of_nm e_2 h
    refine lv_iconst (v := (1 : Int32)) hx hb dX4_foot_16 (by decide) ?_
    refine lv_isub hx hb dX4_foot_17 ?_
    refine cl_z (rn_S (As := [.int l2, .int (0 : Int32), .int (r_2 - (1 : Int32))]) (rest := []) X hK hR hl.1 (c_X4_within l cA D Λ hT σ l2 (0 : Int32) (r_2 - (1 : Int32))) (va_cwS 3 hts gX4_foot_X4_within rfl rfl rfl (by decide +kernel) ⟨Nat.le_trans (by decide) hM.1, Nat.le_trans (by decide) hM.2⟩) rfl rfl (Nat.le_of_ble_eq_true rfl) dX4_foot_18) hS (fun hz_3 H locs hR hS => ?_)
    refine lv_topi (fun r_3 e_3 => ?_)
    have h := of_nm e_3 h
    have hz_3 : r_3 = 0 ∨ r_3 = 1 := by rw [e_3]; exact hz_3
    refine lv_if_ne (tgt := 26) hx hb dX4_foot_21 (by decide) (fun hc => ?_) (fun hc => ?_)
    · have h := of_neg hc h
      refine lv_aload_n hx hb dX4_foot_26 rfl (lv_at hl 0 rfl) ?_
      refine lv_iload_n hx hb dX4_foot_27 rfl (lv_at hl 3 rfl) ?_
      obtain ⟨q_4, hq_4, h⟩ := of_bind h
      refine cl_i (rn_V (As := [.int l2]) (rest := []) X hK hR kf_1 rfl (by decide) hl.1 (c_X2_footOf l cA D Λ hT σ a_1 l2 kf_1 hq_4) (cwV 1 hts gX4_foot_X2_footOf rfl rfl rfl (by decide +kernel) ⟨Nat.le_trans (by decide) hM.1, Nat.le_trans (by decide) hM.2⟩) rfl rfl (Nat.le_of_ble_eq_true rfl) dX4_foot_28) hS (fun H locs hR hS => ?_)
      refine lv_istore (lv' := [(4, .int q_4), (3, .ref a_1), (0, .ref a0), (1, .int l1), (2, .int l2)]) hx hb dX4_foot_31 hl (by decide) rfl (fun ls hl => ?_)
      refine lv_iload hx hb dX4_foot_33 (lv_at hl 0 rfl) ?_
      refine lv_iconst (v := (-1 : Int32)) hx hb dX4_foot_35 (by decide) ?_
      refine lv_icmp_ne (tgt := 44) hx hb dX4_foot_36 (by decide) (fun hc => ?_) (fun hc => ?_)
      · have h := of_neg hc h
        refine lv_iload hx hb dX4_foot_44 (lv_at hl 0 rfl) ?_
        exact rt_i X hR hS (congrArg (fun z => (z, σ)) (Option.some.inj h)) dX4_foot_46
      · have h := of_pos hc h
        refine lv_bipush (v := (100 : Int32)) hx hb dX4_foot_39 (by decide) ?_
        refine lv_goto (tgt := 46) hx hb dX4_foot_41 (by decide) ?_
        exact rt_i X hR hS (congrArg (fun z => (z, σ)) (Option.some.inj h)) dX4_foot_46
    · have h := of_pos hc h
      refine lv_iconst (v := (-1 : Int32)) hx hb dX4_foot_24 (by decide) ?_
      exact rt_i X hR hS (congrArg (fun z => (z, σ)) (Option.some.inj h)) dX4_foot_25

set_option maxHeartbeats 4000000 in
set_option maxRecDepth 100000 in
theorem c_X4_foot (l : Launch) (cA : Nat → ClassId) (D : va_G) (Λ : Lay) (hT : TL Λ) (σ : Sto) (a0 : Nat) (l1 : Int32) (l2 : Int32) (k0 : isK Λ a0 5) {res : Int32} (h : F_X4_foot Λ σ a0 l1 l2 = some res) : Met l yX4_foot wsX4_foot { frames := 2, cells := 0, slots := 0, locals := 43 } (va_Pc [.ref a0, .int l1, .int l2] (PW cA D Λ σ)) (QI cA D Λ (res, σ)) 0 0 (dm Λ) := by
  refine Met.ofW (cc := cX4_foot) (maxL := 5) (ret := (some .int)) (by decide) rfl ?_
  intro p e s m args below meth c s₁ B hml hv
  obtain ⟨rfl, hR, hK⟩ := hv
  have X : Cx cX4_foot (some .int) 5 RX4 wsX4_foot p s m _ meth c := ⟨B.exec, B.bytes, B.returns, hml, findClass_of_methodNamed B.named, atoms_spec (ws := wsX4_foot) B.pre, B.notSynchronized⟩
  have hS : va_S (dm Λ) s.heap s.heap [] := va_S.rf
  have hl := lv_entry ([.ref a0, .int l1, .int l2]) (n := 5) (Nat.le_of_ble_eq_true rfl)
  rw [lg_entry_eq]
  generalize (lg_sl ([.ref a0, .int l1, .int l2]) ++ List.replicate (5 - (lg_sl ([.ref a0, .int l1, .int l2])).length) Slot.unset).toArray = ls at hl ⊢
  have hl : lv_has ls 5 [(0, .ref a0), (1, .int l1), (2, .int l2)] := hl
  exact w_X4_foot X hK hT ⟨Nat.le_refl _, Nat.le_refl _⟩ a0 l1 l2 k0 h s.heap [] ls hR hS hl
set_option maxHeartbeats 4000000 in
set_option maxRecDepth 100000 in
theorem w_X4_isSpeckRule (X : Cx cX4_isSpeckRule (some .boolean) 2 RX4 wsX4_isSpeckRule p s m args meth c) (hK : Kn cA D s) (hT : TL Λ) (hM : 1 ≤ R.frames ∧ 22 ≤ R.locals) (l0 : Int32) (l1 : Int32) {res : Int32} (h : F_X4_isSpeckRule l0 l1 = res) (H : Heap) (locs : List Loc) (ls : Array Slot) (hR : Rep cA D Λ σ H) (hS : va_S (dm Λ) s.heap H locs) (hl : lv_has ls 2 [(0, .int l0), (1, .int l1)]) : W p l e R s m args below meth c H locs 0 0 (MQ below (QZ cA D Λ (res, σ)) args s 0 0 (dm Λ)) (F0 m 0 ls []) := by
  have hx := X.1
  have hb := X.2.1
  have hown := X.2.2.2.2.1
  have hts := X.2.2.2.2.2.1
  unfold F_X4_isSpeckRule at h
  refine lv_iload_n hx hb dX4_isSpeckRule_0 rfl (lv_at hl 0 rfl) ?_
  refine lv_iconst (v := (1 : Int32)) hx hb dX4_isSpeckRule_1 (by decide) ?_
  refine lv_bipush (v := (100 : Int32)) hx hb dX4_isSpeckRule_2 (by decide) ?_
  refine cl_z (rn_S (As := [.int l0, .int (1 : Int32), .int (100 : Int32)]) (rest := []) X hK hR hl.1 (c_X4_within l cA D Λ hT σ l0 (1 : Int32) (100 : Int32)) (va_cwS 3 hts gX4_isSpeckRule_X4_within rfl rfl rfl (by decide +kernel) ⟨Nat.le_trans (by decide) hM.1, Nat.le_trans (by decide) hM.2⟩) rfl rfl (Nat.le_of_ble_eq_true rfl) dX4_isSpeckRule_4) hS (fun hz_1 H locs hR hS => ?_)
  refine lv_topi (fun r_1 e_1 => ?_)
  have h := of_nm e_1 h
  have hz_1 : r_1 = 0 ∨ r_1 = 1 := by rw [e_1]; exact hz_1
  refine lv_if_eq (tgt := 24) hx hb dX4_isSpeckRule_7 (by decide) (fun hc => ?_) (fun hc => ?_)
  · have h := of_pos hc h
    refine lv_iconst (v := (0 : Int32)) hx hb dX4_isSpeckRule_24 (by decide) ?_
    exact rt_z X hR hS (congrArg (fun z => (z, σ)) h) (Or.inl rfl) dX4_isSpeckRule_25
  · have h := of_neg hc h
    refine lv_iload_n hx hb dX4_isSpeckRule_10 rfl (lv_at hl 1 rfl) ?_
    refine lv_iconst (v := (0 : Int32)) hx hb dX4_isSpeckRule_11 (by decide) ?_
    refine lv_bipush (v := (20 : Int32)) hx hb dX4_isSpeckRule_12 (by decide) ?_
    refine cl_z (rn_S (As := [.int l1, .int (0 : Int32), .int (20 : Int32)]) (rest := []) X hK hR hl.1 (c_X4_within l cA D Λ hT σ l1 (0 : Int32) (20 : Int32)) (va_cwS 3 hts gX4_isSpeckRule_X4_within rfl rfl rfl (by decide +kernel) ⟨Nat.le_trans (by decide) hM.1, Nat.le_trans (by decide) hM.2⟩) rfl rfl (Nat.le_of_ble_eq_true rfl) dX4_isSpeckRule_14) hS (fun hz_2 H locs hR hS => ?_)
    refine lv_topi (fun r_2 e_2 => ?_)
    have h := of_nm e_2 h
    have hz_2 : r_2 = 0 ∨ r_2 = 1 := by rw [e_2]; exact hz_2
    refine lv_if_eq (tgt := 24) hx hb dX4_isSpeckRule_17 (by decide) (fun hc => ?_) (fun hc => ?_)
    · have h := of_pos hc h
      refine lv_iconst (v := (0 : Int32)) hx hb dX4_isSpeckRule_24 (by decide) ?_
      exact rt_z X hR hS (congrArg (fun z => (z, σ)) h) (Or.inl rfl) dX4_isSpeckRule_25
    · have h := of_neg hc h
      refine lv_iconst (v := (1 : Int32)) hx hb dX4_isSpeckRule_20 (by decide) ?_
      refine lv_goto (tgt := 25) hx hb dX4_isSpeckRule_21 (by decide) ?_
      exact rt_z X hR hS (congrArg (fun z => (z, σ)) h) (Or.inr rfl) dX4_isSpeckRule_25

set_option maxHeartbeats 4000000 in
set_option maxRecDepth 100000 in
theorem c_X4_isSpeckRule (l : Launch) (cA : Nat → ClassId) (D : va_G) (Λ : Lay) (hT : TL Λ) (σ : Sto) (l0 : Int32) (l1 : Int32) : Met l yX4_isSpeckRule wsX4_isSpeckRule { frames := 1, cells := 0, slots := 0, locals := 22 } (va_Pc [.int l0, .int l1] (PW cA D Λ σ)) (QZ cA D Λ ((F_X4_isSpeckRule l0 l1), σ)) 0 0 (dm Λ) := by
  refine Met.ofW (cc := cX4_isSpeckRule) (maxL := 2) (ret := (some .boolean)) (by decide) rfl ?_
  intro p e s m args below meth c s₁ B hml hv
  obtain ⟨rfl, hR, hK⟩ := hv
  have X : Cx cX4_isSpeckRule (some .boolean) 2 RX4 wsX4_isSpeckRule p s m _ meth c := ⟨B.exec, B.bytes, B.returns, hml, findClass_of_methodNamed B.named, atoms_spec (ws := wsX4_isSpeckRule) B.pre, B.notSynchronized⟩
  have hS : va_S (dm Λ) s.heap s.heap [] := va_S.rf
  have hl := lv_entry ([.int l0, .int l1]) (n := 2) (Nat.le_of_ble_eq_true rfl)
  rw [lg_entry_eq]
  generalize (lg_sl ([.int l0, .int l1]) ++ List.replicate (2 - (lg_sl ([.int l0, .int l1])).length) Slot.unset).toArray = ls at hl ⊢
  have hl : lv_has ls 2 [(0, .int l0), (1, .int l1)] := hl
  exact w_X4_isSpeckRule X hK hT ⟨Nat.le_refl _, Nat.le_refl _⟩ l0 l1 rfl s.heap [] ls hR hS hl
theorem in_X4_specks_5 : ∀ w ∈ u_ws RX4 TX4 8, w ∈ wsX4_specks := by decide +kernel
set_option maxHeartbeats 4000000 in
set_option maxRecDepth 100000 in
theorem w_X4_specks (X : Cx cX4_specks (some .int) 5 RX4 wsX4_specks p s m args meth c) (hK : Kn cA D s) (hT : TL Λ) (hM : 6 ≤ R.frames ∧ 150 ≤ R.locals) (a0 : Nat) (l1 : Int32) (l2 : Int32) (l3 : Int32) (k0 : isK Λ a0 5) {res : Int32 × Sto} (h : F_X4_specks Λ σ a0 l1 l2 l3 = some res) (H : Heap) (locs : List Loc) (ls : Array Slot) (hR : Rep cA D Λ σ H) (hS : va_S (dm Λ) s.heap H locs) (hl : lv_has ls 5 [(0, .ref a0), (1, .int l1), (2, .int l2), (3, .int l3)]) : W p l e R s m args below meth c H locs 0 0 (MQ below (QI cA D Λ res) args s 0 0 (dm Λ)) (F0 m 0 ls []) := by
  have hx := X.1
  have hb := X.2.1
  have hown := X.2.2.2.2.1
  have hts := X.2.2.2.2.2.1
  unfold F_X4_specks at h
  refine lv_aload_n hx hb dX4_specks_0 rfl (lv_at hl 0 rfl) ?_
  refine lv_iload_n hx hb dX4_specks_1 rfl (lv_at hl 1 rfl) ?_
  obtain ⟨q_1, hq_1, h⟩ := of_bind h
  refine cl_q (rn_V (As := [.int l1]) (rest := []) X hK hR k0 rfl (by decide) hl.1 (c_X4_find l cA D Λ hT σ a0 l1 k0 hq_1) (cwV 1 hts gX4_specks_X4_find rfl rfl rfl (by decide +kernel) ⟨Nat.le_trans (by decide) hM.1, Nat.le_trans (by decide) hM.2⟩) rfl rfl (Nat.le_of_ble_eq_true rfl) dX4_specks_2) hS (fun hn_1 H locs hR hS => ?_) (fun a_1 hn_1 kf_1 H locs hR hS => ?_)
  · have h := of_ocn hn_1 h
    refine lv_astoreN (lv' := [(4, .null), (0, .ref a0), (1, .int l1), (2, .int l2), (3, .int l3)]) hx hb dX4_specks_5 hl (by decide) rfl (fun ls hl => ?_)
    refine lv_aloadN hx hb dX4_specks_7 (lv_at hl 0 rfl) ?_
    refine lv_ifnullN (tgt := 20) hx hb dX4_specks_9 (by decide) ?_
    refine lv_iconst (v := (-1 : Int32)) hx hb dX4_specks_20 (by decide) ?_
    exact rt_i X hR hS (Option.some.inj h) dX4_specks_21
  · have h := of_ocs hn_1 h
    refine lv_astore (lv' := [(4, .ref a_1), (0, .ref a0), (1, .int l1), (2, .int l2), (3, .int l3)]) hx hb dX4_specks_5 hl (by decide) rfl (fun ls hl => ?_)
    refine lv_aload hx hb dX4_specks_7 (lv_at hl 0 rfl) ?_
    refine lv_ifnull hx hb dX4_specks_9 ?_
    refine lv_iload_n hx hb dX4_specks_12 rfl (lv_at hl 3 rfl) ?_
    refine lv_iload_n hx hb dX4_specks_13 rfl (lv_at hl 4 rfl) ?_
    refine cl_z (rn_S (As := [.int l2, .int l3]) (rest := []) X hK hR hl.1 (c_X4_isSpeckRule l cA D Λ hT σ l2 l3) (va_cwS 2 hts gX4_specks_X4_isSpeckRule rfl rfl rfl (by decide +kernel) ⟨Nat.le_trans (by decide) hM.1, Nat.le_trans (by decide) hM.2⟩) rfl rfl (Nat.le_of_ble_eq_true rfl) dX4_specks_14) hS (fun hz_2 H locs hR hS => ?_)
    refine lv_topi (fun r_2 e_2 => ?_)
    have h := of_nm e_2 h
    have hz_2 : r_2 = 0 ∨ r_2 = 1 := by rw [e_2]; exact hz_2
    refine lv_if_ne (tgt := 22) hx hb dX4_specks_17 (by decide) (fun hc => ?_) (fun hc => ?_)
    · have h := of_neg hc h
      refine lv_aload_n hx hb dX4_specks_22 rfl (lv_at hl 1 rfl) ?_
      refine rw_getR X hK hT hR 5 3 4 k0 (by decide) (C := RX4) (T := TX4) (N := 8) rfl (by decide) in_X4_specks_5 (by decide +kernel) rfl dX4_specks_23 (fun kf_3 => ?_)
      refine lv_aload hx hb dX4_specks_26 (lv_at hl 0 rfl) ?_
      refine lv_iload_n hx hb dX4_specks_28 rfl (lv_at hl 3 rfl) ?_
      refine lv_iload_n hx hb dX4_specks_29 rfl (lv_at hl 4 rfl) ?_
      obtain ⟨q_4, hq_4, h⟩ := of_bind h
      refine cl_i (rn_V (As := [.ref a_1, .int l2, .int l3]) (rest := []) X hK hR kf_3 rfl (by decide) hl.1 (c_X3_findSpecks l cA D Λ hT σ (rfA Λ a0 3) a_1 l2 l3 kf_3 kf_1 hq_4) (cwV 3 hts gX4_specks_X3_findSpecks rfl rfl rfl (by decide +kernel) ⟨Nat.le_trans (by decide) hM.1, Nat.le_trans (by decide) hM.2⟩) rfl rfl (Nat.le_of_ble_eq_true rfl) dX4_specks_30) hS (fun H locs hR hS => ?_)
      exact rt_i X hR hS (Option.some.inj h) dX4_specks_33
    · have h := of_pos hc h
      refine lv_iconst (v := (-1 : Int32)) hx hb dX4_specks_20 (by decide) ?_
      exact rt_i X hR hS (Option.some.inj h) dX4_specks_21

set_option maxHeartbeats 4000000 in
set_option maxRecDepth 100000 in
theorem c_X4_specks (l : Launch) (cA : Nat → ClassId) (D : va_G) (Λ : Lay) (hT : TL Λ) (σ : Sto) (a0 : Nat) (l1 : Int32) (l2 : Int32) (l3 : Int32) (k0 : isK Λ a0 5) {res : Int32 × Sto} (h : F_X4_specks Λ σ a0 l1 l2 l3 = some res) : Met l yX4_specks wsX4_specks { frames := 6, cells := 0, slots := 0, locals := 150 } (va_Pc [.ref a0, .int l1, .int l2, .int l3] (PW cA D Λ σ)) (QI cA D Λ res) 0 0 (dm Λ) := by
  refine Met.ofW (cc := cX4_specks) (maxL := 5) (ret := (some .int)) (by decide) rfl ?_
  intro p e s m args below meth c s₁ B hml hv
  obtain ⟨rfl, hR, hK⟩ := hv
  have X : Cx cX4_specks (some .int) 5 RX4 wsX4_specks p s m _ meth c := ⟨B.exec, B.bytes, B.returns, hml, findClass_of_methodNamed B.named, atoms_spec (ws := wsX4_specks) B.pre, B.notSynchronized⟩
  have hS : va_S (dm Λ) s.heap s.heap [] := va_S.rf
  have hl := lv_entry ([.ref a0, .int l1, .int l2, .int l3]) (n := 5) (Nat.le_of_ble_eq_true rfl)
  rw [lg_entry_eq]
  generalize (lg_sl ([.ref a0, .int l1, .int l2, .int l3]) ++ List.replicate (5 - (lg_sl ([.ref a0, .int l1, .int l2, .int l3])).length) Slot.unset).toArray = ls at hl ⊢
  have hl : lv_has ls 5 [(0, .ref a0), (1, .int l1), (2, .int l2), (3, .int l3)] := hl
  exact w_X4_specks X hK hT ⟨Nat.le_refl _, Nat.le_refl _⟩ a0 l1 l2 l3 k0 h s.heap [] ls hR hS hl
theorem in_X4_takeListed_3 : ∀ w ∈ u_ws RX2 TX2 3, w ∈ wsX4_takeListed := by decide +kernel
theorem in_X4_takeListed_5 : ∀ w ∈ u_ws RX4 TX4 8, w ∈ wsX4_takeListed := by decide +kernel
set_option maxHeartbeats 4000000 in
set_option maxRecDepth 100000 in
theorem w_bd_X4_takeListed_12 (X : Cx cX4_takeListed none 4 RX4 wsX4_takeListed p s m args meth c) (hK : Kn cA D s) (hT : TL Λ) (hM : 4 ≤ R.frames ∧ 91 ≤ R.locals) (a0 : Nat) (a2 : Nat) (s9 : (Int32 × Sto)) (k0 : isK Λ a0 5) (k2 : isK Λ a2 3) {r : (Int32 × Sto) ⊕ Sto} (h : bd_X4_takeListed_12 Λ a0 a2 s9 = some r) (kb : ∀ z : (Int32 × Sto), r = .inl z → ∀ (H : Heap) (locs : List Loc) (ls : Array Slot), Rep cA D Λ z.2 H → va_S (dm Λ) s.heap H locs → lv_has ls 4 [(0, .ref a0), (2, .ref a2), (3, .int z.1)] → W p l e R s m args below meth c H locs 0 0 Q (F0 m 12 ls [])) (kx0 : ∀ z : Sto, r = .inr z → ∀ (H : Heap) (locs : List Loc) (ls : Array Slot), Rep cA D Λ z H → va_S (dm Λ) s.heap H locs → lv_has ls 4 [] → W p l e R s m args below meth c H locs 0 0 Q (F0 m 48 ls [])) (H : Heap) (locs : List Loc) (ls : Array Slot) (hR : Rep cA D Λ s9.2 H) (hS : va_S (dm Λ) s.heap H locs) (hl : lv_has ls 4 [(0, .ref a0), (2, .ref a2), (3, .int s9.1)]) : W p l e R s m args below meth c H locs 0 0 Q (F0 m 12 ls []) := by
  have hx := X.1
  have hb := X.2.1
  have hown := X.2.2.2.2.1
  have hts := X.2.2.2.2.2.1
  unfold bd_X4_takeListed_12 at h
  refine lv_iload_n hx hb dX4_takeListed_12 rfl (lv_at hl 2 rfl) ?_
  refine lv_aload_n hx hb dX4_takeListed_13 rfl (lv_at hl 1 rfl) ?_
  refine rw_getI X hK hR 3 1 k2 (by decide) (C := RX2) (T := TX2) (N := 3) rfl (by decide) in_X4_takeListed_3 (by decide +kernel) rfl dX4_takeListed_14 ?_
  refine lv_icmp_ge (tgt := 48) hx hb dX4_takeListed_17 (by decide) (fun hc => ?_) (fun hc => ?_)
  · have h := of_pos hc h
    exact kx0 s9.2 (Option.some.inj h).symm H locs ls hR hS (lv_sub hl [] rfl)
  · have h := of_neg hc h
    refine lv_aload_n hx hb dX4_takeListed_20 rfl (lv_at hl 1 rfl) ?_
    refine rw_getR X hK hT hR 3 2 8 k2 (by decide) (C := RX2) (T := TX2) (N := 3) rfl (by decide) in_X4_takeListed_3 (by decide +kernel) rfl dX4_takeListed_21 (fun kf_3 => ?_)
    refine lv_iload_n hx hb dX4_takeListed_24 rfl (lv_at hl 2 rfl) ?_
    refine lv_dup2_11 hx hb dX4_takeListed_25 rfl rfl ?_
    obtain ⟨hg_4, h⟩ := of_guard h
    refine rw_lald X hK hR kf_3 hg_4 dX4_takeListed_26 ?_
    refine lv_aload_n hx hb dX4_takeListed_27 rfl (lv_at hl 0 rfl) ?_
    refine rw_getR X hK hT hR 5 4 3 k0 (by decide) (C := RX4) (T := TX4) (N := 8) rfl (by decide) in_X4_takeListed_5 (by decide +kernel) rfl dX4_takeListed_28 (fun kf_5 => ?_)
    refine rw_getR X hK hT hR 3 2 8 kf_5 (by decide) (C := RX2) (T := TX2) (N := 3) rfl (by decide) in_X4_takeListed_3 (by decide +kernel) rfl dX4_takeListed_31 (fun kf_6 => ?_)
    refine lv_iload_n hx hb dX4_takeListed_34 rfl (lv_at hl 2 rfl) ?_
    obtain ⟨hg_7, h⟩ := of_guard h
    refine rw_lald X hK hR kf_6 hg_7 dX4_takeListed_35 ?_
    refine lv_ldc2 (v := (-1 : Int64)) hx hb hown (hts (.constantLong RX4 78 (-1)) (by decide +kernel)) dX4_takeListed_36 ?_
    refine lv_lxor hx hb dX4_takeListed_39 ?_
    refine lv_land hx hb dX4_takeListed_40 ?_
    obtain ⟨hg_8, h⟩ := of_guard h
    refine rw_last X hK hT hR hS kf_3 hg_8 dX4_takeListed_41 (fun σ_8 H locs e_8 hR hS => ?_)
    have h := of_nm e_8 h
    obtain ⟨v_9, e_v_9⟩ : ∃ y : Int32, y = (s9.1 + (1 : Int32)) := ⟨_, rfl⟩
    have h := of_nm e_v_9 h
    refine lv_iinc (v := v_9) (lv' := [(3, .int v_9), (0, .ref a0), (2, .ref a2)]) hx hb dX4_takeListed_42 hl (k := 2) rfl (by rw [e_v_9]; rfl) (by decide) rfl (fun ls hl => ?_)
    refine lv_goto (tgt := 12) hx hb dX4_takeListed_45 (by decide) ?_
    exact kb (v_9, σ_8) (Option.some.inj h).symm H locs ls hR hS (lv_sub hl [1, 2, 0] rfl)

set_option maxHeartbeats 4000000 in
set_option maxRecDepth 100000 in
theorem w_lp_X4_takeListed_12 (X : Cx cX4_takeListed none 4 RX4 wsX4_takeListed p s m args meth c) (hK : Kn cA D s) (hT : TL Λ) (hM : 4 ≤ R.frames ∧ 91 ≤ R.locals) (a0 : Nat) (a2 : Nat) (k0 : isK Λ a0 5) (k2 : isK Λ a2 3) {e9 : Sto} : ∀ (n9 : Nat) (s9 : (Int32 × Sto)), iter (bd_X4_takeListed_12 Λ a0 a2) n9 s9 = some e9 → ∀ (kx0 : ∀ (H : Heap) (locs : List Loc) (ls : Array Slot), Rep cA D Λ e9 H → va_S (dm Λ) s.heap H locs → lv_has ls 4 [] → W p l e R s m args below meth c H locs 0 0 Q (F0 m 48 ls [])), ∀ (H : Heap) (locs : List Loc) (ls : Array Slot), Rep cA D Λ s9.2 H → va_S (dm Λ) s.heap H locs → lv_has ls 4 [(0, .ref a0), (2, .ref a2), (3, .int s9.1)] → W p l e R s m args below meth c H locs 0 0 Q (F0 m 12 ls []) := by
  intro n9
  induction n9 with
  | zero => intro s9 h; cases h
  | succ n9 ih =>
    intro s9 h kx0 H locs ls hR hS hl
    obtain ⟨r, hr, h⟩ := of_iter h
    refine w_bd_X4_takeListed_12 X hK hT hM a0 a2 s9 k0 k2 hr (fun z ez H locs ls hR hS hl => ?_) (fun z ez H locs ls hR hS hl => ?_) H locs ls hR hS hl
    · exact ih z (of_itl ez h) kx0 H locs ls hR hS hl
    · have he := of_itr ez h; subst he; exact kx0 H locs ls hR hS hl

set_option maxHeartbeats 4000000 in
set_option maxRecDepth 100000 in
theorem w_X4_takeListed (X : Cx cX4_takeListed none 4 RX4 wsX4_takeListed p s m args meth c) (hK : Kn cA D s) (hT : TL Λ) (hM : 4 ≤ R.frames ∧ 91 ≤ R.locals) (a0 : Nat) (l1 : Int32) (a2 : Nat) (k0 : isK Λ a0 5) (k2 : isK Λ a2 3) {res : Sto} (h : F_X4_takeListed Λ σ a0 l1 a2 = some res) (H : Heap) (locs : List Loc) (ls : Array Slot) (hR : Rep cA D Λ σ H) (hS : va_S (dm Λ) s.heap H locs) (hl : lv_has ls 4 [(0, .ref a0), (1, .int l1), (2, .ref a2)]) : W p l e R s m args below meth c H locs 0 0 (MQ below (QV cA D Λ res) args s 0 0 (dm Λ)) (F0 m 0 ls []) := by
  have hx := X.1
  have hb := X.2.1
  have hown := X.2.2.2.2.1
  have hts := X.2.2.2.2.2.1
  unfold F_X4_takeListed at h
  refine lv_aload_n hx hb dX4_takeListed_0 rfl (lv_at hl 0 rfl) ?_
  refine rw_getR X hK hT hR 5 2 2 k0 (by decide) (C := RX4) (T := TX4) (N := 8) rfl (by decide) in_X4_takeListed_5 (by decide +kernel) rfl dX4_takeListed_1 (fun kf_1 => ?_)
  refine lv_iload_n hx hb dX4_takeListed_4 rfl (lv_at hl 1 rfl) ?_
  refine lv_aload_n hx hb dX4_takeListed_5 rfl (lv_at hl 2 rfl) ?_
  refine lv_iconst (v := (-1 : Int32)) hx hb dX4_takeListed_6 (by decide) ?_
  obtain ⟨q_2, hq_2, h⟩ := of_bind h
  refine cl_v (rn_V (As := [.int l1, .ref a2, .int (-1 : Int32)]) (rest := []) X hK hR kf_1 rfl (by decide) hl.1 (c_X1_remember l cA D Λ hT σ (rfA Λ a0 2) l1 a2 (-1 : Int32) kf_1 k2 hq_2) (cwV 3 hts gX4_takeListed_X1_remember rfl rfl rfl (by decide +kernel) ⟨Nat.le_trans (by decide) hM.1, Nat.le_trans (by decide) hM.2⟩) rfl rfl (Nat.le_of_ble_eq_true rfl) dX4_takeListed_7) hS (fun H locs hR hS => ?_)
  refine lv_iconst (v := (0 : Int32)) hx hb dX4_takeListed_10 (by decide) ?_
  refine lv_istore_n (lv' := [(3, .int (0 : Int32)), (0, .ref a0), (1, .int l1), (2, .ref a2)]) hx hb dX4_takeListed_11 rfl hl (by decide) rfl (fun ls hl => ?_)
  obtain ⟨e_10, hq_10, h⟩ := of_bind h
  refine w_lp_X4_takeListed_12 X hK hT hM a0 a2 k0 k2 _ ((0 : Int32), q_2) hq_10 (fun H locs ls hR hS hl => ?_) H locs ls hR hS (lv_sub hl [1, 3, 0] rfl)
  exact rt_v X hR hS (Option.some.inj h) dX4_takeListed_48

set_option maxHeartbeats 4000000 in
set_option maxRecDepth 100000 in
theorem c_X4_takeListed (l : Launch) (cA : Nat → ClassId) (D : va_G) (Λ : Lay) (hT : TL Λ) (σ : Sto) (a0 : Nat) (l1 : Int32) (a2 : Nat) (k0 : isK Λ a0 5) (k2 : isK Λ a2 3) {res : Sto} (h : F_X4_takeListed Λ σ a0 l1 a2 = some res) : Met l yX4_takeListed wsX4_takeListed { frames := 4, cells := 0, slots := 0, locals := 91 } (va_Pc [.ref a0, .int l1, .ref a2] (PW cA D Λ σ)) (QV cA D Λ res) 0 0 (dm Λ) := by
  refine Met.ofW (cc := cX4_takeListed) (maxL := 4) (ret := none) (by decide) rfl ?_
  intro p e s m args below meth c s₁ B hml hv
  obtain ⟨rfl, hR, hK⟩ := hv
  have X : Cx cX4_takeListed none 4 RX4 wsX4_takeListed p s m _ meth c := ⟨B.exec, B.bytes, B.returns, hml, findClass_of_methodNamed B.named, atoms_spec (ws := wsX4_takeListed) B.pre, B.notSynchronized⟩
  have hS : va_S (dm Λ) s.heap s.heap [] := va_S.rf
  have hl := lv_entry ([.ref a0, .int l1, .ref a2]) (n := 4) (Nat.le_of_ble_eq_true rfl)
  rw [lg_entry_eq]
  generalize (lg_sl ([.ref a0, .int l1, .ref a2]) ++ List.replicate (4 - (lg_sl ([.ref a0, .int l1, .ref a2])).length) Slot.unset).toArray = ls at hl ⊢
  have hl : lv_has ls 4 [(0, .ref a0), (1, .int l1), (2, .ref a2)] := hl
  exact w_X4_takeListed X hK hT ⟨Nat.le_refl _, Nat.le_refl _⟩ a0 l1 a2 k0 k2 h s.heap [] ls hR hS hl
theorem in_X4_take_4 : ∀ w ∈ u_ws RX3 TX3 10, w ∈ wsX4_take := by decide +kernel
theorem in_X4_take_5 : ∀ w ∈ u_ws RX4 TX4 8, w ∈ wsX4_take := by decide +kernel
set_option maxHeartbeats 4000000 in
set_option maxRecDepth 100000 in
theorem w_X4_take (X : Cx cX4_take (some .int) 5 RX4 wsX4_take p s m args meth c) (hK : Kn cA D s) (hT : TL Λ) (hM : 6 ≤ R.frames ∧ 150 ≤ R.locals) (a0 : Nat) (l1 : Int32) (l2 : Int32) (l3 : Int32) (k0 : isK Λ a0 5) {res : Int32 × Sto} (h : F_X4_take Λ σ a0 l1 l2 l3 = some res) (H : Heap) (locs : List Loc) (ls : Array Slot) (hR : Rep cA D Λ σ H) (hS : va_S (dm Λ) s.heap H locs) (hl : lv_has ls 5 [(0, .ref a0), (1, .int l1), (2, .int l2), (3, .int l3)]) : W p l e R s m args below meth c H locs 0 0 (MQ below (QI cA D Λ res) args s 0 0 (dm Λ)) (F0 m 0 ls []) := by
  have hx := X.1
  have hb := X.2.1
  have hown := X.2.2.2.2.1
  have hts := X.2.2.2.2.2.1
  unfold F_X4_take at h
  refine lv_aload_n hx hb dX4_take_0 rfl (lv_at hl 0 rfl) ?_
  refine lv_iload_n hx hb dX4_take_1 rfl (lv_at hl 1 rfl) ?_
  obtain ⟨q_1, hq_1, h⟩ := of_bind h
  refine cl_q (rn_V (As := [.int l1]) (rest := []) X hK hR k0 rfl (by decide) hl.1 (c_X4_find l cA D Λ hT σ a0 l1 k0 hq_1) (cwV 1 hts gX4_take_X4_find rfl rfl rfl (by decide +kernel) ⟨Nat.le_trans (by decide) hM.1, Nat.le_trans (by decide) hM.2⟩) rfl rfl (Nat.le_of_ble_eq_true rfl) dX4_take_2) hS (fun hn_1 H locs hR hS => ?_) (fun a_1 hn_1 kf_1 H locs hR hS => ?_)
  · have h := of_ocn hn_1 h
    refine lv_astoreN (lv' := [(4, .null), (0, .ref a0), (1, .int l1), (2, .int l2), (3, .int l3)]) hx hb dX4_take_5 hl (by decide) rfl (fun ls hl => ?_)
    refine lv_aloadN hx hb dX4_take_7 (lv_at hl 0 rfl) ?_
    refine lv_ifnullN (tgt := 20) hx hb dX4_take_9 (by decide) ?_
    refine lv_iconst (v := (-1 : Int32)) hx hb dX4_take_20 (by decide) ?_
    exact rt_i X hR hS (Option.some.inj h) dX4_take_21
  · have h := of_ocs hn_1 h
    refine lv_astore (lv' := [(4, .ref a_1), (0, .ref a0), (1, .int l1), (2, .int l2), (3, .int l3)]) hx hb dX4_take_5 hl (by decide) rfl (fun ls hl => ?_)
    refine lv_aload hx hb dX4_take_7 (lv_at hl 0 rfl) ?_
    refine lv_ifnull hx hb dX4_take_9 ?_
    refine lv_iload_n hx hb dX4_take_12 rfl (lv_at hl 3 rfl) ?_
    refine lv_iload_n hx hb dX4_take_13 rfl (lv_at hl 4 rfl) ?_
    refine cl_z (rn_S (As := [.int l2, .int l3]) (rest := []) X hK hR hl.1 (c_X4_isSpeckRule l cA D Λ hT σ l2 l3) (va_cwS 2 hts gX4_take_X4_isSpeckRule rfl rfl rfl (by decide +kernel) ⟨Nat.le_trans (by decide) hM.1, Nat.le_trans (by decide) hM.2⟩) rfl rfl (Nat.le_of_ble_eq_true rfl) dX4_take_14) hS (fun hz_2 H locs hR hS => ?_)
    refine lv_topi (fun r_2 e_2 => ?_)
    have h := of_nm e_2 h
    have hz_2 : r_2 = 0 ∨ r_2 = 1 := by rw [e_2]; exact hz_2
    refine lv_if_ne (tgt := 22) hx hb dX4_take_17 (by decide) (fun hc => ?_) (fun hc => ?_)
    · have h := of_neg hc h
      refine lv_aload_n hx hb dX4_take_22 rfl (lv_at hl 1 rfl) ?_
      refine rw_getR X hK hT hR 5 3 4 k0 (by decide) (C := RX4) (T := TX4) (N := 8) rfl (by decide) in_X4_take_5 (by decide +kernel) rfl dX4_take_23 (fun kf_3 => ?_)
      refine lv_aload hx hb dX4_take_26 (lv_at hl 0 rfl) ?_
      refine lv_iload_n hx hb dX4_take_28 rfl (lv_at hl 3 rfl) ?_
      refine lv_iload_n hx hb dX4_take_29 rfl (lv_at hl 4 rfl) ?_
      obtain ⟨q_4, hq_4, h⟩ := of_bind h
      refine cl_i (rn_V (As := [.ref a_1, .int l2, .int l3]) (rest := []) X hK hR kf_3 rfl (by decide) hl.1 (c_X3_findSpecks l cA D Λ hT σ (rfA Λ a0 3) a_1 l2 l3 kf_3 kf_1 hq_4) (cwV 3 hts gX4_take_X3_findSpecks rfl rfl rfl (by decide +kernel) ⟨Nat.le_trans (by decide) hM.1, Nat.le_trans (by decide) hM.2⟩) rfl rfl (Nat.le_of_ble_eq_true rfl) dX4_take_30) hS (fun H locs hR hS => ?_)
      refine lv_pop hx hb dX4_take_33 rfl ?_
      refine lv_aload_n hx hb dX4_take_34 rfl (lv_at hl 1 rfl) ?_
      refine rw_getR X hK hT hR 5 4 3 k0 (by decide) (C := RX4) (T := TX4) (N := 8) rfl (by decide) in_X4_take_5 (by decide +kernel) rfl dX4_take_35 (fun kf_5 => ?_)
      refine lv_aload_n hx hb dX4_take_38 rfl (lv_at hl 1 rfl) ?_
      refine rw_getR X hK hT hR 5 3 4 k0 (by decide) (C := RX4) (T := TX4) (N := 8) rfl (by decide) in_X4_take_5 (by decide +kernel) rfl dX4_take_39 (fun kf_6 => ?_)
      refine rw_getR X hK hT hR 4 0 3 kf_6 (by decide) (C := RX3) (T := TX3) (N := 10) rfl (by decide) in_X4_take_4 (by decide +kernel) rfl dX4_take_42 (fun kf_7 => ?_)
      obtain ⟨q_8, hq_8, h⟩ := of_bind h
      refine cl_v (rn_V (As := [.ref (rfA Λ (rfA Λ a0 3) 0)]) (rest := []) X hK hR kf_5 rfl (by decide) hl.1 (c_X2_become l cA D Λ hT q_4.2 (rfA Λ a0 4) (rfA Λ (rfA Λ a0 3) 0) kf_5 kf_7 hq_8) (cwV 1 hts gX4_take_X2_become rfl rfl rfl (by decide +kernel) ⟨Nat.le_trans (by decide) hM.1, Nat.le_trans (by decide) hM.2⟩) rfl rfl (Nat.le_of_ble_eq_true rfl) dX4_take_45) hS (fun H locs hR hS => ?_)
      refine lv_aload_n hx hb dX4_take_48 rfl (lv_at hl 1 rfl) ?_
      refine lv_iload_n hx hb dX4_take_49 rfl (lv_at hl 2 rfl) ?_
      refine lv_aload hx hb dX4_take_50 (lv_at hl 0 rfl) ?_
      obtain ⟨q_9, hq_9, h⟩ := of_bind h
      refine cl_v (rn_V (As := [.int l1, .ref a_1]) (rest := []) X hK hR k0 rfl (by decide) hl.1 (c_X4_takeListed l cA D Λ hT q_8 a0 l1 a_1 k0 kf_1 hq_9) (cwV 2 hts gX4_take_X4_takeListed rfl rfl rfl (by decide +kernel) ⟨Nat.le_trans (by decide) hM.1, Nat.le_trans (by decide) hM.2⟩) rfl rfl (Nat.le_of_ble_eq_true rfl) dX4_take_52) hS (fun H locs hR hS => ?_)
      refine lv_aload_n hx hb dX4_take_55 rfl (lv_at hl 1 rfl) ?_
      refine rw_getR X hK hT hR 5 4 3 k0 (by decide) (C := RX4) (T := TX4) (N := 8) rfl (by decide) in_X4_take_5 (by decide +kernel) rfl dX4_take_56 (fun kf_10 => ?_)
      obtain ⟨q_11, hq_11, h⟩ := of_bind h
      refine cl_i (rn_V (As := []) (rest := []) X hK hR kf_10 rfl (by decide) hl.1 (c_X2_ink l cA D Λ hT q_9 (rfA Λ a0 4) kf_10 hq_11) (cwV 0 hts gX4_take_X2_ink rfl rfl rfl (by decide +kernel) ⟨Nat.le_trans (by decide) hM.1, Nat.le_trans (by decide) hM.2⟩) rfl rfl (Nat.le_of_ble_eq_true rfl) dX4_take_59) hS (fun H locs hR hS => ?_)
      exact rt_i X hR hS (Option.some.inj h) dX4_take_62
    · have h := of_pos hc h
      refine lv_iconst (v := (-1 : Int32)) hx hb dX4_take_20 (by decide) ?_
      exact rt_i X hR hS (Option.some.inj h) dX4_take_21

set_option maxHeartbeats 4000000 in
set_option maxRecDepth 100000 in
theorem c_X4_take (l : Launch) (cA : Nat → ClassId) (D : va_G) (Λ : Lay) (hT : TL Λ) (σ : Sto) (a0 : Nat) (l1 : Int32) (l2 : Int32) (l3 : Int32) (k0 : isK Λ a0 5) {res : Int32 × Sto} (h : F_X4_take Λ σ a0 l1 l2 l3 = some res) : Met l yX4_take wsX4_take { frames := 6, cells := 0, slots := 0, locals := 150 } (va_Pc [.ref a0, .int l1, .int l2, .int l3] (PW cA D Λ σ)) (QI cA D Λ res) 0 0 (dm Λ) := by
  refine Met.ofW (cc := cX4_take) (maxL := 5) (ret := (some .int)) (by decide) rfl ?_
  intro p e s m args below meth c s₁ B hml hv
  obtain ⟨rfl, hR, hK⟩ := hv
  have X : Cx cX4_take (some .int) 5 RX4 wsX4_take p s m _ meth c := ⟨B.exec, B.bytes, B.returns, hml, findClass_of_methodNamed B.named, atoms_spec (ws := wsX4_take) B.pre, B.notSynchronized⟩
  have hS : va_S (dm Λ) s.heap s.heap [] := va_S.rf
  have hl := lv_entry ([.ref a0, .int l1, .int l2, .int l3]) (n := 5) (Nat.le_of_ble_eq_true rfl)
  rw [lg_entry_eq]
  generalize (lg_sl ([.ref a0, .int l1, .int l2, .int l3]) ++ List.replicate (5 - (lg_sl ([.ref a0, .int l1, .int l2, .int l3])).length) Slot.unset).toArray = ls at hl ⊢
  have hl : lv_has ls 5 [(0, .ref a0), (1, .int l1), (2, .int l2), (3, .int l3)] := hl
  exact w_X4_take X hK hT ⟨Nat.le_refl _, Nat.le_refl _⟩ a0 l1 l2 l3 k0 h s.heap [] ls hR hS hl
theorem in_X4_shadow_3 : ∀ w ∈ u_ws RX2 TX2 3, w ∈ wsX4_shadow := by decide +kernel
theorem in_X4_shadow_5 : ∀ w ∈ u_ws RX4 TX4 8, w ∈ wsX4_shadow := by decide +kernel
set_option maxHeartbeats 4000000 in
set_option maxRecDepth 100000 in
theorem w_X4_shadow (X : Cx cX4_shadow (some .int) 6 RX4 wsX4_shadow p s m args meth c) (hK : Kn cA D s) (hT : TL Λ) (hM : 5 ≤ R.frames ∧ 114 ≤ R.locals) (a0 : Nat) (l1 : Int32) (l2 : Int32) (k0 : isK Λ a0 5) {res : Int32 × Sto} (h : F_X4_shadow Λ σ a0 l1 l2 = some res) (H : Heap) (locs : List Loc) (ls : Array Slot) (hR : Rep cA D Λ σ H) (hS : va_S (dm Λ) s.heap H locs) (hl : lv_has ls 6 [(0, .ref a0), (1, .int l1), (2, .int l2)]) : W p l e R s m args below meth c H locs 0 0 (MQ below (QI cA D Λ res) args s 0 0 (dm Λ)) (F0 m 0 ls []) := by
  have hx := X.1
  have hb := X.2.1
  have hown := X.2.2.2.2.1
  have hts := X.2.2.2.2.2.1
  unfold F_X4_shadow at h
  refine lv_aload_n hx hb dX4_shadow_0 rfl (lv_at hl 0 rfl) ?_
  refine lv_iload_n hx hb dX4_shadow_1 rfl (lv_at hl 1 rfl) ?_
  obtain ⟨q_1, hq_1, h⟩ := of_bind h
  refine cl_q (rn_V (As := [.int l1]) (rest := []) X hK hR k0 rfl (by decide) hl.1 (c_X4_find l cA D Λ hT σ a0 l1 k0 hq_1) (cwV 1 hts gX4_shadow_X4_find rfl rfl rfl (by decide +kernel) ⟨Nat.le_trans (by decide) hM.1, Nat.le_trans (by decide) hM.2⟩) rfl rfl (Nat.le_of_ble_eq_true rfl) dX4_shadow_2) hS (fun hn_1 H locs hR hS => ?_) (fun a_1 hn_1 kf_1 H locs hR hS => ?_)
  · have h := of_ocn hn_1 h
    refine lv_astore_nN (lv' := [(3, .null), (0, .ref a0), (1, .int l1), (2, .int l2)]) hx hb dX4_shadow_5 rfl hl (by decide) rfl (fun ls hl => ?_)
    refine lv_aload_nN hx hb dX4_shadow_6 rfl (lv_at hl 0 rfl) ?_
    refine lv_ifnullN (tgt := 20) hx hb dX4_shadow_7 (by decide) ?_
    refine lv_iconst (v := (-1 : Int32)) hx hb dX4_shadow_20 (by decide) ?_
    exact rt_i X hR hS (Option.some.inj h) dX4_shadow_21
  · have h := of_ocs hn_1 h
    refine lv_astore_n (lv' := [(3, .ref a_1), (0, .ref a0), (1, .int l1), (2, .int l2)]) hx hb dX4_shadow_5 rfl hl (by decide) rfl (fun ls hl => ?_)
    refine lv_aload_n hx hb dX4_shadow_6 rfl (lv_at hl 0 rfl) ?_
    refine lv_ifnull hx hb dX4_shadow_7 ?_
    refine lv_iload_n hx hb dX4_shadow_10 rfl (lv_at hl 3 rfl) ?_
    refine lv_iconst (v := (1 : Int32)) hx hb dX4_shadow_11 (by decide) ?_
    refine lv_bipush (v := (100 : Int32)) hx hb dX4_shadow_12 (by decide) ?_
    refine cl_z (rn_S (As := [.int l2, .int (1 : Int32), .int (100 : Int32)]) (rest := []) X hK hR hl.1 (c_X4_within l cA D Λ hT σ l2 (1 : Int32) (100 : Int32)) (va_cwS 3 hts gX4_shadow_X4_within rfl rfl rfl (by decide +kernel) ⟨Nat.le_trans (by decide) hM.1, Nat.le_trans (by decide) hM.2⟩) rfl rfl (Nat.le_of_ble_eq_true rfl) dX4_shadow_14) hS (fun hz_2 H locs hR hS => ?_)
    refine lv_topi (fun r_2 e_2 => ?_)
    have h := of_nm e_2 h
    have hz_2 : r_2 = 0 ∨ r_2 = 1 := by rw [e_2]; exact hz_2
    refine lv_if_ne (tgt := 22) hx hb dX4_shadow_17 (by decide) (fun hc => ?_) (fun hc => ?_)
    · have h := of_neg hc h
      refine lv_aload_n hx hb dX4_shadow_22 rfl (lv_at hl 0 rfl) ?_
      refine lv_iload_n hx hb dX4_shadow_23 rfl (lv_at hl 3 rfl) ?_
      obtain ⟨q_3, hq_3, h⟩ := of_bind h
      refine cl_l (rn_V (As := [.int l2]) (rest := []) X hK hR kf_1 rfl (by decide) hl.1 (c_X2_shadowColumns l cA D Λ hT σ a_1 l2 kf_1 hq_3) (cwV 1 hts gX4_shadow_X2_shadowColumns rfl rfl rfl (by decide +kernel) ⟨Nat.le_trans (by decide) hM.1, Nat.le_trans (by decide) hM.2⟩) rfl rfl (Nat.le_of_ble_eq_true rfl) dX4_shadow_24) hS (fun H locs hR hS => ?_)
      refine lv_lstore (lv' := [(4, .long q_3), (3, .ref a_1), (0, .ref a0), (1, .int l1), (2, .int l2)]) hx hb dX4_shadow_27 hl (by decide) rfl (fun ls hl => ?_)
      refine lv_aload_n hx hb dX4_shadow_29 rfl (lv_at hl 2 rfl) ?_
      refine rw_getR X hK hT hR 5 4 3 k0 (by decide) (C := RX4) (T := TX4) (N := 8) rfl (by decide) in_X4_shadow_5 (by decide +kernel) rfl dX4_shadow_30 (fun kf_4 => ?_)
      refine lv_aload_n hx hb dX4_shadow_33 rfl (lv_at hl 1 rfl) ?_
      refine rw_getI X hK hR 3 0 kf_1 (by decide) (C := RX2) (T := TX2) (N := 3) rfl (by decide) in_X4_shadow_3 (by decide +kernel) rfl dX4_shadow_34 ?_
      refine lv_aload_n hx hb dX4_shadow_37 rfl (lv_at hl 1 rfl) ?_
      refine rw_getI X hK hR 3 1 kf_1 (by decide) (C := RX2) (T := TX2) (N := 3) rfl (by decide) in_X4_shadow_3 (by decide +kernel) rfl dX4_shadow_38 ?_
      obtain ⟨q_5, hq_5, h⟩ := of_bind h
      refine cl_v (rn_V (As := [.int (σ.1 a_1 0), .int (σ.1 a_1 1)]) (rest := []) X hK hR kf_4 rfl (by decide) hl.1 (c_X2_empty l cA D Λ hT σ (rfA Λ a0 4) (σ.1 a_1 0) (σ.1 a_1 1) kf_4 hq_5) (cwV 2 hts gX4_shadow_X2_empty rfl rfl rfl (by decide +kernel) ⟨Nat.le_trans (by decide) hM.1, Nat.le_trans (by decide) hM.2⟩) rfl rfl (Nat.le_of_ble_eq_true rfl) dX4_shadow_41) hS (fun H locs hR hS => ?_)
      refine lv_aload_n hx hb dX4_shadow_44 rfl (lv_at hl 2 rfl) ?_
      refine rw_getR X hK hT hR 5 4 3 k0 (by decide) (C := RX4) (T := TX4) (N := 8) rfl (by decide) in_X4_shadow_5 (by decide +kernel) rfl dX4_shadow_45 (fun kf_6 => ?_)
      refine lv_aload_n hx hb dX4_shadow_48 rfl (lv_at hl 1 rfl) ?_
      refine lv_lload hx hb dX4_shadow_49 (lv_at hl 0 rfl) ?_
      refine lv_iconst (v := (0 : Int32)) hx hb dX4_shadow_51 (by decide) ?_
      obtain ⟨q_7, hq_7, h⟩ := of_bind h
      refine cl_v (rn_V (As := [.ref a_1, .long q_3, .int (0 : Int32)]) (rest := []) X hK hR kf_6 rfl (by decide) hl.1 (c_X2_addDropped l cA D Λ hT q_5 (rfA Λ a0 4) a_1 q_3 (0 : Int32) kf_6 kf_1 hq_7) (cwV 3 hts gX4_shadow_X2_addDropped rfl rfl rfl (by decide +kernel) ⟨Nat.le_trans (by decide) hM.1, Nat.le_trans (by decide) hM.2⟩) rfl rfl (Nat.le_of_ble_eq_true rfl) dX4_shadow_52) hS (fun H locs hR hS => ?_)
      refine lv_aload_n hx hb dX4_shadow_55 rfl (lv_at hl 2 rfl) ?_
      refine lv_iload_n hx hb dX4_shadow_56 rfl (lv_at hl 3 rfl) ?_
      refine lv_aload_n hx hb dX4_shadow_57 rfl (lv_at hl 1 rfl) ?_
      obtain ⟨q_8, hq_8, h⟩ := of_bind h
      refine cl_v (rn_V (As := [.int l1, .ref a_1]) (rest := []) X hK hR k0 rfl (by decide) hl.1 (c_X4_takeListed l cA D Λ hT q_7 a0 l1 a_1 k0 kf_1 hq_8) (cwV 2 hts gX4_shadow_X4_takeListed rfl rfl rfl (by decide +kernel) ⟨Nat.le_trans (by decide) hM.1, Nat.le_trans (by decide) hM.2⟩) rfl rfl (Nat.le_of_ble_eq_true rfl) dX4_shadow_58) hS (fun H locs hR hS => ?_)
      refine lv_lload hx hb dX4_shadow_61 (lv_at hl 0 rfl) ?_
      refine cl_i (rn_S (As := [.long q_3]) (rest := []) X hK hR hl.1 (c_J13_bitCount_95d88 l cA D Λ hT q_8 q_3) (va_cwS 1 hts gX4_shadow_J13_bitCount_95d88 rfl rfl rfl (by decide +kernel) ⟨Nat.le_trans (by decide) hM.1, Nat.le_trans (by decide) hM.2⟩) rfl rfl (Nat.le_of_ble_eq_true rfl) dX4_shadow_63) hS (fun H locs hR hS => ?_)
      refine lv_topi (fun r_9 e_9 => ?_)
      have h := of_nm e_9 h
      exact rt_i X hR hS (Option.some.inj h) dX4_shadow_66
    · have h := of_pos hc h
      refine lv_iconst (v := (-1 : Int32)) hx hb dX4_shadow_20 (by decide) ?_
      exact rt_i X hR hS (Option.some.inj h) dX4_shadow_21

set_option maxHeartbeats 4000000 in
set_option maxRecDepth 100000 in
theorem c_X4_shadow (l : Launch) (cA : Nat → ClassId) (D : va_G) (Λ : Lay) (hT : TL Λ) (σ : Sto) (a0 : Nat) (l1 : Int32) (l2 : Int32) (k0 : isK Λ a0 5) {res : Int32 × Sto} (h : F_X4_shadow Λ σ a0 l1 l2 = some res) : Met l yX4_shadow wsX4_shadow { frames := 5, cells := 0, slots := 0, locals := 114 } (va_Pc [.ref a0, .int l1, .int l2] (PW cA D Λ σ)) (QI cA D Λ res) 0 0 (dm Λ) := by
  refine Met.ofW (cc := cX4_shadow) (maxL := 6) (ret := (some .int)) (by decide) rfl ?_
  intro p e s m args below meth c s₁ B hml hv
  obtain ⟨rfl, hR, hK⟩ := hv
  have X : Cx cX4_shadow (some .int) 6 RX4 wsX4_shadow p s m _ meth c := ⟨B.exec, B.bytes, B.returns, hml, findClass_of_methodNamed B.named, atoms_spec (ws := wsX4_shadow) B.pre, B.notSynchronized⟩
  have hS : va_S (dm Λ) s.heap s.heap [] := va_S.rf
  have hl := lv_entry ([.ref a0, .int l1, .int l2]) (n := 6) (Nat.le_of_ble_eq_true rfl)
  rw [lg_entry_eq]
  generalize (lg_sl ([.ref a0, .int l1, .int l2]) ++ List.replicate (6 - (lg_sl ([.ref a0, .int l1, .int l2])).length) Slot.unset).toArray = ls at hl ⊢
  have hl : lv_has ls 6 [(0, .ref a0), (1, .int l1), (2, .int l2)] := hl
  exact w_X4_shadow X hK hT ⟨Nat.le_refl _, Nat.le_refl _⟩ a0 l1 l2 k0 h s.heap [] ls hR hS hl
set_option maxHeartbeats 4000000 in
set_option maxRecDepth 100000 in
theorem w_X4_box (X : Cx cX4_box (some .int) 4 RX4 wsX4_box p s m args meth c) (hK : Kn cA D s) (hT : TL Λ) (hM : 2 ≤ R.frames ∧ 43 ≤ R.locals) (a0 : Nat) (l1 : Int32) (l2 : Int32) (k0 : isK Λ a0 5) {res : Int32} (h : F_X4_box Λ σ a0 l1 l2 = some res) (H : Heap) (locs : List Loc) (ls : Array Slot) (hR : Rep cA D Λ σ H) (hS : va_S (dm Λ) s.heap H locs) (hl : lv_has ls 4 [(0, .ref a0), (1, .int l1), (2, .int l2)]) : W p l e R s m args below meth c H locs 0 0 (MQ below (QI cA D Λ (res, σ)) args s 0 0 (dm Λ)) (F0 m 0 ls []) := by
  have hx := X.1
  have hb := X.2.1
  have hown := X.2.2.2.2.1
  have hts := X.2.2.2.2.2.1
  unfold F_X4_box at h
  refine lv_aload_n hx hb dX4_box_0 rfl (lv_at hl 0 rfl) ?_
  refine lv_iload_n hx hb dX4_box_1 rfl (lv_at hl 1 rfl) ?_
  obtain ⟨q_1, hq_1, h⟩ := of_bind h
  refine cl_q (rn_V (As := [.int l1]) (rest := []) X hK hR k0 rfl (by decide) hl.1 (c_X4_find l cA D Λ hT σ a0 l1 k0 hq_1) (cwV 1 hts gX4_box_X4_find rfl rfl rfl (by decide +kernel) ⟨Nat.le_trans (by decide) hM.1, Nat.le_trans (by decide) hM.2⟩) rfl rfl (Nat.le_of_ble_eq_true rfl) dX4_box_2) hS (fun hn_1 H locs hR hS => ?_) (fun a_1 hn_1 kf_1 H locs hR hS => ?_)
  · have h := of_ocn hn_1 h
    refine lv_astore_nN (lv' := [(3, .null), (0, .ref a0), (1, .int l1), (2, .int l2)]) hx hb dX4_box_5 rfl hl (by decide) rfl (fun ls hl => ?_)
    refine lv_aload_nN hx hb dX4_box_6 rfl (lv_at hl 0 rfl) ?_
    refine lv_ifnullN (tgt := 17) hx hb dX4_box_7 (by decide) ?_
    refine lv_iconst (v := (-1 : Int32)) hx hb dX4_box_17 (by decide) ?_
    exact rt_i X hR hS (congrArg (fun z => (z, σ)) (Option.some.inj h)) dX4_box_18
  · have h := of_ocs hn_1 h
    refine lv_astore_n (lv' := [(3, .ref a_1), (0, .ref a0), (1, .int l1), (2, .int l2)]) hx hb dX4_box_5 rfl hl (by decide) rfl (fun ls hl => ?_)
    refine lv_aload_n hx hb dX4_box_6 rfl (lv_at hl 0 rfl) ?_
    refine lv_ifnull hx hb dX4_box_7 ?_
    refine lv_aload_n hx hb dX4_box_10 rfl (lv_at hl 0 rfl) ?_
    obtain ⟨q_2, hq_2, h⟩ := of_bind h
    refine cl_z (rn_V (As := []) (rest := []) X hK hR kf_1 rfl (by decide) hl.1 (c_X2_hasInk l cA D Λ hT σ a_1 kf_1 hq_2) (cwV 0 hts gX4_box_X2_hasInk rfl rfl rfl (by decide +kernel) ⟨Nat.le_trans (by decide) hM.1, Nat.le_trans (by decide) hM.2⟩) rfl rfl (Nat.le_of_ble_eq_true rfl) dX4_box_11) hS (fun hz_2 H locs hR hS => ?_)
    refine lv_if_ne (tgt := 19) hx hb dX4_box_14 (by decide) (fun hc => ?_) (fun hc => ?_)
    · have h := of_neg hc h
      refine lv_iload_n hx hb dX4_box_19 rfl (lv_at hl 3 rfl) ?_
      by_cases hc : l2 = (0 : Int32)
      · have h := of_pos hc h
        refine sw_in (k := 0) (tgt := 52) hx hb dX4_box_20 hc (by decide) (by decide) rfl (by decide) ?_
        refine lv_aload_n hx hb dX4_box_52 rfl (lv_at hl 0 rfl) ?_
        obtain ⟨q_3, hq_3, h⟩ := of_bind h
        refine cl_l (rn_V (As := []) (rest := []) X hK hR kf_1 rfl (by decide) hl.1 (c_X2_inkedColumns l cA D Λ hT σ a_1 kf_1 hq_3) (cwV 0 hts gX4_box_X2_inkedColumns rfl rfl rfl (by decide +kernel) ⟨Nat.le_trans (by decide) hM.1, Nat.le_trans (by decide) hM.2⟩) rfl rfl (Nat.le_of_ble_eq_true rfl) dX4_box_53) hS (fun H locs hR hS => ?_)
        refine cl_i (rn_S (As := [.long q_3]) (rest := []) X hK hR hl.1 (c_X4_lowestBit l cA D Λ hT σ q_3) (va_cwS 1 hts gX4_box_X4_lowestBit rfl rfl rfl (by decide +kernel) ⟨Nat.le_trans (by decide) hM.1, Nat.le_trans (by decide) hM.2⟩) rfl rfl (Nat.le_of_ble_eq_true rfl) dX4_box_56) hS (fun H locs hR hS => ?_)
        refine lv_topi (fun r_4 e_4 => ?_)
        have h := of_nm e_4 h
        exact rt_i X hR hS (congrArg (fun z => (z, σ)) (Option.some.inj h)) dX4_box_59
      have h := of_neg hc h
      have hn_0 := hc
      clear hc
      by_cases hc : l2 = (1 : Int32)
      · have h := of_pos hc h
        refine sw_in (k := 1) (tgt := 60) hx hb dX4_box_20 hc (by decide) (by decide) rfl (by decide) ?_
        refine lv_aload_n hx hb dX4_box_60 rfl (lv_at hl 0 rfl) ?_
        obtain ⟨q_5, hq_5, h⟩ := of_bind h
        refine cl_l (rn_V (As := []) (rest := []) X hK hR kf_1 rfl (by decide) hl.1 (c_X2_inkedRows l cA D Λ hT σ a_1 kf_1 hq_5) (cwV 0 hts gX4_box_X2_inkedRows rfl rfl rfl (by decide +kernel) ⟨Nat.le_trans (by decide) hM.1, Nat.le_trans (by decide) hM.2⟩) rfl rfl (Nat.le_of_ble_eq_true rfl) dX4_box_61) hS (fun H locs hR hS => ?_)
        refine cl_i (rn_S (As := [.long q_5]) (rest := []) X hK hR hl.1 (c_X4_lowestBit l cA D Λ hT σ q_5) (va_cwS 1 hts gX4_box_X4_lowestBit rfl rfl rfl (by decide +kernel) ⟨Nat.le_trans (by decide) hM.1, Nat.le_trans (by decide) hM.2⟩) rfl rfl (Nat.le_of_ble_eq_true rfl) dX4_box_64) hS (fun H locs hR hS => ?_)
        refine lv_topi (fun r_6 e_6 => ?_)
        have h := of_nm e_6 h
        exact rt_i X hR hS (congrArg (fun z => (z, σ)) (Option.some.inj h)) dX4_box_67
      have h := of_neg hc h
      have hn_1 := hc
      clear hc
      by_cases hc : l2 = (2 : Int32)
      · have h := of_pos hc h
        refine sw_in (k := 2) (tgt := 68) hx hb dX4_box_20 hc (by decide) (by decide) rfl (by decide) ?_
        refine lv_aload_n hx hb dX4_box_68 rfl (lv_at hl 0 rfl) ?_
        obtain ⟨q_7, hq_7, h⟩ := of_bind h
        refine cl_l (rn_V (As := []) (rest := []) X hK hR kf_1 rfl (by decide) hl.1 (c_X2_inkedColumns l cA D Λ hT σ a_1 kf_1 hq_7) (cwV 0 hts gX4_box_X2_inkedColumns rfl rfl rfl (by decide +kernel) ⟨Nat.le_trans (by decide) hM.1, Nat.le_trans (by decide) hM.2⟩) rfl rfl (Nat.le_of_ble_eq_true rfl) dX4_box_69) hS (fun H locs hR hS => ?_)
        obtain ⟨q_8, hq_8, h⟩ := of_bind h
        refine cl_i (rn_S (As := [.long q_7]) (rest := []) X hK hR hl.1 (c_X4_highestBit l cA D Λ hT σ q_7 hq_8) (va_cwS 1 hts gX4_box_X4_highestBit rfl rfl rfl (by decide +kernel) ⟨Nat.le_trans (by decide) hM.1, Nat.le_trans (by decide) hM.2⟩) rfl rfl (Nat.le_of_ble_eq_true rfl) dX4_box_72) hS (fun H locs hR hS => ?_)
        exact rt_i X hR hS (congrArg (fun z => (z, σ)) (Option.some.inj h)) dX4_box_75
      have h := of_neg hc h
      have hn_2 := hc
      clear hc
      by_cases hc : l2 = (3 : Int32)
      · have h := of_pos hc h
        refine sw_in (k := 3) (tgt := 76) hx hb dX4_box_20 hc (by decide) (by decide) rfl (by decide) ?_
        refine lv_aload_n hx hb dX4_box_76 rfl (lv_at hl 0 rfl) ?_
        obtain ⟨q_9, hq_9, h⟩ := of_bind h
        refine cl_l (rn_V (As := []) (rest := []) X hK hR kf_1 rfl (by decide) hl.1 (c_X2_inkedRows l cA D Λ hT σ a_1 kf_1 hq_9) (cwV 0 hts gX4_box_X2_inkedRows rfl rfl rfl (by decide +kernel) ⟨Nat.le_trans (by decide) hM.1, Nat.le_trans (by decide) hM.2⟩) rfl rfl (Nat.le_of_ble_eq_true rfl) dX4_box_77) hS (fun H locs hR hS => ?_)
        obtain ⟨q_10, hq_10, h⟩ := of_bind h
        refine cl_i (rn_S (As := [.long q_9]) (rest := []) X hK hR hl.1 (c_X4_highestBit l cA D Λ hT σ q_9 hq_10) (va_cwS 1 hts gX4_box_X4_highestBit rfl rfl rfl (by decide +kernel) ⟨Nat.le_trans (by decide) hM.1, Nat.le_trans (by decide) hM.2⟩) rfl rfl (Nat.le_of_ble_eq_true rfl) dX4_box_80) hS (fun H locs hR hS => ?_)
        exact rt_i X hR hS (congrArg (fun z => (z, σ)) (Option.some.inj h)) dX4_box_83
      have h := of_neg hc h
      have hn_3 := hc
      clear hc
      refine lv_tableOut (tgt := 84) hx hb dX4_box_20 (sw_out 4 (fun k hk => by rcases (show k = 0 ∨ k = 1 ∨ k = 2 ∨ k = 3 by omega) with rfl | rfl | rfl | rfl <;> assumption)) (by decide) ?_
      refine lv_iconst (v := (-1 : Int32)) hx hb dX4_box_84 (by decide) ?_
      exact rt_i X hR hS (congrArg (fun z => (z, σ)) (Option.some.inj h)) dX4_box_85
    · have h := of_pos hc h
      refine lv_iconst (v := (-1 : Int32)) hx hb dX4_box_17 (by decide) ?_
      exact rt_i X hR hS (congrArg (fun z => (z, σ)) (Option.some.inj h)) dX4_box_18

set_option maxHeartbeats 4000000 in
set_option maxRecDepth 100000 in
theorem c_X4_box (l : Launch) (cA : Nat → ClassId) (D : va_G) (Λ : Lay) (hT : TL Λ) (σ : Sto) (a0 : Nat) (l1 : Int32) (l2 : Int32) (k0 : isK Λ a0 5) {res : Int32} (h : F_X4_box Λ σ a0 l1 l2 = some res) : Met l yX4_box wsX4_box { frames := 2, cells := 0, slots := 0, locals := 43 } (va_Pc [.ref a0, .int l1, .int l2] (PW cA D Λ σ)) (QI cA D Λ (res, σ)) 0 0 (dm Λ) := by
  refine Met.ofW (cc := cX4_box) (maxL := 4) (ret := (some .int)) (by decide) rfl ?_
  intro p e s m args below meth c s₁ B hml hv
  obtain ⟨rfl, hR, hK⟩ := hv
  have X : Cx cX4_box (some .int) 4 RX4 wsX4_box p s m _ meth c := ⟨B.exec, B.bytes, B.returns, hml, findClass_of_methodNamed B.named, atoms_spec (ws := wsX4_box) B.pre, B.notSynchronized⟩
  have hS : va_S (dm Λ) s.heap s.heap [] := va_S.rf
  have hl := lv_entry ([.ref a0, .int l1, .int l2]) (n := 4) (Nat.le_of_ble_eq_true rfl)
  rw [lg_entry_eq]
  generalize (lg_sl ([.ref a0, .int l1, .int l2]) ++ List.replicate (4 - (lg_sl ([.ref a0, .int l1, .int l2])).length) Slot.unset).toArray = ls at hl ⊢
  have hl : lv_has ls 4 [(0, .ref a0), (1, .int l1), (2, .int l2)] := hl
  exact w_X4_box X hK hT ⟨Nat.le_refl _, Nat.le_refl _⟩ a0 l1 l2 k0 h s.heap [] ls hR hS hl
theorem in_X4_cut_3 : ∀ w ∈ u_ws RX2 TX2 3, w ∈ wsX4_cut := by decide +kernel
theorem in_X4_cut_5 : ∀ w ∈ u_ws RX4 TX4 8, w ∈ wsX4_cut := by decide +kernel
set_option maxHeartbeats 4000000 in
set_option maxRecDepth 100000 in
theorem w_bd_X4_cut_123 (X : Cx cX4_cut (some .boolean) 9 RX4 wsX4_cut p s m args meth c) (hK : Kn cA D s) (hT : TL Λ) (hM : 4 ≤ R.frames ∧ 91 ≤ R.locals) (a0 : Nat) (l2 : Int32) (a3 : Nat) (l4 : Int32) (l5 : Int32) (l7 : Int32) (s9 : (Int32 × Sto)) (k0 : isK Λ a0 5) (k3 : isK Λ a3 3) {r : (Int32 × Sto) ⊕ Sto} (h : bd_X4_cut_123 Λ a0 l2 a3 l4 l5 l7 s9 = some r) (kb : ∀ z : (Int32 × Sto), r = .inl z → ∀ (H : Heap) (locs : List Loc) (ls : Array Slot), Rep cA D Λ z.2 H → va_S (dm Λ) s.heap H locs → lv_has ls 9 [(0, .ref a0), (2, .int l2), (3, .ref a3), (4, .int l4), (5, .int l5), (7, .int l7), (8, .int z.1)] → W p l e R s m args below meth c H locs 0 0 Q (F0 m 123 ls [])) (kx0 : ∀ z : Sto, r = .inr z → ∀ (H : Heap) (locs : List Loc) (ls : Array Slot), Rep cA D Λ z H → va_S (dm Λ) s.heap H locs → lv_has ls 9 [(0, .ref a0), (3, .ref a3)] → W p l e R s m args below meth c H locs 0 0 Q (F0 m 165 ls [])) (H : Heap) (locs : List Loc) (ls : Array Slot) (hR : Rep cA D Λ s9.2 H) (hS : va_S (dm Λ) s.heap H locs) (hl : lv_has ls 9 [(0, .ref a0), (2, .int l2), (3, .ref a3), (4, .int l4), (5, .int l5), (7, .int l7), (8, .int s9.1)]) : W p l e R s m args below meth c H locs 0 0 Q (F0 m 123 ls []) := by
  have hx := X.1
  have hb := X.2.1
  have hown := X.2.2.2.2.1
  have hts := X.2.2.2.2.2.1
  unfold bd_X4_cut_123 at h
  refine lv_iload hx hb dX4_cut_123 (lv_at hl 6 rfl) ?_
  refine lv_iload hx hb dX4_cut_125 (lv_at hl 5 rfl) ?_
  refine lv_iload_n hx hb dX4_cut_127 rfl (lv_at hl 1 rfl) ?_
  refine lv_isub hx hb dX4_cut_128 ?_
  refine lv_icmp_ge (tgt := 165) hx hb dX4_cut_129 (by decide) (fun hc => ?_) (fun hc => ?_)
  · have h := of_pos hc h
    exact kx0 s9.2 (Option.some.inj h).symm H locs ls hR hS (lv_sub hl [0, 2] rfl)
  · have h := of_neg hc h
    refine lv_aload_n hx hb dX4_cut_132 rfl (lv_at hl 0 rfl) ?_
    refine rw_getR X hK hT hR 5 5 3 k0 (by decide) (C := RX4) (T := TX4) (N := 8) rfl (by decide) in_X4_cut_5 (by decide +kernel) rfl dX4_cut_133 (fun kf_18 => ?_)
    refine rw_getR X hK hT hR 3 2 8 kf_18 (by decide) (C := RX2) (T := TX2) (N := 3) rfl (by decide) in_X4_cut_3 (by decide +kernel) rfl dX4_cut_136 (fun kf_19 => ?_)
    refine lv_iload hx hb dX4_cut_139 (lv_at hl 6 rfl) ?_
    refine lv_aload_n hx hb dX4_cut_141 rfl (lv_at hl 2 rfl) ?_
    refine rw_getR X hK hT hR 3 2 8 k3 (by decide) (C := RX2) (T := TX2) (N := 3) rfl (by decide) in_X4_cut_3 (by decide +kernel) rfl dX4_cut_142 (fun kf_20 => ?_)
    refine lv_iload hx hb dX4_cut_145 (lv_at hl 4 rfl) ?_
    refine lv_iload hx hb dX4_cut_147 (lv_at hl 6 rfl) ?_
    refine lv_iadd hx hb dX4_cut_149 ?_
    refine lv_iload_n hx hb dX4_cut_150 rfl (lv_at hl 1 rfl) ?_
    refine lv_isub hx hb dX4_cut_151 ?_
    obtain ⟨hg_21, h⟩ := of_guard h
    refine rw_lald X hK hR kf_20 hg_21 dX4_cut_152 ?_
    refine lv_iload hx hb dX4_cut_153 (lv_at hl 3 rfl) ?_
    refine lv_lushr (v := (ushrL (s9.2.2 (rfA Λ a3 2) ((l5 + s9.1) - l2).toNatClampNeg) l4)) hx hb dX4_cut_155 rfl ?_
    refine lv_iload_n hx hb dX4_cut_156 rfl (lv_at hl 1 rfl) ?_
    refine lv_lshl (v := (shlL (ushrL (s9.2.2 (rfA Λ a3 2) ((l5 + s9.1) - l2).toNatClampNeg) l4) l2)) hx hb dX4_cut_157 rfl ?_
    obtain ⟨hg_22, h⟩ := of_guard h
    refine rw_last X hK hT hR hS kf_19 hg_22 dX4_cut_158 (fun σ_22 H locs e_22 hR hS => ?_)
    have h := of_nm e_22 h
    obtain ⟨v_23, e_v_23⟩ : ∃ y : Int32, y = (s9.1 + (1 : Int32)) := ⟨_, rfl⟩
    have h := of_nm e_v_23 h
    refine lv_iinc (v := v_23) (lv' := [(8, .int v_23), (0, .ref a0), (2, .int l2), (3, .ref a3), (4, .int l4), (5, .int l5), (7, .int l7)]) hx hb dX4_cut_159 hl (k := 6) rfl (by rw [e_v_23]; rfl) (by decide) rfl (fun ls hl => ?_)
    refine lv_goto (tgt := 123) hx hb dX4_cut_162 (by decide) ?_
    exact kb (v_23, σ_22) (Option.some.inj h).symm H locs ls hR hS (lv_sub hl [1, 2, 3, 4, 5, 6, 0] rfl)

set_option maxHeartbeats 4000000 in
set_option maxRecDepth 100000 in
theorem w_lp_X4_cut_123 (X : Cx cX4_cut (some .boolean) 9 RX4 wsX4_cut p s m args meth c) (hK : Kn cA D s) (hT : TL Λ) (hM : 4 ≤ R.frames ∧ 91 ≤ R.locals) (a0 : Nat) (l2 : Int32) (a3 : Nat) (l4 : Int32) (l5 : Int32) (l7 : Int32) (k0 : isK Λ a0 5) (k3 : isK Λ a3 3) {e9 : Sto} : ∀ (n9 : Nat) (s9 : (Int32 × Sto)), iter (bd_X4_cut_123 Λ a0 l2 a3 l4 l5 l7) n9 s9 = some e9 → ∀ (kx0 : ∀ (H : Heap) (locs : List Loc) (ls : Array Slot), Rep cA D Λ e9 H → va_S (dm Λ) s.heap H locs → lv_has ls 9 [(0, .ref a0), (3, .ref a3)] → W p l e R s m args below meth c H locs 0 0 Q (F0 m 165 ls [])), ∀ (H : Heap) (locs : List Loc) (ls : Array Slot), Rep cA D Λ s9.2 H → va_S (dm Λ) s.heap H locs → lv_has ls 9 [(0, .ref a0), (2, .int l2), (3, .ref a3), (4, .int l4), (5, .int l5), (7, .int l7), (8, .int s9.1)] → W p l e R s m args below meth c H locs 0 0 Q (F0 m 123 ls []) := by
  intro n9
  induction n9 with
  | zero => intro s9 h; cases h
  | succ n9 ih =>
    intro s9 h kx0 H locs ls hR hS hl
    obtain ⟨r, hr, h⟩ := of_iter h
    refine w_bd_X4_cut_123 X hK hT hM a0 l2 a3 l4 l5 l7 s9 k0 k3 hr (fun z ez H locs ls hR hS hl => ?_) (fun z ez H locs ls hR hS hl => ?_) H locs ls hR hS hl
    · exact ih z (of_itl ez h) kx0 H locs ls hR hS hl
    · have he := of_itr ez h; subst he; exact kx0 H locs ls hR hS hl

set_option maxHeartbeats 4000000 in
set_option maxRecDepth 100000 in
theorem w_X4_cut (X : Cx cX4_cut (some .boolean) 9 RX4 wsX4_cut p s m args meth c) (hK : Kn cA D s) (hT : TL Λ) (hM : 4 ≤ R.frames ∧ 91 ≤ R.locals) (a0 : Nat) (l1 : Int32) (l2 : Int32) (k0 : isK Λ a0 5) {res : Int32 × Sto} (h : F_X4_cut Λ σ a0 l1 l2 = some res) (H : Heap) (locs : List Loc) (ls : Array Slot) (hR : Rep cA D Λ σ H) (hS : va_S (dm Λ) s.heap H locs) (hl : lv_has ls 9 [(0, .ref a0), (1, .int l1), (2, .int l2)]) : W p l e R s m args below meth c H locs 0 0 (MQ below (QZ cA D Λ res) args s 0 0 (dm Λ)) (F0 m 0 ls []) := by
  have hx := X.1
  have hb := X.2.1
  have hown := X.2.2.2.2.1
  have hts := X.2.2.2.2.2.1
  unfold F_X4_cut at h
  refine lv_aload_n hx hb dX4_cut_0 rfl (lv_at hl 0 rfl) ?_
  refine lv_iload_n hx hb dX4_cut_1 rfl (lv_at hl 1 rfl) ?_
  obtain ⟨q_1, hq_1, h⟩ := of_bind h
  refine cl_q (rn_V (As := [.int l1]) (rest := []) X hK hR k0 rfl (by decide) hl.1 (c_X4_find l cA D Λ hT σ a0 l1 k0 hq_1) (cwV 1 hts gX4_cut_X4_find rfl rfl rfl (by decide +kernel) ⟨Nat.le_trans (by decide) hM.1, Nat.le_trans (by decide) hM.2⟩) rfl rfl (Nat.le_of_ble_eq_true rfl) dX4_cut_2) hS (fun hn_1 H locs hR hS => ?_) (fun a_1 hn_1 kf_1 H locs hR hS => ?_)
  · have h := of_ocn hn_1 h
    refine lv_astore_nN (lv' := [(3, .null), (0, .ref a0), (1, .int l1), (2, .int l2)]) hx hb dX4_cut_5 rfl hl (by decide) rfl (fun ls hl => ?_)
    refine lv_aload_nN hx hb dX4_cut_6 rfl (lv_at hl 0 rfl) ?_
    refine lv_ifnullN (tgt := 27) hx hb dX4_cut_7 (by decide) ?_
    refine lv_iconst (v := (0 : Int32)) hx hb dX4_cut_27 (by decide) ?_
    exact rt_z X hR hS (Option.some.inj h) (Or.inl rfl) dX4_cut_28
  · have h := of_ocs hn_1 h
    refine lv_astore_n (lv' := [(3, .ref a_1), (0, .ref a0), (1, .int l1), (2, .int l2)]) hx hb dX4_cut_5 rfl hl (by decide) rfl (fun ls hl => ?_)
    refine lv_aload_n hx hb dX4_cut_6 rfl (lv_at hl 0 rfl) ?_
    refine lv_ifnull hx hb dX4_cut_7 ?_
    refine lv_iload_n hx hb dX4_cut_10 rfl (lv_at hl 3 rfl) ?_
    refine lv_iconst (v := (0 : Int32)) hx hb dX4_cut_11 (by decide) ?_
    refine lv_bipush (v := (20 : Int32)) hx hb dX4_cut_12 (by decide) ?_
    refine cl_z (rn_S (As := [.int l2, .int (0 : Int32), .int (20 : Int32)]) (rest := []) X hK hR hl.1 (c_X4_within l cA D Λ hT σ l2 (0 : Int32) (20 : Int32)) (va_cwS 3 hts gX4_cut_X4_within rfl rfl rfl (by decide +kernel) ⟨Nat.le_trans (by decide) hM.1, Nat.le_trans (by decide) hM.2⟩) rfl rfl (Nat.le_of_ble_eq_true rfl) dX4_cut_14) hS (fun hz_2 H locs hR hS => ?_)
    refine lv_topi (fun r_2 e_2 => ?_)
    have h := of_nm e_2 h
    have hz_2 : r_2 = 0 ∨ r_2 = 1 := by rw [e_2]; exact hz_2
    refine lv_if_eq (tgt := 27) hx hb dX4_cut_17 (by decide) (fun hc => ?_) (fun hc => ?_)
    · have h := of_pos hc h
      refine lv_iconst (v := (0 : Int32)) hx hb dX4_cut_27 (by decide) ?_
      exact rt_z X hR hS (Option.some.inj h) (Or.inl rfl) dX4_cut_28
    · have h := of_neg hc h
      refine lv_aload_n hx hb dX4_cut_20 rfl (lv_at hl 0 rfl) ?_
      obtain ⟨q_3, hq_3, h⟩ := of_bind h
      refine cl_z (rn_V (As := []) (rest := []) X hK hR kf_1 rfl (by decide) hl.1 (c_X2_hasInk l cA D Λ hT σ a_1 kf_1 hq_3) (cwV 0 hts gX4_cut_X2_hasInk rfl rfl rfl (by decide +kernel) ⟨Nat.le_trans (by decide) hM.1, Nat.le_trans (by decide) hM.2⟩) rfl rfl (Nat.le_of_ble_eq_true rfl) dX4_cut_21) hS (fun hz_3 H locs hR hS => ?_)
      refine lv_if_ne (tgt := 29) hx hb dX4_cut_24 (by decide) (fun hc => ?_) (fun hc => ?_)
      · have h := of_neg hc h
        refine lv_aload_n hx hb dX4_cut_29 rfl (lv_at hl 0 rfl) ?_
        obtain ⟨q_4, hq_4, h⟩ := of_bind h
        refine cl_l (rn_V (As := []) (rest := []) X hK hR kf_1 rfl (by decide) hl.1 (c_X2_inkedColumns l cA D Λ hT σ a_1 kf_1 hq_4) (cwV 0 hts gX4_cut_X2_inkedColumns rfl rfl rfl (by decide +kernel) ⟨Nat.le_trans (by decide) hM.1, Nat.le_trans (by decide) hM.2⟩) rfl rfl (Nat.le_of_ble_eq_true rfl) dX4_cut_30) hS (fun H locs hR hS => ?_)
        refine cl_i (rn_S (As := [.long q_4]) (rest := []) X hK hR hl.1 (c_X4_lowestBit l cA D Λ hT σ q_4) (va_cwS 1 hts gX4_cut_X4_lowestBit rfl rfl rfl (by decide +kernel) ⟨Nat.le_trans (by decide) hM.1, Nat.le_trans (by decide) hM.2⟩) rfl rfl (Nat.le_of_ble_eq_true rfl) dX4_cut_33) hS (fun H locs hR hS => ?_)
        refine lv_topi (fun r_5 e_5 => ?_)
        have h := of_nm e_5 h
        refine lv_istore (lv' := [(4, .int r_5), (3, .ref a_1), (0, .ref a0), (1, .int l1), (2, .int l2)]) hx hb dX4_cut_36 hl (by decide) rfl (fun ls hl => ?_)
        refine lv_aload_n hx hb dX4_cut_38 rfl (lv_at hl 1 rfl) ?_
        obtain ⟨q_6, hq_6, h⟩ := of_bind h
        refine cl_l (rn_V (As := []) (rest := []) X hK hR kf_1 rfl (by decide) hl.1 (c_X2_inkedRows l cA D Λ hT σ a_1 kf_1 hq_6) (cwV 0 hts gX4_cut_X2_inkedRows rfl rfl rfl (by decide +kernel) ⟨Nat.le_trans (by decide) hM.1, Nat.le_trans (by decide) hM.2⟩) rfl rfl (Nat.le_of_ble_eq_true rfl) dX4_cut_39) hS (fun H locs hR hS => ?_)
        refine cl_i (rn_S (As := [.long q_6]) (rest := []) X hK hR hl.1 (c_X4_lowestBit l cA D Λ hT σ q_6) (va_cwS 1 hts gX4_cut_X4_lowestBit rfl rfl rfl (by decide +kernel) ⟨Nat.le_trans (by decide) hM.1, Nat.le_trans (by decide) hM.2⟩) rfl rfl (Nat.le_of_ble_eq_true rfl) dX4_cut_42) hS (fun H locs hR hS => ?_)
        refine lv_topi (fun r_7 e_7 => ?_)
        have h := of_nm e_7 h
        refine lv_istore (lv' := [(5, .int r_7), (4, .int r_5), (3, .ref a_1), (0, .ref a0), (1, .int l1), (2, .int l2)]) hx hb dX4_cut_45 hl (by decide) rfl (fun ls hl => ?_)
        refine lv_aload_n hx hb dX4_cut_47 rfl (lv_at hl 2 rfl) ?_
        obtain ⟨q_8, hq_8, h⟩ := of_bind h
        refine cl_l (rn_V (As := []) (rest := []) X hK hR kf_1 rfl (by decide) hl.1 (c_X2_inkedColumns l cA D Λ hT σ a_1 kf_1 hq_8) (cwV 0 hts gX4_cut_X2_inkedColumns rfl rfl rfl (by decide +kernel) ⟨Nat.le_trans (by decide) hM.1, Nat.le_trans (by decide) hM.2⟩) rfl rfl (Nat.le_of_ble_eq_true rfl) dX4_cut_48) hS (fun H locs hR hS => ?_)
        obtain ⟨q_9, hq_9, h⟩ := of_bind h
        refine cl_i (rn_S (As := [.long q_8]) (rest := []) X hK hR hl.1 (c_X4_highestBit l cA D Λ hT σ q_8 hq_9) (va_cwS 1 hts gX4_cut_X4_highestBit rfl rfl rfl (by decide +kernel) ⟨Nat.le_trans (by decide) hM.1, Nat.le_trans (by decide) hM.2⟩) rfl rfl (Nat.le_of_ble_eq_true rfl) dX4_cut_51) hS (fun H locs hR hS => ?_)
        refine lv_iload hx hb dX4_cut_54 (lv_at hl 1 rfl) ?_
        refine lv_isub hx hb dX4_cut_56 ?_
        refine lv_iconst (v := (1 : Int32)) hx hb dX4_cut_57 (by decide) ?_
        refine lv_iadd hx hb dX4_cut_58 ?_
        refine lv_iconst (v := (2 : Int32)) hx hb dX4_cut_59 (by decide) ?_
        refine lv_iload_n hx hb dX4_cut_60 rfl (lv_at hl 5 rfl) ?_
        refine lv_imul hx hb dX4_cut_61 ?_
        refine lv_iadd hx hb dX4_cut_62 ?_
        refine lv_topi (fun v_10 e_v_10 => ?_)
        have h := of_nm e_v_10 h
        refine lv_istore (lv' := [(6, .int v_10), (5, .int r_7), (4, .int r_5), (3, .ref a_1), (0, .ref a0), (1, .int l1), (2, .int l2)]) hx hb dX4_cut_63 hl (by decide) rfl (fun ls hl => ?_)
        refine lv_aload_n hx hb dX4_cut_65 rfl (lv_at hl 3 rfl) ?_
        obtain ⟨q_11, hq_11, h⟩ := of_bind h
        refine cl_l (rn_V (As := []) (rest := []) X hK hR kf_1 rfl (by decide) hl.1 (c_X2_inkedRows l cA D Λ hT σ a_1 kf_1 hq_11) (cwV 0 hts gX4_cut_X2_inkedRows rfl rfl rfl (by decide +kernel) ⟨Nat.le_trans (by decide) hM.1, Nat.le_trans (by decide) hM.2⟩) rfl rfl (Nat.le_of_ble_eq_true rfl) dX4_cut_66) hS (fun H locs hR hS => ?_)
        obtain ⟨q_12, hq_12, h⟩ := of_bind h
        refine cl_i (rn_S (As := [.long q_11]) (rest := []) X hK hR hl.1 (c_X4_highestBit l cA D Λ hT σ q_11 hq_12) (va_cwS 1 hts gX4_cut_X4_highestBit rfl rfl rfl (by decide +kernel) ⟨Nat.le_trans (by decide) hM.1, Nat.le_trans (by decide) hM.2⟩) rfl rfl (Nat.le_of_ble_eq_true rfl) dX4_cut_69) hS (fun H locs hR hS => ?_)
        refine lv_iload hx hb dX4_cut_72 (lv_at hl 1 rfl) ?_
        refine lv_isub hx hb dX4_cut_74 ?_
        refine lv_iconst (v := (1 : Int32)) hx hb dX4_cut_75 (by decide) ?_
        refine lv_iadd hx hb dX4_cut_76 ?_
        refine lv_iconst (v := (2 : Int32)) hx hb dX4_cut_77 (by decide) ?_
        refine lv_iload_n hx hb dX4_cut_78 rfl (lv_at hl 6 rfl) ?_
        refine lv_imul hx hb dX4_cut_79 ?_
        refine lv_iadd hx hb dX4_cut_80 ?_
        refine lv_topi (fun v_13 e_v_13 => ?_)
        have h := of_nm e_v_13 h
        refine lv_istore (lv' := [(7, .int v_13), (6, .int v_10), (5, .int r_7), (4, .int r_5), (3, .ref a_1), (0, .ref a0), (1, .int l1), (2, .int l2)]) hx hb dX4_cut_81 hl (by decide) rfl (fun ls hl => ?_)
        refine lv_iload hx hb dX4_cut_83 (lv_at hl 1 rfl) ?_
        refine lv_bipush (v := (64 : Int32)) hx hb dX4_cut_85 (by decide) ?_
        refine lv_icmp_gt (tgt := 97) hx hb dX4_cut_87 (by decide) (fun hc => ?_) (fun hc => ?_)
        · have h := of_pos hc h
          refine lv_iconst (v := (0 : Int32)) hx hb dX4_cut_97 (by decide) ?_
          exact rt_z X hR hS (Option.some.inj h) (Or.inl rfl) dX4_cut_98
        · have h := of_neg hc h
          refine lv_iload hx hb dX4_cut_90 (lv_at hl 0 rfl) ?_
          refine lv_bipush (v := (64 : Int32)) hx hb dX4_cut_92 (by decide) ?_
          refine lv_icmp_le (tgt := 99) hx hb dX4_cut_94 (by decide) (fun hc => ?_) (fun hc => ?_)
          · have h := of_pos hc h
            refine lv_aload_n hx hb dX4_cut_99 rfl (lv_at hl 5 rfl) ?_
            refine rw_getR X hK hT hR 5 2 2 k0 (by decide) (C := RX4) (T := TX4) (N := 8) rfl (by decide) in_X4_cut_5 (by decide +kernel) rfl dX4_cut_100 (fun kf_14 => ?_)
            refine lv_iload_n hx hb dX4_cut_103 rfl (lv_at hl 6 rfl) ?_
            refine lv_aload_n hx hb dX4_cut_104 rfl (lv_at hl 4 rfl) ?_
            refine lv_iconst (v := (-1 : Int32)) hx hb dX4_cut_105 (by decide) ?_
            obtain ⟨q_15, hq_15, h⟩ := of_bind h
            refine cl_v (rn_V (As := [.int l1, .ref a_1, .int (-1 : Int32)]) (rest := []) X hK hR kf_14 rfl (by decide) hl.1 (c_X1_remember l cA D Λ hT σ (rfA Λ a0 2) l1 a_1 (-1 : Int32) kf_14 kf_1 hq_15) (cwV 3 hts gX4_cut_X1_remember rfl rfl rfl (by decide +kernel) ⟨Nat.le_trans (by decide) hM.1, Nat.le_trans (by decide) hM.2⟩) rfl rfl (Nat.le_of_ble_eq_true rfl) dX4_cut_106) hS (fun H locs hR hS => ?_)
            refine lv_aload_n hx hb dX4_cut_109 rfl (lv_at hl 5 rfl) ?_
            refine rw_getR X hK hT hR 5 5 3 k0 (by decide) (C := RX4) (T := TX4) (N := 8) rfl (by decide) in_X4_cut_5 (by decide +kernel) rfl dX4_cut_110 (fun kf_16 => ?_)
            refine lv_iload hx hb dX4_cut_113 (lv_at hl 1 rfl) ?_
            refine lv_iload hx hb dX4_cut_115 (lv_at hl 0 rfl) ?_
            obtain ⟨q_17, hq_17, h⟩ := of_bind h
            refine cl_v (rn_V (As := [.int v_10, .int v_13]) (rest := []) X hK hR kf_16 rfl (by decide) hl.1 (c_X2_empty l cA D Λ hT q_15 (rfA Λ a0 5) v_10 v_13 kf_16 hq_17) (cwV 2 hts gX4_cut_X2_empty rfl rfl rfl (by decide +kernel) ⟨Nat.le_trans (by decide) hM.1, Nat.le_trans (by decide) hM.2⟩) rfl rfl (Nat.le_of_ble_eq_true rfl) dX4_cut_117) hS (fun H locs hR hS => ?_)
            refine lv_iload_n hx hb dX4_cut_120 rfl (lv_at hl 7 rfl) ?_
            refine lv_istore (lv' := [(8, .int l2), (7, .int v_13), (6, .int v_10), (5, .int r_7), (4, .int r_5), (3, .ref a_1), (0, .ref a0), (1, .int l1), (2, .int l2)]) hx hb dX4_cut_121 hl (by decide) rfl (fun ls hl => ?_)
            obtain ⟨e_24, hq_24, h⟩ := of_bind h
            refine w_lp_X4_cut_123 X hK hT hM a0 l2 a_1 r_5 r_7 v_13 k0 kf_1 _ (l2, q_17) hq_24 (fun H locs ls hR hS hl => ?_) H locs ls hR hS (lv_sub hl [6, 8, 5, 4, 3, 1, 0] rfl)
            refine lv_aload_n hx hb dX4_cut_165 rfl (lv_at hl 1 rfl) ?_
            refine lv_aload_n hx hb dX4_cut_166 rfl (lv_at hl 0 rfl) ?_
            refine rw_getR X hK hT hR 5 5 3 k0 (by decide) (C := RX4) (T := TX4) (N := 8) rfl (by decide) in_X4_cut_5 (by decide +kernel) rfl dX4_cut_167 (fun kf_25 => ?_)
            obtain ⟨q_26, hq_26, h⟩ := of_bind h
            refine cl_v (rn_V (As := [.ref (rfA Λ a0 5)]) (rest := []) X hK hR kf_1 rfl (by decide) hl.1 (c_X2_become l cA D Λ hT e_24 a_1 (rfA Λ a0 5) kf_1 kf_25 hq_26) (cwV 1 hts gX4_cut_X2_become rfl rfl rfl (by decide +kernel) ⟨Nat.le_trans (by decide) hM.1, Nat.le_trans (by decide) hM.2⟩) rfl rfl (Nat.le_of_ble_eq_true rfl) dX4_cut_170) hS (fun H locs hR hS => ?_)
            refine lv_iconst (v := (1 : Int32)) hx hb dX4_cut_173 (by decide) ?_
            exact rt_z X hR hS (Option.some.inj h) (Or.inr rfl) dX4_cut_174
          · have h := of_neg hc h
            refine lv_iconst (v := (0 : Int32)) hx hb dX4_cut_97 (by decide) ?_
            exact rt_z X hR hS (Option.some.inj h) (Or.inl rfl) dX4_cut_98
      · have h := of_pos hc h
        refine lv_iconst (v := (0 : Int32)) hx hb dX4_cut_27 (by decide) ?_
        exact rt_z X hR hS (Option.some.inj h) (Or.inl rfl) dX4_cut_28

set_option maxHeartbeats 4000000 in
set_option maxRecDepth 100000 in
theorem c_X4_cut (l : Launch) (cA : Nat → ClassId) (D : va_G) (Λ : Lay) (hT : TL Λ) (σ : Sto) (a0 : Nat) (l1 : Int32) (l2 : Int32) (k0 : isK Λ a0 5) {res : Int32 × Sto} (h : F_X4_cut Λ σ a0 l1 l2 = some res) : Met l yX4_cut wsX4_cut { frames := 4, cells := 0, slots := 0, locals := 91 } (va_Pc [.ref a0, .int l1, .int l2] (PW cA D Λ σ)) (QZ cA D Λ res) 0 0 (dm Λ) := by
  refine Met.ofW (cc := cX4_cut) (maxL := 9) (ret := (some .boolean)) (by decide) rfl ?_
  intro p e s m args below meth c s₁ B hml hv
  obtain ⟨rfl, hR, hK⟩ := hv
  have X : Cx cX4_cut (some .boolean) 9 RX4 wsX4_cut p s m _ meth c := ⟨B.exec, B.bytes, B.returns, hml, findClass_of_methodNamed B.named, atoms_spec (ws := wsX4_cut) B.pre, B.notSynchronized⟩
  have hS : va_S (dm Λ) s.heap s.heap [] := va_S.rf
  have hl := lv_entry ([.ref a0, .int l1, .int l2]) (n := 9) (Nat.le_of_ble_eq_true rfl)
  rw [lg_entry_eq]
  generalize (lg_sl ([.ref a0, .int l1, .int l2]) ++ List.replicate (9 - (lg_sl ([.ref a0, .int l1, .int l2])).length) Slot.unset).toArray = ls at hl ⊢
  have hl : lv_has ls 9 [(0, .ref a0), (1, .int l1), (2, .int l2)] := hl
  exact w_X4_cut X hK hT ⟨Nat.le_refl _, Nat.le_refl _⟩ a0 l1 l2 k0 h s.heap [] ls hR hS hl
theorem in_X4_tellSpans_5 : ∀ w ∈ u_ws RX4 TX4 8, w ∈ wsX4_tellSpans := by decide +kernel
set_option maxHeartbeats 4000000 in
set_option maxRecDepth 100000 in
theorem w_jp_X4_tellSpans_88 (X : Cx cX4_tellSpans none 5 RX4 wsX4_tellSpans p s m args meth c) (hK : Kn cA D s) (hT : TL Λ) (hM : 0 ≤ R.frames ∧ 0 ≤ R.locals) (a0 : Nat) (l1 : Int64) (l3 : Int32) (l4 : Int32)  (k0 : isK Λ a0 5) {r : (Int32 × Sto) ⊕ Sto} (h : jp_X4_tellSpans_88 Λ σ a0 l1 l3 l4 = some r) (kb : ∀ z : (Int32 × Sto), r = .inl z → ∀ (H : Heap) (locs : List Loc) (ls : Array Slot), Rep cA D Λ z.2 H → va_S (dm Λ) s.heap H locs → lv_has ls 5 [(0, .ref a0), (1, .long l1), (3, .int l3), (4, .int z.1)] → W p l e R s m args below meth c H locs 0 0 Q (F0 m 8 ls [])) (kx0 : ∀ z : Sto, r = .inr z → ∀ (H : Heap) (locs : List Loc) (ls : Array Slot), Rep cA D Λ z H → va_S (dm Λ) s.heap H locs → lv_has ls 5 [] → W p l e R s m args below meth c H locs 0 0 Q (F0 m 94 ls [])) (H : Heap) (locs : List Loc) (ls : Array Slot) (hR : Rep cA D Λ σ H) (hS : va_S (dm Λ) s.heap H locs) (hl : lv_has ls 5 [(0, .ref a0), (1, .long l1), (3, .int l3), (4, .int l4)]) : W p l e R s m args below meth c H locs 0 0 Q (F0 m 88 ls []) := by
  have hx := X.1
  have hb := X.2.1
  have hown := X.2.2.2.2.1
  have hts := X.2.2.2.2.2.1
  unfold jp_X4_tellSpans_88 at h
  obtain ⟨v_7, e_v_7⟩ : ∃ y : Int32, y = (l4 + (1 : Int32)) := ⟨_, rfl⟩
  have h := of_nm e_v_7 h
  refine lv_iinc (v := v_7) (lv' := [(4, .int v_7), (0, .ref a0), (1, .long l1), (3, .int l3)]) hx hb dX4_tellSpans_88 hl (k := 3) rfl (by rw [e_v_7]; rfl) (by decide) rfl (fun ls hl => ?_)
  refine lv_goto (tgt := 8) hx hb dX4_tellSpans_91 (by decide) ?_
  exact kb (v_7, σ) (Option.some.inj h).symm H locs ls hR hS (lv_sub hl [1, 2, 3, 0] rfl)

set_option maxHeartbeats 4000000 in
set_option maxRecDepth 100000 in
theorem w_jp_X4_tellSpans_75 (X : Cx cX4_tellSpans none 5 RX4 wsX4_tellSpans p s m args meth c) (hK : Kn cA D s) (hT : TL Λ) (hM : 0 ≤ R.frames ∧ 0 ≤ R.locals) (a0 : Nat) (l1 : Int64) (l3 : Int32) (l4 : Int32)  (k0 : isK Λ a0 5) {r : (Int32 × Sto) ⊕ Sto} (h : jp_X4_tellSpans_75 Λ σ a0 l1 l3 l4 = some r) (kb : ∀ z : (Int32 × Sto), r = .inl z → ∀ (H : Heap) (locs : List Loc) (ls : Array Slot), Rep cA D Λ z.2 H → va_S (dm Λ) s.heap H locs → lv_has ls 5 [(0, .ref a0), (1, .long l1), (3, .int l3), (4, .int z.1)] → W p l e R s m args below meth c H locs 0 0 Q (F0 m 8 ls [])) (kx0 : ∀ z : Sto, r = .inr z → ∀ (H : Heap) (locs : List Loc) (ls : Array Slot), Rep cA D Λ z H → va_S (dm Λ) s.heap H locs → lv_has ls 5 [] → W p l e R s m args below meth c H locs 0 0 Q (F0 m 94 ls [])) (H : Heap) (locs : List Loc) (ls : Array Slot) (hR : Rep cA D Λ σ H) (hS : va_S (dm Λ) s.heap H locs) (hl : lv_has ls 5 [(0, .ref a0), (1, .long l1), (3, .int l3), (4, .int l4)]) : W p l e R s m args below meth c H locs 0 0 Q (F0 m 75 ls []) := by
  have hx := X.1
  have hb := X.2.1
  have hown := X.2.2.2.2.1
  have hts := X.2.2.2.2.2.1
  unfold jp_X4_tellSpans_75 at h
  refine lv_aload_n hx hb dX4_tellSpans_75 rfl (lv_at hl 0 rfl) ?_
  refine rw_getR X hK hT hR 5 6 7 k0 (by decide) (C := RX4) (T := TX4) (N := 8) rfl (by decide) in_X4_tellSpans_5 (by decide +kernel) rfl dX4_tellSpans_76 (fun kf_5 => ?_)
  refine lv_aload_n hx hb dX4_tellSpans_79 rfl (lv_at hl 0 rfl) ?_
  refine rw_getI X hK hR 5 7 k0 (by decide) (C := RX4) (T := TX4) (N := 8) rfl (by decide) in_X4_tellSpans_5 (by decide +kernel) rfl dX4_tellSpans_80 ?_
  refine lv_iconst (v := (1 : Int32)) hx hb dX4_tellSpans_83 (by decide) ?_
  refine lv_isub hx hb dX4_tellSpans_84 ?_
  refine lv_iload hx hb dX4_tellSpans_85 (lv_at hl 3 rfl) ?_
  obtain ⟨hg_6, h⟩ := of_guard h
  refine rw_iast X hK hT hR hS kf_5 hg_6 dX4_tellSpans_87 (fun σ_6 H locs e_6 hR hS => ?_)
  have h := of_nm e_6 h
  exact w_jp_X4_tellSpans_88 X hK hT hM a0 l1 l3 l4 k0 h kb kx0 H locs ls hR hS (lv_sub hl [0, 1, 2, 3] rfl)

set_option maxHeartbeats 4000000 in
set_option maxRecDepth 100000 in
theorem w_jp_X4_tellSpans_54 (X : Cx cX4_tellSpans none 5 RX4 wsX4_tellSpans p s m args meth c) (hK : Kn cA D s) (hT : TL Λ) (hM : 0 ≤ R.frames ∧ 0 ≤ R.locals) (a0 : Nat) (l1 : Int64) (l3 : Int32) (l4 : Int32)  (k0 : isK Λ a0 5) {r : (Int32 × Sto) ⊕ Sto} (h : jp_X4_tellSpans_54 Λ σ a0 l1 l3 l4 = some r) (kb : ∀ z : (Int32 × Sto), r = .inl z → ∀ (H : Heap) (locs : List Loc) (ls : Array Slot), Rep cA D Λ z.2 H → va_S (dm Λ) s.heap H locs → lv_has ls 5 [(0, .ref a0), (1, .long l1), (3, .int l3), (4, .int z.1)] → W p l e R s m args below meth c H locs 0 0 Q (F0 m 8 ls [])) (kx0 : ∀ z : Sto, r = .inr z → ∀ (H : Heap) (locs : List Loc) (ls : Array Slot), Rep cA D Λ z H → va_S (dm Λ) s.heap H locs → lv_has ls 5 [] → W p l e R s m args below meth c H locs 0 0 Q (F0 m 94 ls [])) (H : Heap) (locs : List Loc) (ls : Array Slot) (hR : Rep cA D Λ σ H) (hS : va_S (dm Λ) s.heap H locs) (hl : lv_has ls 5 [(0, .ref a0), (1, .long l1), (3, .int l3), (4, .int l4)]) : W p l e R s m args below meth c H locs 0 0 Q (F0 m 54 ls []) := by
  have hx := X.1
  have hb := X.2.1
  have hown := X.2.2.2.2.1
  have hts := X.2.2.2.2.2.1
  unfold jp_X4_tellSpans_54 at h
  refine lv_aload_n hx hb dX4_tellSpans_54 rfl (lv_at hl 0 rfl) ?_
  refine rw_getR X hK hT hR 5 6 7 k0 (by decide) (C := RX4) (T := TX4) (N := 8) rfl (by decide) in_X4_tellSpans_5 (by decide +kernel) rfl dX4_tellSpans_55 (fun kf_2 => ?_)
  refine lv_aload_n hx hb dX4_tellSpans_58 rfl (lv_at hl 0 rfl) ?_
  refine rw_getI X hK hR 5 7 k0 (by decide) (C := RX4) (T := TX4) (N := 8) rfl (by decide) in_X4_tellSpans_5 (by decide +kernel) rfl dX4_tellSpans_59 ?_
  refine lv_iload hx hb dX4_tellSpans_62 (lv_at hl 3 rfl) ?_
  obtain ⟨hg_3, h⟩ := of_guard h
  refine rw_iast X hK hT hR hS kf_2 hg_3 dX4_tellSpans_64 (fun σ_3 H locs e_3 hR hS => ?_)
  have h := of_nm e_3 h
  refine lv_aload_n hx hb dX4_tellSpans_65 rfl (lv_at hl 0 rfl) ?_
  refine lv_dup hx hb dX4_tellSpans_66 rfl ?_
  refine rw_getI X hK hR 5 7 k0 (by decide) (C := RX4) (T := TX4) (N := 8) rfl (by decide) in_X4_tellSpans_5 (by decide +kernel) rfl dX4_tellSpans_67 ?_
  refine lv_iconst (v := (2 : Int32)) hx hb dX4_tellSpans_70 (by decide) ?_
  refine lv_iadd hx hb dX4_tellSpans_71 ?_
  refine rw_putI X hK hT hR hS 5 7 tyX4 k0 (by decide) (C := RX4) (T := TX4) (N := 8) rfl (by decide) in_X4_tellSpans_5 tyX4_ok nmX4 (by decide +kernel) rfl rfl (by decide +kernel) dX4_tellSpans_72 (fun σ_4 H locs e_4 hR hS => ?_)
  have h := of_nm e_4 h
  exact w_jp_X4_tellSpans_75 X hK hT hM a0 l1 l3 l4 k0 h kb kx0 H locs ls hR hS (lv_sub hl [0, 1, 2, 3] rfl)

set_option maxHeartbeats 4000000 in
set_option maxRecDepth 100000 in
theorem w_bd_X4_tellSpans_8 (X : Cx cX4_tellSpans none 5 RX4 wsX4_tellSpans p s m args meth c) (hK : Kn cA D s) (hT : TL Λ) (hM : 0 ≤ R.frames ∧ 0 ≤ R.locals) (a0 : Nat) (l1 : Int64) (l3 : Int32) (s9 : (Int32 × Sto)) (k0 : isK Λ a0 5) {r : (Int32 × Sto) ⊕ Sto} (h : bd_X4_tellSpans_8 Λ a0 l1 l3 s9 = some r) (kb : ∀ z : (Int32 × Sto), r = .inl z → ∀ (H : Heap) (locs : List Loc) (ls : Array Slot), Rep cA D Λ z.2 H → va_S (dm Λ) s.heap H locs → lv_has ls 5 [(0, .ref a0), (1, .long l1), (3, .int l3), (4, .int z.1)] → W p l e R s m args below meth c H locs 0 0 Q (F0 m 8 ls [])) (kx0 : ∀ z : Sto, r = .inr z → ∀ (H : Heap) (locs : List Loc) (ls : Array Slot), Rep cA D Λ z H → va_S (dm Λ) s.heap H locs → lv_has ls 5 [] → W p l e R s m args below meth c H locs 0 0 Q (F0 m 94 ls [])) (H : Heap) (locs : List Loc) (ls : Array Slot) (hR : Rep cA D Λ s9.2 H) (hS : va_S (dm Λ) s.heap H locs) (hl : lv_has ls 5 [(0, .ref a0), (1, .long l1), (3, .int l3), (4, .int s9.1)]) : W p l e R s m args below meth c H locs 0 0 Q (F0 m 8 ls []) := by
  have hx := X.1
  have hb := X.2.1
  have hown := X.2.2.2.2.1
  have hts := X.2.2.2.2.2.1
  unfold bd_X4_tellSpans_8 at h
  refine lv_iload hx hb dX4_tellSpans_8 (lv_at hl 3 rfl) ?_
  refine lv_bipush (v := (64 : Int32)) hx hb dX4_tellSpans_10 (by decide) ?_
  refine lv_icmp_ge (tgt := 94) hx hb dX4_tellSpans_12 (by decide) (fun hc => ?_) (fun hc => ?_)
  · have h := of_pos hc h
    exact kx0 s9.2 (Option.some.inj h).symm H locs ls hR hS (lv_sub hl [] rfl)
  · have h := of_neg hc h
    refine lv_lload_n hx hb dX4_tellSpans_15 rfl (lv_at hl 1 rfl) ?_
    refine lv_iload hx hb dX4_tellSpans_16 (lv_at hl 3 rfl) ?_
    refine lv_lushr (v := (ushrL l1 s9.1)) hx hb dX4_tellSpans_18 rfl ?_
    refine lv_lconst (v := (1 : Int64)) hx hb dX4_tellSpans_19 (by decide) ?_
    refine lv_land hx hb dX4_tellSpans_20 ?_
    refine lv_lconst (v := (0 : Int64)) hx hb dX4_tellSpans_21 (by decide) ?_
    refine W.lcmp hx hb dX4_tellSpans_22 ?_
    refine lv_if_ne (tgt := 29) hx hb dX4_tellSpans_23 (by decide) (fun hc => ?_) (fun hc => ?_)
    · have h := of_neg hc h
      refine lv_aload_n hx hb dX4_tellSpans_29 rfl (lv_at hl 0 rfl) ?_
      refine rw_getI X hK hR 5 7 k0 (by decide) (C := RX4) (T := TX4) (N := 8) rfl (by decide) in_X4_tellSpans_5 (by decide +kernel) rfl dX4_tellSpans_30 ?_
      refine lv_if_eq (tgt := 54) hx hb dX4_tellSpans_33 (by decide) (fun hc => ?_) (fun hc => ?_)
      · have h := of_pos hc h
        exact w_jp_X4_tellSpans_54 X hK hT hM a0 l1 l3 s9.1 k0 h kb kx0 H locs ls hR hS (lv_sub hl [0, 1, 2, 3] rfl)
      · have h := of_neg hc h
        refine lv_iload hx hb dX4_tellSpans_36 (lv_at hl 3 rfl) ?_
        refine lv_aload_n hx hb dX4_tellSpans_38 rfl (lv_at hl 0 rfl) ?_
        refine rw_getR X hK hT hR 5 6 7 k0 (by decide) (C := RX4) (T := TX4) (N := 8) rfl (by decide) in_X4_tellSpans_5 (by decide +kernel) rfl dX4_tellSpans_39 (fun kf_8 => ?_)
        refine lv_aload_n hx hb dX4_tellSpans_42 rfl (lv_at hl 0 rfl) ?_
        refine rw_getI X hK hR 5 7 k0 (by decide) (C := RX4) (T := TX4) (N := 8) rfl (by decide) in_X4_tellSpans_5 (by decide +kernel) rfl dX4_tellSpans_43 ?_
        refine lv_iconst (v := (1 : Int32)) hx hb dX4_tellSpans_46 (by decide) ?_
        refine lv_isub hx hb dX4_tellSpans_47 ?_
        obtain ⟨hg_9, h⟩ := of_guard h
        refine rw_iald X hK hR kf_8 hg_9 dX4_tellSpans_48 ?_
        refine lv_isub hx hb dX4_tellSpans_49 ?_
        refine lv_iload_n hx hb dX4_tellSpans_50 rfl (lv_at hl 2 rfl) ?_
        refine lv_icmp_le (tgt := 75) hx hb dX4_tellSpans_51 (by decide) (fun hc => ?_) (fun hc => ?_)
        · have h := of_pos hc h
          exact w_jp_X4_tellSpans_75 X hK hT hM a0 l1 l3 s9.1 k0 h kb kx0 H locs ls hR hS (lv_sub hl [0, 1, 2, 3] rfl)
        · have h := of_neg hc h
          exact w_jp_X4_tellSpans_54 X hK hT hM a0 l1 l3 s9.1 k0 h kb kx0 H locs ls hR hS (lv_sub hl [0, 1, 2, 3] rfl)
    · have h := of_pos hc h
      refine lv_goto (tgt := 88) hx hb dX4_tellSpans_26 (by decide) ?_
      exact w_jp_X4_tellSpans_88 X hK hT hM a0 l1 l3 s9.1 k0 h kb kx0 H locs ls hR hS (lv_sub hl [0, 1, 2, 3] rfl)

set_option maxHeartbeats 4000000 in
set_option maxRecDepth 100000 in
theorem w_lp_X4_tellSpans_8 (X : Cx cX4_tellSpans none 5 RX4 wsX4_tellSpans p s m args meth c) (hK : Kn cA D s) (hT : TL Λ) (hM : 0 ≤ R.frames ∧ 0 ≤ R.locals) (a0 : Nat) (l1 : Int64) (l3 : Int32) (k0 : isK Λ a0 5) {e9 : Sto} : ∀ (n9 : Nat) (s9 : (Int32 × Sto)), iter (bd_X4_tellSpans_8 Λ a0 l1 l3) n9 s9 = some e9 → ∀ (kx0 : ∀ (H : Heap) (locs : List Loc) (ls : Array Slot), Rep cA D Λ e9 H → va_S (dm Λ) s.heap H locs → lv_has ls 5 [] → W p l e R s m args below meth c H locs 0 0 Q (F0 m 94 ls [])), ∀ (H : Heap) (locs : List Loc) (ls : Array Slot), Rep cA D Λ s9.2 H → va_S (dm Λ) s.heap H locs → lv_has ls 5 [(0, .ref a0), (1, .long l1), (3, .int l3), (4, .int s9.1)] → W p l e R s m args below meth c H locs 0 0 Q (F0 m 8 ls []) := by
  intro n9
  induction n9 with
  | zero => intro s9 h; cases h
  | succ n9 ih =>
    intro s9 h kx0 H locs ls hR hS hl
    obtain ⟨r, hr, h⟩ := of_iter h
    refine w_bd_X4_tellSpans_8 X hK hT hM a0 l1 l3 s9 k0 hr (fun z ez H locs ls hR hS hl => ?_) (fun z ez H locs ls hR hS hl => ?_) H locs ls hR hS hl
    · exact ih z (of_itl ez h) kx0 H locs ls hR hS hl
    · have he := of_itr ez h; subst he; exact kx0 H locs ls hR hS hl

set_option maxHeartbeats 4000000 in
set_option maxRecDepth 100000 in
theorem w_X4_tellSpans (X : Cx cX4_tellSpans none 5 RX4 wsX4_tellSpans p s m args meth c) (hK : Kn cA D s) (hT : TL Λ) (hM : 0 ≤ R.frames ∧ 0 ≤ R.locals) (a0 : Nat) (l1 : Int64) (l3 : Int32) (k0 : isK Λ a0 5) {res : Sto} (h : F_X4_tellSpans Λ σ a0 l1 l3 = some res) (H : Heap) (locs : List Loc) (ls : Array Slot) (hR : Rep cA D Λ σ H) (hS : va_S (dm Λ) s.heap H locs) (hl : lv_has ls 5 [(0, .ref a0), (1, .long l1), (3, .int l3)]) : W p l e R s m args below meth c H locs 0 0 (MQ below (QV cA D Λ res) args s 0 0 (dm Λ)) (F0 m 0 ls []) := by
  have hx := X.1
  have hb := X.2.1
  have hown := X.2.2.2.2.1
  have hts := X.2.2.2.2.2.1
  unfold F_X4_tellSpans at h
  refine lv_aload_n hx hb dX4_tellSpans_0 rfl (lv_at hl 0 rfl) ?_
  refine lv_iconst (v := (0 : Int32)) hx hb dX4_tellSpans_1 (by decide) ?_
  refine rw_putI X hK hT hR hS 5 7 tyX4 k0 (by decide) (C := RX4) (T := TX4) (N := 8) rfl (by decide) in_X4_tellSpans_5 tyX4_ok nmX4 (by decide +kernel) rfl rfl (by decide +kernel) dX4_tellSpans_2 (fun σ_1 H locs e_1 hR hS => ?_)
  have h := of_nm e_1 h
  refine lv_iconst (v := (0 : Int32)) hx hb dX4_tellSpans_5 (by decide) ?_
  refine lv_istore (lv' := [(4, .int (0 : Int32)), (0, .ref a0), (1, .long l1), (3, .int l3)]) hx hb dX4_tellSpans_6 hl (by decide) rfl (fun ls hl => ?_)
  obtain ⟨e_10, hq_10, h⟩ := of_bind h
  refine w_lp_X4_tellSpans_8 X hK hT hM a0 l1 l3 k0 _ ((0 : Int32), σ_1) hq_10 (fun H locs ls hR hS hl => ?_) H locs ls hR hS (lv_sub hl [1, 2, 3, 0] rfl)
  exact rt_v X hR hS (Option.some.inj h) dX4_tellSpans_94

set_option maxHeartbeats 4000000 in
set_option maxRecDepth 100000 in
theorem c_X4_tellSpans (l : Launch) (cA : Nat → ClassId) (D : va_G) (Λ : Lay) (hT : TL Λ) (σ : Sto) (a0 : Nat) (l1 : Int64) (l3 : Int32) (k0 : isK Λ a0 5) {res : Sto} (h : F_X4_tellSpans Λ σ a0 l1 l3 = some res) : Met l yX4_tellSpans wsX4_tellSpans { frames := 0, cells := 0, slots := 0, locals := 0 } (va_Pc [.ref a0, .long l1, .int l3] (PW cA D Λ σ)) (QV cA D Λ res) 0 0 (dm Λ) := by
  refine Met.ofW (cc := cX4_tellSpans) (maxL := 5) (ret := none) (by decide) rfl ?_
  intro p e s m args below meth c s₁ B hml hv
  obtain ⟨rfl, hR, hK⟩ := hv
  have X : Cx cX4_tellSpans none 5 RX4 wsX4_tellSpans p s m _ meth c := ⟨B.exec, B.bytes, B.returns, hml, findClass_of_methodNamed B.named, atoms_spec (ws := wsX4_tellSpans) B.pre, B.notSynchronized⟩
  have hS : va_S (dm Λ) s.heap s.heap [] := va_S.rf
  have hl := lv_entry ([.ref a0, .long l1, .int l3]) (n := 5) (Nat.le_of_ble_eq_true rfl)
  rw [lg_entry_eq]
  generalize (lg_sl ([.ref a0, .long l1, .int l3]) ++ List.replicate (5 - (lg_sl ([.ref a0, .long l1, .int l3])).length) Slot.unset).toArray = ls at hl ⊢
  have hl : lv_has ls 5 [(0, .ref a0), (1, .long l1), (3, .int l3)] := hl
  exact w_X4_tellSpans X hK hT ⟨Nat.le_refl _, Nat.le_refl _⟩ a0 l1 l3 k0 h s.heap [] ls hR hS hl
