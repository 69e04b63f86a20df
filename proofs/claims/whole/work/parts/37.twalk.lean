variable {p : Program} {l : Launch} {e : Env} {R : Room} {s : State} {m : MethodId} {args : Array Value} {below : List Frame} {meth : Method} {c : Code} {Q : State → Prop} {cA : Nat → ClassId} {D : va_G} {Λ : Lay} {σ : Sto} {sa : Nat → Nat}
theorem in_X4_row_3 : ∀ w ∈ u_ws RX2 TX2 3, w ∈ wsX4_row := by decide +kernel
theorem at_X4_row : ∀ w ∈ (nsAt RX4 114).filter goodWord, w ∈ wsX4_row := fun _ h => List.mem_cons_of_mem _ (List.mem_append_right _ h)
set_option maxHeartbeats 4000000 in
set_option maxRecDepth 100000 in
theorem w_jp_X4_row_18 (X : Cx cX4_row (some .long) 4 RX4 wsX4_row p s m args meth c) (hK : Kn cA D s) (hT : TL Λ) (hM : 6 ≤ R.frames ∧ 90 ≤ R.locals) (hlt : l.stackTraces = false) (hXK : XK Λ sa s s.heap) (hout : ∀ x ∈ c.exceptionTable.toList, False) (hM3 : 1 ≤ R.cells ∧ 6 ≤ R.slots)   {res : Option Int64} (h : jp_X4_row_18 Λ σ = some res) (H : Heap) (locs : List Loc) (ls : Array Slot) (hR : Rep cA D Λ σ H) (hS : va_S (dm Λ) s.heap H locs) (hl : lv_has ls 4 []) : W p l e R s m args below meth c H locs 0 0 (vx_MQ below (QLo cA D Λ res σ) (XO cA D Λ res σ) args s 1 6 (dm Λ)) (F0 m 18 ls []) := by
  have hx := X.1
  have hb := X.2.1
  have hown := X.2.2.2.2.1
  have hts := X.2.2.2.2.2.1
  unfold jp_X4_row_18 at h
  exact tx_throw (is := 112) (text := "no such row") X hlt hXK.1 hXK.2.1 hXK.2.2.1 hXK.2.2.2.2.2 at_X4_row (by decide +kernel) (by decide +kernel) hR hS hl.1 ⟨Nat.le_trans (by decide) hM.1, Nat.le_trans (by decide) hM.2, hM3⟩ hout dX4_row_18 dX4_row_21 dX4_row_22 dX4_row_24 dX4_row_27 (Option.some.inj h).symm

set_option maxHeartbeats 4000000 in
set_option maxRecDepth 100000 in
theorem w_X4_row (X : Cx cX4_row (some .long) 4 RX4 wsX4_row p s m args meth c) (hK : Kn cA D s) (hT : TL Λ) (hM : 6 ≤ R.frames ∧ 90 ≤ R.locals) (hlt : l.stackTraces = false) (hXK : XK Λ sa s s.heap) (hout : ∀ x ∈ c.exceptionTable.toList, False) (hM3 : 1 ≤ R.cells ∧ 6 ≤ R.slots) (a0 : Nat) (l1 : Int32) (l2 : Int32) (k0 : isK Λ a0 5) {res : Option Int64} (h : F_X4_row Λ σ a0 l1 l2 = some res) (H : Heap) (locs : List Loc) (ls : Array Slot) (hR : Rep cA D Λ σ H) (hS : va_S (dm Λ) s.heap H locs) (hl : lv_has ls 4 [(0, .ref a0), (1, .int l1), (2, .int l2)]) : W p l e R s m args below meth c H locs 0 0 (vx_MQ below (QLo cA D Λ res σ) (XO cA D Λ res σ) args s 1 6 (dm Λ)) (F0 m 0 ls []) := by
  have hx := X.1
  have hb := X.2.1
  have hown := X.2.2.2.2.1
  have hts := X.2.2.2.2.2.1
  unfold F_X4_row at h
  refine lv_aload_n hx hb dX4_row_0 rfl (lv_at hl 0 rfl) ?_
  refine lv_iload_n hx hb dX4_row_1 rfl (lv_at hl 1 rfl) ?_
  obtain ⟨q_1, hq_1, h⟩ := of_bind h
  refine cl_q (rn_V (As := [.int l1]) (rest := []) X hK hR k0 rfl (by decide) hl.1 (c_X4_find l cA D Λ hT σ a0 l1 k0 hq_1) (cwV 1 hts gX4_row_X4_find rfl rfl rfl (by decide +kernel) ⟨Nat.le_trans (by decide) hM.1, Nat.le_trans (by decide) hM.2⟩) rfl rfl (Nat.le_of_ble_eq_true rfl) dX4_row_2) hS (fun hn_1 H locs hR hS => ?_) (fun a_1 hn_1 kf_1 H locs hR hS => ?_)
  · have h := of_ocn hn_1 h
    refine lv_astore_nN (lv' := [(3, .null), (0, .ref a0), (1, .int l1), (2, .int l2)]) hx hb dX4_row_5 rfl hl (by decide) rfl (fun ls hl => ?_)
    refine lv_aload_nN hx hb dX4_row_6 rfl (lv_at hl 0 rfl) ?_
    refine lv_ifnullN (tgt := 18) hx hb dX4_row_7 (by decide) ?_
    exact w_jp_X4_row_18 X hK hT hM hlt hXK hout hM3  h H locs ls hR hS (lv_sub hl [] rfl)
  · have h := of_ocs hn_1 h
    refine lv_astore_n (lv' := [(3, .ref a_1), (0, .ref a0), (1, .int l1), (2, .int l2)]) hx hb dX4_row_5 rfl hl (by decide) rfl (fun ls hl => ?_)
    refine lv_aload_n hx hb dX4_row_6 rfl (lv_at hl 0 rfl) ?_
    refine lv_ifnull hx hb dX4_row_7 ?_
    refine lv_aload_n hx hb dX4_row_10 rfl (lv_at hl 0 rfl) ?_
    refine lv_iload_n hx hb dX4_row_11 rfl (lv_at hl 3 rfl) ?_
    refine cl_z (rn_V (As := [.int l2]) (rest := []) X hK hR kf_1 rfl (by decide) hl.1 (c_X2_hasRow l cA D Λ hT σ a_1 l2 kf_1) (cwV 1 hts gX4_row_X2_hasRow rfl rfl rfl (by decide +kernel) ⟨Nat.le_trans (by decide) hM.1, Nat.le_trans (by decide) hM.2⟩) rfl rfl (Nat.le_of_ble_eq_true rfl) dX4_row_12) hS (fun hz_2 H locs hR hS => ?_)
    refine lv_topi (fun r_2 e_2 => ?_)
    have h := of_nm e_2 h
    have hz_2 : r_2 = 0 ∨ r_2 = 1 := by rw [e_2]; exact hz_2
    refine lv_if_ne (tgt := 28) hx hb dX4_row_15 (by decide) (fun hc => ?_) (fun hc => ?_)
    · have h := of_neg hc h
      refine lv_aload_n hx hb dX4_row_28 rfl (lv_at hl 0 rfl) ?_
      refine rw_getR X hK hT hR 3 2 8 kf_1 (by decide) (C := RX2) (T := TX2) (N := 3) rfl (by decide) in_X4_row_3 (by decide +kernel) rfl dX4_row_29 (fun kf_3 => ?_)
      refine lv_iload_n hx hb dX4_row_32 rfl (lv_at hl 3 rfl) ?_
      obtain ⟨hg_4, h⟩ := of_guard h
      refine rw_lald X hK hR kf_3 hg_4 dX4_row_33 ?_
      exact rtx_l X hR hS (Option.some.inj h) dX4_row_34
    · have h := of_pos hc h
      exact w_jp_X4_row_18 X hK hT hM hlt hXK hout hM3  h H locs ls hR hS (lv_sub hl [] rfl)

set_option maxHeartbeats 4000000 in
set_option maxRecDepth 100000 in
theorem c_X4_row (l : Launch) (hlt : l.stackTraces = false) (cA : Nat → ClassId) (D : va_G) (Λ : Lay) (hT : TL Λ) (sa : Nat → Nat) (σ : Sto) (a0 : Nat) (l1 : Int32) (l2 : Int32) (k0 : isK Λ a0 5) {res : Option Int64} (h : F_X4_row Λ σ a0 l1 l2 = some res) : vx_Met l yX4_row wsX4_row { frames := 6, cells := 1, slots := 6, locals := 90 } (va_Pc [.ref a0, .int l1, .int l2] (PX cA D Λ sa σ)) (QLo cA D Λ res σ) (XO cA D Λ res σ) 1 6 (dm Λ) := by
  refine vx_ofW (cc := cX4_row) (maxL := 4) (ret := (some .long)) (by decide) rfl ?_
  intro p e s m args below meth c s₁ B hml hout hv
  obtain ⟨rfl, ⟨hR, hK⟩, hXK⟩ := hv
  have X : Cx cX4_row (some .long) 4 RX4 wsX4_row p s m _ meth c := ⟨B.exec, B.bytes, B.returns, hml, findClass_of_methodNamed B.named, atoms_spec (ws := wsX4_row) B.pre, B.notSynchronized⟩
  have hS : va_S (dm Λ) s.heap s.heap [] := va_S.rf
  have hl := lv_entry ([.ref a0, .int l1, .int l2]) (n := 4) (Nat.le_of_ble_eq_true rfl)
  rw [lg_entry_eq]
  generalize (lg_sl ([.ref a0, .int l1, .int l2]) ++ List.replicate (4 - (lg_sl ([.ref a0, .int l1, .int l2])).length) Slot.unset).toArray = ls at hl ⊢
  have hl : lv_has ls 4 [(0, .ref a0), (1, .int l1), (2, .int l2)] := hl
  exact w_X4_row X hK hT ⟨Nat.le_refl _, Nat.le_refl _⟩ hlt hXK hout ⟨Nat.le_refl _, Nat.le_refl _⟩ a0 l1 l2 k0 h s.heap [] ls hR hS hl
theorem in_X4_listed_3 : ∀ w ∈ u_ws RX2 TX2 3, w ∈ wsX4_listed := by decide +kernel
theorem in_X4_listed_5 : ∀ w ∈ u_ws RX4 TX4 8, w ∈ wsX4_listed := by decide +kernel
theorem at_X4_listed : ∀ w ∈ (nsAt RX4 114).filter goodWord, w ∈ wsX4_listed := fun _ h => List.mem_cons_of_mem _ (List.mem_append_right _ h)
set_option maxHeartbeats 4000000 in
set_option maxRecDepth 100000 in
theorem w_jp_X4_listed_26 (X : Cx cX4_listed (some .int) 5 RX4 wsX4_listed p s m args meth c) (hK : Kn cA D s) (hT : TL Λ) (hM : 6 ≤ R.frames ∧ 90 ≤ R.locals) (hlt : l.stackTraces = false) (hXK : XK Λ sa s s.heap) (hout : ∀ x ∈ c.exceptionTable.toList, False) (hM3 : 1 ≤ R.cells ∧ 6 ≤ R.slots)   {res : Option Int32} (h : jp_X4_listed_26 Λ σ = some res) (H : Heap) (locs : List Loc) (ls : Array Slot) (hR : Rep cA D Λ σ H) (hS : va_S (dm Λ) s.heap H locs) (hl : lv_has ls 5 []) : W p l e R s m args below meth c H locs 0 0 (vx_MQ below (QIo cA D Λ res σ) (XO cA D Λ res σ) args s 1 6 (dm Λ)) (F0 m 26 ls []) := by
  have hx := X.1
  have hb := X.2.1
  have hown := X.2.2.2.2.1
  have hts := X.2.2.2.2.2.1
  unfold jp_X4_listed_26 at h
  exact tx_throw (is := 195) (text := "no such point") X hlt hXK.1 hXK.2.1 hXK.2.2.2.1 hXK.2.2.2.2.2 at_X4_listed (by decide +kernel) (by decide +kernel) hR hS hl.1 ⟨Nat.le_trans (by decide) hM.1, Nat.le_trans (by decide) hM.2, hM3⟩ hout dX4_listed_26 dX4_listed_29 dX4_listed_30 dX4_listed_32 dX4_listed_35 (Option.some.inj h).symm

set_option maxHeartbeats 4000000 in
set_option maxRecDepth 100000 in
theorem w_bd_X4_listed_41 (X : Cx cX4_listed (some .int) 5 RX4 wsX4_listed p s m args meth c) (hK : Kn cA D s) (hT : TL Λ) (hM : 6 ≤ R.frames ∧ 90 ≤ R.locals) (a0 : Nat) (l2 : Int32) (s9 : (Int32 × Int32)) (k0 : isK Λ a0 5) {r : (Int32 × Int32) ⊕ (Int32 × Int32)} (h : bd_X4_listed_41 Λ σ a0 l2 s9 = some r) (kb : ∀ z : (Int32 × Int32), r = .inl z → ∀ (H : Heap) (locs : List Loc) (ls : Array Slot), Rep cA D Λ σ H → va_S (dm Λ) s.heap H locs → lv_has ls 5 [(0, .ref a0), (2, .int l2), (3, .int z.1), (4, .int z.2)] → W p l e R s m args below meth c H locs 0 0 Q (F0 m 41 ls [])) (kx0 : ∀ z : (Int32 × Int32), r = .inr z → ∀ (H : Heap) (locs : List Loc) (ls : Array Slot), Rep cA D Λ σ H → va_S (dm Λ) s.heap H locs → lv_has ls 5 [(0, .ref a0), (2, .int l2), (3, .int z.1), (4, .int z.2)] → W p l e R s m args below meth c H locs 0 0 Q (F0 m 94 ls [])) (H : Heap) (locs : List Loc) (ls : Array Slot) (hR : Rep cA D Λ σ H) (hS : va_S (dm Λ) s.heap H locs) (hl : lv_has ls 5 [(0, .ref a0), (2, .int l2), (3, .int s9.1), (4, .int s9.2)]) : W p l e R s m args below meth c H locs 0 0 Q (F0 m 41 ls []) := by
  have hx := X.1
  have hb := X.2.1
  have hown := X.2.2.2.2.1
  have hts := X.2.2.2.2.2.1
  unfold bd_X4_listed_41 at h
  refine lv_iload hx hb dX4_listed_41 (lv_at hl 3 rfl) ?_
  refine lv_aload_n hx hb dX4_listed_43 rfl (lv_at hl 0 rfl) ?_
  refine rw_getR X hK hT hR 5 4 3 k0 (by decide) (C := RX4) (T := TX4) (N := 8) rfl (by decide) in_X4_listed_5 (by decide +kernel) rfl dX4_listed_44 (fun kf_5 => ?_)
  refine rw_getI X hK hR 3 1 kf_5 (by decide) (C := RX2) (T := TX2) (N := 3) rfl (by decide) in_X4_listed_3 (by decide +kernel) rfl dX4_listed_47 ?_
  refine lv_iconst (v := (1 : Int32)) hx hb dX4_listed_50 (by decide) ?_
  refine lv_isub hx hb dX4_listed_51 ?_
  refine lv_icmp_ge (tgt := 94) hx hb dX4_listed_52 (by decide) (fun hc => ?_) (fun hc => ?_)
  · have h := of_pos hc h
    exact kx0 (s9.1, s9.2) (Option.some.inj h).symm H locs ls hR hS (lv_sub hl [0, 1, 2, 3] rfl)
  · have h := of_neg hc h
    refine lv_iload_n hx hb dX4_listed_55 rfl (lv_at hl 2 rfl) ?_
    refine lv_aload_n hx hb dX4_listed_56 rfl (lv_at hl 0 rfl) ?_
    refine rw_getR X hK hT hR 5 4 3 k0 (by decide) (C := RX4) (T := TX4) (N := 8) rfl (by decide) in_X4_listed_5 (by decide +kernel) rfl dX4_listed_57 (fun kf_6 => ?_)
    refine rw_getR X hK hT hR 3 2 8 kf_6 (by decide) (C := RX2) (T := TX2) (N := 3) rfl (by decide) in_X4_listed_3 (by decide +kernel) rfl dX4_listed_60 (fun kf_7 => ?_)
    refine lv_iload hx hb dX4_listed_63 (lv_at hl 3 rfl) ?_
    obtain ⟨hg_8, h⟩ := of_guard h
    refine rw_lald X hK hR kf_7 hg_8 dX4_listed_65 ?_
    refine cl_i (rn_S (As := [.long (σ.2 (rfA Λ (rfA Λ a0 4) 2) s9.2.toNatClampNeg)]) (rest := [.int s9.1]) X hK hR hl.1 (c_J13_bitCount_95d88 l cA D Λ hT σ (σ.2 (rfA Λ (rfA Λ a0 4) 2) s9.2.toNatClampNeg)) (va_cwS 1 hts gX4_listed_J13_bitCount_95d88 rfl rfl rfl (by decide +kernel) ⟨Nat.le_trans (by decide) hM.1, Nat.le_trans (by decide) hM.2⟩) rfl rfl (Nat.le_of_ble_eq_true rfl) dX4_listed_66) hS (fun H locs hR hS => ?_)
    refine lv_topi (fun r_9 e_9 => ?_)
    have h := of_nm e_9 h
    refine lv_icmp_lt (tgt := 94) hx hb dX4_listed_69 (by decide) (fun hc => ?_) (fun hc => ?_)
    · have h := of_pos hc h
      exact kx0 (s9.1, s9.2) (Option.some.inj h).symm H locs ls hR hS (lv_sub hl [0, 1, 2, 3] rfl)
    · have h := of_neg hc h
      refine lv_iload_n hx hb dX4_listed_72 rfl (lv_at hl 2 rfl) ?_
      refine lv_aload_n hx hb dX4_listed_73 rfl (lv_at hl 0 rfl) ?_
      refine rw_getR X hK hT hR 5 4 3 k0 (by decide) (C := RX4) (T := TX4) (N := 8) rfl (by decide) in_X4_listed_5 (by decide +kernel) rfl dX4_listed_74 (fun kf_10 => ?_)
      refine rw_getR X hK hT hR 3 2 8 kf_10 (by decide) (C := RX2) (T := TX2) (N := 3) rfl (by decide) in_X4_listed_3 (by decide +kernel) rfl dX4_listed_77 (fun kf_11 => ?_)
      refine lv_iload hx hb dX4_listed_80 (lv_at hl 3 rfl) ?_
      obtain ⟨hg_12, h⟩ := of_guard h
      refine rw_lald X hK hR kf_11 hg_12 dX4_listed_82 ?_
      refine cl_i (rn_S (As := [.long (σ.2 (rfA Λ (rfA Λ a0 4) 2) s9.2.toNatClampNeg)]) (rest := [.int s9.1]) X hK hR hl.1 (c_J13_bitCount_95d88 l cA D Λ hT σ (σ.2 (rfA Λ (rfA Λ a0 4) 2) s9.2.toNatClampNeg)) (va_cwS 1 hts gX4_listed_J13_bitCount_95d88 rfl rfl rfl (by decide +kernel) ⟨Nat.le_trans (by decide) hM.1, Nat.le_trans (by decide) hM.2⟩) rfl rfl (Nat.le_of_ble_eq_true rfl) dX4_listed_83) hS (fun H locs hR hS => ?_)
      refine lv_topi (fun r_13 e_13 => ?_)
      have h := of_nm e_13 h
      refine lv_isub hx hb dX4_listed_86 ?_
      refine lv_topi (fun v_14 e_v_14 => ?_)
      have h := of_nm e_v_14 h
      refine lv_istore_n (lv' := [(3, .int v_14), (0, .ref a0), (2, .int l2), (4, .int s9.2)]) hx hb dX4_listed_87 rfl hl (by decide) rfl (fun ls hl => ?_)
      obtain ⟨v_15, e_v_15⟩ : ∃ y : Int32, y = (s9.2 + (1 : Int32)) := ⟨_, rfl⟩
      have h := of_nm e_v_15 h
      refine lv_iinc (v := v_15) (lv' := [(4, .int v_15), (3, .int v_14), (0, .ref a0), (2, .int l2)]) hx hb dX4_listed_88 hl (k := 3) rfl (by rw [e_v_15]; rfl) (by decide) rfl (fun ls hl => ?_)
      refine lv_goto (tgt := 41) hx hb dX4_listed_91 (by decide) ?_
      exact kb (v_14, v_15) (Option.some.inj h).symm H locs ls hR hS (lv_sub hl [2, 3, 1, 0] rfl)

set_option maxHeartbeats 4000000 in
set_option maxRecDepth 100000 in
theorem w_lp_X4_listed_41 (X : Cx cX4_listed (some .int) 5 RX4 wsX4_listed p s m args meth c) (hK : Kn cA D s) (hT : TL Λ) (hM : 6 ≤ R.frames ∧ 90 ≤ R.locals) (a0 : Nat) (l2 : Int32) (k0 : isK Λ a0 5) {e9 : (Int32 × Int32)} : ∀ (n9 : Nat) (s9 : (Int32 × Int32)), iter (bd_X4_listed_41 Λ σ a0 l2) n9 s9 = some e9 → ∀ (kx0 : ∀ (H : Heap) (locs : List Loc) (ls : Array Slot), Rep cA D Λ σ H → va_S (dm Λ) s.heap H locs → lv_has ls 5 [(0, .ref a0), (2, .int l2), (3, .int e9.1), (4, .int e9.2)] → W p l e R s m args below meth c H locs 0 0 Q (F0 m 94 ls [])), ∀ (H : Heap) (locs : List Loc) (ls : Array Slot), Rep cA D Λ σ H → va_S (dm Λ) s.heap H locs → lv_has ls 5 [(0, .ref a0), (2, .int l2), (3, .int s9.1), (4, .int s9.2)] → W p l e R s m args below meth c H locs 0 0 Q (F0 m 41 ls []) := by
  intro n9
  induction n9 with
  | zero => intro s9 h; cases h
  | succ n9 ih =>
    intro s9 h kx0 H locs ls hR hS hl
    obtain ⟨r, hr, h⟩ := of_iter h
    refine w_bd_X4_listed_41 X hK hT hM a0 l2 s9 k0 hr (fun z ez H locs ls hR hS hl => ?_) (fun z ez H locs ls hR hS hl => ?_) H locs ls hR hS hl
    · exact ih z (of_itl ez h) kx0 H locs ls hR hS hl
    · have he := of_itr ez h; subst he; exact kx0 H locs ls hR hS hl

set_option maxHeartbeats 4000000 in
set_option maxRecDepth 100000 in
theorem w_X4_listed (X : Cx cX4_listed (some .int) 5 RX4 wsX4_listed p s m args meth c) (hK : Kn cA D s) (hT : TL Λ) (hM : 6 ≤ R.frames ∧ 90 ≤ R.locals) (hlt : l.stackTraces = false) (hXK : XK Λ sa s s.heap) (hout : ∀ x ∈ c.exceptionTable.toList, False) (hM3 : 1 ≤ R.cells ∧ 6 ≤ R.slots) (a0 : Nat) (l1 : Int32) (l2 : Int32) (k0 : isK Λ a0 5) {res : Option Int32} (h : F_X4_listed Λ σ a0 l1 l2 = some res) (H : Heap) (locs : List Loc) (ls : Array Slot) (hR : Rep cA D Λ σ H) (hS : va_S (dm Λ) s.heap H locs) (hl : lv_has ls 5 [(0, .ref a0), (1, .int l1), (2, .int l2)]) : W p l e R s m args below meth c H locs 0 0 (vx_MQ below (QIo cA D Λ res σ) (XO cA D Λ res σ) args s 1 6 (dm Λ)) (F0 m 0 ls []) := by
  have hx := X.1
  have hb := X.2.1
  have hown := X.2.2.2.2.1
  have hts := X.2.2.2.2.2.1
  unfold F_X4_listed at h
  refine lv_iload_n hx hb dX4_listed_0 rfl (lv_at hl 2 rfl) ?_
  refine lv_iconst (v := (0 : Int32)) hx hb dX4_listed_1 (by decide) ?_
  refine lv_iconst (v := (1 : Int32)) hx hb dX4_listed_2 (by decide) ?_
  refine cl_z (rn_S (As := [.int l2, .int (0 : Int32), .int (1 : Int32)]) (rest := []) X hK hR hl.1 (c_X4_within l cA D Λ hT σ l2 (0 : Int32) (1 : Int32)) (va_cwS 3 hts gX4_listed_X4_within rfl rfl rfl (by decide +kernel) ⟨Nat.le_trans (by decide) hM.1, Nat.le_trans (by decide) hM.2⟩) rfl rfl (Nat.le_of_ble_eq_true rfl) dX4_listed_3) hS (fun hz_1 H locs hR hS => ?_)
  refine lv_topi (fun r_1 e_1 => ?_)
  have h := of_nm e_1 h
  have hz_1 : r_1 = 0 ∨ r_1 = 1 := by rw [e_1]; exact hz_1
  refine lv_if_eq (tgt := 26) hx hb dX4_listed_6 (by decide) (fun hc => ?_) (fun hc => ?_)
  · have h := of_pos hc h
    exact w_jp_X4_listed_26 X hK hT hM hlt hXK hout hM3  h H locs ls hR hS (lv_sub hl [] rfl)
  · have h := of_neg hc h
    refine lv_iload_n hx hb dX4_listed_9 rfl (lv_at hl 1 rfl) ?_
    refine lv_iconst (v := (0 : Int32)) hx hb dX4_listed_10 (by decide) ?_
    refine lv_aload_n hx hb dX4_listed_11 rfl (lv_at hl 0 rfl) ?_
    refine rw_getR X hK hT hR 5 4 3 k0 (by decide) (C := RX4) (T := TX4) (N := 8) rfl (by decide) in_X4_listed_5 (by decide +kernel) rfl dX4_listed_12 (fun kf_2 => ?_)
    obtain ⟨q_3, hq_3, h⟩ := of_bind h
    refine cl_i (rn_V (As := []) (rest := [.int (0 : Int32), .int l1]) X hK hR kf_2 rfl (by decide) hl.1 (c_X2_ink l cA D Λ hT σ (rfA Λ a0 4) kf_2 hq_3) (cwV 0 hts gX4_listed_X2_ink rfl rfl rfl (by decide +kernel) ⟨Nat.le_trans (by decide) hM.1, Nat.le_trans (by decide) hM.2⟩) rfl rfl (Nat.le_of_ble_eq_true rfl) dX4_listed_15) hS (fun H locs hR hS => ?_)
    refine lv_iconst (v := (1 : Int32)) hx hb dX4_listed_18 (by decide) ?_
    refine lv_isub hx hb dX4_listed_19 ?_
    refine cl_z (rn_S (As := [.int l1, .int (0 : Int32), .int (q_3 - (1 : Int32))]) (rest := []) X hK hR hl.1 (c_X4_within l cA D Λ hT σ l1 (0 : Int32) (q_3 - (1 : Int32))) (va_cwS 3 hts gX4_listed_X4_within rfl rfl rfl (by decide +kernel) ⟨Nat.le_trans (by decide) hM.1, Nat.le_trans (by decide) hM.2⟩) rfl rfl (Nat.le_of_ble_eq_true rfl) dX4_listed_20) hS (fun hz_4 H locs hR hS => ?_)
    refine lv_topi (fun r_4 e_4 => ?_)
    have h := of_nm e_4 h
    have hz_4 : r_4 = 0 ∨ r_4 = 1 := by rw [e_4]; exact hz_4
    refine lv_if_ne (tgt := 36) hx hb dX4_listed_23 (by decide) (fun hc => ?_) (fun hc => ?_)
    · have h := of_neg hc h
      refine lv_iload_n hx hb dX4_listed_36 rfl (lv_at hl 1 rfl) ?_
      refine lv_istore_n (lv' := [(3, .int l1), (0, .ref a0), (1, .int l1), (2, .int l2)]) hx hb dX4_listed_37 rfl hl (by decide) rfl (fun ls hl => ?_)
      refine lv_iconst (v := (0 : Int32)) hx hb dX4_listed_38 (by decide) ?_
      refine lv_istore (lv' := [(4, .int (0 : Int32)), (3, .int l1), (0, .ref a0), (1, .int l1), (2, .int l2)]) hx hb dX4_listed_39 hl (by decide) rfl (fun ls hl => ?_)
      obtain ⟨e_16, hq_16, h⟩ := of_bind h
      refine w_lp_X4_listed_41 X hK hT hM a0 l2 k0 _ (l1, (0 : Int32)) hq_16 (fun H locs ls hR hS hl => ?_) H locs ls hR hS (lv_sub hl [2, 4, 1, 0] rfl)
      refine lv_iload_n hx hb dX4_listed_94 rfl (lv_at hl 1 rfl) ?_
      refine lv_iconst (v := (1 : Int32)) hx hb dX4_listed_95 (by decide) ?_
      refine lv_icmp_ne (tgt := 104) hx hb dX4_listed_96 (by decide) (fun hc => ?_) (fun hc => ?_)
      · have h := of_neg hc h
        refine lv_aload_n hx hb dX4_listed_104 rfl (lv_at hl 0 rfl) ?_
        refine rw_getR X hK hT hR 5 4 3 k0 (by decide) (C := RX4) (T := TX4) (N := 8) rfl (by decide) in_X4_listed_5 (by decide +kernel) rfl dX4_listed_105 (fun kf_17 => ?_)
        refine rw_getR X hK hT hR 3 2 8 kf_17 (by decide) (C := RX2) (T := TX2) (N := 3) rfl (by decide) in_X4_listed_3 (by decide +kernel) rfl dX4_listed_108 (fun kf_18 => ?_)
        refine lv_iload hx hb dX4_listed_111 (lv_at hl 3 rfl) ?_
        obtain ⟨hg_19, h⟩ := of_guard h
        refine rw_lald X hK hR kf_18 hg_19 dX4_listed_113 ?_
        refine lv_iload_n hx hb dX4_listed_114 rfl (lv_at hl 2 rfl) ?_
        obtain ⟨q_20, hq_20, h⟩ := of_bind h
        refine cl_i (rn_S (As := [.long (σ.2 (rfA Λ (rfA Λ a0 4) 2) e_16.2.toNatClampNeg), .int e_16.1]) (rest := []) X hK hR hl.1 (c_X4_bitAfter l cA D Λ hT σ (σ.2 (rfA Λ (rfA Λ a0 4) 2) e_16.2.toNatClampNeg) e_16.1 hq_20) (va_cwS 2 hts gX4_listed_X4_bitAfter rfl rfl rfl (by decide +kernel) ⟨Nat.le_trans (by decide) hM.1, Nat.le_trans (by decide) hM.2⟩) rfl rfl (Nat.le_of_ble_eq_true rfl) dX4_listed_115) hS (fun H locs hR hS => ?_)
        exact rtx_i X hR hS (Option.some.inj h) dX4_listed_118
      · have h := of_pos hc h
        refine lv_iload hx hb dX4_listed_99 (lv_at hl 3 rfl) ?_
        refine lv_goto (tgt := 118) hx hb dX4_listed_101 (by decide) ?_
        exact rtx_i X hR hS (Option.some.inj h) dX4_listed_118
    · have h := of_pos hc h
      exact w_jp_X4_listed_26 X hK hT hM hlt hXK hout hM3  h H locs ls hR hS (lv_sub hl [] rfl)

set_option maxHeartbeats 4000000 in
set_option maxRecDepth 100000 in
theorem c_X4_listed (l : Launch) (hlt : l.stackTraces = false) (cA : Nat → ClassId) (D : va_G) (Λ : Lay) (hT : TL Λ) (sa : Nat → Nat) (σ : Sto) (a0 : Nat) (l1 : Int32) (l2 : Int32) (k0 : isK Λ a0 5) {res : Option Int32} (h : F_X4_listed Λ σ a0 l1 l2 = some res) : vx_Met l yX4_listed wsX4_listed { frames := 6, cells := 1, slots := 6, locals := 90 } (va_Pc [.ref a0, .int l1, .int l2] (PX cA D Λ sa σ)) (QIo cA D Λ res σ) (XO cA D Λ res σ) 1 6 (dm Λ) := by
  refine vx_ofW (cc := cX4_listed) (maxL := 5) (ret := (some .int)) (by decide) rfl ?_
  intro p e s m args below meth c s₁ B hml hout hv
  obtain ⟨rfl, ⟨hR, hK⟩, hXK⟩ := hv
  have X : Cx cX4_listed (some .int) 5 RX4 wsX4_listed p s m _ meth c := ⟨B.exec, B.bytes, B.returns, hml, findClass_of_methodNamed B.named, atoms_spec (ws := wsX4_listed) B.pre, B.notSynchronized⟩
  have hS : va_S (dm Λ) s.heap s.heap [] := va_S.rf
  have hl := lv_entry ([.ref a0, .int l1, .int l2]) (n := 5) (Nat.le_of_ble_eq_true rfl)
  rw [lg_entry_eq]
  generalize (lg_sl ([.ref a0, .int l1, .int l2]) ++ List.replicate (5 - (lg_sl ([.ref a0, .int l1, .int l2])).length) Slot.unset).toArray = ls at hl ⊢
  have hl : lv_has ls 5 [(0, .ref a0), (1, .int l1), (2, .int l2)] := hl
  exact w_X4_listed X hK hT ⟨Nat.le_refl _, Nat.le_refl _⟩ hlt hXK hout ⟨Nat.le_refl _, Nat.le_refl _⟩ a0 l1 l2 k0 h s.heap [] ls hR hS hl
theorem in_X4_told_5 : ∀ w ∈ u_ws RX4 TX4 8, w ∈ wsX4_told := by decide +kernel
theorem at_X4_told : ∀ w ∈ (nsAt RX4 114).filter goodWord, w ∈ wsX4_told := fun _ h => List.mem_cons_of_mem _ (List.mem_append_right _ h)
set_option maxHeartbeats 4000000 in
set_option maxRecDepth 100000 in
theorem w_X4_told (X : Cx cX4_told (some .int) 2 RX4 wsX4_told p s m args meth c) (hK : Kn cA D s) (hT : TL Λ) (hM : 6 ≤ R.frames ∧ 90 ≤ R.locals) (hlt : l.stackTraces = false) (hXK : XK Λ sa s s.heap) (hout : ∀ x ∈ c.exceptionTable.toList, False) (hM3 : 1 ≤ R.cells ∧ 6 ≤ R.slots) (a0 : Nat) (l1 : Int32) (k0 : isK Λ a0 5) {res : Option Int32} (h : F_X4_told Λ σ a0 l1 = some res) (H : Heap) (locs : List Loc) (ls : Array Slot) (hR : Rep cA D Λ σ H) (hS : va_S (dm Λ) s.heap H locs) (hl : lv_has ls 2 [(0, .ref a0), (1, .int l1)]) : W p l e R s m args below meth c H locs 0 0 (vx_MQ below (QIo cA D Λ res σ) (XO cA D Λ res σ) args s 1 6 (dm Λ)) (F0 m 0 ls []) := by
  have hx := X.1
  have hb := X.2.1
  have hown := X.2.2.2.2.1
  have hts := X.2.2.2.2.2.1
  unfold F_X4_told at h
  refine lv_iload_n hx hb dX4_told_0 rfl (lv_at hl 1 rfl) ?_
  refine lv_iconst (v := (0 : Int32)) hx hb dX4_told_1 (by decide) ?_
  refine lv_aload_n hx hb dX4_told_2 rfl (lv_at hl 0 rfl) ?_
  refine rw_getI X hK hR 5 7 k0 (by decide) (C := RX4) (T := TX4) (N := 8) rfl (by decide) in_X4_told_5 (by decide +kernel) rfl dX4_told_3 ?_
  refine lv_iconst (v := (1 : Int32)) hx hb dX4_told_6 (by decide) ?_
  refine lv_isub hx hb dX4_told_7 ?_
  refine cl_z (rn_S (As := [.int l1, .int (0 : Int32), .int ((σ.1 a0 7) - (1 : Int32))]) (rest := []) X hK hR hl.1 (c_X4_within l cA D Λ hT σ l1 (0 : Int32) ((σ.1 a0 7) - (1 : Int32))) (va_cwS 3 hts gX4_told_X4_within rfl rfl rfl (by decide +kernel) ⟨Nat.le_trans (by decide) hM.1, Nat.le_trans (by decide) hM.2⟩) rfl rfl (Nat.le_of_ble_eq_true rfl) dX4_told_8) hS (fun hz_1 H locs hR hS => ?_)
  refine lv_topi (fun r_1 e_1 => ?_)
  have h := of_nm e_1 h
  have hz_1 : r_1 = 0 ∨ r_1 = 1 := by rw [e_1]; exact hz_1
  refine lv_if_ne (tgt := 24) hx hb dX4_told_11 (by decide) (fun hc => ?_) (fun hc => ?_)
  · have h := of_neg hc h
    refine lv_aload_n hx hb dX4_told_24 rfl (lv_at hl 0 rfl) ?_
    refine rw_getR X hK hT hR 5 6 7 k0 (by decide) (C := RX4) (T := TX4) (N := 8) rfl (by decide) in_X4_told_5 (by decide +kernel) rfl dX4_told_25 (fun kf_2 => ?_)
    refine lv_iload_n hx hb dX4_told_28 rfl (lv_at hl 1 rfl) ?_
    obtain ⟨hg_3, h⟩ := of_guard h
    refine rw_iald X hK hR kf_2 hg_3 dX4_told_29 ?_
    exact rtx_i X hR hS (Option.some.inj h) dX4_told_30
  · have h := of_pos hc h
    exact tx_throw (is := 236) (text := "no such number") X hlt hXK.1 hXK.2.1 hXK.2.2.2.2.1 hXK.2.2.2.2.2 at_X4_told (by decide +kernel) (by decide +kernel) hR hS hl.1 ⟨Nat.le_trans (by decide) hM.1, Nat.le_trans (by decide) hM.2, hM3⟩ hout dX4_told_14 dX4_told_17 dX4_told_18 dX4_told_20 dX4_told_23 (Option.some.inj h).symm

set_option maxHeartbeats 4000000 in
set_option maxRecDepth 100000 in
theorem c_X4_told (l : Launch) (hlt : l.stackTraces = false) (cA : Nat → ClassId) (D : va_G) (Λ : Lay) (hT : TL Λ) (sa : Nat → Nat) (σ : Sto) (a0 : Nat) (l1 : Int32) (k0 : isK Λ a0 5) {res : Option Int32} (h : F_X4_told Λ σ a0 l1 = some res) : vx_Met l yX4_told wsX4_told { frames := 6, cells := 1, slots := 6, locals := 90 } (va_Pc [.ref a0, .int l1] (PX cA D Λ sa σ)) (QIo cA D Λ res σ) (XO cA D Λ res σ) 1 6 (dm Λ) := by
  refine vx_ofW (cc := cX4_told) (maxL := 2) (ret := (some .int)) (by decide) rfl ?_
  intro p e s m args below meth c s₁ B hml hout hv
  obtain ⟨rfl, ⟨hR, hK⟩, hXK⟩ := hv
  have X : Cx cX4_told (some .int) 2 RX4 wsX4_told p s m _ meth c := ⟨B.exec, B.bytes, B.returns, hml, findClass_of_methodNamed B.named, atoms_spec (ws := wsX4_told) B.pre, B.notSynchronized⟩
  have hS : va_S (dm Λ) s.heap s.heap [] := va_S.rf
  have hl := lv_entry ([.ref a0, .int l1]) (n := 2) (Nat.le_of_ble_eq_true rfl)
  rw [lg_entry_eq]
  generalize (lg_sl ([.ref a0, .int l1]) ++ List.replicate (2 - (lg_sl ([.ref a0, .int l1])).length) Slot.unset).toArray = ls at hl ⊢
  have hl : lv_has ls 2 [(0, .ref a0), (1, .int l1)] := hl
  exact w_X4_told X hK hT ⟨Nat.le_refl _, Nat.le_refl _⟩ hlt hXK hout ⟨Nat.le_refl _, Nat.le_refl _⟩ a0 l1 k0 h s.heap [] ls hR hS hl
