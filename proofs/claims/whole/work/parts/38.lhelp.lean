def F_L_row (Λ : Lay) (σ : Sto) (a0 : Nat) (l1 : Int32) (l2 : Int32) (a3 : Nat) : Option (Int32 × Sto) :=
  (F_X4_row Λ σ a0 l1 l2).bind (fun q => oc q (some ((1 : Int32), σ)) (fun v => (if gd (0 : Int32) (ln Λ a3) = true then nm (stJ σ a3 (0 : Int32).toNatClampNeg v) (fun σ_1 => some ((0 : Int32), σ_1)) else none)))
def F_L_listed (Λ : Lay) (σ : Sto) (a0 : Nat) (l1 : Int32) (l2 : Int32) (a3 : Nat) : Option (Int32 × Sto) :=
  (F_X4_listed Λ σ a0 l1 l2).bind (fun q => oc q (some ((1 : Int32), σ)) (fun v => (if gd (0 : Int32) (ln Λ a3) = true then nm (stJ σ a3 (0 : Int32).toNatClampNeg (v.toInt64)) (fun σ_1 => some ((0 : Int32), σ_1)) else none)))
def F_L_told (Λ : Lay) (σ : Sto) (a0 : Nat) (l1 : Int32) (a2 : Nat) : Option (Int32 × Sto) :=
  (F_X4_told Λ σ a0 l1).bind (fun q => oc q (some ((1 : Int32), σ)) (fun v => (if gd (0 : Int32) (ln Λ a2) = true then nm (stJ σ a2 (0 : Int32).toNatClampNeg (v.toInt64)) (fun σ_1 => some ((0 : Int32), σ_1)) else none)))
theorem rtc_i {p : Program} {l : Launch} {e : Env} {R : Room} {s : State} {m : MethodId} {args : Array Value} {below : List Frame} {meth : Method} {c : Code} {H : Heap} {locs : List Loc} {cells slots : Nat} {cc : ByteArray} {nL : Nat} {own : String} {Ts : List Cond} {cA : Nat → ClassId} {D : va_G} {Λ : Lay} {pc : Nat} {ls : Array Slot} {res : Int32 × Sto} {v : Int32} {τ : Sto} (X : Cx cc (some .int) nL own Ts p s m args meth c) (hR : Rep cA D Λ τ H) (hS : va_S (dm Λ) s.heap H locs) (hv : (v, τ) = res) (hdg : decode cc pc = .ok (.ireturn, 1)) : W p l e R s m args below meth c H locs cells slots (MQ below (QI cA D Λ res) args s cells slots (dm Λ)) (F0 m pc ls [.int v]) := by
  subst hv
  exact W.iret X.1 X.2.1 X.2.2.1 (fun t ht hW => ⟨⟨v, τ, rfl, ⟨rfl, rfl⟩, (show Rep cA D Λ τ t.heap by rw [ht]; exact hR)⟩, hS.F ht⟩) hS.2.2 hdg X.2.2.2.2.2.2
theorem ng_cast : Cond.castable NSE NSE ∈ ngW := by decide +kernel
set_option maxHeartbeats 4000000 in
set_option maxRecDepth 100000 in
theorem c_L_row (l : Launch) (hlt : l.stackTraces = false) (cA : Nat → ClassId) (D : va_G) (Λ : Lay) (hT : TL Λ) (sa : Nat → Nat) (σ : Sto) (a0 : Nat) (l1 : Int32) (l2 : Int32) (a3 : Nat) (k0 : isK Λ a0 5) (k3 : isK Λ a3 8) {res : Int32 × Sto} (h : F_L_row Λ σ a0 l1 l2 a3 = some res) : Met l yL_row wsL_row { frames := 7, cells := 1, slots := 6, locals := 113 } (va_Pc [.ref a0, .int l1, .int l2, .ref a3] (PX cA D Λ sa σ)) (QI cA D Λ res) 1 6 (dm Λ) := by
  refine ofWH (cc := cL_row) (maxL := 5) (ret := (some .int)) (hh := [(0, 9, 12, 13)]) (by decide) rfl ?_
  intro p e s m args below meth c s₁ B hml htab hv
  obtain ⟨rfl, ⟨hR, hK⟩, hXK⟩ := hv
  have X : Cx cL_row (some .int) 5 RL wsL_row p s m _ meth c := ⟨B.exec, B.bytes, B.returns, hml, findClass_of_methodNamed B.named, atoms_spec (ws := wsL_row) B.pre, B.notSynchronized⟩
  have hx := X.1
  have hb := X.2.1
  have hown := X.2.2.2.2.1
  have hts := X.2.2.2.2.2.1
  have hS : va_S (dm Λ) s.heap s.heap [] := va_S.rf
  have hl := lv_entry ([.ref a0, .int l1, .int l2, .ref a3]) (n := 5) (Nat.le_of_ble_eq_true rfl)
  rw [lg_entry_eq]
  generalize (lg_sl ([.ref a0, .int l1, .int l2, .ref a3]) ++ List.replicate (5 - (lg_sl ([.ref a0, .int l1, .int l2, .ref a3])).length) Slot.unset).toArray = ls at hl ⊢
  have hl : lv_has ls 5 [(0, .ref a0), (1, .int l1), (2, .int l2), (3, .ref a3)] := hl
  unfold F_L_row at h
  obtain ⟨q, hq, h⟩ := of_bind h
  refine lv_aload_n hx hb dL_row_0 rfl (lv_at hl 3 rfl) ?_
  refine lv_iconst (v := (0 : Int32)) hx hb dL_row_1 (by decide) ?_
  refine lv_aload_n hx hb dL_row_2 rfl (lv_at hl 0 rfl) ?_
  refine lv_iload_n hx hb dL_row_3 rfl (lv_at hl 1 rfl) ?_
  refine lv_iload_n hx hb dL_row_4 rfl (lv_at hl 2 rfl) ?_
  obtain ⟨qz, hqz⟩ := pl_at (f := ent cA Λ σ) k0.1
  rw [ent_o k0.2 (by decide)] at hqz
  refine vx_calll (vx_runV (As := [.int l1, .int l2]) (rest := [.int (0 : Int32), .ref a3]) (Ts := wsL_row) ⟨X.1, X.2.1, X.2.2.2.1, X.2.2.2.2.1, X.2.2.2.2.2.1⟩ (c_X4_row l hlt cA D Λ hT sa σ a0 l1 l2 k0 hq) (cwV 2 hts gL_row_X4_row rfl rfl rfl (by decide +kernel) ⟨Nat.le_of_ble_eq_true rfl, Nat.le_of_ble_eq_true rfl⟩) ⟨PX.blind, va_recv hK.1 hR (show vwCl[4]? = some (RX4, TX4, 8) from rfl) hqz, fun U hU hW1 => ⟨rfl, ⟨by rw [hU]; exact hR, hK.warm hW1⟩, by rw [hU]; exact hXK.warm hW1⟩⟩ rfl rfl hl.1 rfl (lv_room (Nat.le_of_ble_eq_true rfl)) dL_row_5 ⟨Nat.le_of_ble_eq_true rfl, Nat.le_of_ble_eq_true rfl⟩) hS (fun _ _ h => h) (fun _ h => h) (fun _ _ h => h) (fun E ce q9 u t H1 locs1 ht hvm hp hB hz hk hS1 hce hcv hcl => ?_) (fun r u t H1 locs1 ht hvm hp hB hz hk hS1 => ?_)
  · obtain ⟨hn, rfl⟩ := hp
    obtain ⟨rfl, hR1⟩ := hB
    have h := of_ocn hn h
    rw [ht] at hR1
    refine cx_catch (own := RL) (name := NSE) hown ⟨0, 9, 12, 13⟩ htab (by decide) (by decide) (hts (.classLink RL 13 NSE) (by decide +kernel)) (va_Nw.use (ngW_ok _ ng_cast).2 (hXK.2.2.2.2.2 _ ng_cast)) hce hcv hcl ?_
    refine lv_astore (lv' := [(4, .ref q9), (0, .ref a0), (1, .int l1), (2, .int l2), (3, .ref a3)]) hx hb dL_row_12 hl (by decide) rfl (fun ls hl => ?_)
    refine lv_iconst (v := (1 : Int32)) hx hb dL_row_14 (by decide) ?_
    exact rtc_i X hR1 hS1 (Option.some.inj h) dL_row_15
  · obtain ⟨hn, rfl⟩ := hp
    have h := of_ocs hn h
    have hR1 : Rep cA D Λ u H1 := by rw [← ht]; exact hB
    obtain ⟨hg, h⟩ := of_guard h
    refine rw_last X hK hT hR1 hS1 k3 hg dL_row_8 (fun σ_1 H locs e_1 hR hS => ?_)
    have h := of_nm e_1 h
    refine lv_goto (tgt := 16) hx hb dL_row_9 (by decide) ?_
    refine lv_iconst (v := (0 : Int32)) hx hb dL_row_16 (by decide) ?_
    exact rtc_i X hR hS (Option.some.inj h) dL_row_17
set_option maxHeartbeats 4000000 in
set_option maxRecDepth 100000 in
theorem c_L_listed (l : Launch) (hlt : l.stackTraces = false) (cA : Nat → ClassId) (D : va_G) (Λ : Lay) (hT : TL Λ) (sa : Nat → Nat) (σ : Sto) (a0 : Nat) (l1 : Int32) (l2 : Int32) (a3 : Nat) (k0 : isK Λ a0 5) (k3 : isK Λ a3 8) {res : Int32 × Sto} (h : F_L_listed Λ σ a0 l1 l2 a3 = some res) : Met l yL_listed wsL_listed { frames := 7, cells := 1, slots := 6, locals := 114 } (va_Pc [.ref a0, .int l1, .int l2, .ref a3] (PX cA D Λ sa σ)) (QI cA D Λ res) 1 6 (dm Λ) := by
  refine ofWH (cc := cL_listed) (maxL := 5) (ret := (some .int)) (hh := [(0, 10, 13, 13)]) (by decide) rfl ?_
  intro p e s m args below meth c s₁ B hml htab hv
  obtain ⟨rfl, ⟨hR, hK⟩, hXK⟩ := hv
  have X : Cx cL_listed (some .int) 5 RL wsL_listed p s m _ meth c := ⟨B.exec, B.bytes, B.returns, hml, findClass_of_methodNamed B.named, atoms_spec (ws := wsL_listed) B.pre, B.notSynchronized⟩
  have hx := X.1
  have hb := X.2.1
  have hown := X.2.2.2.2.1
  have hts := X.2.2.2.2.2.1
  have hS : va_S (dm Λ) s.heap s.heap [] := va_S.rf
  have hl := lv_entry ([.ref a0, .int l1, .int l2, .ref a3]) (n := 5) (Nat.le_of_ble_eq_true rfl)
  rw [lg_entry_eq]
  generalize (lg_sl ([.ref a0, .int l1, .int l2, .ref a3]) ++ List.replicate (5 - (lg_sl ([.ref a0, .int l1, .int l2, .ref a3])).length) Slot.unset).toArray = ls at hl ⊢
  have hl : lv_has ls 5 [(0, .ref a0), (1, .int l1), (2, .int l2), (3, .ref a3)] := hl
  unfold F_L_listed at h
  obtain ⟨q, hq, h⟩ := of_bind h
  refine lv_aload_n hx hb dL_listed_0 rfl (lv_at hl 3 rfl) ?_
  refine lv_iconst (v := (0 : Int32)) hx hb dL_listed_1 (by decide) ?_
  refine lv_aload_n hx hb dL_listed_2 rfl (lv_at hl 0 rfl) ?_
  refine lv_iload_n hx hb dL_listed_3 rfl (lv_at hl 1 rfl) ?_
  refine lv_iload_n hx hb dL_listed_4 rfl (lv_at hl 2 rfl) ?_
  obtain ⟨qz, hqz⟩ := pl_at (f := ent cA Λ σ) k0.1
  rw [ent_o k0.2 (by decide)] at hqz
  refine vx_calli (vx_runV (As := [.int l1, .int l2]) (rest := [.int (0 : Int32), .ref a3]) (Ts := wsL_listed) ⟨X.1, X.2.1, X.2.2.2.1, X.2.2.2.2.1, X.2.2.2.2.2.1⟩ (c_X4_listed l hlt cA D Λ hT sa σ a0 l1 l2 k0 hq) (cwV 2 hts gL_listed_X4_listed rfl rfl rfl (by decide +kernel) ⟨Nat.le_of_ble_eq_true rfl, Nat.le_of_ble_eq_true rfl⟩) ⟨PX.blind, va_recv hK.1 hR (show vwCl[4]? = some (RX4, TX4, 8) from rfl) hqz, fun U hU hW1 => ⟨rfl, ⟨by rw [hU]; exact hR, hK.warm hW1⟩, by rw [hU]; exact hXK.warm hW1⟩⟩ rfl rfl hl.1 rfl (lv_room (Nat.le_of_ble_eq_true rfl)) dL_listed_5 ⟨Nat.le_of_ble_eq_true rfl, Nat.le_of_ble_eq_true rfl⟩) hS (fun _ _ h => h) (fun _ h => h) (fun _ _ h => h) (fun E ce q9 u t H1 locs1 ht hvm hp hB hz hk hS1 hce hcv hcl => ?_) (fun r u t H1 locs1 ht hvm hp hB hz hk hS1 => ?_)
  · obtain ⟨hn, rfl⟩ := hp
    obtain ⟨rfl, hR1⟩ := hB
    have h := of_ocn hn h
    rw [ht] at hR1
    refine cx_catch (own := RL) (name := NSE) hown ⟨0, 10, 13, 13⟩ htab (by decide) (by decide) (hts (.classLink RL 13 NSE) (by decide +kernel)) (va_Nw.use (ngW_ok _ ng_cast).2 (hXK.2.2.2.2.2 _ ng_cast)) hce hcv hcl ?_
    refine lv_astore (lv' := [(4, .ref q9), (0, .ref a0), (1, .int l1), (2, .int l2), (3, .ref a3)]) hx hb dL_listed_13 hl (by decide) rfl (fun ls hl => ?_)
    refine lv_iconst (v := (1 : Int32)) hx hb dL_listed_15 (by decide) ?_
    exact rtc_i X hR1 hS1 (Option.some.inj h) dL_listed_16
  · obtain ⟨hn, rfl⟩ := hp
    have h := of_ocs hn h
    have hR1 : Rep cA D Λ u H1 := by rw [← ht]; exact hB
    obtain ⟨hg, h⟩ := of_guard h
    refine lv_i2l (v := r.toInt64) hx hb dL_listed_8 rfl ?_
    refine rw_last X hK hT hR1 hS1 k3 hg dL_listed_9 (fun σ_1 H locs e_1 hR hS => ?_)
    have h := of_nm e_1 h
    refine lv_goto (tgt := 17) hx hb dL_listed_10 (by decide) ?_
    refine lv_iconst (v := (0 : Int32)) hx hb dL_listed_17 (by decide) ?_
    exact rtc_i X hR hS (Option.some.inj h) dL_listed_18
set_option maxHeartbeats 4000000 in
set_option maxRecDepth 100000 in
theorem c_L_told (l : Launch) (hlt : l.stackTraces = false) (cA : Nat → ClassId) (D : va_G) (Λ : Lay) (hT : TL Λ) (sa : Nat → Nat) (σ : Sto) (a0 : Nat) (l1 : Int32) (a2 : Nat) (k0 : isK Λ a0 5) (k2 : isK Λ a2 8) {res : Int32 × Sto} (h : F_L_told Λ σ a0 l1 a2 = some res) : Met l yL_told wsL_told { frames := 7, cells := 1, slots := 6, locals := 111 } (va_Pc [.ref a0, .int l1, .ref a2] (PX cA D Λ sa σ)) (QI cA D Λ res) 1 6 (dm Λ) := by
  refine ofWH (cc := cL_told) (maxL := 4) (ret := (some .int)) (hh := [(0, 9, 12, 13)]) (by decide) rfl ?_
  intro p e s m args below meth c s₁ B hml htab hv
  obtain ⟨rfl, ⟨hR, hK⟩, hXK⟩ := hv
  have X : Cx cL_told (some .int) 4 RL wsL_told p s m _ meth c := ⟨B.exec, B.bytes, B.returns, hml, findClass_of_methodNamed B.named, atoms_spec (ws := wsL_told) B.pre, B.notSynchronized⟩
  have hx := X.1
  have hb := X.2.1
  have hown := X.2.2.2.2.1
  have hts := X.2.2.2.2.2.1
  have hS : va_S (dm Λ) s.heap s.heap [] := va_S.rf
  have hl := lv_entry ([.ref a0, .int l1, .ref a2]) (n := 4) (Nat.le_of_ble_eq_true rfl)
  rw [lg_entry_eq]
  generalize (lg_sl ([.ref a0, .int l1, .ref a2]) ++ List.replicate (4 - (lg_sl ([.ref a0, .int l1, .ref a2])).length) Slot.unset).toArray = ls at hl ⊢
  have hl : lv_has ls 4 [(0, .ref a0), (1, .int l1), (2, .ref a2)] := hl
  unfold F_L_told at h
  obtain ⟨q, hq, h⟩ := of_bind h
  refine lv_aload_n hx hb dL_told_0 rfl (lv_at hl 2 rfl) ?_
  refine lv_iconst (v := (0 : Int32)) hx hb dL_told_1 (by decide) ?_
  refine lv_aload_n hx hb dL_told_2 rfl (lv_at hl 0 rfl) ?_
  refine lv_iload_n hx hb dL_told_3 rfl (lv_at hl 1 rfl) ?_
  obtain ⟨qz, hqz⟩ := pl_at (f := ent cA Λ σ) k0.1
  rw [ent_o k0.2 (by decide)] at hqz
  refine vx_calli (vx_runV (As := [.int l1]) (rest := [.int (0 : Int32), .ref a2]) (Ts := wsL_told) ⟨X.1, X.2.1, X.2.2.2.1, X.2.2.2.2.1, X.2.2.2.2.2.1⟩ (c_X4_told l hlt cA D Λ hT sa σ a0 l1 k0 hq) (cwV 1 hts gL_told_X4_told rfl rfl rfl (by decide +kernel) ⟨Nat.le_of_ble_eq_true rfl, Nat.le_of_ble_eq_true rfl⟩) ⟨PX.blind, va_recv hK.1 hR (show vwCl[4]? = some (RX4, TX4, 8) from rfl) hqz, fun U hU hW1 => ⟨rfl, ⟨by rw [hU]; exact hR, hK.warm hW1⟩, by rw [hU]; exact hXK.warm hW1⟩⟩ rfl rfl hl.1 rfl (lv_room (Nat.le_of_ble_eq_true rfl)) dL_told_4 ⟨Nat.le_of_ble_eq_true rfl, Nat.le_of_ble_eq_true rfl⟩) hS (fun _ _ h => h) (fun _ h => h) (fun _ _ h => h) (fun E ce q9 u t H1 locs1 ht hvm hp hB hz hk hS1 hce hcv hcl => ?_) (fun r u t H1 locs1 ht hvm hp hB hz hk hS1 => ?_)
  · obtain ⟨hn, rfl⟩ := hp
    obtain ⟨rfl, hR1⟩ := hB
    have h := of_ocn hn h
    rw [ht] at hR1
    refine cx_catch (own := RL) (name := NSE) hown ⟨0, 9, 12, 13⟩ htab (by decide) (by decide) (hts (.classLink RL 13 NSE) (by decide +kernel)) (va_Nw.use (ngW_ok _ ng_cast).2 (hXK.2.2.2.2.2 _ ng_cast)) hce hcv hcl ?_
    refine lv_astore_n (lv' := [(3, .ref q9), (0, .ref a0), (1, .int l1), (2, .ref a2)]) hx hb dL_told_12 rfl hl (by decide) rfl (fun ls hl => ?_)
    refine lv_iconst (v := (1 : Int32)) hx hb dL_told_13 (by decide) ?_
    exact rtc_i X hR1 hS1 (Option.some.inj h) dL_told_14
  · obtain ⟨hn, rfl⟩ := hp
    have h := of_ocs hn h
    have hR1 : Rep cA D Λ u H1 := by rw [← ht]; exact hB
    obtain ⟨hg, h⟩ := of_guard h
    refine lv_i2l (v := r.toInt64) hx hb dL_told_7 rfl ?_
    refine rw_last X hK hT hR1 hS1 k2 hg dL_told_8 (fun σ_1 H locs e_1 hR hS => ?_)
    have h := of_nm e_1 h
    refine lv_goto (tgt := 15) hx hb dL_told_9 (by decide) ?_
    refine lv_iconst (v := (0 : Int32)) hx hb dL_told_15 (by decide) ?_
    exact rtc_i X hR hS (Option.some.inj h) dL_told_16
